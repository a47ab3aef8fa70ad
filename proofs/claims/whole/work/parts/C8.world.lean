/-! THE WORLD: what was made, what each office has taken; one more act made -/
def NG (G : Nat → fo) : Nat := fK (G 0) 0 + fK (G 1) 1 + fK (G 2) 2
/-- an office, while it takes acts -/
def G1 (D : aD) (G : Nat → fo) (o : Nat) (F : fo) : Prop := Wf D o F ∧ OI D F ∧ (∀ i, i < 120 → tkn F i → fA F i = true ∧ stp D i / 3 ≤ fC F) ∧ (∀ i, fA F i = true → i / 40 = o → tkn F i) ∧ fC F ≤ NG G ∧ fK F o = fK (G o) o
def GW (D : aD) (G : Nat → fo) : Prop := Wd D ∧ WS D ∧ WK D ∧ WR D ∧ WQ D ∧ (∀ i, i < 120 → (AN D i ↔ tkn (G (i / 40)) i)) ∧ (∀ i r, D i = some r → stp D i % 3 = i / 40 ∧ stp D i / 3 ≤ NG G ∧ ∀ o, o < 3 → rpa r o ≤ fK (G o) o) ∧ ∀ o, o < 3 → G1 D G o (G o) ∧ fsr D (G o) = none
section WLD
variable {D : aD} {G : Nat → fo} {F F' : fo} {o o' i j l k kd p x y z : Nat} {r : rc}
theorem GW_tA (H : GW D G) (ho : o < 3) (hi : i < 120) (ht : tkn (G o) i) : AN D i := ((H.2.2.2.2.2.2.2 o ho).1.1).2.2.1 i ((H.2.2.2.2.2.2.2 o ho).1.2.2.1 i hi ht).1
/-- what a new act must be -/
def New (D : aD) (F : fo) (o i : Nat) (r : rc) : Prop := rst r = (fC F + 1) * 3 + o ∧ rpa r = fK F ∧ (∀ l, rl r = some l → l = i ∨ tkn F l) ∧ (∀ l, raf r = some l → tkn F l) ∧ (∀ l, rpl r = some l → l = i ∨ tkn F l) ∧ (∀ l, rrw r = some l → tkn F l) ∧ (∀ l, rcl r = some l → tkn F l) ∧ (∀ l, rpb r = some l → tkn F l) ∧ ∀ y, raf r = some y → rk r ≤ 2 ∧ lkd (up D i (some r)) (lnp (up D i (some r)) y) = lkd (up D i (some r)) (lnp (up D i (some r)) i)
theorem NG_up (ho : o < 3) (hk : fK F o = fK (G o) o + 1) : NG (up G o F) = NG G + 1 := by
  unfold NG
  have h : o = 0 ∨ o = 1 ∨ o = 2 := by omega
  rcases h with e | e | e
  · subst e
    rw [up_e, up_n (by omega), up_n (by omega)]
    omega
  · subst e
    rw [up_e, up_n (by omega), up_n (by omega)]
    omega
  · subst e
    rw [up_e, up_n (by omega), up_n (by omega)]
    omega
theorem NG_le (H : GW D G) : NG G ≤ 120 := by
  have h0 := (H.2.2.2.2.2.2.2 0 (by omega)).1.1.2.1 0
  have h1 := (H.2.2.2.2.2.2.2 1 (by omega)).1.1.2.1 1
  have h2 := (H.2.2.2.2.2.2.2 2 (by omega)).1.1.2.1 2
  unfold NG
  omega
theorem rdy_up {F : fo} (h : j ≠ i) : rdy (up D i (some r)) F j = rdy D F j := by unfold rdy; rw [up_n h]
theorem fsr_up (hD : D i = none) (hA : ∀ x, fA F x = true → AN D x) : fsr (up D i (some r)) F = fsr D F := by
  have hc : ∀ m, cnd (up D i (some r)) F m = cnd D F m := by
    intro m
    unfold cnd
    cases hf : fA F (40 * m + fK F m) with
    | false => simp
    | true => rw [rdy_up (ne_D hD (hA _ hf))]
  unfold fsr
  rw [hc, hc, hc]
theorem fsr_none (h : ∀ m, m < 3 → cnd D F m = false) : fsr D F = none := by
  unfold fsr
  rw [h 0 (by omega), h 1 (by omega), h 2 (by omega)]
  rfl
theorem fsr_cnd (h : fsr D F = none) : ∀ m, m < 3 → cnd D F m = false := by
  unfold fsr at h
  have h0 : cnd D F 0 = false := by
    cases e : cnd D F 0 with
    | false => rfl
    | true => rw [e, if_pos rfl] at h; cases h
  rw [h0, if_neg (by decide)] at h
  have h1 : cnd D F 1 = false := by
    cases e : cnd D F 1 with
    | false => rfl
    | true => rw [e, if_pos rfl] at h; cases h
  rw [h1, if_neg (by decide)] at h
  have h2 : cnd D F 2 = false := by
    cases e : cnd D F 2 with
    | false => rfl
    | true => rw [e, if_pos rfl] at h; cases h
  intro m hm
  have hm' : m = 0 ∨ m = 1 ∨ m = 2 := by omega
  rcases hm' with e | e | e
  · rw [e]; exact h0
  · rw [e]; exact h1
  · rw [e]; exact h2
theorem GW_rdy (H : GW D G) (ho : o < 3) (hm : fK (G o) o < 40) (hi : i = 40 * o + fK (G o) o) : D i = none ∧ i < 120 ∧ i / 40 = o ∧ i % 40 = fK (G o) o ∧ ¬ tkn (G o) i ∧ (fC (G o) + 1) * 3 + o < 400 := by
  have e1 : i / 40 = o := by omega
  have e2 : i % 40 = fK (G o) o := by omega
  have h1 : ¬ tkn (G o) i := by unfold tkn; rw [e1]; omega
  have hc := (H.2.2.2.2.2.2.2 o ho).1.2.2.2.2.1
  have hn := NG_le H
  refine ⟨?_, by omega, e1, e2, h1, by omega⟩
  cases e : D i with
  | none => rfl
  | some r =>
    have h2 := (H.2.2.2.2.2.1 i (by omega)).mp ⟨r, e⟩
    rw [e1] at h2
    exact absurd h2 h1
theorem GW_mk (H : GW D G) (ho : o < 3) (hm : fK (G o) o < 40) (hi : i = 40 * o + fK (G o) o) (W' : Wd (up D i (some r))) (hnew : New D (G o) o i r) : GW (up D i (some r)) (up G o (tkF (up D i (some r)) (G o) i)) := by
  obtain ⟨hD, hi2, e1, e2, hnt, hb⟩ := GW_rdy H ho hm hi
  have H' := H
  obtain ⟨W, hs, hwk, hwr, hwq, hmd, hst, hof⟩ := H'
  obtain ⟨v1, v2, v3, v4, v5, v6, v7, v9, v8⟩ := hnew
  obtain ⟨⟨Wf0, I0, t0, o0, c0, -⟩, f0⟩ := hof o ho
  have hii : up D i (some r) i = some r := up_e
  have hsi : stp (up D i (some r)) i = (fC (G o) + 1) * 3 + o := by rw [stp_e hii]; exact v1
  have hin : ∀ l, tkn (G o) l → inp r l := by
    intro l hl
    unfold inp
    rw [v2]
    exact hl
  have tAN : ∀ l, l < 120 → tkn (G o) l → AN D l := fun l h1 h2 => GW_tA H ho h1 h2
  have hs' : WS (up D i (some r)) := by
    constructor
    · intro x y hx hy e
      have key : ∀ x, x ≠ i → AN (up D i (some r)) x → stp (up D i (some r)) x ≠ (fC (G o) + 1) * 3 + o := by
        intro x hx ⟨q, hq⟩ e
        rw [up_n hx] at hq
        rw [stp_u hx] at e
        have h1 := hst x q hq
        have h2 : x / 40 = o := by omega
        have hx120 := (W x q hq).1
        have h3 := (hmd x hx120).mp ⟨q, hq⟩
        rw [h2] at h3
        have h4 := (t0 x hx120 h3).2
        omega
      by_cases ex : x = i
      · by_cases ey : y = i
        · rw [ex, ey]
        · rw [ex, hsi] at e
          exact absurd e.symm (key y ey hy)
      · by_cases ey : y = i
        · rw [ey, hsi] at e
          exact absurd e (key x ex hx)
        · rw [stp_u ex, stp_u ey] at e
          obtain ⟨qx, hqx⟩ := hx
          obtain ⟨qy, hqy⟩ := hy
          rw [up_n ex] at hqx
          rw [up_n ey] at hqy
          exact hs.1 x y ⟨qx, hqx⟩ ⟨qy, hqy⟩ e
    · intro x q y hq hy
      by_cases ex : x = i
      · subst ex
        rw [up_e] at hq
        cases hq
        have h1 := v4 y hy
        have h2 : y < 120 := by
          obtain ⟨q2, hq2, -⟩ := (W' x r hii).2.2.2.2.2.2.2.2.1 y hy
          exact (W' y q2 hq2).1
        have h3 := ne_D hD (tAN y h2 h1)
        have h4 := (t0 y h2 h1).2
        rw [stp_u h3, hsi]
        omega
      · rw [up_n ex] at hq
        have h3 := ne_D hD (PN_AN ((W x q hq).2.2.2.2.2.2.2.2.1 y hy))
        rw [stp_u ex, stp_u h3]
        exact hs.2 x q y hq hy
  have hwk' : WK (up D i (some r)) := by
    intro x q y hq hy
    by_cases ex : x = i
    · subst ex
      rw [up_e] at hq
      cases hq
      exact v8 y hy
    · rw [up_n ex] at hq
      have hyp := (W x q hq).2.2.2.2.2.2.2.2.1 y hy
      have h3 := ne_D hD (PN_AN hyp)
      have h4 := ne_D hD (LN_AN (lnp_LN W hyp).2)
      rw [lnp_u h3, lnp_u ex, lkd_u h4]
      have h6 := hwk x q y hq hy
      have h5 := ne_D hD (LN_AN (act_l0 W hq (by have := h6.1; omega)).1)
      rw [lkd_u h5]
      exact h6
  have hwr' : WR (up D i (some r)) := by
    intro x q hq
    by_cases ex : x = i
    · subst ex
      rw [up_e] at hq
      cases hq
      rw [v2, e1, e2]
    · rw [up_n ex] at hq
      exact hwr x q hq
  have hwq' : WQ (up D i (some r)) := by
    intro x q hq
    by_cases ex : x = i
    · subst ex
      rw [up_e] at hq
      cases hq
      exact ⟨fun l e => (v3 l e).imp id (hin l), fun l e => hin l (v4 l e), fun l e => (v5 l e).imp id (hin l), fun l e => hin l (v6 l e), fun l e => hin l (v7 l e), fun l e => hin l (v9 l e)⟩
    · rw [up_n ex] at hq
      exact hwq x q hq
  have Wf1 : Wf (up D i (some r)) o (G o) := Wf_up hD Wf0
  have I1 : OI (up D i (some r)) (G o) := OI_up W hD hnt tAN Wf0 I0
  have hn : i % 40 = fK (G o) (i / 40) := by rw [e1]; exact e2
  have hrd : rdy (up D i (some r)) (G o) i = true := by
    unfold rdy
    rw [hii]
    simp only [Option.elim_some, v2]
    simp
  have I2 : OI (up D i (some r)) (tkF (up D i (some r)) (G o) i) := OI_tk W' hs' hwk' hwq' Wf1 I1 hii hn hrd
  obtain ⟨N2, Wf2, -, -⟩ := WN_tk W' Wf1 I1.1 hii hn
  have hKo : fK (tkF (up D i (some r)) (G o) i) o = fK (G o) o + 1 := by rw [tkF_K, e1, up_e, e2]
  have hNG : NG (up G o (tkF (up D i (some r)) (G o) i)) = NG G + 1 := NG_up ho hKo
  have hK1 : ∀ m, m < 3 → fK (G m) m ≤ fK (up G o (tkF (up D i (some r)) (G o) i) m) m := by
    intro m hm
    by_cases e : m = o
    · subst e
      rw [up_e, hKo]
      omega
    · rw [up_n e]
      exact Nat.le_refl _
  refine ⟨W', hs', hwk', hwr', hwq', fun j hj => ?_, fun j q hq => ?_, fun m hm => ?_⟩
  · by_cases ej : j / 40 = o
    · rw [ej, up_e, tkn_tk hn]
      constructor
      · rintro ⟨q, hq⟩
        by_cases e : j = i
        · exact Or.inr e
        · rw [up_n e] at hq
          have := (hmd j hj).mp ⟨q, hq⟩
          rw [ej] at this
          exact Or.inl this
      · rintro (g | g)
        · exact AN_up hD (tAN j hj g)
        · rw [g]; exact ⟨r, hii⟩
    · rw [up_n ej, ← hmd j hj]
      constructor
      · rintro ⟨q, hq⟩
        have e : j ≠ i := by intro e; rw [e] at ej; exact ej e1
        rw [up_n e] at hq
        exact ⟨q, hq⟩
      · exact fun g => AN_up hD g
  · rw [hNG]
    by_cases e : j = i
    · subst e
      rw [up_e] at hq
      cases hq
      rw [hsi]
      refine ⟨by omega, by omega, fun m hm => ?_⟩
      rw [v2]
      have h1 := hK1 m hm
      by_cases em : m = o
      · subst em; exact h1
      · have h2 : fK (G o) m ≤ fK (G m) m := by
          rcases Nat.lt_or_ge (fK (G m) m) (fK (G o) m) with g | g
          · exfalso
            have hk40 := Wf0.2.1 m
            have h3 : tkn (G o) (40 * m + fK (G m) m) := by
              unfold tkn
              rw [show (40 * m + fK (G m) m) / 40 = m by omega, show (40 * m + fK (G m) m) % 40 = fK (G m) m by omega]
              exact g
            have h4 := (hmd _ (by omega)).mp (tAN _ (by omega) h3)
            unfold tkn at h4
            rw [show (40 * m + fK (G m) m) / 40 = m by omega, show (40 * m + fK (G m) m) % 40 = fK (G m) m by omega] at h4
            omega
          · exact g
        omega
    · rw [up_n e] at hq
      obtain ⟨g1, g2, g3⟩ := hst j q hq
      rw [stp_u e]
      exact ⟨g1, by omega, fun m hm => Nat.le_trans (g3 m hm) (hK1 m hm)⟩
  · by_cases em : m = o
    · subst em
      rw [up_e]
      refine ⟨⟨Wf2, I2, fun j hj ht => ?_, fun j hj hjo => ?_, ?_, by rw [up_e]⟩, ?_⟩
      · rw [tkF_A, tkF_C, hsi]
        rcases (tkn_tk hn).mp ht with g | g
        · have hne := ne_D hD (tAN j hj g)
          obtain ⟨g1, g2⟩ := t0 j hj g
          rw [up_n hne, stp_u hne]
          exact ⟨g1, by omega⟩
        · subst g
          rw [up_e, hsi]
          exact ⟨rfl, by omega⟩
      · rw [tkF_A] at hj
        rw [tkn_tk hn]
        by_cases e : j = i
        · exact Or.inr e
        · rw [up_n e] at hj
          exact Or.inl (o0 j hj hjo)
      · rw [tkF_C, hsi, hNG]
        omega
      · refine fsr_none (fun q hq => ?_)
        have hc := fsr_cnd f0 q hq
        unfold cnd at hc ⊢
        rw [tkF_K, tkF_A]
        by_cases e : q = m
        · subst e
          rw [e1, up_e, e2]
          by_cases hge40' : 40 ≤ fK (G q) q + 1
          · rw [decide_eq_false (show ¬ fK (G q) q + 1 < 40 by omega)]
            rfl
          have hge40 : ¬ 40 ≤ fK (G q) q + 1 := hge40'
          have hna : up (fA (G q)) i true (40 * q + (fK (G q) q + 1)) = false := by
            rw [up_n (by omega)]
            cases g : fA (G q) (40 * q + (fK (G q) q + 1)) with
            | false => rfl
            | true =>
              have hk40 := Wf0.2.1 q
              obtain ⟨q2, hq2⟩ := Wf0.2.2.1 _ g
              have h120 := (W _ q2 hq2).1
              rcases Nat.lt_or_ge (fK (G q) q + 1) 40 with hlt | hge
              · have h1 := o0 _ g (by omega)
                unfold tkn at h1
                rw [show (40 * q + (fK (G q) q + 1)) / 40 = q by omega, show (40 * q + (fK (G q) q + 1)) % 40 = fK (G q) q + 1 by omega] at h1
                omega
              · exfalso
                exact hge40 hge
          rw [hna]
          simp
        · rw [e1, up_n e]
          cases hlt : decide (fK (G m) q < 40) with
          | false => simp
          | true =>
            rw [hlt] at hc
            have hne : 40 * q + fK (G m) q ≠ i := by
              have := of_decide_eq_true hlt
              omega
            rw [up_n hne]
            cases g : fA (G m) (40 * q + fK (G m) q) with
            | false => simp
            | true =>
              rw [g] at hc
              simp only [Bool.true_and] at hc ⊢
              obtain ⟨q2, hq2⟩ := Wf0.2.2.1 _ g
              have hp := (hst _ q2 hq2).2.2 m ho
              cases g3 : rdy (up D i (some r)) (tkF (up D i (some r)) (G m) i) (40 * q + fK (G m) q) with
              | false => rfl
              | true =>
                exfalso
                have hq3 : up D i (some r) (40 * q + fK (G m) q) = some q2 := by rw [up_n hne]; exact hq2
                have hle := rdy_le hq3 g3
                have : rdy D (G m) (40 * q + fK (G m) q) = true := by
                  refine rdy_of hq2 (fun j hj => ?_)
                  by_cases ej : j = m
                  · rw [ej]; exact hp
                  · have h5 := hle j hj
                    rw [tkF_K, e1, up_n ej] at h5
                    exact h5
                rw [this] at hc
                cases hc
    · rw [up_n em]
      obtain ⟨⟨a1, a2, a3, a4, a5, a6⟩, a7⟩ := hof m hm
      have hntm : ¬ tkn (G m) i := by
        intro g
        obtain ⟨q, hq⟩ := GW_tA H hm hi2 g
        rw [hD] at hq
        cases hq
      refine ⟨⟨Wf_up hD a1, OI_up W hD hntm (fun j h1 h2 => GW_tA H hm h1 h2) a1 a2, fun j hj ht => ?_, a4, by rw [hNG]; omega, by rw [up_n em]⟩, by rw [fsr_up hD a1.2.2.1]; exact a7⟩
      have hne := ne_D hD (GW_tA H hm hj ht)
      rw [stp_u hne]
      exact a3 j hj ht
end WLD
