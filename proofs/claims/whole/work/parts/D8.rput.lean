/-! THE REFERENCE makes an act; its put -/
section RPT
variable {D : aD} {G : Nat → fo} {F : fo} {S S' S8 : rs_S} {X : ax} {o i j l k m n c p : Nat} {r : rc} {a1 a2 a3 a : Int32} {q : Option Nat} {L : List Nat}
theorem shl_in : ∀ (L : List Nat) (s : List Nat × (Nat → Int32)), ∀ l ∈ (shl D X L s).1, l ∈ s.1 ∨ ∃ p ∈ L, lnp D p = l ∧ plc D X l = some p ∧ thr D X l = true
  | [], s, l, h => Or.inl h
  | p :: L, s, l, h => by
    have h' : l ∈ (shl D X L (shs D X s p)).1 := h
    rcases shl_in L (shs D X s p) l h' with g | ⟨p', g1, g2⟩
    · unfold shs at g
      by_cases z : plc D X (lnp D p) = some p ∧ thr D X (lnp D p) = true
      · rw [if_pos z] at g
        rcases List.mem_append.mp g with y | y
        · exact Or.inl y
        · rw [List.mem_singleton.mp y]
          exact Or.inr ⟨p, List.mem_cons_self, rfl, z.1, z.2⟩
      · rw [if_neg z] at g
        exact Or.inl g
    · exact Or.inr ⟨p', List.mem_cons_of_mem _ g1, g2⟩
/-- a line that is shown: taken, and so are its place and what it rests on -/
theorem shn (I : OI D F) (hk : k < 2) (hl : l ∈ xS (fX F k)) : ∃ p, p ∈ xO (fX F k) ∧ lnp D p = l ∧ plc D (fX F k) l = some p ∧ p < 120 ∧ tkn F p ∧ PN D p ∧ lkd D l = k := by
  obtain ⟨x1, x2, x3, -⟩ := I.2.2.2 k hk
  rw [x3] at hl
  rcases shl_in (xO (fX F k)) ([], fun _ => -1) l hl with g | ⟨p, g1, g2, g3, -⟩
  · cases g
  · obtain ⟨h1, h2, h3, h4⟩ := (x1.1 p).mp g1
    exact ⟨p, g1, g2, g3, h1, h2, h3, by rw [← g2]; exact h4⟩
theorem q241 (R : RT D o F S) (W : Wd D) (hs : WS D) (I : OI D F) (Wff : Wf D o F) (hk : k < 2) (e : pq D (fX F k) a = some q) : rf_241 (Int32.ofNat o) (Int32.ofNat k) a S = some (oi q, S) := by
  obtain ⟨RO', hT, hSH, hw⟩ := R
  have ho := RO'.1
  have Wc := Wff.2.2.2.2.2.2 k hk
  unfold pq at e
  unfold rf_241
  by_cases z : a = -1
  · rw [if_pos z] at e
    cases e
    rw [z, if_neg (by decide)]
    rfl
  · rw [if_neg z] at e
    cases g : la_ix a (xS (fX F k)).length with
    | none => rw [g] at e; cases e
    | some j =>
      obtain ⟨rfl, hj⟩ := ix_s (by have := Wc.2.2.2.2.2; omega) g
      rw [g] at e
      have eq : plc D (fX F k) ((xS (fX F k)).getD j 0) = q := Option.some.inj e
      have hle := Wc.2.2.2.2.2
      have hmem := gl_mem hj
      have hLN := Wc.2.1 _ hmem
      obtain ⟨p, h1, h2, h3, h4, h5, h6, h7⟩ := shn I hk hmem
      obtain ⟨x1, x2, x3, -⟩ := I.2.2.2 k hk
      obtain ⟨e1, -⟩ := q243x RO' W hs x2 hLN h7
      rw [if_pos (show (0 : Int32) ≤ Int32.ofNat j from (i32_len (a := 0) (by omega) (by omega)).mpr (Nat.zero_le _)), q242 ho hk (hSH k hk) hle hj]
      try rw [rb_r]
      show rb (rf_243 (Int32.ofNat o) (Int32.ofNat ((xS (fX F k)).getD j 0)) (1 : Int32) S) _ = _
      rw [e1]
      cases hc : xP (fX F k) ((xS (fX F k)).getD j 0) with
      | none =>
        unfold plc at h3
        rw [hc] at h3
        cases h3
      | some c1 =>
        have hq := (x2 ((xS (fX F k)).getD j 0)).1
        rw [hc] at hq
        obtain ⟨⟨b1, b2, b3⟩, -⟩ := hq
        unfold qL at b2
        simp only [Bool.and_eq_true] at b2
        obtain ⟨r1, hr1⟩ := RO'.2.2.2.2 c1 b1 (tkB_t.mp b2.1)
        rw [knd_e hr1] at b2
        have hk3 : rk r1 ≤ 3 := by
          have := b2.2.1
          unfold spk at this
          simp at this
          omega
        try rw [rb_r]
        show (rd_I S 7 (Int32.ofNat c1)).bind _ = _
        rw [rdI (n := 120) (by decide) b1 (by omega), Option.bind_some, (RO'.2.1 c1 r1 hr1).2.2.2.2.2.2.1 hk3]
        unfold plc at eq
        rw [hc, Option.bind_some, hr1] at eq
        have eq' : rpl r1 = q := eq
        rw [eq']
/-- the reference's rows with one more act -/
theorem RD_new (W : Wd D) (R : RD D S) (hD : D i = none) (sb : Sb i S S8) (hr : RD (up D i (some r)) S8 ∨ (S8.2.1 1 i = Int32.ofNat (rk r) ∧ S8.2.1 3 i = Int32.ofNat (rst r / 3) ∧ rst r % 3 = i / 40 ∧ (∀ j, j < 3 → S8.2.1 4 (3 * i + j) = Int32.ofNat (rpa r j)) ∧ (rk r ≠ 6 → S8.2.1 5 i = Int32.ofNat (lnp (up D i (some r)) i) ∧ S8.2.1 2 i = Int32.ofNat (lkd (up D i (some r)) (lnp (up D i (some r)) i))) ∧ (rk r = 6 → S8.2.1 5 i = Int32.ofNat (rwo (up D i (some r)) i) ∧ S8.2.1 6 i = Int32.ofNat (clo (up D i (some r)) i)) ∧ (rk r ≤ 3 → S8.2.1 7 i = oi (rpl r)) ∧ (rk r ≤ 2 → S8.2.1 8 i = oi (raf r)) ∧ (rk r = 2 ∨ rk r = 3 → S8.2.1 9 i = oi (rpb r)))) : RD (up D i (some r)) S8 := by
  rcases hr with h | hr
  · exact h
  · intro j q hq
    by_cases e : j = i
    · subst e
      rw [up_e] at hq
      cases hq
      exact hr
    · rw [up_n e] at hq
      obtain ⟨d1, d2, d3, d4, d5, d6, d7, d8, d9⟩ := R j q hq
      have u : ∀ {a}, a ≠ 4 → S8.2.1 a j = S.2.1 a j := fun {a} ha => sb.2.2 a j (fun g => e g.2.2.2) (fun g => ha g.1)
      rw [u (by omega), u (by omega), u (by omega), u (by omega), u (by omega), u (by omega), u (by omega), u (by omega)]
      refine ⟨d1, d2, d3, fun m hm => ?_, fun h6 => ?_, fun h6 => ?_, d7, d8, d9⟩
      · rw [sb.2.2 4 (3 * j + m) (fun g => g.2.2.1 rfl) (fun g => e (by have := g.2; omega))]
        exact d4 m hm
      · rw [lnp_u e, lkd_u (ne_D hD (LN_AN (act_l0 W hq h6).1))]
        exact d5 h6
      · have e1 : rwo (up D i (some r)) j = rwo D j := by unfold rwo; rw [up_n e]
        have e2 : clo (up D i (some r)) j = clo D j := by unfold clo; rw [up_n e]
        rw [e1, e2]
        exact d6 h6
/-- all offices, when one has made and taken an act -/
theorem RT_mk (H : GW D G) (ho : o < 3) (hm : fK (G o) o < 40) (hi : i = 40 * o + fK (G o) o) (H' : GW (up D i (some r)) (up G o (tkF (up D i (some r)) (G o) i))) (hR : ∀ m, m < 3 → RT D m (G m) S) (sb : Sb i S S8) (hRD : RD (up D i (some r)) S8) : ∃ S', rf_247 (Int32.ofNat o) (Int32.ofNat i) S8 = some ((), S') ∧ (∀ m, m < 3 → RT (up D i (some r)) m (up G o (tkF (up D i (some r)) (G o) i) m) S') ∧ Sk o S8 S' := by
  obtain ⟨hD, hi2, e1, e2, hnt, hb⟩ := GW_rdy H ho hm hi
  have hii : up D i (some r) i = some r := up_e
  have fr : ∀ a j, 12 ≤ a → S8.2.1 a j = S.2.1 a j := fun a j ha => sb.2.2 a j (fun g => by omega) (fun g => by omega)
  have hRO : ∀ m, m < 3 → RO (up D i (some r)) m (G m) S8 := by
    intro m hm
    obtain ⟨⟨a1, a2, a3, a4, a5⟩, -⟩ := hR m hm
    exact ⟨a1, hRD, fun j hj => by rw [fr 16 _ (by omega)]; exact a3 j hj, a4, fun x hx ht => AN_up hD (a5 x hx ht)⟩
  obtain ⟨-, hT, hSH, hw⟩ := hR o ho
  obtain ⟨⟨Wf2, I2, -⟩, -⟩ := H'.2.2.2.2.2.2.2 o ho
  rw [up_e] at Wf2 I2
  obtain ⟨S', g1, g2, g3, g4, g5⟩ := q247 (hRO o ho) H'.1 H'.2.1 H'.2.2.1 hii hi2 rfl (by rw [e1]; exact e2) (H.2.2.2.2.2.2.2 o ho).1.1.2.2.2.2.2.1 (by rw [fr 17 _ (by omega)]; exact hT) I2 Wf2
  refine ⟨S', g1, fun m hm => ?_, g5⟩
  have wt18 : ∀ j, S'.2.1 18 j = S.2.1 18 j := fun j => by
    rw [g5.2.2.2 18 j (fun e => by have := e.1; omega) (fun e => by have := e.1; omega) (fun e => by have := e.1; omega) (fun e => by have := e.1; omega)]
    exact fr 18 j (by omega)
  by_cases em : m = o
  · subst em
    rw [up_e]
    refine ⟨g2, g3, g4, fun j hj => ?_⟩
    rw [wt18, hw j hj]
    have hn : i % 40 = fK (G m) (i / 40) := by rw [e1]; exact e2
    unfold wtB
    rw [tkF_A]
    by_cases e : j = i
    · subst e
      have t1 : tkB (tkF (up D j (some r)) (G m) j) j = true := (tkB_tk hn).mpr (Or.inr rfl)
      have t2 : fA (G m) j = false := by
        cases g : fA (G m) j with
        | false => rfl
        | true =>
          obtain ⟨q, hq⟩ := (H.2.2.2.2.2.2.2 m ho).1.1.2.2.1 j g
          rw [hD] at hq
          cases hq
      rw [t1, t2, up_e]
      rfl
    · rw [up_n e]
      have : tkB (tkF (up D i (some r)) (G m) i) j = tkB (G m) j := by
        cases g : tkB (G m) j with
        | true => exact (tkB_tk hn).mpr (Or.inl g)
        | false =>
          cases g2 : tkB (tkF (up D i (some r)) (G m) i) j with
          | false => rfl
          | true =>
            rcases (tkB_tk hn).mp g2 with q | q
            · exact absurd q (by rw [g]; decide)
            · exact absurd q e
      rw [this]
  · rw [up_n em]
    obtain ⟨-, hT', hSH', hw'⟩ := hR m hm
    obtain ⟨b1, b2, b3, b4, b5⟩ := hRO m hm
    have fs : ∀ a j, ¬ (a = 16 ∧ 3 * o ≤ j ∧ j < 3 * o + 3) → ¬ (a = 17 ∧ j = o) → ¬ (a = 20 ∧ 2 * o ≤ j ∧ j < 2 * o + 2) → ¬ (a = 19 ∧ 240 * o ≤ j ∧ j < 240 * o + 240) → S'.2.1 a j = S8.2.1 a j := g5.2.2.2
    refine ⟨⟨b1, RD_n (fun n j h1 h2 h3 h4 h5 => fs n j (fun e => h1 e.1) (fun e => h2 e.1) (fun e => h5 e.1) (fun e => h4 e.1)) b2, fun j hj => ?_, b4, b5⟩, ?_, fun k hk => ?_, fun j hj => ?_⟩
    · rw [fs 16 _ (fun e => by have := e.2; omega) (fun e => by have := e.1; omega) (fun e => by have := e.1; omega) (fun e => by have := e.1; omega)]
      exact b3 j hj
    · rw [fs 17 _ (fun e => by have := e.1; omega) (fun e => em e.2) (fun e => by have := e.1; omega) (fun e => by have := e.1; omega), fr 17 _ (by omega)]
      exact hT'
    · obtain ⟨s1, s2⟩ := hSH' k hk
      have hle := ((H.2.2.2.2.2.2.2 m hm).1.1.2.2.2.2.2.2 k hk).2.2.2.2.2
      refine ⟨?_, fun j hj => ?_⟩
      · rw [fs 20 _ (fun e => by have := e.1; omega) (fun e => by have := e.1; omega) (fun e => by have := e.2; omega) (fun e => by have := e.1; omega), fr 20 _ (by omega)]
        exact s1
      · rw [fs 19 _ (fun e => by have := e.1; omega) (fun e => by have := e.1; omega) (fun e => by have := e.1; omega) (fun e => by have := e.2; omega), fr 19 _ (by omega)]
        exact s2 j hj
    · rw [wt18]
      exact hw' j hj
end RPT
