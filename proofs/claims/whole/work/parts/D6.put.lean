/-! PUT -/
def ec (c : Nat) : Nat := if c = 1 then 14 else if c = 2 then 16 else 15
/-- a place to be behind: NONE is the beginning -/
def pq (D : aD) (X : ax) (a : Int32) : Option (Option Nat) := if a = -1 then some none else (la_ix a (xS X).length).map (fun j => plc D X ((xS X).getD j 0))
def pdc (D : aD) (G : Nat → fo) (a1 a2 a3 : Int32) : Nat ⊕ (Nat × Nat × Option Nat) := (la_ix a1 3).elim (.inl 1) (fun o => (la_ix a2 2).elim (.inl 1) (fun k => (pq D (fX (G o) k) a3).elim (.inl 2) (fun q => if fK (G o) o < 40 ∧ (xS (fX (G o) k)).length < (if k = 0 then 9 else 5) then .inr (o, k, q) else .inl 3)))
section PUT
variable {A : ah} {h : pm_H} {M : aM} {D : aD} {G : Nat → fo} {F : fo} {S : rs_S} {X : ax} {o i j l k m n c : Nat} {r : rc} {a1 a2 a3 a : Int32} {w q : Option Nat}
theorem c83p (R : ar A h) (C : Cx M A c X) (V : Cd M A D) (W : Wd D) (Wxx : Wx D X) : ll_83 (some c) a h = (pq D X a).elim (tw h 16) (fun q => rtR (q.map (M 2)) h) := by
  rw [c83 R C V W Wxx]
  unfold pq
  by_cases e : a = -1
  · rw [if_pos e, if_pos e]; rfl
  · rw [if_neg e, if_neg e]
    cases la_ix a (xS X).length <;> rfl
theorem pq_PN (W : Wd D) (Wxx : Wx D X) (e : pq D X a = some q) : ∀ p, q = some p → PN D p := by
  intro p hp
  subst hp
  unfold pq at e
  by_cases z : a = -1
  · rw [if_pos z] at e; cases e
  · rw [if_neg z] at e
    cases g : la_ix a (xS X).length with
    | none => rw [g] at e; cases e
    | some j =>
      rw [g] at e
      exact plc_PN W Wxx (Option.some.inj e)
/-- the state of the class's cells with one more act made -/
theorem CW_mk (C : CW M A D G) (H : GW D G) (R : ar A h) (ho : o < 3) {i : Nat} {r : rc} {kk jj : Nat} {P : aM → pm_H → Prop} (hD : D i = none) (K : Mk M A D o (G o) i r kk jj P) : ∃ M' A' h', P M' h' ∧ ar A' h' ∧ CW M' A' (up D i (some r)) (up G o (tkF (up D i (some r)) (G o) i)) ∧ st A A' (blk o) kk jj ∧ Wd (up D i (some r)) ∧ Mag M M' D := by
  obtain ⟨M', A', h', k1, k2, k3, k4, k5, k6, k7⟩ := K
  obtain ⟨B, V, Cf', hn⟩ := C
  refine ⟨M', A', h', k1, k2, ⟨Cb_st B R k6 (by intro x hx; rw [blk_m] at hx; omega), k3, fun m hm => ?_, Nat.le_trans hn k6.1⟩, k6, k7, k4⟩
  by_cases e : m = o
  · subst e
    rw [up_e]
    exact k5
  · rw [up_n e]
    exact Cf_M k4 ((H.2.2.2.2.2.2.2 m hm).1.1) (Cf_st (Cf' m hm) R k6 (by intro x hx; rw [blk_m] at hx; omega))
theorem Rdy_of (H : GW D G) (ho : o < 3) (hm : fK (G o) o < 40) : Rdy D o (G o) (40 * o + fK (G o) o) := by
  obtain ⟨g1, g2, g3, g4, g5, g6⟩ := GW_rdy H ho hm rfl
  exact ⟨hm, rfl, g1, g6⟩
theorem ord_120 (H : GW D G) (ho : o < 3) (hm : fK (G o) o < 40) : (∀ k, k < 2 → (xO (fX (G o) k)).length < 120) ∧ (fW (G o)).length < 120 := by
  obtain ⟨g1, g2, g3, g4, g5, g6⟩ := GW_rdy H ho hm rfl
  obtain ⟨⟨Wff, I, -⟩, -⟩ := H.2.2.2.2.2.2.2 o ho
  have hlt : ∀ x, AN D x → x < 120 := fun x ⟨q, hq⟩ => (H.1 x q hq).1
  refine ⟨fun k hk => nd_lt (I.1.1 k hk).1 (fun x hx => hlt x (PN_AN ((Wff.2.2.2.2.2.2 k hk).1 x hx))) g2 (fun z => g5 ((I.1.1 k hk).2 _ z)), nd_lt I.1.2.1 (fun x hx => hlt x ⟨(Wff.2.2.2.1 x hx).choose, (Wff.2.2.2.1 x hx).choose_spec.1⟩) g2 (fun z => g5 (I.1.2.2 _ z))⟩
theorem c80t (R : ar A h) (C : CW M A D G) (H : GW D G) (e : pdc D G a1 a2 a3 = .inl c) : ll_80 w (some 81) a1 a2 a3 h = tw h (ec c) := by
  obtain ⟨B, V, Cf', -⟩ := C
  unfold pdc at e
  unfold ll_80
  rw [if_pos (hc_lc (ar_c R B.1)), c81 R B]
  cases e1 : la_ix a1 3 with
  | none =>
    rw [e1] at e
    cases e
    exact tw_R
  | some o =>
    obtain ⟨-, ho⟩ := ix_s (by omega) e1
    rw [e1] at e
    show lb_R (ll_82 (some (94 + 17 * o)) a2 h) _ = _
    rw [c82 R (Cf' o ho)]
    cases e2 : la_ix a2 2 with
    | none =>
      simp only [Option.elim_some, e2, Option.elim_none] at e
      cases e
      exact tw_R
    | some k =>
      obtain ⟨hk2, hk⟩ := ix_s (by omega) e2
      have Cc := (Cf' o ho).2.2.2.2.2 k hk
      have Wo := (H.2.2.2.2.2.2.2 o ho).1.1
      have Wc := Wo.2.2.2.2.2.2 k hk
      simp only [Option.elim_some, e2] at e
      show lb_R (ll_83 (some (94 + 17 * o + 5 + 6 * k)) a3 h) _ = _
      rw [c83p R Cc V H.1 Wc]
      cases e3 : pq D (fX (G o) k) a3 with
      | none =>
        simp only [e3, Option.elim_none] at e
        cases e
        exact tw_R
      | some q =>
        simp only [e3, Option.elim_some] at e
        show lb_V (ll_91 (some (94 + 17 * o)) h) _ = _
        rw [c91 R (Cf' o ho) ho (Wo.2.1 o)]
        by_cases z1 : fK (G o) o < 40
        · rw [if_pos z1]
          by_cases z2 : (xS (fX (G o) k)).length < (if k = 0 then 9 else 5)
          · rw [if_pos ⟨z1, z2⟩] at e; cases e
          · rw [if_neg (fun g => z2 g.2)] at e
            cases e
            have hle := Wc.2.2.2.2.2
            show (if lc_of h (some (94 + 17 * o + 5 + 6 * k)) = some 5 then _ else _) = _
            rw [if_pos (hc_lc (ar_c R Cc.1)), c85 R Cc, rt_I, hk2]
            have hk' : k = 0 ∨ k = 1 := by omega
            rcases hk' with g | g
            · subst g
              rw [if_pos (by decide)]
              unfold l80_43
              rw [if_neg (show ¬ Int32.ofNat (xS (fX (G o) 0)).length < (9 : Int32) from fun y => z2 ((i32_ltn (b := 9) (by omega) (by omega)).mp y))]
              rfl
            · subst g
              rw [if_neg (by decide)]
              unfold l80_43
              rw [if_neg (show ¬ Int32.ofNat (xS (fX (G o) 1)).length < (5 : Int32) from fun y => z2 ((i32_ltn (b := 5) (by omega) (by omega)).mp y))]
              rfl
        · rw [if_neg z1]
          rw [if_neg (fun g => z1 g.1)] at e
          cases e
          exact tw_V
theorem pdc_r (e : pdc D G a1 a2 a3 = .inr (o, k, q)) : a1 = Int32.ofNat o ∧ o < 3 ∧ a2 = Int32.ofNat k ∧ k < 2 ∧ pq D (fX (G o) k) a3 = some q ∧ fK (G o) o < 40 ∧ (xS (fX (G o) k)).length < (if k = 0 then 9 else 5) := by
  unfold pdc at e
  cases e1 : la_ix a1 3 with
  | none => rw [e1] at e; cases e
  | some o' =>
    obtain ⟨h1, ho⟩ := ix_s (by omega) e1
    rw [e1] at e
    cases e2 : la_ix a2 2 with
    | none => simp only [Option.elim_some, e2, Option.elim_none] at e; cases e
    | some k' =>
      obtain ⟨h2, hk⟩ := ix_s (by omega) e2
      simp only [Option.elim_some, e2] at e
      cases e3 : pq D (fX (G o') k') a3 with
      | none => simp only [e3, Option.elim_none] at e; cases e
      | some q' =>
        simp only [e3, Option.elim_some] at e
        by_cases z : fK (G o') o' < 40 ∧ (xS (fX (G o') k')).length < (if k' = 0 then 9 else 5)
        · rw [if_pos z] at e
          cases e
          exact ⟨h1, ho, h2, hk, e3, z.1, z.2⟩
        · rw [if_neg z] at e; cases e
theorem c80s (R : ar A h) (C : CW M A D G) (H : GW D G) (e : pdc D G a1 a2 a3 = .inr (o, k, q)) (hi : i = 40 * o + fK (G o) o) : ∃ M' A' h', ll_80 w (some 81) a1 a2 a3 h = rtI (Int32.ofNat (told i)) h' ∧ ar A' h' ∧ CW M' A' (up D i (some (rP o (G o) i k q))) (up G o (tkF (up D i (some (rP o (G o) i k q))) (G o) i)) ∧ st A A' (blk o) 4 21 ∧ Wd (up D i (some (rP o (G o) i k q))) ∧ Mag M M' D := by
  obtain ⟨h1, ho, h2, hk, h3, hm, hcnt⟩ := pdc_r e
  have C' := C
  obtain ⟨B, V, Cf', hn⟩ := C'
  have Wo := (H.2.2.2.2.2.2.2 o ho).1.1
  have Wc := Wo.2.2.2.2.2.2 k hk
  have Cc := (Cf' o ho).2.2.2.2.2 k hk
  have hrd := Rdy_of H ho hm
  rw [← hi] at hrd
  have K := c93 (w := w) R B (Cf' o ho) V H.1 Wo hn hrd hk (pq_PN H.1 Wc h3) (ord_120 H ho hm).1
  obtain ⟨M', A', h', k1, k2, k3, k4, k5, k6⟩ := CW_mk C H R ho hrd.2.2.1 K
  refine ⟨M', A', h', ?_, k2, k3, k4, k5, k6⟩
  have e1 : la_ix a1 3 = some o := by rw [h1]; exact la_ix_of ho (by omega)
  have e2 : la_ix a2 2 = some k := by rw [h2]; exact la_ix_of hk (by omega)
  have hle := Wc.2.2.2.2.2
  have hfin : lb_R (ll_93 w (some (94 + 17 * o)) (Int32.ofNat k) (q.map (M 2)) h) (fun v2 h3 => (lf_I h3 v2 [6, 1]).bind fun v5 => some (.inl (some (.inl v5)), h3)) = rtI (Int32.ofNat (told i)) h' := by
    rw [k1, rt_R]
    have hce := (k3.2.1.1 i _ up_e).2.2.1 rfl
    rw [hc_I (ar_c k2 hce) rfl]
    rfl
  unfold ll_80
  rw [if_pos (hc_lc (ar_c R B.1)), c81 R B, e1]
  show lb_R (ll_82 (some (94 + 17 * o)) a2 h) _ = _
  rw [c82 R (Cf' o ho), e2]
  show lb_R (ll_83 (some (94 + 17 * o + 5 + 6 * k)) a3 h) _ = _
  rw [c83p R Cc V H.1 Wc, h3]
  show lb_V (ll_91 (some (94 + 17 * o)) h) _ = _
  rw [c91 R (Cf' o ho) ho (Wo.2.1 o), if_pos hm]
  show (if lc_of h (some (94 + 17 * o + 5 + 6 * k)) = some 5 then _ else _) = _
  rw [if_pos (hc_lc (ar_c R Cc.1)), c85 R Cc, rt_I, h2]
  have hk' : k = 0 ∨ k = 1 := by omega
  rcases hk' with g | g
  · subst g
    rw [if_pos (by decide)]
    unfold l80_43
    rw [if_pos (show Int32.ofNat (xS (fX (G o) 0)).length < (9 : Int32) from (i32_ltn (b := 9) (by omega) (by omega)).mpr hcnt), if_pos (hc_lc (ar_c R (Cf' o ho).1))]
    exact hfin
  · subst g
    rw [if_neg (by decide)]
    unfold l80_43
    rw [if_pos (show Int32.ofNat (xS (fX (G o) 1)).length < (5 : Int32) from (i32_ltn (b := 5) (by omega) (by omega)).mpr hcnt), if_pos (hc_lc (ar_c R (Cf' o ho).1))]
    exact hfin
end PUT
