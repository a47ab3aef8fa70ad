/-! MOVE, REMOVE, UNDO, DELIVER: the class -/
def mdc (D : aD) (G : Nat → fo) (a1 a2 a3 a4 : Int32) : Nat ⊕ (Nat × Nat × Nat × Option Nat) := (la_ix a1 3).elim (.inl 1) (fun o => (la_ix a2 2).elim (.inl 1) (fun k => (la_ix a3 (xS (fX (G o) k)).length).elim (.inl 2) (fun j => (pq D (fX (G o) k) a4).elim (.inl 2) (fun q => if fK (G o) o < 40 then .inr (o, k, j, q) else .inl 3))))
def vdc (G : Nat → fo) (a1 a2 a3 : Int32) : Nat ⊕ (Nat × Nat × Nat) := (la_ix a1 3).elim (.inl 1) (fun o => (la_ix a2 2).elim (.inl 1) (fun k => (la_ix a3 (xS (fX (G o) k)).length).elim (.inl 2) (fun j => if fK (G o) o < 40 then .inr (o, k, j) else .inl 3)))
section MOV
variable {A : ah} {h : pm_H} {M : aM} {D : aD} {G : Nat → fo} {F : fo} {S : rs_S} {X : ax} {o i j l k m n c : Nat} {r : rc} {a1 a2 a3 a4 a : Int32} {w q : Option Nat}
theorem mdc_r (e : mdc D G a1 a2 a3 a4 = .inr (o, k, j, q)) : la_ix a1 3 = some o ∧ la_ix a2 2 = some k ∧ la_ix a3 (xS (fX (G o) k)).length = some j ∧ pq D (fX (G o) k) a4 = some q ∧ fK (G o) o < 40 := by
  unfold mdc at e
  cases e1 : la_ix a1 3 with
  | none => rw [e1] at e; cases e
  | some o' =>
    rw [e1] at e
    cases e2 : la_ix a2 2 with
    | none => simp only [Option.elim_some, e2, Option.elim_none] at e; cases e
    | some k' =>
      simp only [Option.elim_some, e2] at e
      cases e3 : la_ix a3 (xS (fX (G o') k')).length with
      | none => simp only [e3, Option.elim_none] at e; cases e
      | some j' =>
        simp only [e3, Option.elim_some] at e
        cases e4 : pq D (fX (G o') k') a4 with
        | none => simp only [e4, Option.elim_none] at e; cases e
        | some q' =>
          simp only [e4, Option.elim_some] at e
          by_cases z : fK (G o') o' < 40
          · rw [if_pos z] at e
            cases e
            exact ⟨rfl, rfl, e3, e4, z⟩
          · rw [if_neg z] at e; cases e
theorem vdc_r (e : vdc G a1 a2 a3 = .inr (o, k, j)) : la_ix a1 3 = some o ∧ la_ix a2 2 = some k ∧ la_ix a3 (xS (fX (G o) k)).length = some j ∧ fK (G o) o < 40 := by
  unfold vdc at e
  cases e1 : la_ix a1 3 with
  | none => rw [e1] at e; cases e
  | some o' =>
    rw [e1] at e
    cases e2 : la_ix a2 2 with
    | none => simp only [Option.elim_some, e2, Option.elim_none] at e; cases e
    | some k' =>
      simp only [Option.elim_some, e2] at e
      cases e3 : la_ix a3 (xS (fX (G o') k')).length with
      | none => simp only [e3, Option.elim_none] at e; cases e
      | some j' =>
        simp only [e3, Option.elim_some] at e
        by_cases z : fK (G o') o' < 40
        · rw [if_pos z] at e
          cases e
          exact ⟨rfl, rfl, e3, z⟩
        · rw [if_neg z] at e; cases e
theorem c124t (R : ar A h) (C : CW M A D G) (H : GW D G) (e : mdc D G a1 a2 a3 a4 = .inl c) : ll_124 w (some 81) a1 a2 a3 a4 h = tw h (ec c) := by
  obtain ⟨B, V, Cf', -⟩ := C
  unfold mdc at e
  unfold ll_124
  rw [if_pos (hc_lc (ar_c R B.1)), c81 R B]
  cases e1 : la_ix a1 3 with
  | none =>
    rw [e1] at e
    cases e
    exact tw_R
  | some o =>
    obtain ⟨-, ho⟩ := ix_s (by omega) e1
    rw [e1] at e
    show lb_R (ll_82 (some (94 + 17 * o)) a2 h) _ = _
    rw [c82 R (Cf' o ho)]
    cases e2 : la_ix a2 2 with
    | none =>
      simp only [Option.elim_some, e2, Option.elim_none] at e
      cases e
      exact tw_R
    | some k =>
      obtain ⟨hk2, hk⟩ := ix_s (by omega) e2
      have Cc := (Cf' o ho).2.2.2.2.2 k hk
      have Wo := (H.2.2.2.2.2.2.2 o ho).1.1
      have Wc := Wo.2.2.2.2.2.2 k hk
      simp only [Option.elim_some, e2] at e
      show lb_R (ll_84 (some (94 + 17 * o + 5 + 6 * k)) a3 h) _ = _
      rw [c84 R Cc V Wc]
      cases e3 : la_ix a3 (xS (fX (G o) k)).length with
      | none =>
        simp only [e3, Option.elim_none] at e
        cases e
        exact tw_R
      | some j =>
        simp only [e3, Option.elim_some] at e
        show lb_R (ll_83 (some (94 + 17 * o + 5 + 6 * k)) a4 h) _ = _
        rw [c83p R Cc V H.1 Wc]
        cases e4 : pq D (fX (G o) k) a4 with
        | none =>
          simp only [e4, Option.elim_none] at e
          cases e
          exact tw_R
        | some q =>
          simp only [e4, Option.elim_some] at e
          show lb_V (ll_91 (some (94 + 17 * o)) h) _ = _
          rw [c91 R (Cf' o ho) ho (Wo.2.1 o)]
          by_cases z1 : fK (G o) o < 40
          · rw [if_pos z1] at e; cases e
          · rw [if_neg z1] at e
            cases e
            rw [if_neg z1]
            exact tw_V
theorem c124s (R : ar A h) (C : CW M A D G) (H : GW D G) (e : mdc D G a1 a2 a3 a4 = .inr (o, k, j, q)) (hl : l = (xS (fX (G o) k)).getD j 0) (hi : i = 40 * o + fK (G o) o) : ∃ M' A' h', ll_124 w (some 81) a1 a2 a3 a4 h = rtV h' ∧ ar A' h' ∧ CW M' A' (up D i (some (rM o (G o) i l q (plc D (fX (G o) k) l)))) (up G o (tkF (up D i (some (rM o (G o) i l q (plc D (fX (G o) k) l)))) (G o) i)) ∧ st A A' (blk o) 3 18 ∧ Wd (up D i (some (rM o (G o) i l q (plc D (fX (G o) k) l)))) ∧ Mag M M' D := by
  obtain ⟨e1, e2, e3, e4, hm⟩ := mdc_r e
  obtain ⟨-, ho⟩ := ix_s (by omega) e1
  obtain ⟨-, hk⟩ := ix_s (by omega) e2
  have hj := la_ix_lt e3
  have C' := C
  obtain ⟨B, V, Cf', hn⟩ := C'
  obtain ⟨⟨Wo, I, -⟩, -⟩ := H.2.2.2.2.2.2.2 o ho
  have Wc := Wo.2.2.2.2.2.2 k hk
  have Cc := (Cf' o ho).2.2.2.2.2 k hk
  have hrd := Rdy_of H ho hm
  rw [← hi] at hrd
  have hLN : LN D l := by rw [hl]; exact Wc.2.1 _ (gl_mem hj)
  have hlk : lkd D l = k := by
    rw [hl]
    obtain ⟨p, -, -, -, -, -, -, h7⟩ := shn I hk (gl_mem hj)
    exact h7
  have K := c125 (w := w) R B (Cf' o ho) V H.1 Wo hn hrd hLN (pq_PN H.1 Wc e4) (ord_120 H ho hm).1
  rw [hlk] at K
  obtain ⟨M', A', h', k1, k2, k3, k4, k5, k6⟩ := CW_mk C H R ho hrd.2.2.1 K
  refine ⟨M', A', h', ?_, k2, k3, k4, k5, k6⟩
  unfold ll_124
  rw [if_pos (hc_lc (ar_c R B.1)), c81 R B, e1]
  show lb_R (ll_82 (some (94 + 17 * o)) a2 h) _ = _
  rw [c82 R (Cf' o ho), e2]
  show lb_R (ll_84 (some (94 + 17 * o + 5 + 6 * k)) a3 h) _ = _
  rw [c84 R Cc V Wc, e3]
  show lb_R (ll_83 (some (94 + 17 * o + 5 + 6 * k)) a4 h) _ = _
  rw [c83p R Cc V H.1 Wc, e4]
  show lb_V (ll_91 (some (94 + 17 * o)) h) _ = _
  rw [c91 R (Cf' o ho) ho (Wo.2.1 o), if_pos hm]
  show (if lc_of h (some (94 + 17 * o)) = some 4 then lb_V (ll_125 w (some (94 + 17 * o)) (some (M 1 ((xS (fX (G o) k)).getD j 0))) (q.map (M 2)) h) _ else _) = _
  rw [if_pos (hc_lc (ar_c R (Cf' o ho).1)), ← hl, k1]
  rfl
theorem c127t (R : ar A h) (C : CW M A D G) (H : GW D G) (e : vdc G a1 a2 a3 = .inl c) : ll_127 w (some 81) a1 a2 a3 h = tw h (ec c) := by
  obtain ⟨B, V, Cf', -⟩ := C
  unfold vdc at e
  unfold ll_127
  rw [if_pos (hc_lc (ar_c R B.1)), c81 R B]
  cases e1 : la_ix a1 3 with
  | none =>
    rw [e1] at e
    cases e
    exact tw_R
  | some o =>
    obtain ⟨-, ho⟩ := ix_s (by omega) e1
    rw [e1] at e
    show lb_R (ll_82 (some (94 + 17 * o)) a2 h) _ = _
    rw [c82 R (Cf' o ho)]
    cases e2 : la_ix a2 2 with
    | none =>
      simp only [Option.elim_some, e2, Option.elim_none] at e
      cases e
      exact tw_R
    | some k =>
      obtain ⟨hk2, hk⟩ := ix_s (by omega) e2
      have Cc := (Cf' o ho).2.2.2.2.2 k hk
      have Wo := (H.2.2.2.2.2.2.2 o ho).1.1
      have Wc := Wo.2.2.2.2.2.2 k hk
      simp only [Option.elim_some, e2] at e
      show lb_R (ll_84 (some (94 + 17 * o + 5 + 6 * k)) a3 h) _ = _
      rw [c84 R Cc V Wc]
      cases e3 : la_ix a3 (xS (fX (G o) k)).length with
      | none =>
        simp only [e3, Option.elim_none] at e
        cases e
        exact tw_R
      | some j =>
        simp only [e3, Option.elim_some] at e
        show lb_V (ll_91 (some (94 + 17 * o)) h) _ = _
        rw [c91 R (Cf' o ho) ho (Wo.2.1 o)]
        by_cases z1 : fK (G o) o < 40
        · rw [if_pos z1] at e; cases e
        · rw [if_neg z1] at e
          cases e
          rw [if_neg z1]
          exact tw_V
theorem c127s (R : ar A h) (C : CW M A D G) (H : GW D G) (e : vdc G a1 a2 a3 = .inr (o, k, j)) (hl : l = (xS (fX (G o) k)).getD j 0) (hi : i = 40 * o + fK (G o) o) : ∃ M' A' h', ll_127 w (some 81) a1 a2 a3 h = rtV h' ∧ ar A' h' ∧ CW M' A' (up D i (some (rG o (G o) 5 l))) (up G o (tkF (up D i (some (rG o (G o) 5 l))) (G o) i)) ∧ st A A' (blk o) 2 15 ∧ Wd (up D i (some (rG o (G o) 5 l))) ∧ Mag M M' D := by
  obtain ⟨e1, e2, e3, hm⟩ := vdc_r e
  obtain ⟨-, ho⟩ := ix_s (by omega) e1
  obtain ⟨-, hk⟩ := ix_s (by omega) e2
  have hj := la_ix_lt e3
  have C' := C
  obtain ⟨B, V, Cf', hn⟩ := C'
  obtain ⟨⟨Wo, I, -⟩, -⟩ := H.2.2.2.2.2.2.2 o ho
  have Wc := Wo.2.2.2.2.2.2 k hk
  have Cc := (Cf' o ho).2.2.2.2.2 k hk
  have hrd := Rdy_of H ho hm
  rw [← hi] at hrd
  have hLN : LN D l := by rw [hl]; exact Wc.2.1 _ (gl_mem hj)
  have K := c128 (w := w) R B (Cf' o ho) V H.1 Wo hn hrd (Or.inr rfl) hLN
  obtain ⟨M', A', h', k1, k2, k3, k4, k5, k6⟩ := CW_mk C H R ho hrd.2.2.1 K
  refine ⟨M', A', h', ?_, k2, k3, k4, k5, k6⟩
  unfold ll_127
  rw [if_pos (hc_lc (ar_c R B.1)), c81 R B, e1]
  show lb_R (ll_82 (some (94 + 17 * o)) a2 h) _ = _
  rw [c82 R (Cf' o ho), e2]
  show lb_R (ll_84 (some (94 + 17 * o + 5 + 6 * k)) a3 h) _ = _
  rw [c84 R Cc V Wc, e3]
  show lb_V (ll_91 (some (94 + 17 * o)) h) _ = _
  rw [c91 R (Cf' o ho) ho (Wo.2.1 o), if_pos hm]
  show (if lc_of h (some (94 + 17 * o)) = some 4 then lb_V (ll_128 w (some (94 + 17 * o)) (some 5) (some (M 1 ((xS (fX (G o) k)).getD j 0))) h) _ else _) = _
  rw [if_pos (hc_lc (ar_c R (Cf' o ho).1)), ← hl, k1]
  rfl
end MOV
