/-! THE PURE STATEMENT out of what holds at the loop's head -/
def pt_h0 (xs : List Int32) : pm_H := (pt_K xs ++ pt_fF, 11705)
theorem pt_newX {w : Option Nat} (xs : List Int32) : tx_R w 1 [.inr (.inr (some 81))] (pt_K xs ++ [pt_X0], 4) (.inl none, (pt_K xs ++ pt_fA, 3074)) := (tx_sb (0, xs.map Value.int) pt_hdK (tx_l (by decide) (lq_1 pt_nwA))).1
theorem pt_newY {w : Option Nat} (xs : List Int32) : tx_R w 234 [.inr (.inr (some 145))] (pt_K xs ++ (pt_fA ++ [pt_Y0]), 3118) (.inl none, (pt_K xs ++ (pt_fA ++ pt_fB), 11704)) := (tx_sb (0, xs.map Value.int) pt_hdK (tx_l (by decide) (lq_234 pt_nwB))).1
theorem pt_fAl : pt_fA.length = 64 := by decide +kernel
theorem pt_fBl : pt_fB.length = 32 := by decide +kernel
/-- the law comes to the head of its loop -/
theorem pt_begin {w : Option Nat} (xs : List Int32) : ll_0 (tx w) (some 0) (pt_K xs, 0) = l0_23 (tx w) lf_N (some 0) (some 81) (some 145) (some 177) 0 (pt_h0 xs) := by
  have e1 : (pt_K xs).length = 81 := pt_Kl xs
  have e2 : (pt_K xs ++ pt_fA).length = 145 := by rw [List.length_append, e1, pt_fAl]
  have e3 : (pt_K xs ++ (pt_fA ++ pt_fB)).length = 177 := by rw [List.length_append, List.length_append, e1, pt_fAl, pt_fBl]
  unfold ll_0 lb_h
  have a1 : lf_new (pt_K xs, 0) 0 4 [.null, .null, .null, .null] = (pt_K xs ++ [pt_X0], 4) := rfl
  simp only [a1, e1, tx_of (pt_newX xs), lb_V]
  have a2 : lf_new (pt_K xs ++ pt_fA, 3074) 10 44 [.int 0, .null, .null, .null, .null, .null, .null, .null, .null, .null, .null, .null, .null, .null, .null, .null, .null, .null, .null, .null, .null, .null, .int 0, .int 0, .int 0, .int 0, .int 0, .int 0, .null, .int 0, .int 0, .int 0, .int 0, .null, .null, .null, .null, .null, .null, .int 0, .null, .null, .null, .int 0] = (pt_K xs ++ (pt_fA ++ [pt_Y0]), 3118) := by
    rw [← List.append_assoc]
    rfl
  simp only [a2, e2, tx_of (pt_newY xs)]
  have a3 : lf_na (pt_K xs ++ (pt_fA ++ pt_fB), 11704) 1 (.long 0) 1 = some (pt_h0 xs) := by
    have : lf_na (pt_K xs ++ (pt_fA ++ pt_fB), 11704) 1 (.long 0) 1 = some (pt_K xs ++ (pt_fA ++ pt_fB) ++ [.inr (1, [.long 0])], 11705) := rfl
    rw [this]
    unfold pt_h0 pt_fF
    rw [List.append_assoc, List.append_assoc]
  simp only [a3, e3, Option.bind_some]
/-- the pure statement -/
theorem pt_pureOf {N : Nat} (hN : N ≤ 90000) (Inv : List Int32 → Option Nat → Nat → pm_H → Prop)
    (h0 : ∀ xs w, xs.length ≤ N → (w = none ∨ w = some 80) → Inv xs w 0 (pt_h0 xs))
    (hbase : ∀ xs w c h, Inv xs w c h → h.1[0]? = some (.inr (0, xs.map Value.int)))
    (hroom : ∀ xs w c h, xs.length ≤ N → 5 * c ≤ xs.length → Inv xs w c h → h.1.length ≤ 600002 + 81 ∧ h.2 ≤ 7302232)
    (hstep : ∀ xs w c h, xs.length ≤ N → (w = none ∨ w = some 80) → Inv xs w c h → 5 * c + 5 ≤ xs.length → ∃ h3, pt_Op w (xs.getD (5 * c) 0) (xs.getD (5 * c + 1) 0) (xs.getD (5 * c + 2) 0) (xs.getD (5 * c + 3) 0) (xs.getD (5 * c + 4) 0) h h3 ∧ Inv xs w (c + 1) h3) : pt_Pure N := by
  intro xs hxs u hu
  have hw : ∃ w : Option Nat, (w = none ∨ w = some 80) ∧ u = tm_r w := by
    rcases hu with rfl | rfl
    · exact ⟨none, Or.inl rfl, rfl⟩
    · exact ⟨some 80, Or.inr rfl, rfl⟩
  obtain ⟨w, hw, rfl⟩ := hw
  obtain ⟨c', h', k1, k2, k3⟩ := pt_loop (w := w) (xs := xs) (by omega) (Inv xs w) (hbase xs w) (fun c h hI hc => hstep xs w c h hxs hw hI hc) lf_N 0 (pt_h0 xs) (h0 xs w hxs hw) (by omega) (by unfold lf_N; omega)
  have hr : ll_0 (tx w) (some 0) (pt_K xs, 0) = some (.inl (some (.inl 1)), h') := (pt_begin xs).trans k3
  obtain ⟨n, hn⟩ := lq_0 (w := w) (d := 0) (fun e => tx_s e) hr
  obtain ⟨m1, m2⟩ := hroom xs w c' h' hxs k2 k1
  exact ⟨n, 0 + 146, h', by decide, hn, m1, m2⟩
