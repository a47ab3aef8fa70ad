/-! THE REFERENCE'S CELLS in the abstract heap -/
def rsc (S : rs_S) (j : Nat) : pm_C := (rs_cells S).getD j (.inr (9, []))
def RefC (A : ah) (S : rs_S) : Prop := ∀ j, j < 32 → A.1 (145 + j) = ac_c (rsc S j)
def ahS (A : ah) (S : rs_S) : ah := (fun b => if 145 ≤ b ∧ b < 177 then ac_c (rsc S (b - 145)) else A.1 b, A.2)
section STA
variable {A A' : ah} {h h' : pm_H} {S S' : rs_S} {a b j k n : Nat} {Y : List Nat}
theorem rsc_g {j : Nat} (hj : j < 32) : (rs_cells S)[j]? = some (rsc S j) := by
  unfold rsc
  have : j < (rs_cells S).length := by rw [rs_cl]; exact hj
  rw [List.getD_eq_getElem?_getD, List.getElem?_eq_getElem this]
  rfl
theorem RefC_h (R : ar A h) (C : RefC A S) (hl : 177 ≤ h.1.length) : rs_h S h = h := by
  refine Prod.ext ?_ rfl
  apply List.ext_getElem?
  intro b
  by_cases h1 : b < 145
  · exact rs_lo hl h1
  · by_cases h2 : b < 177
    · have e : b = 145 + (b - 145) := by omega
      rw [e, rs_at hl (by omega), rsc_g (by omega)]
      exact (ar_c R (C (b - 145) (by omega))).symm
    · exact rs_hi hl (by omega)
theorem ahS_o (h : ¬ (145 ≤ b ∧ b < 177)) : (ahS A S).1 b = A.1 b := if_neg h
theorem ahS_C : RefC (ahS A S) S := by
  intro j hj
  show (if 145 ≤ 145 + j ∧ 145 + j < 177 then _ else _) = _
  rw [if_pos (by omega), Nat.add_sub_cancel_left]
theorem RefC_st (C : RefC A S) (R : ar A h) (s : st A A' Y n k) (hY : ∀ x ∈ Y, x < 145 ∨ 177 ≤ x) : RefC A' S := by
  intro j hj
  exact st_c s R (C j hj) (by intro q; cases q) (fun z => by have := hY _ z; omega)
theorem ar_S (R : ar A h) (C : RefC A S) (hl : 177 ≤ h.1.length) : ar (ahS A S') (rs_h S' h) := by
  have hin : ∀ b, 145 ≤ b ∧ b < 177 → ∃ y, A.1 b = ac_c y := fun b hb => ⟨_, by
    have := C (b - 145) (by omega)
    rw [show 145 + (b - 145) = b by omega] at this
    exact this⟩
  have hou : ∀ b, ¬ (145 ≤ b ∧ b < 177) → (rs_h S' h).1[b]? = h.1[b]? := by
    intro b hb
    by_cases h1 : b < 145
    · exact rs_lo hl h1
    · exact rs_hi hl (by omega)
  have hob : ∀ x, ar_o A x → ar_o (ahS A S') x := by
    intro x ⟨ci, fs, q1, q2⟩
    by_cases e : 145 ≤ x ∧ x < 177
    · exfalso
      have h3 := C (x - 145) (by omega)
      rw [show 145 + (x - 145) = x by omega, q1] at h3
      have h4 := Sum.inl.inj h3
      by_cases e0 : x = 145
      · subst e0
        have h5 : rsc S 0 = rs_obj S := rfl
        rw [show 145 - 145 = 0 by omega, h5] at h4
        cases h4
        omega
      · have h6 : x - 145 = (x - 146) + 1 := by omega
        have h7 : rsc S (x - 145) = (rs_ks.map (rs_arr S)).getD (x - 146) (.inr (9, [])) := by
          unfold rsc rs_cells
          rw [h6, List.getD_cons_succ]
        rw [h7] at h4
        have h8 : x - 146 < (rs_ks.map (rs_arr S)).length := by rw [List.length_map]; show x - 146 < 31; omega
        rw [List.getD_eq_getElem?_getD, List.getElem?_eq_getElem h8, List.getElem_map] at h4
        cases h4
    · exact ⟨ci, fs, by rw [ahS_o e]; exact q1, q2⟩
  obtain ⟨r1, r2, r3, r4, r5, r6, r7, r8⟩ := R
  have hx : ∀ {b o}, A.1 b = ac_x o → ¬ (145 ≤ b ∧ b < 177) := by
    intro b o hb e
    obtain ⟨y, hy⟩ := hin b e
    rw [hb] at hy
    cases hy
  refine ⟨?_, r2, fun b hb => ?_, fun b y hb => ?_, fun b L cap hb => ?_, fun b T cap hb => ?_, ?_, r8⟩
  · rw [rs_len_h hl]; exact r1
  · have hb' : A.2.1 ≤ b := hb
    rw [ahS_o (by omega)]
    exact r3 b hb
  · by_cases e : 145 ≤ b ∧ b < 177
    · have hb2 : ac_c (rsc S' (b - 145)) = ac_c y := by
        have : (ahS A S').1 b = ac_c (rsc S' (b - 145)) := if_pos e
        rw [← this]; exact hb
      have e2 : b = 145 + (b - 145) := by omega
      rw [e2, rs_at hl (by omega), rsc_g (by omega)]
      exact congrArg some (Sum.inl.inj hb2)
    · rw [ahS_o e] at hb
      rw [hou b e]
      exact r4 b y hb
  · have e : ¬ (145 ≤ b ∧ b < 177) := by
      intro e
      have : (ahS A S').1 b = ac_c (rsc S' (b - 145)) := if_pos e
      rw [this] at hb
      cases hb
    rw [ahS_o e] at hb
    obtain ⟨g81, ee, m, g1, g2, g3, g4, g5⟩ := r5 b L cap hb
    refine ⟨g81, ee, m, ⟨by rw [hou b e]; exact g1.1, ?_, g1.2.2⟩, g2, g3, fun g => ⟨(g4 g).1, by rw [ahS_o (hx (g4 g).2)]; exact (g4 g).2⟩, fun x hx => hob x (g5 x hx)⟩
    by_cases g : cap = 0
    · have := g3 g
      subst this
      rw [hou 20 (by omega)]; exact g1.2.1
    · rw [hou ee (hx (g4 g).2)]; exact g1.2.1
  · have e : ¬ (145 ≤ b ∧ b < 177) := by
      intro e
      have : (ahS A S').1 b = ac_c (rsc S' (b - 145)) := if_pos e
      rw [this] at hb
      cases hb
    rw [ahS_o e] at hb
    obtain ⟨g81, ee, m, rest, g1, g2, g3, g4⟩ := r6 b T cap hb
    exact ⟨g81, ee, m, rest, ⟨by rw [hou b e]; exact g1.1, by rw [hou ee (hx g4)]; exact g1.2.1, g1.2.2⟩, g2, g3, by rw [ahS_o (hx g4)]; exact g4⟩
  · rw [ahS_o (by omega)]; exact r7
/-- the room that is taken, growth set apart -/
theorem ro_S' (hb : ∀ j, j < 145 → A'.1 j = A.1 j) : ro_N A' = ro_N A ∧ ro_S A' = ro_S A := by
  unfold ro_N ro_S
  constructor
  · congr 1
    exact List.map_congr_left (fun a ha => by rw [hb a (List.mem_range.mp ha)])
  · congr 1
    exact List.map_congr_left (fun a ha => by rw [hb a (List.mem_range.mp ha)])
theorem ahS_st : st A (ahS A S) ((List.range 32).map (fun j => 145 + j)) 0 0 := by
  obtain ⟨e1, e2⟩ := ro_S' (A := A) (A' := ahS A S) (fun j hj => ahS_o (by omega))
  refine ⟨Nat.le_refl _, fun b _ hb => ahS_o (fun e => hb (List.mem_map.mpr ⟨b - 145, List.mem_range.mpr (by omega), by omega⟩)), ?_, ?_⟩
  · rw [e1]; show A.2.1 + ro_N A ≤ A.2.1 + ro_N A + 0; omega
  · rw [e2]; show A.2.2 + ro_S A ≤ A.2.2 + ro_S A + 0; omega
end STA
