/-! THE START: the core holds of the fresh objects -/
def sL : List Nat := [98, 100, 101, 106, 107, 115, 117, 118, 123, 124, 132, 134, 135, 140, 141]
def sS : rs_S := (fun k => if k = 31 then -1 else 0, fun _ _ => 0, fun _ _ => 0)
def sF : fo := (fun _ => 0, fun _ => false, [], 0, fun _ => ([], [], fun _ => none, fun _ => none, fun _ => -1))
def sA (xs : List Int32) : ah := (fun a => if a ∈ sL then ac_l [] 0 else if a = 84 ∨ a = 92 then ac_t [] 16 else if a = 85 then ac_x 84 else if a = 93 then ac_x 92 else if a < 178 then ac_c ((pt_h0 xs).1.getD a (.inr (9, []))) else ac_x 0, (178, 11705))
section STT
variable {xs : List Int32} {a : Nat}
theorem s_len : (pt_h0 xs).1.length = 178 := by
  unfold pt_h0
  show (pt_K xs ++ pt_fF).length = 178
  have h1 : pt_fF.length = 97 := by decide +kernel
  rw [List.length_append, pt_Kl, h1]
theorem s_hi (ha : 81 ≤ a) : (pt_h0 xs).1[a]? = pt_fF[a - 81]? := by
  show (pt_K xs ++ pt_fF)[a]? = _
  rw [List.getElem?_append_right (by rw [pt_Kl]; exact ha), pt_Kl]
theorem s_lo (k : Nat) (hk : k < 80) : (pt_h0 xs).1[k + 1]? = pt_K1[k]? := by
  show (pt_K xs ++ pt_fF)[k + 1]? = _
  rw [List.getElem?_append_left (by rw [pt_Kl]; omega)]
  rfl
theorem s_c {y : pm_C} (h1 : a ∉ sL) (h2 : a ≠ 84) (h3 : a ≠ 92) (h4 : a ≠ 85) (h5 : a ≠ 93) (h6 : a < 178) (e : (pt_h0 xs).1[a]? = some y) : (sA xs).1 a = ac_c y := by
  show (if a ∈ sL then _ else _) = _
  rw [if_neg h1, if_neg (by omega), if_neg h4, if_neg h5, if_pos h6, List.getD_eq_getElem?_getD, e]
  rfl
theorem s_l (h : a ∈ sL) : (sA xs).1 a = ac_l [] 0 := if_pos h
theorem sL_81 (h : a ∈ sL) : 93 < a ∧ a < 145 ∧ pt_fF[a - 81]? = some (.inl (12, [.ref 20, .int 0, .int 0])) := by
  have key : sL.all (fun a => decide (93 < a ∧ a < 145 ∧ pt_fF[a - 81]? = some (.inl (12, [.ref 20, .int 0, .int 0])))) = true := by decide +kernel
  exact of_decide_eq_true (List.all_eq_true.mp key a h)
theorem s_ar : ar (sA xs) (pt_h0 xs) := by
  have e20 : (pt_h0 xs).1[20]? = some (.inr (13, [])) := (s_lo 19 (by omega)).trans rfl
  refine ⟨s_len, rfl, fun a ha => ?_, fun a y e => ?_, fun a L cap e => ?_, fun a T cap e => ?_, s_c (by decide) (by omega) (by omega) (by omega) (by omega) (by omega) e20, by show 81 ≤ 178; omega⟩
  · have ha' : 178 ≤ a := ha
    show (if a ∈ sL then _ else _) = _
    rw [if_neg (fun z => by have := sL_81 z; omega), if_neg (by omega), if_neg (by omega), if_neg (by omega), if_neg (by omega)]
  · by_cases h1 : a ∈ sL
    · rw [s_l h1] at e; cases e
    · have e' : (if a ∈ sL then ac_l [] 0 else if a = 84 ∨ a = 92 then ac_t [] 16 else if a = 85 then ac_x 84 else if a = 93 then ac_x 92 else if a < 178 then ac_c ((pt_h0 xs).1.getD a (.inr (9, []))) else ac_x 0) = ac_c y := e
      rw [if_neg h1] at e'
      by_cases h2 : a = 84 ∨ a = 92
      · rw [if_pos h2] at e'; cases e'
      · rw [if_neg h2] at e'
        by_cases h3 : a = 85
        · rw [if_pos h3] at e'; cases e'
        · rw [if_neg h3] at e'
          by_cases h4 : a = 93
          · rw [if_pos h4] at e'; cases e'
          · rw [if_neg h4] at e'
            by_cases h5 : a < 178
            · rw [if_pos h5] at e'
              have hl : a < (pt_h0 xs).1.length := by rw [s_len]; exact h5
              rw [← Sum.inl.inj e', List.getD_eq_getElem?_getD, List.getElem?_eq_getElem hl]
              rfl
            · rw [if_neg h5] at e'; cases e'
  · by_cases h1 : a ∈ sL
    · rw [s_l h1] at e
      cases e
      obtain ⟨g1, g2, g3⟩ := sL_81 h1
      refine ⟨by omega, 20, 0, ⟨?_, e20, Nat.le_refl _, by omega⟩, by decide, fun _ => rfl, fun z => absurd rfl z, fun x hx => by cases hx⟩
      rw [s_hi (by omega)]
      exact g3
    · exfalso
      have e' : (if a ∈ sL then ac_l [] 0 else if a = 84 ∨ a = 92 then ac_t [] 16 else if a = 85 then ac_x 84 else if a = 93 then ac_x 92 else if a < 178 then ac_c ((pt_h0 xs).1.getD a (.inr (9, []))) else ac_x 0) = ac_l L cap := e
      rw [if_neg h1] at e'
      by_cases h2 : a = 84 ∨ a = 92
      · rw [if_pos h2] at e'; cases e'
      · rw [if_neg h2] at e'
        by_cases h3 : a = 85
        · rw [if_pos h3] at e'; cases e'
        · rw [if_neg h3] at e'
          by_cases h4 : a = 93
          · rw [if_pos h4] at e'; cases e'
          · rw [if_neg h4] at e'
            by_cases h5 : a < 178
            · rw [if_pos h5] at e'; cases e'
            · rw [if_neg h5] at e'; cases e'
  · have e' : (if a ∈ sL then ac_l [] 0 else if a = 84 ∨ a = 92 then ac_t [] 16 else if a = 85 then ac_x 84 else if a = 93 then ac_x 92 else if a < 178 then ac_c ((pt_h0 xs).1.getD a (.inr (9, []))) else ac_x 0) = ac_t T cap := e
    by_cases h1 : a ∈ sL
    · rw [if_pos h1] at e'; cases e'
    · rw [if_neg h1] at e'
      by_cases h2 : a = 84 ∨ a = 92
      · rw [if_pos h2] at e'
        cases e'
        rcases h2 with q | q
        · subst q
          exact ⟨by omega, 85, 0, List.replicate 16 (.int 0), ⟨(s_hi (by omega)).trans rfl, (s_hi (by omega)).trans rfl, rfl, by decide, fun c hc => by cases hc⟩, by decide, by omega, rfl⟩
        · subst q
          exact ⟨by omega, 93, 0, List.replicate 16 (.int 0), ⟨(s_hi (by omega)).trans rfl, (s_hi (by omega)).trans rfl, rfl, by decide, fun c hc => by cases hc⟩, by decide, by omega, rfl⟩
      · rw [if_neg h2] at e'
        by_cases h3 : a = 85
        · rw [if_pos h3] at e'; cases e'
        · rw [if_neg h3] at e'
          by_cases h4 : a = 93
          · rw [if_pos h4] at e'; cases e'
          · rw [if_neg h4] at e'
            by_cases h5 : a < 178
            · rw [if_pos h5] at e'; cases e'
            · rw [if_neg h5] at e'; cases e'
end STT
