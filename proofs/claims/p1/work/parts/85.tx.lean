/-! CALLS by their ends: what a method comes to, as a function (it comes to one end alone) -/
theorem tm_v_inj {x y : tm_V} (h : tm_v x = tm_v y) : x = y := by
  rcases x with x | x | x <;> rcases y with y | y | y
  · cases h; rfl
  · cases h
  · cases y <;> cases h
  · cases h
  · cases h; rfl
  · cases y <;> cases h
  · cases x <;> cases h
  · cases x <;> cases h
  · cases x <;> cases y <;> cases h <;> rfl
theorem tm_e_inj {r r' : tm_O × pm_H} (h : tm_e r = tm_e r') : r = r' := by
  obtain ⟨o, g⟩ := r
  obtain ⟨o', g'⟩ := r'
  have h1 : tm_o o = tm_o o' := congrArg Prod.fst h
  have h2 : g = g' := congrArg Prod.snd h
  subst h2
  cases o with
  | inl v =>
    cases o' with
    | inl v' =>
      have h3 : v.map tm_v = v'.map tm_v := Sum.inl.inj h1
      cases v with
      | none => cases v' with
        | none => rfl
        | some y => cases h3
      | some x => cases v' with
        | none => cases h3
        | some y =>
          have h4 := tm_v_inj (Option.some.inj h3)
          rw [h4]
    | inr a => cases h1
  | inr a =>
    cases o' with
    | inl v => cases h1
    | inr a' => cases h1; rfl
theorem tm_run_det {P : Nat × List (Nat × Nat)} {G : Nat → pm_M} {d y : Nat} {as : List tm_V} {h : pm_H} {r r' : tm_O × pm_H} (a : tm_run P G d y as h r) (b : tm_run P G d y as h r') : r = r' := by
  obtain ⟨n, e⟩ := a
  obtain ⟨n', e'⟩ := b
  have h1 := pm_le (Nat.le_max_left n n') e
  have h2 := pm_le (Nat.le_max_right n n') e'
  exact tm_e_inj (Option.some.inj (h1.symm.trans h2))
/-- how deep the calls below the law may go -/
abbrev tx_d : Nat := 145
abbrev tx_R (w : Option Nat) (y : Nat) (as : List tm_V) (h : pm_H) (r : tm_O × pm_H) : Prop := tm_run pt_P (pt_G (tm_r w)) tx_d y as h r
noncomputable def tx (w : Option Nat) (y : Nat) (as : List tm_V) (h : pm_H) : tm_L := @dite _ (∃ r, tx_R w y as h r) (Classical.propDecidable _) (fun q => some (Classical.choose q)) (fun _ => none)
theorem tx_s {w : Option Nat} {y : Nat} {as : List tm_V} {h : pm_H} {r : tm_O × pm_H} (e : tx w y as h = some r) : tx_R w y as h r := by
  unfold tx at e
  by_cases q : ∃ r, tx_R w y as h r
  · rw [dif_pos q] at e
    cases e
    exact Classical.choose_spec q
  · rw [dif_neg q] at e
    cases e
theorem tx_of {w : Option Nat} {y : Nat} {as : List tm_V} {h : pm_H} {r : tm_O × pm_H} (e : tx_R w y as h r) : tx w y as h = some r := by
  unfold tx
  have q : ∃ r, tx_R w y as h r := ⟨r, e⟩
  rw [dif_pos q]
  exact congrArg some (tm_run_det (Classical.choose_spec q) e)
