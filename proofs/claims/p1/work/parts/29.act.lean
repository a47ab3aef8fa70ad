/-! rows only add cells -/
theorem pm_nat_le {P : Nat × List (Nat × Nat)} {k : Nat} {st : List Value} {h : pm_H} {q : List Value × pm_H} (ha : pm_nat P k st h = some q) : h.1.length ≤ q.2.1.length ∧ h.2 ≤ q.2.2 := by
  unfold pm_nat at ha
  split at ha
  all_goals (try (simp only [Option.bind_eq_some_iff, Option.map_eq_some_iff] at ha))
  all_goals (repeat' (first | (obtain ⟨_, _, ha⟩ := ha) | split at ha | (simp only [Option.bind_eq_some_iff, Option.map_eq_some_iff] at ha)))
  all_goals (first | (cases ha; done) | (simp; done) | (simp; omega) | (cases ha; simp; done) | (cases ha; simp; omega))
theorem pm_act_le {P : Nat × List (Nat × Nat)} {i : Instr} {n : Nat} {vs : List Value} {ns : List Nat} {F F' : pm_F} {h h' : pm_H} (ha : pm_act P i n vs ns F h = some (F', h')) : h.1.length ≤ h'.1.length ∧ h.2 ≤ h'.2 := by
  unfold pm_act at ha
  split at ha
  all_goals (try (simp only [Option.bind_eq_some_iff, Option.map_eq_some_iff] at ha))
  all_goals (repeat' (first | (obtain ⟨_, _, ha⟩ := ha) | split at ha | (simp only [Option.bind_eq_some_iff, Option.map_eq_some_iff] at ha)))
  all_goals (first | (simp; done) | (simp; omega) | (cases ha; done) | (cases ha; simp; done) | (cases ha; simp; omega) | (apply pm_nat_le; assumption))
