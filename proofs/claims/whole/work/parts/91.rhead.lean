/-! the reference's methods as functions of its picture -/
def rb_S {α : Type} (S : rs_S) (k : rs_S → Option α) : Option α := k S
theorem rb_S_s {α : Type} {S : rs_S} {k : rs_S → Option α} {r : α} (e : rb_S S k = some r) : ∃ S1, S1 = S ∧ k S1 = some r := ⟨S, rfl, e⟩
def rb {α β : Type} (m : Option (β × rs_S)) (k : β → rs_S → Option α) : Option α := match m with
  | some (v, S) => k v S
  | none => none
theorem rb_s {α β : Type} {m : Option (β × rs_S)} {k : β → rs_S → Option α} {r : α} (e : rb m k = some r) : ∃ v S, m = some (v, S) ∧ k v S = some r := by
  unfold rb at e
  split at e
  · exact ⟨_, _, rfl, e⟩
  · cases e
