/-! the lifter's own words -/
abbrev pt_P : Nat × List (Nat × Nat) := (81, pt_asg)
/-- how often a loop may go round -/
def lf_N : Nat := 20000
def lb_A (m : Option Bool) (a b : tm_L) : tm_L := match m with
  | some true => a
  | some false => b
  | none => none
theorem lb_A_s {m : Option Bool} {a b : tm_L} {r : tm_O × pm_H} (e : lb_A m a b = some r) : (m = some true ∧ a = some r) ∨ (m = some false ∧ b = some r) := by
  unfold lb_A at e
  split at e
  · exact Or.inl ⟨rfl, e⟩
  · exact Or.inr ⟨rfl, e⟩
  · cases e
def lb_h (h : pm_H) (k : pm_H → tm_L) : tm_L := k h
theorem lb_h_s {h : pm_H} {k : pm_H → tm_L} {r : tm_O × pm_H} (e : lb_h h k = some r) : ∃ h1, h1 = h ∧ k h1 = some r := ⟨h, rfl, e⟩
theorem tm_sbs {a b : List (Nat × tm_V)} (is : List Nat) (e : is.map (fun i => b[i]?) = a.map some) : ∀ q ∈ a, q ∈ b := by
  intro q hq
  have h1 : some q ∈ is.map (fun i => b[i]?) := by
    rw [e]
    exact List.mem_map.mpr ⟨q, hq, rfl⟩
  obtain ⟨i, -, hi⟩ := List.mem_map.mp h1
  exact List.mem_of_getElem? hi
def lh_I (m : tm_L) (k : Int32 → pm_H → tm_L) (x : Nat → Nat → pm_H → tm_L) : tm_L := match m with
  | some (.inl (some (.inl v)), h) => k v h
  | some (.inr a, h) => match lc_of h (some a) with
    | some ci => x a ci h
    | none => none
  | _ => none
def lh_J (m : tm_L) (k : Int64 → pm_H → tm_L) (x : Nat → Nat → pm_H → tm_L) : tm_L := match m with
  | some (.inl (some (.inr (.inl v))), h) => k v h
  | some (.inr a, h) => match lc_of h (some a) with
    | some ci => x a ci h
    | none => none
  | _ => none
def lh_R (m : tm_L) (k : Option Nat → pm_H → tm_L) (x : Nat → Nat → pm_H → tm_L) : tm_L := match m with
  | some (.inl (some (.inr (.inr v))), h) => k v h
  | some (.inr a, h) => match lc_of h (some a) with
    | some ci => x a ci h
    | none => none
  | _ => none
def lh_V (m : tm_L) (k : pm_H → tm_L) (x : Nat → Nat → pm_H → tm_L) : tm_L := match m with
  | some (.inl none, h) => k h
  | some (.inr a, h) => match lc_of h (some a) with
    | some ci => x a ci h
    | none => none
  | _ => none
def lh_T (m : tm_L) (x : Nat → Nat → pm_H → tm_L) (r : tm_O × pm_H) : Prop := ∃ a h ci z, m = some (.inr a, h) ∧ h.1[a]? = some (.inl (ci, z)) ∧ x a ci h = some r
theorem lh_x {m : tm_L} {x : Nat → Nat → pm_H → tm_L} {a ci : Nat} {h : pm_H} {r : tm_O × pm_H} (hm : m = some (.inr a, h)) (hc : lc_of h (some a) = some ci) (e : x a ci h = some r) : lh_T m x r := by
  unfold lc_of at hc
  simp only at hc
  split at hc
  · next hx => cases hc; exact ⟨a, h, _, _, hm, hx, e⟩
  · cases hc
theorem lh_I_s {m : tm_L} {k : Int32 → pm_H → tm_L} {x : Nat → Nat → pm_H → tm_L} {r : tm_O × pm_H} (e : lh_I m k x = some r) : (∃ v h, m = some (.inl (some (.inl v)), h) ∧ k v h = some r) ∨ lh_T m x r := by
  unfold lh_I at e
  split at e
  · exact Or.inl ⟨_, _, rfl, e⟩
  · split at e
    · next hc => exact Or.inr (lh_x rfl hc e)
    · cases e
  · cases e
theorem lh_J_s {m : tm_L} {k : Int64 → pm_H → tm_L} {x : Nat → Nat → pm_H → tm_L} {r : tm_O × pm_H} (e : lh_J m k x = some r) : (∃ v h, m = some (.inl (some (.inr (.inl v))), h) ∧ k v h = some r) ∨ lh_T m x r := by
  unfold lh_J at e
  split at e
  · exact Or.inl ⟨_, _, rfl, e⟩
  · split at e
    · next hc => exact Or.inr (lh_x rfl hc e)
    · cases e
  · cases e
theorem lh_R_s {m : tm_L} {k : Option Nat → pm_H → tm_L} {x : Nat → Nat → pm_H → tm_L} {r : tm_O × pm_H} (e : lh_R m k x = some r) : (∃ v h, m = some (.inl (some (.inr (.inr v))), h) ∧ k v h = some r) ∨ lh_T m x r := by
  unfold lh_R at e
  split at e
  · exact Or.inl ⟨_, _, rfl, e⟩
  · split at e
    · next hc => exact Or.inr (lh_x rfl hc e)
    · cases e
  · cases e
theorem lh_V_s {m : tm_L} {k : pm_H → tm_L} {x : Nat → Nat → pm_H → tm_L} {r : tm_O × pm_H} (e : lh_V m k x = some r) : (∃ h, m = some (.inl none, h) ∧ k h = some r) ∨ lh_T m x r := by
  unfold lh_V at e
  split at e
  · exact Or.inl ⟨_, rfl, e⟩
  · split at e
    · next hc => exact Or.inr (lh_x rfl hc e)
    · cases e
  · cases e
section TM6
variable {P : Nat × List (Nat × Nat)} {G : Nat → pm_M} {d : Nat} {M : pm_M} {h h' : pm_H} {r : pm_O × pm_H} {i : Instr} {len pc : Nat} {vs : List Value} {ns : List Nat} {lv : List (Nat × tm_V)} {st : List tm_V}
theorem tm_oinit2 {idx : Nat} {o : Option Nat} (hr : pm_row M.1 pc = some (.invokespecial idx, len, [], [9])) (ho : Option.isSome o = true) (hw : tm_w40 (.inr (.inr o) :: st) = true) (kk : pm_to P G d M (tm_m (pc + len, lv, st)) h r) : pm_to P G d M (tm_m (pc, lv, .inr (.inr o) :: st)) h r := by
  cases o with
  | none => cases ho
  | some a => exact tm_oinit hr hw kk
theorem tm_callP2 {k w y : Nat} {o : Option Nat} (hi : pm_inv i = true) (hx : st[k]? = some (.inr (.inr o))) (ho : Option.isSome o = true) (hw : tm_w (k + 1) w st = true) : pm_call i (1 :: k :: w :: y :: ns) (tm_s st) h = some (y, tm_s (st.take (k + 1)).reverse, tm_s (st.drop (k + 1))) := by
  cases o with
  | none => cases ho
  | some a => exact tm_callP hi hx hw
theorem tm_idiv {x y : Int32} (hr : pm_row M.1 pc = some (.idiv, len, vs, ns)) (hc : ¬ y = 0) (kk : pm_to P G d M (tm_m (pc + len, lv, .inl (x / y) :: st)) h r) : pm_to P G d M (tm_m (pc, lv, .inl y :: .inl x :: st)) h r := by
  refine tm_step hr rfl rfl (h' := h) ?_ kk
  simp only [pm_act, tm_s, List.map_cons, tm_v, pm_bin, pm_ii, if_neg hc, Option.map_some]
  rfl
theorem tm_irem {x y : Int32} (hr : pm_row M.1 pc = some (.irem, len, vs, ns)) (hc : ¬ y = 0) (kk : pm_to P G d M (tm_m (pc + len, lv, .inl (x - x / y * y) :: st)) h r) : pm_to P G d M (tm_m (pc, lv, .inl y :: .inl x :: st)) h r := by
  refine tm_step hr rfl rfl (h' := h) ?_ kk
  simp only [pm_act, tm_s, List.map_cons, tm_v, pm_bin, pm_ii, if_neg hc, Option.map_some]
  rfl
theorem tm_ldiv {x y : Int64} (hr : pm_row M.1 pc = some (.ldiv, len, vs, ns)) (hc : ¬ y = 0) (kk : pm_to P G d M (tm_m (pc + len, lv, .inr (.inl (x / y)) :: st)) h r) : pm_to P G d M (tm_m (pc, lv, .inr (.inl y) :: .inr (.inl x) :: st)) h r := by
  refine tm_step hr rfl rfl (h' := h) ?_ kk
  simp only [pm_act, tm_s, List.map_cons, tm_v, pm_bin, pm_ll, if_neg hc, Option.map_some]
  rfl
theorem tm_lrem {x y : Int64} (hr : pm_row M.1 pc = some (.lrem, len, vs, ns)) (hc : ¬ y = 0) (kk : pm_to P G d M (tm_m (pc + len, lv, .inr (.inl (x - x / y * y)) :: st)) h r) : pm_to P G d M (tm_m (pc, lv, .inr (.inl y) :: .inr (.inl x) :: st)) h r := by
  refine tm_step hr rfl rfl (h' := h) ?_ kk
  simp only [pm_act, tm_s, List.map_cons, tm_v, pm_bin, pm_ll, if_neg hc, Option.map_some]
  rfl
end TM6
