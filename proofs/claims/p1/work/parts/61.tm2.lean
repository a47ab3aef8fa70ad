/-! STEPS of typed frames -/
theorem tm_act_fin {i : Instr} {n : Nat} {vs : List Value} {ns : List Nat} {F F' : tm_F} (h : pm_H) (st : List Value) (e : tm_act i n vs ns F = some F') : pm_fin i ns st h = none ∧ pm_call i ns st h = none := by
  cases i <;> first | (cases e; done) | exact ⟨rfl, rfl⟩
def tm_one (M : pm_M) (F : tm_F) : Option tm_F := match pm_row M.1 F.1 with
  | some (i, len, vs, ns) => tm_act i len vs ns F
  | none => none
def tm_stps (M : pm_M) : Nat → tm_F → Option tm_F
  | 0, F => some F
  | k + 1, F => match tm_one M F with
    | some F' => tm_stps M k F'
    | none => none
section TM
variable {P : Nat × List (Nat × Nat)} {G : Nat → pm_M} {d : Nat} {M : pm_M} {F F' : tm_F} {h h' : pm_H} {r : pm_O × pm_H} {i : Instr} {len pc : Nat} {vs : List Value} {ns : List Nat} {lv : List (Nat × tm_V)} {st : List tm_V}
/-- a step of the untyped machine -/
theorem tm_step {G1 : pm_F} (hr : pm_row M.1 pc = some (i, len, vs, ns)) (hf : pm_fin i ns (tm_s st) h = none) (hc : pm_call i ns (tm_s st) h = none) (ha : pm_act P i len vs ns (pc, tm_l lv, tm_s st) h = some (G1, h')) (kk : pm_to P G d M G1 h' r) : pm_to P G d M (tm_m (pc, lv, st)) h r := by
  refine pm_s (F' := G1) (h' := h') ?_ kk
  show pm_stp P M (pc, tm_l lv, tm_s st) h = _
  unfold pm_stp
  simp only [hr, hf, hc, ha]
theorem tm_n (k : Nat) (hs : tm_stps M k F = some F') (kk : pm_to P G d M (tm_m F') h r) : pm_to P G d M (tm_m F) h r := by
  induction k generalizing F with
  | zero =>
    cases hs
    exact kk
  | succ k ih =>
    unfold tm_stps at hs
    cases h1 : tm_one M F with
    | none => simp [h1] at hs
    | some F1 =>
      simp only [h1] at hs
      have kk2 := ih hs
      unfold tm_one at h1
      cases h2 : pm_row M.1 F.1 with
      | none => simp [h2] at h1
      | some q =>
        obtain ⟨i, len, vs, ns⟩ := q
        simp only [h2] at h1
        obtain ⟨pc, lv, st⟩ := F
        have k3 := tm_act_fin (h := h) (tm_s st) h1
        exact tm_step h2 k3.1 k3.2 (tm_act_m h h1) kk2
def tm_cnd (c : ClassFile.Cond) (x y : Int32) : Prop := match c with
  | .eq => x = y
  | .ne => ¬ x = y
  | .lt => x < y
  | .ge => y ≤ x
  | .gt => y < x
  | .le => x ≤ y
theorem tm_cmpT {c : ClassFile.Cond} {x y : Int32} (hc : tm_cnd c x y) : pm_cmp c x y = true := by
  cases c
  case ne => simp only [pm_cmp, decide_eq_false (show ¬ x = y from hc), Bool.not_false]
  all_goals exact decide_eq_true hc
theorem tm_cmpF {c : ClassFile.Cond} {x y : Int32} (hc : ¬ tm_cnd c x y) : pm_cmp c x y = false := by
  cases c
  case ne => simp only [pm_cmp, decide_eq_true (Classical.not_not.mp (show ¬ ¬ x = y from hc)), Bool.not_true]
  all_goals exact decide_eq_false hc
theorem tm_ifT {c : ClassFile.Cond} {o : Int} {t : Nat} {x : Int32} (hr : pm_row M.1 pc = some (.ifCond c o, len, vs, [t])) (hc : tm_cnd c x 0) (kk : pm_to P G d M (tm_m (t, lv, st)) h r) : pm_to P G d M (tm_m (pc, lv, .inl x :: st)) h r := by
  refine tm_step hr rfl rfl (h' := h) ?_ kk
  simp only [pm_act, tm_s, List.map_cons, tm_v, pm_br, tm_cmpT hc, Option.bind_some, if_true, List.head?_cons, Option.map_some]
  rfl
theorem tm_ifF {c : ClassFile.Cond} {o : Int} {t : Nat} {x : Int32} (hr : pm_row M.1 pc = some (.ifCond c o, len, vs, [t])) (hc : ¬ tm_cnd c x 0) (kk : pm_to P G d M (tm_m (pc + len, lv, st)) h r) : pm_to P G d M (tm_m (pc, lv, .inl x :: st)) h r := by
  refine tm_step hr rfl rfl (h' := h) ?_ kk
  simp only [pm_act, tm_s, List.map_cons, tm_v, pm_br, tm_cmpF hc, Option.bind_some, Bool.false_eq_true, if_false]
  rfl
theorem tm_icT {c : ClassFile.Cond} {o : Int} {t : Nat} {x y : Int32} (hr : pm_row M.1 pc = some (.if_icmp c o, len, vs, [t])) (hc : tm_cnd c x y) (kk : pm_to P G d M (tm_m (t, lv, st)) h r) : pm_to P G d M (tm_m (pc, lv, .inl y :: .inl x :: st)) h r := by
  refine tm_step hr rfl rfl (h' := h) ?_ kk
  simp only [pm_act, tm_s, List.map_cons, tm_v, pm_br, tm_cmpT hc, Option.bind_some, if_true, List.head?_cons, Option.map_some]
  rfl
theorem tm_icF {c : ClassFile.Cond} {o : Int} {t : Nat} {x y : Int32} (hr : pm_row M.1 pc = some (.if_icmp c o, len, vs, [t])) (hc : ¬ tm_cnd c x y) (kk : pm_to P G d M (tm_m (pc + len, lv, st)) h r) : pm_to P G d M (tm_m (pc, lv, .inl y :: .inl x :: st)) h r := by
  refine tm_step hr rfl rfl (h' := h) ?_ kk
  simp only [pm_act, tm_s, List.map_cons, tm_v, pm_br, tm_cmpF hc, Option.bind_some, Bool.false_eq_true, if_false]
  rfl
/-- a getfield -/
def lf_V (h : pm_H) (o : Option Nat) (ns : List Nat) : Option tm_V := match o with
  | none => none
  | some a => match h.1[a]? with
    | some (.inl (ci, fs)) => match pm_slot ns ci with
      | some k => match fs[k]? with
        | some v => tm_of v
        | none => none
      | none => none
    | _ => none
def lf_I (h : pm_H) (o : Option Nat) (ns : List Nat) : Option Int32 := match lf_V h o ns with
  | some (.inl x) => some x
  | _ => none
def lf_J (h : pm_H) (o : Option Nat) (ns : List Nat) : Option Int64 := match lf_V h o ns with
  | some (.inr (.inl x)) => some x
  | _ => none
def lf_R (h : pm_H) (o : Option Nat) (ns : List Nat) : Option (Option Nat) := match lf_V h o ns with
  | some (.inr (.inr x)) => some x
  | _ => none
theorem lf_I_V {h : pm_H} {o : Option Nat} {ns : List Nat} {x : Int32} (e : lf_I h o ns = some x) : lf_V h o ns = some (.inl x) := by
  unfold lf_I at e
  split at e
  · next hx => cases e; exact hx
  · cases e
theorem lf_J_V {h : pm_H} {o : Option Nat} {ns : List Nat} {x : Int64} (e : lf_J h o ns = some x) : lf_V h o ns = some (.inr (.inl x)) := by
  unfold lf_J at e
  split at e
  · next hx => cases e; exact hx
  · cases e
theorem lf_R_V {h : pm_H} {o : Option Nat} {ns : List Nat} {x : Option Nat} (e : lf_R h o ns = some x) : lf_V h o ns = some (.inr (.inr x)) := by
  unfold lf_R at e
  split at e
  · next hx => cases e; exact hx
  · cases e
theorem tm_getf {idx : Nat} {o : Option Nat} {x : tm_V} (hr : pm_row M.1 pc = some (.getfield idx, len, vs, ns)) (hv : lf_V h o ns = some x) (kk : pm_to P G d M (tm_m (pc + len, lv, x :: st)) h r) : pm_to P G d M (tm_m (pc, lv, .inr (.inr o) :: st)) h r := by
  refine tm_step hr rfl rfl (h' := h) ?_ kk
  cases o with
  | none => cases hv
  | some a =>
    simp only [lf_V] at hv
    split at hv
    · next ci fs hx =>
      split at hv
      · next k hk =>
        split at hv
        · next v hv2 =>
          simp only [pm_act, tm_s, List.map_cons, tm_v, tm_r, pm_obj, hx, Option.bind_some, hk, hv2, Option.map_some, ← tm_of_v hv]
          rfl
        · cases hv
      · cases hv
    · cases hv
end TM
