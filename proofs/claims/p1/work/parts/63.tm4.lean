/-! typed frames: tm4 -/
/-- how a method ends: a word or none; or the cell that it threw -/
abbrev tm_O : Type := Option tm_V ⊕ Nat
def tm_o (o : tm_O) : pm_O := match o with
  | .inl v => .inl (v.map tm_v)
  | .inr a => .inr a
def tm_e (r : tm_O × pm_H) : pm_O × pm_H := (tm_o r.1, r.2)
def tm_args : Nat → List tm_V → List (Nat × tm_V)
  | _, [] => []
  | i, v :: vs => (i, v) :: tm_args (if tm_c v = 2 then i + 2 else i + 1) vs
theorem tm_args_m : ∀ (as : List tm_V) (i : Nat), lv_args i (tm_s as) = tm_l (tm_args i as) := by
  intro as
  induction as with
  | nil => intro i; rfl
  | cons v vs ih =>
    intro i
    show (i, tm_v v) :: lv_args (if (tm_v v).category = 2 then i + 2 else i + 1) (tm_s vs) = (i, tm_v v) :: tm_l (tm_args (if tm_c v = 2 then i + 2 else i + 1) vs)
    rw [tm_cat, ih]
/-- method y, with the arguments as, ends so -/
def tm_run (P : Nat × List (Nat × Nat)) (G : Nat → pm_M) (d y : Nat) (as : List tm_V) (h : pm_H) (r : tm_O × pm_H) : Prop := pm_to P G d (G y) (tm_m (0, tm_args 0 as, [])) h (tm_e r)
section TM4
variable {P : Nat × List (Nat × Nat)} {G : Nat → pm_M} {d : Nat} {M : pm_M} {F F' : tm_F} {h h' : pm_H} {r : pm_O × pm_H} {i : Instr} {len pc : Nat} {vs : List Value} {ns : List Nat} {lv : List (Nat × tm_V)} {st : List tm_V}
theorem tm_mapc (st : List tm_V) : (tm_s st).map (fun v => v.category) = st.map tm_c := by
  unfold tm_s
  rw [List.map_map]
  exact List.map_congr_left (fun v _ => tm_cat v)
def tm_w (k w : Nat) (st : List tm_V) : Bool := decide (k ≤ st.length) && (decide (((st.take k).map tm_c).sum ≤ w) && decide (((st.drop k).map tm_c).sum ≤ 8))
theorem tm_w_m {k w : Nat} {st : List tm_V} (hw : tm_w k w st = true) : k ≤ (tm_s st).length ∧ (((tm_s st).take k).map fun v => v.category).sum ≤ w ∧ (((tm_s st).drop k).map fun v => v.category).sum ≤ 8 := by
  simp only [tm_w, Bool.and_eq_true, decide_eq_true_eq] at hw
  obtain ⟨h1, h2, h3⟩ := hw
  refine ⟨by unfold tm_s; rw [List.length_map]; exact h1, ?_, ?_⟩
  · rw [show (tm_s st).take k = tm_s (st.take k) from (List.map_take).symm, tm_mapc]
    exact h2
  · rw [show (tm_s st).drop k = tm_s (st.drop k) from (List.map_drop).symm, tm_mapc]
    exact h3
theorem tm_tk (k : Nat) (st : List tm_V) : ((tm_s st).take k).reverse = tm_s (st.take k).reverse := by
  unfold tm_s
  rw [← List.map_take, ← List.map_reverse]
theorem tm_dk (k : Nat) (st : List tm_V) : (tm_s st).drop k = tm_s (st.drop k) := by
  unfold tm_s
  rw [← List.map_drop]
theorem tm_callS {k w y : Nat} (hi : pm_inv i = true) (hw : tm_w k w st = true) : pm_call i (0 :: k :: w :: y :: ns) (tm_s st) h = some (y, tm_s (st.take k).reverse, tm_s (st.drop k)) := by
  have hc := tm_w_m hw
  simp only [pm_call, hi, if_true]
  rw [if_pos hc, tm_tk, tm_dk]
theorem tm_at {k : Nat} {st : List tm_V} {x : tm_V} (hx : st[k]? = some x) : (tm_s st)[k]? = some (tm_v x) := by
  unfold tm_s
  rw [List.getElem?_map, hx]
  rfl
theorem tm_callP {k w y a : Nat} (hi : pm_inv i = true) (hx : st[k]? = some (.inr (.inr (some a)))) (hw : tm_w (k + 1) w st = true) : pm_call i (1 :: k :: w :: y :: ns) (tm_s st) h = some (y, tm_s (st.take (k + 1)).reverse, tm_s (st.drop (k + 1))) := by
  have hc := (tm_w_m hw).2
  have hx2 : (tm_s st)[k]? = some (.ref a) := tm_at hx
  simp only [pm_call, hi, if_true, hx2]
  rw [if_pos hc, tm_tk, tm_dk]
/-- the class of an object -/
def lc_of (h : pm_H) (o : Option Nat) : Option Nat := match o with
  | none => none
  | some a => match h.1[a]? with
    | some (.inl (ci, _)) => some ci
    | _ => none
theorem tm_callV {k w y ci : Nat} {o : Option Nat} (hi : pm_inv i = true) (hx : st[k]? = some (.inr (.inr o))) (hc : lc_of h o = some ci) (hs : pm_slot ns ci = some y) (hw : tm_w (k + 1) w st = true) : pm_call i (2 :: k :: w :: ns) (tm_s st) h = some (y, tm_s (st.take (k + 1)).reverse, tm_s (st.drop (k + 1))) := by
  have hc2 := (tm_w_m hw).2
  have hx2 := tm_at hx
  cases o with
  | none => cases hc
  | some a =>
    unfold lc_of at hc
    simp only at hc
    split at hc
    · next hcell =>
      cases hc
      simp only [pm_call, hi, if_true, hx2, Option.bind_some, show tm_v (Sum.inr (Sum.inr (some a))) = Value.ref a from rfl, pm_obj, hcell, hs]
      rw [if_pos hc2, tm_tk, tm_dk]
    · cases hc
theorem tm_fin_inv {i : Instr} {ns : List Nat} {st : List Value} {h : pm_H} (hi : pm_inv i = true) : pm_fin i ns st h = none := by
  cases i <;> first | (cases hi; done) | rfl
/-- a call that comes back -/
theorem tm_call {y : Nat} {as rest : List tm_V} {v : Option tm_V} (hr : pm_row M.1 pc = some (i, len, vs, ns)) (hi : pm_inv i = true) (hc : pm_call i ns (tm_s st) h = some (y, tm_s as, tm_s rest)) (hy : tm_run P G d y as h (.inl v, h')) (kk : pm_to P G (d + 1) M (tm_m (pc + len, lv, v.toList ++ rest)) h' r) : pm_to P G (d + 1) M (tm_m (pc, lv, st)) h r := by
  refine pm_cl (F := tm_m (pc, lv, st)) (v := v.map tm_v) hr (tm_fin_inv hi) hc ?_ (h1 := h') ?_
  · rw [tm_args_m]; exact hy
  · have e : (v.map tm_v).toList ++ tm_s rest = tm_s (v.toList ++ rest) := by cases v <;> rfl
    rw [e]
    exact kk
/-- a call that throws; nothing here catches it -/
theorem tm_callT {y a ci : Nat} {z : List Value} {as rest : List tm_V} (hr : pm_row M.1 pc = some (i, len, vs, ns)) (hi : pm_inv i = true) (hc : pm_call i ns (tm_s st) h = some (y, tm_s as, tm_s rest)) (hy : tm_run P G d y as h (.inr a, h')) (ha : h'.1[a]? = some (.inl (ci, z))) (hn : M.2 = []) : pm_to P G (d + 1) M (tm_m (pc, lv, st)) h (tm_e (.inr a, h')) := by
  refine pm_clT (F := tm_m (pc, lv, st)) hr (tm_fin_inv hi) hc (a := a) (h1 := h') ?_ ha hn
  rw [tm_args_m]; exact hy
/-- a call that throws; a handler here catches it -/
theorem tm_callC {y a ci t : Nat} {z : List Value} {as rest : List tm_V} (hr : pm_row M.1 pc = some (i, len, vs, ns)) (hi : pm_inv i = true) (hc : pm_call i ns (tm_s st) h = some (y, tm_s as, tm_s rest)) (hy : tm_run P G d y as h (.inr a, h')) (ha : h'.1[a]? = some (.inl (ci, z))) (hn : pm_hnd M.2 pc ci = some t) (kk : pm_to P G (d + 1) M (tm_m (t, lv, [.inr (.inr (some a))])) h' r) : pm_to P G (d + 1) M (tm_m (pc, lv, st)) h r := by
  refine pm_clC (F := tm_m (pc, lv, st)) hr (tm_fin_inv hi) hc (a := a) (h1 := h') ?_ ha hn kk
  rw [tm_args_m]; exact hy
/-- ends -/
theorem tm_retV (hr : pm_row M.1 pc = some (.return_, len, vs, ns)) : pm_to P G d M (tm_m (pc, lv, [])) h (tm_e (.inl none, h)) := pm_end (F := tm_m (pc, lv, [])) hr rfl
theorem tm_retI {x : Int32} (hr : pm_row M.1 pc = some (.ireturn, len, vs, ns)) (hf : pm_fit (ns.headD 0) (.int x) = true) : pm_to P G d M (tm_m (pc, lv, [.inl x])) h (tm_e (.inl (some (.inl x)), h)) := by
  refine pm_end (F := tm_m (pc, lv, [.inl x])) hr ?_
  show pm_fin .ireturn ns [.int x] h = _
  simp only [pm_fin, hf, if_true]
  rfl
theorem tm_retJ {x : Int64} (hr : pm_row M.1 pc = some (.lreturn, len, vs, ns)) : pm_to P G d M (tm_m (pc, lv, [.inr (.inl x)])) h (tm_e (.inl (some (.inr (.inl x))), h)) := pm_end (F := tm_m (pc, lv, [.inr (.inl x)])) hr rfl
theorem tm_retR {o : Option Nat} (hr : pm_row M.1 pc = some (.areturn, len, vs, ns)) : pm_to P G d M (tm_m (pc, lv, [.inr (.inr o)])) h (tm_e (.inl (some (.inr (.inr o))), h)) := by
  cases o with
  | none => exact pm_end (F := tm_m (pc, lv, [.inr (.inr none)])) hr rfl
  | some a => exact pm_end (F := tm_m (pc, lv, [.inr (.inr (some a))])) hr rfl
theorem tm_thr {idx ci sl : Nat} (hr : pm_row M.1 pc = some (.new idx, len, vs, [6, ci, sl, 0])) : pm_to P G d M (tm_m (pc, lv, [])) h (tm_e (.inr h.1.length, lf_new h ci sl [])) := pm_end (F := tm_m (pc, lv, [])) hr rfl
/-- members without rows -/
def tm_w40 (st : List tm_V) : Bool := decide ((st.map tm_c).sum ≤ 40)
theorem tm_w40_m {st : List tm_V} (hw : tm_w40 st = true) : ((tm_s st).map fun v => v.category).sum ≤ 40 := by
  rw [tm_mapc]
  exact of_decide_eq_true hw
theorem tm_oinit {idx a : Nat} (hr : pm_row M.1 pc = some (.invokespecial idx, len, [], [9])) (hw : tm_w40 (.inr (.inr (some a)) :: st) = true) (kk : pm_to P G d M (tm_m (pc + len, lv, st)) h r) : pm_to P G d M (tm_m (pc, lv, .inr (.inr (some a)) :: st)) h r := by
  have hw2 := tm_w40_m hw
  refine tm_step hr rfl rfl (h' := h) ?_ kk
  simp only [pm_act, pm_nat, tm_s, List.map_cons, show tm_v (Sum.inr (Sum.inr (some a))) = Value.ref a from rfl, Option.bind_some]
  exact if_pos hw2
def lf_cp (P : Nat × List (Nat × Nat)) (h : pm_H) (o : Option Nat) (sp : Int32) (dd : Option Nat) (dp n : Int32) : Option pm_H := match la_arr h o with
  | none => none
  | some a => match la_arr h dd with
    | none => none
    | some b => if a.2.1 = b.2.1 ∧ a.2.1 ≠ 9 ∧ P.1 ≤ b.1 ∧ ¬ sp < 0 ∧ ¬ dp < 0 ∧ ¬ n < 0 ∧ sp.toNatClampNeg + n.toNatClampNeg ≤ a.2.2.length ∧ dp.toNatClampNeg + n.toNatClampNeg ≤ b.2.2.length ∧ ((a.2.2.drop sp.toNatClampNeg).take n.toNatClampNeg).all (pm_el P.2 a.2.1 h) = true then some (h.1.set b.1 (.inr (b.2.1, pm_cpy a.2.2 b.2.2 sp.toNatClampNeg dp.toNatClampNeg n.toNatClampNeg)), h.2) else none
theorem tm_acp {idx : Nat} {o dd : Option Nat} {sp dp n : Int32} (hr : pm_row M.1 pc = some (.invokestatic idx, len, [], [8])) (hw : tm_w40 (.inl n :: .inl dp :: .inr (.inr dd) :: .inl sp :: .inr (.inr o) :: st) = true) (hv : lf_cp P h o sp dd dp n = some h') (kk : pm_to P G d M (tm_m (pc + len, lv, st)) h' r) : pm_to P G d M (tm_m (pc, lv, .inl n :: .inl dp :: .inr (.inr dd) :: .inl sp :: .inr (.inr o) :: st)) h r := by
  have hw2 := tm_w40_m hw
  refine tm_step hr rfl rfl (h' := h') ?_ kk
  unfold lf_cp at hv
  split at hv
  · cases hv
  · next a ha =>
    split at hv
    · cases hv
    · next b hb =>
      split at hv
      · next hc =>
        cases hv
        have ha2 : pm_arr h (tm_v (.inr (.inr o))) = some a := (la_arr_m h o).trans ha
        have hb2 : pm_arr h (tm_v (.inr (.inr dd))) = some b := (la_arr_m h dd).trans hb
        have hn : pm_nat P 8 (tm_s (.inl n :: .inl dp :: .inr (.inr dd) :: .inl sp :: .inr (.inr o) :: st)) h = some (tm_s st, (h.1.set b.1 (.inr (b.2.1, pm_cpy a.2.2 b.2.2 sp.toNatClampNeg dp.toNatClampNeg n.toNatClampNeg)), h.2)) := by
          simp only [tm_s, List.map_cons]
          show ((pm_arr h (tm_v (.inr (.inr o)))).bind fun a => (pm_arr h (tm_v (.inr (.inr dd)))).bind fun b => _) = _
          rw [ha2]
          simp only [Option.bind_some]
          rw [hb2]
          simp only [Option.bind_some]
          exact if_pos hc
        simp only [pm_act, hn, Option.bind_some]
        exact if_pos hw2
      · cases hv
def lf_cl (K : Nat) (h : pm_H) (o : Option Nat) : Option pm_H := match la_arr h o with
  | none => none
  | some a => if a.2.1 = 0 ∧ K ≤ a.1 ∧ a.2.2.all (pm_fit 0) = true then some (h.1 ++ [.inr (a.2.1, a.2.2)], h.2 + a.2.2.length) else none
theorem tm_clone {idx : Nat} {o : Option Nat} (hr : pm_row M.1 pc = some (.invokevirtual idx, len, [], [7])) (hw : tm_w40 (.inr (.inr o) :: st) = true) (hv : lf_cl P.1 h o = some h') (kk : pm_to P G d M (tm_m (pc + len, lv, .inr (.inr (some h.1.length)) :: st)) h' r) : pm_to P G d M (tm_m (pc, lv, .inr (.inr o) :: st)) h r := by
  have hw2 := tm_w40_m hw
  refine tm_step hr rfl rfl (h' := h') ?_ kk
  unfold lf_cl at hv
  split at hv
  · cases hv
  · next a ha =>
    split at hv
    · next hc =>
      cases hv
      have ha2 : pm_arr h (tm_v (.inr (.inr o))) = some a := (la_arr_m h o).trans ha
      have hn : pm_nat P 7 (tm_s (.inr (.inr o) :: st)) h = some (.ref h.1.length :: tm_s st, (h.1 ++ [.inr (a.2.1, a.2.2)], h.2 + a.2.2.length)) := by
        simp only [tm_s, List.map_cons, pm_nat, ha2, Option.bind_some]
        exact if_pos hc
      simp only [pm_act, hn, Option.bind_some]
      exact if_pos hw2
    · cases hv
def lf_gc (h : pm_H) (o : Option Nat) : Bool := match la_arr h o with
  | none => false
  | some a => decide (a.2.1 = 13)
theorem tm_gcl {idx k : Nat} {o : Option Nat} (hr : pm_row M.1 pc = some (.invokevirtual idx, len, [.ref k], [4])) (hw : tm_w40 (.inr (.inr o) :: st) = true) (hv : lf_gc h o = true) (kk : pm_to P G d M (tm_m (pc + len, lv, .inr (.inr (some k)) :: st)) h r) : pm_to P G d M (tm_m (pc, lv, .inr (.inr o) :: st)) h r := by
  have hw2 := tm_w40_m hw
  refine tm_step hr rfl rfl (h' := h) ?_ kk
  unfold lf_gc at hv
  split at hv
  · cases hv
  · next a ha =>
    have h13 := of_decide_eq_true hv
    have ha2 : pm_arr h (tm_v (.inr (.inr o))) = some a := (la_arr_m h o).trans ha
    simp only [tm_s, List.map_cons] at hw2
    simp only [pm_act, tm_s, List.map_cons, ha2, Option.bind_some]
    exact if_pos ⟨by trivial, h13, hw2⟩
end TM4
