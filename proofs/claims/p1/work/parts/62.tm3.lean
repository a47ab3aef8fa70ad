/-! typed frames: tm3 -/
section TM3
variable {P : Nat × List (Nat × Nat)} {G : Nat → pm_M} {d : Nat} {M : pm_M} {F F' : tm_F} {h h' : pm_H} {r : pm_O × pm_H} {i : Instr} {len pc : Nat} {vs : List Value} {ns : List Nat} {lv : List (Nat × tm_V)} {st : List tm_V}
/-- the road by references -/
theorem tm_nuT {o : Int} {t : Nat} (hr : pm_row M.1 pc = some (.ifnull o, len, vs, [t])) (kk : pm_to P G d M (tm_m (t, lv, st)) h r) : pm_to P G d M (tm_m (pc, lv, .inr (.inr none) :: st)) h r := tm_step hr rfl rfl (h' := h) rfl kk
theorem tm_nuF {o : Int} {t a : Nat} (hr : pm_row M.1 pc = some (.ifnull o, len, vs, [t])) (kk : pm_to P G d M (tm_m (pc + len, lv, st)) h r) : pm_to P G d M (tm_m (pc, lv, .inr (.inr (some a)) :: st)) h r := tm_step hr rfl rfl (h' := h) rfl kk
theorem tm_nnF {o : Int} {t : Nat} (hr : pm_row M.1 pc = some (.ifnonnull o, len, vs, [t])) (kk : pm_to P G d M (tm_m (pc + len, lv, st)) h r) : pm_to P G d M (tm_m (pc, lv, .inr (.inr none) :: st)) h r := tm_step hr rfl rfl (h' := h) rfl kk
theorem tm_nnT {o : Int} {t a : Nat} (hr : pm_row M.1 pc = some (.ifnonnull o, len, vs, [t])) (kk : pm_to P G d M (tm_m (t, lv, st)) h r) : pm_to P G d M (tm_m (pc, lv, .inr (.inr (some a)) :: st)) h r := tm_step hr rfl rfl (h' := h) rfl kk
/-- may two references be compared? then: are they the same? -/
def tm_acm (a b : Option Nat) : Option Bool := if (decide (a = b) || (pm_idn a && pm_idn b)) = true then some (decide (a = b)) else none
theorem tm_rfo (o : Option Nat) : pm_rfo (tm_r o) = some o := by cases o <;> rfl
theorem tm_acm_c {a b : Option Nat} {t : Bool} (e : tm_acm a b = some t) : (decide (a = b) || (pm_idn a && pm_idn b)) = true ∧ t = decide (a = b) := by
  unfold tm_acm at e
  split at e
  · next hc => cases e; exact ⟨hc, rfl⟩
  · cases e
theorem tm_aeT {o : Int} {t : Nat} {a b : Option Nat} (hr : pm_row M.1 pc = some (.if_acmp .eq o, len, vs, [t])) (hc : tm_acm a b = some true) (kk : pm_to P G d M (tm_m (t, lv, st)) h r) : pm_to P G d M (tm_m (pc, lv, .inr (.inr b) :: .inr (.inr a) :: st)) h r := by
  obtain ⟨h1, h2⟩ := tm_acm_c hc
  rw [← h2] at h1
  refine tm_step hr rfl rfl (h' := h) ?_ kk
  simp only [pm_act, tm_s, List.map_cons, tm_v, pm_br, tm_rfo, Option.bind_some, h1, ← h2, if_true, List.head?_cons, Option.map_some]
  rfl
theorem tm_aeF {o : Int} {t : Nat} {a b : Option Nat} (hr : pm_row M.1 pc = some (.if_acmp .eq o, len, vs, [t])) (hc : tm_acm a b = some false) (kk : pm_to P G d M (tm_m (pc + len, lv, st)) h r) : pm_to P G d M (tm_m (pc, lv, .inr (.inr b) :: .inr (.inr a) :: st)) h r := by
  obtain ⟨h1, h2⟩ := tm_acm_c hc
  rw [← h2] at h1
  refine tm_step hr rfl rfl (h' := h) ?_ kk
  simp only [pm_act, tm_s, List.map_cons, tm_v, pm_br, tm_rfo, Option.bind_some, h1, ← h2, if_true, Bool.false_eq_true, if_false]
  rfl
theorem tm_anT {o : Int} {t : Nat} {a b : Option Nat} (hr : pm_row M.1 pc = some (.if_acmp .ne o, len, vs, [t])) (hc : tm_acm a b = some false) (kk : pm_to P G d M (tm_m (t, lv, st)) h r) : pm_to P G d M (tm_m (pc, lv, .inr (.inr b) :: .inr (.inr a) :: st)) h r := by
  obtain ⟨h1, h2⟩ := tm_acm_c hc
  rw [← h2] at h1
  refine tm_step hr rfl rfl (h' := h) ?_ kk
  simp only [pm_act, tm_s, List.map_cons, tm_v, pm_br, tm_rfo, Option.bind_some, h1, ← h2, if_true, Bool.not_false, List.head?_cons, Option.map_some]
  rfl
theorem tm_anF {o : Int} {t : Nat} {a b : Option Nat} (hr : pm_row M.1 pc = some (.if_acmp .ne o, len, vs, [t])) (hc : tm_acm a b = some true) (kk : pm_to P G d M (tm_m (pc + len, lv, st)) h r) : pm_to P G d M (tm_m (pc, lv, .inr (.inr b) :: .inr (.inr a) :: st)) h r := by
  obtain ⟨h1, h2⟩ := tm_acm_c hc
  rw [← h2] at h1
  refine tm_step hr rfl rfl (h' := h) ?_ kk
  simp only [pm_act, tm_s, List.map_cons, tm_v, pm_br, tm_rfo, Option.bind_some, h1, ← h2, if_true, Bool.not_true, Bool.false_eq_true, if_false]
  rfl
theorem tm_swt {x : Int32} {t : Nat} {dd lo hi : Int} {os : Array Int} (hr : pm_row M.1 pc = some (.tableswitch dd lo hi os, len, vs, ns)) (hs : pm_sw x vs ns = some t) (kk : pm_to P G d M (tm_m (t, lv, st)) h r) : pm_to P G d M (tm_m (pc, lv, .inl x :: st)) h r := by
  refine tm_step hr rfl rfl (h' := h) ?_ kk
  simp only [pm_act, tm_s, List.map_cons, tm_v, hs, Option.map_some]
  rfl
theorem tm_swl {x : Int32} {t : Nat} {dd : Int} {ps : Array (Int × Int)} (hr : pm_row M.1 pc = some (.lookupswitch dd ps, len, vs, ns)) (hs : pm_sw x vs ns = some t) (kk : pm_to P G d M (tm_m (t, lv, st)) h r) : pm_to P G d M (tm_m (pc, lv, .inl x :: st)) h r := by
  refine tm_step hr rfl rfl (h' := h) ?_ kk
  simp only [pm_act, tm_s, List.map_cons, tm_v, hs, Option.map_some]
  rfl
/-- a putfield -/
def lf_P (K : Nat) (h : pm_H) (o : Option Nat) (ns : List Nat) (v : tm_V) : Option pm_H := match o with
  | none => none
  | some a => match h.1[a]? with
    | some (.inl (ci, fs)) => match pm_slot ns.tail ci with
      | some k => if K ≤ a ∧ k < fs.length ∧ pm_fit (ns.headD 0) (tm_v v) = true then some (h.1.set a (.inl (ci, fs.set k (tm_v v))), h.2) else none
      | none => none
    | _ => none
theorem tm_putf {idx : Nat} {o : Option Nat} {v : tm_V} {t : Nat} (hr : pm_row M.1 pc = some (.putfield idx, len, vs, t :: ns)) (hv : lf_P P.1 h o (t :: ns) v = some h') (kk : pm_to P G d M (tm_m (pc + len, lv, st)) h' r) : pm_to P G d M (tm_m (pc, lv, v :: .inr (.inr o) :: st)) h r := by
  refine tm_step hr rfl rfl (h' := h') ?_ kk
  cases o with
  | none => cases hv
  | some a =>
    simp only [lf_P] at hv
    split at hv
    · next ci fs hx =>
      change (match pm_slot ns ci with
        | some k => if P.1 ≤ a ∧ k < fs.length ∧ pm_fit t (tm_v v) = true then some (h.1.set a (.inl (ci, fs.set k (tm_v v))), h.2) else none
        | none => none) = some h' at hv
      split at hv
      · next k hk =>
        by_cases hc : P.1 ≤ a ∧ k < fs.length ∧ pm_fit t (tm_v v) = true
        · rw [if_pos hc] at hv
          cases hv
          simp only [pm_act, tm_s, List.map_cons]
          simp only [show tm_v (Sum.inr (Sum.inr (some a))) = Value.ref a from rfl, pm_obj, hx, Option.bind_some, hk, if_pos hc]
          rfl
        · rw [if_neg hc] at hv
          cases hv
      · cases hv
    · cases hv
/-- new things -/
def lf_new (h : pm_H) (ci sl : Nat) (vs : List Value) : pm_H := (h.1 ++ [.inl (ci, vs)], h.2 + sl)
theorem tm_new {idx ci sl : Nat} (hr : pm_row M.1 pc = some (.new idx, len, vs, [ci, sl])) (kk : pm_to P G d M (tm_m (pc + len, lv, .inr (.inr (some h.1.length)) :: st)) (lf_new h ci sl vs) r) : pm_to P G d M (tm_m (pc, lv, st)) h r := by
  refine tm_step hr ?_ rfl (h' := lf_new h ci sl vs) rfl kk
  cases st with
  | nil => simp [pm_fin, tm_s]
  | cons a b => rfl
def lf_na (h : pm_H) (t : Nat) (v : Value) (k : Int32) : Option pm_H := if k < 0 then none else if k.toNatClampNeg ≤ 1000000 then some (h.1 ++ [.inr (t, List.replicate k.toNatClampNeg v)], h.2 + k.toNatClampNeg) else none
theorem tm_newarr {ty : ArrayType} {t : Nat} {v : Value} {k : Int32} (hr : pm_row M.1 pc = some (.newarray ty, len, [v], [t])) (hv : lf_na h t v k = some h') (kk : pm_to P G d M (tm_m (pc + len, lv, .inr (.inr (some h.1.length)) :: st)) h' r) : pm_to P G d M (tm_m (pc, lv, .inl k :: st)) h r := by
  refine tm_step hr rfl rfl (h' := h') ?_ kk
  unfold lf_na at hv
  split at hv
  · cases hv
  · next h1 =>
    split at hv
    · next h2 =>
      cases hv
      simp only [pm_act, tm_s, List.map_cons, tm_v, if_neg h1, if_pos h2]
      rfl
    · cases hv
theorem tm_anew {idx t : Nat} {v : Value} {k : Int32} (hr : pm_row M.1 pc = some (.anewarray idx, len, [v], [t])) (hv : lf_na h t v k = some h') (kk : pm_to P G d M (tm_m (pc + len, lv, .inr (.inr (some h.1.length)) :: st)) h' r) : pm_to P G d M (tm_m (pc, lv, .inl k :: st)) h r := by
  refine tm_step hr rfl rfl (h' := h') ?_ kk
  unfold lf_na at hv
  split at hv
  · cases hv
  · next h1 =>
    split at hv
    · next h2 =>
      cases hv
      simp only [pm_act, tm_s, List.map_cons, tm_v, if_neg h1, if_pos h2]
      rfl
    · cases hv
/-- an array: its kind and its places -/
def la_arr (h : pm_H) (o : Option Nat) : Option (Nat × Nat × List Value) := match o with
  | none => none
  | some a => match h.1[a]? with
    | some (.inr (t, xs)) => some (a, t, xs)
    | _ => none
theorem la_arr_m (h : pm_H) (o : Option Nat) : pm_arr h (tm_v (.inr (.inr o))) = la_arr h o := by
  cases o with
  | none => rfl
  | some a =>
    show (match h.1[a]? with | some (.inr (t, vs)) => some (a, t, vs) | _ => none) = (match h.1[a]? with | some (.inr (t, xs)) => some (a, t, xs) | _ => none)
    rfl
def la_len (h : pm_H) (o : Option Nat) : Option Int32 := match la_arr h o with
  | some q => if q.2.1 = 9 then none else some q.2.2.length.toInt32
  | none => none
theorem tm_alen {o : Option Nat} {x : Int32} (hr : pm_row M.1 pc = some (.arraylength, len, vs, ns)) (hv : la_len h o = some x) (kk : pm_to P G d M (tm_m (pc + len, lv, .inl x :: st)) h r) : pm_to P G d M (tm_m (pc, lv, .inr (.inr o) :: st)) h r := by
  refine tm_step hr rfl rfl (h' := h) ?_ kk
  unfold la_len at hv
  split at hv
  · next q hq =>
    split at hv
    · cases hv
    · next hc =>
      cases hv
      simp only [pm_act, tm_s, List.map_cons, la_arr_m, hq, Option.bind_some, if_neg hc]
      rfl
  · cases hv
def la_ix (x : Int32) (n : Nat) : Option Nat := if x < 0 then none else if x.toNatClampNeg < n then some x.toNatClampNeg else none
/-- an array's place -/
def la_V (h : pm_H) (i : Instr) (o : Option Nat) (x : Int32) : Option tm_V := match la_arr h o with
  | some q => if pm_ldk i q.2.1 = true then (match la_ix x q.2.2.length with
    | some k => match q.2.2[k]? with
      | some v => tm_of v
      | none => none
    | none => none) else none
  | none => none
def la_I (h : pm_H) (i : Instr) (o : Option Nat) (x : Int32) : Option Int32 := match la_V h i o x with
  | some (.inl x) => some x
  | _ => none
def la_J (h : pm_H) (i : Instr) (o : Option Nat) (x : Int32) : Option Int64 := match la_V h i o x with
  | some (.inr (.inl x)) => some x
  | _ => none
def la_R (h : pm_H) (i : Instr) (o : Option Nat) (x : Int32) : Option (Option Nat) := match la_V h i o x with
  | some (.inr (.inr x)) => some x
  | _ => none
theorem la_I_V {h : pm_H} {i : Instr} {o : Option Nat} {k x : Int32} (e : la_I h i o k = some x) : la_V h i o k = some (.inl x) := by
  unfold la_I at e
  split at e
  · next hx => cases e; exact hx
  · cases e
theorem la_J_V {h : pm_H} {i : Instr} {o : Option Nat} {k : Int32} {x : Int64} (e : la_J h i o k = some x) : la_V h i o k = some (.inr (.inl x)) := by
  unfold la_J at e
  split at e
  · next hx => cases e; exact hx
  · cases e
theorem la_R_V {h : pm_H} {i : Instr} {o x : Option Nat} {k : Int32} (e : la_R h i o k = some x) : la_V h i o k = some (.inr (.inr x)) := by
  unfold la_R at e
  split at e
  · next hx => cases e; exact hx
  · cases e
def la_isl (i : Instr) : Bool := match i with
  | .iaload | .laload | .baload | .caload | .saload | .aaload => true
  | _ => false
def la_iss (i : Instr) : Bool := match i with
  | .iastore | .lastore | .bastore | .castore | .sastore | .aastore => true
  | _ => false
theorem tm_ald {o : Option Nat} {k : Int32} {x : tm_V} (hr : pm_row M.1 pc = some (i, len, vs, ns)) (hi : la_isl i = true) (hv : la_V h i o k = some x) (kk : pm_to P G d M (tm_m (pc + len, lv, x :: st)) h r) : pm_to P G d M (tm_m (pc, lv, .inl k :: .inr (.inr o) :: st)) h r := by
  have key : pm_act P i len vs ns (pc, tm_l lv, tm_s (.inl k :: .inr (.inr o) :: st)) h = some (tm_m (pc + len, lv, x :: st), h) := by
    unfold la_V at hv
    split at hv
    · next q hq =>
      split at hv
      · next hc =>
        split at hv
        · next j hj =>
          split at hv
          · next v hv2 =>
            have hx : pm_ix (tm_v (.inl k)) q.2.2.length = some j := hj
            have hq2 : pm_arr h (tm_v (.inr (.inr o))) = some q := (la_arr_m h o).trans hq
            cases i <;> first | (cases hi; done) | (simp only [pm_act, tm_s, List.map_cons, hq2, Option.bind_some, hc, if_true, hx, hv2, Option.map_some, ← tm_of_v hv]; rfl)
          · cases hv
        · cases hv
      · cases hv
    · cases hv
  refine tm_step hr ?_ ?_ (h' := h) key kk
  · cases i <;> first | (cases hi; done) | rfl
  · cases i <;> first | (cases hi; done) | rfl
def la_S (P : Nat × List (Nat × Nat)) (h : pm_H) (i : Instr) (o : Option Nat) (x : Int32) (v : tm_V) : Option pm_H := match la_arr h o with
  | some q => match la_ix x q.2.2.length with
    | some k => match pm_nar P.2 i q.2.1 h (tm_v v) with
      | some w => if P.1 ≤ q.1 then some (h.1.set q.1 (.inr (q.2.1, q.2.2.set k w)), h.2) else none
      | none => none
    | none => none
  | none => none
theorem tm_ast {o : Option Nat} {k : Int32} {v : tm_V} (hr : pm_row M.1 pc = some (i, len, vs, ns)) (hi : la_iss i = true) (hv : la_S P h i o k v = some h') (kk : pm_to P G d M (tm_m (pc + len, lv, st)) h' r) : pm_to P G d M (tm_m (pc, lv, v :: .inl k :: .inr (.inr o) :: st)) h r := by
  have key : pm_act P i len vs ns (pc, tm_l lv, tm_s (v :: .inl k :: .inr (.inr o) :: st)) h = some (tm_m (pc + len, lv, st), h') := by
    unfold la_S at hv
    split at hv
    · next q hq =>
      split at hv
      · next j hj =>
        split at hv
        · next w hw =>
          split at hv
          · next hc =>
            cases hv
            have hx : pm_ix (tm_v (.inl k)) q.2.2.length = some j := hj
            have hq2 : pm_arr h (tm_v (.inr (.inr o))) = some q := (la_arr_m h o).trans hq
            cases i <;> first | (cases hi; done) | (simp only [pm_act, tm_s, List.map_cons, hq2, Option.bind_some, hx, hw, if_pos hc]; rfl)
          · cases hv
        · cases hv
      · cases hv
    · cases hv
  refine tm_step hr ?_ ?_ (h' := h') key kk
  · cases i <;> first | (cases hi; done) | rfl
  · cases i <;> first | (cases hi; done) | rfl
/-- a cast -/
def lf_cc (K : Nat) (h : pm_H) (o : Option Nat) (ns : List Nat) : Bool := match o with
  | none => true
  | some a => match h.1[a]? with
    | some (.inl (ci, _)) => ns.contains ci
    | some (.inr (t, _)) => ns.contains (1000 + t) && (decide (t ≠ 9) && decide (K ≤ a))
    | none => false
theorem tm_cc {idx : Nat} {o : Option Nat} (hr : pm_row M.1 pc = some (.checkcast idx, len, vs, ns)) (hv : lf_cc P.1 h o ns = true) (kk : pm_to P G d M (tm_m (pc + len, lv, .inr (.inr o) :: st)) h r) : pm_to P G d M (tm_m (pc, lv, .inr (.inr o) :: st)) h r := by
  refine tm_step hr rfl rfl (h' := h) ?_ kk
  cases o with
  | none => rfl
  | some a =>
    simp only [lf_cc] at hv
    simp only [pm_act, tm_s, List.map_cons, show tm_v (Sum.inr (Sum.inr (some a))) = Value.ref a from rfl]
    split at hv
    · next hx => simp only [hx, if_pos hv]; rfl
    · next hx =>
      simp only [Bool.and_eq_true, decide_eq_true_eq] at hv
      simp only [hx, if_pos hv]
      rfl
    · cases hv
end TM3
