/-! TYPED FRAMES: a word is an int, a long, or a reference that may be null -/
abbrev tm_V : Type := Int32 ⊕ (Int64 ⊕ Option Nat)
def tm_r (o : Option Nat) : Value := match o with
  | none => .null
  | some a => .ref a
def tm_v (x : tm_V) : Value := match x with
  | .inl i => .int i
  | .inr (.inl j) => .long j
  | .inr (.inr o) => tm_r o
def tm_c (x : tm_V) : Nat := match x with
  | .inl _ => 1
  | .inr (.inl _) => 2
  | .inr (.inr _) => 1
def tm_of (v : Value) : Option tm_V := match v with
  | .int x => some (.inl x)
  | .long x => some (.inr (.inl x))
  | .null => some (.inr (.inr none))
  | .ref a => some (.inr (.inr (some a)))
  | _ => none
theorem tm_cat (x : tm_V) : (tm_v x).category = tm_c x := by
  rcases x with i | j | o
  · rfl
  · rfl
  · cases o <;> rfl
theorem tm_of_v {v : Value} {x : tm_V} (h : tm_of v = some x) : tm_v x = v := by
  cases v <;> cases h <;> rfl
abbrev tm_F : Type := Nat × List (Nat × tm_V) × List tm_V
def tm_l (lv : List (Nat × tm_V)) : List (Nat × Value) := lv.map (fun q => (q.1, tm_v q.2))
def tm_s (st : List tm_V) : List Value := st.map tm_v
def tm_m (F : tm_F) : pm_F := (F.1, tm_l F.2.1, tm_s F.2.2)
def tm_ld : List (Nat × tm_V) → Nat → Option tm_V
  | [], _ => none
  | (j, v) :: r, i => if j = i then some v else tm_ld r i
def tm_st1 (lv : List (Nat × tm_V)) (i : Nat) (v : tm_V) : List (Nat × tm_V) := (i, v) :: lv.filter (fun q => !(q.1 == i) && !(q.1 + 1 == i && tm_c q.2 == 2))
def tm_st2 (lv : List (Nat × tm_V)) (i : Nat) (v : tm_V) : List (Nat × tm_V) := (i, v) :: lv.filter (fun q => !(q.1 == i) && (!(q.1 == i + 1) && !(q.1 + 1 == i && tm_c q.2 == 2)))
theorem tm_ld_m : ∀ (lv : List (Nat × tm_V)) (i : Nat), pm_ld (tm_l lv) i = (tm_ld lv i).map tm_v := by
  intro lv
  induction lv with
  | nil => intro i; rfl
  | cons q r ih =>
    intro i
    obtain ⟨j, v⟩ := q
    show (if j = i then some (tm_v v) else pm_ld (tm_l r) i) = (if j = i then some v else tm_ld r i).map tm_v
    split
    · rfl
    · exact ih i
theorem tm_st1_m (lv : List (Nat × tm_V)) (i : Nat) (v : tm_V) : pm_st1 (tm_l lv) i (tm_v v) = tm_l (tm_st1 lv i v) := by
  unfold pm_st1 tm_st1 tm_l
  rw [List.filter_map, List.map_cons]
  congr 2
  apply List.filter_congr
  intro q _
  simp only [Function.comp, tm_cat]
theorem tm_st2_m (lv : List (Nat × tm_V)) (i : Nat) (v : tm_V) : pm_st2 (tm_l lv) i (tm_v v) = tm_l (tm_st2 lv i v) := by
  unfold pm_st2 tm_st2 tm_l
  rw [List.filter_map, List.map_cons]
  congr 2
  apply List.filter_congr
  intro q _
  simp only [Function.comp, tm_cat]
def tm_bin (i : Instr) (x y : tm_V) : Option tm_V := match x, y with
  | .inl a, .inl b => match i with
    | .iadd => some (.inl (a + b))
    | .isub => some (.inl (a - b))
    | .imul => some (.inl (a * b))
    | .iand => some (.inl (a &&& b))
    | .ior => some (.inl (a ||| b))
    | .ixor => some (.inl (a ^^^ b))
    | .idiv => if b = 0 then none else some (.inl (a / b))
    | .irem => if b = 0 then none else some (.inl (a - a / b * b))
    | .ishl => some (.inl (a <<< (b &&& 31)))
    | .ishr => some (.inl (a >>> (b &&& 31)))
    | .iushr => some (.inl ((a.toUInt32 >>> (b.toUInt32 &&& Int32.toUInt32 31)).toInt32))
    | _ => none
  | .inr (.inl a), .inr (.inl b) => match i with
    | .ladd => some (.inr (.inl (a + b)))
    | .lsub => some (.inr (.inl (a - b)))
    | .lmul => some (.inr (.inl (a * b)))
    | .land => some (.inr (.inl (a &&& b)))
    | .lor => some (.inr (.inl (a ||| b)))
    | .lxor => some (.inr (.inl (a ^^^ b)))
    | .ldiv => if b = 0 then none else some (.inr (.inl (a / b)))
    | .lrem => if b = 0 then none else some (.inr (.inl (a - a / b * b)))
    | .lcmp => some (.inl (lg_cmp a b))
    | _ => none
  | .inr (.inl a), .inl b => match i with
    | .lshl => some (.inr (.inl (a <<< (b.toInt64 &&& 63))))
    | .lshr => some (.inr (.inl (a >>> (b.toInt64 &&& 63))))
    | .lushr => some (.inr (.inl ((a.toUInt64 >>> (b.toInt64.toUInt64 &&& Int64.toUInt64 63)).toInt64)))
    | _ => none
  | _, _ => none
theorem tm_bin_m {i : Instr} {x y z : tm_V} (h : tm_bin i x y = some z) : pm_bin i (tm_v x) (tm_v y) = some (tm_v z) := by
  rcases x with a | a | a <;> rcases y with b | b | b <;> cases i <;> simp only [tm_bin] at h <;> first
    | (cases h; done)
    | (cases h; rfl)
    | (split at h
       · cases h
       · next hc => cases h; simp only [pm_bin, tm_v, pm_ii, pm_ll, if_neg hc, Option.map_some])
def tm_un (i : Instr) (x : tm_V) : Option tm_V := match i, x with
  | .ineg, .inl a => some (.inl (-a))
  | .lneg, .inr (.inl a) => some (.inr (.inl (-a)))
  | .i2l, .inl a => some (.inr (.inl a.toInt64))
  | .l2i, .inr (.inl a) => some (.inl a.toInt32)
  | .i2b, .inl a => some (.inl a.toInt8.toInt32)
  | .i2s, .inl a => some (.inl a.toInt16.toInt32)
  | .i2c, .inl a => some (.inl (a.toUInt32 % 65536).toInt32)
  | _, _ => none
theorem tm_un_m {i : Instr} {x z : tm_V} (h : tm_un i x = some z) : pm_un i (tm_v x) = some (tm_v z) := by
  rcases x with a | a | a <;> cases i <;> first | (cases h; done) | (cases h; rfl)
def tm_stk (i : Instr) (st : List tm_V) : Option (List tm_V) := match i, st with
  | .dup, a :: r => if tm_c a = 1 then some (a :: a :: r) else none
  | .pop, a :: r => if tm_c a = 1 then some r else none
  | .dup_x1, a :: b :: r => if tm_c a = 1 ∧ tm_c b = 1 then some (a :: b :: a :: r) else none
  | .dup_x2, a :: b :: d :: r => if tm_c a = 1 ∧ tm_c b = 1 ∧ tm_c d = 1 then some (a :: b :: d :: a :: r) else none
  | .dup2, a :: r => if tm_c a = 2 then some (a :: a :: r) else match r with
    | b :: r2 => if tm_c b = 1 then some (a :: b :: a :: b :: r2) else none
    | [] => none
  | .pop2, a :: r => if tm_c a = 2 then some r else match r with
    | b :: r2 => if tm_c b = 1 then some r2 else none
    | [] => none
  | _, _ => none
theorem tm_stk_m {i : Instr} {st st' : List tm_V} (h : tm_stk i st = some st') : pm_stk i (tm_s st) = some (tm_s st') := by
  unfold tm_stk at h
  split at h
  · split at h
    · next hc => cases h; simp only [tm_s, List.map_cons, pm_stk, tm_cat, if_pos hc]
    · cases h
  · split at h
    · next hc => cases h; simp only [tm_s, List.map_cons, pm_stk, tm_cat, if_pos hc]
    · cases h
  · split at h
    · next hc => cases h; simp only [tm_s, List.map_cons, pm_stk, tm_cat, if_pos hc]
    · cases h
  · split at h
    · next hc => cases h; simp only [tm_s, List.map_cons, pm_stk, tm_cat, if_pos hc]
    · cases h
  · split at h
    · next hc => cases h; simp only [tm_s, List.map_cons, pm_stk, tm_cat, if_pos hc]
    · next hc =>
      split at h
      · split at h
        · next hc2 => cases h; simp only [tm_s, List.map_cons, pm_stk, tm_cat, if_neg hc, if_pos hc2]
        · cases h
      · cases h
  · split at h
    · next hc => cases h; simp only [tm_s, List.map_cons, pm_stk, tm_cat, if_pos hc]
    · next hc =>
      split at h
      · split at h
        · next hc2 => cases h; simp only [tm_s, List.map_cons, pm_stk, tm_cat, if_neg hc, if_pos hc2]
        · cases h
      · cases h
  · cases h
/-- rows that touch neither heap nor road -/
def tm_act (i : Instr) (n : Nat) (vs : List Value) (ns : List Nat) (F : tm_F) : Option tm_F := match i with
  | .iconst _ | .bipush _ | .sipush _ | .lconst _ | .ldc _ | .ldc_w _ | .ldc2_w _ | .aconst_null | .getstatic _ => match vs with
    | [v] => match tm_of v with
      | some x => some (F.1 + n, F.2.1, x :: F.2.2)
      | none => none
    | _ => none
  | .iload _ | .iload_n _ => match ns with
    | j :: _ => match tm_ld F.2.1 j with
      | some (.inl x) => some (F.1 + n, F.2.1, .inl x :: F.2.2)
      | _ => none
    | _ => none
  | .lload _ | .lload_n _ => match ns with
    | j :: _ => match tm_ld F.2.1 j with
      | some (.inr (.inl x)) => some (F.1 + n, F.2.1, .inr (.inl x) :: F.2.2)
      | _ => none
    | _ => none
  | .aload _ | .aload_n _ => match ns with
    | j :: _ => match tm_ld F.2.1 j with
      | some (.inr (.inr x)) => some (F.1 + n, F.2.1, .inr (.inr x) :: F.2.2)
      | _ => none
    | _ => none
  | .istore _ | .istore_n _ => match ns, F.2.2 with
    | [j], .inl v :: st => some (F.1 + n, tm_st1 F.2.1 j (.inl v), st)
    | _, _ => none
  | .astore _ | .astore_n _ => match ns, F.2.2 with
    | [j], .inr (.inr v) :: st => some (F.1 + n, tm_st1 F.2.1 j (.inr (.inr v)), st)
    | _, _ => none
  | .lstore _ | .lstore_n _ => match ns, F.2.2 with
    | [j], .inr (.inl v) :: st => some (F.1 + n, tm_st2 F.2.1 j (.inr (.inl v)), st)
    | _, _ => none
  | .iinc _ _ => match ns, vs with
    | [j], [.int d] => match tm_ld F.2.1 j with
      | some (.inl x) => some (F.1 + n, tm_st1 F.2.1 j (.inl (x + d)), F.2.2)
      | _ => none
    | _, _ => none
  | .iadd | .isub | .imul | .iand | .ior | .ixor | .idiv | .irem | .ishl | .ishr | .iushr | .ladd | .lsub | .lmul | .land | .lor | .lxor | .ldiv | .lrem | .lshl | .lshr | .lushr | .lcmp => match F.2.2 with
    | y :: x :: r => match tm_bin i x y with
      | some v => some (F.1 + n, F.2.1, v :: r)
      | none => none
    | _ => none
  | .ineg | .lneg | .i2l | .l2i | .i2b | .i2s | .i2c => match F.2.2 with
    | x :: r => match tm_un i x with
      | some v => some (F.1 + n, F.2.1, v :: r)
      | none => none
    | _ => none
  | .dup | .pop | .dup_x1 | .dup_x2 | .dup2 | .pop2 => match tm_stk i F.2.2 with
    | some st => some (F.1 + n, F.2.1, st)
    | none => none
  | .goto _ => match ns with
    | t :: _ => some (t, F.2.1, F.2.2)
    | _ => none
  | _ => none
theorem tm_fit0 (x : Int32) : pm_fit 0 (tm_v (.inl x)) = true := rfl
theorem tm_fit1 (x : Int64) : pm_fit 1 (tm_v (.inr (.inl x))) = true := rfl
theorem tm_fit2 (o : Option Nat) : pm_fit 2 (tm_v (.inr (.inr o))) = true := by cases o <;> rfl
theorem tm_act_m {P : Nat × List (Nat × Nat)} {i : Instr} {n : Nat} {vs : List Value} {ns : List Nat} {F F' : tm_F} (h : pm_H) (e : tm_act i n vs ns F = some F') : pm_act P i n vs ns (tm_m F) h = some (tm_m F', h) := by
  obtain ⟨pc, lv, st⟩ := F
  cases i
  case iconst | bipush | sipush | lconst | ldc | ldc_w | ldc2_w | aconst_null | getstatic =>
    all_goals
      simp only [tm_act] at e
      split at e
      · split at e
        · next hx => cases e; simp only [pm_act, tm_m, tm_s, List.map_cons, tm_of_v hx]
        · cases e
      · cases e
  case iload | iload_n =>
    all_goals
      simp only [tm_act] at e
      split at e
      · split at e
        · next hx => cases e; simp only [pm_act, tm_m, tm_s, List.map_cons, List.head?_cons, Option.bind_some, tm_ld_m, hx, Option.map_some, tm_fit0, if_true]
        · cases e
      · cases e
  case lload | lload_n =>
    all_goals
      simp only [tm_act] at e
      split at e
      · split at e
        · next hx => cases e; simp only [pm_act, tm_m, tm_s, List.map_cons, List.head?_cons, Option.bind_some, tm_ld_m, hx, Option.map_some, tm_fit1, if_true]
        · cases e
      · cases e
  case aload | aload_n =>
    all_goals
      simp only [tm_act] at e
      split at e
      · split at e
        · next hx => cases e; simp only [pm_act, tm_m, tm_s, List.map_cons, List.head?_cons, Option.bind_some, tm_ld_m, hx, Option.map_some, tm_fit2, if_true]
        · cases e
      · cases e
  case istore | istore_n =>
    all_goals
      simp only [tm_act] at e
      split at e
      · cases e; simp only [pm_act, tm_m, tm_s, List.map_cons, tm_fit0, if_true, tm_st1_m]
      · cases e
  case astore | astore_n =>
    all_goals
      simp only [tm_act] at e
      split at e
      · cases e; simp only [pm_act, tm_m, tm_s, List.map_cons, tm_fit2, if_true, tm_st1_m]
      · cases e
  case lstore | lstore_n =>
    all_goals
      simp only [tm_act] at e
      split at e
      · cases e; simp only [pm_act, tm_m, tm_s, List.map_cons, tm_fit1, if_true, tm_st2_m]
      · cases e
  case iinc =>
    simp only [tm_act] at e
    split at e
    · next d =>
      split at e
      · next x hx =>
        cases e
        simp only [pm_act, tm_m, tm_ld_m, hx, Option.map_some]
        show some ((_, pm_st1 (tm_l lv) _ (tm_v (.inl (x + d))), _), h) = _
        rw [tm_st1_m]
      · cases e
    · cases e
  case iadd | isub | imul | iand | ior | ixor | idiv | irem | ishl | ishr | iushr | ladd | lsub | lmul | land | lor | lxor | ldiv | lrem | lshl | lshr | lushr | lcmp =>
    all_goals
      simp only [tm_act] at e
      split at e
      · skip
        split at e
        · next hb => cases e; simp only [pm_act, tm_m, tm_s, List.map_cons, tm_bin_m hb, Option.map_some]
        · cases e
      · cases e
  case ineg | lneg | i2l | l2i | i2b | i2s | i2c =>
    all_goals
      simp only [tm_act] at e
      split at e
      · skip
        split at e
        · next hb => cases e; simp only [pm_act, tm_m, tm_s, List.map_cons, tm_un_m hb, Option.map_some]
        · cases e
      · cases e
  case dup | pop | dup_x1 | dup_x2 | dup2 | pop2 =>
    all_goals
      simp only [tm_act] at e
      split at e
      · next hb => cases e; simp only [pm_act, tm_m, tm_stk_m hb, Option.map_some]
      · cases e
  case goto =>
    simp only [tm_act] at e
    split at e
    · cases e
      simp only [pm_act, tm_m, pm_br, Option.bind_some, if_true, List.head?_cons, Option.map_some]
    · cases e
  all_goals (cases e)
