/-! THE PURE MACHINE: the bytecode's rows over cells that are lists; it runs as a function of its fuel. What it does the model does too: the part behind this one.
A cell is an object (its class's number, its fields) or an array (its kind's number, its places). A heap: the cells by their numbers (the constants first), and how many fields and places have been made. A frame: pc, locals, operand stack. A row: pc, instruction, its length, its constants, its numbers. -/
abbrev pm_C : Type := (Nat × List Value) ⊕ (Nat × List Value)
abbrev pm_H : Type := List pm_C × Nat
abbrev pm_F : Type := Nat × List (Nat × Value) × List Value
abbrev pm_R : Type := Nat × Instr × Nat × List Value × List Nat
/-- a method: its rows; its handlers (from, to, where, the classes' numbers) -/
abbrev pm_M : Type := List pm_R × List (Nat × Nat × Nat × List Nat)
/-- how a method ends: it returned (a value, or none), or threw the cell of that number -/
abbrev pm_O : Type := Option Value ⊕ Nat
def pm_row : List pm_R → Nat → Option (Instr × Nat × List Value × List Nat)
  | [], _ => none
  | (q, x) :: r, pc => if q = pc then some x else pm_row r pc
def pm_ld : List (Nat × Value) → Nat → Option Value
  | [], _ => none
  | (j, v) :: r, i => if j = i then some v else pm_ld r i
def pm_st1 (lv : List (Nat × Value)) (i : Nat) (v : Value) : List (Nat × Value) := (i, v) :: lv.filter (fun q => !(q.1 == i) && !(q.1 + 1 == i && q.2.category == 2))
def pm_st2 (lv : List (Nat × Value)) (i : Nat) (v : Value) : List (Nat × Value) := (i, v) :: lv.filter (fun q => !(q.1 == i) && (!(q.1 == i + 1) && !(q.1 + 1 == i && q.2.category == 2)))
/-- pairs (class, place): the place for a class -/
def pm_slot : List Nat → Nat → Option Nat
  | c :: k :: r, ci => if c = ci then some k else pm_slot r ci
  | _, _ => none
def pm_obj (h : pm_H) (v : Value) : Option (Nat × Nat × List Value) := match v with
  | .ref a => match h.1[a]? with
    | some (.inl (ci, fs)) => some (a, ci, fs)
    | _ => none
  | _ => none
def pm_arr (h : pm_H) (v : Value) : Option (Nat × Nat × List Value) := match v with
  | .ref a => match h.1[a]? with
    | some (.inr (t, vs)) => some (a, t, vs)
    | _ => none
  | _ => none
def pm_ix (j : Value) (n : Nat) : Option Nat := match j with
  | .int i => if i < 0 then none else if i.toNatClampNeg < n then some i.toNatClampNeg else none
  | _ => none
def pm_ii (f : Int32 → Int32 → Option Int32) (x y : Value) : Option Value := match x, y with
  | .int a, .int b => (f a b).map Value.int
  | _, _ => none
def pm_ll (f : Int64 → Int64 → Option Int64) (x y : Value) : Option Value := match x, y with
  | .long a, .long b => (f a b).map Value.long
  | _, _ => none
def pm_li (f : Int64 → Int32 → Int64) (x y : Value) : Option Value := match x, y with
  | .long a, .int b => some (.long (f a b))
  | _, _ => none
/-- of the two on top: y lies on x -/
def pm_bin (i : Instr) (x y : Value) : Option Value := match i with
  | .iadd => pm_ii (fun a b => some (a + b)) x y
  | .isub => pm_ii (fun a b => some (a - b)) x y
  | .imul => pm_ii (fun a b => some (a * b)) x y
  | .iand => pm_ii (fun a b => some (a &&& b)) x y
  | .ior => pm_ii (fun a b => some (a ||| b)) x y
  | .ixor => pm_ii (fun a b => some (a ^^^ b)) x y
  | .idiv => pm_ii (fun a b => if b = 0 then none else some (a / b)) x y
  | .irem => pm_ii (fun a b => if b = 0 then none else some (a - a / b * b)) x y
  | .ishl => pm_ii (fun a b => some (a <<< (b &&& 31))) x y
  | .ishr => pm_ii (fun a b => some (a >>> (b &&& 31))) x y
  | .iushr => pm_ii (fun a b => some (a.toUInt32 >>> (b.toUInt32 &&& Int32.toUInt32 31)).toInt32) x y
  | .ladd => pm_ll (fun a b => some (a + b)) x y
  | .lsub => pm_ll (fun a b => some (a - b)) x y
  | .lmul => pm_ll (fun a b => some (a * b)) x y
  | .land => pm_ll (fun a b => some (a &&& b)) x y
  | .lor => pm_ll (fun a b => some (a ||| b)) x y
  | .lxor => pm_ll (fun a b => some (a ^^^ b)) x y
  | .ldiv => pm_ll (fun a b => if b = 0 then none else some (a / b)) x y
  | .lrem => pm_ll (fun a b => if b = 0 then none else some (a - a / b * b)) x y
  | .lshl => pm_li (fun a b => a <<< (b.toInt64 &&& 63)) x y
  | .lshr => pm_li (fun a b => a >>> (b.toInt64 &&& 63)) x y
  | .lushr => pm_li (fun a b => (a.toUInt64 >>> (b.toInt64.toUInt64 &&& Int64.toUInt64 63)).toInt64) x y
  | .lcmp => match x, y with
    | .long a, .long b => some (.int (lg_cmp a b))
    | _, _ => none
  | _ => none
def pm_un (i : Instr) (x : Value) : Option Value := match i, x with
  | .ineg, .int a => some (.int (-a))
  | .lneg, .long a => some (.long (-a))
  | .i2l, .int a => some (.long a.toInt64)
  | .l2i, .long a => some (.int a.toInt32)
  | .i2b, .int a => some (.int a.toInt8.toInt32)
  | .i2s, .int a => some (.int a.toInt16.toInt32)
  | .i2c, .int a => some (.int (a.toUInt32 % 65536).toInt32)
  | _, _ => none
def pm_cmp (c : ClassFile.Cond) (x y : Int32) : Bool := match c with
  | .eq => decide (x = y)
  | .ne => !decide (x = y)
  | .lt => decide (x < y)
  | .ge => decide (y ≤ x)
  | .gt => decide (y < x)
  | .le => decide (x ≤ y)
def pm_rfo (v : Value) : Option (Option Nat) := match v with
  | .null => some none
  | .ref a => some (some a)
  | _ => none
/-- the cells that may be told from one another: null, the enums' constants (1 to 17), the empty array (20), what is no constant -/
def pm_idn (o : Option Nat) : Bool := match o with
  | none => true
  | some a => decide (1 ≤ a ∧ a < 18) || (a == 20 || decide (81 ≤ a))
/-- does a branch jump? -/
def pm_br (i : Instr) (st : List Value) : Option (Bool × List Value) := match i, st with
  | .ifCond c _, .int x :: r => some (pm_cmp c x 0, r)
  | .if_icmp c _, .int y :: .int x :: r => some (pm_cmp c x y, r)
  | .if_acmp .eq _, y :: x :: r => (pm_rfo y).bind fun b => (pm_rfo x).bind fun a => if decide (a = b) || (pm_idn a && pm_idn b) then some (decide (a = b), r) else none
  | .if_acmp .ne _, y :: x :: r => (pm_rfo y).bind fun b => (pm_rfo x).bind fun a => if decide (a = b) || (pm_idn a && pm_idn b) then some (!decide (a = b), r) else none
  | .ifnull _, x :: r => (pm_rfo x).map fun a => (a.isNone, r)
  | .ifnonnull _, x :: r => (pm_rfo x).map fun a => (a.isSome, r)
  | .goto _, r => some (true, r)
  | _, _ => none
/-- a switch: keys and targets; the default last -/
def pm_sw (x : Int32) : List Value → List Nat → Option Nat
  | .int k :: vs, t :: ts => if x = k then some t else pm_sw x vs ts
  | _, t :: _ => some t
  | _, [] => none
def pm_stk (i : Instr) (st : List Value) : Option (List Value) := match i, st with
  | .dup, a :: r => if a.category = 1 then some (a :: a :: r) else none
  | .pop, a :: r => if a.category = 1 then some r else none
  | .dup_x1, a :: b :: r => if a.category = 1 ∧ b.category = 1 then some (a :: b :: a :: r) else none
  | .dup_x2, a :: b :: d :: r => if a.category = 1 ∧ b.category = 1 ∧ d.category = 1 then some (a :: b :: d :: a :: r) else none
  | .dup2, a :: r => if a.category = 2 then some (a :: a :: r) else match r with
    | b :: r2 => if b.category = 1 then some (a :: b :: a :: b :: r2) else none
    | [] => none
  | .pop2, a :: r => if a.category = 2 then some r else match r with
    | b :: r2 => if b.category = 1 then some r2 else none
    | [] => none
  | _, _ => none
/-- may a value lie in a field or place of the kind t? 0 int, 1 long, 2 reference, 3 boolean, 4 byte, 5 char, 6 short -/
def pm_fit (t : Nat) (v : Value) : Bool := match t, v with
  | 0, .int _ => true
  | 1, .long _ => true
  | 2, .null => true
  | 2, .ref _ => true
  | 3, .int x => decide (x = 0 ∨ x = 1)
  | 4, .int x => decide (x.toInt8.toInt32 = x)
  | 5, .int x => decide ((x.toUInt32 % 65536).toInt32 = x)
  | 6, .int x => decide (x.toInt16.toInt32 = x)
  | _, _ => false
/-- which arrays a load reads -/
def pm_ldk (i : Instr) (t : Nat) : Bool := match i with
  | .iaload => t == 0
  | .laload => t == 1
  | .baload => t == 3 || t == 4
  | .caload => t == 5
  | .saload => t == 6
  | .aaload => decide (10 ≤ t)
  | _ => false
/-- what a store leaves; asg: which classes' objects an array of references takes -/
def pm_nar (asg : List (Nat × Nat)) (i : Instr) (t : Nat) (h : pm_H) (v : Value) : Option Value := match i, v with
  | .iastore, .int x => if t = 0 then some (.int x) else none
  | .lastore, .long x => if t = 1 then some (.long x) else none
  | .bastore, .int x => if t = 3 then some (narrow .boolean (.int x)) else if t = 4 then some (narrow .byte (.int x)) else none
  | .castore, .int x => if t = 5 then some (narrow .char (.int x)) else none
  | .sastore, .int x => if t = 6 then some (narrow .short (.int x)) else none
  | .aastore, .null => if 10 ≤ t then some .null else none
  | .aastore, .ref a => if 10 ≤ t then (match h.1[a]? with
    | some (.inl (ci, _)) => if asg.contains (t, ci) then some (.ref a) else none
    | _ => none) else none
  | _, _ => none
def pm_cpy (xs ys : List Value) (sp dp n : Nat) : List Value := ys.take dp ++ ((xs.drop sp).take n ++ ys.drop (dp + n))
/-- may a value lie in an array of the kind t? -/
def pm_el (asg : List (Nat × Nat)) (t : Nat) (h : pm_H) (v : Value) : Bool := if t < 9 then pm_fit t v else match v with
  | .null => true
  | .ref a => match h.1[a]? with
    | some (.inl (ci, _)) => asg.contains (t, ci)
    | _ => false
  | _ => false
/-- the members that have no rows: Object's constructor (9), System.arraycopy (8), an int array's clone (7); getClass of an array of objects (4, its answer among the constants); 9 as a kind: a cell of which nothing is known -/
def pm_nat (P : Nat × List (Nat × Nat)) (k : Nat) (st : List Value) (h : pm_H) : Option (List Value × pm_H) := match k, st with
  | 9, .ref _ :: r => some (r, h)
  | 8, .int n :: .int dp :: d :: .int sp :: o :: r => (pm_arr h o).bind fun a => (pm_arr h d).bind fun b =>
    if a.2.1 = b.2.1 ∧ a.2.1 ≠ 9 ∧ P.1 ≤ b.1 ∧ ¬ sp < 0 ∧ ¬ dp < 0 ∧ ¬ n < 0 ∧ sp.toNatClampNeg + n.toNatClampNeg ≤ a.2.2.length ∧ dp.toNatClampNeg + n.toNatClampNeg ≤ b.2.2.length ∧ ((a.2.2.drop sp.toNatClampNeg).take n.toNatClampNeg).all (pm_el P.2 a.2.1 h) = true then
      some (r, (h.1.set b.1 (.inr (b.2.1, pm_cpy a.2.2 b.2.2 sp.toNatClampNeg dp.toNatClampNeg n.toNatClampNeg)), h.2)) else none
  | 7, o :: r => (pm_arr h o).bind fun a => if a.2.1 = 0 ∧ P.1 ≤ a.1 ∧ a.2.2.all (pm_fit 0) = true then some (.ref h.1.length :: r, (h.1 ++ [.inr (a.2.1, a.2.2)], h.2 + a.2.2.length)) else none
  | _, _ => none
/-- an instruction that is neither a call of a method with rows nor an end -/
def pm_act (P : Nat × List (Nat × Nat)) (i : Instr) (n : Nat) (vs : List Value) (ns : List Nat) (F : pm_F) (h : pm_H) : Option (pm_F × pm_H) := match i with
  | .iconst _ | .bipush _ | .sipush _ | .lconst _ | .ldc _ | .ldc_w _ | .ldc2_w _ | .aconst_null | .getstatic _ => match vs with
    | [v] => some ((F.1 + n, F.2.1, v :: F.2.2), h)
    | _ => none
  | .iload _ | .iload_n _ => (ns.head?.bind (pm_ld F.2.1)).bind fun v => if pm_fit 0 v then some ((F.1 + n, F.2.1, v :: F.2.2), h) else none
  | .lload _ | .lload_n _ => (ns.head?.bind (pm_ld F.2.1)).bind fun v => if pm_fit 1 v then some ((F.1 + n, F.2.1, v :: F.2.2), h) else none
  | .aload _ | .aload_n _ => (ns.head?.bind (pm_ld F.2.1)).bind fun v => if pm_fit 2 v then some ((F.1 + n, F.2.1, v :: F.2.2), h) else none
  | .istore _ | .istore_n _ => match ns, F.2.2 with
    | [j], v :: st => if pm_fit 0 v then some ((F.1 + n, pm_st1 F.2.1 j v, st), h) else none
    | _, _ => none
  | .astore _ | .astore_n _ => match ns, F.2.2 with
    | [j], v :: st => if pm_fit 2 v then some ((F.1 + n, pm_st1 F.2.1 j v, st), h) else none
    | _, _ => none
  | .lstore _ | .lstore_n _ => match ns, F.2.2 with
    | [j], v :: st => if pm_fit 1 v then some ((F.1 + n, pm_st2 F.2.1 j v, st), h) else none
    | _, _ => none
  | .iinc _ _ => match ns, vs with
    | [j], [.int d] => match pm_ld F.2.1 j with
      | some (.int x) => some ((F.1 + n, pm_st1 F.2.1 j (.int (x + d)), F.2.2), h)
      | _ => none
    | _, _ => none
  | .iadd | .isub | .imul | .iand | .ior | .ixor | .idiv | .irem | .ishl | .ishr | .iushr | .ladd | .lsub | .lmul | .land | .lor | .lxor | .ldiv | .lrem | .lshl | .lshr | .lushr | .lcmp => match F.2.2 with
    | y :: x :: r => (pm_bin i x y).map fun v => ((F.1 + n, F.2.1, v :: r), h)
    | _ => none
  | .ineg | .lneg | .i2l | .l2i | .i2b | .i2s | .i2c => match F.2.2 with
    | x :: r => (pm_un i x).map fun v => ((F.1 + n, F.2.1, v :: r), h)
    | _ => none
  | .dup | .pop | .dup_x1 | .dup_x2 | .dup2 | .pop2 => (pm_stk i F.2.2).map fun st => ((F.1 + n, F.2.1, st), h)
  | .ifCond _ _ | .if_icmp _ _ | .if_acmp _ _ | .ifnull _ | .ifnonnull _ | .goto _ => (pm_br i F.2.2).bind fun q => if q.1 then ns.head?.map fun t => ((t, F.2.1, q.2), h) else some ((F.1 + n, F.2.1, q.2), h)
  | .tableswitch _ _ _ _ | .lookupswitch _ _ => match F.2.2 with
    | .int x :: r => (pm_sw x vs ns).map fun t => ((t, F.2.1, r), h)
    | _ => none
  | .getfield _ => match F.2.2 with
    | o :: r => (pm_obj h o).bind fun q => (pm_slot ns q.2.1).bind fun k => q.2.2[k]?.map fun v => ((F.1 + n, F.2.1, v :: r), h)
    | _ => none
  | .putfield _ => match F.2.2, ns with
    | v :: o :: r, t :: ns' => (pm_obj h o).bind fun q => (pm_slot ns' q.2.1).bind fun k =>
      if P.1 ≤ q.1 ∧ k < q.2.2.length ∧ pm_fit t v = true then some ((F.1 + n, F.2.1, r), (h.1.set q.1 (.inl (q.2.1, q.2.2.set k v)), h.2)) else none
    | _, _ => none
  | .new _ => match ns with
    | [ci, sl] => some ((F.1 + n, F.2.1, .ref h.1.length :: F.2.2), (h.1 ++ [.inl (ci, vs)], h.2 + sl))
    | _ => none
  | .newarray _ | .anewarray _ => match ns, vs, F.2.2 with
    | [t], [v], .int k :: r => if k < 0 then none else if k.toNatClampNeg ≤ 1000000 then some ((F.1 + n, F.2.1, .ref h.1.length :: r), (h.1 ++ [.inr (t, List.replicate k.toNatClampNeg v)], h.2 + k.toNatClampNeg)) else none
    | _, _, _ => none
  | .arraylength => match F.2.2 with
    | o :: r => (pm_arr h o).bind fun q => if q.2.1 = 9 then none else some ((F.1 + n, F.2.1, .int q.2.2.length.toInt32 :: r), h)
    | _ => none
  | .iaload | .laload | .baload | .caload | .saload | .aaload => match F.2.2 with
    | j :: o :: r => (pm_arr h o).bind fun q => if pm_ldk i q.2.1 then (pm_ix j q.2.2.length).bind fun k => q.2.2[k]?.map fun v => ((F.1 + n, F.2.1, v :: r), h) else none
    | _ => none
  | .iastore | .lastore | .bastore | .castore | .sastore | .aastore => match F.2.2 with
    | v :: j :: o :: r => (pm_arr h o).bind fun q => (pm_ix j q.2.2.length).bind fun k => (pm_nar P.2 i q.2.1 h v).bind fun w =>
      if P.1 ≤ q.1 then some ((F.1 + n, F.2.1, r), (h.1.set q.1 (.inr (q.2.1, q.2.2.set k w)), h.2)) else none
    | _ => none
  | .checkcast _ => match F.2.2 with
    | .null :: r => some ((F.1 + n, F.2.1, .null :: r), h)
    | .ref a :: r => match h.1[a]? with
      | some (.inl (ci, _)) => if ns.contains ci then some ((F.1 + n, F.2.1, .ref a :: r), h) else none
      | some (.inr (t, _)) => if ns.contains (1000 + t) = true ∧ t ≠ 9 ∧ P.1 ≤ a then some ((F.1 + n, F.2.1, .ref a :: r), h) else none
      | none => none
    | _ => none
  | .invokestatic _ | .invokespecial _ | .invokevirtual _ => match ns, vs with
    | [k], [] => (pm_nat P k F.2.2 h).bind fun q => if (F.2.2.map fun v => v.category).sum ≤ 40 then some ((F.1 + n, F.2.1, q.1), q.2) else none
    | [k], [v] => match F.2.2 with
      | o :: r => (pm_arr h o).bind fun q => if k = 4 ∧ q.2.1 = 13 ∧ (F.2.2.map fun v => v.category).sum ≤ 40 then some ((F.1 + n, F.2.1, v :: r), h) else none
      | _ => none
    | _, _ => none
  | _ => none
/-- an end: it returns (ns: the answer's kind), or throws an exception that it makes (new, ns = [6, class, slots, 0]; behind it dup, the text, its constructor, athrow) -/
def pm_fin (i : Instr) (ns : List Nat) (st : List Value) (h : pm_H) : Option (pm_O × pm_H) := match i, st with
  | .return_, [] => some (.inl none, h)
  | .ireturn, [.int x] => if pm_fit (ns.headD 0) (.int x) = true then some (.inl (some (.int x)), h) else none
  | .lreturn, [.long x] => some (.inl (some (.long x)), h)
  | .areturn, [.null] => some (.inl (some .null), h)
  | .areturn, [.ref a] => some (.inl (some (.ref a)), h)
  | .new _, [] => match ns with
    | [6, ci, sl, 0] => some (.inr h.1.length, (h.1 ++ [.inl (ci, [])], h.2 + sl))
    | _ => none
  | _, _ => none
def pm_inv (i : Instr) : Bool := match i with
  | .invokestatic _ | .invokespecial _ | .invokevirtual _ => true
  | _ => false
/-- a call: 0 static, 1 special, 2 by the receiver's class; then how many arguments, and how many words they take; then the method's number, or pairs (class, method) -/
def pm_call (i : Instr) (ns : List Nat) (st : List Value) (h : pm_H) : Option (Nat × List Value × List Value) := if pm_inv i = true then (match ns with
  | 0 :: k :: w :: y :: _ => if k ≤ st.length ∧ ((st.take k).map fun v => v.category).sum ≤ w ∧ ((st.drop k).map fun v => v.category).sum ≤ 8 then some (y, (st.take k).reverse, st.drop k) else none
  | 1 :: k :: w :: y :: _ => match st[k]? with
    | some (.ref _) => if ((st.take (k + 1)).map fun v => v.category).sum ≤ w ∧ ((st.drop (k + 1)).map fun v => v.category).sum ≤ 8 then some (y, (st.take (k + 1)).reverse, st.drop (k + 1)) else none
    | _ => none
  | 2 :: k :: w :: r => (st[k]?.bind (pm_obj h)).bind fun q => (pm_slot r q.2.1).bind fun y => if ((st.take (k + 1)).map fun v => v.category).sum ≤ w ∧ ((st.drop (k + 1)).map fun v => v.category).sum ≤ 8 then some (y, (st.take (k + 1)).reverse, st.drop (k + 1)) else none
  | _ => none) else none
/-- the handler of an exception -/
def pm_hnd : List (Nat × Nat × Nat × List Nat) → Nat → Nat → Option Nat
  | [], _, _ => none
  | (f, t, p, cs) :: r, pc, ci => if f ≤ pc ∧ pc < t ∧ cs.contains ci = true then some p else pm_hnd r pc ci
/-- what one row does, where f does the rest -/
def pm_one (P : Nat × List (Nat × Nat)) (G : Nat → pm_M) (f : Nat → pm_M → pm_F → pm_H → Option (pm_O × pm_H)) (d : Nat) (M : pm_M) (F : pm_F) (h : pm_H) : Option (pm_O × pm_H) := match pm_row M.1 F.1 with
  | none => none
  | some (i, len, vs, ns) => match pm_fin i ns F.2.2 h with
    | some o => some o
    | none => match pm_call i ns F.2.2 h with
      | none => match pm_act P i len vs ns F h with
        | none => none
        | some (F', h') => f d M F' h'
      | some (y, as, rest) => match d with
        | 0 => none
        | d' + 1 => match f d' (G y) (0, lv_args 0 as, []) h with
          | none => none
          | some (.inl v, h') => f (d' + 1) M (F.1 + len, F.2.1, v.toList ++ rest) h'
          | some (.inr a, h') => match h'.1[a]? with
            | some (.inl (ci, _)) => match pm_hnd M.2 F.1 ci with
              | none => if M.2.isEmpty = true then some (.inr a, h') else none
              | some pc => f (d' + 1) M (pc, F.2.1, [.ref a]) h'
            | _ => none
/-- fuel, levels of calls, the method, its frame, the heap -/
def pm_run (P : Nat × List (Nat × Nat)) (G : Nat → pm_M) : Nat → Nat → pm_M → pm_F → pm_H → Option (pm_O × pm_H)
  | 0 => fun _ _ _ _ => none
  | n + 1 => pm_one P G (pm_run P G n)
theorem pm_one_mono {P : Nat × List (Nat × Nat)} {G : Nat → pm_M} {f g : Nat → pm_M → pm_F → pm_H → Option (pm_O × pm_H)} (hfg : ∀ d M F h r, f d M F h = some r → g d M F h = some r) {d : Nat} {M : pm_M} {F : pm_F} {h : pm_H} {r : pm_O × pm_H} (hh : pm_one P G f d M F h = some r) : pm_one P G g d M F h = some r := by
  unfold pm_one at hh ⊢
  cases h1 : pm_row M.1 F.1 with
  | none => simp [h1] at hh
  | some q =>
    obtain ⟨i, len, vs, ns⟩ := q
    simp only [h1] at hh ⊢
    cases h2 : pm_fin i ns F.2.2 h with
    | some o => simp only [h2] at hh ⊢; exact hh
    | none =>
      simp only [h2] at hh ⊢
      cases h3 : pm_call i ns F.2.2 h with
      | none =>
        simp only [h3] at hh ⊢
        cases h4 : pm_act P i len vs ns F h with
        | none => simp [h4] at hh
        | some q =>
          obtain ⟨F', h'⟩ := q
          simp only [h4] at hh ⊢
          exact hfg _ _ _ _ _ hh
      | some q =>
        obtain ⟨y, as, rest⟩ := q
        simp only [h3] at hh ⊢
        cases d with
        | zero => simp at hh
        | succ d =>
          simp only at hh ⊢
          cases h5 : f d (G y) (0, lv_args 0 as, []) h with
          | none => simp [h5] at hh
          | some q =>
            obtain ⟨o, h'⟩ := q
            simp only [h5] at hh
            simp only [hfg _ _ _ _ _ h5]
            cases o with
            | inl v =>
              simp only at hh ⊢
              exact hfg _ _ _ _ _ hh
            | inr a =>
              simp only at hh ⊢
              cases h6 : h'.1[a]? with
              | none => simp [h6] at hh
              | some x =>
                cases x with
                | inr z => simp [h6] at hh
                | inl z =>
                  obtain ⟨ci, z⟩ := z
                  simp only [h6] at hh ⊢
                  cases h7 : pm_hnd M.2 F.1 ci with
                  | none => simp only [h7] at hh ⊢; exact hh
                  | some pc => simp only [h7] at hh ⊢; exact hfg _ _ _ _ _ hh
theorem pm_mono {P : Nat × List (Nat × Nat)} {G : Nat → pm_M} : ∀ (n d : Nat) (M : pm_M) (F : pm_F) (h : pm_H) (r : pm_O × pm_H), pm_run P G n d M F h = some r → pm_run P G (n + 1) d M F h = some r := by
  intro n
  induction n with
  | zero => intro d M F h r hh; cases hh
  | succ n ih => intro d M F h r hh; exact pm_one_mono (f := pm_run P G n) ih hh
theorem pm_le {P : Nat × List (Nat × Nat)} {G : Nat → pm_M} {n m d : Nat} {M : pm_M} {F : pm_F} {h : pm_H} {r : pm_O × pm_H} (hnm : n ≤ m) (hh : pm_run P G n d M F h = some r) : pm_run P G m d M F h = some r := by
  induction hnm with
  | refl => exact hh
  | step _ ih => exact pm_mono _ _ _ _ _ _ ih
/-- the frame F of M, with the heap h, comes to the end r -/
def pm_to (P : Nat × List (Nat × Nat)) (G : Nat → pm_M) (d : Nat) (M : pm_M) (F : pm_F) (h : pm_H) (r : pm_O × pm_H) : Prop := ∃ n, pm_run P G n d M F h = some r
section PM
variable {P : Nat × List (Nat × Nat)} {G : Nat → pm_M} {d : Nat} {M : pm_M} {F F' : pm_F} {h h' : pm_H} {r : pm_O × pm_H} {i : Instr} {len : Nat} {vs : List Value} {ns : List Nat}
/-- one row that neither calls nor ends -/
def pm_stp (P : Nat × List (Nat × Nat)) (M : pm_M) (F : pm_F) (h : pm_H) : Option (pm_F × pm_H) := match pm_row M.1 F.1 with
  | none => none
  | some (i, len, vs, ns) => match pm_fin i ns F.2.2 h with
    | some _ => none
    | none => match pm_call i ns F.2.2 h with
      | some _ => none
      | none => pm_act P i len vs ns F h
theorem pm_stp_one {f : Nat → pm_M → pm_F → pm_H → Option (pm_O × pm_H)} (hs : pm_stp P M F h = some (F', h')) : pm_one P G f d M F h = f d M F' h' := by
  unfold pm_stp at hs
  unfold pm_one
  cases h1 : pm_row M.1 F.1 with
  | none => simp [h1] at hs
  | some q =>
    obtain ⟨i, len, vs, ns⟩ := q
    simp only [h1] at hs ⊢
    cases h2 : pm_fin i ns F.2.2 h with
    | some o => simp [h2] at hs
    | none =>
      simp only [h2] at hs ⊢
      cases h3 : pm_call i ns F.2.2 h with
      | some q => simp [h3] at hs
      | none =>
        simp only [h3] at hs ⊢
        simp only [hs]
/-- pm_s rfl: the next row -/
theorem pm_s (hs : pm_stp P M F h = some (F', h')) (k : pm_to P G d M F' h' r) : pm_to P G d M F h r := by
  obtain ⟨n, hn⟩ := k
  exact ⟨n + 1, (pm_stp_one (f := pm_run P G n) hs).trans hn⟩
/-- k rows at once -/
def pm_stps (P : Nat × List (Nat × Nat)) (M : pm_M) : Nat → pm_F → pm_H → Option (pm_F × pm_H)
  | 0, F, h => some (F, h)
  | k + 1, F, h => match pm_stp P M F h with
    | none => none
    | some (F', h') => pm_stps P M k F' h'
theorem pm_sn (k : Nat) (hs : pm_stps P M k F h = some (F', h')) (kk : pm_to P G d M F' h' r) : pm_to P G d M F h r := by
  induction k generalizing F h with
  | zero =>
    cases hs
    exact kk
  | succ k ih =>
    unfold pm_stps at hs
    cases h1 : pm_stp P M F h with
    | none => simp [h1] at hs
    | some q =>
      obtain ⟨F1, h1'⟩ := q
      simp only [h1] at hs
      exact pm_s h1 (ih hs)
/-- the end -/
theorem pm_end {o : pm_O × pm_H} (hr : pm_row M.1 F.1 = some (i, len, vs, ns)) (hf : pm_fin i ns F.2.2 h = some o) : pm_to P G d M F h o := by
  refine ⟨1, ?_⟩
  show pm_one P G _ d M F h = _
  unfold pm_one
  simp only [hr, hf]
/-- a call that comes back -/
theorem pm_cl {y : Nat} {as rest : List Value} {v : Option Value} {h1 : pm_H} (hr : pm_row M.1 F.1 = some (i, len, vs, ns)) (hf : pm_fin i ns F.2.2 h = none) (hc : pm_call i ns F.2.2 h = some (y, as, rest))
    (hy : pm_to P G d (G y) (0, lv_args 0 as, []) h (.inl v, h1)) (k : pm_to P G (d + 1) M (F.1 + len, F.2.1, v.toList ++ rest) h1 r) : pm_to P G (d + 1) M F h r := by
  obtain ⟨n1, e1⟩ := hy
  obtain ⟨n2, e2⟩ := k
  refine ⟨n1 + n2 + 1, ?_⟩
  show pm_one P G (pm_run P G (n1 + n2)) (d + 1) M F h = _
  unfold pm_one
  simp only [hr, hf, hc, pm_le (Nat.le_add_right n1 n2) e1]
  exact pm_le (Nat.le_add_left n2 n1) e2
/-- a call that throws, and nothing here catches it -/
theorem pm_clT {y : Nat} {as rest : List Value} {a ci : Nat} {z : List Value} {h1 : pm_H} (hr : pm_row M.1 F.1 = some (i, len, vs, ns)) (hf : pm_fin i ns F.2.2 h = none) (hc : pm_call i ns F.2.2 h = some (y, as, rest))
    (hy : pm_to P G d (G y) (0, lv_args 0 as, []) h (.inr a, h1)) (ha : h1.1[a]? = some (.inl (ci, z))) (hn : M.2 = []) : pm_to P G (d + 1) M F h (.inr a, h1) := by
  obtain ⟨n1, e1⟩ := hy
  refine ⟨n1 + 1, ?_⟩
  show pm_one P G (pm_run P G n1) (d + 1) M F h = _
  unfold pm_one
  have hn2 : pm_hnd M.2 F.1 ci = none := by rw [hn]; rfl
  have hn3 : M.2.isEmpty = true := by rw [hn]; rfl
  simp only [hr, hf, hc, e1, ha, hn2, hn3, if_true]
/-- a call that throws, and a handler here catches it -/
theorem pm_clC {y pc : Nat} {as rest : List Value} {a ci : Nat} {z : List Value} {h1 : pm_H} (hr : pm_row M.1 F.1 = some (i, len, vs, ns)) (hf : pm_fin i ns F.2.2 h = none) (hc : pm_call i ns F.2.2 h = some (y, as, rest))
    (hy : pm_to P G d (G y) (0, lv_args 0 as, []) h (.inr a, h1)) (ha : h1.1[a]? = some (.inl (ci, z))) (hn : pm_hnd M.2 F.1 ci = some pc) (k : pm_to P G (d + 1) M (pc, F.2.1, [.ref a]) h1 r) : pm_to P G (d + 1) M F h r := by
  obtain ⟨n1, e1⟩ := hy
  obtain ⟨n2, e2⟩ := k
  refine ⟨n1 + n2 + 1, ?_⟩
  show pm_one P G (pm_run P G (n1 + n2)) (d + 1) M F h = _
  unfold pm_one
  simp only [hr, hf, hc, pm_le (Nat.le_add_right n1 n2) e1, ha, hn]
  exact pm_le (Nat.le_add_left n2 n1) e2
end PM
