/-! THE MODEL DOES WHAT THE PURE MACHINE DOES (rows that touch no cell). mu: where the pure machine's cells lie in the model's heap. -/
def pm_v (mu : Nat → Nat) (v : Value) : Value := match v with
  | .ref a => .ref (mu a)
  | w => w
def pm_lm (mu : Nat → Nat) (q : Nat × Value) : Nat × Value := (q.1, pm_v mu q.2)
theorem pm_v_cat (mu : Nat → Nat) (v : Value) : (pm_v mu v).category = v.category := by cases v <;> rfl
theorem pm_st1_map (mu : Nat → Nat) (lv : List (Nat × Value)) (i : Nat) (v : Value) : (i, pm_v mu v) :: (lv.map (pm_lm mu)).filter (fun q => !(q.1 == i) && !(q.1 + 1 == i && q.2.category == 2)) = (pm_st1 lv i v).map (pm_lm mu) := by
  unfold pm_st1
  rw [List.filter_map, List.map_cons]
  congr 2
  apply List.filter_congr
  intro q _
  simp only [Function.comp, pm_lm, pm_v_cat]
theorem pm_st2_map (mu : Nat → Nat) (lv : List (Nat × Value)) (i : Nat) (v : Value) : (i, pm_v mu v) :: (lv.map (pm_lm mu)).filter (fun q => !(q.1 == i) && (!(q.1 == i + 1) && !(q.1 + 1 == i && q.2.category == 2))) = (pm_st2 lv i v).map (pm_lm mu) := by
  unfold pm_st2
  rw [List.filter_map, List.map_cons]
  congr 2
  apply List.filter_congr
  intro q _
  simp only [Function.comp, pm_lm, pm_v_cat]
theorem pm_ld_mem : ∀ (lv : List (Nat × Value)) (i : Nat) (v : Value), pm_ld lv i = some v → (i, v) ∈ lv := by
  intro lv
  induction lv with
  | nil => intro i v h; cases h
  | cons q r ih =>
    intro i v h
    obtain ⟨j, w⟩ := q
    unfold pm_ld at h
    split at h
    · next e => subst e; cases h; exact List.mem_cons_self
    · exact List.mem_cons_of_mem _ (ih i v h)
theorem pm_ld_at {mu : Nat → Nat} {ls : Array Slot} {nL : Nat} {lv : List (Nat × Value)} {i : Nat} {v : Value} (hl : lv_has ls nL (lv.map (pm_lm mu))) (h : pm_ld lv i = some v) : ls[i]? = some (.val (pm_v mu v)) :=
  hl.2.2 (i, pm_v mu v) (List.mem_map.mpr ⟨(i, v), pm_ld_mem _ _ _ h, rfl⟩)
theorem pm_ld_k {mu : Nat → Nat} {lv : List (Nat × Value)} {i : Nat} {v : Value} (h : pm_ld lv i = some v) : ∃ k : Nat, (lv.map (pm_lm mu))[k]? = some (i, pm_v mu v) :=
  List.getElem?_of_mem (List.mem_map.mpr ⟨(i, v), pm_ld_mem _ _ _ h, rfl⟩)
/-- the static half of a row: lengths, constants, targets -/
def pm_okB (nL pc : Nat) (i : Instr) (len : Nat) (vs : List Value) (ns : List Nat) : Bool := match i with
  | .iconst n => decide (len = 1 ∧ vs = [.int (Int32.ofInt n)])
  | .bipush n => decide (len = 2 ∧ vs = [.int (Int8.ofInt n).toInt32])
  | .sipush n => decide (len = 3 ∧ vs = [.int (Int16.ofInt n).toInt32])
  | .lconst n => decide (len = 1 ∧ vs = [.long (Int64.ofNat (n : Nat))])
  | .aconst_null => decide (len = 1 ∧ vs = [.null])
  | .iload j | .lload j | .aload j => decide (len = 2 ∧ ns = [j])
  | .iload_n j | .lload_n j | .aload_n j => decide (len = 1 ∧ ns = [j.val])
  | .istore j | .astore j => decide (len = 2 ∧ ns = [j] ∧ j < nL)
  | .istore_n j | .astore_n j => decide (len = 1 ∧ ns = [j.val] ∧ j.val < nL)
  | .lstore j => decide (len = 2 ∧ ns = [j] ∧ j + 1 < nL)
  | .lstore_n j => decide (len = 1 ∧ ns = [j.val] ∧ j.val + 1 < nL)
  | .iinc j d => decide (len = 3 ∧ ns = [j] ∧ vs = [.int (Int32.ofInt d)] ∧ j < nL)
  | .ifCond _ off | .if_icmp _ off | .if_acmp _ off | .ifnull off | .ifnonnull off | .goto off => decide (len = 3 ∧ ns = [((pc : Int) + off).toNat] ∧ 0 ≤ (pc : Int) + off)
  | .ldc _ | .newarray _ => decide (len = 2)
  | .ldc_w _ | .ldc2_w _ | .getstatic _ | .getfield _ | .putfield _ | .new _ | .anewarray _ | .checkcast _ | .invokestatic _ | .invokespecial _ | .invokevirtual _ => decide (len = 3)
  | .tableswitch _ _ _ _ | .lookupswitch _ _ => true
  | _ => decide (len = 1)
section SIM
variable {p : Program} {l : Launch} {e : Env} {R : Room} {s : State} {m : MethodId} {args : Array Value} {below : List Frame} {meth : Method} {c : Code} {H : Heap} {locs : List Loc} {cells slots : Nat} {Q : State → Prop} {cc : ByteArray} {mu : Nat → Nat} {nL : Nat}
variable {P : Nat × List (Nat × Nat)} {F F' : pm_F} {h h' : pm_H} {len : Nat} {vs : List Value} {ns : List Nat}
/-- the model stands where the pure machine's frame F says -/
def pm_W (p : Program) (l : Launch) (e : Env) (R : Room) (s : State) (m : MethodId) (args : Array Value) (below : List Frame) (meth : Method) (c : Code) (nL : Nat) (mu : Nat → Nat) (H : Heap) (locs : List Loc) (cells slots : Nat) (Q : State → Prop) (F : pm_F) : Prop :=
  ∀ ls : Array Slot, lv_has ls nL (F.2.1.map (pm_lm mu)) → W p l e R s m args below meth c H locs cells slots Q (F0 m F.1 ls (F.2.2.map (pm_v mu)))

theorem ps_iconst {n : Int} (hx : p.tables.exec = Jvm.exec) (hb : c.code = cc) (hd : decode cc F.1 = .ok (.iconst n, len)) (hok : pm_okB nL F.1 (.iconst n) len vs ns = true) (ha : pm_act P (.iconst n) len vs ns F h = some (F', h')) (kk : pm_W p l e R s m args below meth c nL mu H locs cells slots Q F') : h' = h ∧ pm_W p l e R s m args below meth c nL mu H locs cells slots Q F := by
  obtain ⟨pc, lv, st⟩ := F
  obtain ⟨rfl, rfl⟩ := of_decide_eq_true hok
  cases ha
  exact ⟨rfl, fun ls hl => lv_iconst hx hb hd rfl (kk ls hl)⟩
theorem ps_bipush {n : Int} (hx : p.tables.exec = Jvm.exec) (hb : c.code = cc) (hd : decode cc F.1 = .ok (.bipush n, len)) (hok : pm_okB nL F.1 (.bipush n) len vs ns = true) (ha : pm_act P (.bipush n) len vs ns F h = some (F', h')) (kk : pm_W p l e R s m args below meth c nL mu H locs cells slots Q F') : h' = h ∧ pm_W p l e R s m args below meth c nL mu H locs cells slots Q F := by
  obtain ⟨pc, lv, st⟩ := F
  obtain ⟨rfl, rfl⟩ := of_decide_eq_true hok
  cases ha
  exact ⟨rfl, fun ls hl => lv_bipush hx hb hd rfl (kk ls hl)⟩
theorem ps_sipush {n : Int} (hx : p.tables.exec = Jvm.exec) (hb : c.code = cc) (hd : decode cc F.1 = .ok (.sipush n, len)) (hok : pm_okB nL F.1 (.sipush n) len vs ns = true) (ha : pm_act P (.sipush n) len vs ns F h = some (F', h')) (kk : pm_W p l e R s m args below meth c nL mu H locs cells slots Q F') : h' = h ∧ pm_W p l e R s m args below meth c nL mu H locs cells slots Q F := by
  obtain ⟨pc, lv, st⟩ := F
  obtain ⟨rfl, rfl⟩ := of_decide_eq_true hok
  cases ha
  exact ⟨rfl, fun ls hl => lv_sipush hx hb hd rfl (kk ls hl)⟩
theorem ps_lconst {n : Fin 2} (hx : p.tables.exec = Jvm.exec) (hb : c.code = cc) (hd : decode cc F.1 = .ok (.lconst n, len)) (hok : pm_okB nL F.1 (.lconst n) len vs ns = true) (ha : pm_act P (.lconst n) len vs ns F h = some (F', h')) (kk : pm_W p l e R s m args below meth c nL mu H locs cells slots Q F') : h' = h ∧ pm_W p l e R s m args below meth c nL mu H locs cells slots Q F := by
  obtain ⟨pc, lv, st⟩ := F
  obtain ⟨rfl, rfl⟩ := of_decide_eq_true hok
  cases ha
  exact ⟨rfl, fun ls hl => lv_lconst hx hb hd rfl (kk ls hl)⟩
theorem ps_null  (hx : p.tables.exec = Jvm.exec) (hb : c.code = cc) (hd : decode cc F.1 = .ok (.aconst_null, len)) (hok : pm_okB nL F.1 (.aconst_null) len vs ns = true) (ha : pm_act P (.aconst_null) len vs ns F h = some (F', h')) (kk : pm_W p l e R s m args below meth c nL mu H locs cells slots Q F') : h' = h ∧ pm_W p l e R s m args below meth c nL mu H locs cells slots Q F := by
  obtain ⟨pc, lv, st⟩ := F
  obtain ⟨rfl, rfl⟩ := of_decide_eq_true hok
  cases ha
  exact ⟨rfl, fun ls hl => lv_null hx hb hd (kk ls hl)⟩
theorem ps_iload {j : Nat} (hx : p.tables.exec = Jvm.exec) (hb : c.code = cc) (hd : decode cc F.1 = .ok (.iload j, len)) (hok : pm_okB nL F.1 (.iload j) len vs ns = true) (ha : pm_act P (.iload j) len vs ns F h = some (F', h')) (kk : pm_W p l e R s m args below meth c nL mu H locs cells slots Q F') : h' = h ∧ pm_W p l e R s m args below meth c nL mu H locs cells slots Q F := by
  obtain ⟨pc, lv, st⟩ := F
  obtain ⟨rfl, rfl⟩ := of_decide_eq_true hok
  simp only [pm_act, List.head?_cons, Option.bind_some, Option.bind_eq_some_iff] at ha
  obtain ⟨v, hv, ha⟩ := ha
  cases v with
  | int x => cases ha; exact ⟨rfl, fun ls hl => lv_iload hx hb hd (pm_ld_at hl hv) (kk ls hl)⟩
  | _ => cases ha
theorem ps_iload_n {j : Fin 4} (hx : p.tables.exec = Jvm.exec) (hb : c.code = cc) (hd : decode cc F.1 = .ok (.iload_n j, len)) (hok : pm_okB nL F.1 (.iload_n j) len vs ns = true) (ha : pm_act P (.iload_n j) len vs ns F h = some (F', h')) (kk : pm_W p l e R s m args below meth c nL mu H locs cells slots Q F') : h' = h ∧ pm_W p l e R s m args below meth c nL mu H locs cells slots Q F := by
  obtain ⟨pc, lv, st⟩ := F
  obtain ⟨rfl, rfl⟩ := of_decide_eq_true hok
  simp only [pm_act, List.head?_cons, Option.bind_some, Option.bind_eq_some_iff] at ha
  obtain ⟨v, hv, ha⟩ := ha
  cases v with
  | int x => cases ha; exact ⟨rfl, fun ls hl => lv_iload_n hx hb hd rfl (pm_ld_at hl hv) (kk ls hl)⟩
  | _ => cases ha
theorem ps_lload {j : Nat} (hx : p.tables.exec = Jvm.exec) (hb : c.code = cc) (hd : decode cc F.1 = .ok (.lload j, len)) (hok : pm_okB nL F.1 (.lload j) len vs ns = true) (ha : pm_act P (.lload j) len vs ns F h = some (F', h')) (kk : pm_W p l e R s m args below meth c nL mu H locs cells slots Q F') : h' = h ∧ pm_W p l e R s m args below meth c nL mu H locs cells slots Q F := by
  obtain ⟨pc, lv, st⟩ := F
  obtain ⟨rfl, rfl⟩ := of_decide_eq_true hok
  simp only [pm_act, List.head?_cons, Option.bind_some, Option.bind_eq_some_iff] at ha
  obtain ⟨v, hv, ha⟩ := ha
  cases v with
  | long x => cases ha; exact ⟨rfl, fun ls hl => lv_lload hx hb hd (pm_ld_at hl hv) (kk ls hl)⟩
  | _ => cases ha
theorem ps_lload_n {j : Fin 4} (hx : p.tables.exec = Jvm.exec) (hb : c.code = cc) (hd : decode cc F.1 = .ok (.lload_n j, len)) (hok : pm_okB nL F.1 (.lload_n j) len vs ns = true) (ha : pm_act P (.lload_n j) len vs ns F h = some (F', h')) (kk : pm_W p l e R s m args below meth c nL mu H locs cells slots Q F') : h' = h ∧ pm_W p l e R s m args below meth c nL mu H locs cells slots Q F := by
  obtain ⟨pc, lv, st⟩ := F
  obtain ⟨rfl, rfl⟩ := of_decide_eq_true hok
  simp only [pm_act, List.head?_cons, Option.bind_some, Option.bind_eq_some_iff] at ha
  obtain ⟨v, hv, ha⟩ := ha
  cases v with
  | long x => cases ha; exact ⟨rfl, fun ls hl => lv_lload_n hx hb hd rfl (pm_ld_at hl hv) (kk ls hl)⟩
  | _ => cases ha
theorem ps_aload {j : Nat} (hx : p.tables.exec = Jvm.exec) (hb : c.code = cc) (hd : decode cc F.1 = .ok (.aload j, len)) (hok : pm_okB nL F.1 (.aload j) len vs ns = true) (ha : pm_act P (.aload j) len vs ns F h = some (F', h')) (kk : pm_W p l e R s m args below meth c nL mu H locs cells slots Q F') : h' = h ∧ pm_W p l e R s m args below meth c nL mu H locs cells slots Q F := by
  obtain ⟨pc, lv, st⟩ := F
  obtain ⟨rfl, rfl⟩ := of_decide_eq_true hok
  simp only [pm_act, List.head?_cons, Option.bind_some, Option.bind_eq_some_iff] at ha
  obtain ⟨v, hv, ha⟩ := ha
  cases v with
  | ref x => cases ha; exact ⟨rfl, fun ls hl => lv_aload hx hb hd (pm_ld_at hl hv) (kk ls hl)⟩
  | null => cases ha; exact ⟨rfl, fun ls hl => lv_aloadN hx hb hd (pm_ld_at hl hv) (kk ls hl)⟩
  | _ => cases ha
theorem ps_aload_n {j : Fin 4} (hx : p.tables.exec = Jvm.exec) (hb : c.code = cc) (hd : decode cc F.1 = .ok (.aload_n j, len)) (hok : pm_okB nL F.1 (.aload_n j) len vs ns = true) (ha : pm_act P (.aload_n j) len vs ns F h = some (F', h')) (kk : pm_W p l e R s m args below meth c nL mu H locs cells slots Q F') : h' = h ∧ pm_W p l e R s m args below meth c nL mu H locs cells slots Q F := by
  obtain ⟨pc, lv, st⟩ := F
  obtain ⟨rfl, rfl⟩ := of_decide_eq_true hok
  simp only [pm_act, List.head?_cons, Option.bind_some, Option.bind_eq_some_iff] at ha
  obtain ⟨v, hv, ha⟩ := ha
  cases v with
  | ref x => cases ha; exact ⟨rfl, fun ls hl => lv_aload_n hx hb hd rfl (pm_ld_at hl hv) (kk ls hl)⟩
  | null => cases ha; exact ⟨rfl, fun ls hl => lv_aload_nN hx hb hd rfl (pm_ld_at hl hv) (kk ls hl)⟩
  | _ => cases ha
theorem ps_istore {j : Nat} (hx : p.tables.exec = Jvm.exec) (hb : c.code = cc) (hd : decode cc F.1 = .ok (.istore j, len)) (hok : pm_okB nL F.1 (.istore j) len vs ns = true) (ha : pm_act P (.istore j) len vs ns F h = some (F', h')) (kk : pm_W p l e R s m args below meth c nL mu H locs cells slots Q F') : h' = h ∧ pm_W p l e R s m args below meth c nL mu H locs cells slots Q F := by
  obtain ⟨pc, lv, st⟩ := F
  obtain ⟨rfl, rfl, hj⟩ := of_decide_eq_true hok
  cases st with
  | nil => cases ha
  | cons v st =>
    cases v with
    | int x => cases ha; exact ⟨rfl, fun ls hl => lv_istore hx hb hd hl hj (pm_st1_map mu lv _ (.int x)) (fun ls2 hl2 => kk ls2 hl2)⟩
    | _ => cases ha
theorem ps_istore_n {j : Fin 4} (hx : p.tables.exec = Jvm.exec) (hb : c.code = cc) (hd : decode cc F.1 = .ok (.istore_n j, len)) (hok : pm_okB nL F.1 (.istore_n j) len vs ns = true) (ha : pm_act P (.istore_n j) len vs ns F h = some (F', h')) (kk : pm_W p l e R s m args below meth c nL mu H locs cells slots Q F') : h' = h ∧ pm_W p l e R s m args below meth c nL mu H locs cells slots Q F := by
  obtain ⟨pc, lv, st⟩ := F
  obtain ⟨rfl, rfl, hj⟩ := of_decide_eq_true hok
  cases st with
  | nil => cases ha
  | cons v st =>
    cases v with
    | int x => cases ha; exact ⟨rfl, fun ls hl => lv_istore_n hx hb hd rfl hl hj (pm_st1_map mu lv _ (.int x)) (fun ls2 hl2 => kk ls2 hl2)⟩
    | _ => cases ha
theorem ps_lstore {j : Nat} (hx : p.tables.exec = Jvm.exec) (hb : c.code = cc) (hd : decode cc F.1 = .ok (.lstore j, len)) (hok : pm_okB nL F.1 (.lstore j) len vs ns = true) (ha : pm_act P (.lstore j) len vs ns F h = some (F', h')) (kk : pm_W p l e R s m args below meth c nL mu H locs cells slots Q F') : h' = h ∧ pm_W p l e R s m args below meth c nL mu H locs cells slots Q F := by
  obtain ⟨pc, lv, st⟩ := F
  obtain ⟨rfl, rfl, hj⟩ := of_decide_eq_true hok
  cases st with
  | nil => cases ha
  | cons v st =>
    cases v with
    | long x => cases ha; exact ⟨rfl, fun ls hl => lv_lstore hx hb hd hl hj (pm_st2_map mu lv _ (.long x)) (fun ls2 hl2 => kk ls2 hl2)⟩
    | _ => cases ha
theorem ps_lstore_n {j : Fin 4} (hx : p.tables.exec = Jvm.exec) (hb : c.code = cc) (hd : decode cc F.1 = .ok (.lstore_n j, len)) (hok : pm_okB nL F.1 (.lstore_n j) len vs ns = true) (ha : pm_act P (.lstore_n j) len vs ns F h = some (F', h')) (kk : pm_W p l e R s m args below meth c nL mu H locs cells slots Q F') : h' = h ∧ pm_W p l e R s m args below meth c nL mu H locs cells slots Q F := by
  obtain ⟨pc, lv, st⟩ := F
  obtain ⟨rfl, rfl, hj⟩ := of_decide_eq_true hok
  cases st with
  | nil => cases ha
  | cons v st =>
    cases v with
    | long x => cases ha; exact ⟨rfl, fun ls hl => lv_lstore_n hx hb hd rfl hl hj (pm_st2_map mu lv _ (.long x)) (fun ls2 hl2 => kk ls2 hl2)⟩
    | _ => cases ha
theorem ps_astore {j : Nat} (hx : p.tables.exec = Jvm.exec) (hb : c.code = cc) (hd : decode cc F.1 = .ok (.astore j, len)) (hok : pm_okB nL F.1 (.astore j) len vs ns = true) (ha : pm_act P (.astore j) len vs ns F h = some (F', h')) (kk : pm_W p l e R s m args below meth c nL mu H locs cells slots Q F') : h' = h ∧ pm_W p l e R s m args below meth c nL mu H locs cells slots Q F := by
  obtain ⟨pc, lv, st⟩ := F
  obtain ⟨rfl, rfl, hj⟩ := of_decide_eq_true hok
  cases st with
  | nil => cases ha
  | cons v st =>
    cases v with
    | ref x => cases ha; exact ⟨rfl, fun ls hl => lv_astore hx hb hd hl hj (pm_st1_map mu lv _ (.ref x)) (fun ls2 hl2 => kk ls2 hl2)⟩
    | null => cases ha; exact ⟨rfl, fun ls hl => lv_astoreN hx hb hd hl hj (pm_st1_map mu lv _ .null) (fun ls2 hl2 => kk ls2 hl2)⟩
    | _ => cases ha
theorem ps_astore_n {j : Fin 4} (hx : p.tables.exec = Jvm.exec) (hb : c.code = cc) (hd : decode cc F.1 = .ok (.astore_n j, len)) (hok : pm_okB nL F.1 (.astore_n j) len vs ns = true) (ha : pm_act P (.astore_n j) len vs ns F h = some (F', h')) (kk : pm_W p l e R s m args below meth c nL mu H locs cells slots Q F') : h' = h ∧ pm_W p l e R s m args below meth c nL mu H locs cells slots Q F := by
  obtain ⟨pc, lv, st⟩ := F
  obtain ⟨rfl, rfl, hj⟩ := of_decide_eq_true hok
  cases st with
  | nil => cases ha
  | cons v st =>
    cases v with
    | ref x => cases ha; exact ⟨rfl, fun ls hl => lv_astore_n hx hb hd rfl hl hj (pm_st1_map mu lv _ (.ref x)) (fun ls2 hl2 => kk ls2 hl2)⟩
    | null => cases ha; exact ⟨rfl, fun ls hl => lv_astore_nN hx hb hd rfl hl hj (pm_st1_map mu lv _ .null) (fun ls2 hl2 => kk ls2 hl2)⟩
    | _ => cases ha
theorem ps_iinc {j : Nat} {dd : Int} (hx : p.tables.exec = Jvm.exec) (hb : c.code = cc) (hd : decode cc F.1 = .ok (.iinc j dd, len)) (hok : pm_okB nL F.1 (.iinc j dd) len vs ns = true) (ha : pm_act P (.iinc j dd) len vs ns F h = some (F', h')) (kk : pm_W p l e R s m args below meth c nL mu H locs cells slots Q F') : h' = h ∧ pm_W p l e R s m args below meth c nL mu H locs cells slots Q F := by
  obtain ⟨pc, lv, st⟩ := F
  obtain ⟨rfl, rfl, rfl, hj⟩ := of_decide_eq_true hok
  simp only [pm_act] at ha
  cases hv : pm_ld lv j with
  | none => simp [hv] at ha
  | some v =>
    cases v with
    | int x =>
      simp only [hv] at ha
      cases ha
      obtain ⟨k, hk⟩ := pm_ld_k (mu := mu) hv
      exact ⟨rfl, fun ls hl => lv_iinc hx hb hd hl hk rfl hj (pm_st1_map mu lv _ (.int _)) (fun ls2 hl2 => kk ls2 hl2)⟩
    | _ => simp [hv] at ha
theorem ps_iadd  (hx : p.tables.exec = Jvm.exec) (hb : c.code = cc) (hd : decode cc F.1 = .ok (.iadd, len)) (hok : pm_okB nL F.1 (.iadd) len vs ns = true) (ha : pm_act P (.iadd) len vs ns F h = some (F', h')) (kk : pm_W p l e R s m args below meth c nL mu H locs cells slots Q F') : h' = h ∧ pm_W p l e R s m args below meth c nL mu H locs cells slots Q F := by
  obtain ⟨pc, lv, st⟩ := F
  have hl1 : len = 1 := of_decide_eq_true hok
  subst hl1
  cases st with
  | nil => cases ha
  | cons y st =>
    cases st with
    | nil => cases ha
    | cons x r =>
      cases x with
      | int a =>
        cases y with
        | int b => cases ha; exact ⟨rfl, fun ls hl => lv_iadd hx hb hd (kk ls hl)⟩
        | _ => cases ha
      | _ => cases y <;> cases ha
theorem ps_isub  (hx : p.tables.exec = Jvm.exec) (hb : c.code = cc) (hd : decode cc F.1 = .ok (.isub, len)) (hok : pm_okB nL F.1 (.isub) len vs ns = true) (ha : pm_act P (.isub) len vs ns F h = some (F', h')) (kk : pm_W p l e R s m args below meth c nL mu H locs cells slots Q F') : h' = h ∧ pm_W p l e R s m args below meth c nL mu H locs cells slots Q F := by
  obtain ⟨pc, lv, st⟩ := F
  have hl1 : len = 1 := of_decide_eq_true hok
  subst hl1
  cases st with
  | nil => cases ha
  | cons y st =>
    cases st with
    | nil => cases ha
    | cons x r =>
      cases x with
      | int a =>
        cases y with
        | int b => cases ha; exact ⟨rfl, fun ls hl => lv_isub hx hb hd (kk ls hl)⟩
        | _ => cases ha
      | _ => cases y <;> cases ha
theorem ps_imul  (hx : p.tables.exec = Jvm.exec) (hb : c.code = cc) (hd : decode cc F.1 = .ok (.imul, len)) (hok : pm_okB nL F.1 (.imul) len vs ns = true) (ha : pm_act P (.imul) len vs ns F h = some (F', h')) (kk : pm_W p l e R s m args below meth c nL mu H locs cells slots Q F') : h' = h ∧ pm_W p l e R s m args below meth c nL mu H locs cells slots Q F := by
  obtain ⟨pc, lv, st⟩ := F
  have hl1 : len = 1 := of_decide_eq_true hok
  subst hl1
  cases st with
  | nil => cases ha
  | cons y st =>
    cases st with
    | nil => cases ha
    | cons x r =>
      cases x with
      | int a =>
        cases y with
        | int b => cases ha; exact ⟨rfl, fun ls hl => lv_imul hx hb hd (kk ls hl)⟩
        | _ => cases ha
      | _ => cases y <;> cases ha
theorem ps_iand  (hx : p.tables.exec = Jvm.exec) (hb : c.code = cc) (hd : decode cc F.1 = .ok (.iand, len)) (hok : pm_okB nL F.1 (.iand) len vs ns = true) (ha : pm_act P (.iand) len vs ns F h = some (F', h')) (kk : pm_W p l e R s m args below meth c nL mu H locs cells slots Q F') : h' = h ∧ pm_W p l e R s m args below meth c nL mu H locs cells slots Q F := by
  obtain ⟨pc, lv, st⟩ := F
  have hl1 : len = 1 := of_decide_eq_true hok
  subst hl1
  cases st with
  | nil => cases ha
  | cons y st =>
    cases st with
    | nil => cases ha
    | cons x r =>
      cases x with
      | int a =>
        cases y with
        | int b => cases ha; exact ⟨rfl, fun ls hl => lv_iand hx hb hd (kk ls hl)⟩
        | _ => cases ha
      | _ => cases y <;> cases ha
theorem ps_ior  (hx : p.tables.exec = Jvm.exec) (hb : c.code = cc) (hd : decode cc F.1 = .ok (.ior, len)) (hok : pm_okB nL F.1 (.ior) len vs ns = true) (ha : pm_act P (.ior) len vs ns F h = some (F', h')) (kk : pm_W p l e R s m args below meth c nL mu H locs cells slots Q F') : h' = h ∧ pm_W p l e R s m args below meth c nL mu H locs cells slots Q F := by
  obtain ⟨pc, lv, st⟩ := F
  have hl1 : len = 1 := of_decide_eq_true hok
  subst hl1
  cases st with
  | nil => cases ha
  | cons y st =>
    cases st with
    | nil => cases ha
    | cons x r =>
      cases x with
      | int a =>
        cases y with
        | int b => cases ha; exact ⟨rfl, fun ls hl => lv_ior hx hb hd (kk ls hl)⟩
        | _ => cases ha
      | _ => cases y <;> cases ha
theorem ps_ixor  (hx : p.tables.exec = Jvm.exec) (hb : c.code = cc) (hd : decode cc F.1 = .ok (.ixor, len)) (hok : pm_okB nL F.1 (.ixor) len vs ns = true) (ha : pm_act P (.ixor) len vs ns F h = some (F', h')) (kk : pm_W p l e R s m args below meth c nL mu H locs cells slots Q F') : h' = h ∧ pm_W p l e R s m args below meth c nL mu H locs cells slots Q F := by
  obtain ⟨pc, lv, st⟩ := F
  have hl1 : len = 1 := of_decide_eq_true hok
  subst hl1
  cases st with
  | nil => cases ha
  | cons y st =>
    cases st with
    | nil => cases ha
    | cons x r =>
      cases x with
      | int a =>
        cases y with
        | int b => cases ha; exact ⟨rfl, fun ls hl => lv_ixor hx hb hd (kk ls hl)⟩
        | _ => cases ha
      | _ => cases y <;> cases ha
theorem ps_ishl  (hx : p.tables.exec = Jvm.exec) (hb : c.code = cc) (hd : decode cc F.1 = .ok (.ishl, len)) (hok : pm_okB nL F.1 (.ishl) len vs ns = true) (ha : pm_act P (.ishl) len vs ns F h = some (F', h')) (kk : pm_W p l e R s m args below meth c nL mu H locs cells slots Q F') : h' = h ∧ pm_W p l e R s m args below meth c nL mu H locs cells slots Q F := by
  obtain ⟨pc, lv, st⟩ := F
  have hl1 : len = 1 := of_decide_eq_true hok
  subst hl1
  cases st with
  | nil => cases ha
  | cons y st =>
    cases st with
    | nil => cases ha
    | cons x r =>
      cases x with
      | int a =>
        cases y with
        | int b => cases ha; exact ⟨rfl, fun ls hl => lv_ishl hx hb hd (kk ls hl)⟩
        | _ => cases ha
      | _ => cases y <;> cases ha
theorem ps_ishr  (hx : p.tables.exec = Jvm.exec) (hb : c.code = cc) (hd : decode cc F.1 = .ok (.ishr, len)) (hok : pm_okB nL F.1 (.ishr) len vs ns = true) (ha : pm_act P (.ishr) len vs ns F h = some (F', h')) (kk : pm_W p l e R s m args below meth c nL mu H locs cells slots Q F') : h' = h ∧ pm_W p l e R s m args below meth c nL mu H locs cells slots Q F := by
  obtain ⟨pc, lv, st⟩ := F
  have hl1 : len = 1 := of_decide_eq_true hok
  subst hl1
  cases st with
  | nil => cases ha
  | cons y st =>
    cases st with
    | nil => cases ha
    | cons x r =>
      cases x with
      | int a =>
        cases y with
        | int b => cases ha; exact ⟨rfl, fun ls hl => lv_ishr hx hb hd (kk ls hl)⟩
        | _ => cases ha
      | _ => cases y <;> cases ha
theorem ps_iushr  (hx : p.tables.exec = Jvm.exec) (hb : c.code = cc) (hd : decode cc F.1 = .ok (.iushr, len)) (hok : pm_okB nL F.1 (.iushr) len vs ns = true) (ha : pm_act P (.iushr) len vs ns F h = some (F', h')) (kk : pm_W p l e R s m args below meth c nL mu H locs cells slots Q F') : h' = h ∧ pm_W p l e R s m args below meth c nL mu H locs cells slots Q F := by
  obtain ⟨pc, lv, st⟩ := F
  have hl1 : len = 1 := of_decide_eq_true hok
  subst hl1
  cases st with
  | nil => cases ha
  | cons y st =>
    cases st with
    | nil => cases ha
    | cons x r =>
      cases x with
      | int a =>
        cases y with
        | int b => cases ha; exact ⟨rfl, fun ls hl => lv_iushr hx hb hd rfl (kk ls hl)⟩
        | _ => cases ha
      | _ => cases y <;> cases ha
theorem ps_idiv  (hx : p.tables.exec = Jvm.exec) (hb : c.code = cc) (hd : decode cc F.1 = .ok (.idiv, len)) (hok : pm_okB nL F.1 (.idiv) len vs ns = true) (ha : pm_act P (.idiv) len vs ns F h = some (F', h')) (kk : pm_W p l e R s m args below meth c nL mu H locs cells slots Q F') : h' = h ∧ pm_W p l e R s m args below meth c nL mu H locs cells slots Q F := by
  obtain ⟨pc, lv, st⟩ := F
  have hl1 : len = 1 := of_decide_eq_true hok
  subst hl1
  cases st with
  | nil => cases ha
  | cons y st =>
    cases st with
    | nil => cases ha
    | cons x r =>
      cases x with
      | int a =>
        cases y with
        | int b =>
          by_cases h0 : b = 0
          · simp [pm_act, pm_bin, pm_ii, pm_ll, h0] at ha
          · simp only [pm_act, pm_bin, pm_ii, pm_ll, if_neg h0, Option.map_some] at ha
            cases ha
            exact ⟨rfl, fun ls hl => lv_idiv hx hb hd h0 (kk ls hl)⟩
        | _ => cases ha
      | _ => cases y <;> cases ha
theorem ps_irem  (hx : p.tables.exec = Jvm.exec) (hb : c.code = cc) (hd : decode cc F.1 = .ok (.irem, len)) (hok : pm_okB nL F.1 (.irem) len vs ns = true) (ha : pm_act P (.irem) len vs ns F h = some (F', h')) (kk : pm_W p l e R s m args below meth c nL mu H locs cells slots Q F') : h' = h ∧ pm_W p l e R s m args below meth c nL mu H locs cells slots Q F := by
  obtain ⟨pc, lv, st⟩ := F
  have hl1 : len = 1 := of_decide_eq_true hok
  subst hl1
  cases st with
  | nil => cases ha
  | cons y st =>
    cases st with
    | nil => cases ha
    | cons x r =>
      cases x with
      | int a =>
        cases y with
        | int b =>
          by_cases h0 : b = 0
          · simp [pm_act, pm_bin, pm_ii, pm_ll, h0] at ha
          · simp only [pm_act, pm_bin, pm_ii, pm_ll, if_neg h0, Option.map_some] at ha
            cases ha
            exact ⟨rfl, fun ls hl => lv_irem hx hb hd h0 (kk ls hl)⟩
        | _ => cases ha
      | _ => cases y <;> cases ha
theorem ps_ladd  (hx : p.tables.exec = Jvm.exec) (hb : c.code = cc) (hd : decode cc F.1 = .ok (.ladd, len)) (hok : pm_okB nL F.1 (.ladd) len vs ns = true) (ha : pm_act P (.ladd) len vs ns F h = some (F', h')) (kk : pm_W p l e R s m args below meth c nL mu H locs cells slots Q F') : h' = h ∧ pm_W p l e R s m args below meth c nL mu H locs cells slots Q F := by
  obtain ⟨pc, lv, st⟩ := F
  have hl1 : len = 1 := of_decide_eq_true hok
  subst hl1
  cases st with
  | nil => cases ha
  | cons y st =>
    cases st with
    | nil => cases ha
    | cons x r =>
      cases x with
      | long a =>
        cases y with
        | long b => cases ha; exact ⟨rfl, fun ls hl => lv_ladd hx hb hd (kk ls hl)⟩
        | _ => cases ha
      | _ => cases y <;> cases ha
theorem ps_lsub  (hx : p.tables.exec = Jvm.exec) (hb : c.code = cc) (hd : decode cc F.1 = .ok (.lsub, len)) (hok : pm_okB nL F.1 (.lsub) len vs ns = true) (ha : pm_act P (.lsub) len vs ns F h = some (F', h')) (kk : pm_W p l e R s m args below meth c nL mu H locs cells slots Q F') : h' = h ∧ pm_W p l e R s m args below meth c nL mu H locs cells slots Q F := by
  obtain ⟨pc, lv, st⟩ := F
  have hl1 : len = 1 := of_decide_eq_true hok
  subst hl1
  cases st with
  | nil => cases ha
  | cons y st =>
    cases st with
    | nil => cases ha
    | cons x r =>
      cases x with
      | long a =>
        cases y with
        | long b => cases ha; exact ⟨rfl, fun ls hl => lv_lsub hx hb hd (kk ls hl)⟩
        | _ => cases ha
      | _ => cases y <;> cases ha
theorem ps_lmul  (hx : p.tables.exec = Jvm.exec) (hb : c.code = cc) (hd : decode cc F.1 = .ok (.lmul, len)) (hok : pm_okB nL F.1 (.lmul) len vs ns = true) (ha : pm_act P (.lmul) len vs ns F h = some (F', h')) (kk : pm_W p l e R s m args below meth c nL mu H locs cells slots Q F') : h' = h ∧ pm_W p l e R s m args below meth c nL mu H locs cells slots Q F := by
  obtain ⟨pc, lv, st⟩ := F
  have hl1 : len = 1 := of_decide_eq_true hok
  subst hl1
  cases st with
  | nil => cases ha
  | cons y st =>
    cases st with
    | nil => cases ha
    | cons x r =>
      cases x with
      | long a =>
        cases y with
        | long b => cases ha; exact ⟨rfl, fun ls hl => lv_lmul hx hb hd (kk ls hl)⟩
        | _ => cases ha
      | _ => cases y <;> cases ha
theorem ps_land  (hx : p.tables.exec = Jvm.exec) (hb : c.code = cc) (hd : decode cc F.1 = .ok (.land, len)) (hok : pm_okB nL F.1 (.land) len vs ns = true) (ha : pm_act P (.land) len vs ns F h = some (F', h')) (kk : pm_W p l e R s m args below meth c nL mu H locs cells slots Q F') : h' = h ∧ pm_W p l e R s m args below meth c nL mu H locs cells slots Q F := by
  obtain ⟨pc, lv, st⟩ := F
  have hl1 : len = 1 := of_decide_eq_true hok
  subst hl1
  cases st with
  | nil => cases ha
  | cons y st =>
    cases st with
    | nil => cases ha
    | cons x r =>
      cases x with
      | long a =>
        cases y with
        | long b => cases ha; exact ⟨rfl, fun ls hl => lv_land hx hb hd (kk ls hl)⟩
        | _ => cases ha
      | _ => cases y <;> cases ha
theorem ps_lor  (hx : p.tables.exec = Jvm.exec) (hb : c.code = cc) (hd : decode cc F.1 = .ok (.lor, len)) (hok : pm_okB nL F.1 (.lor) len vs ns = true) (ha : pm_act P (.lor) len vs ns F h = some (F', h')) (kk : pm_W p l e R s m args below meth c nL mu H locs cells slots Q F') : h' = h ∧ pm_W p l e R s m args below meth c nL mu H locs cells slots Q F := by
  obtain ⟨pc, lv, st⟩ := F
  have hl1 : len = 1 := of_decide_eq_true hok
  subst hl1
  cases st with
  | nil => cases ha
  | cons y st =>
    cases st with
    | nil => cases ha
    | cons x r =>
      cases x with
      | long a =>
        cases y with
        | long b => cases ha; exact ⟨rfl, fun ls hl => lv_lor hx hb hd (kk ls hl)⟩
        | _ => cases ha
      | _ => cases y <;> cases ha
theorem ps_lxor  (hx : p.tables.exec = Jvm.exec) (hb : c.code = cc) (hd : decode cc F.1 = .ok (.lxor, len)) (hok : pm_okB nL F.1 (.lxor) len vs ns = true) (ha : pm_act P (.lxor) len vs ns F h = some (F', h')) (kk : pm_W p l e R s m args below meth c nL mu H locs cells slots Q F') : h' = h ∧ pm_W p l e R s m args below meth c nL mu H locs cells slots Q F := by
  obtain ⟨pc, lv, st⟩ := F
  have hl1 : len = 1 := of_decide_eq_true hok
  subst hl1
  cases st with
  | nil => cases ha
  | cons y st =>
    cases st with
    | nil => cases ha
    | cons x r =>
      cases x with
      | long a =>
        cases y with
        | long b => cases ha; exact ⟨rfl, fun ls hl => lv_lxor hx hb hd (kk ls hl)⟩
        | _ => cases ha
      | _ => cases y <;> cases ha
theorem ps_ldiv  (hx : p.tables.exec = Jvm.exec) (hb : c.code = cc) (hd : decode cc F.1 = .ok (.ldiv, len)) (hok : pm_okB nL F.1 (.ldiv) len vs ns = true) (ha : pm_act P (.ldiv) len vs ns F h = some (F', h')) (kk : pm_W p l e R s m args below meth c nL mu H locs cells slots Q F') : h' = h ∧ pm_W p l e R s m args below meth c nL mu H locs cells slots Q F := by
  obtain ⟨pc, lv, st⟩ := F
  have hl1 : len = 1 := of_decide_eq_true hok
  subst hl1
  cases st with
  | nil => cases ha
  | cons y st =>
    cases st with
    | nil => cases ha
    | cons x r =>
      cases x with
      | long a =>
        cases y with
        | long b =>
          by_cases h0 : b = 0
          · simp [pm_act, pm_bin, pm_ii, pm_ll, h0] at ha
          · simp only [pm_act, pm_bin, pm_ii, pm_ll, if_neg h0, Option.map_some] at ha
            cases ha
            exact ⟨rfl, fun ls hl => lv_ldiv hx hb hd h0 (kk ls hl)⟩
        | _ => cases ha
      | _ => cases y <;> cases ha
theorem ps_lrem  (hx : p.tables.exec = Jvm.exec) (hb : c.code = cc) (hd : decode cc F.1 = .ok (.lrem, len)) (hok : pm_okB nL F.1 (.lrem) len vs ns = true) (ha : pm_act P (.lrem) len vs ns F h = some (F', h')) (kk : pm_W p l e R s m args below meth c nL mu H locs cells slots Q F') : h' = h ∧ pm_W p l e R s m args below meth c nL mu H locs cells slots Q F := by
  obtain ⟨pc, lv, st⟩ := F
  have hl1 : len = 1 := of_decide_eq_true hok
  subst hl1
  cases st with
  | nil => cases ha
  | cons y st =>
    cases st with
    | nil => cases ha
    | cons x r =>
      cases x with
      | long a =>
        cases y with
        | long b =>
          by_cases h0 : b = 0
          · simp [pm_act, pm_bin, pm_ii, pm_ll, h0] at ha
          · simp only [pm_act, pm_bin, pm_ii, pm_ll, if_neg h0, Option.map_some] at ha
            cases ha
            exact ⟨rfl, fun ls hl => lv_lrem hx hb hd h0 (kk ls hl)⟩
        | _ => cases ha
      | _ => cases y <;> cases ha
theorem ps_lshl  (hx : p.tables.exec = Jvm.exec) (hb : c.code = cc) (hd : decode cc F.1 = .ok (.lshl, len)) (hok : pm_okB nL F.1 (.lshl) len vs ns = true) (ha : pm_act P (.lshl) len vs ns F h = some (F', h')) (kk : pm_W p l e R s m args below meth c nL mu H locs cells slots Q F') : h' = h ∧ pm_W p l e R s m args below meth c nL mu H locs cells slots Q F := by
  obtain ⟨pc, lv, st⟩ := F
  have hl1 : len = 1 := of_decide_eq_true hok
  subst hl1
  cases st with
  | nil => cases ha
  | cons y st =>
    cases st with
    | nil => cases ha
    | cons x r =>
      cases x with
      | long a =>
        cases y with
        | int b => cases ha; exact ⟨rfl, fun ls hl => lv_lshl hx hb hd rfl (kk ls hl)⟩
        | _ => cases ha
      | _ => cases y <;> cases ha
theorem ps_lshr  (hx : p.tables.exec = Jvm.exec) (hb : c.code = cc) (hd : decode cc F.1 = .ok (.lshr, len)) (hok : pm_okB nL F.1 (.lshr) len vs ns = true) (ha : pm_act P (.lshr) len vs ns F h = some (F', h')) (kk : pm_W p l e R s m args below meth c nL mu H locs cells slots Q F') : h' = h ∧ pm_W p l e R s m args below meth c nL mu H locs cells slots Q F := by
  obtain ⟨pc, lv, st⟩ := F
  have hl1 : len = 1 := of_decide_eq_true hok
  subst hl1
  cases st with
  | nil => cases ha
  | cons y st =>
    cases st with
    | nil => cases ha
    | cons x r =>
      cases x with
      | long a =>
        cases y with
        | int b => cases ha; exact ⟨rfl, fun ls hl => lv_lshr hx hb hd rfl (kk ls hl)⟩
        | _ => cases ha
      | _ => cases y <;> cases ha
theorem ps_lushr  (hx : p.tables.exec = Jvm.exec) (hb : c.code = cc) (hd : decode cc F.1 = .ok (.lushr, len)) (hok : pm_okB nL F.1 (.lushr) len vs ns = true) (ha : pm_act P (.lushr) len vs ns F h = some (F', h')) (kk : pm_W p l e R s m args below meth c nL mu H locs cells slots Q F') : h' = h ∧ pm_W p l e R s m args below meth c nL mu H locs cells slots Q F := by
  obtain ⟨pc, lv, st⟩ := F
  have hl1 : len = 1 := of_decide_eq_true hok
  subst hl1
  cases st with
  | nil => cases ha
  | cons y st =>
    cases st with
    | nil => cases ha
    | cons x r =>
      cases x with
      | long a =>
        cases y with
        | int b => cases ha; exact ⟨rfl, fun ls hl => lv_lushr hx hb hd rfl (kk ls hl)⟩
        | _ => cases ha
      | _ => cases y <;> cases ha
theorem ps_lcmp  (hx : p.tables.exec = Jvm.exec) (hb : c.code = cc) (hd : decode cc F.1 = .ok (.lcmp, len)) (hok : pm_okB nL F.1 (.lcmp) len vs ns = true) (ha : pm_act P (.lcmp) len vs ns F h = some (F', h')) (kk : pm_W p l e R s m args below meth c nL mu H locs cells slots Q F') : h' = h ∧ pm_W p l e R s m args below meth c nL mu H locs cells slots Q F := by
  obtain ⟨pc, lv, st⟩ := F
  have hl1 : len = 1 := of_decide_eq_true hok
  subst hl1
  cases st with
  | nil => cases ha
  | cons y st =>
    cases st with
    | nil => cases ha
    | cons x r =>
      cases x with
      | long a =>
        cases y with
        | long b => cases ha; exact ⟨rfl, fun ls hl => W.lcmp hx hb hd (kk ls hl)⟩
        | _ => cases ha
      | _ => cases y <;> cases ha
theorem ps_ineg  (hx : p.tables.exec = Jvm.exec) (hb : c.code = cc) (hd : decode cc F.1 = .ok (.ineg, len)) (hok : pm_okB nL F.1 (.ineg) len vs ns = true) (ha : pm_act P (.ineg) len vs ns F h = some (F', h')) (kk : pm_W p l e R s m args below meth c nL mu H locs cells slots Q F') : h' = h ∧ pm_W p l e R s m args below meth c nL mu H locs cells slots Q F := by
  obtain ⟨pc, lv, st⟩ := F
  have hl1 : len = 1 := of_decide_eq_true hok
  subst hl1
  cases st with
  | nil => cases ha
  | cons x r =>
    cases x with
    | int a => cases ha; exact ⟨rfl, fun ls hl => lv_ineg hx hb hd (kk ls hl)⟩
    | _ => cases ha
theorem ps_lneg  (hx : p.tables.exec = Jvm.exec) (hb : c.code = cc) (hd : decode cc F.1 = .ok (.lneg, len)) (hok : pm_okB nL F.1 (.lneg) len vs ns = true) (ha : pm_act P (.lneg) len vs ns F h = some (F', h')) (kk : pm_W p l e R s m args below meth c nL mu H locs cells slots Q F') : h' = h ∧ pm_W p l e R s m args below meth c nL mu H locs cells slots Q F := by
  obtain ⟨pc, lv, st⟩ := F
  have hl1 : len = 1 := of_decide_eq_true hok
  subst hl1
  cases st with
  | nil => cases ha
  | cons x r =>
    cases x with
    | long a => cases ha; exact ⟨rfl, fun ls hl => lv_lneg hx hb hd (kk ls hl)⟩
    | _ => cases ha
theorem ps_i2l  (hx : p.tables.exec = Jvm.exec) (hb : c.code = cc) (hd : decode cc F.1 = .ok (.i2l, len)) (hok : pm_okB nL F.1 (.i2l) len vs ns = true) (ha : pm_act P (.i2l) len vs ns F h = some (F', h')) (kk : pm_W p l e R s m args below meth c nL mu H locs cells slots Q F') : h' = h ∧ pm_W p l e R s m args below meth c nL mu H locs cells slots Q F := by
  obtain ⟨pc, lv, st⟩ := F
  have hl1 : len = 1 := of_decide_eq_true hok
  subst hl1
  cases st with
  | nil => cases ha
  | cons x r =>
    cases x with
    | int a => cases ha; exact ⟨rfl, fun ls hl => lv_i2l hx hb hd rfl (kk ls hl)⟩
    | _ => cases ha
theorem ps_l2i  (hx : p.tables.exec = Jvm.exec) (hb : c.code = cc) (hd : decode cc F.1 = .ok (.l2i, len)) (hok : pm_okB nL F.1 (.l2i) len vs ns = true) (ha : pm_act P (.l2i) len vs ns F h = some (F', h')) (kk : pm_W p l e R s m args below meth c nL mu H locs cells slots Q F') : h' = h ∧ pm_W p l e R s m args below meth c nL mu H locs cells slots Q F := by
  obtain ⟨pc, lv, st⟩ := F
  have hl1 : len = 1 := of_decide_eq_true hok
  subst hl1
  cases st with
  | nil => cases ha
  | cons x r =>
    cases x with
    | long a => cases ha; exact ⟨rfl, fun ls hl => lv_l2i hx hb hd rfl (kk ls hl)⟩
    | _ => cases ha
theorem ps_i2b  (hx : p.tables.exec = Jvm.exec) (hb : c.code = cc) (hd : decode cc F.1 = .ok (.i2b, len)) (hok : pm_okB nL F.1 (.i2b) len vs ns = true) (ha : pm_act P (.i2b) len vs ns F h = some (F', h')) (kk : pm_W p l e R s m args below meth c nL mu H locs cells slots Q F') : h' = h ∧ pm_W p l e R s m args below meth c nL mu H locs cells slots Q F := by
  obtain ⟨pc, lv, st⟩ := F
  have hl1 : len = 1 := of_decide_eq_true hok
  subst hl1
  cases st with
  | nil => cases ha
  | cons x r =>
    cases x with
    | int a => cases ha; exact ⟨rfl, fun ls hl => lv_i2b hx hb hd rfl (kk ls hl)⟩
    | _ => cases ha
theorem ps_i2s  (hx : p.tables.exec = Jvm.exec) (hb : c.code = cc) (hd : decode cc F.1 = .ok (.i2s, len)) (hok : pm_okB nL F.1 (.i2s) len vs ns = true) (ha : pm_act P (.i2s) len vs ns F h = some (F', h')) (kk : pm_W p l e R s m args below meth c nL mu H locs cells slots Q F') : h' = h ∧ pm_W p l e R s m args below meth c nL mu H locs cells slots Q F := by
  obtain ⟨pc, lv, st⟩ := F
  have hl1 : len = 1 := of_decide_eq_true hok
  subst hl1
  cases st with
  | nil => cases ha
  | cons x r =>
    cases x with
    | int a => cases ha; exact ⟨rfl, fun ls hl => lv_i2s hx hb hd rfl (kk ls hl)⟩
    | _ => cases ha
theorem ps_i2c  (hx : p.tables.exec = Jvm.exec) (hb : c.code = cc) (hd : decode cc F.1 = .ok (.i2c, len)) (hok : pm_okB nL F.1 (.i2c) len vs ns = true) (ha : pm_act P (.i2c) len vs ns F h = some (F', h')) (kk : pm_W p l e R s m args below meth c nL mu H locs cells slots Q F') : h' = h ∧ pm_W p l e R s m args below meth c nL mu H locs cells slots Q F := by
  obtain ⟨pc, lv, st⟩ := F
  have hl1 : len = 1 := of_decide_eq_true hok
  subst hl1
  cases st with
  | nil => cases ha
  | cons x r =>
    cases x with
    | int a => cases ha; exact ⟨rfl, fun ls hl => lv_i2c hx hb hd rfl (kk ls hl)⟩
    | _ => cases ha
theorem ps_dup  (hx : p.tables.exec = Jvm.exec) (hb : c.code = cc) (hd : decode cc F.1 = .ok (.dup, len)) (hok : pm_okB nL F.1 (.dup) len vs ns = true) (ha : pm_act P (.dup) len vs ns F h = some (F', h')) (kk : pm_W p l e R s m args below meth c nL mu H locs cells slots Q F') : h' = h ∧ pm_W p l e R s m args below meth c nL mu H locs cells slots Q F := by
  obtain ⟨pc, lv, st⟩ := F
  have hl1 : len = 1 := of_decide_eq_true hok
  subst hl1
  cases st with
  | nil => cases ha
  | cons a r =>
    by_cases h0 : a.category = 1
    · simp only [pm_act, pm_stk, if_pos h0, Option.map_some] at ha
      cases ha
      exact ⟨rfl, fun ls hl => lv_dup hx hb hd ((pm_v_cat mu a).trans h0) (kk ls hl)⟩
    · simp [pm_act, pm_stk, h0] at ha
theorem ps_pop  (hx : p.tables.exec = Jvm.exec) (hb : c.code = cc) (hd : decode cc F.1 = .ok (.pop, len)) (hok : pm_okB nL F.1 (.pop) len vs ns = true) (ha : pm_act P (.pop) len vs ns F h = some (F', h')) (kk : pm_W p l e R s m args below meth c nL mu H locs cells slots Q F') : h' = h ∧ pm_W p l e R s m args below meth c nL mu H locs cells slots Q F := by
  obtain ⟨pc, lv, st⟩ := F
  have hl1 : len = 1 := of_decide_eq_true hok
  subst hl1
  cases st with
  | nil => cases ha
  | cons a r =>
    by_cases h0 : a.category = 1
    · simp only [pm_act, pm_stk, if_pos h0, Option.map_some] at ha
      cases ha
      exact ⟨rfl, fun ls hl => lv_pop hx hb hd ((pm_v_cat mu a).trans h0) (kk ls hl)⟩
    · simp [pm_act, pm_stk, h0] at ha
theorem ps_dup_x1  (hx : p.tables.exec = Jvm.exec) (hb : c.code = cc) (hd : decode cc F.1 = .ok (.dup_x1, len)) (hok : pm_okB nL F.1 (.dup_x1) len vs ns = true) (ha : pm_act P (.dup_x1) len vs ns F h = some (F', h')) (kk : pm_W p l e R s m args below meth c nL mu H locs cells slots Q F') : h' = h ∧ pm_W p l e R s m args below meth c nL mu H locs cells slots Q F := by
  obtain ⟨pc, lv, st⟩ := F
  have hl1 : len = 1 := of_decide_eq_true hok
  subst hl1
  cases st with
  | nil => cases ha
  | cons a r =>
    cases r with
    | nil => cases ha
    | cons b r =>
      by_cases h0 : a.category = 1 ∧ b.category = 1
      · simp only [pm_act, pm_stk, if_pos h0, Option.map_some] at ha
        cases ha
        exact ⟨rfl, fun ls hl => lv_dup_x1 hx hb hd ((pm_v_cat mu a).trans h0.1) ((pm_v_cat mu b).trans h0.2) (kk ls hl)⟩
      · simp [pm_act, pm_stk, h0] at ha
theorem ps_dup_x2  (hx : p.tables.exec = Jvm.exec) (hb : c.code = cc) (hd : decode cc F.1 = .ok (.dup_x2, len)) (hok : pm_okB nL F.1 (.dup_x2) len vs ns = true) (ha : pm_act P (.dup_x2) len vs ns F h = some (F', h')) (kk : pm_W p l e R s m args below meth c nL mu H locs cells slots Q F') : h' = h ∧ pm_W p l e R s m args below meth c nL mu H locs cells slots Q F := by
  obtain ⟨pc, lv, st⟩ := F
  have hl1 : len = 1 := of_decide_eq_true hok
  subst hl1
  cases st with
  | nil => cases ha
  | cons a r =>
    cases r with
    | nil => cases ha
    | cons b r =>
      cases r with
      | nil => cases ha
      | cons d r =>
        by_cases h0 : a.category = 1 ∧ b.category = 1 ∧ d.category = 1
        · simp only [pm_act, pm_stk, if_pos h0, Option.map_some] at ha
          cases ha
          exact ⟨rfl, fun ls hl => lv_dup_x2 hx hb hd ((pm_v_cat mu a).trans h0.1) ((pm_v_cat mu b).trans h0.2.1) ((pm_v_cat mu d).trans h0.2.2) (kk ls hl)⟩
        · simp [pm_act, pm_stk, h0] at ha
theorem ps_dup2  (hx : p.tables.exec = Jvm.exec) (hb : c.code = cc) (hd : decode cc F.1 = .ok (.dup2, len)) (hok : pm_okB nL F.1 (.dup2) len vs ns = true) (ha : pm_act P (.dup2) len vs ns F h = some (F', h')) (kk : pm_W p l e R s m args below meth c nL mu H locs cells slots Q F') : h' = h ∧ pm_W p l e R s m args below meth c nL mu H locs cells slots Q F := by
  obtain ⟨pc, lv, st⟩ := F
  have hl1 : len = 1 := of_decide_eq_true hok
  subst hl1
  cases st with
  | nil => cases ha
  | cons a r =>
    by_cases h0 : a.category = 2
    · simp only [pm_act, pm_stk, if_pos h0, Option.map_some] at ha
      cases ha
      exact ⟨rfl, fun ls hl => lv_dup2_2 hx hb hd ((pm_v_cat mu a).trans h0) (kk ls hl)⟩
    · have h1 : a.category = 1 := by rcases lv_cat a with q | q; exact q; exact absurd q h0
      cases r with
      | nil => simp [pm_act, pm_stk, h0] at ha
      | cons b r =>
        by_cases h2 : b.category = 1
        · simp only [pm_act, pm_stk, if_neg h0, if_pos h2, Option.map_some] at ha
          cases ha
          exact ⟨rfl, fun ls hl => lv_dup2_11 hx hb hd ((pm_v_cat mu a).trans h1) ((pm_v_cat mu b).trans h2) (kk ls hl)⟩
        · simp [pm_act, pm_stk, h0, h2] at ha
theorem ps_pop2  (hx : p.tables.exec = Jvm.exec) (hb : c.code = cc) (hd : decode cc F.1 = .ok (.pop2, len)) (hok : pm_okB nL F.1 (.pop2) len vs ns = true) (ha : pm_act P (.pop2) len vs ns F h = some (F', h')) (kk : pm_W p l e R s m args below meth c nL mu H locs cells slots Q F') : h' = h ∧ pm_W p l e R s m args below meth c nL mu H locs cells slots Q F := by
  obtain ⟨pc, lv, st⟩ := F
  have hl1 : len = 1 := of_decide_eq_true hok
  subst hl1
  cases st with
  | nil => cases ha
  | cons a r =>
    by_cases h0 : a.category = 2
    · simp only [pm_act, pm_stk, if_pos h0, Option.map_some] at ha
      cases ha
      exact ⟨rfl, fun ls hl => lv_pop2_2 hx hb hd ((pm_v_cat mu a).trans h0) (kk ls hl)⟩
    · have h1 : a.category = 1 := by rcases lv_cat a with q | q; exact q; exact absurd q h0
      cases r with
      | nil => simp [pm_act, pm_stk, h0] at ha
      | cons b r =>
        by_cases h2 : b.category = 1
        · simp only [pm_act, pm_stk, if_neg h0, if_pos h2, Option.map_some] at ha
          cases ha
          exact ⟨rfl, fun ls hl => lv_pop2_11 hx hb hd ((pm_v_cat mu a).trans h1) ((pm_v_cat mu b).trans h2) (kk ls hl)⟩
        · simp [pm_act, pm_stk, h0, h2] at ha
theorem ps_if_eq {off : Int} (hx : p.tables.exec = Jvm.exec) (hb : c.code = cc) (hd : decode cc F.1 = .ok (.ifCond .eq off, len)) (hok : pm_okB nL F.1 (.ifCond .eq off) len vs ns = true) (ha : pm_act P (.ifCond .eq off) len vs ns F h = some (F', h')) (kk : pm_W p l e R s m args below meth c nL mu H locs cells slots Q F') : h' = h ∧ pm_W p l e R s m args below meth c nL mu H locs cells slots Q F := by
  obtain ⟨pc, lv, st⟩ := F
  obtain ⟨rfl, rfl, ht⟩ := of_decide_eq_true hok
  have ht2 := (Int.toNat_of_nonneg ht).symm
  cases st with
  | nil => cases ha
  | cons v st =>
    cases v with
    | int x =>
      by_cases hc : x = 0
      · simp only [pm_act, pm_br, pm_cmp, hc, decide_true, decide_false, Bool.not_true, Bool.not_false, Option.bind_some, if_true, if_false, List.head?_cons, Option.map_some, Bool.false_eq_true] at ha
        cases ha
        refine ⟨rfl, fun ls hl => lv_if_eq hx hb hd ht2 (fun _ => kk ls hl) (fun q => absurd hc q)⟩
      · simp only [pm_act, pm_br, pm_cmp, hc, decide_true, decide_false, Bool.not_true, Bool.not_false, Option.bind_some, if_true, if_false, List.head?_cons, Option.map_some, Bool.false_eq_true] at ha
        cases ha
        refine ⟨rfl, fun ls hl => lv_if_eq hx hb hd ht2 (fun q => absurd q hc) (fun _ => kk ls hl)⟩
    | _ => cases ha
theorem ps_icmp_eq {off : Int} (hx : p.tables.exec = Jvm.exec) (hb : c.code = cc) (hd : decode cc F.1 = .ok (.if_icmp .eq off, len)) (hok : pm_okB nL F.1 (.if_icmp .eq off) len vs ns = true) (ha : pm_act P (.if_icmp .eq off) len vs ns F h = some (F', h')) (kk : pm_W p l e R s m args below meth c nL mu H locs cells slots Q F') : h' = h ∧ pm_W p l e R s m args below meth c nL mu H locs cells slots Q F := by
  obtain ⟨pc, lv, st⟩ := F
  obtain ⟨rfl, rfl, ht⟩ := of_decide_eq_true hok
  have ht2 := (Int.toNat_of_nonneg ht).symm
  cases st with
  | nil => cases ha
  | cons v st =>
    cases st with
    | nil => cases v <;> cases ha
    | cons u st =>
      cases v with
      | int y =>
        cases u with
        | int x =>
          by_cases hc : x = y
          · simp only [pm_act, pm_br, pm_cmp, hc, decide_true, decide_false, Bool.not_true, Bool.not_false, Option.bind_some, if_true, if_false, List.head?_cons, Option.map_some, Bool.false_eq_true] at ha
            cases ha
            refine ⟨rfl, fun ls hl => lv_icmp_eq hx hb hd ht2 (fun _ => kk ls hl) (fun q => absurd hc q)⟩
          · simp only [pm_act, pm_br, pm_cmp, hc, decide_true, decide_false, Bool.not_true, Bool.not_false, Option.bind_some, if_true, if_false, List.head?_cons, Option.map_some, Bool.false_eq_true] at ha
            cases ha
            refine ⟨rfl, fun ls hl => lv_icmp_eq hx hb hd ht2 (fun q => absurd q hc) (fun _ => kk ls hl)⟩
        | _ => cases ha
      | _ => cases u <;> cases ha
theorem ps_if_ne {off : Int} (hx : p.tables.exec = Jvm.exec) (hb : c.code = cc) (hd : decode cc F.1 = .ok (.ifCond .ne off, len)) (hok : pm_okB nL F.1 (.ifCond .ne off) len vs ns = true) (ha : pm_act P (.ifCond .ne off) len vs ns F h = some (F', h')) (kk : pm_W p l e R s m args below meth c nL mu H locs cells slots Q F') : h' = h ∧ pm_W p l e R s m args below meth c nL mu H locs cells slots Q F := by
  obtain ⟨pc, lv, st⟩ := F
  obtain ⟨rfl, rfl, ht⟩ := of_decide_eq_true hok
  have ht2 := (Int.toNat_of_nonneg ht).symm
  cases st with
  | nil => cases ha
  | cons v st =>
    cases v with
    | int x =>
      by_cases hc : x = 0
      · simp only [pm_act, pm_br, pm_cmp, hc, decide_true, decide_false, Bool.not_true, Bool.not_false, Option.bind_some, if_true, if_false, List.head?_cons, Option.map_some, Bool.false_eq_true] at ha
        cases ha
        refine ⟨rfl, fun ls hl => lv_if_ne hx hb hd ht2 (fun q => absurd hc q) (fun _ => kk ls hl)⟩
      · simp only [pm_act, pm_br, pm_cmp, hc, decide_true, decide_false, Bool.not_true, Bool.not_false, Option.bind_some, if_true, if_false, List.head?_cons, Option.map_some, Bool.false_eq_true] at ha
        cases ha
        refine ⟨rfl, fun ls hl => lv_if_ne hx hb hd ht2 (fun _ => kk ls hl) (fun q => absurd q hc)⟩
    | _ => cases ha
theorem ps_icmp_ne {off : Int} (hx : p.tables.exec = Jvm.exec) (hb : c.code = cc) (hd : decode cc F.1 = .ok (.if_icmp .ne off, len)) (hok : pm_okB nL F.1 (.if_icmp .ne off) len vs ns = true) (ha : pm_act P (.if_icmp .ne off) len vs ns F h = some (F', h')) (kk : pm_W p l e R s m args below meth c nL mu H locs cells slots Q F') : h' = h ∧ pm_W p l e R s m args below meth c nL mu H locs cells slots Q F := by
  obtain ⟨pc, lv, st⟩ := F
  obtain ⟨rfl, rfl, ht⟩ := of_decide_eq_true hok
  have ht2 := (Int.toNat_of_nonneg ht).symm
  cases st with
  | nil => cases ha
  | cons v st =>
    cases st with
    | nil => cases v <;> cases ha
    | cons u st =>
      cases v with
      | int y =>
        cases u with
        | int x =>
          by_cases hc : x = y
          · simp only [pm_act, pm_br, pm_cmp, hc, decide_true, decide_false, Bool.not_true, Bool.not_false, Option.bind_some, if_true, if_false, List.head?_cons, Option.map_some, Bool.false_eq_true] at ha
            cases ha
            refine ⟨rfl, fun ls hl => lv_icmp_ne hx hb hd ht2 (fun q => absurd hc q) (fun _ => kk ls hl)⟩
          · simp only [pm_act, pm_br, pm_cmp, hc, decide_true, decide_false, Bool.not_true, Bool.not_false, Option.bind_some, if_true, if_false, List.head?_cons, Option.map_some, Bool.false_eq_true] at ha
            cases ha
            refine ⟨rfl, fun ls hl => lv_icmp_ne hx hb hd ht2 (fun _ => kk ls hl) (fun q => absurd q hc)⟩
        | _ => cases ha
      | _ => cases u <;> cases ha
theorem ps_if_lt {off : Int} (hx : p.tables.exec = Jvm.exec) (hb : c.code = cc) (hd : decode cc F.1 = .ok (.ifCond .lt off, len)) (hok : pm_okB nL F.1 (.ifCond .lt off) len vs ns = true) (ha : pm_act P (.ifCond .lt off) len vs ns F h = some (F', h')) (kk : pm_W p l e R s m args below meth c nL mu H locs cells slots Q F') : h' = h ∧ pm_W p l e R s m args below meth c nL mu H locs cells slots Q F := by
  obtain ⟨pc, lv, st⟩ := F
  obtain ⟨rfl, rfl, ht⟩ := of_decide_eq_true hok
  have ht2 := (Int.toNat_of_nonneg ht).symm
  cases st with
  | nil => cases ha
  | cons v st =>
    cases v with
    | int x =>
      by_cases hc : x < 0
      · simp only [pm_act, pm_br, pm_cmp, hc, decide_true, decide_false, Bool.not_true, Bool.not_false, Option.bind_some, if_true, if_false, List.head?_cons, Option.map_some, Bool.false_eq_true] at ha
        cases ha
        refine ⟨rfl, fun ls hl => lv_if_lt hx hb hd ht2 (fun _ => kk ls hl) (fun q => absurd hc q)⟩
      · simp only [pm_act, pm_br, pm_cmp, hc, decide_true, decide_false, Bool.not_true, Bool.not_false, Option.bind_some, if_true, if_false, List.head?_cons, Option.map_some, Bool.false_eq_true] at ha
        cases ha
        refine ⟨rfl, fun ls hl => lv_if_lt hx hb hd ht2 (fun q => absurd q hc) (fun _ => kk ls hl)⟩
    | _ => cases ha
theorem ps_icmp_lt {off : Int} (hx : p.tables.exec = Jvm.exec) (hb : c.code = cc) (hd : decode cc F.1 = .ok (.if_icmp .lt off, len)) (hok : pm_okB nL F.1 (.if_icmp .lt off) len vs ns = true) (ha : pm_act P (.if_icmp .lt off) len vs ns F h = some (F', h')) (kk : pm_W p l e R s m args below meth c nL mu H locs cells slots Q F') : h' = h ∧ pm_W p l e R s m args below meth c nL mu H locs cells slots Q F := by
  obtain ⟨pc, lv, st⟩ := F
  obtain ⟨rfl, rfl, ht⟩ := of_decide_eq_true hok
  have ht2 := (Int.toNat_of_nonneg ht).symm
  cases st with
  | nil => cases ha
  | cons v st =>
    cases st with
    | nil => cases v <;> cases ha
    | cons u st =>
      cases v with
      | int y =>
        cases u with
        | int x =>
          by_cases hc : x < y
          · simp only [pm_act, pm_br, pm_cmp, hc, decide_true, decide_false, Bool.not_true, Bool.not_false, Option.bind_some, if_true, if_false, List.head?_cons, Option.map_some, Bool.false_eq_true] at ha
            cases ha
            refine ⟨rfl, fun ls hl => lv_icmp_lt hx hb hd ht2 (fun _ => kk ls hl) (fun q => absurd hc q)⟩
          · simp only [pm_act, pm_br, pm_cmp, hc, decide_true, decide_false, Bool.not_true, Bool.not_false, Option.bind_some, if_true, if_false, List.head?_cons, Option.map_some, Bool.false_eq_true] at ha
            cases ha
            refine ⟨rfl, fun ls hl => lv_icmp_lt hx hb hd ht2 (fun q => absurd q hc) (fun _ => kk ls hl)⟩
        | _ => cases ha
      | _ => cases u <;> cases ha
theorem ps_if_ge {off : Int} (hx : p.tables.exec = Jvm.exec) (hb : c.code = cc) (hd : decode cc F.1 = .ok (.ifCond .ge off, len)) (hok : pm_okB nL F.1 (.ifCond .ge off) len vs ns = true) (ha : pm_act P (.ifCond .ge off) len vs ns F h = some (F', h')) (kk : pm_W p l e R s m args below meth c nL mu H locs cells slots Q F') : h' = h ∧ pm_W p l e R s m args below meth c nL mu H locs cells slots Q F := by
  obtain ⟨pc, lv, st⟩ := F
  obtain ⟨rfl, rfl, ht⟩ := of_decide_eq_true hok
  have ht2 := (Int.toNat_of_nonneg ht).symm
  cases st with
  | nil => cases ha
  | cons v st =>
    cases v with
    | int x =>
      by_cases hc : 0 ≤ x
      · simp only [pm_act, pm_br, pm_cmp, hc, decide_true, decide_false, Bool.not_true, Bool.not_false, Option.bind_some, if_true, if_false, List.head?_cons, Option.map_some, Bool.false_eq_true] at ha
        cases ha
        refine ⟨rfl, fun ls hl => lv_if_ge hx hb hd ht2 (fun _ => kk ls hl) (fun q => absurd hc q)⟩
      · simp only [pm_act, pm_br, pm_cmp, hc, decide_true, decide_false, Bool.not_true, Bool.not_false, Option.bind_some, if_true, if_false, List.head?_cons, Option.map_some, Bool.false_eq_true] at ha
        cases ha
        refine ⟨rfl, fun ls hl => lv_if_ge hx hb hd ht2 (fun q => absurd q hc) (fun _ => kk ls hl)⟩
    | _ => cases ha
theorem ps_icmp_ge {off : Int} (hx : p.tables.exec = Jvm.exec) (hb : c.code = cc) (hd : decode cc F.1 = .ok (.if_icmp .ge off, len)) (hok : pm_okB nL F.1 (.if_icmp .ge off) len vs ns = true) (ha : pm_act P (.if_icmp .ge off) len vs ns F h = some (F', h')) (kk : pm_W p l e R s m args below meth c nL mu H locs cells slots Q F') : h' = h ∧ pm_W p l e R s m args below meth c nL mu H locs cells slots Q F := by
  obtain ⟨pc, lv, st⟩ := F
  obtain ⟨rfl, rfl, ht⟩ := of_decide_eq_true hok
  have ht2 := (Int.toNat_of_nonneg ht).symm
  cases st with
  | nil => cases ha
  | cons v st =>
    cases st with
    | nil => cases v <;> cases ha
    | cons u st =>
      cases v with
      | int y =>
        cases u with
        | int x =>
          by_cases hc : y ≤ x
          · simp only [pm_act, pm_br, pm_cmp, hc, decide_true, decide_false, Bool.not_true, Bool.not_false, Option.bind_some, if_true, if_false, List.head?_cons, Option.map_some, Bool.false_eq_true] at ha
            cases ha
            refine ⟨rfl, fun ls hl => lv_icmp_ge hx hb hd ht2 (fun _ => kk ls hl) (fun q => absurd hc q)⟩
          · simp only [pm_act, pm_br, pm_cmp, hc, decide_true, decide_false, Bool.not_true, Bool.not_false, Option.bind_some, if_true, if_false, List.head?_cons, Option.map_some, Bool.false_eq_true] at ha
            cases ha
            refine ⟨rfl, fun ls hl => lv_icmp_ge hx hb hd ht2 (fun q => absurd q hc) (fun _ => kk ls hl)⟩
        | _ => cases ha
      | _ => cases u <;> cases ha
theorem ps_if_gt {off : Int} (hx : p.tables.exec = Jvm.exec) (hb : c.code = cc) (hd : decode cc F.1 = .ok (.ifCond .gt off, len)) (hok : pm_okB nL F.1 (.ifCond .gt off) len vs ns = true) (ha : pm_act P (.ifCond .gt off) len vs ns F h = some (F', h')) (kk : pm_W p l e R s m args below meth c nL mu H locs cells slots Q F') : h' = h ∧ pm_W p l e R s m args below meth c nL mu H locs cells slots Q F := by
  obtain ⟨pc, lv, st⟩ := F
  obtain ⟨rfl, rfl, ht⟩ := of_decide_eq_true hok
  have ht2 := (Int.toNat_of_nonneg ht).symm
  cases st with
  | nil => cases ha
  | cons v st =>
    cases v with
    | int x =>
      by_cases hc : 0 < x
      · simp only [pm_act, pm_br, pm_cmp, hc, decide_true, decide_false, Bool.not_true, Bool.not_false, Option.bind_some, if_true, if_false, List.head?_cons, Option.map_some, Bool.false_eq_true] at ha
        cases ha
        refine ⟨rfl, fun ls hl => lv_if_gt hx hb hd ht2 (fun _ => kk ls hl) (fun q => absurd hc q)⟩
      · simp only [pm_act, pm_br, pm_cmp, hc, decide_true, decide_false, Bool.not_true, Bool.not_false, Option.bind_some, if_true, if_false, List.head?_cons, Option.map_some, Bool.false_eq_true] at ha
        cases ha
        refine ⟨rfl, fun ls hl => lv_if_gt hx hb hd ht2 (fun q => absurd q hc) (fun _ => kk ls hl)⟩
    | _ => cases ha
theorem ps_icmp_gt {off : Int} (hx : p.tables.exec = Jvm.exec) (hb : c.code = cc) (hd : decode cc F.1 = .ok (.if_icmp .gt off, len)) (hok : pm_okB nL F.1 (.if_icmp .gt off) len vs ns = true) (ha : pm_act P (.if_icmp .gt off) len vs ns F h = some (F', h')) (kk : pm_W p l e R s m args below meth c nL mu H locs cells slots Q F') : h' = h ∧ pm_W p l e R s m args below meth c nL mu H locs cells slots Q F := by
  obtain ⟨pc, lv, st⟩ := F
  obtain ⟨rfl, rfl, ht⟩ := of_decide_eq_true hok
  have ht2 := (Int.toNat_of_nonneg ht).symm
  cases st with
  | nil => cases ha
  | cons v st =>
    cases st with
    | nil => cases v <;> cases ha
    | cons u st =>
      cases v with
      | int y =>
        cases u with
        | int x =>
          by_cases hc : y < x
          · simp only [pm_act, pm_br, pm_cmp, hc, decide_true, decide_false, Bool.not_true, Bool.not_false, Option.bind_some, if_true, if_false, List.head?_cons, Option.map_some, Bool.false_eq_true] at ha
            cases ha
            refine ⟨rfl, fun ls hl => lv_icmp_gt hx hb hd ht2 (fun _ => kk ls hl) (fun q => absurd hc q)⟩
          · simp only [pm_act, pm_br, pm_cmp, hc, decide_true, decide_false, Bool.not_true, Bool.not_false, Option.bind_some, if_true, if_false, List.head?_cons, Option.map_some, Bool.false_eq_true] at ha
            cases ha
            refine ⟨rfl, fun ls hl => lv_icmp_gt hx hb hd ht2 (fun q => absurd q hc) (fun _ => kk ls hl)⟩
        | _ => cases ha
      | _ => cases u <;> cases ha
theorem ps_if_le {off : Int} (hx : p.tables.exec = Jvm.exec) (hb : c.code = cc) (hd : decode cc F.1 = .ok (.ifCond .le off, len)) (hok : pm_okB nL F.1 (.ifCond .le off) len vs ns = true) (ha : pm_act P (.ifCond .le off) len vs ns F h = some (F', h')) (kk : pm_W p l e R s m args below meth c nL mu H locs cells slots Q F') : h' = h ∧ pm_W p l e R s m args below meth c nL mu H locs cells slots Q F := by
  obtain ⟨pc, lv, st⟩ := F
  obtain ⟨rfl, rfl, ht⟩ := of_decide_eq_true hok
  have ht2 := (Int.toNat_of_nonneg ht).symm
  cases st with
  | nil => cases ha
  | cons v st =>
    cases v with
    | int x =>
      by_cases hc : x ≤ 0
      · simp only [pm_act, pm_br, pm_cmp, hc, decide_true, decide_false, Bool.not_true, Bool.not_false, Option.bind_some, if_true, if_false, List.head?_cons, Option.map_some, Bool.false_eq_true] at ha
        cases ha
        refine ⟨rfl, fun ls hl => lv_if_le hx hb hd ht2 (fun _ => kk ls hl) (fun q => absurd hc q)⟩
      · simp only [pm_act, pm_br, pm_cmp, hc, decide_true, decide_false, Bool.not_true, Bool.not_false, Option.bind_some, if_true, if_false, List.head?_cons, Option.map_some, Bool.false_eq_true] at ha
        cases ha
        refine ⟨rfl, fun ls hl => lv_if_le hx hb hd ht2 (fun q => absurd q hc) (fun _ => kk ls hl)⟩
    | _ => cases ha
theorem ps_icmp_le {off : Int} (hx : p.tables.exec = Jvm.exec) (hb : c.code = cc) (hd : decode cc F.1 = .ok (.if_icmp .le off, len)) (hok : pm_okB nL F.1 (.if_icmp .le off) len vs ns = true) (ha : pm_act P (.if_icmp .le off) len vs ns F h = some (F', h')) (kk : pm_W p l e R s m args below meth c nL mu H locs cells slots Q F') : h' = h ∧ pm_W p l e R s m args below meth c nL mu H locs cells slots Q F := by
  obtain ⟨pc, lv, st⟩ := F
  obtain ⟨rfl, rfl, ht⟩ := of_decide_eq_true hok
  have ht2 := (Int.toNat_of_nonneg ht).symm
  cases st with
  | nil => cases ha
  | cons v st =>
    cases st with
    | nil => cases v <;> cases ha
    | cons u st =>
      cases v with
      | int y =>
        cases u with
        | int x =>
          by_cases hc : x ≤ y
          · simp only [pm_act, pm_br, pm_cmp, hc, decide_true, decide_false, Bool.not_true, Bool.not_false, Option.bind_some, if_true, if_false, List.head?_cons, Option.map_some, Bool.false_eq_true] at ha
            cases ha
            refine ⟨rfl, fun ls hl => lv_icmp_le hx hb hd ht2 (fun _ => kk ls hl) (fun q => absurd hc q)⟩
          · simp only [pm_act, pm_br, pm_cmp, hc, decide_true, decide_false, Bool.not_true, Bool.not_false, Option.bind_some, if_true, if_false, List.head?_cons, Option.map_some, Bool.false_eq_true] at ha
            cases ha
            refine ⟨rfl, fun ls hl => lv_icmp_le hx hb hd ht2 (fun q => absurd q hc) (fun _ => kk ls hl)⟩
        | _ => cases ha
      | _ => cases u <;> cases ha
theorem ps_goto {off : Int} (hx : p.tables.exec = Jvm.exec) (hb : c.code = cc) (hd : decode cc F.1 = .ok (.goto off, len)) (hok : pm_okB nL F.1 (.goto off) len vs ns = true) (ha : pm_act P (.goto off) len vs ns F h = some (F', h')) (kk : pm_W p l e R s m args below meth c nL mu H locs cells slots Q F') : h' = h ∧ pm_W p l e R s m args below meth c nL mu H locs cells slots Q F := by
  obtain ⟨pc, lv, st⟩ := F
  obtain ⟨rfl, rfl, ht⟩ := of_decide_eq_true hok
  have ht2 := (Int.toNat_of_nonneg ht).symm
  cases ha
  exact ⟨rfl, fun ls hl => lv_goto hx hb hd ht2 (kk ls hl)⟩
theorem ps_ifnull {off : Int} (hx : p.tables.exec = Jvm.exec) (hb : c.code = cc) (hd : decode cc F.1 = .ok (.ifnull off, len)) (hok : pm_okB nL F.1 (.ifnull off) len vs ns = true) (ha : pm_act P (.ifnull off) len vs ns F h = some (F', h')) (kk : pm_W p l e R s m args below meth c nL mu H locs cells slots Q F') : h' = h ∧ pm_W p l e R s m args below meth c nL mu H locs cells slots Q F := by
  obtain ⟨pc, lv, st⟩ := F
  obtain ⟨rfl, rfl, ht⟩ := of_decide_eq_true hok
  have ht2 := (Int.toNat_of_nonneg ht).symm
  cases st with
  | nil => cases ha
  | cons v st =>
    cases v with
    | ref x => cases ha; exact ⟨rfl, fun ls hl => lv_ifnull hx hb hd (kk ls hl)⟩
    | null => cases ha; exact ⟨rfl, fun ls hl => lv_ifnullN hx hb hd ht2 (kk ls hl)⟩
    | _ => cases ha
theorem ps_ifnonnull {off : Int} (hx : p.tables.exec = Jvm.exec) (hb : c.code = cc) (hd : decode cc F.1 = .ok (.ifnonnull off, len)) (hok : pm_okB nL F.1 (.ifnonnull off) len vs ns = true) (ha : pm_act P (.ifnonnull off) len vs ns F h = some (F', h')) (kk : pm_W p l e R s m args below meth c nL mu H locs cells slots Q F') : h' = h ∧ pm_W p l e R s m args below meth c nL mu H locs cells slots Q F := by
  obtain ⟨pc, lv, st⟩ := F
  obtain ⟨rfl, rfl, ht⟩ := of_decide_eq_true hok
  have ht2 := (Int.toNat_of_nonneg ht).symm
  cases st with
  | nil => cases ha
  | cons v st =>
    cases v with
    | ref x => cases ha; exact ⟨rfl, fun ls hl => lv_ifnonnull hx hb hd ht2 (kk ls hl)⟩
    | null => cases ha; exact ⟨rfl, fun ls hl => lv_ifnonnullN hx hb hd (kk ls hl)⟩
    | _ => cases ha
end SIM
