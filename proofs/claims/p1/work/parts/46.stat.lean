/-! what the state keeps: statics, strings, enums, class objects -/
/-- a field that no class of ours lays (an enum's): where it lies -/
def pm_En (C n d : String) (i : Nat) (s : State) : Prop := ∃ (cf : ClassId) (kf : Class) (fi : Nat) (f : Field), s.fieldFound? C n d = some (cf, kf, fi, f) ∧ f.isStatic = false ∧ f.slot = i
theorem pm_En.moved {C n d : String} {i : Nat} {u U : State} (hvm : u.vm.Alike U.vm) (h : pm_En C n d i u) : pm_En C n d i U := by
  obtain ⟨cf, kf, fi, f, h1, h2, h3⟩ := h
  obtain ⟨k', hi', -⟩ := State.fieldFound?_setVm hvm h1
  exact ⟨cf, k', fi, f, hi', h2, h3⟩
/-- a static field with a reference or null, seen in the heap H below base -/
def pm_LS (C n d : String) (base : Nat) (H : Heap) (U : State) : Prop := ∃ (c : ClassId) (k : Class) (i : Nat) (f : Field) (a : Nat) (cell : Cell) (v : Value), U.vm.findClass C = some c ∧ U.fieldFound? C n d = some (c, k, i, f) ∧ f.isStatic = true ∧ k.statics = some a ∧ a < base ∧ H[a]? = some cell ∧ cell.vm.isStatics = true ∧ cell.cls = c ∧ f.slot < cell.slots.size ∧ k.staticTypes[f.slot]? = some f.type ∧ cell.slots[f.slot]? = some v ∧ (v = .null ∨ ∃ t, v = .ref t)
theorem pm_LS.moved {C n d : String} {base : Nat} {H : Heap} {u U : State} (hvm : u.vm.Alike U.vm) (h : pm_LS C n d base H u) : pm_LS C n d base H U := by
  obtain ⟨c, k, i, f, a, cell, v, h1, h2, h3, h4, h5, h6, h7, h8, h9, h10, h11⟩ := h
  obtain ⟨k', hi', he⟩ := State.fieldFound?_setVm hvm h2
  exact ⟨c, k', i, f, a, cell, v, by rw [hvm.findClass]; exact h1, hi', h3, by rw [he]; exact h4, h5, h6, h7, h8, h9, by rw [he]; exact h10, h11⟩
theorem pm_LS.use {C n d : String} {base : Nat} {H : Heap} {U : State} (args : Array Value) (h : pm_LS C n d base H U) (hH : ∀ z : Nat, z < base → U.heap[z]? = H[z]?) : (Cond.laysStatic C n d).before args U = true ∧ (Cond.isRef (.static C n d)).before args U = true := by
  obtain ⟨c, k, i, f, a, cell, v, h1, h2, h3, h4, h5, h6, h7, h8, h9, h10, h11, h12⟩ := h
  have hcell : U.heap[a]? = some cell := by rw [hH a h5]; exact h6
  constructor
  · simp [Cond.before, Cond.holds, Cond.value, h1, h2, h3, h4, hcell, h7, h8, h9, h10]
  · have he : (Term.static C n d).eval args U none [] U = some v := by
      simp [Term.eval, State.fieldNamed?, h2, h3, h4, hcell, h7, h11]
    rcases h12 with rfl | ⟨t, rfl⟩ <;> simp [Cond.before, Cond.holds, Cond.value, he]
theorem pm_LS.of {C n d : String} {args : Array Value} {s : State} (hl : (Cond.laysStatic C n d).before args s = true) (h : (Cond.isRef (.static C n d)).before args s = true) : pm_LS C n d s.heap.size s.heap s := by
  obtain ⟨c, k, i, f, a, cell, hc, hi, hst, ha, hcell, hs, hcls, hlt, hty⟩ := Cond.laysStatic_spec hl
  obtain ⟨v, hv, hr⟩ := Cond.isRef_spec h
  obtain ⟨hst', a', cell', ha', hcell', -, hslot⟩ := Term.static_spec hi hv
  cases ha.symm.trans ha'
  cases hcell.symm.trans hcell'
  refine ⟨c, k, i, f, a, cell, v, hc, hi, hst, ha, (Array.getElem?_eq_some_iff.mp hcell).1, hcell, hs, hcls, hlt, hty, hslot, ?_⟩
  cases v with
  | null => exact Or.inl rfl
  | ref t => exact Or.inr ⟨t, rfl⟩
  | _ => cases hr
section EN
variable {p : Program} {l : Launch} {e : Env} {R : Room} {s : State} {m : MethodId} {args : Array Value} {below : List Frame} {meth : Method} {c : Code} {Q : State → Prop} {cc : ByteArray} {nL : Nat}
variable {D : pm_D} {cl : List vw_C} {tys : Nat → Option (ClassId × FieldType)} {mu : Nat → Nat} {K base : Nat} {H00 : Heap} {asg : List (Nat × Nat)} {n0 s0 : Nat}
variable {F F' : pm_F} {h h' : pm_H} {len : Nat} {vs : List Value} {ns : List Nat} {own : String} {Ts Ns : List Cond}
/-- a field of an enum's constant -/
theorem ps_getfieldE {idx : Nat} {C n d : String} (hx : p.tables.exec = Jvm.exec) (hb : c.code = cc) (hd : decode cc F.1 = .ok (.getfield idx, len)) (hlen : len = 3) (hown : s.vm.findClass own = some m.cls)
    (hlink : (Cond.fieldLink own idx C n d).before args s = true ∨ ∃ host, (Cond.fieldLinkNest own idx C n d host).before args s = true) (hEn : ∀ ci k, pm_slot ns ci = some k → pm_En C n d (D.1.2 ci k) s)
    (ha : pm_act (K, asg) (.getfield idx) len vs ns F h = some (F', h')) (kk : pm_X p l e R s m args below meth c nL D cl tys mu K base H00 n0 s0 Q F' h') : pm_X p l e R s m args below meth c nL D cl tys mu K base H00 n0 s0 Q F h := by
  subst hlen
  obtain ⟨pc, lv, st⟩ := F
  cases st with
  | nil => cases ha
  | cons o st =>
    simp only [pm_act, Option.bind_eq_some_iff, Option.map_eq_some_iff] at ha
    obtain ⟨⟨a, ci, fs⟩, ho, k, hk, v, hv, ha⟩ := ha
    cases ha
    obtain ⟨rfl, hcell⟩ := pm_obj_eq ho
    intro hn hs H locs hR hL ls hl
    obtain ⟨r, cell, q1, q2, q3, q4, q5, q6, q7, q8⟩ := hR.1 a _ hcell
    obtain ⟨cf, kf, fi, f, hi, hst, hsl⟩ := hEn ci k hk
    have hval : cell.slots[f.slot]? = some (pm_v mu v) := by rw [hsl]; exact q8 k v hv
    rcases hlink with g4 | ⟨host, g4⟩
    · exact W.getf hx hb hown g4 hi hst q3 q5 hval rfl rfl hd (kk hn hs H locs hR hL ls hl)
    · exact va_Wgetf hx hb hown g4 hi hst q3 q5 hval rfl rfl hd (kk hn hs H locs hR hL ls hl)
/-- the class object of Object[] -/
theorem ps_ldcM {idx k : Nat} {C : String} (hx : p.tables.exec = Jvm.exec) (hb : c.code = cc) (hd : decode cc F.1 = .ok (.ldc idx, len)) (hlen : len = 2) (hown : s.vm.findClass own = some m.cls) (hvs : vs = [.ref k]) (hw : (Cond.classLink own idx C).before args s = true) (hM : va_Mi C (mu k) s)
    (ha : pm_act (K, asg) (.ldc idx) len vs ns F h = some (F', h')) (kk : pm_X p l e R s m args below meth c nL D cl tys mu K base H00 n0 s0 Q F' h') : pm_X p l e R s m args below meth c nL D cl tys mu K base H00 n0 s0 Q F h := by
  subst hlen
  subst hvs
  obtain ⟨pc, lv, st⟩ := F
  cases ha
  exact fun hn hs H locs hR hL ls hl => va_ldcM hx hb hown hw hM hd (kk hn hs H locs hR hL ls hl)
theorem ps_getC {idx k : Nat} (hx : p.tables.exec = Jvm.exec) (hb : c.code = cc) (hd : decode cc F.1 = .ok (.invokevirtual idx, len)) (hlen : len = 3) (hown : s.vm.findClass own = some m.cls) (hml : c.maxLocals = nL) (hns : ns = [4]) (hvs : vs = [.ref k]) (hKn : pm_Kn D cl tys s) {q : ClassId × FieldType} (h13 : tys 13 = some q) (hq : q.2 = .object "java/lang/Object")
    (hlink : (Cond.methodLink own idx ⟨"java/lang/Object", "getClass", "()Ljava/lang/Class;"⟩).before args s = true) (hdecl : (Cond.declares ⟨"java/lang/Object", "getClass", "()Ljava/lang/Class;"⟩).before args s = true)
    (hsel : (Cond.selects "[Ljava/lang/Object;" ⟨"java/lang/Object", "getClass", "()Ljava/lang/Class;"⟩ ⟨"java/lang/Object", "getClass", "()Ljava/lang/Class;"⟩).before args s = true) (hinst : (Cond.instanceMethod ⟨"java/lang/Object", "getClass", "()Ljava/lang/Class;"⟩).before args s = true) (hnat : (Cond.native ⟨"java/lang/Object", "getClass", "()Ljava/lang/Class;"⟩).before args s = true) (hM : va_Mi "[Ljava/lang/Object;" (mu k) s)
    (hfr : 8 ≤ R.frames) (hlo : 512 ≤ R.locals)
    (ha : pm_act (K, asg) (.invokevirtual idx) len vs ns F h = some (F', h')) (kk : pm_X p l e R s m args below meth c nL D cl tys mu K base H00 n0 s0 Q F' h') : pm_X p l e R s m args below meth c nL D cl tys mu K base H00 n0 s0 Q F h := by
  subst hlen
  subst hvs
  subst hns
  obtain ⟨pc, lv, st⟩ := F
  cases st with
  | nil => cases ha
  | cons o st =>
    simp only [pm_act, Option.bind_eq_some_iff] at ha
    obtain ⟨⟨a, t, xs⟩, ho, ha⟩ := ha
    split at ha
    · next hh =>
      cases ha
      obtain ⟨-, ht, hwt⟩ := hh
      simp only at ht
      subst ht
      obtain ⟨rfl, hcell⟩ := pm_arr_eq ho
      intro hn hs H locs hR hL ls hl
      obtain ⟨q', cell, g1, g2, g3, g4, g5, g6⟩ := (hR.1 a _ hcell).resolve_left (fun z => absurd (show (13 : Nat) = 9 from z.1) (by decide))
      simp only at g1
      cases h13.symm.trans g1
      have hra := (hKn.2.1 13 q h13).2
      rw [hq] at hra
      have hnm : s.vm.findClass "[Ljava/lang/Object;" = some q.1 := va_nmO hra rfl
      replace g3 : cell.cls = q.1 := by
        rcases g3 with g3 | ⟨-, g3⟩
        · exact g3
        · have hz := (hKn.2.2 _ _ g3).1
          rw [hq] at hz
          exact hz.elim
      refine va_getC hx hb (by rw [hml]; exact hl.1.symm) hown hlink hdecl hsel hinst hnat hM ⟨cell, g2, g5, by rw [g3]; exact hnm⟩ (by omega) ?_ hd (kk hn hs H locs hR hL ls hl)
      rw [pm_cat_map]
      simp only [List.map_cons, List.sum_cons] at hwt
      omega
    · cases ha
end EN
