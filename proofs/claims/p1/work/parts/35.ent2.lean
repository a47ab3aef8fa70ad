/-! entering a method, by the words of the tables -/
/-- what the word of a method's code says -/
def pm_Cd (s : State) (y : MethodName) (bytes : ByteArray) (maxL : Nat) (ret : Option FieldType) (hw : List (Nat × Nat × Nat × Nat)) : Prop :=
  ∃ (mk : MethodId) (meth : Method) (c : Code), s.methodNamed? y = some mk ∧ s.vm.method? mk = some meth ∧ meth.code = some c ∧ c.code = bytes ∧ c.maxLocals = maxL ∧ c.exceptionTable.toList.map (fun h => (h.startPc, h.endPc, h.handlerPc, h.catchType)) = hw ∧ meth.sig.returnType = ret ∧ meth.locks = false ∧ parseMethodDescriptor y.desc = some meth.sig
def pm_cw (y : MethodName) (bytes : ByteArray) (maxL : Nat) (ret : Option FieldType) (hw : List (Nat × Nat × Nat × Nat)) : Cond := match hw with
  | [] => .code y bytes maxL ret
  | x :: r => .codeWith y bytes maxL ret (x :: r)
theorem pm_cd_of {args : Array Value} {s : State} {y : MethodName} {bytes : ByteArray} {maxL : Nat} {ret : Option FieldType} {hw : List (Nat × Nat × Nat × Nat)} (h : (pm_cw y bytes maxL ret hw).before args s = true) : pm_Cd s y bytes maxL ret hw := by
  cases hw with
  | nil =>
    have h' : (Cond.codeWith y bytes maxL ret []).before args s = true := by
      have e := Cond.code_iff_codeWith_nil (args := args) (first := s) (o := none) (s := s) (idx := []) (x := y) (bytes := bytes) (maxLocals := maxL) (ret := ret)
      simp only [pm_cw, Cond.before, Cond.holds] at h ⊢
      rw [← e]; exact h
    exact Cond.codeWith_spec h'
  | cons x r => exact Cond.codeWith_spec h
/-- how many parameters a name says -/
def pm_np (y : MethodName) : Option Nat := (parseMethodDescriptor y.desc).map fun d => d.parameters.length
theorem pm_np_len {y : MethodName} {sig : MethodDescriptor} {n : Nat} (h : pm_np y = some n) (hs : parseMethodDescriptor y.desc = some sig) : n = sig.parameters.length := by
  unfold pm_np at h
  rw [hs] at h
  exact (Option.some.inj h).symm
def pm_noMH (y : MethodName) : Bool := decide (y.cls ≠ "java/lang/invoke/MethodHandle" ∧ y.cls ≠ "java/lang/invoke/VarHandle")
/-- a class that is no interface -/
def pm_NF (s : State) (C : String) : Prop := ∀ c, s.vm.findClass C = some c → ∃ k, s.vm.classes[c]? = some k ∧ k.isInterface = false
theorem pm_NF1 {args : Array Value} {s : State} {C sup : String} (h : (Cond.superclass C sup).before args s = true) : pm_NF s C := by
  intro c hc
  obtain ⟨_, k, _, -, hk, -, -, -, -, hn⟩ := Cond.superclass_spec hc h
  exact ⟨k, hk, hn⟩
theorem pm_NF2 {args : Array Value} {s : State} {C o n d : String} (h : (Cond.sameMethod C o n d).before args s = true) : pm_NF s C := by
  intro c hc
  obtain ⟨c', ck, _, h1, h2, h3, -⟩ := Cond.sameMethod_found h
  cases hc.symm.trans h1
  exact ⟨ck, h2, h3⟩
section ENT2
variable {p : Program} {l : Launch} {e : Env} {R : Room} {s : State} {m : MethodId} {args : Array Value} {below : List Frame} {meth : Method} {c : Code} {H : Heap} {locs : List Loc} {cells slots : Nat} {y : MethodName} {idx : Nat} {own : String} {g : JFrame} {As rest : List Value}
variable {bytes : ByteArray} {maxL : Nat} {ret : Option FieldType} {hw : List (Nat × Nat × Nat × Nat)}
theorem en2_static (hx : p.tables.exec = Jvm.exec) (hown : s.vm.findClass own = some m.cls) (hlink : (Cond.methodLink own idx y).before args s = true ∨ ∃ host, (Cond.methodLinkNest own idx y host).before args s = true) (hstat : (Cond.static y).before args s = true) (hini : (Cond.initialized y.cls).before args s = true)
    (hcd : pm_Cd s y bytes maxL ret hw) (hnp : pm_np y = some As.length) (hy : pm_noMH y = true) (hg : g.method = m) (hst : g.stack = As.reverse ++ rest) (hd : decode c.code g.pc = .ok (.invokestatic idx, 3)) :
    pm_Enter p l e R s m args below meth c H locs cells slots y g As rest := by
  obtain ⟨mk, methM, cM, hn, hm, -, -, -, -, -, -, hsig⟩ := hcd
  exact en_static hx hown hlink hstat hini hn hm (pm_np_len hnp hsig) (of_decide_eq_true hy) hg hst hd
theorem en2_init {a : Nat} (hx : p.tables.exec = Jvm.exec) (hown : s.vm.findClass own = some m.cls) (hlink : (Cond.methodLink own idx y).before args s = true ∨ ∃ host, (Cond.methodLinkNest own idx y host).before args s = true) (hy1 : y.name = "<init>") (hinst : (Cond.instanceMethod y).before args s = true) (hcode : (Cond.code y bytes maxL none).before args s = true)
    (hnp : pm_np y = some As.length) (hy : pm_noMH y = true) (hg : g.method = m) (hst : g.stack = As.reverse ++ .ref a :: rest) (hd : decode c.code g.pc = .ok (.invokespecial idx, 3)) :
    pm_Enter p l e R s m args below meth c H locs cells slots y g (.ref a :: As) rest :=
  en_init hx hown hlink hy1 hinst hcode (fun sig h => pm_np_len hnp h) (of_decide_eq_true hy) hg hst hd
theorem en2_super {a : Nat} {cell : Cell} {kB : Class} (hx : p.tables.exec = Jvm.exec) (hown : s.vm.findClass own = some m.cls) (hlink : (Cond.methodLink own idx y).before args s = true) (hsame : (Cond.sameMethod y.cls y.cls y.name y.desc).before args s = true) (hsup : (Cond.superclass own y.cls).before args s = true)
    (hinst : (Cond.instanceMethod y).before args s = true) (hcd : pm_Cd s y bytes maxL ret hw) (hno : y.name ≠ "<init>") (hcell : H[a]? = some cell) (hobj : cell.vm.isStatics = false) (hkB : s.vm.classes[cell.cls]? = some kB)
    (hnp : pm_np y = some As.length) (hg : g.method = m) (hst : g.stack = As.reverse ++ .ref a :: rest) (hd : decode c.code g.pc = .ok (.invokespecial idx, 3)) :
    pm_Enter p l e R s m args below meth c H locs cells slots y g (.ref a :: As) rest := by
  intro T hT X
  obtain ⟨mk, methM, hnamed, hmethM, hstM, habM⟩ := Cond.instanceMethod_spec hinst
  obtain ⟨mk', methM', cM, hn', hm', -, -, -, -, -, -, hsigM⟩ := hcd
  cases hnamed.symm.trans hn'
  cases hmethM.symm.trans hm'
  obtain ⟨ps, dk, kp, hps, hdk, hkp, hsuper, -, -, hnid⟩ := Cond.superclass_spec hown hsup
  have hn : s.methodNamed? ⟨y.cls, y.name, y.desc⟩ = some mk := hnamed
  have hpm : ps = mk.cls := Option.some.inj (hps.symm.trans (findClass_of_methodNamed hnamed))
  have hsub : s.vm.isSubclass ps mk.cls = true := by rw [hpm]; simp [Vm.isSubclass, Vm.isSubclassAux]
  obtain ⟨vm₁, X₁, hstep₁⟩ := X.invokespecialUp hx hown hlink hsame hn hmethM hstM habM hno hdk hnid hps hsuper hsub (a := a) (cell := cell) (by rw [hT]; exact hcell)
    (fun z h => by rw [h] at hobj; cases hobj) hkB (g := g) hg (argsL := As) (rest := rest) (pm_np_len hnp hsigM) hst hd
  exact ⟨mk, vm₁, hnamed, X₁, fun target h => hstep₁ target (h [])⟩
/-- a method that the receiver's class selects as it is named -/
theorem en2_virtual {C : String} {a : Nat} {cell : Cell} (hx : p.tables.exec = Jvm.exec) (hown : s.vm.findClass own = some m.cls) (hlink : (Cond.methodLink own idx y).before args s = true ∨ ∃ host, (Cond.methodLinkNest own idx y host).before args s = true) (hinst : (Cond.instanceMethod y).before args s = true)
    (hsel : (Cond.selects C y y).before args s = true) (hC : s.vm.findClass C = some cell.cls) (hcd : pm_Cd s y bytes maxL ret hw) (hcell : H[a]? = some cell) (hobj : cell.vm.isStatics = false)
    (hnp : pm_np y = some As.length) (hy : pm_noMH y = true) (hg : g.method = m) (hst : g.stack = As.reverse ++ .ref a :: rest) (hd : decode c.code g.pc = .ok (.invokevirtual idx, 3)) :
    pm_Enter p l e R s m args below meth c H locs cells slots y g (.ref a :: As) rest := by
  obtain ⟨mk, methM, hnamed, hmethM, hstM, habM⟩ := Cond.instanceMethod_spec hinst
  obtain ⟨mk', methM', cM, hn', hm', -, -, -, -, -, -, hsigM⟩ := hcd
  cases hnamed.symm.trans hn'
  cases hmethM.symm.trans hm'
  obtain ⟨c2, r2, m2, q1, q2, q3, q4, kP, hkP, hkPi⟩ := Cond.selects_spec hsel
  cases hC.symm.trans q1
  cases (State.methodFound?_of_named hnamed (of_decide_eq_true hy)).symm.trans q2
  cases hnamed.symm.trans q3
  exact en_virtual hx hown hlink hnamed hmethM hstM habM hkP hkPi q4 hcell hobj (pm_np_len hnp hsigM) (of_decide_eq_true hy) hg hst hd
/-- a private method -/
theorem en2_private {a : Nat} {cell : Cell} (hx : p.tables.exec = Jvm.exec) (hown : s.vm.findClass own = some m.cls) (hlink : (Cond.methodLink own idx y).before args s = true ∨ ∃ host, (Cond.methodLinkNest own idx y host).before args s = true) (hinst : (Cond.instanceMethod y).before args s = true)
    (hpriv : (Cond.privateMethod y).before args s = true) (hNF : pm_NF s y.cls) (hcd : pm_Cd s y bytes maxL ret hw) (hcell : H[a]? = some cell) (hobj : cell.vm.isStatics = false)
    (hnp : pm_np y = some As.length) (hy : pm_noMH y = true) (hg : g.method = m) (hst : g.stack = As.reverse ++ .ref a :: rest) (hd : decode c.code g.pc = .ok (.invokevirtual idx, 3)) :
    pm_Enter p l e R s m args below meth c H locs cells slots y g (.ref a :: As) rest := by
  obtain ⟨mk, methM, hnamed, hmethM, hstM, habM⟩ := Cond.instanceMethod_spec hinst
  obtain ⟨mk', methM', cM, hn', hm', -, -, -, -, -, -, hsigM⟩ := hcd
  cases hnamed.symm.trans hn'
  cases hmethM.symm.trans hm'
  obtain ⟨kP, hkP, hkPi⟩ := hNF _ (findClass_of_methodNamed hnamed)
  exact en_virtual hx hown hlink hnamed hmethM hstM habM hkP hkPi (selectMethod_private hmethM (Cond.privateMethod_at hpriv _ _ hnamed hmethM)) hcell hobj (pm_np_len hnp hsigM) (of_decide_eq_true hy) hg hst hd
/-- a method that the class named finds above it, or that the receiver's class overrides -/
theorem en2_up {x : MethodName} {owner C : String} {a : Nat} {cell : Cell} {bytes' : ByteArray} {maxL' : Nat} {ret' : Option FieldType} {hw' : List (Nat × Nat × Nat × Nat)} (hx : p.tables.exec = Jvm.exec) (hown : s.vm.findClass own = some m.cls) (hlink : (Cond.methodLink own idx x).before args s = true) (hsame : (Cond.sameMethod x.cls owner x.name x.desc).before args s = true) (howner : pm_noMH ⟨owner, x.name, x.desc⟩ = true)
    (hinst0 : (Cond.instanceMethod ⟨owner, x.name, x.desc⟩).before args s = true) (hcd0 : pm_Cd s ⟨owner, x.name, x.desc⟩ bytes' maxL' ret' hw') (hinst : (Cond.instanceMethod y).before args s = true) (hsel : (Cond.selects C x y).before args s = true) (hC : s.vm.findClass C = some cell.cls) (hcell : H[a]? = some cell) (hobj : cell.vm.isStatics = false)
    (hnp : pm_np x = some As.length) (hg : g.method = m) (hst : g.stack = As.reverse ++ .ref a :: rest) (hd : decode c.code g.pc = .ok (.invokevirtual idx, 3)) :
    pm_Enter p l e R s m args below meth c H locs cells slots y g (.ref a :: As) rest := by
  obtain ⟨r0, r, hn0, hr, hstR, -⟩ := Cond.instanceMethod_spec hinst0
  obtain ⟨mk', methM', cM, hn', hm', -, -, -, -, -, -, hsigM⟩ := hcd0
  cases hn0.symm.trans hn'
  cases hr.symm.trans hm'
  obtain ⟨mk, methM, hnamed, hmethM, hstM, habM⟩ := Cond.instanceMethod_spec hinst
  obtain ⟨c2, r2, m2, q1, q2, q3, q4, kP, hkP, hkPi⟩ := Cond.selects_spec hsel
  obtain ⟨cn, ck, r1, hcn, hck, hni, hf, hn1⟩ := Cond.sameMethod_found hsame
  cases hn0.symm.trans hn1
  cases hf.symm.trans q2
  cases hC.symm.trans q1
  cases hnamed.symm.trans q3
  exact en_virtualUp hx hown hlink hsame (of_decide_eq_true howner) hn0 hr hstR hnamed hmethM habM hkP hkPi q4 hcell hobj (pm_np_len hnp hsigM) hg hst hd
end ENT2
