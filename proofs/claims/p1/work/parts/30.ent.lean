/-! entering a method: static, constructors, by the receiver's class -/
section ENT
variable {p : Program} {l : Launch} {e : Env} {R : Room} {s : State} {m : MethodId} {args : Array Value} {below : List Frame} {meth : Method} {c : Code} {H : Heap} {locs : List Loc} {cells slots : Nat} {y : MethodName} {idx : Nat} {own : String} {g : JFrame} {As rest : List Value}
theorem en_static {mk : MethodId} {methM : Method} (hx : p.tables.exec = Jvm.exec) (hown : s.vm.findClass own = some m.cls) (hlink : (Cond.methodLink own idx y).before args s = true ∨ ∃ host, (Cond.methodLinkNest own idx y host).before args s = true) (hstat : (Cond.static y).before args s = true) (hini : (Cond.initialized y.cls).before args s = true)
    (hn : s.methodNamed? y = some mk) (hmM : s.vm.method? mk = some methM) (hlen : As.length = methM.sig.parameters.length) (hy : y.cls ≠ "java/lang/invoke/MethodHandle" ∧ y.cls ≠ "java/lang/invoke/VarHandle") (hg : g.method = m) (hst : g.stack = As.reverse ++ rest) (hd : decode c.code g.pc = .ok (.invokestatic idx, 3)) :
    pm_Enter p l e R s m args below meth c H locs cells slots y g As rest := by
  intro T hT X
  have hstatic : methM.isStatic = true := Cond.static_spec hn hmM hstat
  obtain ⟨kP, hkP, -⟩ := className_of_methodNamed hn
  have hinitP : kP.init = .initialized := Cond.initialized_spec (findClass_of_methodNamed hn) hkP hini
  rcases hlink with hl | ⟨host, hl⟩
  · obtain ⟨vm₁, X₁, hstep⟩ := X.invokestatic hx hown hl hn hmM hstatic hkP hinitP hy (g := g) hg (argsL := As) (rest := rest) hlen hst hd
    exact ⟨mk, vm₁, hn, X₁, hstep⟩
  · obtain ⟨vm₁, X₁, hstep⟩ := X.invokestaticNest hx hown hl hn hmM hstatic hkP hinitP hy (g := g) hg (argsL := As) (rest := rest) hlen hst hd
    exact ⟨mk, vm₁, hn, X₁, hstep⟩
theorem en_init {bytes : ByteArray} {maxL a : Nat} (hx : p.tables.exec = Jvm.exec) (hown : s.vm.findClass own = some m.cls) (hlink : (Cond.methodLink own idx y).before args s = true ∨ ∃ host, (Cond.methodLinkNest own idx y host).before args s = true) (hy1 : y.name = "<init>") (hinst : (Cond.instanceMethod y).before args s = true) (hcode : (Cond.code y bytes maxL none).before args s = true)
    (hlen : ∀ sig, parseMethodDescriptor y.desc = some sig → As.length = sig.parameters.length) (hy : y.cls ≠ "java/lang/invoke/MethodHandle" ∧ y.cls ≠ "java/lang/invoke/VarHandle") (hg : g.method = m) (hst : g.stack = As.reverse ++ .ref a :: rest) (hd : decode c.code g.pc = .ok (.invokespecial idx, 3)) :
    pm_Enter p l e R s m args below meth c H locs cells slots y g (.ref a :: As) rest := by
  intro T hT X
  subst hg
  have hpl : e.platform.magicAccessors = ({} : Platform).magicAccessors := by rw [X.admits.platform]
  rcases hlink with hl | ⟨host, hl⟩
  · obtain ⟨mk, methM, cM, kP, vm₁, hnamed, hmethM, hcodeM, -, hlocalsM, -, hkP, -, hW₁, hstep₁⟩ := Steps.initColdArgs (e := e) X.here hx X.warmed hpl hown hy1 hy hl hinst hcode (f := g) rfl hlen hst hd
    exact ⟨mk, vm₁, hnamed, X.noted hW₁, hstep₁⟩
  · obtain ⟨mk, methM, cM, kP, vm₁, hnamed, hmethM, hcodeM, -, hlocalsM, -, hkP, -, hW₁, hstep₁⟩ := Steps.initColdArgsNest (e := e) X.here hx X.warmed hpl hown hy1 hy hl hinst hcode (f := g) rfl hlen hst hd
    exact ⟨mk, vm₁, hnamed, X.noted hW₁, hstep₁⟩
/-- invokevirtual of a method that the receiver's class selects as it is named -/
theorem en_virtual {mk : MethodId} {methM : Method} {kP : Class} {a : Nat} {cell : Cell} (hx : p.tables.exec = Jvm.exec) (hown : s.vm.findClass own = some m.cls) (hlink : (Cond.methodLink own idx y).before args s = true ∨ ∃ host, (Cond.methodLinkNest own idx y host).before args s = true)
    (hn : s.methodNamed? y = some mk) (hmM : s.vm.method? mk = some methM) (hstM : methM.isStatic = false) (habM : methM.isAbstract = false) (hkP : s.vm.classes[mk.cls]? = some kP) (hkPi : kP.isInterface = false) (hsel : selectMethod {} s.vm cell.cls mk = .method mk)
    (hcell : H[a]? = some cell) (hobj : cell.vm.isStatics = false) (hlen : As.length = methM.sig.parameters.length) (hy : y.cls ≠ "java/lang/invoke/MethodHandle" ∧ y.cls ≠ "java/lang/invoke/VarHandle") (hg : g.method = m) (hst : g.stack = As.reverse ++ .ref a :: rest) (hd : decode c.code g.pc = .ok (.invokevirtual idx, 3)) :
    pm_Enter p l e R s m args below meth c H locs cells slots y g (.ref a :: As) rest := by
  intro T hT X
  have hselP : selectMethod e.platform s.vm cell.cls mk = .method mk := by rw [Launch.admits_selectMethod X.admits]; exact hsel
  rcases hlink with hl | ⟨host, hl⟩
  · obtain ⟨vm₁, X₁, hstep⟩ := X.invokevirtual hx hown hl hn hmM hstM hkP hkPi hy (a := a) (cell := cell) (by rw [hT]; exact hcell) (fun z h => by rw [h] at hobj; cases hobj) hselP hmM habM hkP hkPi (g := g) hg (argsL := As) (rest := rest) hlen hst hd
    exact ⟨mk, vm₁, hn, X₁, hstep⟩
  · obtain ⟨vm₁, X₁, hstep⟩ := X.invokevirtualNest hx hown hl hn hmM hstM hkP hkPi hy (a := a) (cell := cell) (by rw [hT]; exact hcell) (fun z h => by rw [h] at hobj; cases hobj) hselP hmM habM hkP hkPi (g := g) hg (argsL := As) (rest := rest) hlen hst hd
    exact ⟨mk, vm₁, hn, X₁, hstep⟩
/-- invokevirtual of an inherited method (Enum.ordinal) -/
theorem en_virtualUp {x : MethodName} {owner : String} {r0 mk : MethodId} {r methM : Method} {kP : Class} {a : Nat} {cell : Cell} (hx : p.tables.exec = Jvm.exec) (hown : s.vm.findClass own = some m.cls) (hlink : (Cond.methodLink own idx x).before args s = true) (hsame : (Cond.sameMethod x.cls owner x.name x.desc).before args s = true) (howner : owner ≠ "java/lang/invoke/MethodHandle" ∧ owner ≠ "java/lang/invoke/VarHandle")
    (hn0 : s.methodNamed? ⟨owner, x.name, x.desc⟩ = some r0) (hrm : s.vm.method? r0 = some r) (hstR : r.isStatic = false) (hn : s.methodNamed? y = some mk) (hmM : s.vm.method? mk = some methM) (habM : methM.isAbstract = false) (hkP : s.vm.classes[mk.cls]? = some kP) (hkPi : kP.isInterface = false) (hsel : selectMethod {} s.vm cell.cls r0 = .method mk)
    (hcell : H[a]? = some cell) (hobj : cell.vm.isStatics = false) (hlen : As.length = r.sig.parameters.length) (hg : g.method = m) (hst : g.stack = As.reverse ++ .ref a :: rest) (hd : decode c.code g.pc = .ok (.invokevirtual idx, 3)) :
    pm_Enter p l e R s m args below meth c H locs cells slots y g (.ref a :: As) rest := by
  intro T hT X
  have hselP : selectMethod e.platform s.vm cell.cls r0 = .method mk := by rw [Launch.admits_selectMethod X.admits]; exact hsel
  obtain ⟨vm₁, X₁, hstep⟩ := X.invokevirtualUp hx hown hlink hsame howner hn0 hrm hstR (a := a) (cell := cell) (by rw [hT]; exact hcell) (fun z h => by rw [h] at hobj; cases hobj) hselP hmM habM hkP hkPi (g := g) hg (argsL := As) (rest := rest) hlen hst hd
  exact ⟨mk, vm₁, hn, X₁, hstep⟩
end ENT
