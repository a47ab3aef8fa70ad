/-! handlers: the search through a method's table, linking the classes that it names -/
section HND
variable {e : Env} {f : JFrame} {a : Addr} {cell : Cell}
theorem hd_go {Q : Handler → Pre} {E : CtlPost} {d : Bool} {acts : List Action} {S : State} {x : ExceptionTableEntry} {t : List ExceptionTableEntry} {k : ClassId} (hx : covers x f.pc = true) (h0 : x.catchType ≠ 0) (hl : S.vm.ClassLinks e.platform f.method.cls x.catchType k) (hcell : S.heap[a]? = some cell) (hobj : ∀ z, cell.vm ≠ .statics z)
    (h1 : ∃ z, S.vm.classes[cell.cls]? = some z) (h2 : ∃ z, S.vm.classes[k]? = some z) :
    wp (findHandler.go f a (x :: t)) Q E e d acts S ↔ (if S.vm.assignable cell.cls k = true then Q (.found x.handlerPc) d acts (S.setVm (S.vm.noted f.method.cls x.catchType (.cls k))) else wp (findHandler.go f a t) Q E e d acts (S.setVm (S.vm.noted f.method.cls x.catchType (.cls k)))) := by
  have hal : S.vm.Alike (S.vm.noted f.method.cls x.catchType (.cls k)) := (Vm.Alike.refl S.vm).noted _ _ _
  obtain ⟨z1, g1⟩ := h1
  obtain ⟨z2, g2⟩ := h2
  obtain ⟨y1, e1, -⟩ := hal.2.2 _ _ g1
  obtain ⟨y2, e2, -⟩ := hal.2.2 _ _ g2
  have hr := (resolveClass_links e.toSetting hl).op (op := VmOp.resolveClass f.method.cls x.catchType) rfl
  have hasg := hal.assignable cell.cls k
  simp only [covers] at hx
  by_cases hf : S.vm.assignable cell.cls k = true
  · rw [if_pos hf]
    rw [hf] at hasg
    simp [findHandler.go, hx, h0, hr.1, hr.2, hcell, hobj, e1, e2, hasg, VmOp.dirties, VmOp.acts]
  · rw [if_neg hf]
    have hf2 : S.vm.assignable cell.cls k = false := by simpa using hf
    rw [hf2] at hasg
    simp [findHandler.go, hx, h0, hr.1, hr.2, hcell, hobj, e1, e2, hasg, VmOp.dirties, VmOp.acts]
/-- an entry of the table and its row (from, to, where, classes): the class that it names links; an object of the class number ci fits it if its row lists ci, and else not -/
def hd_ok (pl : Platform) (s₀ : State) (own ci : Nat) (cls : ClassId) (x : ExceptionTableEntry) (q : Nat × Nat × Nat × List Nat) : Prop :=
  x.startPc = q.1 ∧ x.endPc = q.2.1 ∧ x.handlerPc = q.2.2.1 ∧ x.catchType ≠ 0 ∧ ∃ k : ClassId, s₀.vm.ClassLinks pl own x.catchType k ∧ s₀.vm.assignable cls k = q.2.2.2.contains ci
def hd_all (P : ExceptionTableEntry → Nat × Nat × Nat × List Nat → Prop) : List ExceptionTableEntry → List (Nat × Nat × Nat × List Nat) → Prop
  | [], [] => True
  | x :: es, q :: hs => P x q ∧ hd_all P es hs
  | _, _ => False
theorem hd_search {s₀ : State} {ci : Nat} (hobj : ∀ z, cell.vm ≠ .statics z) (h1 : ∃ z, s₀.vm.classes[cell.cls]? = some z) : ∀ (hs : List (Nat × Nat × Nat × List Nat)) (es : List ExceptionTableEntry) (S : State) (pc : Nat), s₀.WarmedH S.vm → S.heap[a]? = some cell → hd_all (hd_ok e.platform s₀ f.method.cls ci cell.cls) es hs → pm_hnd hs f.pc ci = some pc →
    ∃ vm', s₀.WarmedH vm' ∧ ∀ (Q : Handler → Pre) (E : CtlPost) (d : Bool) (acts : List Action), wp (findHandler.go f a es) Q E e d acts S ↔ Q (.found pc) d acts (S.setVm vm') := by
  intro hs
  induction hs with
  | nil => intro es S pc _ _ _ h; cases h
  | cons q hs ih =>
    intro es S pc hW hcell hF hp
    obtain ⟨ff, tt, pp, cs⟩ := q
    cases es with
    | nil => exact hF.elim
    | cons x es =>
      obtain ⟨hx, hF⟩ := hF
      obtain ⟨g1, g2, g3, g4, k, g5, g6⟩ := hx
      simp only at g1 g2 g3 g6
      unfold pm_hnd at hp
      by_cases hcv : covers x f.pc = true
      · have hin : ff ≤ f.pc ∧ f.pc < tt := by
          simp only [covers, Bool.and_eq_true, decide_eq_true_eq] at hcv
          rw [g1, g2] at hcv
          exact hcv
        obtain ⟨dk, _, _, kt, hd, _, _, _, _, hkt, _, hopen⟩ := g5.here
        have hW2 : s₀.WarmedH (S.vm.noted f.method.cls x.catchType (.cls k)) := hW.noted hd hopen (State.rightAt_cls g5)
        obtain ⟨z1, e1⟩ := h1
        obtain ⟨z1', e1', -⟩ := hW.alike.2.2 _ _ e1
        obtain ⟨kt', e2', -⟩ := hW.alike.2.2 _ _ hkt
        have hasg : S.vm.assignable cell.cls k = cs.contains ci := by rw [hW.alike.assignable]; exact g6
        by_cases hci : cs.contains ci = true
        · rw [if_pos ⟨hin.1, hin.2, hci⟩] at hp
          cases hp
          refine ⟨_, hW2, fun Q E d acts => ?_⟩
          rw [hd_go hcv g4 (hW.classLinks g5) hcell hobj ⟨_, e1'⟩ ⟨_, e2'⟩, if_pos (by rw [hasg]; exact hci), g3]
        · rw [if_neg (fun z => hci z.2.2)] at hp
          obtain ⟨vm', hW3, hk⟩ := ih es (S.setVm (S.vm.noted f.method.cls x.catchType (.cls k))) pc hW2 hcell hF hp
          refine ⟨vm', hW3, fun Q E d acts => ?_⟩
          rw [hd_go hcv g4 (hW.classLinks g5) hcell hobj ⟨_, e1'⟩ ⟨_, e2'⟩, if_neg (by rw [hasg]; exact hci)]
          exact hk Q E d acts
      · have hcv' : covers x f.pc = false := by simpa using hcv
        have hni : ¬ (ff ≤ f.pc ∧ f.pc < tt ∧ cs.contains ci = true) := by
          intro z
          apply hcv
          simp only [covers, Bool.and_eq_true, decide_eq_true_eq]
          rw [g1, g2]
          exact ⟨z.1, z.2.1⟩
        rw [if_neg hni] at hp
        obtain ⟨vm', hW3, hk⟩ := ih es S pc hW hcell hF hp
        refine ⟨vm', hW3, fun Q E d acts => ?_⟩
        rw [W.findHandler_go_skip hcv']
        exact hk Q E d acts
end HND
section HND2
variable {p : Program} {l : Launch} {e : Env} {R : Room} {s T : State} {m : MethodId} {args : Array Value} {below : List Frame} {meth : Method} {c : Code} {locs : List Loc} {cells slots : Nat} {g : JFrame} {a : Addr} {cell : Cell} {ci pc : Nat} {hs : List (Nat × Nat × Nat × List Nat)}
/-- an exception that came out of a call is caught here -/
theorem hd_caught (X : Stand p l e R s m args below meth c T locs cells slots) (hg : g.method = m) (hcell : T.heap[a]? = some cell) (hobj : cell.vm.isStatics = false) (h1 : ∃ z, s.vm.classes[cell.cls]? = some z) (hF : hd_all (hd_ok e.platform s m.cls ci cell.cls) c.exceptionTable.toList hs) (hp : pm_hnd hs g.pc ci = some pc) :
    ∃ vm', Stand p l e R s m args below meth c (T.setVm vm') locs cells slots ∧ ∀ target, Steps p.tables e below ((T.setVm vm').setTop { g with pc := pc, stack := [.ref a] }) target → Steps p.tables e below ((T.setTop g).pushFrame (.throwing a)) target := by
  subst hg
  have hheap : ((T.setTop g).pushFrame (.throwing a)).heap = T.heap := Stand.throwing_heap T g a
  have hvm : ((T.setTop g).pushFrame (.throwing a)).vm = T.vm := Stand.throwing_vm T g a
  obtain ⟨vm', hW, hk⟩ := hd_search (e := e) (f := g) (a := a) (cell := cell) (s₀ := s) (ci := ci) (fun z hz => by rw [hz] at hobj; cases hobj) h1 hs c.exceptionTable.toList ((T.setTop g).pushFrame (.throwing a)) pc (by rw [hvm]; exact X.warmed) (by rw [hheap]; exact hcell) hF hp
  refine ⟨vm', X.noted hW, fun target hrest => ?_⟩
  obtain ⟨hgo, hw⟩ := X.here.throwing (g := g) a
  refine Steps.head hgo hw ?_
  have hst : (stepThrowing e ((T.setTop g).pushFrame (.throwing a)) a (.java g :: T.frames.tail)).1 = (((T.setTop g).pushFrame (.throwing a)).setVm vm').setFrames (.java { g with pc := pc, stack := [.ref a] } :: T.frames.tail) := by
    simp only [stepThrowing, searchFrame, vmDo]
    generalize hr : Sem.go _ e false [] ((T.setTop g).pushFrame (.throwing a)) = res
    have hm' : ((T.setTop g).pushFrame (.throwing a)).vm.method? g.method = some meth := by rw [hvm]; exact X.method'
    obtain ⟨as, rfl, ha⟩ := Sem.eq_ok_of hr (a := Handler.found pc) (s' := ((T.setTop g).pushFrame (.throwing a)).setVm vm') (acts' := []) (by
      have := hk
      simp [W.findHandler_eq hm' X.code, hk])
    rfl
  rw [stepThread_throwing (frames_entered X.here.top _), hst]
  obtain ⟨g₀, hg0⟩ := Option.isSome_iff_exists.mp X.here.top
  obtain ⟨r, hr⟩ := State.topJava?_eq_some.mp hg0
  have hr' : (T.setVm vm').frames = .java g₀ :: r := hr
  rw [State.setTop_of_frames _ hr'] at hrest
  have e9 : (((T.setTop g).pushFrame (.throwing a)).setVm vm').setFrames (.java { g with pc := pc, stack := [.ref a] } :: T.frames.tail) = (T.setVm vm').setFrames (.java { g with pc := pc, stack := [.ref a] } :: r) := by
    rw [hr, List.tail_cons, State.pushFrame, State.setTop_of_frames _ hr]
    show ((T.setFrames _).setFrames _ |>.setVm vm').setFrames _ = _
    rw [State.setFrames_setFrames]
    show ((T.setVm vm').setFrames _).setFrames _ = _
    rw [State.setFrames_setFrames]
  rw [e9]
  exact hrest
end HND2
