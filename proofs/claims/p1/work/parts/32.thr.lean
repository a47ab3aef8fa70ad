/-! a method makes an exception and throws it -/
theorem sb_same {s t : State} {k n : Nat} (h : s.sameButNew t [] k n) : ∀ q : Nat, q < s.heap.size → t.heap[q]? = s.heap[q]? := by
  intro q hq
  obtain ⟨-, -, -, -, -, h6⟩ := h
  have hc := Array.getElem?_eq_getElem hq
  obtain ⟨c', g1, g2, g3, g4⟩ := h6 q _ hc
  rw [g1, hc, g2]
  congr 1
  have : c'.slots = s.heap[q].slots := by
    apply Array.ext_getElem?
    intro i
    exact g4 i (by simp)
  rw [this]
/-- the words of a throw: new (idx), the text (im, at q), the constructor (ic) -/
def pm_Thr (own : String) (idx im ic : Nat) (cls tx : String) (q : Nat) (names : List String) (args : Array Value) (U : State) : Prop :=
  (Cond.classLink own idx cls).before args U = true ∧ (Cond.instantiable cls 6).before args U = true ∧ (Cond.initialized cls).before args U = true ∧ vk_R own im tx q U ∧ ∀ a ∈ Bundle.ownAtoms own ic cls names, a.before args U = true
section THR
variable {p : Program} {l : Launch} {e : Env} {R : Room} {s : State} {m : MethodId} {args : Array Value} {below : List Frame} {meth : Method} {c : Code} {cc : ByteArray} {nL : Nat}
variable {D : pm_D} {cl : List vw_C} {tys : Nat → Option (ClassId × FieldType)} {mu : Nat → Nat} {K base : Nat} {H00 : Heap} {n0 s0 : Nat}
variable {F : pm_F} {h h1 : pm_H} {ns : List Nat} {r : pm_O} {own : String}
theorem ps_throw {idx im ic ci q : Nat} {cls tx : String} {T0 : u_T} {names : List String} (hx : p.tables.exec = Jvm.exec) (hb : c.code = cc) (hd0 : decode cc F.1 = .ok (.new idx, 3)) (hd1 : decode cc (F.1 + 3) = .ok (.dup, 1)) (hd2 : decode cc (F.1 + 3 + 1) = .ok (.ldc im, 2)) (hd3 : decode cc (F.1 + 3 + 1 + 2) = .ok (.invokespecial ic, 3)) (hd4 : decode cc (F.1 + 3 + 1 + 2 + 3) = .ok (.athrow, 1))
    (htr : e.platform.stackTraces = false) (hex : ∀ x ∈ c.exceptionTable.toList, covers x (F.1 + 3 + 1 + 2 + 3) = false) (hlocks : meth.locks = false) (hml : c.maxLocals = nL) (hown : s.vm.findClass own = some m.cls) (hKn : pm_Kn D cl tys s) (hm : pm_mu mu K base)
    (hns : ns = [6, ci, 6, 0]) (hc : cl[ci]? = some (cls, T0, 0)) (hcls : Bundle.fit cls = true) (hnames : ∀ n ∈ names, Bundle.fit n = true) (hnl : names.length ≤ 3)
    (hT : ∀ U : State, s.WarmedH U.vm → (∀ z : Nat, z < base → U.heap[z]? = H00[z]?) → pm_Thr own idx im ic cls tx q names args U)
    (hfr : 8 ≤ R.frames) (hlo : 512 ≤ R.locals) (hrc : h1.1.length - n0 ≤ R.cells) (hrs : h1.2 - s0 ≤ R.slots)
    (ha : pm_fin (.new idx) ns F.2.2 h = some (r, h1)) : pm_X p l e R s m args below meth c nL D cl tys mu K base H00 n0 s0 (pm_Q below args s (pm_Qx D cl tys mu K base H00 r n0 s0 h1)) F h := by
  subst hns
  obtain ⟨pc, lv, st⟩ := F
  cases st with
  | cons v st => cases ha
  | nil =>
    cases ha
    intro hn hs H locs hR hL ls hl T hTH X
    simp only [List.length_append, List.length_singleton] at hrc hrs
    have X' := st_root (R' := { frames := R.frames, cells := R.cells - (h.1.length - n0), slots := R.slots - (h.2 - s0), locals := R.locals }) X (Nat.le_refl _) (Nat.le_refl _) (by show _ + (R.cells - _) ≤ _; omega) (by show _ + (R.slots - _) ≤ _; omega)
    have hheap : (T.setFrames (.invoking m args :: below)).heap = H := hTH
    have hWs : s.WarmedH (T.setFrames (.invoking m args :: below)).vm := X.warmed
    generalize hs' : T.setFrames (.invoking m args :: below) = s' at X' hheap hWs
    have hvm' : s'.vm = T.vm := by rw [← hs']; rfl
    obtain ⟨w1, w2, w3, w4, w5⟩ := hT s' hWs (fun z hz => by rw [hheap]; exact hR.2.2.2.1 z hz)
    have hown' : s'.vm.findClass own = some m.cls := by rw [hWs.alike.findClass]; exact hown
    have hfc : s'.vm.findClass cls = some (D.1.1 ci) := by rw [hWs.alike.findClass]; exact (hKn.1 ci _ hc).2.1
    have hw : W p l e { frames := R.frames, cells := R.cells - (h.1.length - n0), slots := R.slots - (h.2 - s0), locals := R.locals } s' m args below meth c H [] 0 0 (fun t => t.status = .running ∧ Ended t below (.threw H.size) ∧ s'.WarmedH t.vm ∧ s'.sameButNew ({ t with vm := s'.vm } : State) [] (0 + 1) (0 + 6) ∧ ∃ ce, t.heap[H.size]? = some ce ∧ s'.vm.findClass cls = some ce.cls ∧ ce.vm = .none) (F0 m pc ls []) := by
      refine W.newcK hx hb hown' w1 w2 w3 rfl hd0 (by show 0 + 1 ≤ R.cells - _; omega) (by show 0 + 6 ≤ R.slots - _; omega) hfc rfl (fun H' kC hkC e1 e2 e3 => ?_)
      refine lv_dup hx hb hd1 rfl ?_
      refine va_ldcS hx hb hown' w4 hd2 ?_
      intro T2 hT2 X2
      obtain ⟨U, st', hrun, hend, hWU, hsame, ce, hce, hoc⟩ := X2.ctorThrowS hx htr hown' hcls hnames w5 (fun x hx => by cases hx) (a := H.size) hfc hkC (by rw [hT2]; exact e1) (by rw [hheap]; exact Nat.le_refl _) (msg := .ref q) rfl (g := F0 m (pc + 3 + 1 + 2) ls [.ref q, .ref H.size, .ref H.size]) rfl (by rw [hml]; exact hl.1) rfl rfl (rest := []) rfl (by rw [hb]; exact hd3) (by rw [hb]; exact hd4) hex (by show _ < R.frames; omega) (by show 2 * 0 + 1 + _ ≤ R.locals; omega) hlocks
      exact ⟨U, st', hrun, hend, hWU, hsame, ce, hce, hoc.cls, hoc.vm⟩
    obtain ⟨t, a1, b1, b2, b3, b4, ce, b5, b6, b7⟩ := hw T hTH X'
    have hnext := hR.next hm
    have hce : ce.cls = D.1.1 ci := Option.some.inj (b6.symm.trans hfc)
    have hq := sb_same b4
    have hsz : t.heap.size = H.size + 1 := by
      have h2 := b4.2.2.1
      have h3 := (Array.getElem?_eq_some_iff.mp b5).1
      rw [hheap] at h2
      have h4 : t.heap.size ≤ H.size + (0 + 1) := h2
      omega
    have hT4 : T.sameButNew (t.setVm T.vm) [] (0 + 1) (0 + 6) := by
      have h5 := b4
      rw [hvm'] at h5
      rw [← hs'] at h5
      obtain ⟨g1, g2⟩ := h5
      refine ⟨?_, g2⟩
      rw [State.setFrames_setFrames] at g1
      exact g1
    refine ⟨t, a1, .threw H.size, b1, b2, ?_, ?_, State.WarmedH.trans X.warmed (by rw [← hs'] at b3; exact b3), locs ++ [], ?_, ?_⟩
    · show Outcome.threw H.size = .threw (mu h.1.length)
      rw [hnext]
    · refine hR.push (h.2 + 6) hm ?_ hsz (fun z hz => by have := hq z (by rw [hheap]; exact hz); rw [hheap] at this; exact this)
      exact ⟨_, ce, hc, (fun _ => rfl), (by rw [hnext]; exact b5), hce, (by rw [b7]; exact (fun z => by cases z)), (by rw [b7]; rfl), (fun _ => b7), (fun k v hv => by cases hv)⟩
    · have h6 := X.same.trans (hT4.setVm s.vm)
      have ec : (h.1 ++ [Sum.inl (ci, [])] : List pm_C).length - n0 = h.1.length - n0 + (0 + 1) := by simp only [List.length_append, List.length_singleton]; omega
      have es : h.2 + 6 - s0 = h.2 - s0 + (0 + 6) := by omega
      show s.sameButNew _ _ ((h.1 ++ [Sum.inl (ci, [])] : List pm_C).length - n0) (h.2 + 6 - s0)
      rw [ec, es]
      exact h6
    · intro z hz
      rcases List.mem_append.mp hz with g | g
      · exact hL z g
      · cases g
end THR
