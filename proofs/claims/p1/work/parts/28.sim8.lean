/-! THE WHOLE: a run of the pure machine is a run of the model -/
/-- a call's instruction links, and enters the method named y with the arguments av -/
def pm_Enter (p : Program) (l : Launch) (e : Env) (R : Room) (s : State) (m : MethodId) (args : Array Value) (below : List Frame) (meth : Method) (c : Code) (H : Heap) (locs : List Loc) (cells slots : Nat) (y : MethodName) (g : JFrame) (av rest : List Value) : Prop :=
  ∀ T : State, T.heap = H → Stand p l e R s m args below meth c T locs cells slots → ∃ (mk : MethodId) (vm₁ : Vm), s.methodNamed? y = some mk ∧ Stand p l e R s m args below meth c (T.setVm vm₁) locs cells slots ∧
    ∀ target, (∀ acts, Steps p.tables e below (doInvoke e ((T.setVm vm₁).setTop { g with stack := rest }) acts mk av.toArray).1 target) → Steps p.tables e below (T.setTop g) target
/-- what a frame of method y knows: its code, its class, the words, its answer's type, its handlers, the state's facts -/
def pm_Fr (Ts : List Cond) (St : State → Prop) (nm : Nat → MethodName) (bc : Nat → ByteArray) (ml : Nat → Nat) (rt : Nat → Option FieldType) (ex : Nat → Code → Prop) (base : Nat) (y : Nat) (p : Program) (s : State) (m : MethodId) (args : Array Value) (meth : Method) (c : Code) : Prop :=
  p.tables.exec = Jvm.exec ∧ c.code = bc y ∧ s.vm.findClass (nm y).cls = some m.cls ∧ (∀ w ∈ Ts, w.before args s = true) ∧ c.maxLocals = ml y ∧ meth.name = (nm y).name ∧ meth.sig.returnType = rt y ∧ meth.locks = false ∧ ex y c ∧ St s ∧ ∀ (q : Nat) (cell : Cell), base ≤ q → s.heap[q]? = some cell → cell.vm.isStatics = false
theorem pm_rep.ns {D : pm_D} {cl : List vw_C} {tys : Nat → Option (ClassId × FieldType)} {mu : Nat → Nat} {K base : Nat} {H00 H : Heap} {h : pm_H} (hR : pm_rep D cl tys mu K base H00 h H) (hm : pm_mu mu K base) : ∀ (q : Nat) (cell : Cell), base ≤ q → H[q]? = some cell → cell.vm.isStatics = false := by
  intro q cell hq hc
  have hlt : q < H.size := (Array.getElem?_eq_some_iff.mp hc).1
  rw [hR.2.2.1] at hlt
  have hK := hR.2.1
  have hl : K + (q - base) < h.1.length := by omega
  have hmq : mu (K + (q - base)) = q := by rw [hm.2.1 _ (by omega)]; omega
  have hx := List.getElem?_eq_getElem hl
  have hat := hR.1 _ _ hx
  generalize h.1[K + (q - base)] = x at hat hx
  cases x with
  | inl o =>
    obtain ⟨r, c2, -, -, g1, -, -, g2, -⟩ := hat
    rw [hmq, hc] at g1
    cases g1
    exact g2
  | inr t =>
    obtain ⟨q2, c2, -, g1, -, -, g2, -⟩ := hat.resolve_left (fun z => absurd z.2 (by omega))
    rw [hmq, hc] at g1
    cases g1
    exact g2
section MAIN
variable {l : Launch} {Ts : List Cond} {St : State → Prop} {nm : Nat → MethodName} {bc : Nat → ByteArray} {ml : Nat → Nat} {rt : Nat → Option FieldType} {ex : Nat → Code → Prop} {G : Nat → pm_M} {ok : Nat → Prop}
variable {D : pm_D} {cl : List vw_C} {tys : Nat → Option (ClassId × FieldType)} {mu : Nat → Nat} {K base : Nat} {H00 : Heap} {asg : List (Nat × Nat)}
theorem pm_rowOf : ∀ (M : List pm_R) (pc : Nat) (x : Instr × Nat × List Value × List Nat), pm_row M pc = some x → (pc, x) ∈ M := by
  intro M
  induction M with
  | nil => intro pc x h; cases h
  | cons q r ih =>
    intro pc x h
    obtain ⟨j, w⟩ := q
    unfold pm_row at h
    split at h
    · next e => subst e; cases h; exact List.mem_cons_self
    · exact List.mem_cons_of_mem _ (ih pc x h)
theorem pm_main (hmu : pm_mu mu K base)
    (hgood : ∀ w ∈ Ts, (w.onTables && w.keeps) = true ∨ ∃ ty, w = .arrayClass ty)
    (hSt : ∀ u U : State, u.WarmedH U.vm → St u → St U)
    (hcodes : ∀ (z : Nat) (args : Array Value) (s : State) (mk : MethodId), ok z → (∀ w ∈ Ts, w.before args s = true) → s.methodNamed? (nm z) = some mk → ∃ meth c, s.vm.method? mk = some meth ∧ meth.code = some c ∧ c.code = bc z ∧ c.maxLocals = ml z ∧ meth.sig.returnType = rt z ∧ meth.locks = false ∧ ex z c)
    (hplain : ∀ z, ok z → plainFor (nm z) = true) (hinit : ∀ z, ok z → Cond.initialized (nm z).cls ∈ Ts) (hml : ∀ z, ok z → ml z ≤ 45)
    (hlen : ∀ (y pc : Nat) (i : Instr) (len : Nat) (vs : List Value) (ns : List Nat), ok y → (pc, i, len, vs, ns) ∈ (G y).1 → decode (bc y) pc = .ok (i, len))
    (hact : ∀ (y : Nat) (F F' : pm_F) (h h' : pm_H) (i : Instr) (len : Nat) (vs : List Value) (ns : List Nat), ok y → (F.1, i, len, vs, ns) ∈ (G y).1 → pm_act (K, asg) i len vs ns F h = some (F', h') →
      h.1.length ≤ h'.1.length ∧ h.2 ≤ h'.2 ∧ ∀ (p : Program) (e : Env) (R : Room) (s : State) (m : MethodId) (args : Array Value) (below : List Frame) (meth : Method) (c : Code) (n0 s0 : Nat) (Q : State → Prop), l.admits e → pm_Fr Ts St nm bc ml rt ex base y p s m args meth c →
        8 ≤ R.frames → 512 ≤ R.locals → h'.1.length - n0 ≤ R.cells → h'.2 - s0 ≤ R.slots → pm_X p l e R s m args below meth c (ml y) D cl tys mu K base H00 n0 s0 Q F' h' → pm_X p l e R s m args below meth c (ml y) D cl tys mu K base H00 n0 s0 Q F h)
    (hend : ∀ (y : Nat) (F : pm_F) (h : pm_H) (r : pm_O) (h1 : pm_H) (i : Instr) (len : Nat) (vs : List Value) (ns : List Nat), ok y → (F.1, i, len, vs, ns) ∈ (G y).1 → pm_fin i ns F.2.2 h = some (r, h1) →
      h.1.length ≤ h1.1.length ∧ h.2 ≤ h1.2 ∧ ∀ (p : Program) (e : Env) (R : Room) (s : State) (m : MethodId) (args : Array Value) (below : List Frame) (meth : Method) (c : Code) (n0 s0 : Nat), l.admits e → pm_Fr Ts St nm bc ml rt ex base y p s m args meth c →
        8 ≤ R.frames → 512 ≤ R.locals → h1.1.length - n0 ≤ R.cells → h1.2 - s0 ≤ R.slots → pm_X p l e R s m args below meth c (ml y) D cl tys mu K base H00 n0 s0 (pm_Q below args s (pm_Qx D cl tys mu K base H00 r n0 s0 h1)) F h)
    (hent : ∀ (y : Nat) (F : pm_F) (h : pm_H) (z : Nat) (as rest : List Value) (i : Instr) (len : Nat) (vs : List Value) (ns : List Nat), ok y → (F.1, i, len, vs, ns) ∈ (G y).1 → pm_call i ns F.2.2 h = some (z, as, rest) →
      ok z ∧ (lg_sl (as.map (pm_v mu))).length ≤ ml z ∧ (rest.map fun v => v.category).sum ≤ 8 ∧ ∀ (p : Program) (e : Env) (R : Room) (s : State) (m : MethodId) (args : Array Value) (below : List Frame) (meth : Method) (c : Code) (H : Heap) (locs : List Loc) (cells slots : Nat) (ls : Array Slot), pm_Fr Ts St nm bc ml rt ex base y p s m args meth c → pm_rep D cl tys mu K base H00 h H →
        pm_Enter p l e R s m args below meth c H locs cells slots (nm z) (F0 m F.1 ls (F.2.2.map (pm_v mu))) (as.map (pm_v mu)) (rest.map (pm_v mu)))
    (hexn : ∀ (y : Nat) (c : Code), ok y → ex y c → (G y).2 = [] → c.exceptionTable.toList = [])
    (hhnd : ∀ (y a ci pc : Nat) (zs : List Value) (h : pm_H) (p : Program) (e : Env) (R : Room) (s T : State) (m : MethodId) (args : Array Value) (below : List Frame) (meth : Method) (c : Code) (locs : List Loc) (cells slots : Nat) (g : JFrame), ok y → pm_Fr Ts St nm bc ml rt ex base y p s m args meth c → h.1[a]? = some (.inl (ci, zs)) → pm_rep D cl tys mu K base H00 h T.heap → Stand p l e R s m args below meth c T locs cells slots → g.method = m → pm_hnd (G y).2 g.pc ci = some pc →
      ∃ vm', Stand p l e R s m args below meth c (T.setVm vm') locs cells slots ∧ ∀ target, Steps p.tables e below ((T.setVm vm').setTop { g with pc := pc, stack := [.ref (mu a)] }) target → Steps p.tables e below ((T.setTop g).pushFrame (.throwing (mu a))) target) :
    ∀ (n y d : Nat) (F : pm_F) (h : pm_H) (r : pm_O) (h1 : pm_H), ok y → pm_run (K, asg) G n d (G y) F h = some (r, h1) → h.1.length ≤ h1.1.length ∧ h.2 ≤ h1.2 ∧
      ∀ (p : Program) (e : Env) (R : Room) (s : State) (m : MethodId) (args : Array Value) (below : List Frame) (meth : Method) (c : Code) (n0 s0 : Nat), l.admits e → pm_Fr Ts St nm bc ml rt ex base y p s m args meth c → n0 ≤ h.1.length → s0 ≤ h.2 → d + 8 ≤ R.frames → (d + 8) * 64 ≤ R.locals → h1.1.length - n0 ≤ R.cells → h1.2 - s0 ≤ R.slots →
        pm_X p l e R s m args below meth c (ml y) D cl tys mu K base H00 n0 s0 (pm_Q below args s (pm_Qx D cl tys mu K base H00 r n0 s0 h1)) F h := by
  intro n
  induction n with
  | zero => intro y d F h r h1 _ hh; cases hh
  | succ n ih =>
    intro y d F h r h1 hy hh
    have hh' : pm_one (K, asg) G (pm_run (K, asg) G n) d (G y) F h = some (r, h1) := hh
    unfold pm_one at hh'
    cases e1 : pm_row (G y).1 F.1 with
    | none => simp [e1] at hh'
    | some q =>
      obtain ⟨i, len, vs, ns⟩ := q
      have hrow := pm_rowOf _ _ _ e1
      have hdec := hlen y F.1 i len vs ns hy hrow
      simp only [e1] at hh'
      cases e2 : pm_fin i ns F.2.2 h with
      | some o =>
        simp only [e2] at hh'
        cases hh'
        obtain ⟨l1, l2, hk⟩ := hend y F h _ _ i len vs ns hy hrow e2
        refine ⟨l1, l2, fun p e R s m args below meth c n0 s0 had hF _ _ hfr hlo hc hs => ?_⟩
        exact hk p e R s m args below meth c n0 s0 had hF (by omega) (by omega) hc hs
      | none =>
        simp only [e2] at hh'
        cases e3 : pm_call i ns F.2.2 h with
        | none =>
          simp only [e3] at hh'
          cases e4 : pm_act (K, asg) i len vs ns F h with
          | none => simp [e4] at hh'
          | some q =>
            obtain ⟨F', h'⟩ := q
            simp only [e4] at hh'
            obtain ⟨l1, l2, hk⟩ := hact y F F' h h' i len vs ns hy hrow e4
            obtain ⟨l3, l4, hk2⟩ := ih y d F' h' r h1 hy hh'
            refine ⟨Nat.le_trans l1 l3, Nat.le_trans l2 l4, fun p e R s m args below meth c n0 s0 had hF hn0 hs0 hfr hlo hc hs => ?_⟩
            exact hk p e R s m args below meth c n0 s0 _ had hF (by omega) (by omega) (by omega) (by omega) (hk2 p e R s m args below meth c n0 s0 had hF (by omega) (by omega) hfr hlo hc hs)
        | some q =>
          obtain ⟨z, as, rest⟩ := q
          simp only [e3] at hh'
          obtain ⟨hz, hsl, hw8, hent'⟩ := hent y F h z as rest i len vs ns hy hrow e3
          cases d with
          | zero => simp at hh'
          | succ d =>
            simp only at hh'
            cases e5 : pm_run (K, asg) G n d (G z) (0, lv_args 0 as, []) h with
            | none => simp [e5] at hh'
            | some q =>
              obtain ⟨o, h2⟩ := q
              simp only [e5] at hh'
              obtain ⟨l1, l2, hcal⟩ := ih z d _ h o h2 hz e5
              -- the callee's contract
              have hM : MetFree l (nm z) (headSpec Ts { frames := d + 8, cells := h2.1.length - h.1.length, slots := h2.2 - h.2, locals := (d + 8) * 64 }) (fun av U => av = (as.map (pm_v mu)).toArray ∧ pm_rep D cl tys mu K base H00 h U.heap ∧ St U) (fun _ _ _ _ _ => True) (pm_Qx D cl tys mu K base H00 o h.1.length h.2 h2) := by
                refine MetFree.of_bodySF (code := bc z) (maxLocals := ml z) (ret := rt z) (hplain z hz) ?_ ?_
                · intro args s m hp hn
                  obtain ⟨meth, c, g1, g2, g3, g4, g5, g6, -⟩ := hcodes z args s m hz (atoms_spec (ws := Ts) hp) hn
                  exact ⟨meth, c, g1, g2, g3, g4, g5, g6⟩
                · intro p e s m args below meth c s₁ B hmlc hP _
                  obtain ⟨rfl, hrep, hst⟩ := hP
                  have hh0 : s₁.heap = s.heap := by rw [B.state]; rfl
                  have X := Stand.of_body B
                  obtain ⟨meth', c', g1, g2, g3, g4, g5, g6, g7⟩ := hcodes z _ s m hz (atoms_spec (ws := Ts) B.pre) B.named
                  cases B.method.symm.trans g1
                  cases X.code.symm.trans g2
                  have hF : pm_Fr Ts St nm bc ml rt ex base z p s m (as.map (pm_v mu)).toArray meth c := ⟨B.exec, B.bytes, findClass_of_methodNamed B.named, atoms_spec (ws := Ts) B.pre, g4, (name_of_methodNamed B.named B.method).1, g5, g6, g7, hst, hrep.ns hmu⟩
                  have hb := hcal p e { frames := d + 8, cells := h2.1.length - h.1.length, slots := h2.2 - h.2, locals := (d + 8) * 64 } s m _ below meth c h.1.length h.2 B.admits hF (Nat.le_refl _) (Nat.le_refl _) (Nat.le_refl _) (Nat.le_refl _) (Nat.le_refl _) (Nat.le_refl _) (Nat.le_refl _) (Nat.le_refl _) s.heap [] hrep (fun q hq => by cases hq)
                  have hl := lv_entry (as.map (pm_v mu)) (n := ml z) hsl
                  have hw := hb _ (by rw [pm_args_map]; exact hl)
                  rw [Nat.sub_self, Nat.sub_self] at hw
                  rw [lg_entry_eq]
                  obtain ⟨t, a1, o', b1, b2, b3⟩ := hw s₁ hh0 X
                  exact ⟨t, o', a1, b1, b2, b3⟩
              have hbase : ∀ st o' t, pm_Qx D cl tys mu K base H00 o h.1.length h.2 h2 (as.map (pm_v mu)).toArray st o' t → st.WarmedH t.vm ∧ ∃ L : List Loc, st.sameButNew ({ t with vm := st.vm } : State) L (h2.1.length - h.1.length) (h2.2 - h.2) ∧ ∀ q ∈ L, base ≤ q.base := fun st o' t hq => hq.2.2
              -- at the call
              have hcall : ∀ (p : Program) (e : Env) (R : Room) (s : State) (m : MethodId) (args : Array Value) (below : List Frame) (meth : Method) (c : Code) (H : Heap) (locs : List Loc) (cells slots : Nat) (ls : Array Slot) (T : State), pm_Fr Ts St nm bc ml rt ex base y p s m args meth c → pm_rep D cl tys mu K base H00 h H → lv_has ls (ml y) (F.2.1.map (pm_lm mu)) → d + 9 ≤ R.frames → (d + 9) * 64 ≤ R.locals → cells + (h2.1.length - h.1.length) ≤ R.cells → slots + (h2.2 - h.2) ≤ R.slots → T.heap = H → Stand p l e R s m args below meth c T locs cells slots →
                  ∃ (oc : Outcome) (B s₂ st₀ : State) (L : List Loc), Stand p l e R s m args below meth c B (locs ++ L) (cells + (h2.1.length - h.1.length)) (slots + (h2.2 - h.2)) ∧ (∀ q ∈ L, base ≤ q.base) ∧ pm_Qx D cl tys mu K base H00 o h.1.length h.2 h2 (as.map (pm_v mu)).toArray st₀ oc s₂ ∧ B.heap = s₂.heap ∧
                    (match oc with
                      | .returned v => ∀ target, Steps p.tables e below (B.setTop (F0 m (F.1 + len) ls (v.toList ++ rest.map (pm_v mu)))) target → Steps p.tables e below (T.setTop (F0 m F.1 ls (F.2.2.map (pm_v mu)))) target
                      | .threw x => ∀ target, Steps p.tables e below ((B.setTop (F0 m F.1 ls (rest.map (pm_v mu)))).pushFrame (.throwing x)) target → Steps p.tables e below (T.setTop (F0 m F.1 ls (F.2.2.map (pm_v mu)))) target) := by
                intro p e R s m args below meth c H locs cells slots ls T hF hrep hl hfr hlo hc hs hT X
                obtain ⟨mk, vm₁, hn, X₁, hstep⟩ := hent' p e R s m args below meth c H locs cells slots ls hF hrep T hT X
                obtain ⟨hx, hbc, hown, hts, hmlc, hname, hret, hlk, hexx, hst, -⟩ := hF
                obtain ⟨methY, cY, g1, g2, g3, g4, -⟩ := hcodes z args s mk hz hts hn
                have hmY : (T.setVm vm₁).vm.method? mk = some methY := by rw [X₁.warmed.alike.method?]; exact g1
                have hn₁ : (T.setVm vm₁).methodNamed? (nm z) = some mk := X₁.named hn
                have hws : ∀ w ∈ Ts, ∀ a' : Array Value, w.before a' (T.setVm vm₁) = true := fun w hw a' => word_at X₁.warmed (hgood w hw) (hts w hw)
                have hwt : ((rest.map (pm_v mu)).map fun v => v.category).sum ≤ 8 := by
                  rw [List.map_map]
                  have : (rest.map ((fun v : Value => v.category) ∘ pm_v mu)) = rest.map fun v => v.category := List.map_congr_left (fun v _ => pm_v_cat mu v)
                  rw [this]; exact hw8
                have hmlz := hml z hz
                obtain ⟨oc, B, s₂, L, XB, hL, hq, hh1, -, hst2⟩ := pm_back (base := base) (k := h2.1.length - h.1.length) (n := h2.2 - h.2) hM X₁ (g := F0 m F.1 ls (rest.map (pm_v mu))) (ig := i) (len := len) (mk := mk) (a := (as.map (pm_v mu)).toArray) rfl (by rw [hmlc]; exact hl.1) (by rw [hbc]; exact hdec) hn₁ hmY g2 (hws _ (hinit z hz) _) (by show d + 8 + 1 ≤ R.frames; omega) (by
                    show 2 * 0 + ((rest.map (pm_v mu)).map fun v => v.category).sum + (cY.maxLocals + 11) + (d + 8) * 64 ≤ R.locals
                    rw [g4]; omega) hc hs (atoms_intro fun w hw => hws w hw _) ⟨rfl, (show pm_rep D cl tys mu K base H00 h T.heap by rw [hT]; exact hrep), hSt s _ X₁.warmed hst⟩ hbase
                refine ⟨oc, B, s₂, _, L, XB, hL, hq, hh1, ?_⟩
                cases oc with
                | returned v => exact fun target ht => hstep target (fun acts => by rw [doInvoke_state]; exact hst2.trans ht)
                | threw x => exact fun target ht => hstep target (fun acts => by rw [doInvoke_state]; exact hst2.trans ht)
              cases o with
              | inl v =>
                simp only at hh'
                obtain ⟨l3, l4, hk2⟩ := ih y (d + 1) _ h2 r h1 hy hh'
                refine ⟨Nat.le_trans l1 l3, Nat.le_trans l2 l4, fun p e R s m args below meth c n0 s0 had hF hn0 hs0 hfr hlo hc hs => ?_⟩
                intro hn hs' H locs hrep hL ls hl T hT X
                obtain ⟨oc, B, s₂, st₀, L, XB, hLL, ⟨ho, hrep2, -⟩, hh1, hst⟩ := hcall p e R s m args below meth c H locs _ _ ls T hF hrep hl (by omega) (by omega) (by omega) (by omega) hT X
                subst ho
                have hcont := hk2 p e R s m args below meth c n0 s0 had hF (by omega) (by omega) hfr hlo hc hs (by omega) (by omega) B.heap (locs ++ L) (by rw [hh1]; exact hrep2) (fun q hq => by
                  rcases List.mem_append.mp hq with z | z
                  · exact hL q z
                  · exact hLL q z) ls hl
                have ec : h.1.length - n0 + (h2.1.length - h.1.length) = h2.1.length - n0 := by omega
                have es : h.2 - s0 + (h2.2 - h.2) = h2.2 - s0 := by omega
                rw [ec, es] at XB
                obtain ⟨t, a1, b1⟩ := hcont B rfl XB
                refine ⟨t, hst t ?_, b1⟩
                have em : (v.toList ++ rest).map (pm_v mu) = (v.map (pm_v mu)).toList ++ rest.map (pm_v mu) := by cases v <;> rfl
                simp only [em] at a1
                exact a1
              | inr a =>
                simp only at hh'
                cases e6 : h2.1[a]? with
                | none => simp [e6] at hh'
                | some x =>
                  cases x with
                  | inr zz => simp [e6] at hh'
                  | inl zz =>
                    obtain ⟨ci, zs⟩ := zz
                    simp only [e6] at hh'
                    cases e7 : pm_hnd (G y).2 F.1 ci with
                    | none =>
                      simp only [e7] at hh'
                      by_cases hem : (G y).2.isEmpty = true
                      · skip
                        rw [if_pos hem] at hh'
                        cases hh'
                        refine ⟨l1, l2, fun p e R s m args below meth c n0 s0 had hF hn0 hs0 hfr hlo hc hs => ?_⟩
                        intro hn hs' H locs hrep hL ls hl T hT X
                        obtain ⟨oc, B, s₂, st₀, L, XB, hLL, ⟨ho, hrep2, -⟩, hh1, hst⟩ := hcall p e R s m args below meth c H locs _ _ ls T hF hrep hl (by omega) (by omega) (by omega) (by omega) hT X
                        subst ho
                        have ec : h.1.length - n0 + (h1.1.length - h.1.length) = h1.1.length - n0 := by omega
                        have es : h.2 - s0 + (h1.2 - h.2) = h1.2 - s0 := by omega
                        rw [ec, es] at XB
                        obtain ⟨g₀, hfr0⟩ := XB.frames_eq
                        have hAt : At B (F0 m F.1 ls (rest.map (pm_v mu))).method c below := XB.here
                        refine ⟨B.setFrames (.throwing (mu a) :: below), hst _ ?_, .threw (mu a), XB.here.running, State.frames_setFrames _ (State.cur_lt_of_frames hfr0), rfl, (by show pm_rep D cl tys mu K base H00 h1 B.heap; rw [hh1]; exact hrep2), (XB.ends _).1, locs ++ L, (XB.ends _).2, fun q hq => by
                          rcases List.mem_append.mp hq with z | z
                          · exact hL q z
                          · exact hLL q z⟩
                        refine Steps.thrownOut hAt (meth := meth) XB.method' hF.2.2.2.2.2.2.2.1 rfl rfl (Finds.outside (meth := meth) (code := c) XB.method' XB.code (by rw [hexn y c hy hF.2.2.2.2.2.2.2.2.1 (List.isEmpty_iff.mp hem)]; intro x hx; cases hx)) ?_
                        rw [XB.tail]
                        exact Steps.refl _
                      · rw [if_neg hem] at hh'
                        cases hh'
                    | some pc =>
                      simp only [e7] at hh'
                      obtain ⟨l3, l4, hk2⟩ := ih y (d + 1) _ h2 r h1 hy hh'
                      refine ⟨Nat.le_trans l1 l3, Nat.le_trans l2 l4, fun p e R s m args below meth c n0 s0 had hF hn0 hs0 hfr hlo hc hs => ?_⟩
                      intro hn hs' H locs hrep hL ls hl T hT X
                      obtain ⟨oc, B, s₂, st₀, L, XB, hLL, ⟨ho, hrep2, -⟩, hh1, hst⟩ := hcall p e R s m args below meth c H locs _ _ ls T hF hrep hl (by omega) (by omega) (by omega) (by omega) hT X
                      subst ho
                      have hcont := hk2 p e R s m args below meth c n0 s0 had hF (by omega) (by omega) hfr hlo hc hs (by omega) (by omega) B.heap (locs ++ L) (by rw [hh1]; exact hrep2) (fun q hq => by
                        rcases List.mem_append.mp hq with z | z
                        · exact hL q z
                        · exact hLL q z) ls hl
                      have ec : h.1.length - n0 + (h2.1.length - h.1.length) = h2.1.length - n0 := by omega
                      have es : h.2 - s0 + (h2.2 - h.2) = h2.2 - s0 := by omega
                      rw [ec, es] at XB
                      obtain ⟨vm', XV, hstv⟩ := hhnd y a ci pc zs h2 p e R s B m args below meth c _ _ _ (F0 m F.1 ls (rest.map (pm_v mu))) hy hF e6 (by rw [hh1]; exact hrep2) XB rfl e7
                      obtain ⟨t, a1, b1⟩ := hcont (B.setVm vm') rfl XV
                      exact ⟨t, hst t (hstv t a1), b1⟩
end MAIN
