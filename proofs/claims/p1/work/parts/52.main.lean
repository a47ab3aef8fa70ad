/-! THE MAIN THEOREM at our tables: a run of the pure machine is a run of the model -/
theorem pm_fin_ret {i : Instr} {ns : List Nat} {st : List Value} {h h1 : pm_H} {r : pm_O} (hi : i = .return_ ∨ i = .ireturn ∨ i = .lreturn ∨ i = .areturn) (ha : pm_fin i ns st h = some (r, h1)) : ∃ v, r = .inl v ∧ h1 = h := by
  rcases hi with rfl | rfl | rfl | rfl
  · cases st with
    | nil => cases ha; exact ⟨_, rfl, rfl⟩
    | cons v r => cases ha
  · cases st with
    | nil => cases ha
    | cons v r =>
      cases r with
      | cons w r => cases v <;> cases ha
      | nil =>
        cases v with
        | int x =>
          simp only [pm_fin] at ha
          split at ha
          · cases ha; exact ⟨_, rfl, rfl⟩
          · cases ha
        | _ => cases ha
  · cases st with
    | nil => cases ha
    | cons v r =>
      cases r with
      | cons w r => cases v <;> cases ha
      | nil =>
        cases v with
        | long x => cases ha; exact ⟨_, rfl, rfl⟩
        | _ => cases ha
  · cases st with
    | nil => cases ha
    | cons v r =>
      cases r with
      | cons w r => cases v <;> cases ha
      | nil =>
        cases v with
        | null => cases ha; exact ⟨_, rfl, rfl⟩
        | ref a => cases ha; exact ⟨_, rfl, rfl⟩
        | _ => cases ha
theorem pt_rok1 {rt : Option FieldType} {ns : List Nat} (h : pt_rok .return_ rt ns = true) : rt = none := by
  cases rt with
  | none => rfl
  | some ty => cases h
theorem pt_rok2 {rt : Option FieldType} {ns : List Nat} (h : pt_rok .ireturn rt ns = true) : ∃ ty, rt = some ty ∧ pm_tag (ns.headD 0) ty = true := by
  cases rt with
  | none => cases h
  | some ty => exact ⟨ty, rfl, h⟩
theorem pt_rok3 {rt : Option FieldType} {ns : List Nat} (h : pt_rok .lreturn rt ns = true) : rt = some .long := by
  cases rt with
  | none => cases h
  | some ty => cases ty <;> first | rfl | cases h
theorem pt_rok4 {rt : Option FieldType} {ns : List Nat} (h : pt_rok .areturn rt ns = true) : ∃ ty, rt = some ty ∧ ((∃ n, ty = .object n) ∨ ∃ t, ty = .array t) := by
  cases rt with
  | none => cases h
  | some ty =>
    cases ty with
    | object n => exact ⟨_, rfl, Or.inl ⟨n, rfl⟩⟩
    | array t => exact ⟨_, rfl, Or.inr ⟨t, rfl⟩⟩
    | _ => cases h
/-- the handlers of a method, by the table and by our rows -/
def pt_hc (t : Nat) : List Nat := match t with
  | 13 => [14]
  | 15 => [15]
  | 25 => [16]
  | 42 => [17]
  | _ => []
def pt_ckH : List (Nat × Nat × Nat × Nat) → List (Nat × Nat × Nat × List Nat) → Bool
  | [], [] => true
  | (a, b, c, t) :: hw, (a', b', c', cs) :: hs => decide (a = a' ∧ b = b' ∧ c = c' ∧ cs = pt_hc t ∧ (t = 13 ∨ t = 15 ∨ t = 25 ∨ t = 42)) && pt_ckH hw hs
  | _, _ => false
def pt_ckHy (y : Nat) : Bool := pt_ckH (pt_hw y) (pt_G .null y).2 && (decide ((pt_G .null y).2 = []) || decide (pt_ow y = 0))
theorem pt_kh : (List.range' 0 314).all pt_ckHy = true := by decide +kernel
theorem pt_G2 (u : Value) (y : Nat) (hy : y < 314) : (pt_G u y).2 = (pt_G .null y).2 := by
  have e : ∀ v : Value, (pt_M v).map (fun q => q.2) = (pt_M .null).map (fun q => q.2) := fun v => rfl
  have g : ∀ v : Value, (pt_G v y).2 = ((pt_M v).map (fun q => q.2)).getD y [] := by
    intro v
    have hl : y < (pt_M v).length := by rw [pt_Ml]; exact hy
    unfold pt_G
    rw [List.getD_eq_getElem?_getD, List.getD_eq_getElem?_getD, List.getElem?_map, List.getElem?_eq_getElem hl]
    rfl
  rw [g u, g .null, e u]
theorem pt_hon {y : Nat} (hy : y < 314) : (pt_nm y).cls = pt_own.getD (pt_ow y) "" := by
  by_cases h0 : y = 0
  · subst h0; rfl
  · have hk := pt_ckC_all y hy h0
    simp only [pt_ckC, Bool.and_eq_true, decide_eq_true_eq] at hk
    exact hk.2.2.2.2.2
section MAIN2
variable {l : Launch} {D : pm_D} {A : Nat → ClassId} {mu : Nat → Nat} {base : Nat} {H00 : Heap} {u : Value}
theorem pt_hend (hmu : pm_mu mu 81 base) (htr : ∀ e : Env, l.admits e → e.platform.stackTraces = false) {y : Nat} {F : pm_F} {h h1 : pm_H} {r : pm_O} {i : Instr} {len : Nat} {vs : List Value} {ns : List Nat} (hck : pt_chk u y (pt_ow y) (pt_inb y) (pt_ml y) (pt_rt y) (F.1, i, len, vs, ns) = true) (hdec : decode (pt_bc y) F.1 = .ok (i, len)) (ha : pm_fin i ns F.2.2 h = some (r, h1)) :
    h.1.length ≤ h1.1.length ∧ h.2 ≤ h1.2 ∧ ∀ (p : Program) (e : Env) (R : Room) (s : State) (m : MethodId) (args : Array Value) (below : List Frame) (meth : Method) (c : Code) (n0 s0 : Nat), l.admits e → pm_Fr pt_Ts (pt_St u D A mu base H00) pt_nm pt_bc pt_ml pt_rt pt_ex base y p s m args meth c →
      8 ≤ R.frames → 512 ≤ R.locals → h1.1.length - n0 ≤ R.cells → h1.2 - s0 ≤ R.slots → pm_X p l e R s m args below meth c (pt_ml y) D pt_cl (pt_tys A) mu 81 base H00 n0 s0 (pm_Q below args s (pm_Qx D pt_cl (pt_tys A) mu 81 base H00 r n0 s0 h1)) F h := by
  have hret : (i = .return_ ∨ i = .ireturn ∨ i = .lreturn ∨ i = .areturn) → len = 1 ∧ pt_rok i (pt_rt y) ns = true := by
    intro hi
    rcases hi with rfl | rfl | rfl | rfl <;> (simp only [pt_chk, Bool.and_eq_true, decide_eq_true_eq] at hck; exact hck)
  cases i with
  | return_ =>
    obtain ⟨v, rfl, rfl⟩ := pm_fin_ret (Or.inl rfl) ha
    obtain ⟨g1, g2⟩ := hret (Or.inl rfl)
    refine ⟨Nat.le_refl _, Nat.le_refl _, fun p e R s m args below meth c n0 s0 had hF hfr hlo hrc hrs => ?_⟩
    obtain ⟨hx, hb, hown0, hts, hml, hname, hrt2, hlk, hex, hst, hns0⟩ := hF
    exact ps_ret hx hb hdec g1 hrt2 hlk (pt_rok1 g2) ha
  | ireturn =>
    obtain ⟨v, rfl, rfl⟩ := pm_fin_ret (Or.inr (Or.inl rfl)) ha
    obtain ⟨g1, g2⟩ := hret (Or.inr (Or.inl rfl))
    refine ⟨Nat.le_refl _, Nat.le_refl _, fun p e R s m args below meth c n0 s0 had hF hfr hlo hrc hrs => ?_⟩
    obtain ⟨hx, hb, hown0, hts, hml, hname, hrt2, hlk, hex, hst, hns0⟩ := hF
    exact ps_ret hx hb hdec g1 hrt2 hlk (pt_rok2 g2) ha
  | lreturn =>
    obtain ⟨v, rfl, rfl⟩ := pm_fin_ret (Or.inr (Or.inr (Or.inl rfl))) ha
    obtain ⟨g1, g2⟩ := hret (Or.inr (Or.inr (Or.inl rfl)))
    refine ⟨Nat.le_refl _, Nat.le_refl _, fun p e R s m args below meth c n0 s0 had hF hfr hlo hrc hrs => ?_⟩
    obtain ⟨hx, hb, hown0, hts, hml, hname, hrt2, hlk, hex, hst, hns0⟩ := hF
    exact ps_ret hx hb hdec g1 hrt2 hlk (pt_rok3 g2) ha
  | areturn =>
    obtain ⟨v, rfl, rfl⟩ := pm_fin_ret (Or.inr (Or.inr (Or.inr rfl))) ha
    obtain ⟨g1, g2⟩ := hret (Or.inr (Or.inr (Or.inr rfl)))
    refine ⟨Nat.le_refl _, Nat.le_refl _, fun p e R s m args below meth c n0 s0 had hF hfr hlo hrc hrs => ?_⟩
    obtain ⟨hx, hb, hown0, hts, hml, hname, hrt2, hlk, hex, hst, hns0⟩ := hF
    exact ps_ret hx hb hdec g1 hrt2 hlk (pt_rok4 g2) ha
  | new idx =>
    simp only [pt_chk, Bool.and_eq_true, Bool.or_eq_true, decide_eq_true_eq] at hck
    obtain ⟨hl3, hck | hck⟩ := hck
    · obtain ⟨ci, sl, rr, e1, -⟩ := pt_NE_ok _ (pt_hasE_in hck)
      simp only at e1
      rw [e1] at ha
      cases hst : F.2.2 with
      | nil => rw [hst] at ha; simp [pm_fin] at ha
      | cons a b => rw [hst] at ha; simp [pm_fin] at ha
    · obtain ⟨⟨y', pc', idx', im, ic, ci, tx, j⟩, hm, hq⟩ := List.any_eq_true.mp hck
      simp only [Bool.and_eq_true, beq_iff_eq, decide_eq_true_eq] at hq
      obtain ⟨rfl, rfl, rfl, rfl⟩ := hq
      have hT := List.all_eq_true.mp pt_kT _ hm
      simp only [pt_ckT, Bool.and_eq_true, decide_eq_true_eq] at hT
      obtain ⟨t0, t1, t2, t3, t4, t5, t6, t7, t8, t9, t10⟩ := hT
      subst t10
      obtain ⟨⟨o, im', tx', k⟩, hse, hq2⟩ := List.any_eq_true.mp t9
      simp only [decide_eq_true_eq] at hq2
      obtain ⟨rfl, rfl, rfl⟩ := hq2
      obtain ⟨k1, k2, k3, k4⟩ := pt_kI t7
      obtain ⟨pc, lv, st⟩ := F
      cases st with
      | cons a b => cases ha
      | nil =>
        have ha2 := ha
        cases ha
        refine ⟨by simp, by simp, fun p e R s m args below meth c n0 s0 had hF hfr hlo hrc hrs => ?_⟩
        obtain ⟨hx, hb, hown0, hts, hml, hname, hrt2, hlk, hex, hst, hns0⟩ := hF
        rw [t6] at hown0
        have hvk := hst.se _ hse
        have hexn : c.exceptionTable.toList = [] := by
          have h0 : c.exceptionTable.toList.map (fun h => (h.startPc, h.endPc, h.handlerPc, h.catchType)) = pt_hw _ := hex
          rw [t5] at h0
          exact List.map_eq_nil_iff.mp h0
        exact ps_throw (T0 := pt_exT ci) (names := pt_tnames) (q := mu k) (cls := pt_clN ci) (ci := ci) (tx := tx') (own := "OfficeSheet") hx hb t0 t1 t2 t3 t4 (htr e had) (by rw [hexn]; intro x hx; cases hx) hlk hml hown0 hst.kn hmu rfl k4 k3 (by decide +kernel) (by decide) (pt_thr t7 t8 hts hst hvk) hfr hlo hrc hrs ha2
  | _ => cases ha
theorem pt_hcodes (z : Nat) (args : Array Value) (s : State) (mk : MethodId) (hz : z < 314) (hts : ∀ w ∈ pt_Ts, w.before args s = true) (hn : s.methodNamed? (pt_nm z) = some mk) : ∃ meth c, s.vm.method? mk = some meth ∧ meth.code = some c ∧ c.code = pt_bc z ∧ c.maxLocals = pt_ml z ∧ meth.sig.returnType = pt_rt z ∧ meth.locks = false ∧ pt_ex z c := by
  have hcd : pm_Cd s (pt_nm z) (pt_bc z) (pt_ml z) (pt_rt z) (pt_hw z) := by
    by_cases h0 : z = 0
    · subst h0
      exact pm_cd_of (hw := []) (hts _ pt_lw_in)
    · exact pt_cd hts hz h0
  obtain ⟨mk', meth, c, h1, h2, h3, h4, h5, h6, h7, h8, -⟩ := hcd
  cases hn.symm.trans h1
  exact ⟨meth, c, h2, h3, h4, h5, h7, h8, h6⟩
theorem pt_plain {z : Nat} (hz : z < 314) : plainFor (pt_nm z) = true := by
  by_cases h0 : z = 0
  · subst h0; decide +kernel
  · have hk := pt_ckC_all z hz h0
    simp only [pt_ckC, Bool.and_eq_true] at hk
    exact hk.2.2.2.2.1
theorem pt_ml45 {z : Nat} (hz : z < 314) : pt_ml z ≤ 45 := by
  by_cases h0 : z = 0
  · subst h0; decide
  · have hk := pt_ckC_all z hz h0
    simp only [pt_ckC, Bool.and_eq_true, decide_eq_true_eq] at hk
    exact hk.2.2.2.1
theorem pt_ini0 {z : Nat} (hz : z < 314) : Cond.initialized (pt_nm z).cls ∈ pt_Ts := by
  by_cases h0 : z = 0
  · subst h0; exact pt_w_in (i := 0) (by decide +kernel)
  · exact pt_ini hz h0
theorem pt_ckH_nil : ∀ (hw : List (Nat × Nat × Nat × Nat)), pt_ckH hw [] = true → hw = [] := by
  intro hw h
  cases hw with
  | nil => rfl
  | cons a r => cases h
theorem pt_hy {y : Nat} (hy : y < 314) : pt_ckH (pt_hw y) (pt_G u y).2 = true ∧ ((pt_G u y).2 = [] ∨ pt_ow y = 0) := by
  have h := pm_rng pt_kh y (Nat.zero_le _) (by omega)
  simp only [pt_ckHy, Bool.and_eq_true, Bool.or_eq_true, decide_eq_true_eq] at h
  rw [pt_G2 u y hy]
  exact h
def pt_hk (t : Nat) : Nat := match t with
  | 13 => 14
  | 15 => 15
  | 25 => 16
  | _ => 17
theorem pt_hkl {t : Nat} (ht : t = 13 ∨ t = 15 ∨ t = 25 ∨ t = 42) : pt_hc t = [pt_hk t] ∧ (14 ≤ pt_hk t ∧ pt_hk t < 18) ∧ t ≠ 0 ∧ Cond.classLink "OfficeSheetLaw" t (pt_clN (pt_hk t)) ∈ pt_Ts := by
  rcases ht with rfl | rfl | rfl | rfl
  · exact ⟨rfl, by decide, by decide, pt_w_in (i := 271) (by decide +kernel)⟩
  · exact ⟨rfl, by decide, by decide, pt_w_in (i := 272) (by decide +kernel)⟩
  · exact ⟨rfl, by decide, by decide, pt_w_in (i := 670) (by decide +kernel)⟩
  · exact ⟨rfl, by decide, by decide, pt_w_in (i := 1239) (by decide +kernel)⟩
theorem pt_exn_in {ci : Nat} (h : 14 ≤ ci ∧ ci < 18) : pt_clN ci ∈ pt_exn := by
  have : ci = 14 ∨ ci = 15 ∨ ci = 16 ∨ ci = 17 := by omega
  rcases this with rfl | rfl | rfl | rfl <;> decide +kernel
theorem pt_exn_ne {a b : Nat} (ha : 14 ≤ a ∧ a < 18) (hb : 14 ≤ b ∧ b < 18) (h : a ≠ b) : pt_clN a ≠ pt_clN b := by
  have h1 : a = 14 ∨ a = 15 ∨ a = 16 ∨ a = 17 := by omega
  have h2 : b = 14 ∨ b = 15 ∨ b = 16 ∨ b = 17 := by omega
  rcases h1 with rfl | rfl | rfl | rfl <;> rcases h2 with rfl | rfl | rfl | rfl <;> first | exact absurd rfl h | decide +kernel
theorem pt_hnd_ci {pc ci q : Nat} : ∀ (hw : List (Nat × Nat × Nat × Nat)) (hs : List (Nat × Nat × Nat × List Nat)), pt_ckH hw hs = true → pm_hnd hs pc ci = some q → 14 ≤ ci ∧ ci < 18 := by
  intro hw
  induction hw with
  | nil =>
    intro hs h hp
    cases hs with
    | nil => cases hp
    | cons a r => cases h
  | cons x hw ih =>
    intro hs h hp
    cases hs with
    | nil => cases h
    | cons z hs =>
      obtain ⟨a, b, c, t⟩ := x
      obtain ⟨a', b', c', cs⟩ := z
      simp only [pt_ckH, Bool.and_eq_true, decide_eq_true_eq] at h
      obtain ⟨⟨-, -, -, rfl, ht⟩, h2⟩ := h
      unfold pm_hnd at hp
      split at hp
      · next hh =>
        obtain ⟨k1, k2, -⟩ := pt_hkl ht
        have h3 := hh.2.2
        rw [k1] at h3
        have h4 : ci = pt_hk t := by simpa using h3
        rw [h4]; exact k2
      · exact ih hs h2 hp
theorem pt_hd_all {pl : Platform} {s : State} {own ci cls : Nat} : ∀ (es : List ExceptionTableEntry) (hw : List (Nat × Nat × Nat × Nat)) (hs : List (Nat × Nat × Nat × List Nat)), es.map (fun h => (h.startPc, h.endPc, h.handlerPc, h.catchType)) = hw → pt_ckH hw hs = true →
    (∀ t : Nat, (t = 13 ∨ t = 15 ∨ t = 25 ∨ t = 42) → t ≠ 0 ∧ ∃ k : ClassId, s.vm.ClassLinks pl own t k ∧ s.vm.assignable cls k = (pt_hc t).contains ci) → hd_all (hd_ok pl s own ci cls) es hs := by
  intro es
  induction es with
  | nil =>
    intro hw hs e h _
    subst e
    cases hs with
    | nil => trivial
    | cons a r => cases h
  | cons x es ih =>
    intro hw hs e h hk
    subst e
    cases hs with
    | nil => cases h
    | cons z hs =>
      obtain ⟨a', b', c', cs⟩ := z
      simp only [List.map_cons, pt_ckH, Bool.and_eq_true, decide_eq_true_eq] at h
      obtain ⟨⟨e1, e2, e3, rfl, ht⟩, h2⟩ := h
      obtain ⟨g1, g2⟩ := hk _ ht
      exact ⟨⟨e1, e2, e3, g1, g2⟩, ih _ hs rfl h2 hk⟩
theorem pt_hhnd (hmu : pm_mu mu 81 base) (y a ci pc : Nat) (zs : List Value) (h : pm_H) (p : Program) (e : Env) (R : Room) (s T : State) (m : MethodId) (args : Array Value) (below : List Frame) (meth : Method) (c : Code) (locs : List Loc) (cells slots : Nat) (g : JFrame) (hy : y < 314) (hF : pm_Fr pt_Ts (pt_St u D A mu base H00) pt_nm pt_bc pt_ml pt_rt pt_ex base y p s m args meth c)
    (ha : h.1[a]? = some (.inl (ci, zs))) (hrep : pm_rep D pt_cl (pt_tys A) mu 81 base H00 h T.heap) (X : Stand p l e R s m args below meth c T locs cells slots) (hg : g.method = m) (hp : pm_hnd (pt_G u y).2 g.pc ci = some pc) :
    ∃ vm', Stand p l e R s m args below meth c (T.setVm vm') locs cells slots ∧ ∀ target, Steps p.tables e below ((T.setVm vm').setTop { g with pc := pc, stack := [.ref (mu a)] }) target → Steps p.tables e below ((T.setTop g).pushFrame (.throwing (mu a))) target := by
  obtain ⟨hx, hb, hown0, hts, hml, hname, hret, hlk, hex, hst, hns0⟩ := hF
  obtain ⟨hck, hor⟩ := pt_hy (u := u) hy
  rcases hor with hor | hor
  · rw [hor] at hp; cases hp
  have hci := pt_hnd_ci _ _ hck hp
  obtain ⟨r, cell, q1, -, q3, q4, -, q6, -, -⟩ := hrep.1 a _ ha
  simp only at q1 q4
  obtain ⟨-, hfc, kC, hkC, -⟩ := hst.kn.1 ci _ q1
  have hr1 : pt_clN ci = r.1 := by rw [pt_clN, q1]; rfl
  have hown : s.vm.findClass "OfficeSheetLaw" = some m.cls := by
    have := hown0
    rw [pt_hon hy, hor] at this
    exact this
  have hpl : e.platform.magicAccessors = ({} : Platform).magicAccessors := by rw [X.admits.platform]
  refine hd_caught X hg q3 q6 ⟨kC, by rw [q4]; exact hkC⟩ (pt_hd_all _ _ _ hex hck (fun t ht => ?_)) hp
  obtain ⟨k1, k2, k3, k4⟩ := pt_hkl ht
  obtain ⟨k, hk, hl⟩ := Cond.classLink_spec hown (hts _ k4) e.platform hpl
  refine ⟨k3, k, hl, ?_⟩
  rw [k1, q4]
  by_cases hcc : ci = pt_hk t
  · have h1 : ([pt_hk t] : List Nat).contains ci = true := by rw [hcc]; simp
    rw [h1]
    exact pm_asgs hst.nw hst.kn q1 hk (Or.inl (by rw [← hcc]; exact hr1))
  · have h1 : ([pt_hk t] : List Nat).contains ci = false := by simp [hcc]
    rw [h1]
    obtain ⟨c1, t1, f1, f2, f3⟩ := hst.nc _ (pt_exn_in hci) _ (pt_exn_in k2) (pt_exn_ne hci k2 hcc)
    rw [hr1] at f1
    cases hfc.symm.trans f1
    cases hk.symm.trans f2
    exact f3
/-- a run of the pure machine with our tables is a run of the model -/
theorem pt_main (hu : u = .null ∨ u = .ref 80) (hmu : pm_mu mu 81 base) (htr : ∀ e : Env, l.admits e → e.platform.stackTraces = false) (n y d : Nat) (F : pm_F) (h : pm_H) (r : pm_O) (h1 : pm_H) (hy : y < 314) (hrun : pm_run (81, pt_asg) (pt_G u) n d (pt_G u y) F h = some (r, h1)) :
    h.1.length ≤ h1.1.length ∧ h.2 ≤ h1.2 ∧ ∀ (p : Program) (e : Env) (R : Room) (s : State) (m : MethodId) (args : Array Value) (below : List Frame) (meth : Method) (c : Code) (n0 s0 : Nat), l.admits e → pm_Fr pt_Ts (pt_St u D A mu base H00) pt_nm pt_bc pt_ml pt_rt pt_ex base y p s m args meth c → n0 ≤ h.1.length → s0 ≤ h.2 → d + 8 ≤ R.frames → (d + 8) * 64 ≤ R.locals → h1.1.length - n0 ≤ R.cells → h1.2 - s0 ≤ R.slots →
      pm_X p l e R s m args below meth c (pt_ml y) D pt_cl (pt_tys A) mu 81 base H00 n0 s0 (pm_Q below args s (pm_Qx D pt_cl (pt_tys A) mu 81 base H00 r n0 s0 h1)) F h := by
  have hrow : ∀ {y pc len : Nat} {i : Instr} {vs : List Value} {ns : List Nat}, y < 314 → (pc, i, len, vs, ns) ∈ (pt_G u y).1 → pt_chk u y (pt_ow y) (pt_inb y) (pt_ml y) (pt_rt y) (pc, i, len, vs, ns) = true := by
    intro y pc len i vs ns hy hr
    exact List.all_eq_true.mp (pt_ckX_all hu hy) _ hr
  refine pm_main (ok := fun y => y < 314) (Ts := pt_Ts) (St := pt_St u D A mu base H00) (nm := pt_nm) (bc := pt_bc) (ml := pt_ml) (rt := pt_rt) (ex := pt_ex) (G := pt_G u) (asg := pt_asg) hmu pt_good pt_St.warm pt_hcodes (fun z hz => pt_plain hz) (fun z hz => pt_ini0 hz) (fun z hz => pt_ml45 hz)
    (fun y pc i len vs ns hy hr => pt_hlen u hy hr)
    (fun y F F' h h' i len vs ns hy hr ha => pt_hact hmu (hrow hy hr) (pt_hlen u hy hr) (pt_hon hy) ha)
    (fun y F h r h1 i len vs ns hy hr ha => pt_hend hmu htr (hrow hy hr) (pt_hlen u hy hr) ha)
    (fun y F h z as rest i len vs ns hy hr hc => ?_) (fun y c hy hex he => ?_) (pt_hhnd hmu) n y d F h r h1 hy hrun
  · -- calls
    have hck := hrow hy hr
    have hd := pt_hlen u hy hr
    have key : ∃ q ∈ pt_ME, q.1 = pt_ow y ∧ q.2.2.1 = ns ∧ pt_ki q.2.2.2.1 q.2.1 = i ∧ len = 3 := by
      have hinv : pm_inv i = true := by
        by_cases hv : pm_inv i = true
        · exact hv
        · simp [pm_call, hv] at hc
      have hnil : ∀ k, ns = [k] → False := by
        intro k e
        rw [e] at hc
        simp only [pm_call, hinv] at hc
        match k with
        | 0 => simp at hc
        | 1 => simp at hc
        | 2 => simp at hc
        | k + 3 => simp at hc
      cases i with
      | invokestatic idx =>
        simp only [pt_chk, Bool.and_eq_true, Bool.or_eq_true, decide_eq_true_eq] at hck
        obtain ⟨h3, ⟨⟨e1, -⟩, -⟩ | hk⟩ := hck
        · exact (hnil _ e1).elim
        · obtain ⟨q, hm, e1, e2, e3, e4⟩ := pt_hasM_in hk
          exact ⟨q, hm, e1, e3, e4, h3⟩
      | invokespecial idx =>
        simp only [pt_chk, Bool.and_eq_true, Bool.or_eq_true, decide_eq_true_eq] at hck
        obtain ⟨h3, ⟨⟨e1, -⟩, -⟩ | hk⟩ := hck
        · exact (hnil _ e1).elim
        · obtain ⟨q, hm, e1, e2, e3, e4⟩ := pt_hasM_in hk
          exact ⟨q, hm, e1, e3, e4, h3⟩
      | invokevirtual idx =>
        simp only [pt_chk, Bool.and_eq_true, Bool.or_eq_true, decide_eq_true_eq] at hck
        obtain ⟨h3, ⟨⟨e1, -⟩, -⟩ | ⟨⟨e1, -⟩, -⟩ | hk⟩ := hck
        · exact (hnil _ e1).elim
        · exact (hnil _ e1).elim
        · obtain ⟨q, hm, e1, e2, e3, e4⟩ := pt_hasM_in hk
          exact ⟨q, hm, e1, e3, e4, h3⟩
      | _ => cases hinv
    obtain ⟨q, hm, e1, e2, e3, e4⟩ := key
    subst e2; subst e3; subst e4
    obtain ⟨k1, k2, k3, k4⟩ := pt_hent (l := l) (D := D) (A := A) (mu := mu) (K := 81) (base := base) (H00 := H00) (List.all_eq_true.mp pt_ckM_all q hm) hc
    refine ⟨k1.1, k2, k3, fun p e R s m args below meth c H locs cells slots ls hF hR => ?_⟩
    obtain ⟨hx, hb, hown0, hts, hml, hname, hret, hlk, hex, hst, hns0⟩ := hF
    refine k4 p e R s m args below meth c H locs cells slots ls hx ?_ hts hst.nw hst.kn ?_ hR
    · rw [e1, ← pt_hon hy]; exact hown0
    · rw [hb]; exact hd
  · -- no handlers
    have h2 := (pt_hy (u := u) hy).1
    rw [he] at h2
    have h3 := pt_ckH_nil _ h2
    have h0 : c.exceptionTable.toList.map (fun h => (h.startPc, h.endPc, h.handlerPc, h.catchType)) = pt_hw y := hex
    rw [h3] at h0
    exact List.map_eq_nil_iff.mp h0
end MAIN2
