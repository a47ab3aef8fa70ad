/-! every row that the check lets pass is a step of the model -/
theorem pm_smp_h {P : Nat × List (Nat × Nat)} {i : Instr} {n : Nat} {vs : List Value} {ns : List Nat} {F F' : pm_F} {h h' : pm_H} (hs : pm_smp i = true) (ha : pm_act P i n vs ns F h = some (F', h')) : h' = h := by
  unfold pm_act at ha
  split at ha
  all_goals (first | (cases hs; done) | skip)
  all_goals (try (simp only [Option.bind_eq_some_iff, Option.map_eq_some_iff] at ha))
  all_goals (repeat' (first | (obtain ⟨_, _, ha⟩ := ha) | split at ha | (simp only [Option.bind_eq_some_iff, Option.map_eq_some_iff] at ha)))
  all_goals (first | rfl | (cases ha; rfl) | (cases ha; done))
theorem pm_sw_h {P : Nat × List (Nat × Nat)} {i : Instr} {n : Nat} {vs : List Value} {ns : List Nat} {F F' : pm_F} {h h' : pm_H} (hs : (∃ a b c d, i = .tableswitch a b c d) ∨ ∃ a b, i = .lookupswitch a b) (ha : pm_act P i n vs ns F h = some (F', h')) : h' = h := by
  rcases hs with ⟨_, _, _, _, rfl⟩ | ⟨_, _, rfl⟩
  all_goals (simp only [pm_act] at ha; split at ha)
  all_goals (first | (cases ha; done) | (simp only [Option.map_eq_some_iff] at ha; obtain ⟨_, _, ha⟩ := ha; cases ha; rfl))
theorem pt_chk_smp {u : Value} {y o nL pc len : Nat} {ini : Bool} {rt : Option FieldType} {i : Instr} {vs : List Value} {ns : List Nat} (hs : pm_smp i = true) (h : pt_chk u y o ini nL rt (pc, i, len, vs, ns) = true) : pm_okB nL pc i len vs ns = true := by
  cases i <;> first | (cases hs; done) | (simp only [pt_chk, Bool.and_eq_true] at h; exact h.2)
def pt_ex (y : Nat) (c : Code) : Prop := c.exceptionTable.toList.map (fun h => (h.startPc, h.endPc, h.handlerPc, h.catchType)) = pt_hw y
section HACT
variable {l : Launch} {D : pm_D} {A : Nat → ClassId} {mu : Nat → Nat} {base : Nat} {H00 : Heap} {u : Value}
set_option maxHeartbeats 1000000 in
theorem pt_hact (hmu : pm_mu mu 81 base) {y : Nat} {F F' : pm_F} {h h' : pm_H} {i : Instr} {len : Nat} {vs : List Value} {ns : List Nat} (hck : pt_chk u y (pt_ow y) (pt_inb y) (pt_ml y) (pt_rt y) (F.1, i, len, vs, ns) = true) (hdec : decode (pt_bc y) F.1 = .ok (i, len)) (hon : (pt_nm y).cls = pt_own.getD (pt_ow y) "") (ha : pm_act (81, pt_asg) i len vs ns F h = some (F', h')) :
    h.1.length ≤ h'.1.length ∧ h.2 ≤ h'.2 ∧ ∀ (p : Program) (e : Env) (R : Room) (s : State) (m : MethodId) (args : Array Value) (below : List Frame) (meth : Method) (c : Code) (n0 s0 : Nat) (Q : State → Prop), l.admits e → pm_Fr pt_Ts (pt_St u D A mu base H00) pt_nm pt_bc pt_ml pt_rt pt_ex base y p s m args meth c →
      8 ≤ R.frames → 512 ≤ R.locals → h'.1.length - n0 ≤ R.cells → h'.2 - s0 ≤ R.slots → pm_X p l e R s m args below meth c (pt_ml y) D pt_cl (pt_tys A) mu 81 base H00 n0 s0 Q F' h' → pm_X p l e R s m args below meth c (pt_ml y) D pt_cl (pt_tys A) mu 81 base H00 n0 s0 Q F h := by
  obtain ⟨l1, l2⟩ := pm_act_le ha
  refine ⟨l1, l2, fun p e R s m args below meth c n0 s0 Q had hF hfr hlo hrc hrs kk => ?_⟩
  obtain ⟨hx, hb, hown0, hts, hml, hname, hret, hlk, hex, hst, hns0⟩ := hF
  have hown : s.vm.findClass (pt_own.getD (pt_ow y) "") = some m.cls := by rw [← hon]; exact hown0
  by_cases hsm : pm_smp i = true
  · have hok := pt_chk_smp hsm hck
    have hh := pm_smp_h hsm ha
    subst hh
    intro hn hs' H locs hR hL
    exact (pm_smpS hmu.1 hsm hx hb hdec hok ha (kk hn hs' H locs hR hL)).2
  cases i with
  | getfield idx =>
    simp only [pt_chk, Bool.and_eq_true, Bool.or_eq_true, decide_eq_true_eq] at hck
    obtain ⟨hl3, hck | ⟨ho, rfl, rfl⟩ | ⟨ho, rfl, rfl⟩⟩ := hck
    · exact ps_getfield hx hb hdec hl3 hts hown (pt_FE_ok _ (pt_hasE_in hck)) hst.nw hst.kn ha kk
    · rw [ho] at hown
      refine ps_getfieldE (C := "java/lang/Enum") (n := "ordinal") (d := "I") hx hb hdec hl3 hown (Or.inl (hts _ pt_e1)) (fun ci k hk => ?_) ha kk
      unfold pm_slot at hk
      split at hk
      · next e => subst e; cases hk; exact hst.e1
      · unfold pm_slot at hk
        split at hk
        · next e => subst e; cases hk; exact hst.e2
        · unfold pm_slot at hk; cases hk
    · rw [ho] at hown
      refine ps_getfieldE (C := "OfficeSheet$PartKind") (n := "sign") (d := "Ljava/lang/String;") hx hb hdec hl3 hown (Or.inr ⟨_, va_Nw.use rfl (hst.nw _ pt_e2)⟩) (fun ci k hk => ?_) ha kk
      unfold pm_slot at hk
      split at hk
      · next e => subst e; cases hk; exact hst.e3
      · unfold pm_slot at hk; cases hk
  | putfield idx =>
    simp only [pt_chk, Bool.and_eq_true, Bool.or_eq_true, decide_eq_true_eq] at hck
    obtain ⟨hl3, hck⟩ := hck
    have key : ∃ fin : Bool, (pt_ow y, idx, ns, fin) ∈ pt_PE ∧ (fin = true → meth.name = "<init>") := by
      rcases hck with hck | ⟨hi, hck⟩
      · exact ⟨false, pt_hasE_in hck, fun z => by cases z⟩
      · exact ⟨true, pt_hasE_in hck, fun _ => by rw [hname]; exact of_decide_eq_true hi⟩
    obtain ⟨fin, hm, hfin⟩ := key
    obtain ⟨k1, k2, k3⟩ := pt_PE_ok _ hm
    exact ps_putfield hx hb hdec hl3 hts hown k1 hst.nw hst.kn hmu pt_okC k2 (fun ci k r a1 a2 a3 => ⟨hfin (k3 ci k r a1 a2 a3).1, (k3 ci k r a1 a2 a3).2⟩) ha kk
  | new idx =>
    simp only [pt_chk, Bool.and_eq_true, Bool.or_eq_true, decide_eq_true_eq] at hck
    obtain ⟨hl3, hck | hck⟩ := hck
    · obtain ⟨ci, sl, r, e1, e2, e3, e4, e5, e6⟩ := pt_NE_ok _ (pt_hasE_in hck)
      exact ps_new hx hb hdec hl3 hts hown hst.kn hmu pt_okC e1 e2 e3 e4 e5 e6 ha hrc hrs kk
    · obtain ⟨q, -, hq⟩ := List.any_eq_true.mp hck
      simp only [Bool.and_eq_true, decide_eq_true_eq] at hq
      obtain ⟨-, -, -, rfl⟩ := hq
      cases ha
  | newarray t =>
    simp only [pt_chk, Bool.and_eq_true, decide_eq_true_eq] at hck
    obtain ⟨hl2, hck⟩ := hck
    cases t with
    | int => obtain ⟨rfl, rfl⟩ := of_decide_eq_true hck; exact ps_newarray (t := 0) (q := (A 0, .int)) hx hb hdec hl2 hts hst.kn hmu rfl rfl rfl rfl pt_ar0 ha hrc hrs kk
    | long => obtain ⟨rfl, rfl⟩ := of_decide_eq_true hck; exact ps_newarray (t := 1) (q := (A 1, .long)) hx hb hdec hl2 hts hst.kn hmu rfl rfl rfl rfl pt_ar1 ha hrc hrs kk
    | boolean => obtain ⟨rfl, rfl⟩ := of_decide_eq_true hck; exact ps_newarray (t := 3) (q := (A 3, .boolean)) hx hb hdec hl2 hts hst.kn hmu rfl rfl rfl rfl pt_ar3 ha hrc hrs kk
    | byte => obtain ⟨rfl, rfl⟩ := of_decide_eq_true hck; exact ps_newarray (t := 4) (q := (A 4, .byte)) hx hb hdec hl2 hts hst.kn hmu rfl rfl rfl rfl pt_ar4 ha hrc hrs kk
    | _ => cases hck
  | anewarray idx =>
    simp only [pt_chk, Bool.and_eq_true, decide_eq_true_eq] at hck
    obtain ⟨⟨hl3, hv⟩, hck⟩ := hck
    obtain ⟨t, e1, e2, e3, e4⟩ := pt_OE_ok _ (pt_hasE_in hck)
    have htn : pt_tys A t = some (A t, .object (pt_tn t)) ∧ pt_tn t ∈ pt_aos := by
      have : t = 10 ∨ t = 11 ∨ t = 12 ∨ t = 13 := by omega
      rcases this with rfl | rfl | rfl | rfl <;> exact ⟨rfl, by decide⟩
    exact ps_anewarray hx hb hdec hl3 hts hown hst.kn hmu e1 htn.1 rfl hv e4 (va_AO.use (hst.ao _ htn.2)) ha hrc hrs kk
  | arraylength => exact ps_arraylength hx hb hdec (of_decide_eq_true hck) hst.kn ha kk
  | iaload => exact ps_iaload hx hb hdec (of_decide_eq_true hck) hst.kn (pt_tyk A) ha kk
  | laload => exact ps_laload hx hb hdec (of_decide_eq_true hck) hst.kn (pt_tyk A) ha kk
  | baload => exact ps_baload hx hb hdec (of_decide_eq_true hck) hst.kn (pt_tyk A) ha kk
  | caload => exact ps_caload hx hb hdec (of_decide_eq_true hck) hst.kn (pt_tyk A) ha kk
  | saload => exact ps_saload hx hb hdec (of_decide_eq_true hck) hst.kn (pt_tyk A) ha kk
  | aaload => exact ps_aaload hx hb hdec (of_decide_eq_true hck) hst.kn (pt_tyk A) ha kk
  | iastore => exact ps_iastore hx hb hdec (of_decide_eq_true hck) hst.kn (pt_tyk A) hmu ha kk
  | lastore => exact ps_lastore hx hb hdec (of_decide_eq_true hck) hst.kn (pt_tyk A) hmu ha kk
  | bastore => exact ps_bastore hx hb hdec (of_decide_eq_true hck) hst.kn (pt_tyk A) hmu ha kk
  | castore => exact ps_castore hx hb hdec (of_decide_eq_true hck) hst.kn (pt_tyk A) hmu ha kk
  | sastore => exact ps_sastore hx hb hdec (of_decide_eq_true hck) hst.kn (pt_tyk A) hmu ha kk
  | aastore => exact ps_aastore hx hb hdec (of_decide_eq_true hck) hst.kn hmu hst.nw (pt_tnk A) pt_okA ha kk
  | checkcast idx =>
    simp only [pt_chk, Bool.and_eq_true, decide_eq_true_eq] at hck
    obtain ⟨hl3, hck⟩ := hck
    obtain ⟨nm, e1, e2, e3⟩ := pt_CE_ok _ (pt_hasE_in hck)
    obtain ⟨cT, hcT, -⟩ := Cond.classLink_spec hown (hts _ e1) {} rfl
    exact ps_checkcast hx hb hdec hl3 hts hown hst.kn hst.nw e1 ⟨cT, hcT⟩ e2 (e3 A) ha kk
  | ldc idx =>
    simp only [pt_chk, Bool.and_eq_true, Bool.or_eq_true, decide_eq_true_eq] at hck
    obtain ⟨hl2, hck | hck | ⟨hck, hv⟩⟩ := hck
    · obtain ⟨v, e1, e2⟩ := pt_LE_ok _ (pt_hasE_in hck)
      exact ps_ldc hx hb hdec hl2 hts hown e1 e2 ha kk
    · obtain ⟨⟨o, i', tx, k⟩, hm, hq⟩ := List.any_eq_true.mp hck
      simp only [Bool.and_eq_true, beq_iff_eq, decide_eq_true_eq] at hq
      obtain ⟨rfl, rfl, hv⟩ := hq
      have hse := hst.se _ hm
      exact ps_ldcS hx hb hdec hl2 hown hv hse ha kk
    · obtain ⟨j, hm⟩ := pt_hasI_in hck
      have hw := hts _ (pt_w_in (List.all_eq_true.mp pt_kMR _ hm))
      exact ps_ldcM hx hb hdec hl2 hown hv hw hst.mi ha kk
  | ldc_w idx =>
    simp only [pt_chk, Bool.and_eq_true, decide_eq_true_eq] at hck
    obtain ⟨hl3, hck⟩ := hck
    obtain ⟨v, e1, e2⟩ := pt_LE_ok _ (pt_hasE_in hck)
    exact ps_ldc_w hx hb hdec hl3 hts hown e1 e2 ha kk
  | ldc2_w idx =>
    simp only [pt_chk, Bool.and_eq_true, decide_eq_true_eq] at hck
    obtain ⟨hl3, hck⟩ := hck
    obtain ⟨v, e1, e2⟩ := pt_L2_ok _ (pt_hasE_in hck)
    exact ps_ldc2 hx hb hdec hl3 hts hown e1 e2 ha kk
  | getstatic idx =>
    simp only [pt_chk, Bool.and_eq_true, decide_eq_true_eq] at hck
    obtain ⟨hl3, hck⟩ := hck
    obtain ⟨⟨o, i', j, k⟩, hm, hq⟩ := List.any_eq_true.mp hck
    simp only [Bool.and_eq_true, beq_iff_eq, decide_eq_true_eq] at hq
    obtain ⟨rfl, rfl, hv⟩ := hq
    have hg := List.all_eq_true.mp pt_kG _ hm
    simp only [pt_ckG, Bool.and_eq_true, decide_eq_true_eq] at hg
    have hlt : k < (pt_SK u).length := hg.1
    have hmem : (pt_SK u).getD k pt_skd ∈ pt_SK u := by
      rw [List.getD_eq_getElem?_getD, List.getElem?_eq_getElem hlt]
      exact List.getElem_mem hlt
    have hsame : ((pt_SK .null).getD k pt_skd).1 = ((pt_SK u).getD k pt_skd).1 ∧ ((pt_SK .null).getD k pt_skd).2.1 = ((pt_SK u).getD k pt_skd).2.1 ∧ ((pt_SK .null).getD k pt_skd).2.2.1 = ((pt_SK u).getD k pt_skd).2.2.1 := pt_skn u k
    have hlink := hts _ (pt_w_in hg.2)
    rw [hsame.1, hsame.2.1, hsame.2.2] at hlink
    have hsk := hst.sk _ hmem
    exact ps_getstatic hx hb hdec hl3 hown hv hsk hlink (fun x hx => hx) ha kk
  | invokestatic idx =>
    simp only [pt_chk, Bool.and_eq_true, Bool.or_eq_true, decide_eq_true_eq] at hck
    obtain ⟨hl3, ⟨⟨e1, e2⟩, hck⟩ | hck⟩ := hck
    · obtain ⟨j, hm⟩ := pt_hasI_in hck
      have hw := pt_w_in (List.all_eq_true.mp pt_kAC _ hm)
      exact ps_arraycopy hx hb hdec hl3 hts hown hml hst.kn hmu hst.nw (pt_tyk A) (pt_tys2 A) (pt_tnk A) pt_okA e1 e2 hw pt_a2 pt_a3 pt_a4 hfr hlo ha kk
    · exact absurd ha (pt_noact (pt_hasM_in hck))
  | invokespecial idx =>
    simp only [pt_chk, Bool.and_eq_true, Bool.or_eq_true, decide_eq_true_eq] at hck
    obtain ⟨hl3, ⟨⟨e1, e2⟩, hck⟩ | hck⟩ := hck
    · obtain ⟨j, hm⟩ := pt_hasI_in hck
      have hw := pt_w_in (List.all_eq_true.mp pt_kOI _ hm)
      exact ps_objInit hx hb hdec hl3 hts hown hml e1 e2 hw pt_o2 pt_o3 hfr hlo ha kk
    · exact absurd ha (pt_noact (pt_hasM_in hck))
  | invokevirtual idx =>
    simp only [pt_chk, Bool.and_eq_true, Bool.or_eq_true, decide_eq_true_eq] at hck
    obtain ⟨hl3, ⟨⟨e1, e2⟩, hck⟩ | ⟨⟨e1, e2⟩, hck⟩ | hck⟩ := hck
    · obtain ⟨j, hm⟩ := pt_hasI_in hck
      have hw := pt_w_in (List.all_eq_true.mp pt_kCN _ hm)
      exact ps_clone hx hb hdec hl3 hts hown hml hst.kn hmu hst.nw (pt_tyk A) e1 e2 hw pt_c2 pt_c3 pt_c4 pt_c5 pt_c6 hfr hlo ha hrc hrs kk
    · obtain ⟨j, hm⟩ := pt_hasI_in hck
      have hw := hts _ (pt_w_in (List.all_eq_true.mp pt_kGC _ hm))
      exact ps_getC (q := (A 13, .object "java/lang/Object")) hx hb hdec hl3 hown hml e1 e2 hst.kn rfl rfl hw (va_Nw.use rfl (hst.nw _ pt_gc2)) (hts _ pt_gc3) (hts _ pt_gc4) (hts _ pt_gc5) hst.mi hfr hlo ha kk
    · exact absurd ha (pt_noact (pt_hasM_in hck))
  | tableswitch dd lo hi os =>
    simp only [pt_chk, Bool.and_eq_true, decide_eq_true_eq] at hck
    have hh := pm_sw_h (Or.inl ⟨_, _, _, _, rfl⟩) ha
    subst hh
    intro hn hs' H locs hR hL
    exact (ps_table hx hb hdec hck.1 hck.2 ha (kk hn hs' H locs hR hL)).2
  | lookupswitch dd ps =>
    simp only [pt_chk, Bool.and_eq_true] at hck
    have hh := pm_sw_h (Or.inr ⟨_, _, rfl⟩) ha
    subst hh
    intro hn hs' H locs hR hL
    exact (ps_lookup hx hb hdec hck.1 hck.2 ha (kk hn hs' H locs hR hL)).2
  | return_ => cases ha
  | ireturn => cases ha
  | lreturn => cases ha
  | areturn => cases ha
  | _ => first | exact absurd rfl hsm | (exact absurd hck (by simp [pt_chk, pm_smp])) | cases ha
end HACT
