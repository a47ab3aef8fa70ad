/-! THE LAW: the claim out of a run of the pure machine (the frame of this text began as the kit's skeleton of a law) -/
/-- what is to be shown of the pure machine -/
def pt_Pure (N : Nat) : Prop := ∀ xs : List Int32, xs.length ≤ N → ∀ u : Value, (u = .null ∨ u = .ref 80) → ∃ (n d : Nat) (h1 : pm_H), d ≤ 1300 ∧ pm_run (81, pt_asg) (pt_G u) n d (pt_G u 0) (0, [(0, .ref 0)], []) (pt_K xs, 0) = some (.inl (some (.int 1)), h1) ∧ h1.1.length ≤ 600002 + 81 ∧ h1.2 ≤ 7302232
theorem pm_sbn {s t : State} {L : List Loc} {a b a' b' : Nat} (h : s.sameButNew t L a b) (hL : ∀ q ∈ L, s.heap.size ≤ q.base) (ha : a ≤ a') (hb : b ≤ b') : s.sameButNew t [] a' b' := by
  obtain ⟨h1, h2, h3, h4, h5, h6⟩ := h
  refine ⟨h1, h2, by omega, h4, by omega, fun q c hq => ?_⟩
  obtain ⟨c', k1, k2, k3, k4⟩ := h6 q c hq
  refine ⟨c', k1, k2, k3, fun i _ => k4 i (fun hm => ?_)⟩
  have h7 : s.heap.size ≤ q := hL _ hm
  have hlt : q < s.heap.size := (Array.getElem?_eq_some_iff.mp hq).1
  exact absurd hlt (Nat.not_lt.mpr h7)
def lw_P (b : Addr) (xs : List Int32) (args : Array Value) (s : State) : Prop := args = #[.ref b] ∧ s.IntsAt b xs ∧ xs.length ≤ 5 ∧ (Jvm.Cond.and given_1 narrow_1).before args s = true
def lw_Q (_ : Array Value) (s : State) (o : Outcome) (t : State) : Prop := o = .returned (some (.int 1)) ∧ Framed s o t [] 600002 7302232
theorem pt_TsOf {args : Array Value} {s : State} (h : ∀ c ∈ (Jvm.Cond.code x code maxLocals ret :: tables_1), c.before args s = true) : ∀ w ∈ pt_Ts, w.before args s = true := by
  intro w hw
  rcases List.mem_append.mp hw with hw | hw
  · exact h w (List.mem_cons_of_mem _ (List.mem_filter.mp hw).1)
  · have e : w = pt_lw := List.mem_singleton.mp hw
    rw [e]
    exact h _ List.mem_cons_self
set_option maxHeartbeats 4000000 in
theorem lw_walk (hpure : pt_Pure 5) (l : Launch) (hfl : l.flags = flags0) (b : Addr) (xs : List Int32) : MetFree l x (headSpec (Jvm.Cond.code x code maxLocals ret :: tables_1) room_1) (lw_P b xs) (fun _ _ _ _ _ => True) lw_Q := by
  refine MetFree.of_bodyS (code := code) (maxLocals := maxLocals) (ret := ret) (by decide) ?_ ?_
  · intro args s m h hn
    obtain ⟨meth, c, h1, h2, h3, h4, h5, h6, -, -⟩ := Cond.code_spec hn (atoms_spec (ws := Jvm.Cond.code x code maxLocals ret :: tables_1) h _ List.mem_cons_self)
    exact ⟨meth, c, h1, h2, h3, h4, h5, h6⟩
  · intro p e s m args below meth c s₁ B hml0 hP _
    obtain ⟨hargs, hx, hbd, hgv⟩ := hP
    have hts0 : ∀ c ∈ (Jvm.Cond.code x code maxLocals ret :: tables_1), c.before args s = true := atoms_spec (ws := Jvm.Cond.code x code maxLocals ret :: tables_1) B.pre
    have hts : ∀ w ∈ tables_1, w.before args s = true := fun w hw => hts0 w (List.mem_cons_of_mem _ hw)
    have hTs := pt_TsOf hts0
    have X := Stand.of_body B
    have hh0 : s₁.heap = s.heap := by rw [B.state]; rfl
    obtain ⟨n, d, h1, hd, hrun, hc1, hc2⟩ := hpure xs hbd (pt_u args s) pt_uOK
    obtain ⟨-, -, hm⟩ := pt_main (l := l) (D := pt_D s) (A := pt_A s) (mu := pt_mu args s) (base := s.heap.size) (H00 := s.heap) (u := pt_u args s) pt_uOK (pt_muOK hgv hargs hx) (fun e had => Launch.traces_off hfl had) n 0 d _ _ _ _ (by decide) hrun
    obtain ⟨meth', c', g1, g2, g3, g4, g5, g6, g7⟩ := pt_hcodes 0 args s m (by decide) hTs B.named
    cases B.method.symm.trans g1
    cases X.code.symm.trans g2
    have hF : pm_Fr pt_Ts (pt_St (pt_u args s) (pt_D s) (pt_A s) (pt_mu args s) s.heap.size s.heap) pt_nm pt_bc pt_ml pt_rt pt_ex s.heap.size 0 p s m args meth c := ⟨B.exec, B.bytes, findClass_of_methodNamed B.named, hTs, g4, (name_of_methodNamed B.named B.method).1, g5, g6, g7, pt_StOK hgv hts hTs, fun q cell hq hc => absurd (Array.getElem?_eq_some_iff.mp hc).1 (Nat.not_lt.mpr hq)⟩
    have hb := hm p e room_1 s m args below meth c 81 0 B.admits hF (by rw [pt_Kl]; exact Nat.le_refl _) (Nat.le_refl _) (show d + 8 ≤ 2048 by omega) (show (d + 8) * 64 ≤ 84000 by omega) (show h1.1.length - 81 ≤ 600002 by omega) (show h1.2 - 0 ≤ 7302232 by omega) (by rw [pt_Kl]; exact Nat.le_refl _) (Nat.le_refl _) s.heap [] (pt_repK hgv hargs hx) (fun q hq => by cases hq)
    have hmu0 : pt_mu args s 0 = b := by
      subst hargs
      exact pt_mu_of (by decide) rfl
    have hl := lv_entry [Value.ref b] (n := 7) (show 1 ≤ 7 by decide)
    have hw := hb (argsToLocals args maxLocals) (by
      subst hargs
      show lv_has _ _ [(0, Value.ref (pt_mu _ s 0))]
      rw [hmu0]
      exact hl)
    simp only [pt_Kl, Nat.sub_self] at hw
    obtain ⟨t, a1, o, b1, b2, b3, -, b5, L, b6, b7⟩ := hw s₁ hh0 X
    refine ⟨t, o, a1, b1, b2, b3, ⟨_, b3⟩, b5, pm_sbn b6 b7 (by omega) (by omega)⟩
theorem lw_pre_spec {args : Array Value} {s : State} (h : (Jvm.Cond.and given_1 narrow_1).before args s = true) (hr : rest_1_c.before args s = true) : ∃ (b : Addr) (xs : List Int32), lw_P b xs args s := by
  have hs := flat_of_before _ h
  have hq := flat_of_before _ hr
  have hc : (Cond.count 1).before args s = true := hs _ (by decide +kernel)
  have harr : (Cond.arrayOf (.arg 0) .int).before args s = true := hs _ (by decide +kernel)
  have hle : (Cond.le (.length (.arg 0)) (.int 5)).before args s = true := hs _ (by decide +kernel)
  have hlen : (Cond.isInt (.length (.arg 0))).before args s = true := hq _ (by decide +kernel)
  have hall : (Cond.all (.arg 0) (.isInt (.elem (.arg 0) (.index 0)))).before args s = true := hq _ (by decide +kernel)
  obtain ⟨b, xs, hb, hx⟩ := State.ints_of_pre rfl harr hlen hall
  have hsm : xs.length < 2 ^ 31 := hx.choose_spec.2.2.2
  have hev : (Term.length (.arg 0)).eval args s none [] s = some (.int xs.length.toInt32) := hx.length_eval hb
  have hv := Cond.le_ints hev (show (Term.int 5).eval args s none [] s = some (.int 5) from rfl)
  have hd : xs.length.toInt32 ≤ 5 := by
    simpa [Cond.before, Cond.holds, hv] using hle
  have hN : xs.length ≤ 5 := (Int32.ofNat_le_ofNat hsm (by decide)).mp (show Int32.ofNat xs.length ≤ Int32.ofNat 5 from hd)
  exact ⟨b, xs, Cond.one_arg hc (show args[0]? = some (.ref b) from hb), hx, hN, h⟩
theorem lw_comes (hpure : pt_Pure 5) (l : Launch) (hfl : l.flags = flags0) : Comes l x (Jvm.Cond.code x code maxLocals ret :: tables_1) room_1 (fun tb e args s => Calls_1 tb e args s ∧ rest_1 tb e args s ∧ Pre_1 tb e args s)
    (fun _ _ args s o t => lw_Q args s o t) := by
  intro p e ha hc hk s m args below hf hfit hheap happ hpre
  obtain ⟨b, xs, hP⟩ := lw_pre_spec hpre.2.2 hpre.2.1
  obtain ⟨k, o, h1, h2, h3, hQ⟩ := lw_walk hpure l hfl b xs p e ha hc hk s m args below hf ((Spec.applies_iff_loose hf).mp happ).1 hP trivial
  exact ⟨k, o, h1, h2, h3, hQ⟩
theorem lw_frame {s t : State} {o : Outcome} {args : Array Value} (h : Framed s o t [] 600002 7302232) :
    Framed s o t (fieldLocs frame_1_writes args s ++ arrayLocs frame_1_arrays args s ++ staticLocs frame_1_statics s) 600002 7302232 := h
theorem lw_limb (hpure : pt_Pure 5) (L : Cond) (hL : ∀ (args : Array Value) (s t : State), L.after args s (.returned (some (.int 1))) t = true) :
    ArmFor flags0 classFile x code maxLocals ret World_1 tables_1 room_1 Calls_1 rest_1 Pre_1
      (fun tb e a s o t => postC L tb e a s o t ∧ Framed s o t (fieldLocs frame_1_writes a s ++ arrayLocs frame_1_arrays a s ++ staticLocs frame_1_statics s) 600002 7302232) := by
  intro l hfl _ _ p e ha hc hk s m args below hf hfit hheap happ hpre
  obtain ⟨k, o, h1, h2, h3, rfl, hF⟩ := lw_comes hpure l hfl p e ha hc hk s m args below hf hfit hheap happ hpre
  exact ⟨k, _, h1, h2, h3, hL args s _, lw_frame hF⟩
/-- the whole claim out of the pure machine's runs -/
theorem pt_law (hpure : pt_Pure 5) : Claimed_1_1 ∧ Claimed_1_2 := ⟨lw_limb hpure limb_1_1 (fun args s t => by simp [limb_1_1, Cond.after, Cond.holds, Cond.value]), lw_limb hpure limb_1_2 (fun args s t => Cond.after_iff.mpr (by
  first | (rw [show limb_1_2 = Cond.eq .result (.int 1) from rfl, Cond.eq_ints (x := 1) (y := 1) rfl rfl]; simp; done) | (simp [limb_1_2, Cond.value, Term.eval]; done)))⟩
