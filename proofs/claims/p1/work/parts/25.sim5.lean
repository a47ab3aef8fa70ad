/-! references stored, casts, constants, Object's constructor -/
section SIM5
variable {p : Program} {l : Launch} {e : Env} {R : Room} {s : State} {m : MethodId} {args : Array Value} {below : List Frame} {meth : Method} {c : Code} {Q : State → Prop} {cc : ByteArray} {nL : Nat}
variable {D : pm_D} {cl : List vw_C} {tys : Nat → Option (ClassId × FieldType)} {mu : Nat → Nat} {K base : Nat} {H00 : Heap} {n0 s0 : Nat}
variable {asg : List (Nat × Nat)} {F F' : pm_F} {h h' : pm_H} {len : Nat} {vs : List Value} {ns : List Nat} {Ts Ns : List Cond} {own : String} {ft : Nat → Nat → FieldType}
/-- an array of references takes the objects of a class: the same class, or one that it can be cast to -/
def pm_okA (Ns : List Cond) (cl : List vw_C) (tn : Nat → String) (asg : List (Nat × Nat)) : Prop := ∀ q ∈ asg, ∀ r : vw_C, cl[q.2]? = some r → tn q.1 = r.1 ∨ Cond.castable r.1 (tn q.1) ∈ Ns
theorem pm_asgs (hNw : pm_Nw Ns s) (hKn : pm_Kn D cl tys s) {ci : Nat} {r : vw_C} (hc : cl[ci]? = some r) {C : String} {comp : ClassId} (hcomp : s.vm.findClass C = some comp) (hor : C = r.1 ∨ Cond.castable r.1 C ∈ Ns) : s.vm.assignable (D.1.1 ci) comp = true := by
  have hcls := (hKn.1 ci r hc).2
  rcases hor with rfl | hor
  · cases hcomp.symm.trans hcls.1
    exact va_asg _ _
  · obtain ⟨c0, t0, f1, f2, f3⟩ := Cond.castable_spec (va_Nw.use (A := #[]) rfl (hNw _ hor))
    cases hcls.1.symm.trans f1
    cases hcomp.symm.trans f2
    exact f3
theorem ps_aastore {tn : Nat → String} (hx : p.tables.exec = Jvm.exec) (hb : c.code = cc) (hd : decode cc F.1 = .ok (.aastore, len)) (hlen : len = 1) (hKn : pm_Kn D cl tys s) (hm : pm_mu mu K base) (hNw : pm_Nw Ns s) (htn : ∀ (t : Nat) (q : ClassId × FieldType), 10 ≤ t → tys t = some q → q.2 = .object (tn t)) (hA : pm_okA Ns cl tn asg)
    (ha : pm_act (K, asg) .aastore len vs ns F h = some (F', h')) (kk : pm_X p l e R s m args below meth c nL D cl tys mu K base H00 n0 s0 Q F' h') : pm_X p l e R s m args below meth c nL D cl tys mu K base H00 n0 s0 Q F h := by
  subst hlen
  obtain ⟨pc, lv, st⟩ := F
  cases st with
  | nil => cases ha
  | cons v st =>
    cases st with
    | nil => cases ha
    | cons j st =>
      cases st with
      | nil => cases ha
      | cons o st =>
        simp only [pm_act, Option.bind_eq_some_iff] at ha
        obtain ⟨⟨a, t, xs⟩, ho, k, hix, w, hw, ha⟩ := ha
        split at ha
        · next hKa =>
          cases ha
          obtain ⟨i, rfl, hi0, hik, hkn⟩ := pm_ix_eq hix
          obtain ⟨rfl, hcell⟩ := pm_arr_eq ho
          intro hn hs H locs hR hL ls hl
          have h9 : t ≠ 9 := by rintro rfl; cases v <;> simp [pm_nar] at hw
          obtain ⟨q, cell, q1, q2, q3, q4, q5, q7⟩ := (hR.1 a _ hcell).resolve_left (fun z => h9 z.1)
          have hn' : n0 ≤ (h.1.set a (Sum.inr (t, xs.set k w))).length := by simpa using hn
          have hsz : cell.slots.size = xs.length := by rw [q7]; simp
          have hkk : ∀ (vv : Value) (H' : Heap), vv = pm_v mu w → H'[mu a]? = some (cell.setSlot i.toNatClampNeg vv) → H'.size = H.size → (∀ q : Nat, q ≠ mu a → H'[q]? = H[q]?) → W p l e R s m args below meth c H' (locs ++ [⟨mu a, i.toNatClampNeg⟩]) (h.1.length - n0) (h.2 - s0) Q (F0 m (pc + 1) ls (st.map (pm_v mu))) := by
            intro vv H' e0 e1 e2 e3
            rw [hik] at e1 ⊢
            have := kk hn' hs H' (locs ++ [⟨mu a, k⟩]) (hR.store hm hKa h9 hcell q2 e0 e1 e2 e3) (pm_locs hL hm hKa) ls hl
            simpa using this
          replace q3 : cell.cls = q.1 := pm_ak_eq q3 hKa
          have harr := hKn.arr (K := K) (a := a) q1 (Or.inl q3) q5
          cases v with
          | null =>
            by_cases ht : 10 ≤ t
            · simp only [pm_nar, if_pos ht] at hw
              cases hw
              rw [htn t q ht q1] at harr
              exact va_WaastN hx hb q2 harr q4 (by
                rw [hsz, hik]; rintro (z | z)
                · exact hi0 z
                · exact absurd hkn (Nat.not_lt.mpr z)) rfl rfl hd (fun H' e1 e2 e3 => hkk _ H' rfl e1 e2 e3)
            · simp [pm_nar, ht] at hw
          | ref b =>
            by_cases ht : 10 ≤ t
            · simp only [pm_nar, if_pos ht] at hw
              cases hbx : h.1[b]? with
              | none => simp [hbx] at hw
              | some y =>
                cases y with
                | inr z => simp [hbx] at hw
                | inl z =>
                  obtain ⟨ci, z⟩ := z
                  simp only [hbx] at hw
                  split at hw
                  · next hin =>
                    cases hw
                    obtain ⟨r, cv, g1, g2, g3, g4, g5, g6, g7, g8⟩ := hR.1 b _ hbx
                    have hmem : (t, ci) ∈ asg := by simpa using hin
                    have h1 := (hKn.2.1 t q q1).2
                    rw [htn t q ht q1] at h1
                    obtain ⟨kA, comp, r1, r2, r3, -⟩ := h1
                    obtain ⟨kE, hkE, -⟩ := Vm.findClass_spec r3
                    obtain ⟨hfc, kC, hkC, -⟩ := (hKn.1 ci r g1).2
                    refine W.aast hx hb q2 (fun z hz => by rw [hz] at q5; cases q5) q4 (by rw [q3]; exact r1) r2 rfl hkE ⟨hi0, by rw [hsz, hik]; exact hkn⟩ g3 (fun z hz => by rw [hz] at g6; cases g6) (by rw [g4]; exact hkC) (by rw [g4]; exact pm_asgs hNw hKn g1 r3 (hA _ hmem r g1)) rfl rfl hd (fun H' e1 e2 e3 => hkk _ H' rfl e1 e2 e3)
                  · cases hw
            · simp [pm_nar, ht] at hw
          | _ => simp [pm_nar] at hw
        · cases ha
theorem ps_checkcast {idx : Nat} {nm : String} (hx : p.tables.exec = Jvm.exec) (hb : c.code = cc) (hd : decode cc F.1 = .ok (.checkcast idx, len)) (hlen : len = 3) (hts : ∀ w ∈ Ts, w.before args s = true) (hown : s.vm.findClass own = some m.cls) (hKn : pm_Kn D cl tys s) (hNw : pm_Nw Ns s) (hw1 : Cond.classLink own idx nm ∈ Ts) (hnm : ∃ cT, s.vm.findClass nm = some cT)
    (hcl : ∀ (ci : Nat) (r : vw_C), ci ∈ ns → cl[ci]? = some r → nm = r.1 ∨ Cond.castable r.1 nm ∈ Ns) (hat : ∀ (t : Nat) (q : ClassId × FieldType), 1000 + t ∈ ns → tys t = some q → "[" ++ q.2.toString = nm)
    (ha : pm_act (K, asg) (.checkcast idx) len vs ns F h = some (F', h')) (kk : pm_X p l e R s m args below meth c nL D cl tys mu K base H00 n0 s0 Q F' h') : pm_X p l e R s m args below meth c nL D cl tys mu K base H00 n0 s0 Q F h := by
  subst hlen
  obtain ⟨pc, lv, st⟩ := F
  cases st with
  | nil => cases ha
  | cons v st =>
    cases v with
    | null =>
      cases ha
      intro hn hs H locs hR hL ls hl
      exact lv_castN hx hb hd (kk hn hs H locs hR hL ls hl)
    | ref a =>
      simp only [pm_act] at ha
      cases hax : h.1[a]? with
      | none => simp [hax] at ha
      | some y =>
        cases y with
        | inl z =>
          obtain ⟨ci, z⟩ := z
          simp only [hax] at ha
          split at ha
          · next hin =>
            cases ha
            intro hn hs H locs hR hL ls hl
            obtain ⟨r, cv, g1, g2, g3, g4, g5, g6, g7, g8⟩ := hR.1 a _ hax
            obtain ⟨cT, hcT⟩ := hnm
            have hasg : s.vm.assignable cv.cls cT = true := by
              rw [g4]
              exact pm_asgs hNw hKn g1 hcT (hcl ci r (by simpa using hin) g1)
            intro T hT X
            obtain ⟨vm', X', st'⟩ := X.checkcastYes hx hown (hts _ hw1) (by rw [hT]; exact g3) g6 hcT hasg (g := F0 m pc ls (.ref (mu a) :: st.map (pm_v mu))) rfl rfl (by rw [hb]; exact hd)
            obtain ⟨t, a1, b1⟩ := kk hn hs H locs hR hL ls hl (T.setVm vm') hT X'
            exact ⟨t, st' t a1, b1⟩
          · cases ha
        | inr z =>
          obtain ⟨t, z⟩ := z
          simp only [hax] at ha
          split at ha
          · next hin =>
            cases ha
            intro hn hs H locs hR hL ls hl
            obtain ⟨q, cell, q1, q2, q3, q4, q5, q7⟩ := (hR.1 a _ hax).resolve_left (fun z => hin.2.1 z.1)
            replace q3 : cell.cls = q.1 := pm_ak_eq q3 hin.2.2
            have hfc : s.vm.findClass nm = some q.1 := by
              have h1 := (hKn.2.1 t q q1).2
              rw [← hat t q (by simpa using hin.1) q1]
              cases hty : q.2 with
              | object C => rw [hty] at h1; obtain ⟨_, _, -, -, -, h2⟩ := h1; exact h2
              | _ => rw [hty] at h1; exact h1
            intro T hT X
            obtain ⟨vm', X', st'⟩ := X.checkcastYes hx hown (hts _ hw1) (by rw [hT]; exact q2) q5 hfc (by rw [q3]; exact va_asg _ _) (g := F0 m pc ls (.ref (mu a) :: st.map (pm_v mu))) rfl rfl (by rw [hb]; exact hd)
            obtain ⟨t, a1, b1⟩ := kk hn hs H locs hR hL ls hl (T.setVm vm') hT X'
            exact ⟨t, st' t a1, b1⟩
          · cases ha
    | _ => cases ha
theorem ps_ldc {idx : Nat} {v : Int32} (hx : p.tables.exec = Jvm.exec) (hb : c.code = cc) (hd : decode cc F.1 = .ok (.ldc idx, len)) (hlen : len = 2) (hts : ∀ w ∈ Ts, w.before args s = true) (hown : s.vm.findClass own = some m.cls) (hvs : vs = [.int v]) (hw : Jvm.Cond.constant own idx v ∈ Ts)
    (ha : pm_act (K, asg) (.ldc idx) len vs ns F h = some (F', h')) (kk : pm_X p l e R s m args below meth c nL D cl tys mu K base H00 n0 s0 Q F' h') : pm_X p l e R s m args below meth c nL D cl tys mu K base H00 n0 s0 Q F h := by
  subst hlen
  subst hvs
  obtain ⟨pc, lv, st⟩ := F
  cases ha
  exact fun hn hs H locs hR hL ls hl => lv_ldc hx hb hown (hts _ hw) hd (kk hn hs H locs hR hL ls hl)
theorem ps_ldc_w {idx : Nat} {v : Int32} (hx : p.tables.exec = Jvm.exec) (hb : c.code = cc) (hd : decode cc F.1 = .ok (.ldc_w idx, len)) (hlen : len = 3) (hts : ∀ w ∈ Ts, w.before args s = true) (hown : s.vm.findClass own = some m.cls) (hvs : vs = [.int v]) (hw : Jvm.Cond.constant own idx v ∈ Ts)
    (ha : pm_act (K, asg) (.ldc_w idx) len vs ns F h = some (F', h')) (kk : pm_X p l e R s m args below meth c nL D cl tys mu K base H00 n0 s0 Q F' h') : pm_X p l e R s m args below meth c nL D cl tys mu K base H00 n0 s0 Q F h := by
  subst hlen
  subst hvs
  obtain ⟨pc, lv, st⟩ := F
  cases ha
  exact fun hn hs H locs hR hL ls hl => lv_ldcw hx hb hown (hts _ hw) hd (kk hn hs H locs hR hL ls hl)
theorem ps_ldc2 {idx : Nat} {v : Int64} (hx : p.tables.exec = Jvm.exec) (hb : c.code = cc) (hd : decode cc F.1 = .ok (.ldc2_w idx, len)) (hlen : len = 3) (hts : ∀ w ∈ Ts, w.before args s = true) (hown : s.vm.findClass own = some m.cls) (hvs : vs = [.long v]) (hw : Jvm.Cond.constantLong own idx v ∈ Ts)
    (ha : pm_act (K, asg) (.ldc2_w idx) len vs ns F h = some (F', h')) (kk : pm_X p l e R s m args below meth c nL D cl tys mu K base H00 n0 s0 Q F' h') : pm_X p l e R s m args below meth c nL D cl tys mu K base H00 n0 s0 Q F h := by
  subst hlen
  subst hvs
  obtain ⟨pc, lv, st⟩ := F
  cases ha
  exact fun hn hs H locs hR hL ls hl => lv_ldc2 hx hb hown (hts _ hw) hd (kk hn hs H locs hR hL ls hl)
/-- a String constant -/
theorem ps_ldcS {idx k : Nat} {tx : String} (hx : p.tables.exec = Jvm.exec) (hb : c.code = cc) (hd : decode cc F.1 = .ok (.ldc idx, len)) (hlen : len = 2) (hown : s.vm.findClass own = some m.cls) (hvs : vs = [.ref k]) (hw : vk_R own idx tx (mu k) s)
    (ha : pm_act (K, asg) (.ldc idx) len vs ns F h = some (F', h')) (kk : pm_X p l e R s m args below meth c nL D cl tys mu K base H00 n0 s0 Q F' h') : pm_X p l e R s m args below meth c nL D cl tys mu K base H00 n0 s0 Q F h := by
  subst hlen
  subst hvs
  obtain ⟨pc, lv, st⟩ := F
  cases ha
  exact fun hn hs H locs hR hL ls hl => va_ldcS hx hb hown hw hd (kk hn hs H locs hR hL ls hl)
/-- a static field that nobody writes -/
theorem ps_getstatic {idx : Nat} {C n d ref : String} {v : Value} (hx : p.tables.exec = Jvm.exec) (hb : c.code = cc) (hd : decode cc F.1 = .ok (.getstatic idx, len)) (hlen : len = 3) (hown : s.vm.findClass own = some m.cls) (hvs : vs = [v]) (hZ : va_Z C n d (pm_v mu v) (fun q => base ≤ q) s H00) (hlink : (Cond.fieldLink own idx ref n d).before args s = true) (hsame : ∀ x, s.fieldFound? C n d = some x → s.fieldFound? ref n d = some x)
    (ha : pm_act (K, asg) (.getstatic idx) len vs ns F h = some (F', h')) (kk : pm_X p l e R s m args below meth c nL D cl tys mu K base H00 n0 s0 Q F' h') : pm_X p l e R s m args below meth c nL D cl tys mu K base H00 n0 s0 Q F h := by
  subst hlen
  subst hvs
  obtain ⟨pc, lv, st⟩ := F
  cases ha
  intro hn hs H locs hR hL ls hl
  obtain ⟨cf, kf, fi, f, a, cell, h1, h2, h3, h4, h5, h6, h7, h8⟩ := hZ
  exact W.gets hx hb hown hlink (hsame _ h1) h2 h3 h4 (by rw [hR.2.2.2.1 a (by omega)]; exact h5) (fun z => by rw [z] at h6; cases h6) h7 rfl hd (kk hn hs H locs hR hL ls hl)
theorem ps_objInit {idx : Nat} (hx : p.tables.exec = Jvm.exec) (hb : c.code = cc) (hd : decode cc F.1 = .ok (.invokespecial idx, len)) (hlen : len = 3) (hts : ∀ w ∈ Ts, w.before args s = true) (hown : s.vm.findClass own = some m.cls) (hml : c.maxLocals = nL) (hns : ns = [9]) (hvs : vs = []) (hw1 : Cond.methodLink own idx objectInit ∈ Ts) (hw2 : Cond.instanceMethod objectInit ∈ Ts) (hw3 : Cond.code objectInit ⟨#[0xb1]⟩ 1 none ∈ Ts)
    (hf : 8 ≤ R.frames) (hlo : 512 ≤ R.locals)
    (ha : pm_act (K, asg) (.invokespecial idx) len vs ns F h = some (F', h')) (kk : pm_X p l e R s m args below meth c nL D cl tys mu K base H00 n0 s0 Q F' h') : pm_X p l e R s m args below meth c nL D cl tys mu K base H00 n0 s0 Q F h := by
  subst hlen
  subst hns
  subst hvs
  obtain ⟨pc, lv, st⟩ := F
  simp only [pm_act, Option.bind_eq_some_iff] at ha
  obtain ⟨q', hnat, ha⟩ := ha
  split at ha
  · next hwt =>
    cases ha
    cases st with
    | nil => cases hnat
    | cons v st =>
      cases v with
      | ref a =>
        cases hnat
        intro hn hs H locs hR hL ls hl
        refine W.objInit hx hb hown (hts _ hw1) (hts _ hw2) (hts _ hw3) rfl (by rw [hml]; exact hl.1) rfl hd (by omega) ?_ (kk hn hs H locs hR hL ls hl)
        have e1 : ((st.map (pm_v mu)).map fun v => v.category) = st.map fun v => v.category := by
          rw [List.map_map]
          exact List.map_congr_left (fun v _ => pm_v_cat mu v)
        show 2 * 0 + ((st.map (pm_v mu)).map fun v => v.category).sum + 12 ≤ R.locals
        rw [e1]
        simp only [List.map_cons, List.sum_cons] at hwt
        omega
      | _ => cases hnat
  · cases ha
end SIM5
