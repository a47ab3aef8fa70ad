/-! System.arraycopy, an array's clone -/
theorem pm_cpy_get {xs ys : List Value} {sp dp n : Nat} (h1 : sp + n ≤ xs.length) (h2 : dp + n ≤ ys.length) (k : Nat) : (pm_cpy xs ys sp dp n)[k]? = if dp ≤ k ∧ k < dp + n then xs[sp + (k - dp)]? else ys[k]? := by
  unfold pm_cpy
  have hl1 : (ys.take dp).length = dp := by rw [List.length_take]; omega
  have hl2 : ((xs.drop sp).take n).length = n := by rw [List.length_take, List.length_drop]; omega
  by_cases ha : k < dp
  · rw [List.getElem?_append_left (by omega), List.getElem?_take_of_lt ha, if_neg (by omega)]
  · rw [List.getElem?_append_right (by omega), hl1]
    by_cases hb : k < dp + n
    · rw [List.getElem?_append_left (by omega), List.getElem?_take_of_lt (by omega), List.getElem?_drop, if_pos (by omega)]
    · rw [List.getElem?_append_right (by omega), hl2, List.getElem?_drop, if_neg (by omega)]
      congr 1
      omega
theorem pm_nn (z : Int32) (hz : ¬ z < 0) : z.toInt = (z.toNatClampNeg : Int) := by
  have hz0 : (0 : Int) ≤ z.toInt := by
    have := Int32.not_lt.mp hz
    simpa using Int32.le_iff_toInt_le.mp this
  show z.toInt = ((z.toInt.toNat : Nat) : Int)
  omega
section NAT
variable {p : Program} {l : Launch} {e : Env} {R : Room} {s : State} {m : MethodId} {args : Array Value} {below : List Frame} {meth : Method} {c : Code} {Q : State → Prop} {cc : ByteArray} {nL : Nat}
variable {D : pm_D} {cl : List vw_C} {tys : Nat → Option (ClassId × FieldType)} {mu : Nat → Nat} {K base : Nat} {H00 : Heap} {n0 s0 : Nat}
variable {asg : List (Nat × Nat)} {F F' : pm_F} {h h' : pm_H} {len : Nat} {vs : List Value} {ns : List Nat} {Ts Ns : List Cond} {own : String}
theorem pm_fit_ty {t : Nat} {q : ClassId × FieldType} {v : Value} (htk : pm_tyk tys) (h2 : tys 2 = none) (hq : tys t = some q) (ht : t < 9) (hv : pm_fit t v = true) : fits q.2 (pm_v mu v) = true := by
  obtain ⟨k0, k1, k3, k4, k5, k6, -⟩ := htk t q hq
  have h9 : t = 0 ∨ t = 1 ∨ t = 2 ∨ t = 3 ∨ t = 4 ∨ t = 5 ∨ t = 6 ∨ t = 7 ∨ t = 8 := by omega
  rcases h9 with rfl | rfl | rfl | rfl | rfl | rfl | rfl | rfl | rfl
  · rw [k0 rfl]; exact (pm_fit_tag (t := 0) rfl hv).2
  · rw [k1 rfl]; exact (pm_fit_tag (t := 1) rfl hv).2
  · rw [h2] at hq; cases hq
  · rw [k3 rfl]; exact (pm_fit_tag (t := 3) rfl hv).2
  · rw [k4 rfl]; exact (pm_fit_tag (t := 4) rfl hv).2
  · rw [k5 rfl]; exact (pm_fit_tag (t := 5) rfl hv).2
  · rw [k6 rfl]; exact (pm_fit_tag (t := 6) rfl hv).2
  · cases v <;> cases hv
  · cases v <;> cases hv
theorem pm_nat8 {P : Nat × List (Nat × Nat)} {st : List Value} {q : List Value × pm_H} (ha : pm_nat P 8 st h = some q) : ∃ (n dp sp : Int32) (d o : Value) (r : List Value) (a b : Nat × Nat × List Value), st = .int n :: .int dp :: d :: .int sp :: o :: r ∧ pm_arr h o = some a ∧ pm_arr h d = some b ∧
    (a.2.1 = b.2.1 ∧ a.2.1 ≠ 9 ∧ P.1 ≤ b.1 ∧ ¬ sp < 0 ∧ ¬ dp < 0 ∧ ¬ n < 0 ∧ sp.toNatClampNeg + n.toNatClampNeg ≤ a.2.2.length ∧ dp.toNatClampNeg + n.toNatClampNeg ≤ b.2.2.length ∧ ((a.2.2.drop sp.toNatClampNeg).take n.toNatClampNeg).all (pm_el P.2 a.2.1 h) = true) ∧
    q = (r, (h.1.set b.1 (.inr (b.2.1, pm_cpy a.2.2 b.2.2 sp.toNatClampNeg dp.toNatClampNeg n.toNatClampNeg)), h.2)) := by
  generalize hk : (8 : Nat) = k at ha
  unfold pm_nat at ha
  split at ha
  · omega
  · simp only [Option.bind_eq_some_iff] at ha
    obtain ⟨a, h1, b, h2, ha⟩ := ha
    split at ha
    · next hc => cases ha; exact ⟨_, _, _, _, _, _, a, b, rfl, h1, h2, hc, rfl⟩
    · cases ha
  · omega
  · cases ha
theorem pm_nat7 {P : Nat × List (Nat × Nat)} {st : List Value} {q : List Value × pm_H} (ha : pm_nat P 7 st h = some q) : ∃ (o : Value) (r : List Value) (a : Nat × Nat × List Value), st = o :: r ∧ pm_arr h o = some a ∧ a.2.1 = 0 ∧ P.1 ≤ a.1 ∧ a.2.2.all (pm_fit 0) = true ∧ q = (.ref h.1.length :: r, (h.1 ++ [.inr (a.2.1, a.2.2)], h.2 + a.2.2.length)) := by
  generalize hk : (7 : Nat) = k at ha
  unfold pm_nat at ha
  split at ha
  · omega
  · omega
  · simp only [Option.bind_eq_some_iff] at ha
    obtain ⟨a, h1, ha⟩ := ha
    split at ha
    · next hc => cases ha; exact ⟨_, _, a, rfl, h1, hc.1, hc.2.1, hc.2.2, rfl⟩
    · cases ha
  · cases ha
/-- what lies in an array of references: the model may copy it -/
theorem pm_el_takes {tn : Nat → String} {H : Heap} {T : State} {vm' : Vm} (hKn : pm_Kn D cl tys s) (hNw : pm_Nw Ns s) (htk : pm_tyk tys) (h2 : tys 2 = none) (htn : ∀ (t : Nat) (q : ClassId × FieldType), 10 ≤ t → tys t = some q → q.2 = .object (tn t)) (hA : pm_okA Ns cl tn asg) (hR : pm_rep D cl tys mu K base H00 h H) (hTH : T.heap = H) (hal : s.vm.Alike vm')
    {t : Nat} {q : ClassId × FieldType} (hq : tys t = some q) (h9 : t ≠ 9) {kA : Class} {comp : ClassId} (hkA : s.vm.classes[q.1]? = some kA) (hkind : kA.kind = .array comp q.2) {v : Value} (hv : pm_el asg t h v = true) : fits q.2 (pm_v mu v) = true ∧ (T.setVm vm').takes comp (pm_v mu v) := by
  unfold pm_el at hv
  by_cases ht : t < 9
  · rw [if_pos ht] at hv
    refine ⟨pm_fit_ty htk h2 hq ht hv, ?_⟩
    have h7 : t = 0 ∨ t = 1 ∨ t = 2 ∨ t = 3 ∨ t = 4 ∨ t = 5 ∨ t = 6 ∨ t = 7 ∨ t = 8 := by omega
    rcases h7 with rfl | rfl | rfl | rfl | rfl | rfl | rfl | rfl | rfl
    · cases v <;> first | trivial | cases hv
    · cases v <;> first | trivial | cases hv
    · rw [h2] at hq; cases hq
    · cases v <;> first | trivial | cases hv
    · cases v <;> first | trivial | cases hv
    · cases v <;> first | trivial | cases hv
    · cases v <;> first | trivial | cases hv
    · cases v <;> cases hv
    · cases v <;> cases hv
  · rw [if_neg ht] at hv
    have h10 : 10 ≤ t := by omega
    have hty := htn t q h10 hq
    cases v with
    | null => exact ⟨by rw [hty]; rfl, trivial⟩
    | ref b =>
      cases hbx : h.1[b]? with
      | none => simp [hbx] at hv
      | some y =>
        cases y with
        | inr z => simp [hbx] at hv
        | inl z =>
          obtain ⟨ci, z⟩ := z
          simp only [hbx] at hv
          have hmem : (t, ci) ∈ asg := by simpa using hv
          obtain ⟨r, cv, g1, g2, g3, g4, g5, g6, g7, g8⟩ := hR.1 b _ hbx
          have h1 := (hKn.2.1 t q hq).2
          rw [hty] at h1
          obtain ⟨kA2, comp2, r1, r2, r3, -⟩ := h1
          cases hkA.symm.trans r1
          rw [hty] at hkind
          cases hkind.symm.trans r2
          obtain ⟨kE, hkE, -⟩ := Vm.findClass_spec r3
          obtain ⟨hfc, kC, hkC, -⟩ := (hKn.1 ci r g1).2
          obtain ⟨kC', hkC', -⟩ := hal.2.2 _ _ hkC
          obtain ⟨kE', hkE', -⟩ := hal.2.2 _ _ hkE
          refine ⟨by rw [hty]; rfl, cv, (show T.heap[mu b]? = some cv by rw [hTH]; exact g3), (fun z hz => by rw [hz] at g6; cases g6), ⟨kC', by rw [g4]; exact hkC'⟩, ⟨kE', hkE'⟩, ?_⟩
          show vm'.assignable _ _ = true
          rw [hal.assignable, g4]
          exact pm_asgs hNw hKn g1 r3 (hA _ hmem r g1)
    | _ => simp at hv
theorem ps_arraycopy {idx : Nat} {tn : Nat → String} (hx : p.tables.exec = Jvm.exec) (hb : c.code = cc) (hd : decode cc F.1 = .ok (.invokestatic idx, len)) (hlen : len = 3) (hts : ∀ w ∈ Ts, w.before args s = true) (hown : s.vm.findClass own = some m.cls) (hml : c.maxLocals = nL) (hKn : pm_Kn D cl tys s) (hm : pm_mu mu K base) (hNw : pm_Nw Ns s) (htk : pm_tyk tys) (h2 : tys 2 = none) (htn : ∀ (t : Nat) (q : ClassId × FieldType), 10 ≤ t → tys t = some q → q.2 = .object (tn t)) (hA : pm_okA Ns cl tn asg)
    (hns : ns = [8]) (hvs : vs = []) (w1 : Cond.methodLink own idx arraycopyName ∈ Ts) (w2 : Cond.native arraycopyName ∈ Ts) (w3 : Cond.static arraycopyName ∈ Ts) (w4 : Cond.initialized "java/lang/System" ∈ Ts) (hfr : 8 ≤ R.frames) (hlo : 512 ≤ R.locals)
    (ha : pm_act (K, asg) (.invokestatic idx) len vs ns F h = some (F', h')) (kk : pm_X p l e R s m args below meth c nL D cl tys mu K base H00 n0 s0 Q F' h') : pm_X p l e R s m args below meth c nL D cl tys mu K base H00 n0 s0 Q F h := by
  subst hlen
  subst hns
  subst hvs
  obtain ⟨pc, lv, st⟩ := F
  simp only [pm_act, Option.bind_eq_some_iff] at ha
  obtain ⟨q', hnat, ha⟩ := ha
  split at ha
  · next hwt =>
    cases ha
    obtain ⟨n, dp, sp, d, o, r, ⟨a, t, xs⟩, ⟨b, t', ys⟩, rfl, ho, hdd, ⟨htt, h9, hKb, hsp, hdp, hn0', hl1, hl2, hall⟩, rfl⟩ := pm_nat8 hnat
    simp only at htt h9 hKb hl1 hl2 hall
    subst htt
    obtain ⟨rfl, hca⟩ := pm_arr_eq ho
    obtain ⟨rfl, hcb⟩ := pm_arr_eq hdd
    intro hn hs H locs hR hL ls hl T hT X
    obtain ⟨q, ca, q1, q2, q3, q4, q5, q7⟩ := (hR.1 a _ hca).resolve_left (fun z => h9 z.1)
    obtain ⟨qb, cb, b1, b2, b3, b4, b5, b7⟩ := (hR.1 b _ hcb).resolve_left (fun z => h9 z.1)
    have hqq : qb = q := Option.some.inj (b1.symm.trans q1)
    subst hqq
    replace b3 : cb.cls = qb.1 := pm_ak_eq b3 hKb
    obtain ⟨-, kS, hkS, compS, hkindS⟩ := hKn.arr q1 q3 q5
    obtain ⟨-, kA, hkA, comp, hkind⟩ := hKn.arr (K := K) (a := b) q1 (Or.inl b3) b5
    rw [b3] at hkA
    have hsa : ca.slots.size = xs.length := by rw [q7]; simp
    have hsb : cb.slots.size = ys.length := by rw [b7]; simp
    have hcat : ((r.map (pm_v mu)).map fun v => v.category).sum ≤ 40 := by
      have e1 : ((r.map (pm_v mu)).map fun v => v.category) = r.map fun v => v.category := by
        rw [List.map_map]
        exact List.map_congr_left (fun v _ => pm_v_cat mu v)
      rw [e1]
      simp only [List.map_cons, List.sum_cons] at hwt
      omega
    obtain ⟨vm', X', step⟩ := X.arraycopy hx hown (hts _ w1) (hts _ w2) (hts _ w3) (hts _ w4) (src := mu a) (dst := mu b) (cs := ca) (cd := cb) (srcPos := sp) (destPos := dp) (n := n) (by rw [hT]; exact q2) (by rw [hT]; exact b2)
      (fun z hz => by rw [hz] at q5; cases q5) (fun z hz => by rw [hz] at b5; cases b5) q4 b4 hkS (by rw [b3]; exact hkA) hkindS hkind (by simp) hsp hdp hn0'
      (by rw [pm_nn sp hsp, pm_nn n hn0', hsa]; omega) (by rw [pm_nn dp hdp, pm_nn n hn0', hsb]; omega)
      (fun vm₁ hal i hi => by
        have hx1 : ∃ v, xs[sp.toNatClampNeg + i]? = some v := ⟨_, List.getElem?_eq_getElem (by omega)⟩
        obtain ⟨v, hv⟩ := hx1
        have e : ca.slots.getD (sp.toNatClampNeg + i) .null = pm_v mu v := by
          rw [Array.getD_eq_getD_getElem?, q7]
          simp [hv]
        rw [e]
        have hel : pm_el asg t h v = true := by
          refine List.all_eq_true.mp hall v ?_
          apply List.mem_of_getElem? (i := i)
          rw [List.getElem?_take_of_lt hi, List.getElem?_drop]
          exact hv
        exact pm_el_takes hKn hNw htk h2 htn hA hR hT hal q1 h9 hkA hkind hel)
      (g := F0 m pc ls ((.int n :: .int dp :: .ref b :: .int sp :: .ref a :: r).map (pm_v mu))) rfl (by rw [hml]; exact hl.1) (rest := r.map (pm_v mu)) rfl (by rw [hb]; exact hd) (by omega) (by
        show 2 * 0 + ((r.map (pm_v mu)).map fun v => v.category).sum + (nativeFrameWords "java/lang/System" "arraycopy" 5 + 11) ≤ R.locals
        have : nativeFrameWords "java/lang/System" "arraycopy" 5 = 7 := by decide
        rw [this]; omega)
    have hal : mu b < H.size := (Array.getElem?_eq_some_iff.mp b2).1
    have hheap : ((T.setVm vm').setCell (mu b) (copied ca cb sp dp n)).heap = H.setIfInBounds (mu b) (copied ca cb sp dp n) := by rw [← hT]; rfl
    obtain ⟨f1, f2, f3, -, -⟩ := cb.storeRun_facts dp.toNatClampNeg (ca.stretch sp.toNatClampNeg n.toNatClampNeg)
    have hstl : (ca.stretch sp.toNatClampNeg n.toNatClampNeg).length = n.toNatClampNeg := by simp [Cell.stretch]
    have hat : pm_at D cl tys mu K b (Sum.inr (t, pm_cpy xs ys sp.toNatClampNeg dp.toNatClampNeg n.toNatClampNeg)) (H.setIfInBounds (mu b) (copied ca cb sp dp n)) := by
      refine Or.inr ⟨qb, copied ca cb sp dp n, b1, by simp [Array.getElem?_setIfInBounds, hal], Or.inl (f1.trans b3), (by rw [show (copied ca cb sp dp n).vm = cb.vm from f2]; exact b4), (by rw [show (copied ca cb sp dp n).vm = cb.vm from f2]; exact b5), ?_⟩
      apply Array.ext_getElem?
      intro k
      have hg := cb.storeRun_get dp.toNatClampNeg (ca.stretch sp.toNatClampNeg n.toNatClampNeg) k (by rw [hstl, hsb]; omega)
      have hg' : (copied ca cb sp dp n).slots[k]? = _ := hg
      have hr9 : ((pm_cpy xs ys sp.toNatClampNeg dp.toNatClampNeg n.toNatClampNeg).map (pm_v mu)).toArray[k]? = (if dp.toNatClampNeg ≤ k ∧ k < dp.toNatClampNeg + n.toNatClampNeg then xs[sp.toNatClampNeg + (k - dp.toNatClampNeg)]? else ys[k]?).map (pm_v mu) := by
        rw [← pm_cpy_get hl1 hl2 k]; simp
      rw [hg', hstl]
      show _ = ((pm_cpy xs ys sp.toNatClampNeg dp.toNatClampNeg n.toNatClampNeg).map (pm_v mu)).toArray[k]?
      rw [hr9]
      by_cases hk : dp.toNatClampNeg ≤ k ∧ k < dp.toNatClampNeg + n.toNatClampNeg
      · rw [if_pos hk, if_pos hk]
        have hx1 : ∃ v, xs[sp.toNatClampNeg + (k - dp.toNatClampNeg)]? = some v := ⟨_, List.getElem?_eq_getElem (by omega)⟩
        obtain ⟨v, hv⟩ := hx1
        rw [hv]
        simp only [Cell.stretch, List.getElem?_map]
        rw [List.getElem?_range (by omega)]
        simp only [Option.map_some]
        rw [Array.getD_eq_getD_getElem?, q7]
        simp [hv]
      · rw [if_neg hk, if_neg hk, b7]
        simp
    have hn' : n0 ≤ (h.1.set b (Sum.inr (t, pm_cpy xs ys sp.toNatClampNeg dp.toNatClampNeg n.toNatClampNeg))).length := by simpa using hn
    have hLL : ∀ q ∈ locs ++ (ca.stretch sp.toNatClampNeg n.toNatClampNeg).zipIdx.map (fun q => (⟨mu b, dp.toNatClampNeg + q.2⟩ : Loc)), base ≤ q.base := by
      intro z hz
      rcases List.mem_append.mp hz with g | g
      · exact hL z g
      · obtain ⟨w, -, rfl⟩ := List.mem_map.mp g
        show base ≤ mu b
        rw [hm.2.1 b hKb]; omega
    have hk2 := kk hn' hs _ _ (hR.set hm hKb hcb hat (by simp) (fun z hz => by simp [Array.getElem?_setIfInBounds, Ne.symm hz])) hLL ls hl
    simp only [List.length_set] at hk2
    obtain ⟨t9, a1, b9⟩ := hk2 _ hheap X'
    exact ⟨t9, step t9 a1, b9⟩
  · cases ha
theorem ps_clone {idx : Nat} (hx : p.tables.exec = Jvm.exec) (hb : c.code = cc) (hd : decode cc F.1 = .ok (.invokevirtual idx, len)) (hlen : len = 3) (hts : ∀ w ∈ Ts, w.before args s = true) (hown : s.vm.findClass own = some m.cls) (hml : c.maxLocals = nL) (hKn : pm_Kn D cl tys s) (hm : pm_mu mu K base) (hNw : pm_Nw Ns s) (htk : pm_tyk tys)
    (hns : ns = [7]) (hvs : vs = []) (w1 : Cond.methodLink own idx ⟨"[I", "clone", "()Ljava/lang/Object;"⟩ ∈ Ts) (w2 : Cond.sameMethod "[I" "java/lang/Object" "clone" "()Ljava/lang/Object;" ∈ Ts) (w3 : Cond.native ⟨"java/lang/Object", "clone", "()Ljava/lang/Object;"⟩ ∈ Ts) (w4 : Cond.instanceMethod ⟨"java/lang/Object", "clone", "()Ljava/lang/Object;"⟩ ∈ Ts)
    (w5 : Cond.selects "[I" ⟨"[I", "clone", "()Ljava/lang/Object;"⟩ ⟨"java/lang/Object", "clone", "()Ljava/lang/Object;"⟩ ∈ Ts) (w6 : Cond.castable "[I" "java/lang/Cloneable" ∈ Ns) (hfr : 8 ≤ R.frames) (hlo : 512 ≤ R.locals)
    (ha : pm_act (K, asg) (.invokevirtual idx) len vs ns F h = some (F', h')) (hrc : h'.1.length - n0 ≤ R.cells) (hrs : h'.2 - s0 ≤ R.slots) (kk : pm_X p l e R s m args below meth c nL D cl tys mu K base H00 n0 s0 Q F' h') : pm_X p l e R s m args below meth c nL D cl tys mu K base H00 n0 s0 Q F h := by
  subst hlen
  subst hns
  subst hvs
  obtain ⟨pc, lv, st⟩ := F
  simp only [pm_act, Option.bind_eq_some_iff] at ha
  obtain ⟨q', hnat, ha⟩ := ha
  split at ha
  · next hwt =>
    cases ha
    obtain ⟨o, r, ⟨a, t, xs⟩, rfl, ho, ht, hKa, hall, rfl⟩ := pm_nat7 hnat
    simp only at ht hall hKa
    subst ht
    obtain ⟨rfl, hca⟩ := pm_arr_eq ho
    intro hn hs H locs hR hL ls hl T hT X
    simp only [List.length_append, List.length_singleton] at hrc hrs
    obtain ⟨q, ca, q1, q2, q3, q4, q5, q7⟩ := (hR.1 a _ hca).resolve_left (fun z => by cases z.1)
    replace q3 : ca.cls = q.1 := pm_ak_eq q3 hKa
    have hqi := (htk 0 q q1).1 rfl
    have hfc : s.vm.findClass "[I" = some q.1 := by
      have h1 := (hKn.2.1 0 q q1).2
      rw [hqi] at h1
      exact va_nm_int h1
    obtain ⟨-, kA, hkA, comp, hkind⟩ := hKn.arr (K := K) (a := a) q1 (Or.inl q3) q5
    rw [q3] at hkA
    have hsa : ca.slots.size = xs.length := by rw [q7]; simp
    obtain ⟨c0, t0', f1, f2, f3⟩ := Cond.castable_spec (va_Nw.use (A := #[]) rfl (hNw _ w6))
    cases hfc.symm.trans f1
    have hcat : ((r.map (pm_v mu)).map fun v => v.category).sum ≤ 40 := by
      have e1 : ((r.map (pm_v mu)).map fun v => v.category) = r.map fun v => v.category := by
        rw [List.map_map]
        exact List.map_congr_left (fun v _ => pm_v_cat mu v)
      rw [e1]
      simp only [List.map_cons, List.sum_cons] at hwt
      omega
    obtain ⟨vm', X', st'⟩ := X.cloneArray hx hown (hts _ w1) (hts _ w2) (hts _ w3) (hts _ w4) (hts _ w5) (a := mu a) (cell := ca) (by rw [hT]; exact q2) (fun z hz => by rw [hz] at q5; cases q5) q4 (by rw [q3]; exact hfc) f2 (by rw [q3]; exact f3)
      (fun i v hv => by
        obtain ⟨kA', hkA', he⟩ := X.warmed.alike.2.2 _ _ hkA
        have hk' : T.vm.classes[q.1]? = some kA' := hkA'
        have hkind' : kA'.kind = .array comp q.2 := by rw [he]; exact hkind
        have hfv : fits q.2 v = true := by
          rw [q7, List.getElem?_toArray, List.getElem?_map] at hv
          obtain ⟨w, hw, rfl⟩ := Option.map_eq_some_iff.mp hv
          rw [hqi]
          exact (pm_fit_tag (t := 0) rfl (List.all_eq_true.mp hall w (List.mem_of_getElem? hw))).2
        rw [q3]
        simpa [State.fitsSlot, State.slotType?, hk', hkind'] using hfv)
      (g := F0 m pc ls ((.ref a :: r).map (pm_v mu))) rfl (by rw [hml]; exact hl.1) (rest := r.map (pm_v mu)) rfl (by rw [hb]; exact hd) (by omega) (by show 2 * 0 + _ + 14 ≤ _; omega) (by omega) (by rw [hsa]; omega) (hloader := by rw [q3]; exact Vm.clonesLoader_of_array hkA hkind)
    have hnext := hR.next hm
    have hat : pm_at D cl tys mu K h.1.length (Sum.inr (0, xs)) (H.push { cls := ca.cls, slots := ca.slots }) :=
      Or.inr ⟨q, { cls := ca.cls, slots := ca.slots }, q1, by rw [hnext, Array.getElem?_push_size], Or.inl q3, (fun z => by cases z), rfl, q7⟩
    have hk2 := kk (by simp only [List.length_append, List.length_singleton]; omega) (by show s0 ≤ h.2 + xs.length; omega) _ locs (hR.push _ hm hat (by simp) (fun z hz => by rw [Array.getElem?_push, if_neg (Nat.ne_of_lt hz)])) hL ls hl
    have ec : (h.1 ++ [Sum.inr (0, xs)] : List pm_C).length - n0 = h.1.length - n0 + 1 := by simp only [List.length_append, List.length_singleton]; omega
    have es : h.2 + xs.length - s0 = h.2 - s0 + xs.length := by omega
    simp only [ec, es] at hk2
    have e0 : pm_v mu (.ref h.1.length) = .ref H.size := by rw [← hnext]; rfl
    simp only [List.map_cons, e0] at hk2
    rw [hsa] at X'
    obtain ⟨t9, a1, b9⟩ := hk2 ((T.setVm vm').pushCell { cls := ca.cls, slots := ca.slots }) (by rw [← hT]; rfl) X'
    refine ⟨t9, st' t9 ?_, b9⟩
    rw [hT]
    exact a1
  · cases ha
end NAT
