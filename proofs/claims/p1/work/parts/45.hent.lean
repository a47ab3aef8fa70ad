/-! the calls' words are enough -/
theorem pm_sl_len (vs : List Value) : (lg_sl vs).length = (vs.map fun v => v.category).sum := by
  induction vs with
  | nil => rfl
  | cons v vs ih =>
    have e : (lg_sl (v :: vs)).length = v.category + (lg_sl vs).length := by
      cases v <;> simp [lg_sl, Value.category] <;> omega
    rw [e, ih]; rfl
theorem pm_cat_map (mu : Nat → Nat) (vs : List Value) : ((vs.map (pm_v mu)).map fun v => v.category) = vs.map fun v => v.category := by
  rw [List.map_map]
  exact List.map_congr_left (fun v _ => pm_v_cat mu v)
theorem pm_callS {i : Instr} {k w z z' : Nat} {st as rest : List Value} {h : pm_H} (hc : pm_call i [0, k, w, z] st h = some (z', as, rest)) : z' = z ∧ as = (st.take k).reverse ∧ rest = st.drop k ∧ k ≤ st.length ∧ ((st.take k).map fun v => v.category).sum ≤ w ∧ ((st.drop k).map fun v => v.category).sum ≤ 8 := by
  unfold pm_call at hc
  split at hc
  · simp only at hc
    split at hc
    · next hh =>
      cases hc
      exact ⟨rfl, rfl, rfl, hh.1, hh.2.1, hh.2.2⟩
    · cases hc
  · cases hc
theorem pm_callI {i : Instr} {k w z z' : Nat} {st as rest : List Value} {h : pm_H} (hc : pm_call i [1, k, w, z] st h = some (z', as, rest)) : ∃ a, st[k]? = some (.ref a) ∧ z' = z ∧ as = (st.take (k + 1)).reverse ∧ rest = st.drop (k + 1) ∧ ((st.take (k + 1)).map fun v => v.category).sum ≤ w ∧ ((st.drop (k + 1)).map fun v => v.category).sum ≤ 8 := by
  unfold pm_call at hc
  split at hc
  · simp only at hc
    split at hc
    · next a ha =>
      split at hc
      · next hh =>
        cases hc
        exact ⟨a, ha, rfl, rfl, rfl, hh.1, hh.2⟩
      · cases hc
    · cases hc
  · cases hc
theorem pm_callV {i : Instr} {k w ci z z' : Nat} {st as rest : List Value} {h : pm_H} (hc : pm_call i [2, k, w, ci, z] st h = some (z', as, rest)) : ∃ a fs, st[k]? = some (.ref a) ∧ h.1[a]? = some (.inl (ci, fs)) ∧ z' = z ∧ as = (st.take (k + 1)).reverse ∧ rest = st.drop (k + 1) ∧ ((st.take (k + 1)).map fun v => v.category).sum ≤ w ∧ ((st.drop (k + 1)).map fun v => v.category).sum ≤ 8 := by
  unfold pm_call at hc
  split at hc
  · simp only [Option.bind_eq_some_iff] at hc
    obtain ⟨⟨a, c, fs⟩, ⟨v, hv, ho⟩, y, hy, hc⟩ := hc
    obtain ⟨rfl, hcell⟩ := pm_obj_eq ho
    split at hc
    · next hh =>
      cases hc
      unfold pm_slot at hy
      split at hy
      · next e =>
        cases hy
        simp only at e hcell
        subst e
        exact ⟨a, fs, hv, hcell, rfl, rfl, rfl, hh.1, hh.2⟩
      · unfold pm_slot at hy; cases hy
    · cases hc
  · cases hc
/-- the stack at a call of an instance method -/
theorem pm_stk_at {st : List Value} {k a : Nat} (hk : st[k]? = some (.ref a)) (mu : Nat → Nat) : (st.take (k + 1)).reverse = .ref a :: (st.take k).reverse ∧ st.map (pm_v mu) = (((st.take k).reverse).map (pm_v mu)).reverse ++ .ref (mu a) :: (st.drop (k + 1)).map (pm_v mu) ∧ ((st.take k).reverse.map (pm_v mu)).length = k := by
  have hlt : k < st.length := (List.getElem?_eq_some_iff.mp hk).1
  have hv : st[k] = .ref a := by have := List.getElem?_eq_getElem hlt; rw [hk] at this; exact (Option.some.inj this).symm
  refine ⟨?_, ?_, ?_⟩
  · rw [List.take_succ, hk]; simp
  · conv => lhs; rw [← List.take_append_drop k st, List.drop_eq_getElem_cons hlt, hv]
    rw [List.map_append, List.map_reverse, List.reverse_reverse]
    rfl
  · simp; omega
def pt_ki (kind idx : Nat) : Instr := match kind with
  | 0 | 1 => .invokestatic idx
  | 2 | 3 | 4 => .invokespecial idx
  | _ => .invokevirtual idx
section HENT
variable {p : Program} {l : Launch} {e : Env} {R : Room} {s : State} {m : MethodId} {args : Array Value} {below : List Frame} {meth : Method} {c : Code} {H : Heap} {locs : List Loc} {cells slots : Nat}
variable {D : pm_D} {A : Nat → ClassId} {mu : Nat → Nat} {K base : Nat} {H00 : Heap} {h : pm_H}
theorem pt_cwi {z : Nat} (hz : z < 314) (h0 : z ≠ 0) : pm_cw (pt_nm z) (pt_bc z) (pt_ml z) (pt_rt z) (pt_hw z) ∈ pt_Ts := by
  have hk := pt_ckC_all z hz h0
  simp only [pt_ckC, Bool.and_eq_true] at hk
  exact pt_wc_in hk.1
theorem pt_cd (hts : ∀ w ∈ pt_Ts, w.before args s = true) {z : Nat} (hz : z < 314) (h0 : z ≠ 0) : pm_Cd s (pt_nm z) (pt_bc z) (pt_ml z) (pt_rt z) (pt_hw z) := by
  exact pm_cd_of (hts _ (pt_cwi hz h0))
theorem pt_ini {z : Nat} (hz : z < 314) (h0 : z ≠ 0) : Cond.initialized (pt_nm z).cls ∈ pt_Ts := by
  have hk := pt_ckC_all z hz h0
  simp only [pt_ckC, Bool.and_eq_true] at hk
  exact pt_w_in hk.2.1
theorem pt_npz {z : Nat} (hz : z < 314) (h0 : z ≠ 0) : pm_np (pt_nm z) = some (pt_md z).2.2.1 := by
  have hk := pt_ckC_all z hz h0
  simp only [pt_ckC, Bool.and_eq_true, decide_eq_true_eq] at hk
  exact hk.2.2.1
theorem pt_czs {z w k : Nat} (hz : pt_cz z w k = true) : z < 314 ∧ z ≠ 0 ∧ w ≤ pt_ml z ∧ (pt_md z).2.2.1 = k ∧ pm_noMH (pt_nm z) = true := by
  simp only [pt_cz, Bool.and_eq_true, decide_eq_true_eq] at hz
  exact ⟨hz.1, hz.2.1, hz.2.2.1, hz.2.2.2.1, hz.2.2.2.2⟩
theorem pt_recv (hR : pm_rep D pt_cl (pt_tys A) mu K base H00 h H) (hKn : pm_Kn D pt_cl (pt_tys A) s) {a ci : Nat} {fs : List Value} (ha : h.1[a]? = some (.inl (ci, fs))) : ∃ (cell : Cell) (kB : Class), H[mu a]? = some cell ∧ cell.vm.isStatics = false ∧ s.vm.findClass (pt_clN ci) = some cell.cls ∧ s.vm.classes[cell.cls]? = some kB := by
  obtain ⟨r, cell, q1, -, q3, q4, -, q6, -, -⟩ := hR.1 a _ ha
  obtain ⟨-, hfc, kC, hkC, -⟩ := hKn.1 ci _ q1
  refine ⟨cell, kC, q3, q6, ?_, by rw [q4]; exact hkC⟩
  simp only at q1
  rw [q4, pt_clN, q1]
  exact hfc
theorem pt_hent {q : pt_E} (hq : pt_ckM q = true) {F : pm_F} {h : pm_H} {z : Nat} {as rest : List Value} (hc : pm_call (pt_ki q.2.2.2.1 q.2.1) q.2.2.1 F.2.2 h = some (z, as, rest)) :
    (z < 314 ∧ z ≠ 0) ∧ (lg_sl (as.map (pm_v mu))).length ≤ pt_ml z ∧ (rest.map fun v => v.category).sum ≤ 8 ∧ ∀ (p : Program) (e : Env) (R : Room) (s : State) (m : MethodId) (args : Array Value) (below : List Frame) (meth : Method) (c : Code) (H : Heap) (locs : List Loc) (cells slots : Nat) (ls : Array Slot),
      p.tables.exec = Jvm.exec → s.vm.findClass (pt_own.getD q.1 "") = some m.cls → (∀ w ∈ pt_Ts, w.before args s = true) → pm_Nw pt_Ns s → pm_Kn D pt_cl (pt_tys A) s → decode c.code F.1 = .ok (pt_ki q.2.2.2.1 q.2.1, 3) → pm_rep D pt_cl (pt_tys A) mu K base H00 h H →
        pm_Enter p l e R s m args below meth c H locs cells slots (pt_nm z) (F0 m F.1 ls (F.2.2.map (pm_v mu))) (as.map (pm_v mu)) (rest.map (pm_v mu)) := by
  obtain ⟨o, idx, ns, kd, is, host⟩ := q
  obtain ⟨pc, lv, st⟩ := F
  have hS : ∀ {k w z0 : Nat}, pt_cz z0 w k = true → pm_call (pt_ki kd idx) [0, k, w, z0] st h = some (z, as, rest) → ((z < 314 ∧ z ≠ 0) ∧ (lg_sl (as.map (pm_v mu))).length ≤ pt_ml z ∧ (rest.map fun v => v.category).sum ≤ 8) ∧ z = z0 ∧ pm_np (pt_nm z0) = some (as.map (pm_v mu)).length ∧ st.map (pm_v mu) = (as.map (pm_v mu)).reverse ++ rest.map (pm_v mu) := by
    intro k w z0 hz hcc
    obtain ⟨c1, c2, c3, c4, c5⟩ := pt_czs hz
    obtain ⟨rfl, rfl, rfl, d1, d2, d3⟩ := pm_callS hcc
    refine ⟨⟨⟨c1, c2⟩, ?_, d3⟩, rfl, ?_, ?_⟩
    · rw [pm_sl_len, pm_cat_map, List.map_reverse, List.sum_reverse]; omega
    · rw [pt_npz c1 c2, c4]; congr 1; simp; omega
    · rw [← List.map_reverse, List.reverse_reverse, ← List.map_append, List.take_append_drop]
  have hI : ∀ {k w z0 a : Nat}, pt_cz z0 w k = true → st[k]? = some (.ref a) → z = z0 → as = (st.take (k + 1)).reverse → rest = st.drop (k + 1) → ((st.take (k + 1)).map fun v => v.category).sum ≤ w → ((st.drop (k + 1)).map fun v => v.category).sum ≤ 8 →
      ((z < 314 ∧ z ≠ 0) ∧ (lg_sl (as.map (pm_v mu))).length ≤ pt_ml z ∧ (rest.map fun v => v.category).sum ≤ 8) ∧ ∃ As : List Value, as.map (pm_v mu) = .ref (mu a) :: As ∧ pm_np (pt_nm z0) = some As.length ∧ st.map (pm_v mu) = As.reverse ++ .ref (mu a) :: rest.map (pm_v mu) ∧ As.length = k := by
    intro k w z0 a hz hk e1 e2 e3 d2 d3
    obtain ⟨c1, c2, c3, c4, c5⟩ := pt_czs hz
    subst e1; subst e2; subst e3
    obtain ⟨g1, g2, g3⟩ := pm_stk_at hk mu
    refine ⟨⟨⟨c1, c2⟩, ?_, d3⟩, ((st.take k).reverse).map (pm_v mu), ?_, ?_, g2, g3⟩
    · rw [pm_sl_len, pm_cat_map, List.map_reverse, List.sum_reverse]; omega
    · rw [g1]; rfl
    · rw [pt_npz c1 c2, c4, g3]
  simp only [pt_ckM] at hq
  split at hq
  · -- static
    next k w z0 i1 i2 =>
    simp only [Bool.and_eq_true] at hq
    obtain ⟨h1, rfl, hnp, hst⟩ := hS hq.1 hc
    refine ⟨h1.1, h1.2.1, h1.2.2, fun p e R s m args below meth c H locs cells slots ls hx hown hts hNw hKn hd hR => ?_⟩
    exact en2_static hx hown (Or.inl (hts _ (pt_w_in hq.2.1))) (hts _ (pt_w_in hq.2.2)) (hts _ (pt_ini h1.1.1 h1.1.2)) (pt_cd hts h1.1.1 h1.1.2) hnp (pt_czs hq.1).2.2.2.2 rfl hst hd
  · next k w z0 i1 i2 =>
    simp only [Bool.and_eq_true] at hq
    obtain ⟨h1, rfl, hnp, hst⟩ := hS hq.1 hc
    refine ⟨h1.1, h1.2.1, h1.2.2, fun p e R s m args below meth c H locs cells slots ls hx hown hts hNw hKn hd hR => ?_⟩
    exact en2_static hx hown (Or.inr ⟨_, va_Nw.use rfl (hNw _ (pt_v_in hq.2.1))⟩) (hts _ (pt_w_in hq.2.2)) (hts _ (pt_ini h1.1.1 h1.1.2)) (pt_cd hts h1.1.1 h1.1.2) hnp (pt_czs hq.1).2.2.2.2 rfl hst hd
  · -- constructors
    next k w z0 i1 i2 =>
    simp only [Bool.and_eq_true, decide_eq_true_eq] at hq
    obtain ⟨a, hk, e1, e2, e3, d2, d3⟩ := pm_callI hc
    obtain ⟨h1, As, g1, g2, g3, g4⟩ := hI hq.1 hk e1 e2 e3 d2 d3
    subst e1
    refine ⟨h1.1, h1.2.1, h1.2.2, fun p e R s m args below meth c H locs cells slots ls hx hown hts hNw hKn hd hR => ?_⟩
    have hcw := hts _ (pt_cwi h1.1.1 h1.1.2)
    rw [hq.2.2.2.2.2, hq.2.2.2.2.1] at hcw
    rw [g1]
    exact en2_init hx hown (Or.inl (hts _ (pt_w_in hq.2.1))) hq.2.2.2.1 (hts _ (pt_w_in hq.2.2.1)) hcw g2 (pt_czs hq.1).2.2.2.2 rfl g3 hd
  · next k w z0 i1 i2 =>
    simp only [Bool.and_eq_true, decide_eq_true_eq] at hq
    obtain ⟨a, hk, e1, e2, e3, d2, d3⟩ := pm_callI hc
    obtain ⟨h1, As, g1, g2, g3, g4⟩ := hI hq.1 hk e1 e2 e3 d2 d3
    subst e1
    refine ⟨h1.1, h1.2.1, h1.2.2, fun p e R s m args below meth c H locs cells slots ls hx hown hts hNw hKn hd hR => ?_⟩
    have hcw := hts _ (pt_cwi h1.1.1 h1.1.2)
    rw [hq.2.2.2.2.2, hq.2.2.2.2.1] at hcw
    rw [g1]
    exact en2_init hx hown (Or.inr ⟨_, va_Nw.use rfl (hNw _ (pt_v_in hq.2.1))⟩) hq.2.2.2.1 (hts _ (pt_w_in hq.2.2.1)) hcw g2 (pt_czs hq.1).2.2.2.2 rfl g3 hd
  · -- super
    next k w ci z0 i1 i2 i3 i4 =>
    simp only [Bool.and_eq_true, decide_eq_true_eq] at hq
    obtain ⟨a, fs, hk, ha, e1, e2, e3, d2, d3⟩ := pm_callV hc
    obtain ⟨h1, As, g1, g2, g3, g4⟩ := hI hq.1 hk e1 e2 e3 d2 d3
    subst e1
    refine ⟨h1.1, h1.2.1, h1.2.2, fun p e R s m args below meth c H locs cells slots ls hx hown hts hNw hKn hd hR => ?_⟩
    obtain ⟨cell, kB, f1, f2, f3, f4⟩ := pt_recv hR hKn ha
    rw [g1]
    exact en2_super hx hown (hts _ (pt_w_in hq.2.1)) (hts _ (pt_w_in hq.2.2.2.1)) (hts _ (pt_w_in hq.2.2.2.2.1)) (hts _ (pt_w_in hq.2.2.1)) (pt_cd hts h1.1.1 h1.1.2) hq.2.2.2.2.2 f1 f2 f4 g2 rfl g3 hd
  · -- by the receiver's class
    next k w ci z0 i1 i2 i3 =>
    simp only [Bool.and_eq_true, decide_eq_true_eq] at hq
    obtain ⟨a, fs, hk, ha, e1, e2, e3, d2, d3⟩ := pm_callV hc
    obtain ⟨h1, As, g1, g2, g3, g4⟩ := hI hq.1 hk e1 e2 e3 d2 d3
    subst e1
    refine ⟨h1.1, h1.2.1, h1.2.2, fun p e R s m args below meth c H locs cells slots ls hx hown hts hNw hKn hd hR => ?_⟩
    obtain ⟨cell, kB, f1, f2, f3, f4⟩ := pt_recv hR hKn ha
    rw [g1]
    exact en2_virtual hx hown (Or.inl (hts _ (pt_w_in hq.2.1))) (hts _ (pt_w_in hq.2.2.1)) (hts _ (pt_w_in hq.2.2.2)) f3 (pt_cd hts h1.1.1 h1.1.2) f1 f2 g2 (pt_czs hq.1).2.2.2.2 rfl g3 hd
  · -- private
    next k w ci z0 i1 i2 i3 i4 =>
    simp only [Bool.and_eq_true, decide_eq_true_eq] at hq
    obtain ⟨a, fs, hk, ha, e1, e2, e3, d2, d3⟩ := pm_callV hc
    obtain ⟨h1, As, g1, g2, g3, g4⟩ := hI hq.1 hk e1 e2 e3 d2 d3
    subst e1
    refine ⟨h1.1, h1.2.1, h1.2.2, fun p e R s m args below meth c H locs cells slots ls hx hown hts hNw hKn hd hR => ?_⟩
    obtain ⟨cell, kB, f1, f2, f3, f4⟩ := pt_recv hR hKn ha
    rw [g1]
    exact en2_private hx hown (Or.inl (hts _ (pt_w_in hq.2.1))) (hts _ (pt_w_in hq.2.2.1)) (va_Nw.use rfl (hNw _ (pt_v_in hq.2.2.2.1))) (pm_NF1 (hts _ (pt_w_in hq.2.2.2.2))) (pt_cd hts h1.1.1 h1.1.2) f1 f2 g2 (pt_czs hq.1).2.2.2.2 rfl g3 hd
  · next k w ci z0 i1 i2 i3 i4 =>
    simp only [Bool.and_eq_true, decide_eq_true_eq] at hq
    obtain ⟨a, fs, hk, ha, e1, e2, e3, d2, d3⟩ := pm_callV hc
    obtain ⟨h1, As, g1, g2, g3, g4⟩ := hI hq.1 hk e1 e2 e3 d2 d3
    subst e1
    refine ⟨h1.1, h1.2.1, h1.2.2, fun p e R s m args below meth c H locs cells slots ls hx hown hts hNw hKn hd hR => ?_⟩
    obtain ⟨cell, kB, f1, f2, f3, f4⟩ := pt_recv hR hKn ha
    rw [g1]
    exact en2_private hx hown (Or.inl (hts _ (pt_w_in hq.2.1))) (hts _ (pt_w_in hq.2.2.1)) (va_Nw.use rfl (hNw _ (pt_v_in hq.2.2.2.1))) (pm_NF2 (hts _ (pt_w_in hq.2.2.2.2))) (pt_cd hts h1.1.1 h1.1.2) f1 f2 g2 (pt_czs hq.1).2.2.2.2 rfl g3 hd
  · -- found above, or overridden
    next k w ci z0 i1 i2 i3 i4 i5 zx =>
    simp only [Bool.and_eq_true, decide_eq_true_eq] at hq
    obtain ⟨a, fs, hk, ha, e1, e2, e3, d2, d3⟩ := pm_callV hc
    obtain ⟨h1, As, g1, g2, g3, g4⟩ := hI hq.1 hk e1 e2 e3 d2 d3
    obtain ⟨x1, x2, -, x4, x5⟩ := pt_czs hq.2.1
    subst e1
    refine ⟨h1.1, h1.2.1, h1.2.2, fun p e R s m args below meth c H locs cells slots ls hx hown hts hNw hKn hd hR => ?_⟩
    obtain ⟨cell, kB, f1, f2, f3, f4⟩ := pt_recv hR hKn ha
    rw [g1]
    have hnx : pm_np ⟨host, (pt_nm zx).name, (pt_nm zx).desc⟩ = some As.length := by
      rw [g4, ← x4, ← pt_npz x1 x2]; rfl
    exact en2_up (x := ⟨host, (pt_nm zx).name, (pt_nm zx).desc⟩) (owner := (pt_nm zx).cls) hx hown (hts _ (pt_w_in hq.2.2.1)) (hts _ (pt_w_in hq.2.2.2.1)) x5 (hts _ (pt_w_in hq.2.2.2.2.1)) (pt_cd hts x1 x2) (hts _ (pt_w_in hq.2.2.2.2.2.1)) (hts _ (pt_w_in hq.2.2.2.2.2.2)) f3 f1 f2 hnx rfl g3 hd
  · cases hq
end HENT
