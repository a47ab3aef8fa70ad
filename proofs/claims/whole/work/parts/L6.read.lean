/-! BOTH read the draft -/
section RDP
variable {A A' A2 : ah} {h : pm_H} {M : aM} {D : aD} {X0 X1 : ax} {S S0 S' S2 : rs_S} {T Lr Lc U : List Nat} {k t p j n m x b d q N e o id B B' c s kt u r cc dp x3 kc : Nat} {Q pd : List Nat} {ts : List (Nat × Int32)} {v arg fl : Int32} {w : Option Nat} {X : Option Nat → Int32 → pm_H → tm_L}
theorem i32_ex (v : Int32) : ∃ n, v = Int32.ofNat n := ⟨v.toBitVec.toNat, by
  apply Int32.toBitVec_inj.mp
  show v.toBitVec = BitVec.ofNat 32 v.toBitVec.toNat
  rw [BitVec.ofNat_toNat]
  rfl⟩
/-- the reader begins -/
theorem c131a (R : ar A h) (C : CR A T U) (H : ∀ c ∈ T, 32 ≤ c ∧ c ≤ 126) (hT : T.length ≤ 20) (hr : 81 ≤ r) (hc : 81 ≤ cc) : ∃ k A' h', TK T k ∧ ar A' h' ∧ RS T k 0 (-1) r cc A' ∧ RU A A' 0 ∧ ll_131 w (some 83) (some r) (some cc) h = (if Int32.ofNat k = (0 : Int32) then some (.inl (some (.inr (.inr none))), h') else if lc_of h' (some 83) = some 1 then lb_I (ll_139 w (some 83) (61 : Int32) h') (fun v11 h12 => if v11 = (0 : Int32) then if lc_of h12 (some 83) = some 1 then lb_R (ll_156 w (some 83) h12) (fun v15 h16 => l131_71 w (some 83) v15 h16) else none else if lc_of h12 (some 83) = some 1 then lb_V (ll_141 (some 83) h12) (fun h22 => lb_h (lf_new h22 9 8 [.null, .null, .null, .long 0, .null, .null, .null, .null]) fun h24 => if lc_of h24 (some 83) = some 1 then lb_R (ll_142 w (ll_144 w 40) (some 83) (0 : Int32) h24) (fun v26 h27 => lb_V (ll_147 (some h22.1.length) (some 7) none v26 h27) (fun h30 => l131_71 w (some 83) (some h22.1.length) h30)) else none) else none) else none) := by
  obtain ⟨⟨v1, v2, v3, x, y, c1⟩, ⟨cap, c2⟩, ⟨f3, c3⟩, -⟩ := C
  obtain ⟨t, rfl⟩ := i32_ex v2
  obtain ⟨h1, p1, R1⟩ := aw_P (t := 2) (k := 5) (v := .inr (.inr (some r))) R c1 (by omega) (by simp) fit2
  obtain ⟨h2, p2, R2⟩ := aw_P (t := 2) (k := 6) (v := .inr (.inr (some cc))) R1 ah_set_e (by omega) (by simp) fit2
  rw [ah_ss] at R2
  have s2 := st_set (y := .inl (1, (([.ref 84, .ref 86, .int v1, .int (Int32.ofNat t), .int v3, tm_r x, tm_r y] : List Value).set 5 (tm_v (.inr (.inr (some r))))).set 6 (tm_v (.inr (.inr (some cc)))))) c1
  obtain ⟨k, A3, h3, g1, g2, g3, g4, g5⟩ := c132 (w := w) (t := t) (fl := v3) (r := r) (cc := cc) (cap := cap) (f := f3) (k0 := v1) R2 H hT ah_set_e (by rw [ah_set_n (by omega)]; exact c2) (by rw [ah_set_n (by omega)]; exact c3)
  obtain ⟨i1, ⟨cap', i2⟩, f, i3, i4⟩ := g4
  obtain ⟨h4, p4, R4⟩ := aw_P (t := 0) (k := 3) (v := .inl (0 : Int32)) g2 i1 (by omega) (by simp) rfl
  obtain ⟨h5, p5, R5⟩ := aw_P (t := 0) (k := 4) (v := .inl (-1 : Int32)) R4 ah_set_e (by omega) (by simp) rfl
  rw [ah_ss] at R5
  have s5 := st_set (y := cl83 k 0 (-1) r cc) i1
  refine ⟨k, _, h5, g3, R5, ⟨ah_set_e, ⟨cap', by rw [ah_set_n (by omega)]; exact i2⟩, f, by rw [ah_set_n (by omega)]; exact i3, i4⟩, st_w (st_trans (st_trans s2 g5) s5) (fun b hb => by simp at hb; simp; omega) (by omega) (by omega), ?_⟩
  have hlc : lc_of h2 (some 83) = some 1 := hc_lc (ar_c R2 ah_set_e)
  have hv9 : lf_I h5 (some 83) [1, 2] = some (Int32.ofNat k) := hc_I (v := Int32.ofNat k) (ar_c R5 ah_set_e) rfl
  unfold ll_131
  rw [p1, Option.bind_some, p2, Option.bind_some, if_pos hlc, g1, rt_V, p4, Option.bind_some, p5, Option.bind_some, hv9, Option.bind_some]
/-- the rest of the draft -/
theorem c131z (R : ar A h) (K : TK T k) (s : RS T k t fl r cc A) (ht : t ≤ k) (x : Option Nat) : ∃ A' h', l131_71 w (some 83) x h = rtR x h' ∧ ar A' h' ∧ RS T k t (if t < k then fF T t fl else fl) r cc A' ∧ RU A A' 0 := by
  have k3 := K.2.2.1
  unfold l131_71
  rw [hc_I (v := Int32.ofNat t) (ar_c R s.1) rfl, Option.bind_some, hc_I (v := Int32.ofNat k) (ar_c R s.1) rfl, Option.bind_some]
  by_cases q : k ≤ t
  · rw [if_pos ((i32_len (by omega) (by omega)).mpr q), if_neg (by omega)]
    exact ⟨A, h, rfl, R, s, RU_0⟩
  · obtain ⟨A', h', g1, g2, g3, g4⟩ := c145 R K s ht
    rw [if_neg (fun z => q ((i32_len (by omega) (by omega)).mp z)), if_pos (rr_lc R s), g1, if_pos (by omega)]
    exact ⟨A', h', rfl, g2, g3, g4⟩
theorem q275o (hid : id < 120) (hO : S.2.1 13 id = 0) : ∃ S', rf_275 (Int32.ofNat id) (97 : Int32) arg S = some ((), S') ∧ OUTP id [(97, arg)] S' ∧ Rk id S S' ∧ S'.1 = S.1 ∧ S'.2.1 12 id = S.2.1 12 id := by
  have e1 : (20 : Int32) * Int32.ofNat id + (0 : Int32) = Int32.ofNat (20 * id) := by rw [show (20 : Int32) = Int32.ofNat 20 from rfl, i32_mul]; exact i32_add _ 0
  unfold rf_275
  rw [rdI (n := 120) (by decide) hid (by omega), Option.bind_some, hO, e1, wrI (n := 2400) (by decide) (by omega) (by omega), Option.bind_some, rdI (n := 120) (by decide) hid (by omega), Option.bind_some, show (rs_setA S 14 (20 * id) (97 : Int32)).2.1 13 id = 0 from hO, e1, wrI (n := 2400) (by decide) (by omega) (by omega), Option.bind_some, rdI (n := 120) (by decide) hid (by omega), Option.bind_some, show (rs_setA (rs_setA S 14 (20 * id) (97 : Int32)) 15 (20 * id) arg).2.1 13 id = 0 from hO, wrI (n := 120) (by decide) hid (by omega), Option.bind_some]
  refine ⟨_, rfl, ⟨if_pos ⟨rfl, rfl⟩, fun j hj => ?_⟩, Rk_tr (Rk_A (Or.inr (Or.inr ⟨Or.inl rfl, by omega, by omega⟩))) (Rk_tr (Rk_A (Or.inr (Or.inr ⟨Or.inr rfl, by omega, by omega⟩))) (Rk_A (Or.inr (Or.inl ⟨rfl, rfl⟩)))), rfl, rfl⟩
  have : j = 0 := by simpa using hj
  subst this
  exact ⟨if_pos ⟨rfl, rfl⟩, if_pos ⟨rfl, rfl⟩⟩
/-- a content, read -/
def CNT (M : aM) (A : ah) (D : aD) (id : Nat) (S : rs_S) (p : Nat) : Prop := ∃ ts : List (Nat × Int32), (ts.length ≤ 20 ∧ wgt ts ≤ 60) ∧ OUTP id ts S ∧ ((S.2.1 12 id = 0 ∧ (∃ v, ts = [(97, v)]) ∧ prt M A D 1 p ts) ∨ (S.2.1 12 id = 1 ∧ 178 ≤ p ∧ ∃ q, A.1 p = ac_c (.inl (9, [.ref 7, .null, .ref q, .long 0, .null, .null, .null, .null])) ∧ prt M A D 22 q ts))
/-- a formula -/
theorem readF (H : HB T k o id S0 (xS X0) (xS X1)) (hL0 : ∀ l ∈ xS X0, lkd D l = 0) (hL1 : ∀ l ∈ xS X1, lkd D l = 1) (hid : id < 120) (R : ar A h) (s : RS T k 1 (-1) r cc A) (hX : RX M A D r cc X0 X1) (ht : 1 ≤ k) (L : LXT T (xS X0) (xS X1) (po T 1) S) (hk : Rk id S0 S) (hO : S.2.1 13 id = 0) (h12 : S.2.1 12 id = 1) : ∃ q t' fl' A' h' S' c y, ll_142 w (ll_144 w 40) (some 83) (0 : Int32) h = rtR (some q) h' ∧ ar A' h' ∧ RS T k t' fl' r cc A' ∧ t' ≤ k ∧ RU A A' c ∧ c ≤ 63 ∧ rf_271 (Int32.ofNat o) (Int32.ofNat id) S = some (y, S') ∧ Rk id S0 S' ∧ ((y = 1 ∧ fl' = -1 ∧ t' = k ∧ S'.2.1 12 id = 1 ∧ ∃ ts, (ts.length ≤ 20 ∧ wgt ts ≤ 60) ∧ OUTP id ts S' ∧ prt M A' D 22 q ts) ∨ (y = 0 ∧ ∃ f, f ≤ 20 ∧ S'.1 24 = Int32.ofNat f ∧ (if t' < k then fF T t' fl' else fl') = Int32.ofNat f)) := by
  have K := H.1
  have hb := HB_b H
  have k20 := K.2.2.1
  have P : PB id S0 (po T 1) [] [] (rs_setI (rs_setI S 29 0) 30 0) := by
    refine ⟨Rk_tr hk (Rk_tr (Rk_I (by omega) (by omega)) (Rk_I (by omega) (by omega))), ⟨rfl, fun j hj => by cases hj⟩, rfl, ⟨hO, fun j hj => by cases hj⟩, ⟨Nat.zero_le _, Nat.zero_le _, hb 1⟩, (fun c hc => by cases hc), hid⟩
  have L' : LXT T (xS X0) (xS X1) (po T 1) (rs_setI (rs_setI S 29 0) 30 0) := LXT_1 (S := S) (fun a ha => (show (if a = 30 then _ else if a = 29 then _ else S.1 a) = S.1 a by rw [if_neg (by omega), if_neg (by omega)])) L
  have hE := exprP (w := w) H (termP (w := w) H (facP (w := w) (M := M) (r := r) (cc := cc) H hL0 hL1 40 0 (by omega)))
  have h271 : rf_271 (Int32.ofNat o) (Int32.ofNat id) S = r271_12 lf_N (Int32.ofNat o) (Int32.ofNat id) 0 (rs_setI (rs_setI S 29 0) 30 0) := rfl
  rw [h271]
  rcases hE 1 lf_N [] [] A h _ R s hX ht (Nat.zero_le _) L' P (Or.inl rfl) (by unfold lf_N; omega) with hg | hbd
  · obtain ⟨q2, t2, u2', A3, h3, S3, c3, m3, f1, f2, f3, f4, f5, f6, f7, f8, f9, f10, f11, f12, ⟨pd, u', hu, hd, f13⟩, hn42, hn47, hn43, hn45⟩ := hg
    have hb2 := hb t2
    rw [List.append_nil] at f13
    have hc0 : pd.count 40 = 0 := List.count_eq_zero.mpr (fun z => by have := hd 40 z; have e : sgh 40 = 0 := rfl; omega)
    have h30 : S3.1 30 = 0 := by rw [f13.2.2.1, hc0]; rfl
    refine ⟨q2, t2, -1, A3, h3, ?_⟩
    by_cases hend : t2 = k
    · subst hend
      obtain ⟨m4, rfl⟩ : ∃ m0, m3 = m0 + 1 := ⟨m3 - 1, by omega⟩
      obtain ⟨S4, j1, j2, j3⟩ := q276 (s := 1) (v := 1) (pd := pd) (Q := []) (by rw [List.append_nil]; exact f13) (by omega) (by omega) rfl (Or.inl rfl) hd
      have h25 : S3.1 25 = -1 := by rw [f11.2.2.1]; exact (cd_m1 K).mpr (by rw [K.2.2.2.1]; exact Nat.le_refl _)
      have hfin : r271_12 (m4 + 1) (Int32.ofNat o) (Int32.ofNat id) 1 S3 = some (1, S4) := by
        rw [r271_12]
        dsimp only
        rw [if_neg (by decide), if_neg (by decide), if_pos h25]
        unfold r271_51
        rw [if_neg (by decide), h30, if_pos (by decide), j1, rb_r]
      refine ⟨S4, c3, 1, f1, f2, f3, f5, f7, by omega, f9.trans hfin, j2.1, Or.inl ⟨rfl, rfl, rfl, ?_, u2', ?_, ?_, ?_⟩⟩
      · -- the mark 'formula' is as it was
        rw [j2.1.2.2 12 id (by omega) (by omega) (by omega), ← hk.2.2 12 id (by omega) (by omega) (by omega)]
        exact h12
      · have hz : [] ++ u' ++ z0 pd = u2' := by rw [hu]; rfl
        have p5 := j2.2.2.2.2.1
        rw [hz] at p5
        rw [List.length_nil] at p5
        omega
      · have hz : [] ++ u' ++ z0 pd = u2' := by rw [hu]; rfl
        have p4 := j2.2.2.2.1
        rw [hz] at p4
        exact p4
      · exact prt_mono _ _ _ _ (by omega) f6
    · obtain ⟨m4, rfl⟩ : ∃ m0, m3 = m0 + 2 := ⟨m3 - 2, by omega⟩
      have htk : t2 < k := by omega
      refine ⟨S3, c3, 0, f1, f2, f3, f5, f7, by omega, f9.trans (q278b H f11 ⟨hn43, hn45, hn42, hn47⟩ (fun _ => h30) (Or.inl (K.2.2.2.2 t2 htk))), f13.1, Or.inr ⟨rfl, po T t2, hb2, f11.1, ?_⟩⟩
      rw [if_pos htk, fF_n]
  · obtain ⟨q2, t2, ff, A3, h3, S3, c3, f1, f2, f3, f4, f5, f6, f7, f8, f9, f10, f11⟩ := hbd
    refine ⟨q2, t2, Int32.ofNat ff, A3, h3, S3, c3, 0, f1, f2, f3, f6, f7, by omega, f9, f11, Or.inr ⟨rfl, ff, f4, f10, ?_⟩⟩
    rw [fF_k (i32_nn (by omega))]
    split <;> rfl
end RDP
