/-! CALLS put together: value, error -/
/-- what the reference has worked out holds -/
def CCH (D : aD) (G : Nat → fo) (n : Nat) (S : rs_S) : Prop := ∀ o, o < 3 → S.1 31 = Int32.ofNat o → WO D (G o) (clA D (G o) n) S
/-- a call, done, that asks -/
def Spv (w : Option Nat) (n : Nat) (M : aM) (A : ah) (D : aD) (G : Nat → fo) (T : List Nat) (y1 : Nat) (as1 : List tm_V) (y2 : Nat) (as2 : List tm_V) (h : pm_H) : Prop := ∃ A3 h3 S3 U3 u3, pt_O w pt_cI y1 as1 y2 as2 h h3 ∧ ar A3 h3 ∧ IC M A3 D G S3 T U3 u3 ∧ Lv A A3 10 60 ∧ CCH D G n S3
section VLC
variable {A A' A1 A2 : ah} {h h1 : pm_H} {M : aM} {D : aD} {F : fo} {G : Nat → fo} {S S' : rs_S} {o i j k p q x z a b n m y1 y2 ci : Nat} {E L Lr Lc T U U' : List Nat} {fr f : Nat → Int64} {fs fs0 sg : Nat → Bool} {cs : List (Nat × Nat)} {K : kc} {ev : Int32} {r : rc} {u v : Int64} {w : Option Nat} {a1 a2 a3 c c2 : Int32} {Y : List Nat} {as1 as2 : List tm_V} {y : pm_C}
theorem CX_of (C : CW M A D G) (ho : o < 3) : CX M A D o (G o) := ⟨C.2.2.1 o ho, C.2.1, C.1⟩
/-- axes of an office -/
theorem ax_rd (R : ar A h) (C : Cf M A o F) : lf_R h (some (94 + 17 * o)) [4, 3] = some (some (94 + 17 * o + 3)) ∧ la_R h .aaload (some (94 + 17 * o + 3)) (0 : Int32) = some (some (94 + 17 * o + 5)) ∧ la_R h .aaload (some (94 + 17 * o + 3)) (1 : Int32) = some (some (94 + 17 * o + 11)) := ⟨hc_R (o := some (94 + 17 * o + 3)) (ar_c R C.1) rfl, hc_ldR (j := 0) (o := some (94 + 17 * o + 5)) (ar_c R C.2.2.2.1) rfl (by omega) (ra_get (i := 0) (by omega)), hc_ldR (j := 1) (o := some (94 + 17 * o + 11)) (ar_c R C.2.2.2.1) rfl (by omega) (ra_get (i := 1) (by omega))⟩
/-- which lines are meant -/
theorem c84p (R : ar A h) (C : CW M A D G) (Wff : Wf D o (G o)) (ho : o < 3) : ll_84 (some (94 + 17 * o + 5)) a2 h = (la_ix a2 (xS (fX (G o) 0)).length).elim (tw h 16) (fun j => rtR (some (M 1 ((xS (fX (G o) 0)).getD j 0))) h) ∧ ll_84 (some (94 + 17 * o + 11)) a2 h = (la_ix a2 (xS (fX (G o) 1)).length).elim (tw h 16) (fun j => rtR (some (M 1 ((xS (fX (G o) 1)).getD j 0))) h) := ⟨c84 R ((C.2.2.1 o ho).2.2.2.2.2 0 (by omega)) C.2.1 (Wff.2.2.2.2.2.2 0 (by omega)), c84 R ((C.2.2.1 o ho).2.2.2.2.2 1 (by omega)) C.2.1 (Wff.2.2.2.2.2.2 1 (by omega))⟩
theorem c186 (R : ar A h) (I : IC M A D G S T U u) (hn : n = 120) : (la_ix a1 3 = none → ll_186 (some 81) a1 a2 a3 h = tw h 14) ∧ ∀ o, la_ix a1 3 = some o → ((la_ix a2 (xS (fX (G o) 0)).length = none ∨ la_ix a3 (xS (fX (G o) 1)).length = none) → ll_186 (some 81) a1 a2 a3 h = tw h 16) ∧ ∀ p q, la_ix a2 (xS (fX (G o) 0)).length = some p → la_ix a3 (xS (fX (G o) 1)).length = some q → ∃ A' h', ll_186 (some 81) a1 a2 a3 h = rtJ ((fnd (clA D (G o) n) 0 ((xS (fX (G o) 0)).getD p 0) ((xS (fX (G o) 1)).getD q 0)).elim 0 (WV (clA D (G o) n) (xS (fX (G o) 0)) (xS (fX (G o) 1)) (KF D (G o) S (clA D (G o) n)) (clA D (G o) n).length)) h' ∧ ar A' h' ∧ CU A A' ∧ CR A' T U := by
  have I' := I
  obtain ⟨-, C, B, -, H, RR, -, CT⟩ := I'
  unfold ll_186
  rw [if_pos (IC_L R I), c81 R C.1]
  constructor
  · intro e; rw [e]; exact tw_R
  · intro o e1
    rw [e1]
    obtain ⟨-, ho⟩ := ix_s (by omega) e1
    have Wff := IC_W I o ho
    have OIo := (H.2.2.2.2.2.2.2 o ho).1.2.1
    have W := H.1
    obtain ⟨x1, x2, x3⟩ := ax_rd R (C.2.2.1 o ho)
    obtain ⟨l0, -⟩ := c84p (a2 := a2) R C Wff ho
    obtain ⟨-, l1⟩ := c84p (a2 := a3) R C Wff ho
    show (_ → lb_R (rtR (some (94 + 17 * o)) h) _ = _) ∧ _
    rw [rt_R, x1, Option.bind_some, x2, Option.bind_some, l0]
    constructor
    · intro hh
      cases e2 : la_ix a2 (xS (fX (G o) 0)).length with
      | none => exact tw_R
      | some p =>
        rcases hh with g | g
        · rw [e2] at g; cases g
        · show lb_R (rtR (some (M 1 ((xS (fX (G o) 0)).getD p 0))) h) _ = _
          rw [rt_R, x1, Option.bind_some, x3, Option.bind_some, l1, g]
          exact tw_R
    · intro p q e2 e3
      have wl0 := (Wff.2.2.2.2.2.2 0 (by omega))
      have wl1 := (Wff.2.2.2.2.2.2 1 (by omega))
      have hp := (ix_s (by have := wl0.2.2.2.2.2; omega) e2).2
      have hq := (ix_s (by have := wl1.2.2.2.2.2; omega) e3).2
      have n1 := wl0.2.1 _ (gl_mem hp)
      have n2 := wl1.2.1 _ (gl_mem hq)
      have Q := CX_of C ho
      obtain ⟨A', h', E, fr, fs, ev, g1, g2, g3, g4, g5, g6, g7⟩ := c187 R Q B (RR o ho) W Wff OIo CT hn
      have Q' := CX_u R Q g3
      have N := LNK_of (Lr := xS (fX (G o) 0)) (Lc := xS (fX (G o) 1)) (RR o ho) W Wff OIo CT g5 hn
      have hK := KOK_of (Lr := xS (fX (G o) 0)) (Lc := xS (fX (G o) 1)) (RR o ho) W Wff OIo (show n ≤ 120 by omega) (KRA_of W CT)
      have hs : shB (xS (fX (G o) 0)) (xS (fX (G o) 1)) ((xS (fX (G o) 0)).getD p 0) ((xS (fX (G o) 1)).getD q 0) = true := by
        obtain ⟨u1, u2⟩ := pos_gd g5 hp hq
        unfold shB
        rw [u1, u2]
        rfl
      have hres := res_eq g5 N hK g6 g7 hs
      have c7 := c207 g2 Q' W g4 (EA_of Wff g5) n1 n2
      rw [hres] at c7
      refine ⟨A', h', ?_, g2, g3, CR_u R B g3 g4⟩
      have d1 : lf_R h (some 81) [0, 2] = some (some 87) := hc_R (o := some 87) (ar_c R C.1.1) rfl
      have d2 : lf_R h' (some 81) [0, 2] = some (some 87) := hc_R (o := some 87) (ar_c g2 Q'.2.2.1) rfl
      show lb_R (rtR (some (94 + 17 * o)) h) _ = _
      rw [rt_R, x1, Option.bind_some, x2, Option.bind_some, l0, e2]
      show lb_R (rtR (some (M 1 ((xS (fX (G o) 0)).getD p 0))) h) _ = _
      rw [rt_R, x1, Option.bind_some, x3, Option.bind_some, l1, e3]
      show lb_R (rtR (some (M 1 ((xS (fX (G o) 1)).getD q 0))) h) _ = _
      have hc : lc_of h (some 87) = some 2 := by
        obtain ⟨-, -, -, ⟨v, x, y, b, k0⟩, -⟩ := B
        exact hc_lc (ar_c R k0)
      rw [rt_R, d1, Option.bind_some, if_pos hc, g1, rt_V, d2, Option.bind_some, if_pos (cell_n g2 g4).2, c7, rt_J]
/-- the reference has worked; the calculator's cells, OUT and the law's cell may be others -/
theorem IC_c (R : ar A h) (I : IC M A D G S T U u) (R2 : ar A2 h1) (s2 : st A A2 Y n k) (hY : ∀ x ∈ Y, (83 ≤ x ∧ x ≤ 92) ∨ x = 177) (hRef : RefC A2 S) (hCR : CR A2 T U') (e177 : A2.1 177 = ac_c (.inr (1, [.long v]))) (hX : TX T U' S') (hf : ∀ a j, a ≤ 20 → S'.2.1 a j = S.2.1 a j) : IC M (ahS A2 S') D G S' T U' v ∧ ar (ahS A2 S') (rs_h S' h1) := by
  obtain ⟨i1, i2, i3, i4, i5, i6, i7, i8⟩ := I
  have hnn := Nat.le_trans i2.2.2.2 s2.1
  have hl2 : 177 ≤ h1.1.length := by rw [ar_len R2]; omega
  have s3 := ahS_st (A := A2) (S := S')
  have s23 := st_trans s2 s3
  have hY2 : ∀ x ∈ Y ++ (List.range 32).map (fun j => 145 + j), (83 ≤ x ∧ x ≤ 92) ∨ (145 ≤ x ∧ x < 178) := by
    intro x hx
    rcases List.mem_append.mp hx with q | q
    · have := hY x q; omega
    · have := rng_m q; omega
  obtain ⟨c1, c2, c3, c4⟩ := i2
  refine ⟨⟨ahS_C, ⟨Cb_st c1 R s23 (fun x hx => by have := hY2 x hx; omega), Cd_st c2 R s23 (fun x hx => by have := hY2 x hx; omega), fun o ho => Cf_st (c3 o ho) R s23 (fun x hx => by have := hY2 x hx; omega), Nat.le_trans c4 s23.1⟩, CR_st hCR R2 s3 (fun x hx => by have := rng_m hx; omega), st_c s3 R2 e177 (by intro q; cases q) (fun hx => by have := rng_m hx; omega), i5, fun o ho => RT_f hf (i6 o ho), hX, ?_⟩, ar_S R2 hRef hl2⟩
  intro j q hq h6
  obtain ⟨g3, g4⟩ := i8 j q hq h6
  rw [hf 10 j (by omega), hf 11 j (by omega)]
  have hS : ∀ a j, 12 ≤ a → a ≤ 15 → S'.2.1 a j = S.2.1 a j := fun a j h1 h2 => hf a j (by omega)
  exact ⟨cte_s R s23 (fun x hx => by have := hY2 x hx; omega) hS g3, cte_s R s23 (fun x hx => by have := hY2 x hx; omega) hS g4⟩
theorem TX_c (h : Sc (rs_setI S 0 0) S') (X : TX T U S) : TX T U S' := by
  unfold TX at X ⊢
  obtain ⟨x1, x2, x3, x4, x5, x6, x7⟩ := X
  exact ⟨by rw [h.1 22 (by omega) (by omega)]; exact x1, x2, x3, fun j hj => by rw [h.2.1 21 j (by omega)]; exact x4 j hj, by rw [h.1 39 (by omega) (by omega)]; exact x5, x6, fun j hj => by rw [h.2.1 40 j (by omega)]; exact x7 j hj⟩
theorem CCH_0 (C : CCH D G n S) : CCH D G n (rs_setI S 0 c) := fun o ho e => WO_0 (C o ho e)
theorem CCH_1 (e : S'.1 31 = Int32.ofNat o) (ho : o < 3) (hw : WO D (G o) (clA D (G o) n) S') : CCH D G n S' := fun o' ho' e' => by
  have : o' = o := i32_inj (by omega) (by omega) (e'.symm.trans e)
  rw [this]
  exact hw
theorem spv_t (R : ar A h) (I : IC M A D G S T U u) (hC : CCH D G n S) (e0 : A.1 0 = ac_c y) (hc : c ≠ 0) (t1 : tx_R w y1 as1 h (.inl (some (.inl c)), lf_new h ci 6 [])) (t2 : ∀ h1 : pm_H, 177 ≤ h1.1.length → tx_R w y2 as2 (rs_h S h1) (.inl (some (.inl c2)), rs_h (rs_setI S 0 c) h1)) : Spv w n M A D G T y1 as1 y2 as2 h := by
  obtain ⟨A3, h3, g1, g2, g3, g4⟩ := fin_thr (S' := rs_setI S 0 c) R I e0 t1 t2 rfl rfl rfl rfl (cI_t hc)
  exact ⟨A3, h3, _, U, u, g1, g2, g3, Lv_w g4 (by omega) (by omega), CCH_0 hC⟩
/-- answered -/
theorem spv_r {v : Int32} (R : ar A h) (I : IC M A D G S T U u) (e0 : A.1 0 = ac_c y) (R1 : ar A1 h1) (s1 : CU A A1) (hCR : CR A1 T U) (hS : Sc (rs_setI S 0 0) S') (hC : CCH D G n S') (t1 : ∀ h5, la_S pt_P h1 .lastore (some 177) (0 : Int32) (.inr (.inl v.toInt64)) = some h5 → tx_R w y1 as1 h (.inl (some (.inl 0)), h5)) (t2 : ∀ h1 : pm_H, 177 ≤ h1.1.length → tx_R w y2 as2 (rs_h S h1) (.inl (some (.inl v)), rs_h S' h1)) : Spv w n M A D G T y1 as1 y2 as2 h := by
  have e177 := st_c s1 R I.2.2.2.1 (by intro q; cases q) (fun z => by have := CU_m z; omega)
  obtain ⟨h5, p5, R5⟩ := st_177 (v := v.toInt64) R1 e177
  have s5 := st_set (y := .inr (1, [.long v.toInt64])) e177
  have s15 := st_trans s1 s5
  have hY : ∀ x ∈ [87, 88, 89, 90] ++ [177], (83 ≤ x ∧ x ≤ 92) ∨ x = 177 := by intro x hx; simp at hx; omega
  have f1 := RefC_st I.1 R s1 (fun x hx => by have := CU_m hx; omega)
  have f5 := RefC_st f1 R1 s5 (by intro x hx; simp at hx; omega)
  have c5 := CR_st hCR R1 s5 (by intro x hx; simp at hx; omega)
  have hnn := Nat.le_trans I.2.1.2.2.2 s15.1
  obtain ⟨I6, R6⟩ := IC_c R I R5 s15 hY f5 c5 ah_set_e (TX_c hS I.2.2.2.2.2.2.1) (fun a j ha => hS.2.1 a j (by omega))
  have l5 := Lv_st R s15 (by simp)
  refine ⟨_, _, S', U, _, pO_mk (t1 h5 p5) (Lv_h0 R R5 l5 e0) R5 f5 (by omega) (t2 h5 (by rw [ar_len R5]; omega)) (hS.1 0 (by omega) (by omega)) ⟨v, rfl, fun _ => ld_177 R6 I6.2.2.2.1⟩, R6, I6, ?_, hC⟩
  exact Lv_w (Lv_tr l5 (Lv_st R5 (ahS_st (S := S')) (fun hx => by have := rng_m hx; omega))) (by omega) (by omega)
theorem WV_B (hK : KOK cs Lr Lc K) (hr : Lr.length ≤ 120) (hc : Lc.length ≤ 120) : VB (WV cs Lr Lc K m i) := by
  unfold WV
  split
  · exact tv_B hK hr hc _ _
  · exact ⟨by decide, by decide⟩
theorem sp_value (R : ar A h) (I : IC M A D G S T U u) (hC : CCH D G n S) (hn : n = 120) (e0 : A.1 0 = ac_c y) : Spv w n M A D G T 184 [.inr (.inr (some 81)), .inl a1, .inl a2, .inl a3, .inr (.inr (some 177))] 279 [.inr (.inr (some 145)), .inl a1, .inl a2, .inl a3] h := by
  obtain ⟨q0, q1⟩ := q280 (a1 := a1) (a2 := a2) (a3 := a3) I.2.2.2.2.2.1 I.2.2.2.2.1.1 I.2.2.2.2.1.2.1 (IC_W I) (fun o ho => (I.2.2.2.2.1.2.2.2.2.2.2.2 o ho).1.2.1) (KRA_of I.2.2.2.2.1.1 I.2.2.2.2.2.2.2) hn hC
  obtain ⟨c0, c1⟩ := c186 (a1 := a1) (a2 := a2) (a3 := a3) R I hn
  have hL := IC_L R I
  have t2 : ∀ {v S'}, rf_279 a1 a2 a3 S = some (v, S') → ∀ h1 : pm_H, 177 ≤ h1.1.length → tx_R w 279 [.inr (.inr (some 145)), .inl a1, .inl a2, .inl a3] (rs_h S h1) (.inl (some (.inl v)), rs_h S' h1) := fun hr h1 hl => tx_l (by decide) (lq_279 (rt_279 hl hr))
  have thr : ∀ ci k, ll_186 (some 81) a1 a2 a3 h = tw h ci → rf_280 a1 a2 a3 S = some (-1, rs_setI S 0 k) → k ≠ 0 → ll_184 (some 81) a1 a2 a3 (some 177) h = some (.inl (some (.inl k)), lf_new h ci 6 []) → Spv w n M A D G T 184 [.inr (.inr (some 81)), .inl a1, .inl a2, .inl a3, .inr (.inr (some 177))] 279 [.inr (.inr (some 145)), .inl a1, .inl a2, .inl a3] h := fun ci k c q hk t1 => spv_t R I hC e0 hk (tx_l (by decide) (lq_184 t1)) (t2 (v := 0) (by unfold rf_279; rw [q, rb_r, if_pos (by decide)]))
  cases e1 : la_ix a1 3 with
  | none =>
    have c := c0 e1
    exact thr 14 1 c (q0 e1) (by decide) (by
      unfold ll_184 ll_185
      rw [if_pos hL, if_pos hL, c, tw_J, lh_It]
      rfl)
  | some o =>
    obtain ⟨c2, c3⟩ := c1 o e1
    obtain ⟨q2, q3⟩ := q1 o e1
    have ho := (ix_s (by omega) e1).2
    cases e2 : la_ix a2 (xS (fX (G o) 0)).length with
    | none =>
      have c := c2 (Or.inl e2)
      exact thr 16 2 c (q2 (Or.inl e2)) (by decide) (by
        unfold ll_184 ll_185
        rw [if_pos hL, if_pos hL, c, tw_J, lh_It]
        rfl)
    | some p =>
      cases e3 : la_ix a3 (xS (fX (G o) 1)).length with
      | none =>
        have c := c2 (Or.inr e3)
        exact thr 16 2 c (q2 (Or.inr e3)) (by decide) (by
          unfold ll_184 ll_185
          rw [if_pos hL, if_pos hL, c, tw_J, lh_It]
          rfl)
      | some q =>
        obtain ⟨A1, h1', g1, R1, s1, B1⟩ := c3 p q e2 e3
        obtain ⟨S', u1, u2, u3, u4⟩ := q3 p q e2 e3
        obtain ⟨x, hx⟩ : ∃ x, x = (fnd (clA D (G o) n) 0 ((xS (fX (G o) 0)).getD p 0) ((xS (fX (G o) 1)).getD q 0)).elim 0 (WV (clA D (G o) n) (xS (fX (G o) 0)) (xS (fX (G o) 1)) (KF D (G o) S (clA D (G o) n)) (clA D (G o) n).length) := ⟨_, rfl⟩
        rw [← hx] at g1
        have Wff := IC_W I o ho
        have OIo := (I.2.2.2.2.1.2.2.2.2.2.2.2 o ho).1.2.1
        have hK := KOK_of (Lr := xS (fX (G o) 0)) (Lc := xS (fX (G o) 1)) (I.2.2.2.2.2.1 o ho) I.2.2.2.2.1.1 Wff OIo (show n ≤ 120 by omega) (KRA_of I.2.2.2.2.1.1 I.2.2.2.2.2.2.2)
        have hB : ∀ i, VB (WV (clA D (G o) n) (xS (fX (G o) 0)) (xS (fX (G o) 1)) (KF D (G o) S (clA D (G o) n)) (clA D (G o) n).length i) := fun i => WV_B hK (Wff.2.2.2.2.2.2 0 (by omega)).2.2.2.2.2 (Wff.2.2.2.2.2.2 1 (by omega)).2.2.2.2.2
        have hk' : KF D (G o) S' (clA D (G o) n) = KF D (G o) S (clA D (G o) n) := (KF_c u2).trans (KF_2 (fun _ => rfl) (fun _ _ _ _ => rfl))
        have hr : rf_279 a1 a2 a3 S = some ((if isE x = true then 0 else x.toInt32), S') := by
          unfold rf_279
          rw [u1, rb_r]
          cases ef : fnd (clA D (G o) n) 0 ((xS (fX (G o) 0)).getD p 0) ((xS (fX (G o) 1)).getD q 0) with
          | none =>
            rw [ef] at hx
            rw [if_pos (by decide), hx]
            rfl
          | some i =>
            rw [ef] at hx
            have hi := fnd_b ef
            have hl := u4.1.2.1
            have hv := u4.2 i hi
            have hx' : x = WV (clA D (G o) n) (xS (fX (G o) 0)) (xS (fX (G o) 1)) (KF D (G o) S (clA D (G o) n)) (clA D (G o) n).length i := hx
            rw [hk', ← hx'] at hv
            have hb : VB x := by rw [hx]; exact hB i
            rw [if_neg (show ¬ oi (some i) < 0 from i32_lt i (by omega)), show oi (some i) = Int32.ofNat i from rfl, rdJ (n := 120) (by decide) (by omega) (by omega), Option.bind_some, hv, Option.bind_some]
            cases qe : isE x with
            | true => rw [if_neg (fun z => by rw [(c4e hb).1.mp z] at qe; cases qe), if_pos rfl]
            | false => rw [if_pos ((c4e hb).1.mpr qe), cv_n qe, if_neg (by decide)]
        refine spv_r R I e0 R1 s1 B1 u2 (CCH_1 u3 ho u4) (fun h5 p5 => tx_l (by decide) (lq_184 ?_)) (t2 hr)
        unfold ll_184 ll_185
        rw [if_pos hL, if_pos hL, g1, rt_J, c198, rt_I]
        cases qe : isE x with
        | true =>
          rw [qe] at p5
          rw [if_pos rfl, if_neg (by decide)]
          show lh_I (rtI 0 h1') _ _ = _
          rw [lh_Ir]
          show (la_S pt_P h1' .lastore (some 177) (0 : Int32) (.inr (.inl (Int32.toInt64 0)))).bind _ = _
          have p5' : la_S pt_P h1' .lastore (some 177) (0 : Int32) (.inr (.inl (Int32.toInt64 0))) = some h5 := p5
          rw [p5']
          rfl
        | false =>
          rw [qe] at p5
          rw [if_pos (by decide)]
          show lh_I (rtI x.toInt32 h1') _ _ = _
          rw [lh_Ir]
          have p5' : la_S pt_P h1' .lastore (some 177) (0 : Int32) (.inr (.inl (Int32.toInt64 x.toInt32))) = some h5 := p5
          rw [p5']
          rfl
theorem err_eq (hb : VB v) (he : isE v = true) : cv v - 4000000000 = v - 1000000000 := by
  have h1 := cv_i hb
  have h2 := isE_i.mp he
  obtain ⟨b1, b2⟩ := hb
  have e4 : (4000000000 : Int64).toInt = 4000000000 := rfl
  have e1 : (1000000000 : Int64).toInt = 1000000000 := rfl
  rw [if_pos h2] at h1
  apply Int64.toInt_inj.mp
  rw [j_sub (by omega) (by omega), j_sub (by omega) (by omega), h1, e4, e1]
  omega
theorem sp_error (R : ar A h) (I : IC M A D G S T U u) (hC : CCH D G n S) (hn : n = 120) (e0 : A.1 0 = ac_c y) : Spv w n M A D G T 208 [.inr (.inr (some 81)), .inl a1, .inl a2, .inl a3, .inr (.inr (some 177))] 299 [.inr (.inr (some 145)), .inl a1, .inl a2, .inl a3] h := by
  obtain ⟨q0, q1⟩ := q280 (a1 := a1) (a2 := a2) (a3 := a3) I.2.2.2.2.2.1 I.2.2.2.2.1.1 I.2.2.2.2.1.2.1 (IC_W I) (fun o ho => (I.2.2.2.2.1.2.2.2.2.2.2.2 o ho).1.2.1) (KRA_of I.2.2.2.2.1.1 I.2.2.2.2.2.2.2) hn hC
  obtain ⟨c0, c1⟩ := c186 (a1 := a1) (a2 := a2) (a3 := a3) R I hn
  have hL := IC_L R I
  have t2 : ∀ {v S'}, rf_299 a1 a2 a3 S = some (v, S') → ∀ h1 : pm_H, 177 ≤ h1.1.length → tx_R w 299 [.inr (.inr (some 145)), .inl a1, .inl a2, .inl a3] (rs_h S h1) (.inl (some (.inl v)), rs_h S' h1) := fun hr h1 hl => tx_l (by decide) (lq_299 (rt_299 hl hr))
  have thr : ∀ ci k, ll_186 (some 81) a1 a2 a3 h = tw h ci → rf_280 a1 a2 a3 S = some (-1, rs_setI S 0 k) → k ≠ 0 → ll_208 (some 81) a1 a2 a3 (some 177) h = some (.inl (some (.inl k)), lf_new h ci 6 []) → Spv w n M A D G T 208 [.inr (.inr (some 81)), .inl a1, .inl a2, .inl a3, .inr (.inr (some 177))] 299 [.inr (.inr (some 145)), .inl a1, .inl a2, .inl a3] h := fun ci k c q hk t1 => spv_t R I hC e0 hk (tx_l (by decide) (lq_208 t1)) (t2 (v := 0) (by unfold rf_299; rw [q, rb_r, if_pos (by decide)]))
  cases e1 : la_ix a1 3 with
  | none =>
    have c := c0 e1
    exact thr 14 1 c (q0 e1) (by decide) (by
      unfold ll_208 ll_209
      rw [if_pos hL, if_pos hL, c, tw_J, lh_It]
      rfl)
  | some o =>
    obtain ⟨c2, c3⟩ := c1 o e1
    obtain ⟨q2, q3⟩ := q1 o e1
    have ho := (ix_s (by omega) e1).2
    cases e2 : la_ix a2 (xS (fX (G o) 0)).length with
    | none =>
      have c := c2 (Or.inl e2)
      exact thr 16 2 c (q2 (Or.inl e2)) (by decide) (by
        unfold ll_208 ll_209
        rw [if_pos hL, if_pos hL, c, tw_J, lh_It]
        rfl)
    | some p =>
      cases e3 : la_ix a3 (xS (fX (G o) 1)).length with
      | none =>
        have c := c2 (Or.inr e3)
        exact thr 16 2 c (q2 (Or.inr e3)) (by decide) (by
          unfold ll_208 ll_209
          rw [if_pos hL, if_pos hL, c, tw_J, lh_It]
          rfl)
      | some q =>
        obtain ⟨A1, h1', g1, R1, s1, B1⟩ := c3 p q e2 e3
        obtain ⟨S', u1, u2, u3, u4⟩ := q3 p q e2 e3
        obtain ⟨x, hx⟩ : ∃ x, x = (fnd (clA D (G o) n) 0 ((xS (fX (G o) 0)).getD p 0) ((xS (fX (G o) 1)).getD q 0)).elim 0 (WV (clA D (G o) n) (xS (fX (G o) 0)) (xS (fX (G o) 1)) (KF D (G o) S (clA D (G o) n)) (clA D (G o) n).length) := ⟨_, rfl⟩
        rw [← hx] at g1
        have Wff := IC_W I o ho
        have OIo := (I.2.2.2.2.1.2.2.2.2.2.2.2 o ho).1.2.1
        have hK := KOK_of (Lr := xS (fX (G o) 0)) (Lc := xS (fX (G o) 1)) (I.2.2.2.2.2.1 o ho) I.2.2.2.2.1.1 Wff OIo (show n ≤ 120 by omega) (KRA_of I.2.2.2.2.1.1 I.2.2.2.2.2.2.2)
        have hB : ∀ i, VB (WV (clA D (G o) n) (xS (fX (G o) 0)) (xS (fX (G o) 1)) (KF D (G o) S (clA D (G o) n)) (clA D (G o) n).length i) := fun i => WV_B hK (Wff.2.2.2.2.2.2 0 (by omega)).2.2.2.2.2 (Wff.2.2.2.2.2.2 1 (by omega)).2.2.2.2.2
        have hk' : KF D (G o) S' (clA D (G o) n) = KF D (G o) S (clA D (G o) n) := (KF_c u2).trans (KF_2 (fun _ => rfl) (fun _ _ _ _ => rfl))
        have hr : rf_299 a1 a2 a3 S = some ((if isE x = true then (x - 1000000000).toInt32 else 0), S') := by
          unfold rf_299
          rw [u1, rb_r]
          cases ef : fnd (clA D (G o) n) 0 ((xS (fX (G o) 0)).getD p 0) ((xS (fX (G o) 1)).getD q 0) with
          | none =>
            rw [ef] at hx
            rw [if_pos (by decide), hx]
            rfl
          | some i =>
            rw [ef] at hx
            have hi := fnd_b ef
            have hl := u4.1.2.1
            have hv := u4.2 i hi
            have hx' : x = WV (clA D (G o) n) (xS (fX (G o) 0)) (xS (fX (G o) 1)) (KF D (G o) S (clA D (G o) n)) (clA D (G o) n).length i := hx
            rw [hk', ← hx'] at hv
            have hb : VB x := by rw [hx]; exact hB i
            rw [if_neg (show ¬ oi (some i) < 0 from i32_lt i (by omega)), show oi (some i) = Int32.ofNat i from rfl, rdJ (n := 120) (by decide) (by omega) (by omega), Option.bind_some, hv, Option.bind_some]
            cases qe : isE x with
            | true => rw [if_pos ((c4e hb).2.mpr qe), if_pos rfl, err_eq hb qe]
            | false => rw [if_neg (fun z => by rw [(c4e hb).2.mp z] at qe; cases qe), if_neg (by decide)]
        refine spv_r R I e0 R1 s1 B1 u2 (CCH_1 u3 ho u4) (fun h5 p5 => tx_l (by decide) (lq_208 ?_)) (t2 hr)
        unfold ll_208 ll_209
        rw [if_pos hL, if_pos hL, g1, rt_J, c198, rt_I]
        cases qe : isE x with
        | true =>
          rw [qe] at p5
          rw [if_pos rfl, if_neg (by decide)]
          show lh_I (rtI (x - 1000000000).toInt32 h1') _ _ = _
          rw [lh_Ir]
          have p5' : la_S pt_P h1' .lastore (some 177) (0 : Int32) (.inr (.inl (Int32.toInt64 (x - 1000000000).toInt32))) = some h5 := p5
          rw [p5']
          rfl
        | false =>
          rw [qe] at p5
          rw [if_pos (by decide)]
          show lh_I (rtI 0 h1') _ _ = _
          rw [lh_Ir]
          have p5' : la_S pt_P h1' .lastore (some 177) (0 : Int32) (.inr (.inl (Int32.toInt64 0))) = some h5 := p5
          rw [p5']
          rfl
end VLC
