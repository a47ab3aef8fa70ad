/-! BOTH read together: factors -/
section FCT
variable {A A' A2 : ah} {h : pm_H} {M : aM} {D : aD} {X0 X1 : ax} {S S0 S' S2 : rs_S} {T Lr Lc : List Nat} {k t p j n m x b d q N e o id B B' c s kt u r cc dp x3 kc : Nat} {Q pd : List Nat} {ts : List (Nat × Int32)} {v arg fl : Int32} {w : Option Nat} {X : Option Nat → Int32 → pm_H → tm_L}
theorem rfv_m {y z : Nat} (h : rfv T Lr Lc p = some (y, z)) : y ∈ Lr ∧ z ∈ Lc := by
  unfold rfv at h
  split at h
  · next w =>
    cases h
    exact ⟨gl_mem (by omega), gl_mem w.2.2.2⟩
  · cases h
/-- the reference does one step -/
theorem st0 {y : Int32} (h : rf_272 (Int32.ofNat o) (Int32.ofNat id) S = some (y, S')) : r271_12 (m + 1) (Int32.ofNat o) (Int32.ofNat id) 0 S = r271_12 m (Int32.ofNat o) (Int32.ofNat id) y S' := by
  rw [r271_12]
  dsimp only
  rw [if_neg (by decide), if_pos rfl]
  unfold r271_28
  rw [if_pos rfl, h, rb_r]
  rfl
theorem fc_h (R : ar A h) (K : TK T k) (s : RS T k t (-1) r cc A) (ht : t ≤ k) (hdp : dp ≤ 20) : (chT T (po T t) = 45 → lm_144 w X (some 83) (Int32.ofNat dp) h = lb_V (ll_141 (some 83) h) (fun h95 => lb_h (lf_new h95 9 8 [.null, .null, .null, .long 0, .null, .null, .null, .null]) fun h97 => if lc_of h97 (some 83) = some 1 then lb_R (X (some 83) (Int32.ofNat (dp + 1)) h97) (fun v99 h100 => lb_V (ll_147 (some h95.1.length) (some 10) none v99 h100) (fun h103 => some (.inl (some (.inr (.inr (some h95.1.length)))), h103))) else none)) ∧ (chT T (po T t) = 40 → lm_144 w X (some 83) (Int32.ofNat dp) h = lb_V (ll_141 (some 83) h) (fun h74 => if lc_of h74 (some 83) = some 1 then lb_R (ll_142 w X (some 83) (Int32.ofNat (dp + 1)) h74) (fun v77 h78 => if lc_of h78 (some 83) = some 1 then lb_V (ll_148 w (some 83) (41 : Int32) h78) (fun h82 => some (.inl (some (.inr (.inr v77))), h82)) else none) else none)) ∧ ((chT T (po T t) = 115 ∧ kc = 15 ∨ chT T (po T t) = 110 ∧ kc = 16 ∨ chT T (po T t) = 109 ∧ kc = 17) → lm_144 w X (some 83) (Int32.ofNat dp) h = lb_R (ll_149 w (some 83) (some kc) h) (fun v46 h47 => some (.inl (some (.inr (.inr v46))), h47))) ∧ (chT T (po T t) ≠ 45 → chT T (po T t) ≠ 40 → chT T (po T t) ≠ 115 → chT T (po T t) ≠ 110 → chT T (po T t) ≠ 109 → lm_144 w X (some 83) (Int32.ofNat dp) h = if cpB (chT T (po T t)) = true then lb_R (ll_150 w (some 83) h) (fun v35 h36 => some (.inl (some (.inr (.inr v35))), h36)) else lb_R (ll_154 w (some 83) h) (fun v29 h30 => some (.inl (some (.inr (.inr v29))), h30))) := by
  have hb := chT_b (p := po T t) K.2.1
  have lc := rr_lc R s
  have n1 : Int32.ofNat dp + (1 : Int32) = Int32.ofNat (dp + 1) := i32_add dp 1
  have hd : Int32.ofNat dp ≤ (20 : Int32) := (i32_len (b := 20) (by omega) (by omega)).mpr hdp
  have q45 := c139 (w := w) (x := 45) (v := 45) R K s ht (by omega) rfl
  have q40 := c139 (w := w) (x := 40) (v := 40) R K s ht (by omega) rfl
  have q115 := c139 (w := w) (x := 115) (v := 115) R K s ht (by omega) rfl
  have q110 := c139 (w := w) (x := 110) (v := 110) R K s ht (by omega) rfl
  have q109 := c139 (w := w) (x := 109) (v := 109) R K s ht (by omega) rfl
  refine ⟨fun e => ?_, fun e => ?_, fun e => ?_, fun e1 e2 e3 e4 e5 => ?_⟩
  · unfold lm_144
    rw [if_pos hd, if_pos lc, q45, rt_I, ifB, decide_eq_true e, if_pos rfl, if_pos lc, n1]
  · unfold lm_144
    rw [if_pos hd, if_pos lc, q45, rt_I, ifB, decide_eq_false (show ¬ chT T (po T t) = 45 by omega), if_neg Bool.false_ne_true, if_pos lc, q40, rt_I, ifB, decide_eq_true e, if_pos rfl, if_pos lc, n1]
  · unfold lm_144
    rw [if_pos hd, if_pos lc, q45, rt_I, ifB, decide_eq_false (show ¬ chT T (po T t) = 45 by omega), if_neg Bool.false_ne_true, if_pos lc, q40, rt_I, ifB, decide_eq_false (show ¬ chT T (po T t) = 40 by omega), if_neg Bool.false_ne_true, if_pos lc, q115, rt_I, ifB]
    rcases e with ⟨e, ek⟩ | ⟨e, ek⟩ | ⟨e, ek⟩
    · subst ek
      rw [decide_eq_true e, if_pos rfl, if_pos lc]
    · subst ek
      rw [decide_eq_false (show ¬ chT T (po T t) = 115 by omega), if_neg Bool.false_ne_true, if_pos lc, q110, rt_I, ifB, decide_eq_true e, if_pos rfl, if_pos lc]
    · subst ek
      rw [decide_eq_false (show ¬ chT T (po T t) = 115 by omega), if_neg Bool.false_ne_true, if_pos lc, q110, rt_I, ifB, decide_eq_false (show ¬ chT T (po T t) = 110 by omega), if_neg Bool.false_ne_true, if_pos lc, q109, rt_I, ifB, decide_eq_true e, if_pos rfl, if_pos lc]
  · unfold lm_144
    rw [if_pos hd, if_pos lc, q45, rt_I, ifB, decide_eq_false e1, if_neg Bool.false_ne_true, if_pos lc, q40, rt_I, ifB, decide_eq_false e2, if_neg Bool.false_ne_true, if_pos lc, q115, rt_I, ifB, decide_eq_false e3, if_neg Bool.false_ne_true, if_pos lc, q110, rt_I, ifB, decide_eq_false e4, if_neg Bool.false_ne_true, if_pos lc, q109, rt_I, ifB, decide_eq_false e5, if_neg Bool.false_ne_true, if_pos lc, c140 R K s ht, rt_I, c138 (by omega), rt_I, ifB]
    cases cpB (chT T (po T t)) with
    | true => rw [if_pos rfl, if_pos rfl, if_pos lc]
    | false => rw [if_neg Bool.false_ne_true, if_neg Bool.false_ne_true, if_pos lc]
theorem facP (H : HB T k o id S0 (xS X0) (xS X1)) (hL0 : ∀ l ∈ xS X0, lkd D l = 0) (hL1 : ∀ l ∈ xS X1, lkd D l = 1) : ∀ n dp, 22 ≤ n + dp → FACp T k r cc o id S0 M D X0 X1 (ll_144 w n) dp := by
  have K := H.1
  have hb := HB_b H
  intro n
  induction n with
  | zero =>
    intro dp hn t kt m Q ts A h S R s hX ht hdp L P hQ hm
    have := hb t
    omega
  | succ n ih =>
    intro dp hn t kt m Q ts A h S R s hX ht hdp L P hQ hm
    have hFX := ih (dp + 1) (by omega)
    have hbt := hb t
    have hcb := chT_b (p := po T t) K.2.1
    obtain ⟨m, rfl⟩ : ∃ m0, m = m0 + 2 := ⟨m - 2, by omega⟩
    show GOODo T (xS X0) (xS X1) k r cc o id M D A t t (lm_144 w (ll_144 w n) (some 83) (Int32.ofNat dp) h) _ _ ∨ BADo T k r cc id S0 A t (lm_144 w (ll_144 w n) (some 83) (Int32.ofNat dp) h) _
    obtain ⟨F1, F2, -, F4⟩ := fc_h (w := w) (kc := 0) (X := ll_144 w n) R K s ht (show dp ≤ 20 by omega)
    have lt_k : ∀ x, 0 < x → chT T (po T t) = x → t < k := fun x hx e => (tk_lt K ht).mpr (by
      by_cases z : po T t < T.length
      · exact z
      · rw [chT_n (by omega)] at e; omega)
    by_cases e45 : chT T (po T t) = 45
    · -- a sign
      have htk := lt_k 45 (by omega) e45
      have hpo := po_1 H htk
      obtain ⟨S1, a1, a2, a3⟩ := (q272o H htk L P).1 e45
      obtain ⟨A1, h1, b1, b2, b3, b4⟩ := c141 R K s ht
      rw [show gn k t = t + 1 from if_pos htk] at b3
      have hX1 := RX_u R hX b4
      have l1 := hX1.2.2.2.2.2.1
      have R2 := c9n b2
      have s2 : RS T k (t + 1) (-1) r cc (ah_new A1 (ac_c pt0) 8) := RS_new b3 l1
      have u2 : RU A1 (ah_new A1 (ac_c pt0) 8) 1 := RU_new b2 l1 pt0
      have hX2 := RX_u b2 hX1 u2
      have e12 : (ah_new A1 (ac_c pt0) 8).1 A1.2.1 = ac_c pt0 := ah_new_e
      have hcl : lm_144 w (ll_144 w n) (some 83) (Int32.ofNat dp) h = lb_R (ll_144 w n (some 83) (Int32.ofNat (dp + 1)) (lf_new h1 9 8 [.null, .null, .null, .long 0, .null, .null, .null, .null])) (fun v99 h100 => lb_V (ll_147 (some A1.2.1) (some 10) none v99 h100) (fun h103 => some (.inl (some (.inr (.inr (some A1.2.1)))), h103))) := by
        rw [F1 e45, b1, rt_V]
        unfold lb_h
        dsimp only
        rw [if_pos (rr_lc R2 s2), ar_len b2]
      rw [hcl, show m + 2 = (m + 1) + 1 from rfl, st0 a1]
      rcases hFX (t + 1) (kt + 1) (m + 1) Q ts _ _ S1 R2 s2 hX2 (by omega) (by omega) a2 (by rw [List.replicate_succ, List.cons_append]; exact a3) hQ (by omega) with hg | hbd
      · obtain ⟨q2, t2, u2', A3, h3, S3, c3, m3, f1, f2, f3, f4, f5, f6, f7, f8, f9, f10, f11, f12, f13⟩ := hg
        have e3 : A3.1 A1.2.1 = ac_c pt0 := st_c f7 R2 e12 (by intro z; cases z) (by simp; omega)
        obtain ⟨h4, p4, R4⟩ := c147 f2 e3 (by omega) (some 10) none (some q2)
        have hpo3 := po_s K f12 f5
        have RUt : RU A A3 (0 + 1 + c3) := RU_tr (RU_tr b4 u2) f7
        have pr2 := prt_set (y := ac_c (.inl (9, [tm_r (some 10), tm_r none, tm_r (some q2), .long 0, .null, .null, .null, .null]))) e3 _ _ _ f6
        have RU4 := RU_set (z := .inl (9, [tm_r (some 10), tm_r none, tm_r (some q2), .long 0, .null, .null, .null, .null])) RUt (b4.1) e3
        have s4 := RS_set (y := ac_c (.inl (9, [tm_r (some 10), tm_r none, tm_r (some q2), .long 0, .null, .null, .null, .null]))) f3 (show 86 < A1.2.1 by omega)
        rw [f1, rt_R, p4, rt_V, f9]
        refine Or.inl ⟨A1.2.1, t2, u2' ++ [(126, 0)], _, h4, S3, _, m3, rfl, R4, s4, by omega, f5, ?_, RU4, by omega, rfl, f10, f11, by omega, ?_⟩
        · rw [show po T t2 - po T t = (po T t2 - po T t - 1) + 1 by omega]
          exact ⟨l1, Or.inr (Or.inr (Or.inr (Or.inl ⟨q2, u2', ah_set_e, prt_mono _ _ _ _ (by omega) pr2, rfl⟩)))⟩
        · rw [List.replicate_succ, show ts ++ u2' ++ (126, (0 : Int32)) :: List.replicate kt (126, 0) = ts ++ (u2' ++ [(126, 0)]) ++ List.replicate kt (126, 0) by simp] at f13
          exact f13
      · obtain ⟨q2, t2, ff, A3, h3, S3, c3, f1, f2, f3, f4, f5, f6, f7, f8, f9, f10, f11⟩ := hbd
        have e3 : A3.1 A1.2.1 = ac_c pt0 := st_c f7 R2 e12 (by intro z; cases z) (by simp; omega)
        obtain ⟨h4, p4, R4⟩ := c147 f2 e3 (by omega) (some 10) none (some q2)
        have RUt : RU A A3 (0 + 1 + c3) := RU_tr (RU_tr b4 u2) f7
        have RU4 := RU_set (z := .inl (9, [tm_r (some 10), tm_r none, tm_r (some q2), .long 0, .null, .null, .null, .null])) RUt (b4.1) e3
        have s4 := RS_set (y := ac_c (.inl (9, [tm_r (some 10), tm_r none, tm_r (some q2), .long 0, .null, .null, .null, .null]))) f3 (show 86 < A1.2.1 by omega)
        rw [f1, rt_R, p4, rt_V, f9]
        exact Or.inr ⟨A1.2.1, t2, ff, _, h4, S3, _, rfl, R4, s4, f4, by omega, f6, RU4, by omega, rfl, f10, f11⟩
    · by_cases e40 : chT T (po T t) = 40
      · -- brackets
        have htk := lt_k 40 (by omega) e40
        have hpo := po_1 H htk
        obtain ⟨S1, a1, a2, a3⟩ := (q272o H htk L P).2 e40
        obtain ⟨A1, h1, b1, b2, b3, b4⟩ := c141 R K s ht
        rw [show gn k t = t + 1 from if_pos htk] at b3
        have hX1 := RX_u R hX b4
        have hE := exprP (w := w) H (termP (w := w) H hFX)
        rw [F2 e40, b1, rt_V, if_pos (rr_lc b2 b3), show m + 2 = (m + 1) + 1 from rfl, st0 a1]
        rcases hE (t + 1) (m + 1) (40 :: (List.replicate kt 126 ++ Q)) ts A1 h1 S1 b2 b3 hX1 (by omega) (by omega) a2 a3 (Or.inr (by show sgh 40 < 1; decide)) (by omega) with hg | hbd
        · obtain ⟨q2, t2, u2', A3, h3, S3, c3, m3, f1, f2, f3, f4, f5, f6, f7, f8, f9, f10, f11, f12, ⟨pd, u', hu, hd, f13⟩, hn42, hn47, hn43, hn45⟩ := hg
          have hpo3 := po_s K f12 f5
          obtain ⟨A4, h4, g1, g2, g3, g4⟩ := c148d (w := w) (x := 41) (v := 41) f2 K f3 f5 (by omega) (by omega) rfl
          have hb2 := hb t2
          rw [f1, rt_R, if_pos (rr_lc f2 f3), g1, rt_V, f9]
          rcases g4 with ⟨i1, i2, i3⟩ | ⟨i1, i2⟩
          · obtain ⟨m4, rfl⟩ : ∃ m0, m3 = m0 + 1 := ⟨m3 - 1, by omega⟩
            obtain ⟨S4, j1, j2, j3⟩ := q278c H i2 f11 f13 i1 hd hQ
            have hst : r271_12 (m4 + 1) (Int32.ofNat o) (Int32.ofNat id) 1 S3 = r271_12 m4 (Int32.ofNat o) (Int32.ofNat id) 1 S4 := by
              rw [r271_12]
              dsimp only
              rw [if_neg (by decide), if_neg (by decide), if_neg (show ¬ S3.1 25 = -1 by rw [f11.2.2.1]; exact fun z => by have := (cd_m1 K).mp z; have := K.2.2.2.2 t2 i2; omega)]
              unfold r271_28
              rw [if_neg (by decide), j1, rb_r]
              rfl
            have hpo4 := po_1 H i2
            rw [hst]
            refine Or.inl ⟨q2, t2 + 1, u2', A4, h4, S4, _, m4, rfl, g2, i3, by omega, by omega, ?_, RU_tr (RU_tr b4 f7) g3, by omega, rfl, by omega, j2, by omega, ?_⟩
            · exact prt_mono _ _ _ _ (by omega) (prt_u f2 g3 f6)
            · rw [hu, show ts ++ (u' ++ z0 pd) = ts ++ u' ++ z0 pd by simp]
              exact j3
          · rw [fF_n] at i2
            obtain ⟨m4, rfl⟩ : ∃ m0, m3 = m0 + 2 := ⟨m3 - 2, by omega⟩
            have hl := f13.2.2.2.2.1.1
            have hcnt : (pd ++ 40 :: (List.replicate kt 126 ++ Q)).count 40 ≤ 20 := Nat.le_trans List.count_le_length (by omega)
            have h1c : 1 ≤ (pd ++ 40 :: (List.replicate kt 126 ++ Q)).count 40 := by rw [List.count_append, List.count_cons_self]; omega
            have h30 : (0 : Int32) < S3.1 30 := by
              rw [f13.2.2.1]
              exact (i32_ltn (a := 0) (by omega) (by omega)).mpr (by omega)
            have hne30 : S3.1 30 ≠ 0 := by
              rw [f13.2.2.1]
              exact i32_ofne (b := 0) (by omega) (by omega) (by omega)
            rw [q278b H f11 ⟨hn43, hn45, hn42, hn47⟩ (fun z => absurd z i1) (Or.inr ⟨hne30, h30⟩)]
            exact Or.inr ⟨q2, t2, po T t2, A4, h4, S3, _, rfl, g2, i2, hb2, by omega, f5, RU_tr (RU_tr b4 f7) g3, by omega, rfl, f11.1, f13.1⟩
        · obtain ⟨q2, t2, ff, A3, h3, S3, c3, f1, f2, f3, f4, f5, f6, f7, f8, f9, f10, f11⟩ := hbd
          obtain ⟨A4, h4, g1, g2, g3, g4⟩ := c148d (w := w) (x := 41) (v := 41) f2 K f3 f6 (by omega) (by omega) rfl
          rw [f1, rt_R, if_pos (rr_lc f2 f3), g1, rt_V, f9]
          rcases g4 with ⟨i1, i2, i3⟩ | ⟨i1, i2⟩
          · exact Or.inr ⟨q2, t2 + 1, ff, A4, h4, S3, _, rfl, g2, i3, f4, by omega, by omega, RU_tr (RU_tr b4 f7) g3, by omega, rfl, f10, f11⟩
          · rw [fF_k (i32_nn (by omega))] at i2
            exact Or.inr ⟨q2, t2, ff, A4, h4, S3, _, rfl, g2, i2, f4, by omega, f6, RU_tr (RU_tr b4 f7) g3, by omega, rfl, f10, f11⟩
      · by_cases eB : chT T (po T t) = 115 ∨ chT T (po T t) = 110 ∨ chT T (po T t) = 109
        · -- blocks
          obtain ⟨c, kc, hc, hck, hkc, hc3⟩ : ∃ c kc, chT T (po T t) = c ∧ (chT T (po T t) = 115 ∧ kc = 15 ∨ chT T (po T t) = 110 ∧ kc = 16 ∨ chT T (po T t) = 109 ∧ kc = 17) ∧ (kc, c) ∈ kcB ∧ (c = 115 ∨ c = 110 ∨ c = 109) := by
            rcases eB with e | e | e
            · exact ⟨115, 15, e, Or.inl ⟨e, rfl⟩, by decide, Or.inl rfl⟩
            · exact ⟨110, 16, e, Or.inr (Or.inl ⟨e, rfl⟩), by decide, Or.inr (Or.inl rfl)⟩
            · exact ⟨109, 17, e, Or.inr (Or.inr ⟨e, rfl⟩), by decide, Or.inr (Or.inr rfl)⟩
          have htk := lt_k c (by omega) hc
          have hr81 : rf_272 (Int32.ofNat o) (Int32.ofNat id) S = r272_81 (Int32.ofNat o) (Int32.ofNat id) S := by
            have hcd : S.1 25 = Int32.ofNat c := by
              rw [L.2.2.1]
              refine (cd_ch H.1 (by omega) (by omega) ?_ ?_ rfl).mpr hc
              · rcases hc3 with z | z | z <;> subst z <;> rfl
              · rcases hc3 with z | z | z <;> subst z <;> rfl
            unfold rf_272
            rw [hcd]
            rcases hc3 with z | z | z
            · subst z; rw [if_neg (by decide), if_neg (by decide), if_pos (by decide)]
            · subst z; rw [if_neg (by decide), if_neg (by decide), if_neg (by decide), if_pos (by decide)]
            · subst z; rw [if_neg (by decide), if_neg (by decide), if_neg (by decide), if_neg (by decide), if_pos (by decide)]
          obtain ⟨B1, B2⟩ := q274 H htk L P hc3 hc
          obtain ⟨A1, h1, q2, t2, fl', b1, b2, b3, b4, b5, b6, b7, b8⟩ := c149 (w := w) (kc := kc) R K s htk hX
          have hcl : lm_144 w (ll_144 w n) (some 83) (Int32.ofNat dp) h = rtR (some q2) h1 := by
            rw [(fc_h (w := w) (kc := kc) (X := ll_144 w n) R K s ht (show dp ≤ 20 by omega)).2.2.1 hck, b1, rt_R]
          rw [hcl]
          rcases b8 with ⟨d1, d2, d3, y, z, y2, z2, d4, d5, d6⟩ | ⟨d1, d2⟩
          · subst d2 d3
            obtain ⟨S1, e1, e2, e3⟩ := B1 d1 b7 y z y2 z2 d4 d5
            obtain ⟨S2, g1, g2, g3⟩ := q272s e3 hQ
            have h272 : rf_272 (Int32.ofNat o) (Int32.ofNat id) S = some (1, S2) := by
              rw [hr81]
              unfold r272_81
              rw [e1, rb_r, if_neg (by decide), g1]
            have hpo := po_s K b6 b7
            have m1 := rfv_m d4
            have m2 := rfv_m d5
            rw [show m + 2 = (m + 1) + 1 from rfl, st0 h272]
            refine Or.inl ⟨q2, t + 6, _, A1, h1, S2, 3, m + 1, rfl, b2, b5, by omega, b7, ?_, b4, by omega, rfl, by omega, LXT_1 (fun a ha => g3 a (by omega)) e2, by omega, g2⟩
            rw [show po T (t + 6) - po T t = (po T (t + 6) - po T t - 1) + 1 by omega]
            exact ⟨b3, Or.inr (Or.inr (Or.inl ⟨kc, c, y, z, y2, z2, hkc, hX.2.2.2.1.2.1 y m1.1, hX.2.2.2.2.1.2.1 z m1.2, hX.2.2.2.1.2.1 y2 m2.1, hX.2.2.2.2.1.2.1 z2 m2.2, hL0 y m1.1, hL1 z m1.2, hL0 y2 m2.1, hL1 z2 m2.2, d6, rfl⟩))⟩
          · obtain ⟨S1, e1, e2, e3⟩ := B2 d1
            have h272 : rf_272 (Int32.ofNat o) (Int32.ofNat id) S = some (-1, S1) := by
              rw [hr81]
              unfold r272_81
              rw [e1, rb_r, if_pos rfl]
            have hend : r271_12 (m + 1) (Int32.ofNat o) (Int32.ofNat id) (-1) S1 = some (0, S1) := by
              rw [r271_12]
              dsimp only
              rw [if_pos (by decide)]
              unfold r271_51
              rw [if_pos (by decide)]
            rw [show m + 2 = (m + 1) + 1 from rfl, st0 h272, hend]
            subst d2
            exact Or.inr ⟨q2, t2, _, A1, h1, S1, 3, rfl, b2, b5, hb _, by omega, b7, b4, by omega, rfl, e2, e3⟩
        · have cl := F4 e45 e40 (by omega) (by omega) (by omega)
          cases hcp : cpB (chT T (po T t)) with
          | true =>
            rw [hcp, if_pos rfl] at cl
            have hnn : nmv T (po T t) = none := by
              unfold nmv
              rw [cp_nm hcp, if_neg (fun z => by cases z.1)]
            obtain ⟨A1, h1, q2, x, y, b1, b2, b3, b4, b5, b6⟩ := c150 (w := w) R K s ht hX
            rw [b1, rt_R] at cl
            rw [cl]
            rcases b6 with ⟨y0, z0', d1, d2, d3, d4, d5⟩ | ⟨d1, d2⟩
            · have m1 := rfv_m d1
              obtain ⟨S1, e1, e2, e3⟩ := q272v H d4 L P hQ (Or.inr ⟨rfl, y0, z0', d1, rfl⟩)
              have hpo := po_1 H d4
              rw [show m + 2 = (m + 1) + 1 from rfl, st0 e1]
              refine Or.inl ⟨q2, t + 1, _, A1, h1, S1, 1, m + 1, rfl, b2, d5, by omega, by omega, ?_, b5, by omega, rfl, by omega, e2, by omega, e3⟩
              rw [show po T (t + 1) - po T t = (po T (t + 1) - po T t - 1) + 1 by omega]
              subst d2 d3
              exact ⟨b4, Or.inr (Or.inl ⟨y0, z0', hX.2.2.2.1.2.1 y0 m1.1, hX.2.2.2.2.1.2.1 z0' m1.2, hL0 y0 m1.1, hL1 z0' m1.2, b3, rfl⟩)⟩
            · rw [q272x H L e45 e40 (by omega) (by omega) (by omega) hnn d1]
              rw [fF_n] at d2
              exact Or.inr ⟨q2, t, _, A1, h1, S, 1, rfl, b2, d2, hbt, Nat.le_refl _, ht, b5, by omega, rfl, L.1, P.1⟩
          | false =>
            rw [hcp, if_neg Bool.false_ne_true] at cl
            have hnr : rfv T (xS X0) (xS X1) (po T t) = none := by
              unfold rfv
              rw [hcp, if_neg (fun z => by cases z.1)]
            obtain ⟨A1, h1, q2, u, b1, b2, b3, b4, b5, b6⟩ := c154 (w := w) R K s ht hX.2.2.2.2.2.1
            rw [b1, rt_R] at cl
            rw [cl]
            rcases b6 with ⟨d1, d4, d5⟩ | ⟨d1, d2⟩
            · obtain ⟨S1, e1, e2, e3⟩ := q272v H d4 L P hQ (Or.inl ⟨rfl, u, d1, rfl⟩)
              have hpo := po_1 H d4
              have hu := (nmv_w K d1).2.1
              rw [show m + 2 = (m + 1) + 1 from rfl, st0 e1]
              refine Or.inl ⟨q2, t + 1, _, A1, h1, S1, 1, m + 1, rfl, b2, d5, by omega, by omega, ?_, b5, by omega, rfl, by omega, e2, by omega, e3⟩
              rw [show po T (t + 1) - po T t = (po T (t + 1) - po T t - 1) + 1 by omega]
              refine ⟨b4, Or.inl ⟨Int32.ofNat u, by rw [j_32 (by omega)]; exact b3, rfl, ?_, ?_⟩⟩
              · rw [Int32.toInt_ofNat_of_lt (by omega)]; omega
              · rw [Int32.toInt_ofNat_of_lt (by omega)]; omega
            · rw [q272x H L e45 e40 (by omega) (by omega) (by omega) d1 hnr]
              rw [fF_n] at d2
              exact Or.inr ⟨q2, t, _, A1, h1, S, 1, rfl, b2, d2, hbt, Nat.le_refl _, ht, b5, by omega, rfl, L.1, P.1⟩
end FCT
