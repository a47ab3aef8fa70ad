/-! MAKING acts: a move, a back, a write; taking back -/
section MK4
variable {A A' A1 : ah} {h h1 : pm_H} {M M' : aM} {D : aD} {X : ax} {F : fo} {c o i j l p k x y z kd : Nat} {r : rc} {a : Int32} {w : Option Nat} {q ct : Option Nat}
theorem plc_PNf (W : Wd D) (Wff : Wf D o F) (hl : LN D l) (e : plc D (fX F (lkd D l)) l = some p) : PN D p := plc_PN W (Wff.2.2.2.2.2.2 _ (LN_k W hl)) e
theorem c125 (R : ar A h) (B : Cb A) (C : Cf M A o F) (V : Cd M A D) (W : Wd D) (Wff : Wf D o F) (h178 : 178 ≤ A.2.1) (hr : Rdy D o F i) (hl : LN D l) (hq : ∀ p, q = some p → PN D p) (hx : ∀ k, k < 2 → (xO (fX F k)).length < 120) : Mk M A D o F i (rM o F i l q (plc D (fX F (lkd D l)) l)) 3 18 (fun _ h' => ll_125 w (some (94 + 17 * o)) (some (M 1 l)) (q.map (M 2)) h = rtV h') := by
  obtain ⟨hm, hi, hD, hst⟩ := hr
  have ho := Wff.1
  have e1 : i / 40 = o := by omega
  have e2 : i % 40 = fK F o := by omega
  have hk2 := LN_k W hl
  obtain ⟨A3, h3, p3, R3, a3, b3, s3, n3⟩ := c96n (k := 2) R C ho h178
  obtain ⟨h4, p4, R4⟩ := nw R3 8 3 [.null, .null, .int 0]
  have s4 := st_new R3 (show 145 ≤ A3.2.1 by omega) (.inl (8, [.null, .null, .int 0])) 3
  have a4 := st_c s4 R3 a3 (by intro q; cases q) (by simp)
  obtain ⟨A5, h5, p5, R5, a5, s5, n5⟩ := c98 (y := some (M 1 l)) (z := q.map (M 2)) (v := Int32.ofNat ((fC F + 1) * 3 + o)) (x := A3.2.1) R4 ah_new_e (by omega)
  have n5' : A5.2.1 = A.2.1 + 3 := by rw [n5]; show A3.2.1 + 1 = _; omega
  have b5 := st_c s5 R4 a4 (by intro q; cases q) (by simp; omega)
  have sA5 : st A A5 [] 3 18 := st_hi (st_trans s3 (st_trans s4 s5) :) (by intro y hy; simp at hy; omega)
  have C5 := Cf_st C R sA5 (by intro x hx; cases hx)
  have V5 := Cd_st V R sA5 (by intro x hx; cases hx)
  have d5 := c90 R5 (C5.2.2.2.2.2 _ hk2) V5 W (Wff.2.2.2.2.2.2 _ hk2) hl
  obtain ⟨f1, f2, f3, f4⟩ := axs_rd R5 C5 V5 W hl
  obtain ⟨A6, h6, p6, R6, a6, s6, n6⟩ := c99 (y := some (M 1 l)) (z := some A3.2.1) (v := (plc D (fX F (lkd D l)) l).map (M 2)) R5 b5 (by omega) rfl
  have s45 := st_trans s4 (st_trans s5 s6)
  have s : st A A6 [] 3 18 := st_hi (st_trans sA5 s6 :) (by intro y hy; simp at hy; omega)
  have n6' : A6.2.1 = A.2.1 + 3 := by rw [n6]; exact n5'
  have hPNi : PN (up D i (some (rM o F i l q (plc D (fX F (lkd D l)) l)))) i := ⟨_, up_e, by show 2 ≤ 2; omega⟩
  have hW : Wd (up D i (some (rM o F i l q (plc D (fX F (lkd D l)) l)))) := by
    refine Wd_up hD W ⟨by omega, ?_, ?_, hst, fun j => ?_, ?_, ?_, ?_, ?_, ?_, ?_, fun _ => ⟨l, rfl⟩, ?_, ?_, fun _ => rfl⟩
    · show 1 ≤ 2; omega
    · show 2 ≤ 6; omega
    · have := Wff.2.1 j
      show fK F j < 1000
      omega
    · intro y hy; cases hy; exact LN_up hD hl
    · intro y hy; cases hy; exact hPNi
    · intro y hy; exact PN_up hD (plc_PNf W Wff hl hy)
    · intro y hy; exact PN_up hD (hq y hy)
    · intro y hy; cases hy
    · intro y hy; cases hy
    · intro z; have z' : 2 = 6 := z; omega
    · intro z; have z' : 2 = 1 := z; omega
  have m2 : mN M i (fun q => if q = 0 then A.2.1 else if q = 2 then A.2.1 + 2 else A.2.1 + 1) 2 i = A.2.1 + 2 := up_e
  have m3 : mN M i (fun q => if q = 0 then A.2.1 else if q = 2 then A.2.1 + 2 else A.2.1 + 1) 3 i = A.2.1 + 1 := up_e
  have V6 : Cd (mN M i (fun q => if q = 0 then A.2.1 else if q = 2 then A.2.1 + 2 else A.2.1 + 1)) A6 (up D i (some (rM o F i l q (plc D (fX F (lkd D l)) l)))) := by
    refine Cd_new V W R s hD h178 (fun q => ?_) ?_ ?_ (fun z => ?_) (fun _ => ?_)
    · by_cases z : q = 0
      · simp only [z, if_true]; omega
      · by_cases z2 : q = 2
        · simp only [z2, if_true]; simp; omega
        · simp only [z, z2, if_false]; omega
    · show A6.1 A.2.1 = _
      rw [a6]
      unfold ceA
      have f2 : (rpl (rM o F i l q (plc D (fX F (lkd D l)) l))).map (mN M i (fun q => if q = 0 then A.2.1 else if q = 2 then A.2.1 + 2 else A.2.1 + 1) 2) = some A3.2.1 := by
        show some (mN M i _ 2 i) = _
        rw [m2, n3]
      rw [e1, e2, f2, m3, mN_o hD (y := rl (rM o F i l q (plc D (fX F (lkd D l)) l))) (fun y hy => by cases hy; exact LN_AN hl), mN_o hD (y := rpb (rM o F i l q (plc D (fX F (lkd D l)) l))) (fun y hy => PN_AN (plc_PNf W Wff hl hy))]
      rfl
    · show A6.1 (A.2.1 + 1) = _
      exact st_c s45 R3 b3 (by intro q; cases q) (by simp; omega)
    · have z' : 2 = 1 := z; omega
    · show A6.1 (A.2.1 + 2) = _
      have := st_c s6 R5 a5 (by intro q; cases q) (by simp; omega)
      rw [n3] at this
      rw [this]
      unfold ceP
      rw [mN_o hD (y := rl (rM o F i l q (plc D (fX F (lkd D l)) l))) (fun y hy => by cases hy; exact LN_AN hl), mN_o hD (y := raf (rM o F i l q (plc D (fX F (lkd D l)) l))) (fun y hy => PN_AN (hq y hy))]
      rfl
  obtain ⟨A7, h7, g1, g2, R7, V7, C7, s7⟩ := mkT (w := w) R B C Wff R6 s hD V6 hW (fun z => by have z' : 2 = 6 := z; omega) (fun _ => hx)
  refine ⟨_, A7, h7, ?_, R7, V7, mN_mag hD, C7, s7, hW⟩
  have g2' : ll_100 w (some (94 + 17 * o)) (some A.2.1) h6 = rtV h7 := g2
  unfold ll_125
  rw [lb_hh, p3, rt_V, lb_hh, p4, ar_len R, hc_I (ar_c R4 a4) rfl, Option.bind_some, ar_len R3, p5, rt_V, f1, Option.bind_some, f2, Option.bind_some, f3, Option.bind_some, if_pos f4, d5, rt_R, if_pos (hc_lc (ar_c R5 b5)), p6, rt_V, if_pos g1, g2']
  rfl
theorem c167 (R : ar A h) (B : Cb A) (C : Cf M A o F) (V : Cd M A D) (W : Wd D) (Wff : Wf D o F) (h178 : 178 ≤ A.2.1) (hr : Rdy D o F i) (hl : LN D l) (hq : ∀ p, q = some p → PN D p) : Mk M A D o F i (rB o F l q (plc D (fX F (lkd D l)) l)) 2 15 (fun _ h' => ll_167 w (some (94 + 17 * o)) (some (M 1 l)) (q.map (M 2)) h = rtV h') := by
  obtain ⟨hm, hi, hD, hst⟩ := hr
  have ho := Wff.1
  have e1 : i / 40 = o := by omega
  have e2 : i % 40 = fK F o := by omega
  have hk2 := LN_k W hl
  obtain ⟨A3, h3, p3, R3, a3, b3, s3, n3⟩ := c96n (k := 3) R C ho h178
  have C5 := Cf_st C R s3 (by intro x hx; cases hx)
  have V5 := Cd_st V R s3 (by intro x hx; cases hx)
  have d5 := c90 R3 (C5.2.2.2.2.2 _ hk2) V5 W (Wff.2.2.2.2.2.2 _ hk2) hl
  obtain ⟨f1, f2, f3, f4⟩ := axs_rd R3 C5 V5 W hl
  obtain ⟨A6, h6, p6, R6, a6, s6, n6⟩ := c99 (y := some (M 1 l)) (z := q.map (M 2)) (v := (plc D (fX F (lkd D l)) l).map (M 2)) R3 a3 (by omega) rfl
  have s : st A A6 [] 2 15 := st_hi (st_trans s3 s6 :) (by intro y hy; simp at hy; omega)
  have n6' : A6.2.1 = A.2.1 + 2 := by rw [n6]; exact n3
  have hW : Wd (up D i (some (rB o F l q (plc D (fX F (lkd D l)) l)))) := by
    refine Wd_up hD W ⟨by omega, ?_, ?_, hst, fun j => ?_, ?_, ?_, ?_, ?_, ?_, ?_, fun _ => ⟨l, rfl⟩, ?_, ?_, ?_⟩
    · show 1 ≤ 3; omega
    · show 3 ≤ 6; omega
    · have := Wff.2.1 j
      show fK F j < 1000
      omega
    · intro y hy; cases hy; exact LN_up hD hl
    · intro y hy; exact PN_up hD (hq y hy)
    · intro y hy; exact PN_up hD (plc_PNf W Wff hl hy)
    · intro y hy; cases hy
    · intro y hy; cases hy
    · intro y hy; cases hy
    · intro z; have z' : 3 = 6 := z; omega
    · intro z; have z' : 3 = 1 := z; omega
    · intro z; have z' : 3 ≤ 2 := z; omega
  have m3 : mN M i (fun q => if q = 3 then A.2.1 + 1 else A.2.1) 3 i = A.2.1 + 1 := up_e
  have V6 : Cd (mN M i (fun q => if q = 3 then A.2.1 + 1 else A.2.1)) A6 (up D i (some (rB o F l q (plc D (fX F (lkd D l)) l)))) := by
    refine Cd_new V W R s hD h178 (fun q => ?_) ?_ ?_ (fun z => ?_) (fun z => ?_)
    · by_cases z : q = 3
      · simp only [z, if_true]; omega
      · simp only [z, if_false]; omega
    · show A6.1 A.2.1 = _
      rw [a6]
      unfold ceA
      rw [e1, e2, m3, mN_o hD (y := rl (rB o F l q (plc D (fX F (lkd D l)) l))) (fun y hy => by cases hy; exact LN_AN hl), mN_o hD (y := rpl (rB o F l q (plc D (fX F (lkd D l)) l))) (fun y hy => PN_AN (hq y hy)), mN_o hD (y := rpb (rB o F l q (plc D (fX F (lkd D l)) l))) (fun y hy => PN_AN (plc_PNf W Wff hl hy))]
      rfl
    · show A6.1 (A.2.1 + 1) = _
      exact st_c s6 R3 b3 (by intro q; cases q) (by simp)
    · have z' : 3 = 1 := z; omega
    · have z' : 3 ≤ 2 := z; omega
  obtain ⟨A7, h7, g1, g2, R7, V7, C7, s7⟩ := mkT (w := w) R B C Wff R6 s hD V6 hW (fun z => by have z' : 3 = 6 := z; omega) (fun z => by have z' : 3 ≤ 2 := z; omega)
  refine ⟨_, A7, h7, ?_, R7, V7, mN_mag hD, C7, s7, hW⟩
  have g2' : ll_100 w (some (94 + 17 * o)) (some A.2.1) h6 = rtV h7 := g2
  unfold ll_167
  rw [lb_hh, p3, rt_V, ar_len R, f1, Option.bind_some, f2, Option.bind_some, f3, Option.bind_some, if_pos f4, d5, rt_R, if_pos (hc_lc (ar_c R3 a3)), p6, rt_V, if_pos g1, g2']
  rfl
theorem c157 (R : ar A h) (B : Cb A) (C : Cf M A o F) (V : Cd M A D) (W : Wd D) (Wff : Wf D o F) (h178 : 178 ≤ A.2.1) (hr : Rdy D o F i) (hy : LN D y) (hz : LN D z) (hx : (fW F).length < 120) : Mk M A D o F i (rW o F y z ct (cnt D F y z)) 2 15 (fun _ h' => ll_157 w (some (94 + 17 * o)) (some (M 1 y)) (some (M 1 z)) ct h = rtV h') := by
  obtain ⟨hm, hi, hD, hst⟩ := hr
  have ho := Wff.1
  have e1 : i / 40 = o := by omega
  have e2 : i % 40 = fK F o := by omega
  obtain ⟨A3, h3, p3, R3, a3, b3, s3, n3⟩ := c96n (k := 6) R C ho h178
  have C5 := Cf_st C R s3 (by intro x hx; cases hx)
  have V5 := Cd_st V R s3 (by intro x hx; cases hx)
  have d5 := c158 R3 C5 V5 W Wff hy hz
  obtain ⟨A6, h6, p6, R6, a6, s6, n6⟩ := c160 (y := some (M 1 y)) (z := some (M 1 z)) (u := ct) (v := cnt D F y z) R3 a3 (by omega) rfl
  have s : st A A6 [] 2 15 := st_hi (st_trans s3 s6 :) (by intro y hy; simp at hy; omega)
  have n6' : A6.2.1 = A.2.1 + 2 := by rw [n6]; exact n3
  have hW : Wd (up D i (some (rW o F y z ct (cnt D F y z)))) := by
    refine Wd_up hD W ⟨by omega, ?_, ?_, hst, fun j => ?_, ?_, ?_, ?_, ?_, ?_, ?_, ?_, fun _ => ⟨y, z, rfl, rfl⟩, ?_, ?_⟩
    · show 1 ≤ 6; omega
    · show 6 ≤ 6; omega
    · have := Wff.2.1 j
      show fK F j < 1000
      omega
    · intro y hy; cases hy
    · intro y hy; cases hy
    · intro y hy; cases hy
    · intro y hy; cases hy
    · intro t ht; cases ht; exact LN_up hD hy
    · intro t ht; cases ht; exact LN_up hD hz
    · intro z; exact absurd rfl z
    · intro z; have z' : 6 = 1 := z; omega
    · intro z; have z' : 6 ≤ 2 := z; omega
  have m3 : mN M i (fun q => if q = 3 then A.2.1 + 1 else A.2.1) 3 i = A.2.1 + 1 := up_e
  have V6 : Cd (mN M i (fun q => if q = 3 then A.2.1 + 1 else A.2.1)) A6 (up D i (some (rW o F y z ct (cnt D F y z)))) := by
    refine Cd_new V W R s hD h178 (fun q => ?_) ?_ ?_ (fun z => ?_) (fun z => ?_)
    · by_cases z : q = 3
      · simp only [z, if_true]; omega
      · simp only [z, if_false]; omega
    · show A6.1 A.2.1 = _
      rw [a6]
      unfold ceA
      rw [e1, e2, m3, mN_o hD (y := rrw (rW o F y z ct (cnt D F y z))) (fun t ht => by cases ht; exact LN_AN hy), mN_o hD (y := rcl (rW o F y z ct (cnt D F y z))) (fun t ht => by cases ht; exact LN_AN hz)]
      rfl
    · show A6.1 (A.2.1 + 1) = _
      exact st_c s6 R3 b3 (by intro q; cases q) (by simp)
    · have z' : 6 = 1 := z; omega
    · have z' : 6 ≤ 2 := z; omega
  obtain ⟨A7, h7, g1, g2, R7, V7, C7, s7⟩ := mkT (w := w) R B C Wff R6 s hD V6 hW (fun _ => hx) (fun z => by have z' : 6 ≤ 2 := z; omega)
  refine ⟨_, A7, h7, ?_, R7, V7, mN_mag hD, C7, s7, hW⟩
  have g2' : ll_100 w (some (94 + 17 * o)) (some A.2.1) h6 = rtV h7 := g2
  unfold ll_157
  rw [lb_hh, p3, rt_V, ar_len R, if_pos (hc_lc (ar_c R3 C5.1)), d5, rt_R, if_pos (hc_lc (ar_c R3 a3)), p6, rt_V, if_pos g1, g2']
  rfl
/-! taking back -/
def tbR (D : aD) (o : Nat) (F : fo) (b : Nat) : rc := if knd D b = 1 ∨ knd D b = 4 then rG o F 5 (lnp D b) else if knd D b = 5 then rG o F 4 (lnp D b) else if knd D b = 6 then rW o F (rwo D b) (clo D b) ((D b).bind rcb) (cnt D F (rwo D b) (clo D b)) else rB o F (lnp D b) ((D b).bind rpb) (plc D (fX F (lkd D (lnp D b))) (lnp D b))
theorem c165 {b : Nat} (R : ar A h) (B : Cb A) (C : Cf M A o F) (V : Cd M A D) (W : Wd D) (Wff : Wf D o F) (h178 : 178 ≤ A.2.1) (hr : Rdy D o F i) (hb : D b = some r) (hx : rk r = 6 → (fW F).length < 120) : Mk M A D o F i (tbR D o F b) 2 15 (fun _ h' => ll_165 w (some (94 + 17 * o)) (some (M 0 b)) h = rtV h') := by
  have w1 := W b r hb
  have hk := Cb_k6 B w1.2.1 w1.2.2.1
  have h18 := B.2.2 17 _ rfl
  have e166 : ll_166 (some (rk r)) h = rtI (Int32.ofNat (rk r - 1)) h := by
    unfold ll_166
    have : lf_I h (some (rk r)) [18, 0, 19, 0] = some (Int32.ofNat (rk r - 1)) := by
      unfold lf_I lf_V
      dsimp only
      rw [ar_c R hk]
      rfl
    rw [this]
    rfl
  unfold tbR
  rw [knd_e hb]
  have hsw : ∀ n v, rk r = n → [Value.int 1, .int 0, .int 0, .int 2, .int 3, .int 4][n - 1]? = some (.int v) → la_I h .iaload (some 18) (Int32.ofNat (rk r - 1)) = some v := by
    intro n v e1 e2
    rw [e1]
    exact hc_ldI (ar_c R h18) rfl (by have := w1.2.2.1; omega) e2
  by_cases q1 : rk r = 1
  · rw [if_pos (Or.inl q1)]
    obtain ⟨hl, e1, -⟩ := act_l R V W hb (by omega)
    obtain ⟨M', A', h', p1, p2⟩ := c128 (w := w) R B C V W Wff h178 hr (Or.inr rfl) hl
    refine ⟨M', A', h', ?_, p2⟩
    unfold ll_165
    rw [(act_k R V B W hb).1, Option.bind_some, if_pos (act_k R V B W hb).2, e166, rt_I, hsw 1 1 q1 rfl, Option.bind_some, if_pos rfl, e1, Option.bind_some, if_pos (hc_lc (ar_c R C.1)), p1]
    rfl
  · by_cases q4 : rk r = 4
    · rw [if_pos (Or.inr q4)]
      obtain ⟨hl, e1, -⟩ := act_l R V W hb (by omega)
      obtain ⟨M', A', h', p1, p2⟩ := c128 (w := w) R B C V W Wff h178 hr (Or.inr rfl) hl
      refine ⟨M', A', h', ?_, p2⟩
      unfold ll_165
      rw [(act_k R V B W hb).1, Option.bind_some, if_pos (act_k R V B W hb).2, e166, rt_I, hsw 4 2 q4 rfl, Option.bind_some, if_neg (by decide), if_pos rfl, e1, Option.bind_some, if_pos (hc_lc (ar_c R C.1)), p1]
      rfl
    · rw [if_neg (by omega)]
      by_cases q5 : rk r = 5
      · rw [if_pos q5]
        obtain ⟨hl, e1, -⟩ := act_l R V W hb (by omega)
        obtain ⟨M', A', h', p1, p2⟩ := c128 (w := w) R B C V W Wff h178 hr (Or.inl rfl) hl
        refine ⟨M', A', h', ?_, p2⟩
        unfold ll_165
        rw [(act_k R V B W hb).1, Option.bind_some, if_pos (act_k R V B W hb).2, e166, rt_I, hsw 5 3 q5 rfl, Option.bind_some, if_neg (by decide), if_neg (by decide), if_pos rfl, e1, Option.bind_some, if_pos (hc_lc (ar_c R C.1)), p1]
        rfl
      · rw [if_neg q5]
        by_cases q6 : rk r = 6
        · rw [if_pos q6]
          obtain ⟨hy, hz, e1, e2, -, -⟩ := act_w R V W hb q6
          obtain ⟨M', A', h', p1, p2⟩ := c157 (w := w) (ct := (D b).bind rcb) R B C V W Wff h178 hr hy hz (hx q6)
          refine ⟨M', A', h', ?_, p2⟩
          have e3 : lf_R h (some (M 0 b)) [7, 11] = some ((D b).bind rcb) := by
            rw [hb]
            exact hc_R (o := rcb r) (ar_c R (V.1 b r hb).1) rfl
          unfold ll_165
          rw [(act_k R V B W hb).1, Option.bind_some, if_pos (act_k R V B W hb).2, e166, rt_I, hsw 6 4 q6 rfl, Option.bind_some, if_neg (by decide), if_neg (by decide), if_neg (by decide), if_pos rfl, e1, Option.bind_some, e2, Option.bind_some, e3, Option.bind_some, if_pos (hc_lc (ar_c R C.1)), p1]
          rfl
        · rw [if_neg q6]
          obtain ⟨hl, e1, -⟩ := act_l R V W hb q6
          have hq : ∀ p, (D b).bind rpb = some p → PN D p := by
            rw [hb]
            exact w1.2.2.2.2.2.2.2.1
          obtain ⟨M', A', h', p1, p2⟩ := c167 (w := w) (q := (D b).bind rpb) R B C V W Wff h178 hr hl hq
          refine ⟨M', A', h', ?_, p2⟩
          have e3 : lf_R h (some (M 0 b)) [7, 7] = some (((D b).bind rpb).map (M 2)) := by
            rw [hb]
            exact hc_R (o := (rpb r).map (M 2)) (ar_c R (V.1 b r hb).1) rfl
          have hs : la_I h .iaload (some 18) (Int32.ofNat (rk r - 1)) = some 0 := by
            have : rk r = 2 ∨ rk r = 3 := by have := w1.2.1; have := w1.2.2.1; omega
            rcases this with e | e
            · exact hsw 2 0 e rfl
            · exact hsw 3 0 e rfl
          unfold ll_165
          rw [(act_k R V B W hb).1, Option.bind_some, if_pos (act_k R V B W hb).2, e166, rt_I, hs, Option.bind_some, if_neg (by decide), if_neg (by decide), if_neg (by decide), if_neg (by decide), e1, Option.bind_some, e3, Option.bind_some, if_pos (hc_lc (ar_c R C.1)), p1]
          rfl
end MK4
