/-! BOTH read the draft: numbers; the whole -/
def Rq (id : Nat) (S S' : rs_S) : Prop := (∀ a, a < 23 ∨ 30 < a → S'.1 a = S.1 a) ∧ S'.2.2 = S.2.2 ∧ ∀ a j, a ≠ 28 → (a = 12 ∨ a = 13 → j ≠ id) → (a = 14 ∨ a = 15 → j < 20 * id ∨ 20 * id + 20 ≤ j) → S'.2.1 a j = S.2.1 a j
section RD2
variable {A A' A2 : ah} {h : pm_H} {M : aM} {D : aD} {X0 X1 : ax} {S S0 S' S2 : rs_S} {T Lr Lc U : List Nat} {k t p j n m x b d q N e o id B B' c s kt u r cc dp x3 kc t1 : Nat} {Q pd : List Nat} {ts : List (Nat × Int32)} {v arg fl : Int32} {w : Option Nat} {X : Option Nat → Int32 → pm_H → tm_L} {g : Bool}
theorem Rq_tr (h1 : Rq id S S') (h2 : Rq id S' S2) : Rq id S S2 := ⟨fun a ha => (h2.1 a ha).trans (h1.1 a ha), h2.2.1.trans h1.2.1, fun a j n1 n2 n3 => (h2.2.2 a j n1 n2 n3).trans (h1.2.2 a j n1 n2 n3)⟩
theorem Rq_k (h : Rk id S S') : Rq id S S' := ⟨h.1, h.2.1, fun a j n1 n2 n3 => h.2.2 a j n1 (fun z => n2 (Or.inr z)) n3⟩
theorem Rq_12 : Rq id S (rs_setA S 12 id v) := ⟨fun _ _ => rfl, rfl, fun a j n1 n2 n3 => if_neg (fun z => n2 (Or.inl z.1) z.2)⟩
theorem Rq_X (h : Rq id S S') (X : TX0 T S) : TX0 T S' := ⟨by rw [h.1 22 (by omega)]; exact X.1, X.2.1, X.2.2.1, fun j hj => by rw [h.2.2 21 j (by omega) (by omega) (by omega)]; exact X.2.2.2 j hj⟩
theorem Rq_H (h : Rq id S S') (H : SHL o Lr Lc S) : SHL o Lr Lc S' := by
  unfold SHL SH at H ⊢
  obtain ⟨h1, ⟨h2, h3⟩, ⟨h4, h5⟩, h6⟩ := H
  exact ⟨h1, ⟨by rw [h.2.2 20 _ (by omega) (by omega) (by omega)]; exact h2, fun j hj => by rw [h.2.2 19 _ (by omega) (by omega) (by omega)]; exact h3 j hj⟩, ⟨by rw [h.2.2 20 _ (by omega) (by omega) (by omega)]; exact h4, fun j hj => by rw [h.2.2 19 _ (by omega) (by omega) (by omega)]; exact h5 j hj⟩, h6⟩
theorem nwt_le : nwt v ≤ 12 := by
  have := ndg_le (m := v.toInt.natAbs / 10000)
  unfold nwt
  split <;> split <;> omega
theorem neg_l (hu : u ≤ 1000000000) : (-(Int32.ofNat u)).toInt64 = -(Int64.ofNat u) ∧ (-(Int32.ofNat u)).toInt = -(u : Int) := by
  have e1 : (Int32.ofNat u).toInt = (u : Int) := Int32.toInt_ofNat_of_lt (by omega)
  have e2 : (-(Int32.ofNat u)).toInt = -(u : Int) := by
    rw [Int32.toInt_neg, e1]
    apply Int.bmod_eq_of_le <;> omega
  refine ⟨?_, e2⟩
  apply Int64.toInt_inj.mp
  have e3 : (Int64.ofNat u).toInt = (u : Int) := Int64.toInt_ofNat_of_lt (by omega)
  rw [Int32.toInt_toInt64, e2, j_neg (by omega) (by omega), e3]
theorem readN (H : HB T k o id S0 (xS X0) (xS X1)) (hid : id < 120) (R : ar A h) (s : RS T k t1 (-1) r cc A) (h178 : 178 ≤ A.2.1) (ht : t1 ≤ k) (L : LXT T (xS X0) (xS X1) (po T t1) S) (hk : Rk id S0 S) (hO : S.2.1 13 id = 0) (h12 : S.2.1 12 id = 0) (g : Bool) : ∃ q t' fl' A' h' S' c y, l156_15 w (some 83) (if g = true then 1 else 0) h = rtR (some q) h' ∧ ar A' h' ∧ RS T k t' fl' r cc A' ∧ t' ≤ k ∧ RU A A' c ∧ c ≤ 2 ∧ r265_70 (Int32.ofNat o) (Int32.ofNat id) (if g = true then 1 else 0) S = some (y, S') ∧ Rk id S0 S' ∧ ((y = 1 ∧ fl' = -1 ∧ t' = k ∧ S'.2.1 12 id = 0 ∧ ∃ v, OUTP id [(97, v)] S' ∧ prt M A' D 1 q [(97, v)]) ∨ (y = 0 ∧ ∃ f, f ≤ 20 ∧ S'.1 24 = Int32.ofNat f ∧ (if t' < k then fF T t' fl' else fl') = Int32.ofNat f)) := by
  have K := H.1
  have hb := HB_b H
  obtain ⟨A1, h1, q1, z, b1, b2, b3, b4, b5, b6⟩ := c154 (w := w) R K s ht h178
  -- the class, with its sign
  have cl : ∃ A2 h2 q2 c2, l156_15 w (some 83) (if g = true then 1 else 0) h = rtR (some q2) h2 ∧ ar A2 h2 ∧ 178 ≤ q2 ∧ A2.1 q2 = ac_c (.inl (9, [.ref 8, .null, .null, .long (if g = true then -(Int64.ofNat z) else Int64.ofNat z), .null, .null, .null, .null])) ∧ RU A A2 c2 ∧ c2 ≤ 2 ∧ ∀ t' fl', RS T k t' fl' r cc A1 → RS T k t' fl' r cc A2 := by
    unfold l156_15
    rw [if_pos (rr_lc R s), b1, rt_R]
    cases g with
    | false =>
      refine ⟨A1, h1, q1, 1, ?_, b2, b4, b3, b5, by omega, fun _ _ z => z⟩
      rw [if_neg Bool.false_ne_true, if_pos rfl]
    | true =>
      have l1 : 178 ≤ A1.2.1 := Nat.le_trans h178 b5.1
      obtain ⟨h2, p2, R2⟩ := c146 b2 l1 (-(Int64.ofNat z))
      refine ⟨_, h2, A1.2.1, 2, ?_, R2, l1, ah_new_e, RU_tr b5 (RU_new b2 l1 _), by omega, fun _ _ z => RS_new z l1⟩
      rw [if_pos rfl, if_neg (by decide), hc_J (v := Int64.ofNat z) (ar_c b2 b3) rfl, Option.bind_some, p2]
      rfl
  obtain ⟨A2, h2, q2, c2, d1, d2, d3, d4, d5, d6, d7⟩ := cl
  have hrd : rd_I S 12 (Int32.ofNat id) = some 0 := by rw [rdI (n := 120) (by decide) hid (by omega), h12]
  rcases b6 with ⟨e1, e2, e3⟩ | ⟨e1, e2⟩
  · have hu := (nmv_w K e1).2.1
    have hcd : S.1 25 = -2 := by rw [L.2.2.1]; exact (cd_m2 K).mpr (by rw [e1]; rfl)
    have h26 := L.2.2.2.1 z e1
    have key : ∀ arg : Int32, ∃ S', r265_117 (Int32.ofNat o) arg (97 : Int32) (Int32.ofNat id) S = some ((if t1 + 1 = k then 1 else 0), S') ∧ Rk id S0 S' ∧ OUTP id [(97, arg)] S' ∧ S'.1 24 = Int32.ofNat (po T (t1 + 1)) ∧ S'.2.1 12 id = 0 := by
      intro arg
      obtain ⟨S1, f1, f2, f3, f4, f5⟩ := q275o (arg := arg) hid hO
      have L1 := LXT_1 (fun a _ => by rw [f4]) L
      obtain ⟨S2, g1, g2, g3⟩ := q266p H L1 (Rk_tr hk f3)
      have hO2 : OUTP id [(97, arg)] S2 := by unfold OUTP at f2 ⊢; rw [g3.2]; exact f2
      have h12' : S2.2.1 12 id = 0 := by rw [g3.2, f5]; exact h12
      refine ⟨S2, ?_, Rk_tr (Rk_tr hk f3) (Rk_l g3), hO2, g2.1, h12'⟩
      unfold r265_117
      rw [f1, rb_r, g1, rb_r]
      by_cases q : t1 + 1 = k
      · rw [if_pos (show S2.1 25 = -1 by rw [g2.2.2.1]; exact (cd_m1 K).mpr (by rw [q, K.2.2.2.1]; exact Nat.le_refl _)), if_pos q]
      · rw [if_neg (show ¬ S2.1 25 = -1 by rw [g2.2.2.1]; exact fun y => by have := (cd_m1 K).mp y; have := K.2.2.2.2 (t1 + 1) (by omega); omega), if_neg q]
    obtain ⟨S', f1, f2, f3, f4, f5⟩ := key (if g = true then -(Int32.ofNat z) else Int32.ofNat z)
    have hr : r265_70 (Int32.ofNat o) (Int32.ofNat id) (if g = true then 1 else 0) S = some ((if t1 + 1 = k then 1 else 0), S') := by
      unfold r265_70
      rw [hrd, Option.bind_some, if_pos rfl, if_pos hcd, h26]
      cases g with
      | false => rw [if_neg Bool.false_ne_true, if_pos rfl]; rw [if_neg Bool.false_ne_true] at f1; exact f1
      | true => rw [if_pos rfl, if_neg (by decide)]; rw [if_pos rfl] at f1; exact f1
    refine ⟨q2, t1 + 1, -1, A2, h2, S', c2, _, d1, d2, d7 _ _ e3, by omega, d5, d6, hr, f2, ?_⟩
    by_cases q : t1 + 1 = k
    · rw [if_pos q]
      refine Or.inl ⟨rfl, rfl, q, f5, _, f3, d3, Or.inl ⟨_, ?_, rfl, ?_, ?_⟩⟩
      · rw [d4]
        cases g with
        | false => rw [if_neg Bool.false_ne_true, if_neg Bool.false_ne_true, j_32 (by omega)]
        | true => rw [if_pos rfl, if_pos rfl, (neg_l hu).1]
      · cases g with
        | false => rw [if_neg Bool.false_ne_true, Int32.toInt_ofNat_of_lt (by omega)]; omega
        | true => rw [if_pos rfl, (neg_l hu).2]; omega
      · cases g with
        | false => rw [if_neg Bool.false_ne_true, Int32.toInt_ofNat_of_lt (by omega)]; omega
        | true => rw [if_pos rfl, (neg_l hu).2]; omega
    · rw [if_neg q]
      refine Or.inr ⟨rfl, po T (t1 + 1), hb _, f4, ?_⟩
      rw [if_pos (by omega), fF_n]
  · rw [fF_n] at e2
    have hcd : ¬ S.1 25 = -2 := by rw [L.2.2.1]; exact fun y => by have := (cd_m2 K).mp y; rw [e1] at this; cases this
    have hr : r265_70 (Int32.ofNat o) (Int32.ofNat id) (if g = true then 1 else 0) S = some (0, S) := by
      unfold r265_70
      rw [hrd, Option.bind_some, if_pos rfl, if_neg hcd]
    refine ⟨q2, t1, _, A2, h2, S, c2, 0, d1, d2, d7 _ _ e2, ht, d5, d6, hr, hk, Or.inr ⟨rfl, po T t1, hb _, L.1, ?_⟩⟩
    rw [fF_k (i32_nn (by have := hb t1; omega))]
    split <;> rfl
/-- all of it -/
theorem readA (R : ar A h) (C : CR A T U) (hX : RX M A D r cc X0 X1) (X : TX0 T S) (HS : SHL o (xS X0) (xS X1) S) (hL0 : ∀ l ∈ xS X0, lkd D l = 0) (hL1 : ∀ l ∈ xS X1, lkd D l = 1) (hid : id < 120) (hT : 0 < T.length) : ∃ x t' fl' k A' h' S' c y, ll_131 w (some 83) (some r) (some cc) h = rtR (some x) h' ∧ ar A' h' ∧ RS T k t' fl' r cc A' ∧ RU A A' c ∧ c ≤ 70 ∧ rf_265 (Int32.ofNat o) (Int32.ofNat id) S = some (y, S') ∧ Rq id S S' ∧ ((y = 1 ∧ fl' = -1 ∧ CNT M A' D id S' x) ∨ (y = 0 ∧ ∃ f, f ≤ 20 ∧ S'.1 24 = Int32.ofNat f ∧ fl' = Int32.ofNat f)) := by
  obtain ⟨k, A1, h1, K, R1, s1, u1, hcl⟩ := c131a (w := w) R C X.2.2.1 X.2.1 (show 81 ≤ r by have := hX.2.2.2.2.2.2.1; omega) (show 81 ≤ cc by have := hX.2.2.2.2.2.2.2.1; omega)
  have hk1 : 1 ≤ k := by
    by_cases z : k = 0
    · have := K.2.2.2.1; rw [z] at this; have e : po T 0 = 0 := rfl; omega
    · omega
  have k20 := K.2.2.1
  have hX1 := RX_u R hX u1
  have l1 := hX1.2.2.2.2.2.1
  -- the reference begins
  have q0 : Rq id S (rs_setI S 23 0) := Rq_k (Rk_I (by omega) (by omega))
  have q1 : Rq id S (rs_setA (rs_setI S 23 0) 13 id 0) := Rq_tr q0 (Rq_k (Rk_A (Or.inr (Or.inl ⟨rfl, rfl⟩))))
  obtain ⟨S4, g1, g2, g3⟩ := q266 (p := 0) (Rq_X q1 X) K (Rq_H q1 HS) (show (rs_setA (rs_setI S 23 0) 13 id 0).1 23 = Int32.ofNat 0 from rfl) (Nat.zero_le _)
  have q4 : Rq id S S4 := Rq_tr q1 (Rq_k (Rk_l g2))
  have h13 : S4.2.1 13 id = 0 := by rw [g2.2]; exact if_pos ⟨rfl, rfl⟩
  have hrf : rf_265 (Int32.ofNat o) (Int32.ofNat id) S = if S4.1 25 = (61 : Int32) then r265_36 (Int32.ofNat o) (Int32.ofNat id) (1 : Int32) (Int32.ofNat id) S4 else r265_36 (Int32.ofNat o) (Int32.ofNat id) (0 : Int32) (Int32.ofNat id) S4 := by
    unfold rf_265 rb_S
    dsimp only
    rw [wrI (n := 120) (by decide) hid (by omega), Option.bind_some, g1, rb_r]
  have k61 : S4.1 25 = (61 : Int32) ↔ chT T (po T 0) = 61 := by rw [g3.2.2.1]; exact cd_ch (x := 61) K (by omega) (by omega) rfl rfl rfl
  have k45 : S4.1 25 = (45 : Int32) ↔ chT T (po T 0) = 45 := by rw [g3.2.2.1]; exact cd_ch (x := 45) K (by omega) (by omega) rfl rfl rfl
  have q5 : ∀ v, Rq id S (rs_setA S4 12 id v) := fun v => Rq_tr q4 Rq_12
  have L5 : ∀ v, LXT T (xS X0) (xS X1) (po T 0) (rs_setA S4 12 id v) := fun v => LXT_1 (S := S4) (fun _ _ => rfl) g3
  have HB5 : ∀ v, HB T k o id (rs_setA S4 12 id v) (xS X0) (xS X1) := fun v => ⟨K, Rq_X (q5 v) X, Rq_H (q5 v) HS⟩
  have h12 : ∀ v, (rs_setA S4 12 id v).2.1 12 id = v := fun v => if_pos ⟨rfl, rfl⟩
  rw [if_neg (show ¬ Int32.ofNat k = (0 : Int32) from i32_ofne (b := 0) (by omega) (by omega) (by omega)), if_pos (rr_lc R1 s1), c139 (x := 61) (v := 61) R1 K s1 (by omega) (by omega) rfl, rt_I, ifB] at hcl
  by_cases e61 : chT T (po T 0) = 61
  · rw [decide_eq_true e61, if_pos rfl, if_pos (rr_lc R1 s1)] at hcl
    rw [if_pos (k61.mpr e61)] at hrf
    obtain ⟨A2, h2, b1, b2, b3, b4⟩ := c141 R1 K s1 (by omega)
    rw [show gn k 0 = 1 from if_pos (by omega)] at b3
    have hX2 := RX_u R1 hX1 b4
    have l2 := hX2.2.2.2.2.2.1
    have R3 := c9n b2
    have s3 : RS T k 1 (-1) r cc (ah_new A2 (ac_c pt0) 8) := RS_new b3 l2
    have u3 : RU A2 (ah_new A2 (ac_c pt0) 8) 1 := RU_new b2 l2 pt0
    have hX3 := RX_u b2 hX2 u3
    obtain ⟨S6, d1, d2, d3⟩ := q266p (HB5 1) (L5 1) (Rk_0 (id := id))
    have hO6 : S6.2.1 13 id = 0 := by rw [d3.2]; exact h13
    have h126 : S6.2.1 12 id = 1 := by rw [d3.2]; exact h12 1
    obtain ⟨q2, t2, fl2, A4, h4, S7, c4, y, i1, i2, i3, i4, i5, i6, i7, i8, i9⟩ := readF (w := w) (HB5 1) hL0 hL1 hid R3 s3 hX3 hk1 d2 (Rk_l d3) hO6 h126
    have e4 : A4.1 A2.2.1 = ac_c pt0 := st_c i5 R3 ah_new_e (by intro z; cases z) (by simp; omega)
    obtain ⟨h5, p5, R5⟩ := c147 i2 e4 (by omega) (some 7) none (some q2)
    have s5 := RS_set (y := ac_c (.inl (9, [tm_r (some 7), tm_r none, tm_r (some q2), .long 0, .null, .null, .null, .null]))) i3 (show 86 < A2.2.1 by omega)
    have RU5 := RU_set (z := .inl (9, [tm_r (some 7), tm_r none, tm_r (some q2), .long 0, .null, .null, .null, .null])) (RU_tr (RU_tr (RU_tr u1 b4) u3) i5) (Nat.le_trans u1.1 b4.1) e4
    obtain ⟨A6, h6, j1, j2, j3, j4⟩ := c131z (w := w) R5 K s5 i4 (some A2.2.1)
    have hy : pm_fit 3 (.int y) = true := by rcases i9 with ⟨z, -⟩ | ⟨z, -⟩ <;> subst z <;> decide
    have hrf2 : rf_265 (Int32.ofNat o) (Int32.ofNat id) S = some (y, S7) := by
      have n45 : ¬ (rs_setA S4 12 id 1).1 25 = (45 : Int32) := by
        show ¬ S4.1 25 = (45 : Int32)
        exact fun z => by have := k45.mp z; omega
      rw [hrf]
      unfold r265_36
      rw [wrZ (n := 120) (Or.inr rfl) (by decide) hid (by omega), Option.bind_some, if_neg n45]
      unfold r265_51
      rw [rdI (n := 120) (by decide) hid (by omega), h12 1, Option.bind_some, if_neg (by decide)]
      unfold r265_65
      rw [d1, rb_r]
      unfold r265_70
      rw [rdI (n := 120) (by decide) hid (by omega), h126, Option.bind_some, if_neg (by decide), i7, rb_r, if_pos hy]
    refine ⟨A2.2.1, t2, _, k, A6, h6, S7, _, y, ?_, j2, j3, RU_tr RU5 j4, by omega, hrf2, Rq_tr (q5 1) (Rq_k i8), ?_⟩
    · rw [hcl, b1, rt_V]
      unfold lb_h
      dsimp only
      rw [if_pos (rr_lc R3 s3), i1, rt_R, ar_len b2, p5, rt_V, j1]
    · rcases i9 with ⟨z1, z2, z3, z4, ts, z5, z6, z7⟩ | ⟨z1, f, z2, z3, z4⟩
      · subst z3 z2
        refine Or.inl ⟨z1, if_neg (by omega), ts, z5, z6, Or.inr ⟨z4, l2, q2, ?_, ?_⟩⟩
        · have := st_c j4 R5 (a := A2.2.1) ah_set_e (by intro z; cases z) (by simp; omega)
          exact this
        · exact prt_u R5 j4 (prt_set e4 _ _ _ z7)
      · exact Or.inr ⟨z1, f, z2, z3, z4⟩
  · rw [decide_eq_false e61, if_neg Bool.false_ne_true, if_pos (rr_lc R1 s1)] at hcl
    rw [if_neg (fun z => e61 (k61.mp z))] at hrf
    have fin : ∀ (g : Bool) (t1 : Nat) (A2 : ah) (h2 : pm_H) (S6 : rs_S), ar A2 h2 → RS T k t1 (-1) r cc A2 → RU A A2 0 → t1 ≤ k → LXT T (xS X0) (xS X1) (po T t1) S6 → Rk id (rs_setA S4 12 id 0) S6 → S6.2.1 13 id = 0 → S6.2.1 12 id = 0 → ll_156 w (some 83) h1 = l156_15 w (some 83) (if g = true then 1 else 0) h2 → r265_36 (Int32.ofNat o) (Int32.ofNat id) (0 : Int32) (Int32.ofNat id) S4 = r265_70 (Int32.ofNat o) (Int32.ofNat id) (if g = true then 1 else 0) S6 → ∃ x t' fl' k A' h' S' c y, ll_131 w (some 83) (some r) (some cc) h = rtR (some x) h' ∧ ar A' h' ∧ RS T k t' fl' r cc A' ∧ RU A A' c ∧ c ≤ 70 ∧ rf_265 (Int32.ofNat o) (Int32.ofNat id) S = some (y, S') ∧ Rq id S S' ∧ ((y = 1 ∧ fl' = -1 ∧ CNT M A' D id S' x) ∨ (y = 0 ∧ ∃ f, f ≤ 20 ∧ S'.1 24 = Int32.ofNat f ∧ fl' = Int32.ofNat f)) := by
      intro g t1 A2 h2 S6 R2 s2 u2 ht1 L6 k6 hO6 h126 hc hr
      obtain ⟨q2, t2, fl2, A4, h4, S7, c4, y, i1, i2, i3, i4, i5, i6, i7, i8, i9⟩ := readN (w := w) (M := M) (D := D) (HB5 0) hid R2 s2 (Nat.le_trans hX.2.2.2.2.2.1 u2.1) ht1 L6 k6 hO6 h126 g
      obtain ⟨A6, h6, j1, j2, j3, j4⟩ := c131z (w := w) i2 K i3 i4 (some q2)
      refine ⟨q2, t2, _, k, A6, h6, S7, _, y, ?_, j2, j3, RU_tr (RU_tr u2 i5) j4, by omega, hrf.trans (hr.trans i7), Rq_tr (q5 0) (Rq_k i8), ?_⟩
      · rw [hcl, hc, i1, rt_R, j1]
      · rcases i9 with ⟨z1, z2, z3, z4, v, z6, z7⟩ | ⟨z1, f, z2, z3, z4⟩
        · subst z3 z2
          refine Or.inl ⟨z1, if_neg (by omega), [(97, v)], ⟨by simp, ?_⟩, z6, Or.inl ⟨z4, ⟨v, rfl⟩, prt_u i2 j4 z7⟩⟩
          have := nwt_le (v := v)
          show ([(97, v)].map twt).sum ≤ 60
          have e : ([(97, v)].map twt).sum = nwt v := by simp [twt]
          omega
        · exact Or.inr ⟨z1, f, z2, z3, z4⟩
    have h36 : r265_36 (Int32.ofNat o) (Int32.ofNat id) (0 : Int32) (Int32.ofNat id) S4 = if S4.1 25 = (45 : Int32) then r265_65 (Int32.ofNat o) (Int32.ofNat id) (1 : Int32) (rs_setA S4 12 id 0) else r265_70 (Int32.ofNat o) (Int32.ofNat id) (0 : Int32) (rs_setA S4 12 id 0) := by
      unfold r265_36
      rw [wrZ (n := 120) (Or.inl rfl) (by decide) hid (by omega), Option.bind_some, show (rs_setA S4 12 id 0).1 25 = S4.1 25 from rfl]
      by_cases z : S4.1 25 = (45 : Int32)
      · rw [if_pos z, if_pos z]
        unfold r265_51
        rw [rdI (n := 120) (by decide) hid (by omega), h12 0, Option.bind_some, if_pos rfl, if_neg (by decide)]
      · rw [if_neg z, if_neg z]
        unfold r265_51
        rw [rdI (n := 120) (by decide) hid (by omega), h12 0, Option.bind_some, if_pos rfl, if_pos rfl]
    by_cases e45 : chT T (po T 0) = 45
    · obtain ⟨A2, h2, b1, b2, b3, b4⟩ := c141 R1 K s1 (by omega)
      rw [show gn k 0 = 1 from if_pos (by omega)] at b3
      obtain ⟨S6, d1, d2, d3⟩ := q266p (HB5 0) (L5 0) (Rk_0 (id := id))
      refine fin true 1 A2 h2 S6 b2 b3 (by simpa using RU_tr u1 b4) hk1 d2 (Rk_l d3) (by rw [d3.2]; exact h13) (by rw [d3.2]; exact h12 0) ?_ ?_
      · unfold ll_156
        rw [if_pos (rr_lc R1 s1), c139 (x := 45) (v := 45) R1 K s1 (by omega) (by omega) rfl, rt_I, decide_eq_true e45, if_pos rfl, if_neg (by decide), if_pos (rr_lc R1 s1), b1, rt_V]
      · rw [h36, if_pos (k45.mpr e45)]
        unfold r265_65
        rw [d1, rb_r]
        rfl
    · refine fin false 0 A1 h1 (rs_setA S4 12 id 0) R1 s1 u1 (by omega) (L5 0) Rk_0 h13 (h12 0) ?_ ?_
      · unfold ll_156
        rw [if_pos (rr_lc R1 s1), c139 (x := 45) (v := 45) R1 K s1 (by omega) (by omega) rfl, rt_I, decide_eq_false e45, if_neg Bool.false_ne_true, if_pos rfl]
      · rw [h36, if_neg (fun z => e45 (k45.mp z)), if_neg Bool.false_ne_true]
end RD2
