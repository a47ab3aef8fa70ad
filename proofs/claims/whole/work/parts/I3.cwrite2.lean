/-! THE CLASS writes a content -/
section WR2
variable {A A' A2 : ah} {h : pm_H} {M : aM} {D : aD} {F : fo} {o i j k n m p q x y z y2 z2 a b kc0 cd d r : Nat} {T X Lr Lc Y : List Nat} {w : Option Nat} {ts t : List (Nat × Int32)} {v : Int32}
theorem i32_mod {n k : Nat} (hn : n < 2 ^ 31) (hk : k < 2 ^ 31) : Int32.ofNat n - Int32.ofNat n / Int32.ofNat k * Int32.ofNat k = Int32.ofNat (n % k) := by
  rw [i32_divn hn hk, i32_ml, i32_sub (Nat.div_mul_le_self n k)]
  congr 1
  have := Nat.div_add_mod n k
  rw [Nat.mul_comm] at this
  omega
theorem WR_t (R : ar A h) (s : WU A A') (H : WRt A o T) {T' : List Nat} {cap : Nat} (e : A'.1 92 = ac_t T' cap) : WRt A' o T' := ⟨st_c s R H.1 (by intro q; cases q) (by simp), cap, e⟩
/-- one digit of a rest -/
theorem w62s (R : ar A h) (B : Cb A) (H : WRt A o T) (hu : 0 < d) (hu2 : d ≤ 1000) (hr : 0 < r) (hr2 : r < 10 * d) (hl : T.length < 240) : ∃ A' h', (∀ n, l220_62 w (n + 1) (some 91) (Int32.ofNat r) (Int32.ofNat d) h = l220_62 w n (some 91) (Int32.ofNat (r % d)) (Int32.ofNat (d / 10)) h') ∧ ar A' h' ∧ WU A A' ∧ WRt A' o (T ++ [48 + r / d]) := by
  obtain ⟨g1, g2, -⟩ := w_rd R H
  have hq : r / d < 10 := Nat.div_lt_of_lt_mul (by rw [Nat.mul_comm]; exact hr2)
  obtain ⟨A', h', p1, p2, p3, p4⟩ := a58 (w := w) (m := r / d) R B H (by omega) (by omega)
  have ed : dgs (r / d) = [48 + r / d] := by show dgF 6 _ = _; rw [dgF, if_pos hq]
  rw [ed] at p4
  have n0 : ¬ Int32.ofNat d = 0 := fun e => by have := i32_inj (b := 0) (by omega) (by omega) e; omega
  refine ⟨A', h', fun n => ?_, p2, p3, p4⟩
  rw [l220_62]
  dsimp only
  rw [if_neg (fun e => by have := (i32_len (b := 0) (by omega) (by omega)).mp e; omega), if_neg (fun e => by have := i32_inj (b := 0) (by omega) (by omega) e; omega), g1, Option.bind_some, if_neg n0, if_pos g2, i32_divn (by omega) (by omega), p1, rt_R, if_neg n0]
  have e1 : Int32.ofNat r - Int32.ofNat (r / d) * Int32.ofNat d = Int32.ofNat (r % d) := by
    have := i32_mod (n := r) (k := d) (by omega) (by omega)
    rw [i32_divn (by omega) (by omega)] at this
    exact this
  rw [e1, show Int32.ofNat d / (10 : Int32) = Int32.ofNat (d / 10) from i32_divn (k := 10) (by omega) (by omega)]
theorem w62e (hh : d = 0 ∨ r = 0) (hd : d < 2 ^ 31) (hr : r < 2 ^ 31) : l220_62 w (n + 1) (some 91) (Int32.ofNat r) (Int32.ofNat d) h = rtV h := by
  rw [l220_62]
  dsimp only
  by_cases q : d = 0
  · rw [if_pos (show Int32.ofNat d ≤ (0 : Int32) from (i32_len (b := 0) hd (by omega)).mpr (by omega))]
  · rw [if_neg (fun e => by have := (i32_len (b := 0) hd (by omega)).mp e; omega), if_pos (by rw [show r = 0 by omega]; rfl)]
theorem w62 (R : ar A h) (Q : CX M A D o F) (H : WRt A o T) (hr : r < 10000) (hl : T.length < 220) : ∃ A' h', l220_62 w lf_N (some 91) (Int32.ofNat r) (1000 : Int32) h = rtV h' ∧ ar A' h' ∧ WU A A' ∧ WRt A' o (T ++ frF 4 r) := by
  rw [show lf_N = 19995 + 1 + 1 + 1 + 1 + 1 from rfl, show (1000 : Int32) = Int32.ofNat 1000 from rfl]
  by_cases h1 : r = 0
  · refine ⟨A, h, w62e (Or.inr h1) (by omega) (by omega), R, WU_refl, ?_⟩
    rw [frF, if_pos h1, List.append_nil]; exact H
  · obtain ⟨A1, k1, p1, R1, s1, H1⟩ := w62s (w := w) (d := 1000) R Q.2.2 H (by omega) (by omega) (show 0 < r by omega) (by omega) (by omega)
    rw [p1, frF, if_neg h1]
    have Q1 := CX_w R Q s1
    by_cases h2 : r % 1000 = 0
    · refine ⟨A1, k1, w62e (Or.inr h2) (by omega) (by omega), R1, s1, ?_⟩
      rw [frF, if_pos (by omega)]; exact H1
    · obtain ⟨A2, k2, p2, R2, s2, H2⟩ := w62s (w := w) (d := 1000 / 10) R1 Q1.2.2 H1 (by omega) (by omega) (show 0 < r % 1000 by omega) (by omega) (by rw [List.length_append, List.length_singleton]; omega)
      rw [p2, frF, if_neg (by omega)]
      have Q2 := CX_w R1 Q1 s2
      by_cases h3 : r % 1000 % (1000 / 10) = 0
      · refine ⟨A2, k2, w62e (Or.inr h3) (by omega) (by omega), R2, WU_tr s1 s2, ?_⟩
        rw [frF, if_pos (by omega)]
        rw [List.append_assoc] at H2
        rw [show 48 + r % 1000 * 10 / 1000 = 48 + r % 1000 / (1000 / 10) by omega]
        exact H2
      · obtain ⟨A3, k3, p3, R3, s3, H3⟩ := w62s (w := w) (d := 1000 / 10 / 10) R2 Q2.2.2 H2 (by omega) (by omega) (show 0 < r % 1000 % (1000 / 10) by omega) (by omega) (by rw [List.length_append, List.length_append, List.length_singleton, List.length_singleton]; omega)
        rw [p3, frF, if_neg (by omega)]
        have Q3 := CX_w R2 Q2 s3
        by_cases h4 : r % 1000 % (1000 / 10) % (1000 / 10 / 10) = 0
        · refine ⟨A3, k3, w62e (Or.inr h4) (by omega) (by omega), R3, WU_tr (WU_tr s1 s2) s3, ?_⟩
          rw [frF, if_pos (by omega)]
          rw [List.append_assoc, List.append_assoc] at H3
          rw [show 48 + r % 1000 * 10 / 1000 = 48 + r % 1000 / (1000 / 10) by omega, show 48 + r % 1000 * 10 % 1000 * 10 / 1000 = 48 + r % 1000 % (1000 / 10) / (1000 / 10 / 10) by omega]
          exact H3
        · obtain ⟨A4, k4, p4, R4, s4, H4⟩ := w62s (w := w) (d := 1000 / 10 / 10 / 10) R3 Q3.2.2 H3 (by omega) (by omega) (show 0 < r % 1000 % (1000 / 10) % (1000 / 10 / 10) by omega) (by omega) (by rw [List.length_append, List.length_append, List.length_append, List.length_singleton, List.length_singleton, List.length_singleton]; omega)
          rw [p4, frF, if_neg (by omega), frF]
          refine ⟨A4, k4, w62e (Or.inl (by omega)) (by omega) (by omega), R4, WU_tr (WU_tr (WU_tr s1 s2) s3) s4, ?_⟩
          rw [List.append_assoc, List.append_assoc, List.append_assoc] at H4
          rw [show 48 + r % 1000 * 10 / 1000 = 48 + r % 1000 / (1000 / 10) by omega, show 48 + r % 1000 * 10 % 1000 * 10 / 1000 = 48 + r % 1000 % (1000 / 10) / (1000 / 10 / 10) by omega, show 48 + r % 1000 * 10 % 1000 * 10 % 1000 * 10 / 1000 = 48 + r % 1000 % (1000 / 10) % (1000 / 10 / 10) / (1000 / 10 / 10 / 10) by omega]
          exact H4
theorem abI (h1 : -1000000000 ≤ v.toInt) (h2 : v.toInt ≤ 1000000000) : (ab v.toInt64).toInt32 = Int32.ofNat v.toInt.natAbs := by
  have e := ab_i (v := v.toInt64) (by rw [Int32.toInt_toInt64]; omega) (by rw [Int32.toInt_toInt64]; omega)
  rw [Int32.toInt_toInt64] at e
  apply Int32.toInt_inj.mp
  rw [Int64.toInt_toInt32, e, Int32.toInt_ofNat_of_lt (by omega)]
  apply Int.bmod_eq_of_le <;> omega
theorem c220 (R : ar A h) (Q : CX M A D o F) (H : WRt A o T) (h1 : -1000000000 ≤ v.toInt) (h2 : v.toInt ≤ 1000000000) (hl : T.length < 200) : ∃ A' h', ll_220 w (some 91) v.toInt64 h = rtV h' ∧ ar A' h' ∧ WU A A' ∧ WRt A' o (T ++ ntx v) := by
  have part2 : ∀ T A h, ar A h → CX M A D o F → WRt A o T → T.length < 201 → ∃ A' h', l220_16 w (some 91) v.toInt64 h = rtV h' ∧ ar A' h' ∧ WU A A' ∧ WRt A' o (T ++ (dgs (v.toInt.natAbs / 10000) ++ (if v.toInt.natAbs % 10000 = 0 then [] else 46 :: frF 4 (v.toInt.natAbs % 10000)))) := by
    intro T A h R Q H hl
    obtain ⟨g1, g2, -⟩ := w_rd R H
    have hd := i32_divn (n := v.toInt.natAbs) (k := 10000) (by omega) (by omega)
    have hm := i32_mod (n := v.toInt.natAbs) (k := 10000) (by omega) (by omega)
    have hd' : Int32.ofNat v.toInt.natAbs / (10000 : Int32) = Int32.ofNat (v.toInt.natAbs / 10000) := hd
    have hm' : Int32.ofNat v.toInt.natAbs - Int32.ofNat v.toInt.natAbs / (10000 : Int32) * (10000 : Int32) = Int32.ofNat (v.toInt.natAbs % 10000) := hm
    obtain ⟨A1, k1, p1, R1, s1, H1⟩ := a58 (w := w) (m := v.toInt.natAbs / 10000) R Q.2.2 H (by omega) (by omega)
    have Q1 := CX_w R Q s1
    have hl1 : (T ++ dgs (v.toInt.natAbs / 10000)).length < 210 := by rw [List.length_append, dgs_len (by omega)]; have := ndg_le (m := v.toInt.natAbs / 10000); omega
    unfold l220_16 l220_57
    rw [c206, rt_J, g1, Option.bind_some, if_pos g2, abI h1 h2, hm', hd', p1, rt_R]
    by_cases q : v.toInt.natAbs % 10000 = 0
    · obtain ⟨A2, k2, p2, R2, s2, H2⟩ := w62 (w := w) (r := v.toInt.natAbs % 10000) R1 Q1 H1 (by omega) (by omega)
      rw [if_pos (by rw [q]; rfl), if_pos q]
      refine ⟨A2, k2, p2, R2, WU_tr s1 s2, ?_⟩
      rw [q, frF, if_pos rfl] at H2
      rw [List.append_nil] at H2 ⊢
      exact H2
    · obtain ⟨f1, f2, -⟩ := w_rd R1 H1
      obtain ⟨A2, k2, p2, R2, s2, H2⟩ := a19 (w := w) (cd := 46) R1 H1 (by omega) (by omega)
      have Q2 := CX_w R1 Q1 s2
      obtain ⟨A3, k3, p3, R3, s3, H3⟩ := w62 (w := w) (r := v.toInt.natAbs % 10000) R2 Q2 H2 (by omega) (by rw [List.length_append, List.length_singleton]; omega)
      rw [if_neg (show ¬ Int32.ofNat (v.toInt.natAbs % 10000) = (0 : Int32) from fun e => q (i32_inj (b := 0) (by omega) (by omega) e)), if_neg q, f1, Option.bind_some, if_pos f2, show (46 : Int32) = Int32.ofNat 46 from rfl, p2, rt_R]
      refine ⟨A3, k3, p3, R3, WU_tr (WU_tr s1 s2) s3, ?_⟩
      rw [List.append_assoc, List.append_assoc] at H3
      exact H3
  unfold ll_220 ntx
  have e0 : (0 : Int32) ≤ lg_cmp v.toInt64 0 ↔ ¬ v.toInt < 0 := by
    rw [lge_n, Int64.lt_iff_toInt_lt, Int32.toInt_toInt64]
    exact Iff.rfl
  by_cases q : v.toInt < 0
  · obtain ⟨g1, g2, -⟩ := w_rd R H
    obtain ⟨A1, k1, p1, R1, s1, H1⟩ := a19 (w := w) (cd := 45) R H (by omega) (by omega)
    obtain ⟨A2, k2, p2, R2, s2, H2⟩ := part2 _ A1 k1 R1 (CX_w R Q s1) H1 (by rw [List.length_append, List.length_singleton]; omega)
    refine ⟨A2, k2, ?_, R2, WU_tr s1 s2, ?_⟩
    · rw [if_neg (fun e => e0.mp e q), g1, Option.bind_some, if_pos g2, show (45 : Int32) = Int32.ofNat 45 from rfl, p1, rt_R]
      exact p2
    · rw [if_pos q]
      rw [List.append_assoc] at H2
      exact H2
  · obtain ⟨A2, k2, p2, R2, s2, H2⟩ := part2 T A h R Q H (by omega)
    refine ⟨A2, k2, ?_, R2, s2, ?_⟩
    · rw [if_pos (e0.mpr q)]; exact p2
    · rw [if_neg q, List.nil_append]; exact H2
/-- has it a name? -/
theorem c222 (R : ar A h) (Q : CX M A D o F) (W : Wd D) (Wff : Wf D o F) (I : OI D F) (H : WRt A o T) (hy : LN D y) (hz : LN D z) : ll_222 (some 91) (some (M 1 y)) (some (M 1 z)) h = rtI (if cnm (xS (fX F 0)) (xS (fX F 1)) y z = true then 1 else 0) h := by
  obtain ⟨p0, p1, l0, l1⟩ := cpos R Q W I
  obtain ⟨-, -, -, g1, g2⟩ := w_rd R H
  have w0 := (Wff.2.2.2.2.2.2 0 (by omega)).2.2.2.2.2
  have w1 := (Wff.2.2.2.2.2.2 1 (by omega)).2.2.2.2.2
  unfold ll_222 cnm shB
  rw [g2, Option.bind_some, if_pos l1, p1 z hz, rt_I, g1, Option.bind_some, if_pos l0, p0 y hy, rt_I]
  cases e1 : pos (xS (fX F 0)) y with
  | none => rw [if_pos (show oi none = (-1 : Int32) from rfl)]; rfl
  | some p =>
    rw [if_neg (fun q => by have := (oi_m1 (x := some p) (fun i hi => pos_31 w0 i (e1.trans hi))).mp q; cases this)]
    cases e2 : pos (xS (fX F 1)) z with
    | none => rw [if_pos (show oi none = (-1 : Int32) from rfl)]; rfl
    | some q =>
      have b2 := pos_lt e2
      rw [if_neg (fun q2 => by have := (oi_m1 (x := some q) (fun i hi => pos_31 w1 i (e2.trans hi))).mp q2; cases this)]
      show (if (26 : Int32) ≤ Int32.ofNat q then _ else _) = rtI (if (true && decide (q < 26)) = true then 1 else 0) h
      by_cases hq : q < 26
      · rw [if_neg (show ¬ (26 : Int32) ≤ Int32.ofNat q from fun e => by have := (i32_len (a := 26) (by omega) (by omega)).mp e; omega), decide_eq_true hq]
        rfl
      · rw [if_pos (show (26 : Int32) ≤ Int32.ofNat q from (i32_len (a := 26) (by omega) (by omega)).mpr (by omega)), decide_eq_false hq]
        rfl
theorem chrA (hq : q < 26) : UInt32.toInt32 (Int32.toUInt32 ((65 : Int32) + Int32.ofNat q) % 65536) = Int32.ofNat (65 + q) := by
  have key : (List.range 26).all (fun q => decide (UInt32.toInt32 (Int32.toUInt32 ((65 : Int32) + Int32.ofNat q) % 65536) = Int32.ofNat (65 + q))) = true := by decide +kernel
  exact of_decide_eq_true (List.all_eq_true.mp key q (List.mem_range.mpr hq))
theorem c223 (R : ar A h) (Q : CX M A D o F) (W : Wd D) (Wff : Wf D o F) (I : OI D F) (H : WRt A o T) (hy : LN D y) (hz : LN D z) (hc : cnm (xS (fX F 0)) (xS (fX F 1)) y z = true) (hl : T.length < 200) : ∃ A' h', ll_223 w (some 91) (some (M 1 y)) (some (M 1 z)) h = rtV h' ∧ ar A' h' ∧ WU A A' ∧ WRt A' o (T ++ nmx (xS (fX F 0)) (xS (fX F 1)) y z) := by
  have w0 := (Wff.2.2.2.2.2.2 0 (by omega)).2.2.2.2.2
  unfold cnm at hc
  rw [Bool.and_eq_true, decide_eq_true_eq] at hc
  obtain ⟨p, q, e1, e2⟩ := shB_t hc.1
  have hq : q < 26 := by have := hc.2; rw [e2] at this; exact this
  have b1 := pos_lt e1
  obtain ⟨p0, p1, l0, l1⟩ := cpos R Q W I
  obtain ⟨g1, g2, -, g4, g5⟩ := w_rd R H
  obtain ⟨A1, k1, u1, R1, s1, H1⟩ := a19 (w := w) (cd := 65 + q) R H (by omega) (by omega)
  have Q1 := CX_w R Q s1
  obtain ⟨p0', p1', l0', l1'⟩ := cpos R1 Q1 W I
  obtain ⟨f1, f2, -, f4, f5⟩ := w_rd R1 H1
  obtain ⟨A2, k2, u2, R2, s2, H2⟩ := a58 (w := w) (m := p + 1) R1 Q1.2.2 H1 (by omega) (by rw [List.length_append, List.length_singleton]; omega)
  have t1 := p1 z hz
  rw [e2] at t1
  have t0 := p0' y hy
  rw [e1] at t0
  refine ⟨A2, k2, ?_, R2, WU_tr s1 s2, ?_⟩
  · unfold ll_223
    rw [g1, Option.bind_some, g5, Option.bind_some, if_pos l1, t1, rt_I, if_pos g2, show oi (some q) = Int32.ofNat q from rfl, chrA hq, u1, rt_R, f1, Option.bind_some, f4, Option.bind_some, if_pos l0', t0, rt_I, if_pos f2, show oi (some p) + (1 : Int32) = Int32.ofNat (p + 1) from i32_add p 1, u2, rt_R]
  · rw [List.append_assoc] at H2
    unfold nmx
    rw [e1, e2]
    exact H2
theorem c221 (R : ar A h) (Q : CX M A D o F) (W : Wd D) (Wff : Wf D o F) (I : OI D F) (H : WRt A o T) (hy : LN D y) (hz : LN D z) (hl : T.length < 200) {fs1 : List Value} (ep : A.1 p = ac_c (.inl (9, fs1))) (e4 : fs1[4]? = some (.ref (M 1 y))) (e5 : fs1[5]? = some (.ref (M 1 z))) : ∃ A' h', ll_221 w (some 91) (some p) h = rtV h' ∧ ar A' h' ∧ WU A A' ∧ WRt A' o (T ++ rfx (xS (fX F 0)) (xS (fX F 1)) y z) := by
  have r4 : lf_R h (some p) [9, 4] = some (some (M 1 y)) := hc_R (o := some (M 1 y)) (ar_c R ep) e4
  have r5 : lf_R h (some p) [9, 5] = some (some (M 1 z)) := hc_R (o := some (M 1 z)) (ar_c R ep) e5
  obtain ⟨g1, g2, g3, g4, g5⟩ := w_rd R H
  unfold ll_221 rfx
  rw [r4, Option.bind_some, r5, Option.bind_some, if_pos g3, c222 R Q W Wff I H hy hz, rt_I]
  by_cases hc : cnm (xS (fX F 0)) (xS (fX F 1)) y z = true
  · obtain ⟨A1, k1, u1, R1, s1, H1⟩ := c223 (w := w) R Q W Wff I H hy hz hc hl
    refine ⟨A1, k1, ?_, R1, s1, by rw [if_pos hc]; exact H1⟩
    rw [if_pos hc, if_neg (by decide), r4, Option.bind_some, r5, Option.bind_some, if_pos g3, u1, rt_V]
  · obtain ⟨A1, k1, u1, R1, s1, H1⟩ := a19 (w := w) (cd := 35) R H (by omega) (by omega)
    refine ⟨A1, k1, ?_, R1, s1, by rw [if_neg hc]; exact H1⟩
    rw [if_neg hc, if_pos rfl, g1, Option.bind_some, if_pos g2, show (35 : Int32) = Int32.ofNat 35 from rfl, u1, rt_R]
theorem c224 (R : ar A h) (Q : CX M A D o F) (W : Wd D) (Wff : Wf D o F) (I : OI D F) (H : WRt A o T) (hk : (kc0, cd) ∈ kcB) (hy : LN D y) (hz : LN D z) (hy2 : LN D y2) (hz2 : LN D z2) (hl : T.length < 180) (hp : 178 ≤ p) (ep : A.1 p = ac_c (.inl (9, [.ref kc0, .null, .null, .long 0, .ref (M 1 y), .ref (M 1 z), .ref (M 1 y2), .ref (M 1 z2)]))) : ∃ A' h', ll_224 w (some 91) (some p) h = rtV h' ∧ ar A' h' ∧ WU A A' ∧ WRt A' o (T ++ cd :: 40 :: (bkx (xS (fX F 0)) (xS (fX F 1)) y z y2 z2 ++ [41])) := by
  have w0 := (Wff.2.2.2.2.2.2 0 (by omega)).2.2.2.2.2
  have hks : ∃ s, (kc0, s, cd) ∈ kcS := by
    unfold kcB at hk
    simp only [List.mem_cons, List.not_mem_nil, or_false, Prod.mk.injEq] at hk
    rcases hk with ⟨rfl, rfl⟩ | ⟨rfl, rfl⟩ | ⟨rfl, rfl⟩
    · exact ⟨38, by decide⟩
    · exact ⟨39, by decide⟩
    · exact ⟨40, by decide⟩
  obtain ⟨s, hs⟩ := hks
  have np : p ∉ [92] := by simp; omega
  obtain ⟨g1, g2, g3, g4, g5⟩ := w_rd R H
  obtain ⟨v1, A1, k1, u1, R1, s1, H1⟩ := a46 (w := w) R Q.2.2 H hs (by omega)
  have Q1 := CX_w R Q s1
  have ep1 := st_c s1 R ep (by intro g; cases g) np
  obtain ⟨f1, f2, -⟩ := w_rd R1 H1
  obtain ⟨A2, k2, u2, R2, s2, H2⟩ := a19 (w := w) (cd := 40) R1 H1 (by omega) (by rw [List.length_append, List.length_singleton]; omega)
  have Q2 := CX_w R1 Q1 s2
  have ep2 := st_c s2 R1 ep1 (by intro g; cases g) np
  rw [List.append_assoc] at H2
  have hl2 : (T ++ ([cd] ++ [40])).length < 190 := by rw [List.length_append]; show T.length + 2 < 190; omega
  obtain ⟨t1, t2, t3, -⟩ := w_rd R2 H2
  have r4 : lf_R k2 (some p) [9, 4] = some (some (M 1 y)) := hc_R (o := some (M 1 y)) (ar_c R2 ep2) rfl
  have r5 : lf_R k2 (some p) [9, 5] = some (some (M 1 z)) := hc_R (o := some (M 1 z)) (ar_c R2 ep2) rfl
  have r6 : lf_R k2 (some p) [9, 6] = some (some (M 1 y2)) := hc_R (o := some (M 1 y2)) (ar_c R2 ep2) rfl
  have r7 : lf_R k2 (some p) [9, 7] = some (some (M 1 z2)) := hc_R (o := some (M 1 z2)) (ar_c R2 ep2) rfl
  -- the closing bracket
  have cls : ∀ T A h, ar A h → WRt A o T → T.length < 240 → ∃ A' h', l224_102 w (some 91) h = rtV h' ∧ ar A' h' ∧ WU A A' ∧ WRt A' o (T ++ [41]) := by
    intro T A h R H hl
    obtain ⟨g1, g2, -⟩ := w_rd R H
    obtain ⟨A1, k1, u1, R1, s1, H1⟩ := a19 (w := w) (cd := 41) R H (by omega) (by omega)
    refine ⟨A1, k1, ?_, R1, s1, H1⟩
    unfold l224_102
    rw [g1, Option.bind_some, if_pos g2, show (41 : Int32) = Int32.ofNat 41 from rfl, u1, rt_R]
  have hsh : ∃ A' h', l224_92 w (some 91) k2 = rtV h' ∧ ar A' h' ∧ WU A2 A' ∧ WRt A' o ((T ++ ([cd] ++ [40])) ++ ([35] ++ [41])) := by
    obtain ⟨A3, k3, u3, R3, s3, H3⟩ := a19 (w := w) (cd := 35) R2 H2 (by omega) (by omega)
    obtain ⟨A4, k4, u4, R4, s4, H4⟩ := cls _ A3 k3 R3 H3 (by rw [List.length_append, List.length_singleton]; omega)
    refine ⟨A4, k4, ?_, R4, WU_tr s3 s4, by rw [List.append_assoc] at H4; exact H4⟩
    unfold l224_92
    rw [t1, Option.bind_some, if_pos t2, show (35 : Int32) = Int32.ofNat 35 from rfl, u3, rt_R]
    exact u4
  have hd0 : lf_R h (some p) [9, 0] = some (some kc0) := hc_R (o := some kc0) (ar_c R ep) rfl
  unfold ll_224
  rw [g1, Option.bind_some, hd0, Option.bind_some, v1, Option.bind_some, if_pos g2, u1, rt_R, f1, Option.bind_some, if_pos f2, show (40 : Int32) = Int32.ofNat 40 from rfl, u2, rt_R, r4, Option.bind_some, r5, Option.bind_some, if_pos t3, c222 R2 Q2 W Wff I H2 hy hz, rt_I]
  have wrap : ∀ X, (∃ A' h', WU A2 A' ∧ ar A' h' ∧ WRt A' o ((T ++ ([cd] ++ [40])) ++ (X ++ [41]))) → ∃ A' h', WU A2 A' ∧ ar A' h' ∧ WRt A' o (T ++ cd :: 40 :: (X ++ [41])) := by
    intro X ⟨A', h', a1, a2, a3⟩
    exact ⟨A', h', a1, a2, by rw [List.append_assoc] at a3; exact a3⟩
  unfold bkx
  cases c1 : cnm (xS (fX F 0)) (xS (fX F 1)) y z with
  | false =>
    obtain ⟨A', h', z1, z2, z3, z4⟩ := hsh
    refine ⟨A', h', ?_, z2, WU_tr (WU_tr s1 s2) z3, ?_⟩
    · rw [if_neg (show ¬ (false : Bool) = true by decide), if_pos rfl]; exact z1
    · rw [Bool.false_and, if_neg (show ¬ (false : Bool) = true by decide)]
      rw [List.append_assoc] at z4
      exact z4
  | true =>
    rw [if_pos rfl, if_neg (by decide), r6, Option.bind_some, r7, Option.bind_some, if_pos t3, c222 R2 Q2 W Wff I H2 hy2 hz2, rt_I]
    cases c2 : cnm (xS (fX F 0)) (xS (fX F 1)) y2 z2 with
    | false =>
      obtain ⟨A', h', z1, z2, z3, z4⟩ := hsh
      refine ⟨A', h', ?_, z2, WU_tr (WU_tr s1 s2) z3, ?_⟩
      · rw [if_neg (show ¬ (false : Bool) = true by decide), if_pos rfl]; exact z1
      · rw [Bool.true_and, if_neg (show ¬ (false : Bool) = true by decide)]
        rw [List.append_assoc] at z4
        exact z4
    | true =>
      have nl1 := nmx_len (Lr := xS (fX F 0)) w0 c1
      have nl2 := nmx_len (Lr := xS (fX F 0)) w0 c2
      obtain ⟨A3, k3, u3, R3, s3, H3⟩ := c223 (w := w) R2 Q2 W Wff I H2 hy hz c1 (by omega)
      have Q3 := CX_w R2 Q2 s3
      have ep3 := st_c s3 R2 ep2 (by intro g; cases g) np
      obtain ⟨b1, b2, b3, -⟩ := w_rd R3 H3
      obtain ⟨A4, k4, u4, R4, s4, H4⟩ := a19 (w := w) (cd := 58) R3 H3 (by omega) (by rw [List.length_append]; omega)
      have Q4 := CX_w R3 Q3 s4
      have ep4 := st_c s4 R3 ep3 (by intro g; cases g) np
      have q6 : lf_R k4 (some p) [9, 6] = some (some (M 1 y2)) := hc_R (o := some (M 1 y2)) (ar_c R4 ep4) rfl
      have q7 : lf_R k4 (some p) [9, 7] = some (some (M 1 z2)) := hc_R (o := some (M 1 z2)) (ar_c R4 ep4) rfl
      obtain ⟨-, -, d3, -⟩ := w_rd R4 H4
      have hl4 : (T ++ ([cd] ++ [40]) ++ nmx (xS (fX F 0)) (xS (fX F 1)) y z ++ [58]).length < 200 := by
        rw [List.length_append, List.length_append, List.length_singleton]; omega
      obtain ⟨A5, k5, u5, R5, s5, H5⟩ := c223 (w := w) R4 Q4 W Wff I H4 hy2 hz2 c2 hl4
      obtain ⟨A6, k6, u6, R6, s6, H6⟩ := cls _ A5 k5 R5 H5 (by rw [List.length_append]; omega)
      refine ⟨A6, k6, ?_, R6, WU_tr (WU_tr (WU_tr (WU_tr (WU_tr s1 s2) s3) s4) s5) s6, ?_⟩
      · rw [if_pos rfl, if_neg (by decide), r4, Option.bind_some, r5, Option.bind_some, if_pos t3, u3, rt_V, b1, Option.bind_some, if_pos b2, show (58 : Int32) = Int32.ofNat 58 from rfl, u4, rt_R, q6, Option.bind_some, q7, Option.bind_some, if_pos d3, u5, rt_V]
        exact u6
      · rw [Bool.true_and, if_pos rfl]
        rw [List.append_assoc, List.append_assoc, List.append_assoc, List.append_assoc] at H6
        rw [List.append_assoc]
        exact H6
end WR2
