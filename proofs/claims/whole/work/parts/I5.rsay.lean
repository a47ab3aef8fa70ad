/-! THE REFERENCE says characters, numbers, names -/
def OU (U : List Nat) (S : rs_S) : Prop := S.1 39 = Int32.ofNat U.length ∧ ∀ j, j < U.length → S.2.1 40 j = Int32.ofNat (U.getD j 0)
/-- saying leaves the rest -/
def Sy (S S' : rs_S) : Prop := (∀ a, a ≠ 39 → S'.1 a = S.1 a) ∧ (∀ a j, a ≠ 40 → S'.2.1 a j = S.2.1 a j) ∧ S'.2.2 = S.2.2
def pw : Nat → Nat
  | 0 => 1
  | k + 1 => 10 * pw k
def mzd : Nat → Nat → List Nat
  | 0, v => [48 + v / pw 0 % 10]
  | k + 1, v => (48 + v / pw (k + 1) % 10) :: mzd k v
section SAY
variable {S S' S2 : rs_S} {o k m r c y z y2 z2 : Nat} {U X Lr Lc : List Nat} {v : Int32}
theorem Sy_refl : Sy S S := ⟨fun _ _ => rfl, fun _ _ _ => rfl, rfl⟩
theorem Sy_tr (h1 : Sy S S') (h2 : Sy S' S2) : Sy S S2 := ⟨fun a n => (h2.1 a n).trans (h1.1 a n), fun a j n => (h2.2.1 a j n).trans (h1.2.1 a j n), h2.2.2.trans h1.2.2⟩
theorem q303 (H : OU U S) (hl : U.length < 120) : ∃ S', rf_303 (Int32.ofNat c) S = some ((), S') ∧ OU (U ++ [c]) S' ∧ Sy S S' := by
  obtain ⟨h1, h2⟩ := H
  have n1 : Int32.ofNat U.length + (1 : Int32) = Int32.ofNat (U.length + 1) := i32_add _ 1
  refine ⟨rs_setI (rs_setA S 40 U.length (Int32.ofNat c)) 39 (Int32.ofNat (U.length + 1)), ?_, ⟨?_, fun j hj => ?_⟩, fun a ha => if_neg ha, fun a j ha => set_a ha, rfl⟩
  · unfold rf_303
    rw [h1, wrI (n := 120) (by decide) hl (by omega), Option.bind_some, rbS_r, show (rs_setA S 40 U.length (Int32.ofNat c)).1 39 = Int32.ofNat U.length from h1, n1]
  · show Int32.ofNat (U.length + 1) = _
    rw [List.length_append]
    rfl
  · rw [List.length_append, List.length_singleton] at hj
    show (rs_setA S 40 U.length (Int32.ofNat c)).2.1 40 j = _
    by_cases q : j = U.length
    · subst q
      rw [set_e]
      simp [List.getD_eq_getElem?_getD]
    · rw [set_i q, h2 j (by omega)]
      congr 1
      simp [List.getD_eq_getElem?_getD, List.getElem?_append_left (show j < U.length by omega)]
theorem pw_p : ∀ k, 0 < pw k
  | 0 => by decide
  | k + 1 => by have := pw_p k; rw [pw]; omega
theorem q307d : ∀ k n U S, k + 1 < n → k ≤ 5 → m < 1000000 → OU U S → U.length + k < 119 → ∃ S', r307_18 n (Int32.ofNat m) (Int32.ofNat (pw k)) S = some ((), S') ∧ OU (U ++ mzd k m) S' ∧ Sy S S' := by
  have hpw : ∀ k, k ≤ 5 → pw k ≤ 100000 := by
    intro k hk
    have : k = 0 ∨ k = 1 ∨ k = 2 ∨ k = 3 ∨ k = 4 ∨ k = 5 := by omega
    rcases this with rfl | rfl | rfl | rfl | rfl | rfl <;> decide
  have one : ∀ k n U S, k ≤ 5 → m < 1000000 → OU U S → U.length < 120 → ∃ S', (r307_18 (n + 1) (Int32.ofNat m) (Int32.ofNat (pw k)) S = r307_18 n (Int32.ofNat m) (Int32.ofNat (pw k / 10)) S') ∧ OU (U ++ [48 + m / pw k % 10]) S' ∧ Sy S S' := by
    intro k n U S hk hm H hl
    have hp := pw_p k
    have hp2 := hpw k hk
    obtain ⟨S', p1, p2, p3⟩ := q303 (c := 48 + m / pw k % 10) H hl
    have hq : m / pw k ≤ m := Nat.div_le_self _ _
    refine ⟨S', ?_, p2, p3⟩
    have n0 : ¬ Int32.ofNat (pw k) = 0 := fun e => by have := i32_inj (b := 0) (by omega) (by omega) e; omega
    rw [r307_18]
    dsimp only
    have e1 : Int32.ofNat (m / pw k) - Int32.ofNat (m / pw k) / (10 : Int32) * (10 : Int32) = Int32.ofNat (m / pw k % 10) := i32_mod (k := 10) (by omega) (by omega)
    rw [if_neg (show ¬ Int32.ofNat (pw k) ≤ (0 : Int32) from fun e => by have := (i32_len (b := 0) (by omega) (by omega)).mp e; omega), if_neg n0, i32_divn (by omega) (by omega), e1, show (48 : Int32) + Int32.ofNat (m / pw k % 10) = Int32.ofNat (48 + m / pw k % 10) from i32_add 48 _, p1, rb_r, show Int32.ofNat (pw k) / (10 : Int32) = Int32.ofNat (pw k / 10) from i32_divn (k := 10) (by omega) (by omega)]
  intro k
  induction k with
  | zero =>
    intro n U S hn hk hm H hl
    cases n with
    | zero => omega
    | succ n =>
      cases n with
      | zero => omega
      | succ n =>
        obtain ⟨S', p1, p2, p3⟩ := one 0 (n + 1) U S (by omega) hm H (by omega)
        refine ⟨S', ?_, p2, p3⟩
        rw [p1, r307_18]
        dsimp only
        rw [if_pos (by decide)]
  | succ k ih =>
    intro n U S hn hk hm H hl
    cases n with
    | zero => omega
    | succ n =>
      obtain ⟨S1, p1, p2, p3⟩ := one (k + 1) n U S hk hm H (by omega)
      obtain ⟨S', u1, u2, u3⟩ := ih n _ S1 (by omega) (by omega) hm p2 (by rw [List.length_append, List.length_singleton]; omega)
      refine ⟨S', ?_, ?_, Sy_tr p3 u3⟩
      · rw [p1, show pw (k + 1) / 10 = pw k by rw [pw]; omega]
        exact u1
      · rw [List.append_assoc] at u2
        exact u2
theorem q307 (hm : m < 1000000) (H : OU U S) (hl : U.length < 110) : ∃ S', rf_307 (Int32.ofNat m) S = some ((), S') ∧ OU (U ++ dgs m) S' ∧ Sy S S' := by
  have stp : ∀ k n, k ≤ 5 → (¬ m / pw k ≤ 9) → r307_2 (n + 1) (Int32.ofNat m) (Int32.ofNat (pw k)) S = r307_2 n (Int32.ofNat m) (Int32.ofNat (pw (k + 1))) S := by
    intro k n hk hq
    have hp := pw_p k
    have hb : pw k ≤ 100000 := by
      have : k = 0 ∨ k = 1 ∨ k = 2 ∨ k = 3 ∨ k = 4 ∨ k = 5 := by omega
      rcases this with rfl | rfl | rfl | rfl | rfl | rfl <;> decide
    have hq2 : m / pw k ≤ m := Nat.div_le_self _ _
    rw [r307_2]
    dsimp only
    rw [if_neg (show ¬ Int32.ofNat (pw k) = (0 : Int32) from fun e => by have := i32_inj (b := 0) (by omega) (by omega) e; omega), i32_divn (by omega) (by omega), if_neg (show ¬ Int32.ofNat (m / pw k) ≤ (9 : Int32) from fun e => hq ((i32_len (b := 9) (by omega) (by omega)).mp e)), show Int32.ofNat (pw k) * (10 : Int32) = Int32.ofNat (pw k * 10) from i32_ml _ 10, show pw k * 10 = pw (k + 1) by rw [pw]; omega]
  have fin : ∀ k n, k ≤ 5 → m / pw k ≤ 9 → mzd k m = dgs m → ∃ S', r307_2 (n + 1) (Int32.ofNat m) (Int32.ofNat (pw k)) S = some ((), S') ∧ OU (U ++ dgs m) S' ∧ Sy S S' := by
    intro k n hk hq he
    have hp := pw_p k
    have hb : pw k ≤ 100000 := by
      have : k = 0 ∨ k = 1 ∨ k = 2 ∨ k = 3 ∨ k = 4 ∨ k = 5 := by omega
      rcases this with rfl | rfl | rfl | rfl | rfl | rfl <;> decide
    obtain ⟨S', p1, p2, p3⟩ := q307d (m := m) k lf_N U S (by unfold lf_N; omega) hk hm H (by omega)
    refine ⟨S', ?_, by rw [← he]; exact p2, p3⟩
    rw [r307_2]
    dsimp only
    rw [if_neg (show ¬ Int32.ofNat (pw k) = (0 : Int32) from fun e => by have := i32_inj (b := 0) (by omega) (by omega) e; omega), i32_divn (by omega) (by omega), if_pos (show Int32.ofNat (m / pw k) ≤ (9 : Int32) from (i32_len (b := 9) (by omega) (by omega)).mpr hq)]
    exact p1
  unfold rf_307
  rw [show lf_N = 19990 + 1 + 1 + 1 + 1 + 1 + 1 + 1 + 1 + 1 + 1 from rfl, show (1 : Int32) = Int32.ofNat (pw 0) from rfl]
  have e0 : pw 0 = 1 := rfl
  have e1 : pw 1 = 10 := rfl
  have e2 : pw 2 = 100 := rfl
  have e3 : pw 3 = 1000 := rfl
  have e4 : pw 4 = 10000 := rfl
  have e5 : pw 5 = 100000 := rfl
  by_cases h1 : m < 10
  · refine fin 0 _ (by omega) (by rw [e0]; omega) ?_
    show [48 + m / 1 % 10] = dgF 6 m
    rw [dgF, if_pos h1, show m / 1 % 10 = m by omega]
  · rw [stp 0 _ (by omega) (by rw [e0]; omega)]
    by_cases h2 : m < 100
    · refine fin 1 _ (by omega) (by rw [e1]; omega) ?_
      show [48 + m / 10 % 10, 48 + m / 1 % 10] = dgF 6 m
      rw [dgF, if_neg h1, dgF, if_pos (by omega), show m / 10 % 10 = m / 10 by omega, show m / 1 % 10 = m % 10 by omega]
      rfl
    · rw [stp 1 _ (by omega) (by rw [e1]; omega)]
      by_cases h3 : m < 1000
      · refine fin 2 _ (by omega) (by rw [e2]; omega) ?_
        show [48 + m / 100 % 10, 48 + m / 10 % 10, 48 + m / 1 % 10] = dgF 6 m
        rw [dgF, if_neg h1, dgF, if_neg (by omega), dgF, if_pos (by omega), show m / 100 % 10 = m / 10 / 10 by omega, show m / 1 % 10 = m % 10 by omega]
        rfl
      · rw [stp 2 _ (by omega) (by rw [e2]; omega)]
        by_cases h4 : m < 10000
        · refine fin 3 _ (by omega) (by rw [e3]; omega) ?_
          show [48 + m / 1000 % 10, 48 + m / 100 % 10, 48 + m / 10 % 10, 48 + m / 1 % 10] = dgF 6 m
          rw [dgF, if_neg h1, dgF, if_neg (by omega), dgF, if_neg (by omega), dgF, if_pos (by omega), show m / 1000 % 10 = m / 10 / 10 / 10 by omega, show m / 100 % 10 = m / 10 / 10 % 10 by omega, show m / 1 % 10 = m % 10 by omega]
          rfl
        · rw [stp 3 _ (by omega) (by rw [e3]; omega)]
          by_cases h5 : m < 100000
          · refine fin 4 _ (by omega) (by rw [e4]; omega) ?_
            show [48 + m / 10000 % 10, 48 + m / 1000 % 10, 48 + m / 100 % 10, 48 + m / 10 % 10, 48 + m / 1 % 10] = dgF 6 m
            rw [dgF, if_neg h1, dgF, if_neg (by omega), dgF, if_neg (by omega), dgF, if_neg (by omega), dgF, if_pos (by omega), show m / 10000 % 10 = m / 10 / 10 / 10 / 10 by omega, show m / 1000 % 10 = m / 10 / 10 / 10 % 10 by omega, show m / 100 % 10 = m / 10 / 10 % 10 by omega, show m / 1 % 10 = m % 10 by omega]
            rfl
          · rw [stp 4 _ (by omega) (by rw [e4]; omega)]
            refine fin 5 _ (by omega) (by rw [e5]; omega) ?_
            show [48 + m / 100000 % 10, 48 + m / 10000 % 10, 48 + m / 1000 % 10, 48 + m / 100 % 10, 48 + m / 10 % 10, 48 + m / 1 % 10] = dgF 6 m
            rw [dgF, if_neg h1, dgF, if_neg (by omega), dgF, if_neg (by omega), dgF, if_neg (by omega), dgF, if_neg (by omega), dgF, if_pos (by omega), show m / 100000 % 10 = m / 10 / 10 / 10 / 10 / 10 by omega, show m / 10000 % 10 = m / 10 / 10 / 10 / 10 % 10 by omega, show m / 1000 % 10 = m / 10 / 10 / 10 % 10 by omega, show m / 100 % 10 = m / 10 / 10 % 10 by omega, show m / 1 % 10 = m % 10 by omega]
            rfl
theorem q306f : ∀ k n r U S, k < n → k ≤ 4 → r < 10000 → r % ([10000, 1000, 100, 10, 1].getD k 1) = 0 → OU U S → U.length + k < 119 → ∃ S', r306_46 n (Int32.ofNat r) S = some ((), S') ∧ OU (U ++ frF k r) S' ∧ Sy S S' := by
  intro k
  induction k with
  | zero =>
    intro n r U S hn hk hr hm H hl
    have e : r = 0 := by
      have : r % 10000 = 0 := hm
      omega
    subst e
    cases n with
    | zero => omega
    | succ n =>
      refine ⟨S, ?_, by rw [frF, List.append_nil]; exact H, Sy_refl⟩
      rw [r306_46]
      dsimp only
      rw [if_pos (by decide)]
  | succ k ih =>
    intro n r U S hn hk hr hm H hl
    cases n with
    | zero => omega
    | succ n =>
      rw [frF]
      by_cases q : r = 0
      · subst q
        refine ⟨S, ?_, by rw [if_pos rfl, List.append_nil]; exact H, Sy_refl⟩
        rw [r306_46]
        dsimp only
        rw [if_pos (by decide)]
      · obtain ⟨S1, p1, p2, p3⟩ := q303 (c := 48 + r / 1000) H (by omega)
        have hnext : r % 1000 * 10 % ([10000, 1000, 100, 10, 1].getD k 1) = 0 := by
          have : k = 0 ∨ k = 1 ∨ k = 2 ∨ k = 3 := by omega
          rcases this with rfl | rfl | rfl | rfl
          · have hm' : r % 1000 = 0 := hm
            show r % 1000 * 10 % 10000 = 0
            omega
          · have hm' : r % 100 = 0 := hm
            show r % 1000 * 10 % 1000 = 0
            omega
          · have hm' : r % 10 = 0 := hm
            show r % 1000 * 10 % 100 = 0
            omega
          · show r % 1000 * 10 % 10 = 0
            omega
        obtain ⟨S', u1, u2, u3⟩ := ih n (r % 1000 * 10) _ S1 (by omega) (by omega) (by omega) hnext p2 (by rw [List.length_append, List.length_singleton]; omega)
        refine ⟨S', ?_, ?_, Sy_tr p3 u3⟩
        · have e1 : Int32.ofNat r - Int32.ofNat r / (1000 : Int32) * (1000 : Int32) = Int32.ofNat (r % 1000) := i32_mod (k := 1000) (by omega) (by omega)
          rw [r306_46]
          dsimp only
          rw [if_neg (show ¬ Int32.ofNat r ≤ (0 : Int32) from fun e => by have := (i32_len (b := 0) (by omega) (by omega)).mp e; omega), e1, show Int32.ofNat r / (1000 : Int32) = Int32.ofNat (r / 1000) from i32_divn (k := 1000) (by omega) (by omega), show (48 : Int32) + Int32.ofNat (r / 1000) = Int32.ofNat (48 + r / 1000) from i32_add 48 _, p1, rb_r, show Int32.ofNat (r % 1000) * (10 : Int32) = Int32.ofNat (r % 1000 * 10) from i32_ml _ 10]
          exact u1
        · rw [if_neg q]
          rw [List.append_assoc] at u2
          exact u2
theorem abs_i (h1 : -1000000000 ≤ v.toInt) (h2 : v.toInt ≤ 1000000000) : (v.toInt < 0 → -v = Int32.ofNat v.toInt.natAbs) ∧ (¬ v.toInt < 0 → v = Int32.ofNat v.toInt.natAbs) := by
  constructor
  · intro h
    apply Int32.toInt_inj.mp
    rw [Int32.toInt_neg, Int32.toInt_ofNat_of_lt (by omega)]
    have e : -v.toInt = (v.toInt.natAbs : Int) := by omega
    rw [e]
    apply Int.bmod_eq_of_le <;> omega
  · intro h
    apply Int32.toInt_inj.mp
    rw [Int32.toInt_ofNat_of_lt (by omega)]
    omega
theorem q306 (h1 : -1000000000 ≤ v.toInt) (h2 : v.toInt ≤ 1000000000) (H : OU U S) (hl : U.length < 100) : ∃ S', rf_306 v S = some ((), S') ∧ OU (U ++ ntx v) S' ∧ Sy S S' := by
  have part2 : ∀ U S, OU U S → U.length < 101 → ∃ S', r306_21 (Int32.ofNat v.toInt.natAbs) S = some ((), S') ∧ OU (U ++ (dgs (v.toInt.natAbs / 10000) ++ (if v.toInt.natAbs % 10000 = 0 then [] else 46 :: frF 4 (v.toInt.natAbs % 10000)))) S' ∧ Sy S S' := by
    intro U S H hl
    have hd : Int32.ofNat v.toInt.natAbs / (10000 : Int32) = Int32.ofNat (v.toInt.natAbs / 10000) := i32_divn (k := 10000) (by omega) (by omega)
    have hm : Int32.ofNat v.toInt.natAbs - Int32.ofNat v.toInt.natAbs / (10000 : Int32) * (10000 : Int32) = Int32.ofNat (v.toInt.natAbs % 10000) := i32_mod (k := 10000) (by omega) (by omega)
    obtain ⟨S1, p1, p2, p3⟩ := q307 (m := v.toInt.natAbs / 10000) (by omega) H (by omega)
    have hl1 : (U ++ dgs (v.toInt.natAbs / 10000)).length < 108 := by rw [List.length_append, dgs_len (by omega)]; have := ndg_le (m := v.toInt.natAbs / 10000); omega
    unfold r306_21
    rw [hm, hd, p1, rb_r]
    by_cases q : v.toInt.natAbs % 10000 = 0
    · obtain ⟨S2, u1, u2, u3⟩ := q306f 4 lf_N (v.toInt.natAbs % 10000) _ S1 (by unfold lf_N; omega) (by omega) (by omega) (by show _ % 1 = 0; omega) p2 (by omega)
      refine ⟨S2, ?_, ?_, Sy_tr p3 u3⟩
      · rw [if_pos (by rw [q]; decide)]; exact u1
      · rw [q, frF, if_pos rfl, List.append_nil] at u2
        rw [if_pos q, List.append_nil]
        exact u2
    · obtain ⟨S2, t1, t2, t3⟩ := q303 (c := 46) p2 (by omega)
      obtain ⟨S3, u1, u2, u3⟩ := q306f 4 lf_N (v.toInt.natAbs % 10000) _ S2 (by unfold lf_N; omega) (by omega) (by omega) (by show _ % 1 = 0; omega) t2 (by rw [List.length_append, List.length_singleton]; omega)
      refine ⟨S3, ?_, ?_, Sy_tr (Sy_tr p3 t3) u3⟩
      · rw [if_neg (show ¬ Int32.ofNat (v.toInt.natAbs % 10000) ≤ (0 : Int32) from fun e => by have := (i32_len (b := 0) (by omega) (by omega)).mp e; omega), show (46 : Int32) = Int32.ofNat 46 from rfl, t1, rb_r]
        exact u1
      · rw [if_neg q]
        rw [List.append_assoc, List.append_assoc] at u2
        exact u2
  have e0 : (0 : Int32).toInt = 0 := rfl
  obtain ⟨a1, a2⟩ := abs_i h1 h2
  unfold rf_306 r306_10 ntx
  by_cases q : v.toInt < 0
  · obtain ⟨S1, t1, t2, t3⟩ := q303 (c := 45) H (by omega)
    obtain ⟨S2, u1, u2, u3⟩ := part2 _ S1 t2 (by rw [List.length_append, List.length_singleton]; omega)
    refine ⟨S2, ?_, ?_, Sy_tr t3 u3⟩
    · have nn : ¬ (0 : Int32) ≤ v := fun e => by rw [Int32.le_iff_toInt_le, e0] at e; omega
      rw [if_neg nn, if_neg nn, show (45 : Int32) = Int32.ofNat 45 from rfl, t1, rb_r, a1 q]
      exact u1
    · rw [if_pos q]
      rw [List.append_assoc] at u2
      exact u2
  · obtain ⟨S2, u1, u2, u3⟩ := part2 U S H (by omega)
    refine ⟨S2, ?_, ?_, u3⟩
    · have nn : (0 : Int32) ≤ v := by rw [Int32.le_iff_toInt_le, e0]; omega
      rw [if_pos nn, if_pos nn, a2 q]
      exact u1
    · rw [if_neg q, List.nil_append]; exact u2
theorem SW_y (h : Sy S S') (w : SW o Lr Lc S) : SW o Lr Lc S' := by
  obtain ⟨w1, w2, w3, w4⟩ := w
  exact ⟨w1, ⟨by rw [h.2.1 20 _ (by omega)]; exact w2.1, fun j hj => by rw [h.2.1 19 _ (by omega)]; exact w2.2 j hj⟩, ⟨by rw [h.2.1 20 _ (by omega)]; exact w3.1, fun j hj => by rw [h.2.1 19 _ (by omega)]; exact w3.2 j hj⟩, w4⟩
theorem q308 (w : SW o Lr Lc S) (hy : y < 120) (hz : z < 120) : rf_308 (Int32.ofNat o) (Int32.ofNat (y + 128 * z)) S = some ((if cnm Lr Lc y z = true then 1 else 0), S) := by
  obtain ⟨m1, m2⟩ := i32_m128 (n := y + 128 * z) (by omega)
  unfold rf_308 cnm
  rw [q287 w hy hz, rb_r]
  by_cases hs : shB Lr Lc y z = true
  · obtain ⟨p, q, e1, e2⟩ := shB_t hs
    have b2 := pos_lt e2
    have l1 := w.2.2.2.2.1
    rw [if_pos hs, if_neg (by decide), m1, show (y + 128 * z) / 128 = z by omega, q288c w hz, rb_r, hs, e2]
    show (if (26 : Int32) ≤ Int32.ofNat q then _ else _) = some ((if (true && decide (q < 26)) = true then 1 else 0), S)
    by_cases hq : q < 26
    · rw [if_neg (show ¬ (26 : Int32) ≤ Int32.ofNat q from fun e => by have := (i32_len (a := 26) (by omega) (by omega)).mp e; omega), decide_eq_true hq]
      rfl
    · rw [if_pos (show (26 : Int32) ≤ Int32.ofNat q from (i32_len (a := 26) (by omega) (by omega)).mpr (by omega)), decide_eq_false hq]
      rfl
  · have hs' : shB Lr Lc y z = false := by simpa using hs
    rw [if_neg hs, if_pos rfl, hs']
    rfl
theorem q309 (w : SW o Lr Lc S) (hy : y < 120) (hz : z < 120) (hc : cnm Lr Lc y z = true) (H : OU U S) (hl : U.length < 100) : ∃ S', rf_309 (Int32.ofNat o) (Int32.ofNat (y + 128 * z)) S = some ((), S') ∧ OU (U ++ nmx Lr Lc y z) S' ∧ Sy S S' := by
  obtain ⟨m1, m2⟩ := i32_m128 (n := y + 128 * z) (by omega)
  unfold cnm at hc
  rw [Bool.and_eq_true, decide_eq_true_eq] at hc
  obtain ⟨p, q, e1, e2⟩ := shB_t hc.1
  have b1 := pos_lt e1
  have b2 := pos_lt e2
  have l0 := w.2.2.2.1
  have l1 := w.2.2.2.2.1
  obtain ⟨S1, t1, t2, t3⟩ := q303 (c := 65 + q) H (by omega)
  obtain ⟨S2, u1, u2, u3⟩ := q307 (m := p + 1) (by omega) t2 (by rw [List.length_append, List.length_singleton]; omega)
  refine ⟨S2, ?_, ?_, Sy_tr t3 u3⟩
  · unfold rf_309
    rw [m2, m1, show (y + 128 * z) % 128 = y by omega, show (y + 128 * z) / 128 = z by omega, q288c w hz, rb_r, e2, show (65 : Int32) + oi (some q) = Int32.ofNat (65 + q) from i32_add 65 q, t1, rb_r, q288r (SW_y t3 w) hy, rb_r, e1, show oi (some p) + (1 : Int32) = Int32.ofNat (p + 1) from i32_add p 1, u1, rb_r]
  · rw [List.append_assoc] at u2
    unfold nmx
    rw [e1, e2]
    exact u2
theorem q310 (w : SW o Lr Lc S) (hcd : c < 128) (hy : y < 120) (hz : z < 120) (hy2 : y2 < 120) (hz2 : z2 < 120) (H : OU U S) (hl : U.length < 90) : ∃ S', rf_310 (Int32.ofNat o) (Int32.ofNat c) (Int32.ofNat (y + 128 * z + 16384 * (y2 + 128 * z2))) S = some ((), S') ∧ OU (U ++ c :: 40 :: (bkx Lr Lc y z y2 z2 ++ [41])) S' ∧ Sy S S' := by
  obtain ⟨m1, m2⟩ := i32_m16k (n := y + 128 * z + 16384 * (y2 + 128 * z2)) (by omega)
  have l0 := w.2.2.2.1
  obtain ⟨S1, t1, t2, t3⟩ := q303 (c := c) H (by omega)
  obtain ⟨S2, u1, u2, u3⟩ := q303 (c := 40) t2 (by rw [List.length_append, List.length_singleton]; omega)
  rw [List.append_assoc] at u2
  have s2 := Sy_tr t3 u3
  have w2 := SW_y s2 w
  have hl2 : (U ++ ([c] ++ [40])).length < 93 := by rw [List.length_append]; show U.length + 2 < 93; omega
  have sh : ∃ S', r310_66 S2 = some ((), S') ∧ OU ((U ++ ([c] ++ [40])) ++ ([35] ++ [41])) S' ∧ Sy S2 S' := by
    obtain ⟨S3, v1, v2, v3⟩ := q303 (c := 35) u2 (by omega)
    obtain ⟨S4, x1, x2, x3⟩ := q303 (c := 41) v2 (by rw [List.length_append, List.length_singleton]; omega)
    refine ⟨S4, ?_, by rw [List.append_assoc] at x2; exact x2, Sy_tr v3 x3⟩
    unfold r310_66 r310_72
    rw [show (35 : Int32) = Int32.ofNat 35 from rfl, v1, rb_r, show (41 : Int32) = Int32.ofNat 41 from rfl, x1, rb_r]
  unfold rf_310 bkx
  rw [t1, rb_r, show (40 : Int32) = Int32.ofNat 40 from rfl, u1, rb_r, m2, m1, show (y + 128 * z + 16384 * (y2 + 128 * z2)) % 16384 = y + 128 * z by omega, show (y + 128 * z + 16384 * (y2 + 128 * z2)) / 16384 = y2 + 128 * z2 by omega, q308 w2 hy hz, rb_r]
  cases c1 : cnm Lr Lc y z with
  | false =>
    obtain ⟨S', z1, z2, z3⟩ := sh
    refine ⟨S', ?_, ?_, Sy_tr s2 z3⟩
    · rw [if_neg (show ¬ (false : Bool) = true by decide), if_pos rfl]; exact z1
    · rw [Bool.false_and, if_neg (show ¬ (false : Bool) = true by decide)]
      rw [List.append_assoc] at z2
      exact z2
  | true =>
    rw [if_pos rfl, if_neg (by decide), q308 w2 hy2 hz2, rb_r]
    cases c2 : cnm Lr Lc y2 z2 with
    | false =>
      obtain ⟨S', z1, z2, z3⟩ := sh
      refine ⟨S', ?_, ?_, Sy_tr s2 z3⟩
      · rw [if_neg (show ¬ (false : Bool) = true by decide), if_pos rfl]; exact z1
      · rw [Bool.true_and, if_neg (show ¬ (false : Bool) = true by decide)]
        rw [List.append_assoc] at z2
        exact z2
    | true =>
      have nl1 := nmx_len (Lr := Lr) l0 c1
      have nl2 := nmx_len (Lr := Lr) l0 c2
      obtain ⟨S3, v1, v2, v3⟩ := q309 w2 hy hz c1 u2 (by omega)
      obtain ⟨S4, x1, x2, x3⟩ := q303 (c := 58) v2 (by rw [List.length_append]; omega)
      have hl4 : (U ++ ([c] ++ [40]) ++ nmx Lr Lc y z ++ [58]).length < 100 := by rw [List.length_append, List.length_append, List.length_singleton]; omega
      obtain ⟨S5, g1, g2, g3⟩ := q309 (SW_y (Sy_tr v3 x3) w2) hy2 hz2 c2 x2 hl4
      obtain ⟨S6, f1, f2, f3⟩ := q303 (c := 41) g2 (by rw [List.length_append]; omega)
      refine ⟨S6, ?_, ?_, Sy_tr (Sy_tr (Sy_tr (Sy_tr s2 v3) x3) g3) f3⟩
      · unfold r310_72
        rw [if_pos rfl, if_neg (by decide), v1, rb_r, show (58 : Int32) = Int32.ofNat 58 from rfl, x1, rb_r, g1, rb_r, show (41 : Int32) = Int32.ofNat 41 from rfl, f1, rb_r]
      · rw [Bool.true_and, if_pos rfl]
        rw [List.append_assoc, List.append_assoc, List.append_assoc, List.append_assoc] at f2
        rw [List.append_assoc]
        exact f2
end SAY
