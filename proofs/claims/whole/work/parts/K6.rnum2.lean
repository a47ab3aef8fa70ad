/-! THE REFERENCE: a number's value -/
section RN2
variable {S S' S2 : rs_S} {T : List Nat} {P : Nat → Bool} {k t p j n m x b d q N e : Nat} {g : Bool}
theorem te_run (hT : T.length ≤ 20) (hn : nmB (chT T p) = true) (hpe : p ≤ e) (h : ∀ j, p ≤ j → j < e → nmB (chT T j) = true ∧ j < T.length) (hm : T.length ≤ e + m) : te T p = rnE nmB T m e := by
  have h1 := rn_le (P := nmB) (T := T) m e
  refine te_eq hT hn (by omega) (fun j g1 g2 => ?_) (rn_stop m e hm)
  by_cases q : j < e
  · exact h j g1 q
  · exact rn_all m e j (by omega) g2
theorem j_sb (a b : Nat) : Int64.ofNat (a + b) - Int64.ofNat b = Int64.ofNat a := by
  rw [← (j_of a b).2, Int64.add_sub_cancel]
/-- how it ends -/
theorem q269f (g : Bool) (X : TX0 T S) (he : e ≤ 20) (v : Nat) (hv : g = true → v < 10 ^ 10) : ∃ S', (if (if g = true then (1 : Int32) else 0) = (0 : Int32) then r269_203 (Int32.ofNat e) (Int64.ofNat v) S else if (0 : Int32) < (lg_cmp (Int64.ofNat v) (1000000000 : Int64)) then r269_203 (Int32.ofNat e) (Int64.ofNat v) S else r269_204 (Int32.ofNat e) (Int64.ofNat v) (1 : Int32) S) = some ((), S') ∧ Rl S S' ∧ S'.1 23 = Int32.ofNat (rnE nmB T 30 e) ∧ S'.1 25 = (if g = true ∧ v ≤ 1000000000 then -2 else -4) ∧ S'.1 24 = S.1 24 ∧ S'.1 27 = S.1 27 ∧ (g = true → v ≤ 1000000000 → S'.1 26 = Int32.ofNat v) := by
  have hT := X.2.1
  have bad : ∃ S', r269_203 (Int32.ofNat e) (Int64.ofNat v) S = some ((), S') ∧ Rl S S' ∧ S'.1 23 = Int32.ofNat (rnE nmB T 30 e) ∧ S'.1 25 = -4 ∧ S'.1 24 = S.1 24 ∧ S'.1 27 = S.1 27 := by
    have l1 : Rl S (rs_setI S 26 (0 : Int32)) := Rl_I (by omega) (by omega)
    obtain ⟨S', g1, g2, g3, g4, g5, g6, g7⟩ := q269e (T := T) false 30 lf_N e (rs_setI S 26 (0 : Int32)) (TX0_l l1 X) (by omega) (by omega) (by unfold lf_N; omega)
    exact ⟨S', g1, Rl_tr l1 g2, g3, g4, g5, g7⟩
  cases g with
  | false =>
    obtain ⟨S', g1, g2, g3, g4, g5, g6⟩ := bad
    refine ⟨S', ?_, g2, g3, ?_, g5, g6, fun z => by cases z⟩
    · rw [if_pos (by decide)]
      exact g1
    · rw [if_neg (fun z => by cases z.1)]
      exact g4
  | true =>
    have hv' := hv rfl
    have ti : (Int64.ofNat v).toInt = (v : Int) := Int64.toInt_ofNat_of_lt (by omega)
    have c1 : (0 : Int32) < lg_cmp (Int64.ofNat v) (1000000000 : Int64) ↔ 1000000000 < v := by
      rw [lg_cmp_gt, Int64.lt_iff_toInt_lt, ti]
      have : (1000000000 : Int64).toInt = 1000000000 := rfl
      omega
    rw [if_neg (by decide)]
    by_cases hle : v ≤ 1000000000
    · have l1 : Rl S (rs_setI S 26 (Int64.toInt32 (Int64.ofNat v))) := Rl_I (by omega) (by omega)
      obtain ⟨S', g1, g2, g3, g4, g5, g6, g7⟩ := q269e (T := T) true 30 lf_N e (rs_setI S 26 (Int64.toInt32 (Int64.ofNat v))) (TX0_l l1 X) (by omega) (by omega) (by unfold lf_N; omega)
      refine ⟨S', ?_, Rl_tr l1 g2, g3, ?_, g5, g7, fun _ _ => ?_⟩
      · rw [if_neg (fun z => by have := c1.mp z; omega)]
        exact g1
      · rw [if_pos ⟨rfl, hle⟩]
        exact g4
      · rw [g6]
        show Int64.toInt32 (Int64.ofNat v) = Int32.ofNat v
        apply Int32.toInt_inj.mp
        rw [Int64.toInt_toInt32, ti, Int32.toInt_ofNat_of_lt (by omega)]
        apply Int.bmod_eq_of_le <;> omega
    · obtain ⟨S', g1, g2, g3, g4, g5, g6⟩ := bad
      refine ⟨S', ?_, g2, g3, ?_, g5, g6, fun _ z => absurd z hle⟩
      · rw [if_pos (c1.mpr (by omega))]
        exact g1
      · rw [if_neg (fun z => hle z.2)]
        exact g4
theorem q269m (g : Bool) (X : TX0 T S) (he : e ≤ 20) : ∀ m n dd N, (dd + m = 4 ∨ (4 ≤ dd ∧ m = 0)) → dd < 100 → m < n → (g = true → N * 10 ^ m < 10 ^ 10) → ∃ S', r269_165 n (Int32.ofNat e) (if g = true then 1 else 0) (Int64.ofNat N) (Int32.ofNat dd) S = some ((), S') ∧ Rl S S' ∧ S'.1 23 = Int32.ofNat (rnE nmB T 30 e) ∧ S'.1 25 = (if g = true ∧ N * 10 ^ m ≤ 1000000000 then -2 else -4) ∧ S'.1 24 = S.1 24 ∧ S'.1 27 = S.1 27 ∧ (g = true → N * 10 ^ m ≤ 1000000000 → S'.1 26 = Int32.ofNat (N * 10 ^ m)) := by
  intro m
  induction m with
  | zero =>
    intro n dd N h1 h2 h3 hv
    cases n with
    | zero => omega
    | succ n =>
      rw [r269_165]
      dsimp only
      rw [if_pos (show (4 : Int32) ≤ Int32.ofNat dd from (i32_len (a := 4) (by omega) (by omega)).mpr (by omega)), Nat.pow_zero, Nat.mul_one]
      exact q269f g X he N (by rw [Nat.pow_zero, Nat.mul_one] at hv; exact hv)
  | succ m ih =>
    intro n dd N h1 h2 h3 hv
    cases n with
    | zero => omega
    | succ n =>
      have e1 : N * 10 ^ (m + 1) = N * 10 * 10 ^ m := by rw [Nat.pow_succ, Nat.mul_assoc, Nat.mul_comm 10]
      rw [r269_165]
      dsimp only
      rw [if_neg (show ¬ (4 : Int32) ≤ Int32.ofNat dd from fun z => by have := (i32_len (a := 4) (by omega) (by omega)).mp z; omega), show (10 : Int64) = Int64.ofNat 10 from rfl, (j_of N 10).1, show Int32.ofNat dd + (1 : Int32) = Int32.ofNat (dd + 1) from i32_add dd 1, e1]
      exact ih n (dd + 1) (N * 10) (by omega) (by omega) (by omega) (by rw [← e1]; exact hv)
/-- the digits are put together -/
theorem q269d (X : TX0 T S) {x3 : Int32} : ∀ m n x b d q N, x + m = e → e ≤ T.length → m < n → (∀ j, x ≤ j → j < e → nmB (chT T j) = true) → r269_102 n (Int32.ofNat e) x3 1 (Int64.ofNat N) (Int32.ofNat x) S = r269_154 (Int32.ofNat e) x3 1 (Int64.ofNat (nmS T m x b d q N).2.2.2) S := by
  have hT := X.2.1
  intro m
  induction m with
  | zero =>
    intro n x b d q N h1 h2 h3 hj
    cases n with
    | zero => omega
    | succ n =>
      rw [r269_102]
      dsimp only
      rw [if_pos ((i32_len (by omega) (by omega)).mpr (by omega))]
      rfl
  | succ m ih =>
    intro n x b d q N h1 h2 h3 hj
    cases n with
    | zero => omega
    | succ n =>
      rw [r269_102]
      dsimp only
      rw [if_neg (fun z => by have := (i32_len (by omega) (by omega)).mp z; omega), if_neg (by decide), q268 X (by omega), rb_r, ifB, nmS]
      by_cases h46 : chT T x = 46
      · rw [if_pos (ptA_i.mpr ⟨by omega, h46⟩), if_pos h46]
        unfold r269_146
        rw [show Int32.ofNat x + (1 : Int32) = Int32.ofNat (x + 1) from i32_add x 1]
        exact ih n (x + 1) b d (q + 1) N (by omega) h2 (by omega) (fun j g1 g2 => hj j (by omega) g2)
      · have hdg : dgB (chT T x) = true := by
          have := hj x (Nat.le_refl _) (by omega)
          unfold nmB at this
          rw [Bool.or_eq_true, decide_eq_true_iff] at this
          exact this.resolve_right h46
        have hdi := dg_i.mp hdg
        rw [if_neg (fun z => h46 (ptA_i.mp z).2), if_neg h46, rdI (n := 20) (by decide) (by omega) (by omega), Option.bind_some, X.2.2.2 x (by omega), j_32 (by omega), show (10 : Int64) = Int64.ofNat 10 from rfl, (j_of 10 N).1, (j_of _ _).2, show (48 : Int64) = Int64.ofNat 48 from rfl, show 10 * N + chT T x = 10 * N + (chT T x - 48) + 48 by omega, j_sb]
        unfold r269_146
        rw [show Int32.ofNat x + (1 : Int32) = Int32.ofNat (x + 1) from i32_add x 1]
        exact ih n (x + 1) _ _ q _ (by omega) h2 (by omega) (fun j g1 g2 => hj j (by omega) g2)
/-- digits first -/
theorem nmS_d : ∀ j m p b d q N, (∀ i, p ≤ i → i < p + j → dgB (chT T i) = true) → ∃ N', nmS T (j + m) p b d q N = nmS T m (p + j) (if q = 0 then b + j else b) (if q = 0 then d else d + j) q N'
  | 0, m, p, b, d, q, N, _ => ⟨N, by rw [Nat.zero_add, Nat.add_zero]; split <;> rfl⟩
  | j + 1, m, p, b, d, q, N, h => by
    have hd := dg_i.mp (h p (Nat.le_refl _) (by omega))
    rw [show j + 1 + m = (j + m) + 1 by omega, nmS, if_neg (by omega)]
    by_cases e : q = 0
    · rw [if_pos e, if_pos e]
      obtain ⟨N', g⟩ := nmS_d j m (p + 1) (b + 1) d q (10 * N + (chT T p - 48)) (fun i h1 h2 => h i (by omega) (by omega))
      rw [if_pos e, if_pos e] at g
      refine ⟨N', ?_⟩
      rw [g, if_pos e, if_pos e, show p + 1 + j = p + (j + 1) by omega, show b + 1 + j = b + (j + 1) by omega]
    · rw [if_neg e, if_neg e]
      obtain ⟨N', g⟩ := nmS_d j m (p + 1) b (d + 1) q (10 * N + (chT T p - 48)) (fun i h1 h2 => h i (by omega) (by omega))
      rw [if_neg e, if_neg e] at g
      refine ⟨N', ?_⟩
      rw [g, if_neg e, if_neg e, show p + 1 + j = p + (j + 1) by omega, show d + 1 + j = d + (j + 1) by omega]
end RN2
