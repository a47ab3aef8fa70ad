/-! TEXTS: a number is put behind -/
/-- the digits of a number -/
def dgF : Nat → Nat → List Nat
  | 0, _ => []
  | k + 1, m => if m < 10 then [48 + m] else dgF k (m / 10) ++ [48 + m % 10]
abbrev dgs (m : Nat) : List Nat := dgF 6 m
theorem dgF_2 {k m : Nat} (h : 100 ≤ m) : dgF (k + 2) m = dgF k (m / 100) ++ [48 + m / 10 % 10, 48 + m % 10] := by
  rw [dgF, if_neg (by omega), dgF, if_neg (by omega), List.append_assoc, show m / 10 / 10 = m / 100 by omega]
  rfl
theorem dgF_s {k m : Nat} (h : m < 100) : dgF (k + 2) m = if m < 10 then [48 + m] else [48 + m / 10, 48 + m % 10] := by
  rw [dgF]
  by_cases h1 : m < 10
  · rw [if_pos h1, if_pos h1]
  · rw [if_neg h1, if_neg h1, dgF, if_pos (by omega)]
    rfl
theorem dgF_len : ∀ k m, 1 ≤ k → m < 10 ^ k → (dgF k m).length = (dgF (k + 1) m).length
  | 0, m, h, _ => by omega
  | k + 1, m, _, hm => by
    rw [dgF, dgF]
    by_cases q : m < 10
    · rw [if_pos q, if_pos q]
    · rw [if_neg q, if_neg q, List.length_append, List.length_append]
      cases k with
      | zero => exact absurd hm (by simp; omega)
      | succ k => rw [dgF_len (k + 1) (m / 10) (by omega) (by rw [Nat.pow_succ] at hm; omega)]
theorem dgs_len {m : Nat} (hm : m < 1000000) : (dgs m).length = ndg m := by
  unfold ndg
  show (dgF 6 m).length = _
  by_cases h1 : m < 10
  · rw [if_pos h1, dgF, if_pos h1]; rfl
  · rw [if_neg h1, dgF, if_neg h1, List.length_append]
    by_cases h2 : m < 100
    · rw [if_pos h2, dgF, if_pos (by omega)]; rfl
    · rw [if_neg h2, dgF, if_neg (by omega), List.length_append]
      by_cases h3 : m < 1000
      · rw [if_pos h3, dgF, if_pos (by omega)]; rfl
      · rw [if_neg h3, dgF, if_neg (by omega), List.length_append]
        by_cases h4 : m < 10000
        · rw [if_pos h4, dgF, if_pos (by omega)]; rfl
        · rw [if_neg h4, dgF, if_neg (by omega), List.length_append]
          by_cases h5 : m < 100000
          · rw [if_pos h5, dgF, if_pos (by omega)]; rfl
          · rw [if_neg h5, dgF, if_neg (by omega), List.length_append, dgF, if_pos (by omega)]; rfl
theorem dgF_c : ∀ k m, ∀ c ∈ dgF k m, 48 ≤ c ∧ c < 58
  | 0, _, c, h => by cases h
  | k + 1, m, c, h => by
    rw [dgF] at h
    split at h
    · next q =>
      have : c = 48 + m := by simpa using h
      omega
    · rcases List.mem_append.mp h with g | g
      · exact dgF_c k _ c g
      · have : c = 48 + m % 10 := by simpa using g
        omega
section API
variable {A : ah} {h : pm_H} {T : List Nat} {a cap ee m s i : Nat} {w : Option Nat} {xs : List Value}
theorem neg_i (hm : m < 2 ^ 31) : (-(Int32.ofNat m)).toInt = -(m : Int) := by
  rw [Int32.toInt_neg, Int32.toInt_ofNat_of_lt hm]
  apply Int.bmod_eq_of_le <;> omega
theorem c60 (hm : m < 1000000) : ll_60 (Int32.ofNat m) h = rtI (Int32.ofNat (ndg m)) h := by
  have hn := neg_i (m := m) (by omega)
  have step : ∀ (p : Int32) (k : Nat), p.toInt = -(k : Int) → (-(Int32.ofNat m) ≤ p ↔ k ≤ m) := by
    intro p k hp
    rw [Int32.le_iff_toInt_le, hn, hp]
    omega
  have s1 := step (-10) 10 (by decide)
  have s2 := step (10 * -10) 100 (by decide)
  have s3 := step (10 * (10 * -10)) 1000 (by decide)
  have s4 := step (10 * (10 * (10 * -10))) 10000 (by decide)
  have s5 := step (10 * (10 * (10 * (10 * -10)))) 100000 (by decide)
  have s6 := step (10 * (10 * (10 * (10 * (10 * -10))))) 1000000 (by decide)
  unfold ll_60 ndg
  rw [if_neg (i32_lt m (by omega))]
  unfold l60_11
  rw [show lf_N = 19990 + 1 + 1 + 1 + 1 + 1 + 1 + 1 + 1 + 1 + 1 from rfl]
  by_cases h1 : m < 10
  · rw [if_pos h1, l60_16]
    dsimp only
    rw [if_neg (by decide), if_neg (fun g => by have := s1.mp g; omega)]
    rfl
  · rw [if_neg h1, l60_16]
    dsimp only
    rw [if_neg (by decide), if_pos (s1.mpr (by omega)), l60_16]
    dsimp only
    rw [if_neg (by decide)]
    by_cases h2 : m < 100
    · rw [if_pos h2, if_neg (fun g => by have := s2.mp g; omega)]
      rfl
    · rw [if_neg h2, if_pos (s2.mpr (by omega)), l60_16]
      dsimp only
      rw [if_neg (by decide)]
      by_cases h3 : m < 1000
      · rw [if_pos h3, if_neg (fun g => by have := s3.mp g; omega)]
        rfl
      · rw [if_neg h3, if_pos (s3.mpr (by omega)), l60_16]
        dsimp only
        rw [if_neg (by decide)]
        by_cases h4 : m < 10000
        · rw [if_pos h4, if_neg (fun g => by have := s4.mp g; omega)]
          rfl
        · rw [if_neg h4, if_pos (s4.mpr (by omega)), l60_16]
          dsimp only
          rw [if_neg (by decide)]
          by_cases h5 : m < 100000
          · rw [if_pos h5, if_neg (fun g => by have := s5.mp g; omega)]
            rfl
          · rw [if_neg h5, if_pos (s5.mpr (by omega)), l60_16]
            dsimp only
            rw [if_neg (by decide), if_neg (fun g => by have := s6.mp g; omega)]
            rfl
/-- the tables of digits -/
theorem dg_tab (R : ar A h) (B : Cb A) (hi : i < 100) : la_I h .baload (some 77) (Int32.ofNat i) = some (Int32.ofNat (48 + i % 10)) ∧ la_I h .baload (some 78) (Int32.ofNat i) = some (Int32.ofNat (48 + i / 10)) := by
  have e1 : pt_K1[76]? = some (.inr (4, ra 100 (fun i => .int (Int32.ofNat (48 + i % 10))))) := by decide +kernel
  have e2 : pt_K1[77]? = some (.inr (4, ra 100 (fun i => .int (Int32.ofNat (48 + i / 10))))) := by decide +kernel
  exact ⟨hc_ldI (ar_c R (B.2.2 76 _ e1)) rfl (by omega) (ra_get hi), hc_ldI (ar_c R (B.2.2 77 _ e2)) rfl (by omega) (ra_get hi)⟩
theorem nar_b {c : Nat} (hc : c < 128) : pm_nar pt_P.2 .bastore 4 h (tm_v (.inl (Int32.ofNat c))) = some (.int (Int32.ofNat c)) := by
  have key : (List.range 128).all (fun c => decide (pm_nar pt_P.2 .bastore 4 ([], 0) (tm_v (.inl (Int32.ofNat c))) = some (.int (Int32.ofNat c)))) = true := by decide +kernel
  exact of_decide_eq_true (List.all_eq_true.mp key c (List.mem_range.mpr hc))
theorem dr2 {x y : Value} (hl : i + 1 < xs.length) : ((xs.set (i + 1) y).set i x).drop i = x :: y :: xs.drop (i + 2) := by
  apply List.ext_getElem?
  intro j
  rw [List.getElem?_drop]
  match j with
  | 0 =>
    show ((xs.set (i + 1) y).set i x)[i]? = some x
    rw [List.getElem?_set_self (by rw [List.length_set]; omega)]
  | 1 =>
    rw [List.getElem?_set_ne (by omega), List.getElem?_set_self hl]
    rfl
  | j + 2 =>
    rw [List.getElem?_set_ne (by omega), List.getElem?_set_ne (by omega), List.getElem?_cons_succ, List.getElem?_cons_succ, List.getElem?_drop, show i + (j + 2) = i + 2 + j by omega]
theorem dr1 {x : Value} (hl : i < xs.length) : (xs.set i x).drop i = x :: xs.drop (i + 1) := by
  apply List.ext_getElem?
  intro j
  rw [List.getElem?_drop]
  match j with
  | 0 =>
    show (xs.set i x)[i]? = some x
    rw [List.getElem?_set_self hl]
  | j + 1 =>
    rw [List.getElem?_set_ne (by omega), List.getElem?_cons_succ, List.getElem?_drop, show i + (j + 1) = i + 1 + j by omega]
theorem tkS1 {x : Value} {j : Nat} (hj : s ≤ j) : (xs.set j x).take s = xs.take s := List.take_set_of_le hj
/-- digits written from their end -/
theorem w61 (R : ar A h) (B : Cb A) (hee : 81 ≤ ee) (hx : A.1 ee ≠ A.1 77 ∨ True) : ∀ f m n s xs (g : pm_H), m < 100 ^ (f + 1) → f < n → (∀ b, b ≠ ee → g.1[b]? = h.1[b]?) → g.1[ee]? = some (.inr (4, xs)) → s + (dgF (2 * f + 2) m).length ≤ xs.length → xs.length < 2 ^ 31 → m < 2 ^ 31 → l61_22 n (-(Int32.ofNat m)) (some ee) (Int32.ofNat (s + (dgF (2 * f + 2) m).length)) 0 g = rtI (Int32.ofNat s) (g.1.set ee (.inr (4, xs.take s ++ (dgF (2 * f + 2) m).map (fun c => Value.int (Int32.ofNat c)) ++ xs.drop (s + (dgF (2 * f + 2) m).length))), g.2) := by
  have tab : ∀ (g : pm_H), (∀ b, b ≠ ee → g.1[b]? = h.1[b]?) → ∀ i, i < 100 → la_I g .baload (some 77) (Int32.ofNat i) = some (Int32.ofNat (48 + i % 10)) ∧ la_I g .baload (some 78) (Int32.ofNat i) = some (Int32.ofNat (48 + i / 10)) := by
    intro g hg i hi
    obtain ⟨t1, t2⟩ := dg_tab R B hi
    rw [la_I_c (hg 77 (by omega)), la_I_c (hg 78 (by omega))]
    exact ⟨t1, t2⟩
  intro f
  induction f with
  | zero =>
    intro m n s xs g hm hn hg hE hl hl2 hm2
    cases n with
    | zero => omega
    | succ n =>
      have hm' : m < 100 := by simpa using hm
      have en : -(-(Int32.ofNat m)) = Int32.ofNat m := Int32.neg_neg
      obtain ⟨t1, t2⟩ := tab g hg m hm'
      rw [l61_22]
      dsimp only
      rw [if_pos (show (-100 : Int32) < -(Int32.ofNat m) by
        rw [Int32.lt_iff_toInt_lt, neg_i hm2]
        have : (-100 : Int32).toInt = -100 := rfl
        omega), en, t1, Option.bind_some]
      by_cases h1 : m < 10
      · have ed : dgF (2 * 0 + 2) m = [48 + m] := by rw [dgF, if_pos h1]
        rw [ed] at hl ⊢
        have e1 : Int32.ofNat (s + [48 + m].length) + (-1 : Int32) = Int32.ofNat s := i32_pm s
        rw [show m % 10 = m by omega, e1, hc_st hE hee (show s < xs.length by simp at hl; omega) hl2 (nar_b (by omega)), Option.bind_some, if_pos (show (-9 : Int32) ≤ -(Int32.ofNat m) by
          rw [Int32.le_iff_toInt_le, neg_i hm2]
          have : (-9 : Int32).toInt = -9 := rfl
          omega)]
        unfold l61_104
        rw [if_pos rfl]
        have e2 : xs.set s (.int (Int32.ofNat (48 + m))) = xs.take s ++ [48 + m].map (fun c => Value.int (Int32.ofNat c)) ++ xs.drop (s + [48 + m].length) := by
          conv => lhs; rw [← List.take_append_drop s (xs.set s (.int (Int32.ofNat (48 + m)))), tkS1 (Nat.le_refl _), dr1 (by simp at hl; omega)]
          simp
        rw [e2]
      · have ed : dgF (2 * 0 + 2) m = [48 + m / 10, 48 + m % 10] := by rw [dgF, if_neg h1, dgF, if_pos (by omega)]; rfl
        rw [ed] at hl ⊢
        have e1 : Int32.ofNat (s + [48 + m / 10, 48 + m % 10].length) + (-1 : Int32) = Int32.ofNat (s + 1) := i32_pm (s + 1)
        have e1' : Int32.ofNat (s + 1) + (-1 : Int32) = Int32.ofNat s := i32_pm s
        have hE2 : ((g.1.set ee (.inr (4, xs.set (s + 1) (.int (Int32.ofNat (48 + m % 10))))), g.2) : pm_H).1[ee]? = some (.inr (4, xs.set (s + 1) (.int (Int32.ofNat (48 + m % 10))))) := hs_eq hE
        obtain ⟨t3, t4⟩ := tab (g.1.set ee (.inr (4, xs.set (s + 1) (.int (Int32.ofNat (48 + m % 10))))), g.2) (fun b hb => (hs_ne hb).trans (hg b hb)) m hm'
        rw [e1, hc_st hE hee (show s + 1 < xs.length by simp at hl; omega) hl2 (nar_b (by omega)), Option.bind_some, if_neg (show ¬ (-9 : Int32) ≤ -(Int32.ofNat m) by
          rw [Int32.le_iff_toInt_le, neg_i hm2]
          have : (-9 : Int32).toInt = -9 := rfl
          omega), t4, Option.bind_some, e1', hc_st hE2 hee (show s < (xs.set (s + 1) (.int (Int32.ofNat (48 + m % 10)))).length by rw [List.length_set]; simp at hl; omega) (by rw [List.length_set]; exact hl2) (nar_b (by omega)), Option.bind_some]
        unfold l61_104
        rw [if_pos rfl]
        have e2 : (xs.set (s + 1) (.int (Int32.ofNat (48 + m % 10)))).set s (.int (Int32.ofNat (48 + m / 10))) = xs.take s ++ [48 + m / 10, 48 + m % 10].map (fun c => Value.int (Int32.ofNat c)) ++ xs.drop (s + [48 + m / 10, 48 + m % 10].length) := by
          conv => lhs; rw [← List.take_append_drop s ((xs.set (s + 1) (.int (Int32.ofNat (48 + m % 10)))).set s (.int (Int32.ofNat (48 + m / 10)))), tkS1 (Nat.le_refl _), tkS1 (by omega), dr2 (by simp at hl; omega)]
          simp
        rw [e2]
        show some (_, ((g.1.set ee _).set ee _, g.2)) = _
        rw [List.set_set]
  | succ f ih =>
    intro m n s xs g hm hn hg hE hl hl2 hm2
    by_cases hm' : m < 100
    · -- short
      have hs : dgF (2 * (f + 1) + 2) m = dgF (2 * f + 2) m := by
        rw [dgF_s hm', dgF_s hm']
      rw [hs] at hl ⊢
      exact ih m n s xs g (by
        have : 100 ^ 1 ≤ 100 ^ (f + 1) := Nat.pow_le_pow_right (by omega) (by omega)
        omega) (by omega) hg hE hl hl2 hm2
    · have hd : dgF (2 * (f + 1) + 2) m = dgF (2 * f + 2) (m / 100) ++ [48 + m / 10 % 10, 48 + m % 10] := by
        rw [show 2 * (f + 1) + 2 = (2 * f + 2) + 2 by omega]
        exact dgF_2 (by omega)
      rw [hd] at hl ⊢
      cases n with
      | zero => omega
      | succ n =>
        have hn' := neg_i hm2
        have e100 : (100 : Int32).toInt = 100 := rfl
        have d1 : -(Int32.ofNat m) / (100 : Int32) = -(Int32.ofNat (m / 100)) := by
          apply Int32.toInt_inj.mp
          rw [Int32.toInt_div, hn', neg_i (by omega), e100]
          have e : (-(m : Int)).tdiv 100 = -((m / 100 : Nat) : Int) := by rw [Int.neg_tdiv]; rfl
          rw [e]
          have hq : m / 100 ≤ m := Nat.div_le_self _ _
          generalize m / 100 = q at hq
          apply Int.bmod_eq_of_le <;> omega
        have d2 : -(Int32.ofNat (m / 100)) * (100 : Int32) - -(Int32.ofNat m) = Int32.ofNat (m % 100) := by
          have hq := neg_i (m := m / 100) (by omega)
          apply Int32.toInt_inj.mp
          rw [Int32.toInt_sub, Int32.toInt_mul, hq, hn', e100, Int32.toInt_ofNat_of_lt (by omega)]
          have e1 : (-((m / 100 : Nat) : Int) * 100).bmod (2 ^ 32) = -((m / 100 : Nat) : Int) * 100 := by apply Int.bmod_eq_of_le <;> omega
          rw [e1]
          have e2 : -((m / 100 : Nat) : Int) * 100 - -(m : Int) = ((m % 100 : Nat) : Int) := by omega
          rw [e2]
          apply Int.bmod_eq_of_le <;> omega
        obtain ⟨L, hL⟩ : ∃ L, L = (dgF (2 * f + 2) (m / 100)).length := ⟨_, rfl⟩
        have hlen : (dgF (2 * f + 2) (m / 100) ++ [48 + m / 10 % 10, 48 + m % 10]).length = L + 2 := by rw [List.length_append, hL]; rfl
        rw [hlen] at hl ⊢
        have e1 : Int32.ofNat (s + (L + 2)) + (-1 : Int32) = Int32.ofNat (s + L + 1) := i32_pm (s + L + 1)
        have e1' : Int32.ofNat (s + L + 1) + (-1 : Int32) = Int32.ofNat (s + L) := i32_pm (s + L)
        obtain ⟨t1, t2⟩ := tab g hg (m % 100) (by omega)
        obtain ⟨xs1, hxs1⟩ : ∃ xs1, xs1 = xs.set (s + L + 1) (.int (Int32.ofNat (48 + m % 100 % 10))) := ⟨_, rfl⟩
        obtain ⟨xs2, hxs2⟩ : ∃ xs2, xs2 = xs1.set (s + L) (.int (Int32.ofNat (48 + m % 100 / 10))) := ⟨_, rfl⟩
        have l1 : xs1.length = xs.length := by rw [hxs1, List.length_set]
        have l2 : xs2.length = xs.length := by rw [hxs2, List.length_set, l1]
        have hE1 : ((g.1.set ee (.inr (4, xs1)), g.2) : pm_H).1[ee]? = some (.inr (4, xs1)) := hs_eq hE
        have hg1 : ∀ b, b ≠ ee → ((g.1.set ee (.inr (4, xs1)), g.2) : pm_H).1[b]? = h.1[b]? := fun b hb => (hs_ne hb).trans (hg b hb)
        obtain ⟨-, t4⟩ := tab (g.1.set ee (.inr (4, xs1)), g.2) hg1 (m % 100) (by omega)
        have hE2 : (((g.1.set ee (.inr (4, xs1))).set ee (.inr (4, xs2)), g.2) : pm_H).1[ee]? = some (.inr (4, xs2)) := hs_eq (h := (g.1.set ee (.inr (4, xs1)), g.2)) hE1
        have hg2 : ∀ b, b ≠ ee → (((g.1.set ee (.inr (4, xs1))).set ee (.inr (4, xs2)), g.2) : pm_H).1[b]? = h.1[b]? := fun b hb => (hs_ne (h := (g.1.set ee (.inr (4, xs1)), g.2)) hb).trans (hg1 b hb)
        have hrec := ih (m / 100) n s xs2 ((g.1.set ee (.inr (4, xs1))).set ee (.inr (4, xs2)), g.2) (by
          rw [Nat.pow_succ] at hm
          omega) (by omega) hg2 hE2 (by rw [← hL, l2]; omega) (by rw [l2]; exact hl2) (by omega)
        rw [← hL] at hrec
        have w1 := hc_st (i := .bastore) (j := s + L + 1) (v := .inl (Int32.ofNat (48 + m % 100 % 10))) (w := .int (Int32.ofNat (48 + m % 100 % 10))) hE hee (show s + L + 1 < xs.length by omega) hl2 (nar_b (by omega))
        rw [← hxs1] at w1
        have w2 := hc_st (i := .bastore) (j := s + L) (v := .inl (Int32.ofNat (48 + m % 100 / 10))) (w := .int (Int32.ofNat (48 + m % 100 / 10))) hE1 hee (show s + L < xs1.length by omega) (by omega) (nar_b (by omega))
        rw [← hxs2] at w2
        rw [l61_22]
        dsimp only
        rw [if_neg (show ¬ (-100 : Int32) < -(Int32.ofNat m) by
          rw [Int32.lt_iff_toInt_lt, hn']
          have : (-100 : Int32).toInt = -100 := rfl
          omega), d1, d2, t1, Option.bind_some, e1, w1, Option.bind_some, t4, Option.bind_some, e1', w2, Option.bind_some, hrec]
        have e3 : xs2.take s ++ (dgF (2 * f + 2) (m / 100)).map (fun c => Value.int (Int32.ofNat c)) ++ xs2.drop (s + L) = xs.take s ++ (dgF (2 * f + 2) (m / 100) ++ [48 + m / 10 % 10, 48 + m % 10]).map (fun c => Value.int (Int32.ofNat c)) ++ xs.drop (s + (L + 2)) := by
          rw [hxs2, tkS1 (by omega), hxs1, tkS1 (by omega), dr2 (by omega), List.map_append, List.append_assoc, List.append_assoc, List.append_assoc, show m % 100 % 10 = m % 10 by omega, show m % 100 / 10 = m / 10 % 10 by omega, show s + L + 2 = s + (L + 2) by omega]
          rfl
        rw [e3]
        show some (_, (((g.1.set ee _).set ee _).set ee _, g.2)) = _
        rw [List.set_set, List.set_set]
theorem sb_ens2 (R : ar A h) (ha : a < 145) (e : A.1 a = ac_t T cap) {n : Nat} (hn2 : n ≤ T.length + 6) (h1 : n ≤ 286) : ∃ A' h' cap', ll_21 (some a) (Int32.ofNat n) h = some (.inl none, h') ∧ ar A' h' ∧ A'.1 a = ac_t T cap' ∧ st A A' [a] 0 0 ∧ n ≤ cap' := by
  obtain ⟨l1, l2, l3⟩ := sb_le R e
  obtain ⟨_, _, _, _, _, qc, _⟩ := R.2.2.2.2.2.1 a T cap e
  have hcap := sbq_cap qc
  by_cases q : n ≤ cap
  · exact ⟨A, h, cap, sb_ens0 R e q, R, e, st_w st_refl (by simp) (Nat.le_refl _) (Nat.le_refl _), q⟩
  · obtain ⟨A', h', r1, r2, r3, r4⟩ := sb_ens1 R ha e (n := n) (by omega) (by omega) (by omega)
    exact ⟨A', h', _, r1, r2, r3, r4, by omega⟩
theorem ll_appI (R : ar A h) (B : Cb A) (ha : a < 145) (h82 : 82 < a) (e : A.1 a = ac_t T cap) (hm : m < 1000000) (h1 : T.length + 6 ≤ 286) : ∃ A' h' cap', ll_58 w (some a) (Int32.ofNat m) h = rtR (some a) h' ∧ ar A' h' ∧ A'.1 a = ac_t (T ++ dgs m) cap' ∧ st A A' [a] 0 0 := by
  obtain ⟨l1, l2, l3⟩ := sb_le R e
  have hdl := dgs_len hm
  have hd6 : ndg m ≤ 6 := by unfold ndg; repeat' (first | omega | split)
  obtain ⟨_, ee0, m0, rest0, q0, _⟩ := R.2.2.2.2.2.1 a T cap e
  obtain ⟨A1, g, cap', r1, R1, r2, r3, r4⟩ := sb_ens2 R ha e (n := T.length + ndg m) (by omega) (by omega)
  have B1 := Cb_st B R r3 (by intro x hx; simp at hx; omega)
  obtain ⟨h81, ee, mm, rest, q, qc, q81, qt⟩ := R1.2.2.2.2.2.1 a T cap' r2
  have hcap := sbq_cap qc
  have hlen := q.2.2.1
  have hne := sb_ne q
  obtain ⟨xs, hxs⟩ : ∃ xs, xs = T.map (fun c => Value.int (Int32.ofNat c)) ++ rest := ⟨_, rfl⟩
  have hE : g.1[ee]? = some (.inr (4, xs)) := by rw [hxs]; exact q.2.1
  have hxl : xs.length = T.length + rest.length := by rw [hxs, sb_len]
  have h100 : m < 100 ^ (2 + 1) := by
    have : (100 : Nat) ^ (2 + 1) = 1000000 := by decide
    omega
  have hw := w61 (ee := ee) R1 B1 q81 (Or.inr trivial) 2 m lf_N T.length xs g h100 (by unfold lf_N; omega) (fun b hb => rfl) hE (by rw [show 2 * 2 + 2 = 6 from rfl, hdl, hxl]; omega) (by omega) (by omega)
  rw [show 2 * 2 + 2 = 6 from rfl, hdl] at hw
  have eT : xs.take T.length = T.map (fun c => Value.int (Int32.ofNat c)) := by rw [hxs]; exact List.take_left' (by rw [List.length_map])
  have eD : xs.drop (T.length + ndg m) = rest.drop (ndg m) := by
    rw [hxs, List.drop_append, List.length_map, List.drop_of_length_le (by rw [List.length_map]; omega), List.nil_append, show T.length + ndg m - T.length = ndg m by omega]
  rw [eT, eD, ← List.map_append] at hw
  have hE2 : ((g.1.set ee (.inr (4, (T ++ dgF 6 m).map (fun c => Value.int (Int32.ofNat c)) ++ rest.drop (ndg m))), g.2) : pm_H).1[a]? = some (sb_obj ee T mm) := (hs_ne hne).trans q.1
  have hP := hc_P (v := .inl (Int32.ofNat (T ++ dgs m).length)) (t := 0) hE2 (show 3 < 4 by decide) h81 rfl
  have q' : sb_c ((g.1.set ee (sb_arr (T ++ dgs m) (rest.drop (ndg m)))).set a (sb_obj ee (T ++ dgs m) mm), g.2) a ee (T ++ dgs m) cap' mm (rest.drop (ndg m)) := by
    refine ⟨?_, ?_, ?_, ?_, fun y hy => ?_⟩
    · exact hs_eq (h := (g.1.set ee _, g.2)) (n := g.2) hE2
    · exact (hs_ne (h := (g.1.set ee _, g.2)) (n := g.2) hne.symm).trans (hs_eq (n := g.2) q.2.1)
    · rw [List.length_append, hdl, List.length_drop]; omega
    · rw [List.all_eq_true]
      intro v hv
      exact List.all_eq_true.mp q.2.2.2.1 v (List.mem_of_mem_drop hv)
    · rcases List.mem_append.mp hy with hy | hy
      · exact l2 y hy
      · have := dgF_c 6 m y hy; omega
  obtain ⟨f1, f2⟩ := sb_f0 (h' := ((g.1.set ee (sb_arr (T ++ dgs m) (rest.drop (ndg m)))).set a (sb_obj ee (T ++ dgs m) mm), g.2)) R1 r2 q qc q81 qt (by rw [List.length_set, List.length_set]) rfl (fun b z1 z2 => (hs_ne (h := (g.1.set ee _, g.2)) (n := g.2) z1).trans (hs_ne (n := g.2) z2)) q'
  refine ⟨_, _, cap', ?_, f1, ah_set_e, st_w (st_trans r3 f2) (by simp) (Nat.le_refl _) (Nat.le_refl _)⟩
  have e28 : ll_28 (some a) g = some (.inl (some (.inl 1)), g) := by
    unfold ll_28
    rw [hc_I (v := 0) q.1 rfl]
    rfl
  have n4 : Int32.ofNat T.length + Int32.ofNat (ndg m) = Int32.ofNat (T.length + ndg m) := i32_add _ _
  have hL : Int32.ofNat (T ++ dgs m).length = Int32.ofNat (T.length + ndg m) := by rw [List.length_append, hdl]
  have e61 : ll_61 (Int32.ofNat m) (Int32.ofNat (T.length + ndg m)) (some ee) g = rtI (Int32.ofNat T.length) (g.1.set ee (.inr (4, (T ++ dgF 6 m).map (fun c => Value.int (Int32.ofNat c)) ++ rest.drop (ndg m))), g.2) := by
    unfold ll_61 l61_12
    rw [if_pos (show (0 : Int32) ≤ Int32.ofNat m from (i32_len (a := 0) (by omega) (by omega)).mpr (Nat.zero_le _)), if_pos rfl]
    exact hw
  unfold ll_58 ll_59
  rw [if_pos (hc_lc q0.1), hc_I q0.1 rfl, Option.bind_some, c60 hm, rt_I, if_pos (hc_lc q0.1), n4, r1, lb_V_r, if_pos (hc_lc q.1), e28, lb_I_r, if_neg (by decide), hc_R (o := some ee) q.1 rfl, Option.bind_some, e61, rt_I]
  unfold l59_48
  rw [← hL, hP]
  rfl
end API
