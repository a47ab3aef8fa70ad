/-! THE REFERENCE goes to the next token -/
def cdT (T Lr Lc : List Nat) (p : Nat) : Int32 := if T.length ≤ p then -1 else if nmB (chT T p) = true then (if (nmv T p).isSome = true then -2 else -4) else if cpB (chT T p) = true then (if (rfv T Lr Lc p).isSome = true then -3 else -4) else Int32.ofNat (chT T p)
/-- the token at p is at hand -/
def LXT (T Lr Lc : List Nat) (p : Nat) (S : rs_S) : Prop := S.1 24 = Int32.ofNat p ∧ S.1 23 = Int32.ofNat (te T p) ∧ S.1 25 = cdT T Lr Lc p ∧ (∀ v, nmv T p = some v → S.1 26 = Int32.ofNat v) ∧ ∀ y z, rfv T Lr Lc p = some (y, z) → S.1 27 = Int32.ofNat (y + 128 * z)
section RNX
variable {S S' S2 : rs_S} {T Lr Lc : List Nat} {P : Nat → Bool} {k t p j n m x b d q N e o : Nat} {g : Bool}
theorem q269g1 (X : TX0 T S) (hb : b < 100) (he : e ≤ 20) (hpt : ptA T e = false) : r269_58 (Int32.ofNat e) (Int32.ofNat b) (-1 : Int32) S = r269_91 (Int32.ofNat e) (-1 : Int32) (if decide (1 ≤ b ∧ b ≤ 6) = true then 1 else 0) S := by
  unfold r269_58
  by_cases h1 : b < 1
  · rw [if_pos (show Int32.ofNat b < (1 : Int32) from (i32_ltn (b := 1) (by omega) (by omega)).mpr h1), if_neg (show ¬ decide (1 ≤ b ∧ b ≤ 6) = true by rw [decide_eq_true_iff]; omega)]
    rfl
  · rw [if_neg (show ¬ Int32.ofNat b < (1 : Int32) from fun z => h1 ((i32_ltn (b := 1) (by omega) (by omega)).mp z))]
    by_cases h2 : 6 < b
    · rw [if_pos (show (6 : Int32) < Int32.ofNat b from (i32_ltn (a := 6) (by omega) (by omega)).mpr h2), if_neg (show ¬ decide (1 ≤ b ∧ b ≤ 6) = true by rw [decide_eq_true_iff]; omega)]
      rfl
    · rw [if_neg (show ¬ (6 : Int32) < Int32.ofNat b from fun z => h2 ((i32_ltn (a := 6) (by omega) (by omega)).mp z)), if_neg (by decide), if_neg (by decide), q268 X (by omega), rb_r, hpt, if_neg Bool.false_ne_true, if_pos rfl, if_pos (show decide (1 ≤ b ∧ b ≤ 6) = true by rw [decide_eq_true_iff]; omega)]
theorem q269g2 (X : TX0 T S) (hb : b < 100) (hd : d < 100) (he : e ≤ 40) : r269_58 (Int32.ofNat e) (Int32.ofNat b) (Int32.ofNat d) S = r269_91 (Int32.ofNat e) (Int32.ofNat d) (if (decide (1 ≤ b ∧ b ≤ 6 ∧ 1 ≤ d ∧ d ≤ 4) && !ptA T e) = true then 1 else 0) S := by
  have bad : ¬ (1 ≤ b ∧ b ≤ 6 ∧ 1 ≤ d ∧ d ≤ 4) → r269_90 (Int32.ofNat e) (Int32.ofNat d) S = r269_91 (Int32.ofNat e) (Int32.ofNat d) (if (decide (1 ≤ b ∧ b ≤ 6 ∧ 1 ≤ d ∧ d ≤ 4) && !ptA T e) = true then 1 else 0) S := by
    intro h
    rw [decide_eq_false h, Bool.false_and, if_neg Bool.false_ne_true]
    rfl
  unfold r269_58
  by_cases h1 : b < 1
  · rw [if_pos (show Int32.ofNat b < (1 : Int32) from (i32_ltn (b := 1) (by omega) (by omega)).mpr h1)]
    exact bad (by omega)
  · rw [if_neg (show ¬ Int32.ofNat b < (1 : Int32) from fun z => h1 ((i32_ltn (b := 1) (by omega) (by omega)).mp z))]
    by_cases h2 : 6 < b
    · rw [if_pos (show (6 : Int32) < Int32.ofNat b from (i32_ltn (a := 6) (by omega) (by omega)).mpr h2)]
      exact bad (by omega)
    · rw [if_neg (show ¬ (6 : Int32) < Int32.ofNat b from fun z => h2 ((i32_ltn (a := 6) (by omega) (by omega)).mp z))]
      by_cases h3 : d = 0
      · rw [if_pos (show Int32.ofNat d = (0 : Int32) by rw [h3]; rfl)]
        exact bad (by omega)
      · rw [if_neg (show ¬ Int32.ofNat d = (0 : Int32) from i32_ofne (b := 0) (by omega) (by omega) h3)]
        by_cases h4 : 4 < d
        · rw [if_pos (show (4 : Int32) < Int32.ofNat d from (i32_ltn (a := 4) (by omega) (by omega)).mpr h4)]
          exact bad (by omega)
        · rw [if_neg (show ¬ (4 : Int32) < Int32.ofNat d from fun z => h4 ((i32_ltn (a := 4) (by omega) (by omega)).mp z)), q268 X (by omega), rb_r, ifB, decide_eq_true (show 1 ≤ b ∧ b ≤ 6 ∧ 1 ≤ d ∧ d ≤ 4 by omega)]
          cases ptA T e with
          | false => rw [if_neg Bool.false_ne_true, Bool.not_false, Bool.and_true, if_pos rfl]
          | true =>
            rw [if_pos rfl, Bool.not_true, Bool.and_false, if_neg Bool.false_ne_true]
            rfl
/-- the flag is set: what comes of it -/
theorem q269h (X : TX0 T S) (hp : S.1 23 = Int32.ofNat p) (hpl : p ≤ 20) (he : e ≤ 20) {x3 : Int32} {dd : Nat} (hx3 : (x3 = -1 ∧ dd = 0) ∨ x3 = Int32.ofNat dd) (hdd : dd < 100) (g : Bool) (hg : g = true → p ≤ e ∧ e ≤ T.length ∧ dd ≤ 4 ∧ (∀ j, p ≤ j → j < e → nmB (chT T j) = true) ∧ (nmS T (e - p) p 0 0 0 0).2.2.2 * 10 ^ (4 - dd) < 10 ^ 10) : ∃ S', r269_91 (Int32.ofNat e) x3 (if g = true then 1 else 0) S = some ((), S') ∧ Rl S S' ∧ S'.1 23 = Int32.ofNat (rnE nmB T 30 e) ∧ S'.1 25 = (if g = true ∧ (nmS T (e - p) p 0 0 0 0).2.2.2 * 10 ^ (4 - dd) ≤ 1000000000 then -2 else -4) ∧ S'.1 24 = S.1 24 ∧ S'.1 27 = S.1 27 ∧ (g = true → (nmS T (e - p) p 0 0 0 0).2.2.2 * 10 ^ (4 - dd) ≤ 1000000000 → S'.1 26 = Int32.ofNat ((nmS T (e - p) p 0 0 0 0).2.2.2 * 10 ^ (4 - dd))) := by
  have h154 : ∀ (x4 : Int32) (x5 : Int64), r269_154 (Int32.ofNat e) x3 x4 x5 S = r269_165 lf_N (Int32.ofNat e) x4 x5 (Int32.ofNat dd) S := by
    intro x4 x5
    unfold r269_154 r269_163
    rcases hx3 with ⟨h1, h2⟩ | h1
    · subst h1 h2
      rw [if_neg (by decide)]
      rfl
    · subst h1
      rw [if_pos (show (0 : Int32) ≤ Int32.ofNat dd from (i32_len (a := 0) (by omega) (by omega)).mpr (Nat.zero_le _))]
  unfold r269_91
  rw [hp]
  obtain ⟨n, hn⟩ : ∃ n, lf_N = n + 1 := ⟨lf_N - 1, by unfold lf_N; omega⟩
  cases g with
  | false =>
    have e1 : r269_102 lf_N (Int32.ofNat e) x3 (if false = true then 1 else 0) (0 : Int64) (Int32.ofNat p) S = r269_165 lf_N (Int32.ofNat e) (if false = true then 1 else 0) (Int64.ofNat 0) (Int32.ofNat dd) S := by
      rw [hn, r269_102]
      dsimp only
      rw [← hn, ← h154]
      split
      · rfl
      · rfl
    rw [e1]
    obtain ⟨S', g1, g2, g3, g4, g5, g6, g7⟩ := q269m (T := T) false X he (4 - dd) lf_N dd 0 (by omega) hdd (by unfold lf_N; omega) (fun z => by cases z)
    refine ⟨S', g1, g2, g3, ?_, g5, g6, fun z => by cases z⟩
    rw [g4, if_neg (fun z => by cases z.1), if_neg (fun z => by cases z.1)]
  | true =>
    obtain ⟨f1, f2, f3, f4, f5⟩ := hg rfl
    have e1 : r269_102 lf_N (Int32.ofNat e) x3 (if true = true then 1 else 0) (0 : Int64) (Int32.ofNat p) S = r269_165 lf_N (Int32.ofNat e) (if true = true then 1 else 0) (Int64.ofNat (nmS T (e - p) p 0 0 0 0).2.2.2) (Int32.ofNat dd) S := by
      rw [if_pos rfl, ← h154]
      exact q269d X (e - p) lf_N p 0 0 0 0 (by omega) f2 (by unfold lf_N; omega) f4
    rw [e1]
    exact q269m (T := T) true X he (4 - dd) lf_N dd _ (by omega) hdd (by unfold lf_N; omega) (fun _ => f5)
theorem q269 (X : TX0 T S) (K : TK T k) (hn : nmB (chT T p) = true) (hp : S.1 23 = Int32.ofNat p) : ∃ S', rf_269 S = some ((), S') ∧ Rl S S' ∧ S'.1 23 = Int32.ofNat (te T p) ∧ S'.1 25 = (if (nmv T p).isSome = true then -2 else -4) ∧ S'.1 24 = S.1 24 ∧ S'.1 27 = S.1 27 ∧ ∀ v, nmv T p = some v → S'.1 26 = Int32.ofNat v := by
  have hT := X.2.1
  have hpl := nmb_e hn
  have hle := rn_le (P := dgB) (T := T) 30 p
  have hbn := rn_b (P := dgB) (T := T) 30 p (by omega)
  have hst := rn_stop (P := dgB) (T := T) 30 p (by omega)
  have hal := rn_all (P := dgB) (T := T) 30 p
  have dn : ∀ j, dgB (chT T j) = true → nmB (chT T j) = true := fun j h => by unfold nmB; rw [h]; rfl
  -- out of q269h
  have fin : ∀ (e dd : Nat) (x3 : Int32) (g : Bool), e ≤ 20 → p ≤ e → (∀ j, p ≤ j → j < e → nmB (chT T j) = true ∧ j < T.length) → ((x3 = -1 ∧ dd = 0) ∨ x3 = Int32.ofNat dd) → dd < 100 → g = gdN (nmZ T p) → (g = true → e = te T p ∧ dd = (nmZ T p).2.1) → ∃ S', r269_91 (Int32.ofNat e) x3 (if g = true then 1 else 0) S = some ((), S') ∧ Rl S S' ∧ S'.1 23 = Int32.ofNat (te T p) ∧ S'.1 25 = (if (nmv T p).isSome = true then -2 else -4) ∧ S'.1 24 = S.1 24 ∧ S'.1 27 = S.1 27 ∧ ∀ v, nmv T p = some v → S'.1 26 = Int32.ofNat v := by
    intro e dd x3 g h1 h2 h3 h4 h5 h6 h7
    have hv : g = true → (nmS T (e - p) p 0 0 0 0).2.2.2 * 10 ^ (4 - dd) = vlN (nmZ T p) := by
      intro z
      obtain ⟨i1, i2⟩ := h7 z
      subst i1 i2
      rfl
    obtain ⟨S', g1, g2, g3, g4, g5, g6, g7⟩ := q269h (T := T) X hp (by omega) h1 h4 h5 g (fun z => by
      obtain ⟨i1, i2⟩ := h7 z
      have i3 := gd_N K hn (h6.symm.trans z)
      have i4 := vl_b K hn (h6.symm.trans z)
      refine ⟨h2, ?_, by omega, fun j a1 a2 => (h3 j a1 a2).1, by rw [hv z]; exact i4⟩
      rw [i1]
      exact te_b (by omega))
    rw [← te_run hT hn h2 h3 (by omega)] at g3
    refine ⟨S', g1, g2, g3, ?_, g5, g6, fun v hv' => ?_⟩
    · rw [g4]
      cases g with
      | false =>
        rw [if_neg (fun z => by cases z.1), show nmv T p = none from if_neg (fun z => by rw [← h6] at z; cases z.2.1)]
        rfl
      | true =>
        rw [hv rfl]
        by_cases z : vlN (nmZ T p) ≤ 1000000000
        · rw [if_pos ⟨rfl, z⟩, show nmv T p = some (vlN (nmZ T p)) from if_pos ⟨hn, h6.symm, z⟩]
          rfl
        · rw [if_neg (fun y => z y.2), show nmv T p = none from if_neg (fun y => z y.2.2)]
          rfl
    · unfold nmv at hv'
      split at hv'
      · next z =>
        cases hv'
        have gt : g = true := h6.trans z.2.1
        have := g7 gt (by rw [hv gt]; exact z.2.2)
        rw [hv gt] at this
        exact this
      · cases hv'
  unfold rf_269
  rw [hp, q269b hp 30 lf_N p X (Nat.le_refl _) (by omega) (by omega) (by unfold lf_N; omega)]
  cases hpt : ptA T (rnE dgB T 30 p) with
  | false =>
    rw [if_neg Bool.false_ne_true, q269g1 X (by omega) (by omega) hpt]
    have hs : ¬ (rnE dgB T 30 p < T.length ∧ nmB (chT T (rnE dgB T 30 p)) = true) := by
      intro z
      have z2 := z.2
      unfold nmB at z2
      rw [Bool.or_eq_true, decide_eq_true_iff] at z2
      rcases z2 with z2 | z2
      · exact hst ⟨z.1, z2⟩
      · rw [ptA_i.mpr ⟨z.1, z2⟩] at hpt; cases hpt
    have hte := te_eq hT hn hle (fun j a1 a2 => ⟨dn j (hal j a1 a2).1, (hal j a1 a2).2⟩) hs
    obtain ⟨N', hN⟩ := nmS_d (T := T) (rnE dgB T 30 p - p) 0 p 0 0 0 0 (fun i a1 a2 => (hal i a1 (by omega)).1)
    rw [if_pos rfl, if_pos rfl, Nat.add_zero, nmS] at hN
    have hZ : nmZ T p = (0 + (rnE dgB T 30 p - p), 0, 0, N') := by unfold nmZ; rw [hte]; exact hN
    refine fin _ 0 (-1) _ (by omega) hle (fun j a1 a2 => ⟨dn j (hal j a1 a2).1, (hal j a1 a2).2⟩) (Or.inl ⟨rfl, rfl⟩) (by omega) ?_ (fun _ => ⟨hte.symm, by rw [hZ]⟩)
    rw [hZ]
    unfold gdN
    dsimp only
    congr 1
    simp
  | true =>
    have hp1 := ptA_i.mp hpt
    have hle2 := rn_le (P := dgB) (T := T) 30 (rnE dgB T 30 p + 1)
    have hbn2 := rn_b (P := dgB) (T := T) 30 (rnE dgB T 30 p + 1) (by omega)
    have hst2 := rn_stop (P := dgB) (T := T) 30 (rnE dgB T 30 p + 1) (by omega)
    have hal2 := rn_all (P := dgB) (T := T) 30 (rnE dgB T 30 p + 1)
    rw [if_pos rfl, show (0 : Int32) = Int32.ofNat 0 from rfl, q269c (b := rnE dgB T 30 p - p) 30 lf_N (rnE dgB T 30 p + 1) 0 X (by omega) (by omega) (by unfold lf_N; omega) (by omega), q269g2 X (by omega) (by omega) (by omega)]
    generalize hE1 : rnE dgB T 30 p = e1 at *
    generalize hE2 : rnE dgB T 30 (e1 + 1) = e2 at *
    have run : ∀ j, p ≤ j → j < e2 → nmB (chT T j) = true ∧ j < T.length := by
      intro j a1 a2
      by_cases z1 : j < e1
      · exact ⟨dn j (hal j a1 z1).1, (hal j a1 z1).2⟩
      · by_cases z2 : j = e1
        · subst z2
          refine ⟨?_, hp1.1⟩
          unfold nmB
          rw [hp1.2]
          rfl
        · have := hal2 j (by omega) a2
          exact ⟨dn j this.1, this.2⟩
    have hge := te_ge hT hn run
    obtain ⟨N', hN⟩ := nmS_d (T := T) (e1 - p) ((e2 - (e1 + 1)) + (te T p - e2) + 1) p 0 0 0 0 (fun i a1 a2 => (hal i a1 (by omega)).1)
    rw [if_pos rfl, if_pos rfl, nmS, show p + (e1 - p) = e1 by omega, if_pos hp1.2] at hN
    obtain ⟨N2, hN2⟩ := nmS_d (T := T) (e2 - (e1 + 1)) (te T p - e2) (e1 + 1) (0 + (e1 - p)) 0 (0 + 1) N' (fun i a1 a2 => (hal2 i a1 (by omega)).1)
    rw [if_neg (by omega), if_neg (by omega), show e1 + 1 + (e2 - (e1 + 1)) = e2 by omega] at hN2
    have hZ : nmZ T p = nmS T (te T p - e2) e2 (0 + (e1 - p)) (0 + (e2 - (e1 + 1))) (0 + 1) N2 := by
      unfold nmZ
      rw [show te T p - p = e1 - p + (e2 - (e1 + 1) + (te T p - e2) + 1) by omega, hN, hN2]
    rw [Nat.zero_add]
    refine fin e2 (e2 - (e1 + 1)) _ _ (by omega) (by omega) run (Or.inr rfl) (by omega) ?_ ?_
    · cases hpt2 : ptA T e2 with
      | false =>
        have hs : ¬ (e2 < T.length ∧ nmB (chT T e2) = true) := by
          intro z
          have z2 := z.2
          unfold nmB at z2
          rw [Bool.or_eq_true, decide_eq_true_iff] at z2
          rcases z2 with z2 | z2
          · exact hst2 ⟨z.1, z2⟩
          · rw [ptA_i.mpr ⟨z.1, z2⟩] at hpt2; cases hpt2
        have hte := te_eq hT hn (by omega) run hs
        rw [hZ, hte, Nat.sub_self, nmS]
        unfold gdN
        dsimp only
        rw [Bool.not_false, Bool.and_true]
        congr 1
        simp
      | true =>
        have hp2 := ptA_i.mp hpt2
        have hge2 : e2 + 1 ≤ te T p := te_ge hT hn (fun j a1 a2 => by
          by_cases z : j < e2
          · exact run j a1 z
          · have : j = e2 := by omega
            subst this
            refine ⟨?_, hp2.1⟩
            unfold nmB
            rw [hp2.2]
            rfl)
        rw [Bool.not_true, Bool.and_false]
        symm
        rw [hZ, show te T p - e2 = (te T p - e2 - 1) + 1 by omega, nmS, if_pos hp2.2]
        have hq := (nmS_b (T := T) (te T p - e2 - 1) (e2 + 1) (0 + (e1 - p)) (0 + (e2 - (e1 + 1))) (0 + 1 + 1) N2 (fun z => by omega)).2.2.2.2
        unfold gdN
        rw [decide_eq_false_iff_not]
        omega
    · intro z
      rw [Bool.and_eq_true] at z
      have hpt2 : ptA T e2 = false := by simpa using z.2
      have hs : ¬ (e2 < T.length ∧ nmB (chT T e2) = true) := by
        intro y
        have z2 := y.2
        unfold nmB at z2
        rw [Bool.or_eq_true, decide_eq_true_iff] at z2
        rcases z2 with z2 | z2
        · exact hst2 ⟨y.1, z2⟩
        · rw [ptA_i.mpr ⟨y.1, z2⟩] at hpt2; cases hpt2
      have hte := te_eq hT hn (by omega) run hs
      refine ⟨hte.symm, ?_⟩
      rw [hZ, hte, Nat.sub_self, nmS]
      dsimp only
      omega
end RNX
