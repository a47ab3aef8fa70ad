/-! THE CLASS: references, blocks, numbers -/
/-- what the reader stands on -/
def RX (M : aM) (A : ah) (D : aD) (r cc : Nat) (X0 X1 : ax) : Prop := Cx M A r X0 ∧ Cx M A cc X1 ∧ Cd M A D ∧ Wx D X0 ∧ Wx D X1 ∧ 178 ≤ A.2.1 ∧ 93 < r ∧ 93 < cc ∧ r < 145 ∧ cc < 145
section CNU
variable {A A' A2 : ah} {h h' : pm_H} {M : aM} {D : aD} {X0 X1 : ax} {T : List Nat} {P : Nat → Bool} {k t p j n m r cc a x b d q N c : Nat} {fl v : Int32} {w : Option Nat} {kc : Nat}
theorem RX_u (R : ar A h) (Q : RX M A D r cc X0 X1) (s : RU A A' c) : RX M A' D r cc X0 X1 := by
  obtain ⟨q1, q2, q3, q4, q5, q6, q7, q8, q9, q10⟩ := Q
  exact ⟨Cx_st q1 R s (fun x hx => by simp at hx; omega), Cx_st q2 R s (fun x hx => by simp at hx; omega), Cd_st q3 R s (fun x hx => by simp at hx; omega), q4, q5, Nat.le_trans q6 s.1, q7, q8, q9, q10⟩
theorem sh_get (R : ar A h) (C : Cx M A c X0) (V : Cd M A D) (W : Wx D X0) (hj : j < (xS X0).length) : lf_R h (some c) [5, 1] = some (some (c + 2)) ∧ lc_of h (some (c + 2)) = some 12 ∧ ll_87 (some (c + 2)) (Int32.ofNat j) h = rtR (some (M 1 ((xS X0).getD j 0))) h ∧ lf_cc 81 h (some (M 1 ((xS X0).getD j 0))) [6] = true := by
  obtain ⟨c0, -, ⟨cap, c2⟩, -⟩ := C
  obtain ⟨r, -, -, hr⟩ := LN_c V (W.2.1 _ (gl_mem hj))
  refine ⟨hc_R (o := some (c + 2)) (ar_c R c0) rfl, ar_lc R c2, ?_, ?_⟩
  · rw [ll_get R c2 (by rw [List.length_map]; exact hj), gl_map hj]
  · unfold lf_cc
    dsimp only
    rw [ar_c R hr]
    rfl
theorem cx_lc (R : ar A h) (C : Cx M A c X0) : lc_of h (some c) = some 5 := hc_lc (ar_c R C.1)
theorem c150f (R : ar A h) (K : TK T k) (s : RS T k t fl r cc A) (ht : t ≤ k) (h178 : 178 ≤ A.2.1) : ∃ A' h' q, l150_57 w (some 83) h = rtR (some q) h' ∧ ar A' h' ∧ A'.1 q = ac_c (.inl (9, [.ref 9, .null, .null, .long 0, .null, .null, .null, .null])) ∧ 178 ≤ q ∧ RU A A' 1 ∧ RS T k t (fF T t fl) r cc A' := by
  obtain ⟨A1, h1, g1, g2, g3, g4⟩ := c145 R K s ht
  have l1 : 178 ≤ A1.2.1 := Nat.le_trans h178 g4.1
  obtain ⟨h2, p2, R2⟩ := c152 g2 l1 none none
  refine ⟨_, h2, A1.2.1, ?_, R2, ah_new_e, l1, by simpa using RU_tr g4 (RU_new g2 l1 _), RS_new g3 l1⟩
  unfold l150_57
  rw [if_pos (rr_lc R s), g1, rt_V, p2]
  rfl
theorem c150 (R : ar A h) (K : TK T k) (s : RS T k t fl r cc A) (ht : t ≤ k) (Q : RX M A D r cc X0 X1) : ∃ A' h' q x y, ll_150 w (some 83) h = rtR (some q) h' ∧ ar A' h' ∧ A'.1 q = ac_c (.inl (9, [.ref 9, .null, .null, .long 0, tm_r x, tm_r y, .null, .null])) ∧ 178 ≤ q ∧ RU A A' 1 ∧ ((∃ y0 z0, rfv T (xS X0) (xS X1) (po T t) = some (y0, z0) ∧ x = some (M 1 y0) ∧ y = some (M 1 z0) ∧ t < k ∧ RS T k (t + 1) fl r cc A') ∨ (rfv T (xS X0) (xS X1) (po T t) = none ∧ RS T k t (fF T t fl) r cc A')) := by
  have hb := chT_b (p := po T t) K.2.1
  have Q' := Q
  obtain ⟨q1, q2, q3, q4, q5, q6, q7, q8, q9, q10⟩ := Q
  have l0 := q4.2.2.2.2.2
  have l1 := q5.2.2.2.2.2
  have bad : rfv T (xS X0) (xS X1) (po T t) = none → ll_150 w (some 83) h = l150_57 w (some 83) h → ∃ A' h' q x y, ll_150 w (some 83) h = rtR (some q) h' ∧ ar A' h' ∧ A'.1 q = ac_c (.inl (9, [.ref 9, .null, .null, .long 0, tm_r x, tm_r y, .null, .null])) ∧ 178 ≤ q ∧ RU A A' 1 ∧ ((∃ y0 z0, rfv T (xS X0) (xS X1) (po T t) = some (y0, z0) ∧ x = some (M 1 y0) ∧ y = some (M 1 z0) ∧ t < k ∧ RS T k (t + 1) fl r cc A') ∨ (rfv T (xS X0) (xS X1) (po T t) = none ∧ RS T k t (fF T t fl) r cc A')) := by
    intro e1 e2
    obtain ⟨A', h', q, g1, g2, g3, g4, g5, g6⟩ := c150f (w := w) R K s ht q6
    exact ⟨A', h', q, none, none, e2.trans g1, g2, g3, g4, g5, Or.inr ⟨e1, g6⟩⟩
  cases hc : cpB (chT T (po T t)) with
  | false =>
    refine bad ?_ ?_
    · unfold rfv
      rw [hc, if_neg (fun z => by cases z.1)]
    · unfold ll_150
      rw [if_pos (rr_lc R s), c140 R K s ht, rt_I, if_pos (rr_lc R s), c140 R K s ht, rt_I, c138 (by omega), rt_I, ifB, hc, if_neg Bool.false_ne_true]
      unfold l150_26
      rw [if_pos (by decide)]
  | true =>
    have hcp := cp_e hc
    have htk := (tk_lt K ht).mpr hcp
    obtain ⟨g1, g2⟩ := c151 (w := w) R K s htk hc
    have hci : 65 ≤ chT T (po T t) ∧ chT T (po T t) ≤ 90 := by
      unfold cpB at hc
      rw [decide_eq_true_iff] at hc
      exact hc
    have n65 : Int32.ofNat (chT T (po T t)) - (65 : Int32) = Int32.ofNat (chT T (po T t) - 65) := i32_sub (b := 65) hci.1
    have hu : ll_150 w (some 83) h = l150_26 w (some 83) (Int32.ofNat (chT T (po T t) - 65)) (Int32.ofNat (rwv T (po T t)) - 1) h := by
      unfold ll_150
      rw [if_pos (rr_lc R s), c140 R K s ht, rt_I, if_pos (rr_lc R s), c140 R K s ht, rt_I, c138 (by omega), rt_I, ifB, hc, if_pos rfl, if_pos (rr_lc R s), g1, rt_I, n65]
    have r5 : lf_R h (some 83) [1, 5] = some (some r) := hc_R (o := some r) (ar_c R s.1) rfl
    have r6 : lf_R h (some 83) [1, 6] = some (some cc) := hc_R (o := some cc) (ar_c R s.1) rfl
    by_cases h1 : 1 ≤ rwv T (po T t)
    · have n1 : Int32.ofNat (rwv T (po T t)) - (1 : Int32) = Int32.ofNat (rwv T (po T t) - 1) := i32_sub (b := 1) h1
      by_cases h2 : rwv T (po T t) ≤ (xS X0).length
      · by_cases h3 : chT T (po T t) - 65 < (xS X1).length
        · obtain ⟨A1, ha1, d1, d2, d3, d4⟩ := c141 R K s ht
          have Q1 := RX_u R Q' d4
          obtain ⟨e1, e2, e3, e4⟩ := sh_get (j := rwv T (po T t) - 1) d2 Q1.1 Q1.2.2.1 q4 (by omega)
          obtain ⟨i1, i2, i3, i4⟩ := sh_get (j := chT T (po T t) - 65) d2 Q1.2.1 Q1.2.2.1 q5 h3
          obtain ⟨h4, p4, R4⟩ := c152 d2 Q1.2.2.2.2.2.1 (some (M 1 ((xS X0).getD (rwv T (po T t) - 1) 0))) (some (M 1 ((xS X1).getD (chT T (po T t) - 65) 0)))
          have hg : gn k t = t + 1 := if_pos htk
          rw [hg] at d3
          have r5' : lf_R ha1 (some 83) [1, 5] = some (some r) := hc_R (o := some r) (ar_c d2 d3.1) rfl
          have r6' : lf_R ha1 (some 83) [1, 6] = some (some cc) := hc_R (o := some cc) (ar_c d2 d3.1) rfl
          refine ⟨_, h4, A1.2.1, _, _, ?_, R4, ah_new_e, Q1.2.2.2.2.2.1, by simpa using RU_tr d4 (RU_new d2 Q1.2.2.2.2.2.1 _), Or.inl ⟨_, _, ?_, rfl, rfl, htk, RS_new d3 Q1.2.2.2.2.2.1⟩⟩
          · rw [hu]
            unfold l150_26
            rw [n1, if_neg (i32_lt _ (by omega)), r5, Option.bind_some, if_pos (cx_lc R q1), c85 R q1, rt_I, if_neg (fun z => by have := (i32_len (by omega) (by omega)).mp z; omega), if_neg (i32_lt _ (by omega)), r6, Option.bind_some, if_pos (cx_lc R q2), c85 R q2, rt_I, if_pos ((i32_ltn (by omega) (by omega)).mpr h3), if_pos (rr_lc R s), d1, rt_V, r5', Option.bind_some, e1, Option.bind_some, if_pos e2, e3, rt_R, if_pos e4, r6', Option.bind_some, i1, Option.bind_some, if_pos i2, i3, rt_R, if_pos i4, p4]
            rfl
          · unfold rfv
            rw [if_pos ⟨hc, h1, h2, h3⟩]
        · refine bad ?_ ?_
          · unfold rfv
            rw [if_neg (fun z => h3 z.2.2.2)]
          · rw [hu]
            unfold l150_26
            rw [n1, if_neg (i32_lt _ (by omega)), r5, Option.bind_some, if_pos (cx_lc R q1), c85 R q1, rt_I, if_neg (fun z => by have := (i32_len (by omega) (by omega)).mp z; omega), if_neg (i32_lt _ (by omega)), r6, Option.bind_some, if_pos (cx_lc R q2), c85 R q2, rt_I, if_neg (fun z => h3 ((i32_ltn (by omega) (by omega)).mp z))]
      · refine bad ?_ ?_
        · unfold rfv
          rw [if_neg (fun z => h2 z.2.2.1)]
        · rw [hu]
          unfold l150_26
          rw [n1, if_neg (i32_lt _ (by omega)), r5, Option.bind_some, if_pos (cx_lc R q1), c85 R q1, rt_I, if_pos ((i32_len (by omega) (by omega)).mpr (by omega))]
    · refine bad ?_ ?_
      · unfold rfv
        rw [if_neg (fun z => h1 z.2.1)]
      · rw [hu]
        unfold l150_26
        rw [show rwv T (po T t) = 0 by omega, if_pos (by decide)]
/-! numbers -/
theorem rn_all : ∀ n p j, p ≤ j → j < rnE P T n p → P (chT T j) = true ∧ j < T.length
  | 0, p, j, h1, h2 => by rw [rnE] at h2; omega
  | n + 1, p, j, h1, h2 => by
    rw [rnE] at h2
    split at h2
    · next q =>
      by_cases e : j = p
      · subst e; exact ⟨q.2, q.1⟩
      · exact rn_all n (p + 1) j (by omega) h2
    · omega
theorem te_nm (hn : nmB (chT T p) = true) : ∀ j, p ≤ j → j < te T p → nmB (chT T j) = true ∧ j < T.length := by
  have hp := nmb_e hn
  intro j h1 h2
  unfold te at h2
  rw [if_neg (by omega), if_pos hn] at h2
  by_cases e : j = p
  · subst e; exact ⟨hn, hp⟩
  · exact rn_all 20 (p + 1) j (by omega) h2
theorem j_of (a b : Nat) : Int64.ofNat a * Int64.ofNat b = Int64.ofNat (a * b) ∧ Int64.ofNat a + Int64.ofNat b = Int64.ofNat (a + b) := ⟨(Int64.ofNat_mul a b).symm, (Int64.ofNat_add a b).symm⟩
theorem j_32 {a : Nat} (h : a < 2 ^ 31) : (Int32.ofNat a).toInt64 = Int64.ofNat a := by
  apply Int64.toInt_inj.mp
  rw [Int32.toInt_toInt64, Int32.toInt_ofNat_of_lt h, Int64.toInt_ofNat_of_lt (by omega)]
theorem c169 : ∀ m n d N, d + m = 4 → m < n → l155_169 w n (Int64.ofNat N) (Int32.ofNat d) h = rtJ (Int64.ofNat (N * 10 ^ m)) h := by
  intro m
  induction m with
  | zero =>
    intro n d N h1 h2
    cases n with
    | zero => omega
    | succ n =>
      rw [l155_169]
      dsimp only
      rw [if_pos (show (4 : Int32) ≤ Int32.ofNat d from (i32_len (a := 4) (by omega) (by omega)).mpr (by omega)), Nat.pow_zero, Nat.mul_one]
  | succ m ih =>
    intro n d N h1 h2
    cases n with
    | zero => omega
    | succ n =>
      rw [l155_169]
      dsimp only
      rw [if_neg (show ¬ (4 : Int32) ≤ Int32.ofNat d from fun z => by have := (i32_len (a := 4) (by omega) (by omega)).mp z; omega), show (10 : Int64) = Int64.ofNat 10 from rfl, (j_of N 10).1, show Int32.ofNat d + (1 : Int32) = Int32.ofNat (d + 1) from i32_add d 1, ih n (d + 1) (N * 10) (by omega) (by omega), Nat.pow_succ, Nat.mul_assoc, Nat.mul_comm 10]
/-- how the loop ends -/
theorem c155e (hb : b ≤ 20) (hd : d ≤ 20) (hq : q ≤ 20) (h0 : q = 0 → d = 0) : (if Int32.ofNat b < (1 : Int32) then l155_123 w (Int32.ofNat d) (Int32.ofNat q) (Int64.ofNat N) h else if (6 : Int32) < Int32.ofNat b then l155_123 w (Int32.ofNat d) (Int32.ofNat q) (Int64.ofNat N) h else l155_124 w (Int32.ofNat d) (Int32.ofNat q) (Int64.ofNat N) (1 : Int32) h) = rtJ (if gdN (b, d, q, N) = true then Int64.ofNat (vlN (b, d, q, N)) else -1) h := by
  have bad : ∀ s : Int32, l155_149 w (Int32.ofNat d) (Int64.ofNat N) s h = rtJ (-1) h := by
    intro s
    unfold l155_149 l155_150 l155_162
    rw [if_pos rfl]
    split <;> rfl
  have bad2 : l155_123 w (Int32.ofNat d) (Int32.ofNat q) (Int64.ofNat N) h = rtJ (-1) h := by
    unfold l155_123 l155_124
    split
    · unfold l155_145 l155_150 l155_162
      rfl
    · split
      · split
        · exact bad 0
        · split
          · exact bad 0
          · unfold l155_145 l155_150 l155_162
            rfl
      · exact bad 0
  have good : d ≤ 4 → l155_145 w (Int32.ofNat d) (Int64.ofNat N) 1 h = rtJ (Int64.ofNat (N * 10 ^ (4 - d))) h := by
    intro h4
    unfold l155_145 l155_150
    rw [if_neg (by decide), if_neg (by decide), c169 (4 - d) lf_N d N (by omega) (by unfold lf_N; omega)]
  unfold gdN vlN
  dsimp only
  by_cases h1 : b < 1
  · rw [if_pos (show Int32.ofNat b < (1 : Int32) from (i32_ltn (b := 1) (by omega) (by omega)).mpr h1), bad2, if_neg (by rw [decide_eq_true_iff]; omega)]
  · rw [if_neg (show ¬ Int32.ofNat b < (1 : Int32) from fun z => h1 ((i32_ltn (b := 1) (by omega) (by omega)).mp z))]
    by_cases h2 : 6 < b
    · rw [if_pos (show (6 : Int32) < Int32.ofNat b from (i32_ltn (a := 6) (by omega) (by omega)).mpr h2), bad2, if_neg (by rw [decide_eq_true_iff]; omega)]
    · rw [if_neg (show ¬ (6 : Int32) < Int32.ofNat b from fun z => h2 ((i32_ltn (a := 6) (by omega) (by omega)).mp z))]
      unfold l155_124
      by_cases q0 : q = 0
      · rw [if_pos (show Int32.ofNat q = (0 : Int32) by rw [q0]; rfl), good (by omega), if_pos (by rw [decide_eq_true_iff]; omega)]
      · rw [if_neg (show ¬ Int32.ofNat q = (0 : Int32) from i32_ofne (b := 0) (by omega) (by omega) q0)]
        by_cases q1 : q = 1
        · rw [if_pos (show Int32.ofNat q = (1 : Int32) by rw [q1]; rfl)]
          by_cases d1 : d < 1
          · rw [if_pos (show Int32.ofNat d < (1 : Int32) from (i32_ltn (b := 1) (by omega) (by omega)).mpr d1), bad, if_neg (by rw [decide_eq_true_iff]; omega)]
          · rw [if_neg (show ¬ Int32.ofNat d < (1 : Int32) from fun z => d1 ((i32_ltn (b := 1) (by omega) (by omega)).mp z))]
            by_cases d4 : 4 < d
            · rw [if_pos (show (4 : Int32) < Int32.ofNat d from (i32_ltn (a := 4) (by omega) (by omega)).mpr d4), bad, if_neg (by rw [decide_eq_true_iff]; omega)]
            · rw [if_neg (show ¬ (4 : Int32) < Int32.ofNat d from fun z => d4 ((i32_ltn (a := 4) (by omega) (by omega)).mp z)), good (by omega), if_pos (by rw [decide_eq_true_iff]; omega)]
        · rw [if_neg (show ¬ Int32.ofNat q = (1 : Int32) from i32_ofne (b := 1) (by omega) (by omega) q1), bad, if_neg (by rw [decide_eq_true_iff]; omega)]
theorem nmS_b : ∀ m p b d q N, (q = 0 → d = 0) → (nmS T m p b d q N).1 ≤ b + m ∧ (nmS T m p b d q N).2.1 ≤ d + m ∧ (nmS T m p b d q N).2.2.1 ≤ q + m ∧ ((nmS T m p b d q N).2.2.1 = 0 → (nmS T m p b d q N).2.1 = 0) ∧ q ≤ (nmS T m p b d q N).2.2.1
  | 0, p, b, d, q, N, h => ⟨Nat.le_add_right _ _, Nat.le_add_right _ _, Nat.le_add_right _ _, h, Nat.le_refl _⟩
  | m + 1, p, b, d, q, N, h => by
    rw [nmS]
    split
    · obtain ⟨g1, g2, g3, g4, g5⟩ := nmS_b m (p + 1) b d (q + 1) N (by omega)
      exact ⟨by omega, by omega, by omega, g4, by omega⟩
    · by_cases e : q = 0
      · rw [if_pos e, if_pos e]
        obtain ⟨g1, g2, g3, g4, g5⟩ := nmS_b m (p + 1) (b + 1) d q (10 * N + (chT T p - 48)) h
        exact ⟨by omega, by omega, by omega, g4, g5⟩
      · rw [if_neg e, if_neg e]
        obtain ⟨g1, g2, g3, g4, g5⟩ := nmS_b m (p + 1) b (d + 1) q (10 * N + (chT T p - 48)) (fun z => absurd z e)
        exact ⟨by omega, by omega, by omega, g4, g5⟩
end CNU
