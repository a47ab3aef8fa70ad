/-! THE CLASS: numbers and blocks -/
section CN2
variable {A A' A2 : ah} {h h' : pm_H} {M : aM} {D : aD} {X0 X1 : ax} {T : List Nat} {P : Nat → Bool} {k t p j n m r cc a x b d q N c : Nat} {fl v : Int32} {w : Option Nat} {kc : Nat}
theorem c155l (R : ar A h) (K : TK T k) (s : RS T k t fl r cc A) (ht : t < k) (hn : nmB (chT T (po T t)) = true) : ∀ m n x b d q N, x + m = po T (t + 1) → m < n → po T t ≤ x → b ≤ x → d ≤ x → q ≤ x → (q = 0 → d = 0) → l155_20 w n (some 83) (Int32.ofNat b) (Int32.ofNat d) (Int32.ofNat q) (Int64.ofNat N) (Int32.ofNat x) h = rtJ (if gdN (nmS T m x b d q N) = true then Int64.ofNat (vlN (nmS T m x b d q N)) else -1) h := by
  have k3 := K.2.2.1
  have kT := K.1
  have hpb := po_b (T := T) (t + 1)
  have hte : po T (t + 1) = te T (po T t) := rfl
  obtain ⟨s1, ⟨cap, s2⟩, f, s3, s4⟩ := s
  have n1 : Int32.ofNat t + (1 : Int32) = Int32.ofNat (t + 1) := i32_add t 1
  have e4 := s4 (t + 1) (by omega)
  intro m
  induction m with
  | zero =>
    intro n x b d q N h1 h2 h3 hb hd hq h0
    cases n with
    | zero => omega
    | succ n =>
      rw [l155_20]
      dsimp only
      rw [hc_R (o := some 86) (ar_c R s1) rfl, Option.bind_some, hc_I (v := Int32.ofNat t) (ar_c R s1) rfl, Option.bind_some, n1, hc_ldI (v := f (t + 1)) (ar_c R s3) rfl (by omega) (ra_get (by omega)), Option.bind_some, e4, if_pos ((i32_len (by omega) (by omega)).mpr (by omega)), nmS]
      exact c155e (by omega) (by omega) (by omega) h0
  | succ m ih =>
    intro n x b d q N h1 h2 h3 hb hd hq h0
    cases n with
    | zero => omega
    | succ n =>
      have hx := te_nm hn x h3 (by omega)
      have n2 : Int32.ofNat x + (1 : Int32) = Int32.ofNat (x + 1) := i32_add x 1
      rw [l155_20]
      dsimp only
      rw [hc_R (o := some 86) (ar_c R s1) rfl, Option.bind_some, hc_I (v := Int32.ofNat t) (ar_c R s1) rfl, Option.bind_some, n1, hc_ldI (v := f (t + 1)) (ar_c R s3) rfl (by omega) (ra_get (by omega)), Option.bind_some, e4, if_neg (fun z => by have := (i32_len (by omega) (by omega)).mp z; omega), hc_R (o := some 84) (ar_c R s1) rfl, Option.bind_some, if_pos (sb_lc R s2), ll_charAt R s2 hx.2, lb_I_r, show T.getD x 0 = chT T x from rfl, nmS]
      have hb126 := chT_b (p := x) K.2.1
      by_cases h46 : chT T x = 46
      · rw [if_pos (show Int32.ofNat (chT T x) = (46 : Int32) by rw [h46]; rfl), if_pos h46]
        unfold l155_102
        rw [n2, show Int32.ofNat q + (1 : Int32) = Int32.ofNat (q + 1) from i32_add q 1]
        exact ih n (x + 1) b d (q + 1) N (by omega) (by omega) (by omega) (by omega) (by omega) (by omega) (by omega)
      · have hdg : dgB (chT T x) = true := by
          have := hx.1
          unfold nmB at this
          rw [Bool.or_eq_true, decide_eq_true_iff] at this
          exact this.resolve_right h46
        have hdi := dg_i.mp hdg
        have nv : Int64.ofNat N * (10 : Int64) + Int32.toInt64 (Int32.ofNat (chT T x) - (48 : Int32)) = Int64.ofNat (10 * N + (chT T x - 48)) := by
          rw [show (48 : Int32) = Int32.ofNat 48 from rfl, i32_sub hdi.1, j_32 (by omega), show (10 : Int64) = Int64.ofNat 10 from rfl, (j_of N 10).1, (j_of _ _).2, Nat.mul_comm]
        rw [if_neg (show ¬ Int32.ofNat (chT T x) = (46 : Int32) from i32_ofne (b := 46) (by omega) (by omega) h46), if_neg h46, hc_R (o := some 84) (ar_c R s1) rfl, Option.bind_some, if_pos (sb_lc R s2), ll_charAt R s2 hx.2, lb_I_r, show T.getD x 0 = chT T x from rfl, nv]
        unfold l155_88 l155_100 l155_102
        by_cases q0 : q = 0
        · rw [if_pos (show Int32.ofNat q = (0 : Int32) by rw [q0]; rfl), if_pos (show Int32.ofNat q = (0 : Int32) by rw [q0]; rfl), if_pos q0, if_pos q0, n2, show Int32.ofNat b + (1 : Int32) = Int32.ofNat (b + 1) from i32_add b 1, show Int32.ofNat d + (0 : Int32) = Int32.ofNat d from i32_add d 0]
          exact ih n (x + 1) (b + 1) d q _ (by omega) (by omega) (by omega) (by omega) (by omega) (by omega) h0
        · have qz : ¬ Int32.ofNat q = (0 : Int32) := i32_ofne (b := 0) (by omega) (by omega) q0
          rw [if_neg qz, if_neg qz, if_neg q0, if_neg q0, n2, show Int32.ofNat d + (1 : Int32) = Int32.ofNat (d + 1) from i32_add d 1, show Int32.ofNat b + (0 : Int32) = Int32.ofNat b from i32_add b 0]
          exact ih n (x + 1) b (d + 1) q _ (by omega) (by omega) (by omega) (by omega) (by omega) (by omega) (by omega)
theorem c155 (R : ar A h) (K : TK T k) (s : RS T k t fl r cc A) (ht : t < k) (hn : nmB (chT T (po T t)) = true) : ll_155 w (some 83) h = rtJ (if gdN (nmZ T (po T t)) = true then Int64.ofNat (vlN (nmZ T (po T t))) else -1) h := by
  have k3 := K.2.2.1
  have kT := K.1
  have hp := K.2.2.2.2 t ht
  have hlt := te_lt hp
  have hb := po_b (T := T) (t + 1)
  have hte : po T (t + 1) = te T (po T t) := rfl
  have s' := s
  obtain ⟨s1, ⟨cap, s2⟩, f, s3, s4⟩ := s
  unfold ll_155
  rw [hc_R (o := some 86) (ar_c R s1) rfl, Option.bind_some, hc_I (v := Int32.ofNat t) (ar_c R s1) rfl, Option.bind_some, hc_ldI (v := f t) (ar_c R s3) rfl (by omega) (ra_get (by omega)), Option.bind_some, s4 t (by omega)]
  exact c155l R K s' ht hn (te T (po T t) - po T t) lf_N (po T t) 0 0 0 0 (by omega) (by unfold lf_N; omega) (Nat.le_refl _) (Nat.zero_le _) (Nat.zero_le _) (Nat.zero_le _) (fun _ => rfl)
/-- a good number has few digits -/
theorem nmS_N : ∀ m p b d q N, N < 10 ^ (b + d) → (∀ j, p ≤ j → j < p + m → nmB (chT T j) = true) → (nmS T m p b d q N).2.2.2 < 10 ^ ((nmS T m p b d q N).1 + (nmS T m p b d q N).2.1)
  | 0, p, b, d, q, N, h, _ => h
  | m + 1, p, b, d, q, N, h, hj => by
    rw [nmS]
    split
    · exact nmS_N m (p + 1) b d (q + 1) N h (fun j h1 h2 => hj j (by omega) (by omega))
    · next h46 =>
      have hdg : dgB (chT T p) = true := by
        have := hj p (Nat.le_refl _) (by omega)
        unfold nmB at this
        rw [Bool.or_eq_true, decide_eq_true_iff] at this
        exact this.resolve_right h46
      have hdi := dg_i.mp hdg
      refine nmS_N m (p + 1) _ _ q _ ?_ (fun j h1 h2 => hj j (by omega) (by omega))
      have e : (if q = 0 then b + 1 else b) + (if q = 0 then d else d + 1) = (b + d) + 1 := by split <;> omega
      rw [e, Nat.pow_succ]
      omega
theorem gd_N (K : TK T k) (hn : nmB (chT T p) = true) (hg : gdN (nmZ T p) = true) : (nmZ T p).2.2.2 < 10 ^ ((nmZ T p).1 + (nmZ T p).2.1) ∧ 1 ≤ (nmZ T p).1 ∧ (nmZ T p).1 ≤ 6 ∧ ((nmZ T p).2.2.1 = 0 ∧ (nmZ T p).2.1 = 0 ∨ (nmZ T p).2.2.1 = 1 ∧ 1 ≤ (nmZ T p).2.1 ∧ (nmZ T p).2.1 ≤ 4) := by
  have hp := nmb_e hn
  have hlt := te_lt hp
  have h1 := nmS_N (te T p - p) p 0 0 0 0 (by decide) (fun j g1 g2 => (te_nm hn j g1 (by omega)).1)
  have h2 := (nmS_b (T := T) (te T p - p) p 0 0 0 0 (fun _ => rfl)).2.2.2.1
  unfold gdN at hg
  rw [decide_eq_true_iff] at hg
  refine ⟨h1, hg.1, hg.2.1, ?_⟩
  rcases hg.2.2 with e | e
  · exact Or.inl ⟨e, h2 e⟩
  · exact Or.inr e
theorem vl_b (K : TK T k) (hn : nmB (chT T p) = true) (hg : gdN (nmZ T p) = true) : vlN (nmZ T p) < 10 ^ 10 := by
  obtain ⟨h1, h2, h3, h4⟩ := gd_N K hn hg
  have hd : (nmZ T p).2.1 ≤ 4 := by omega
  unfold vlN
  have e : (10 : Nat) ^ ((nmZ T p).1 + (nmZ T p).2.1) * 10 ^ (4 - (nmZ T p).2.1) = 10 ^ ((nmZ T p).1 + 4) := by rw [← Nat.pow_add]; congr 1; omega
  have h5 : (nmZ T p).2.2.2 * 10 ^ (4 - (nmZ T p).2.1) < 10 ^ ((nmZ T p).1 + (nmZ T p).2.1) * 10 ^ (4 - (nmZ T p).2.1) := Nat.mul_lt_mul_of_pos_right h1 (Nat.pow_pos (by decide))
  rw [e] at h5
  exact Nat.lt_of_lt_of_le h5 (Nat.pow_le_pow_right (by decide) (by omega))
theorem c154f (R : ar A h) (K : TK T k) (s : RS T k t fl r cc A) (ht : t ≤ k) (h178 : 178 ≤ A.2.1) : ∃ A' h' q, l154_35 w (some 83) h = rtR (some q) h' ∧ ar A' h' ∧ A'.1 q = ac_c (.inl (9, [.ref 8, .null, .null, .long 0, .null, .null, .null, .null])) ∧ 178 ≤ q ∧ RU A A' 1 ∧ RS T k t (fF T t fl) r cc A' := by
  obtain ⟨A1, h1, g1, g2, g3, g4⟩ := c145 R K s ht
  have l1 : 178 ≤ A1.2.1 := Nat.le_trans h178 g4.1
  obtain ⟨h2, p2, R2⟩ := c146 g2 l1 0
  refine ⟨_, h2, A1.2.1, ?_, R2, ah_new_e, l1, by simpa using RU_tr g4 (RU_new g2 l1 _), RS_new g3 l1⟩
  unfold l154_35
  rw [if_pos (rr_lc R s), g1, rt_V, p2]
  rfl
theorem c154 (R : ar A h) (K : TK T k) (s : RS T k t fl r cc A) (ht : t ≤ k) (h178 : 178 ≤ A.2.1) : ∃ A' h' q z, ll_154 w (some 83) h = rtR (some q) h' ∧ ar A' h' ∧ A'.1 q = ac_c (.inl (9, [.ref 8, .null, .null, .long (Int64.ofNat z), .null, .null, .null, .null])) ∧ 178 ≤ q ∧ RU A A' 1 ∧ ((nmv T (po T t) = some z ∧ t < k ∧ RS T k (t + 1) fl r cc A') ∨ (nmv T (po T t) = none ∧ RS T k t (fF T t fl) r cc A')) := by
  have hb := chT_b (p := po T t) K.2.1
  have bad : nmv T (po T t) = none → ll_154 w (some 83) h = l154_35 w (some 83) h → ∃ A' h' q z, ll_154 w (some 83) h = rtR (some q) h' ∧ ar A' h' ∧ A'.1 q = ac_c (.inl (9, [.ref 8, .null, .null, .long (Int64.ofNat z), .null, .null, .null, .null])) ∧ 178 ≤ q ∧ RU A A' 1 ∧ ((nmv T (po T t) = some z ∧ t < k ∧ RS T k (t + 1) fl r cc A') ∨ (nmv T (po T t) = none ∧ RS T k t (fF T t fl) r cc A')) := by
    intro e1 e2
    obtain ⟨A', h', q, g1, g2, g3, g4, g5, g6⟩ := c154f (w := w) R K s ht h178
    exact ⟨A', h', q, 0, e2.trans g1, g2, g3, g4, g5, Or.inr ⟨e1, g6⟩⟩
  have neg1 : (lg_cmp (-1 : Int64) (0 : Int64)) < (0 : Int32) := by decide
  cases hn : nmB (chT T (po T t)) with
  | false =>
    refine bad ?_ ?_
    · unfold nmv
      rw [hn, if_neg (fun z => by cases z.1)]
    · unfold ll_154
      rw [if_pos (rr_lc R s), c140 R K s ht, rt_I, c136 (by omega), rt_I, ifB, hn, if_neg Bool.false_ne_true]
      unfold l154_20
      rw [if_pos neg1]
  | true =>
    have hp := nmb_e hn
    have htk := (tk_lt K ht).mpr hp
    have hu : ll_154 w (some 83) h = l154_20 w (some 83) (if gdN (nmZ T (po T t)) = true then Int64.ofNat (vlN (nmZ T (po T t))) else -1) h := by
      unfold ll_154
      rw [if_pos (rr_lc R s), c140 R K s ht, rt_I, c136 (by omega), rt_I, ifB, hn, if_pos rfl, if_pos (rr_lc R s), c155 R K s htk hn, rt_J]
    cases hg : gdN (nmZ T (po T t)) with
    | false =>
      refine bad ?_ ?_
      · unfold nmv
        rw [hg, if_neg (fun z => by cases z.2.1)]
      · rw [hu, hg, if_neg Bool.false_ne_true]
        unfold l154_20
        rw [if_pos neg1]
    | true =>
      have hv := vl_b K hn hg
      rw [hg, if_pos rfl] at hu
      have ti : (Int64.ofNat (vlN (nmZ T (po T t)))).toInt = (vlN (nmZ T (po T t)) : Int) := Int64.toInt_ofNat_of_lt (by omega)
      have c0 : ¬ lg_cmp (Int64.ofNat (vlN (nmZ T (po T t)))) (0 : Int64) < (0 : Int32) := by
        rw [lg_cmp_lt, Int64.lt_iff_toInt_lt, ti]
        have : (0 : Int64).toInt = 0 := rfl
        omega
      have c1 : lg_cmp (Int64.ofNat (vlN (nmZ T (po T t)))) (1000000000 : Int64) ≤ (0 : Int32) ↔ vlN (nmZ T (po T t)) ≤ 1000000000 := by
        rw [lg_cmp_le, Int64.le_iff_toInt_le, ti]
        have : (1000000000 : Int64).toInt = 1000000000 := rfl
        omega
      by_cases hle : vlN (nmZ T (po T t)) ≤ 1000000000
      · obtain ⟨A1, ha1, d1, d2, d3, d4⟩ := c141 R K s ht
        have l1 : 178 ≤ A1.2.1 := Nat.le_trans h178 d4.1
        obtain ⟨h4, p4, R4⟩ := c146 d2 l1 (Int64.ofNat (vlN (nmZ T (po T t))))
        have hgn : gn k t = t + 1 := if_pos htk
        rw [hgn] at d3
        refine ⟨_, h4, A1.2.1, vlN (nmZ T (po T t)), ?_, R4, ah_new_e, l1, by simpa using RU_tr d4 (RU_new d2 l1 _), Or.inl ⟨?_, htk, RS_new d3 l1⟩⟩
        · rw [hu]
          unfold l154_20
          rw [if_neg c0, if_pos (c1.mpr hle), if_pos (rr_lc R s), d1, rt_V, p4]
          rfl
        · unfold nmv
          rw [if_pos ⟨hn, hg, hle⟩]
      · refine bad ?_ ?_
        · unfold nmv
          rw [if_neg (fun z => hle z.2.2)]
        · rw [hu]
          unfold l154_20
          rw [if_neg c0, if_neg (fun z => hle (c1.mp z))]
/-! blocks -/
theorem i32_nn (hn : n < 2 ^ 31) : Int32.ofNat n ≠ -1 := by
  intro e
  have h1 := congrArg Int32.toInt e
  rw [Int32.toInt_ofNat_of_lt hn] at h1
  have h2 : (-1 : Int32).toInt = -1 := rfl
  omega
theorem fF_k (h : fl ≠ -1) : fF T t fl = fl := if_neg h
theorem fF_n : fF T t (-1) = Int32.ofNat (po T t) := if_pos rfl
theorem c148d (R : ar A h) (K : TK T k) (s : RS T k t fl r cc A) (ht : t ≤ k) (hx0 : 0 < x) (hx : x < 200) (hv : v = Int32.ofNat x) : ∃ A' h', ll_148 w (some 83) v h = rtV h' ∧ ar A' h' ∧ RU A A' 0 ∧ ((chT T (po T t) = x ∧ t < k ∧ RS T k (t + 1) fl r cc A') ∨ (chT T (po T t) ≠ x ∧ RS T k t (fF T t fl) r cc A')) := by
  obtain ⟨A', h', g1, g2, g3, g4⟩ := c148 (w := w) R K s ht hx hv
  refine ⟨A', h', g1, g2, g4, ?_⟩
  by_cases q : chT T (po T t) = x
  · have hk : t < k := (tk_lt K ht).mpr (by
      by_cases z : po T t < T.length
      · exact z
      · rw [chT_n (by omega)] at q; omega)
    rw [if_pos q, if_pos q] at g3
    have hg : gn k t = t + 1 := if_pos hk
    rw [hg] at g3
    exact Or.inl ⟨q, hk, g3⟩
  · rw [if_neg q, if_neg q] at g3
    exact Or.inr ⟨q, g3⟩
/-- which piece of a block is bad; 6: none -/
def blF (T Lr Lc : List Nat) (t : Nat) : Nat := if chT T (po T (t + 1)) ≠ 40 then 1 else if rfv T Lr Lc (po T (t + 2)) = none then 2 else if chT T (po T (t + 3)) ≠ 58 then 3 else if rfv T Lr Lc (po T (t + 4)) = none then 4 else if chT T (po T (t + 5)) ≠ 41 then 5 else 6
theorem c149 (R : ar A h) (K : TK T k) (s : RS T k t (-1) r cc A) (ht : t < k) (Q : RX M A D r cc X0 X1) : ∃ A' h' q t' fl', ll_149 w (some 83) (some kc) h = rtR (some q) h' ∧ ar A' h' ∧ 178 ≤ q ∧ RU A A' 3 ∧ RS T k t' fl' r cc A' ∧ t < t' ∧ t' ≤ k ∧ ((blF T (xS X0) (xS X1) t = 6 ∧ fl' = -1 ∧ t' = t + 6 ∧ ∃ y z y2 z2, rfv T (xS X0) (xS X1) (po T (t + 2)) = some (y, z) ∧ rfv T (xS X0) (xS X1) (po T (t + 4)) = some (y2, z2) ∧ A'.1 q = ac_c (.inl (9, [.ref kc, .null, .null, .long 0, .ref (M 1 y), .ref (M 1 z), .ref (M 1 y2), .ref (M 1 z2)]))) ∨ (blF T (xS X0) (xS X1) t < 6 ∧ fl' = Int32.ofNat (po T (t + blF T (xS X0) (xS X1) t)))) := by
  have nn : ∀ j, Int32.ofNat (po T j) ≠ -1 := fun j => i32_nn (by have := po_b (T := T) j; have := K.1; omega)
  obtain ⟨A0, h0, a1, a2, a3, a4⟩ := c141 R K s (by omega)
  rw [show gn k t = t + 1 from if_pos ht] at a3
  have Q0 := RX_u R Q a4
  obtain ⟨A1, h1, b1, b2, b3, b4⟩ := c148d (w := w) (x := 40) (v := 40) a2 K a3 (by omega) (by omega) (by omega) rfl
  have Q1 := RX_u a2 Q0 b3
  have st1 : ∃ t1 f1, RS T k t1 f1 r cc A1 ∧ t < t1 ∧ t1 ≤ k ∧ ((chT T (po T (t + 1)) = 40 ∧ t1 = t + 2 ∧ f1 = -1) ∨ (blF T (xS X0) (xS X1) t = 1 ∧ f1 = Int32.ofNat (po T (t + 1)))) := by
    rcases b4 with ⟨e1, e2, e3⟩ | ⟨e1, e2⟩
    · exact ⟨_, _, e3, by omega, by omega, Or.inl ⟨e1, rfl, rfl⟩⟩
    · rw [fF_n] at e2
      exact ⟨_, _, e2, by omega, by omega, Or.inr ⟨by unfold blF; rw [if_pos e1], rfl⟩⟩
  obtain ⟨t1, f1, r1, u1, v1, w1⟩ := st1
  obtain ⟨A2, h2, q1, x1, y1, c1, c2, c3, c4, c5, c6⟩ := c150 (w := w) b2 K r1 v1 Q1
  have Q2 := RX_u b2 Q1 c5
  have st2 : ∃ t2 f2, RS T k t2 f2 r cc A2 ∧ t < t2 ∧ t2 ≤ k ∧ ((chT T (po T (t + 1)) = 40 ∧ (∃ y z, rfv T (xS X0) (xS X1) (po T (t + 2)) = some (y, z) ∧ x1 = some (M 1 y) ∧ y1 = some (M 1 z)) ∧ t2 = t + 3 ∧ f2 = -1) ∨ (blF T (xS X0) (xS X1) t ≤ 2 ∧ f2 = Int32.ofNat (po T (t + blF T (xS X0) (xS X1) t)))) := by
    rcases w1 with ⟨k1, k2, k3⟩ | ⟨k1, k2⟩
    · subst k2 k3
      rcases c6 with ⟨y0, z0, e1, e2, e3, e4, e5⟩ | ⟨e1, e2⟩
      · exact ⟨_, _, e5, by omega, by omega, Or.inl ⟨k1, ⟨y0, z0, e1, e2, e3⟩, rfl, rfl⟩⟩
      · rw [fF_n] at e2
        have hb : blF T (xS X0) (xS X1) t = 2 := by unfold blF; rw [if_neg (fun z => z k1), if_pos e1]
        exact ⟨_, _, e2, by omega, by omega, Or.inr ⟨by omega, by rw [hb]⟩⟩
    · subst k2
      have hb : Int32.ofNat (po T (t + 1)) = Int32.ofNat (po T (t + blF T (xS X0) (xS X1) t)) := by rw [k1]
      rcases c6 with ⟨y0, z0, e1, e2, e3, e4, e5⟩ | ⟨e1, e2⟩
      · exact ⟨_, _, e5, by omega, by omega, Or.inr ⟨by omega, hb⟩⟩
      · rw [fF_k (nn _)] at e2
        exact ⟨_, _, e2, by omega, by omega, Or.inr ⟨by omega, hb⟩⟩
  obtain ⟨t2, f2, r2, u2, v2, w2⟩ := st2
  obtain ⟨A3, h3, d1, d2, d3, d4⟩ := c148d (w := w) (x := 58) (v := 58) c2 K r2 v2 (by omega) (by omega) rfl
  have Q3 := RX_u c2 Q2 d3
  have st3 : ∃ t3 f3, RS T k t3 f3 r cc A3 ∧ t < t3 ∧ t3 ≤ k ∧ ((chT T (po T (t + 1)) = 40 ∧ (∃ y z, rfv T (xS X0) (xS X1) (po T (t + 2)) = some (y, z) ∧ x1 = some (M 1 y) ∧ y1 = some (M 1 z)) ∧ chT T (po T (t + 3)) = 58 ∧ t3 = t + 4 ∧ f3 = -1) ∨ (blF T (xS X0) (xS X1) t ≤ 3 ∧ f3 = Int32.ofNat (po T (t + blF T (xS X0) (xS X1) t)))) := by
    rcases w2 with ⟨k1, ⟨y, z, g1, g2, g3⟩, k2, k3⟩ | ⟨k1, k2⟩
    · subst k2 k3
      rcases d4 with ⟨e1, e2, e3⟩ | ⟨e1, e2⟩
      · exact ⟨_, _, e3, by omega, by omega, Or.inl ⟨k1, ⟨y, z, g1, g2, g3⟩, e1, rfl, rfl⟩⟩
      · rw [fF_n] at e2
        have hb : blF T (xS X0) (xS X1) t = 3 := by unfold blF; rw [if_neg (fun z => z k1), if_neg (by rw [g1]; intro q; cases q), if_pos e1]
        exact ⟨_, _, e2, by omega, by omega, Or.inr ⟨by omega, by rw [hb]⟩⟩
    · subst k2
      rcases d4 with ⟨e1, e2, e3⟩ | ⟨e1, e2⟩
      · exact ⟨_, _, e3, by omega, by omega, Or.inr ⟨by omega, rfl⟩⟩
      · rw [fF_k (nn _)] at e2
        exact ⟨_, _, e2, by omega, by omega, Or.inr ⟨by omega, rfl⟩⟩
  obtain ⟨t3, f3, r3, u3, v3, w3⟩ := st3
  obtain ⟨A4, h4, q2, x2, y2, e1, e2, e3, e4, e5, e6⟩ := c150 (w := w) d2 K r3 v3 Q3
  have Q4 := RX_u d2 Q3 e5
  have st4 : ∃ t4 f4, RS T k t4 f4 r cc A4 ∧ t < t4 ∧ t4 ≤ k ∧ ((chT T (po T (t + 1)) = 40 ∧ (∃ y z, rfv T (xS X0) (xS X1) (po T (t + 2)) = some (y, z) ∧ x1 = some (M 1 y) ∧ y1 = some (M 1 z)) ∧ chT T (po T (t + 3)) = 58 ∧ (∃ y z, rfv T (xS X0) (xS X1) (po T (t + 4)) = some (y, z) ∧ x2 = some (M 1 y) ∧ y2 = some (M 1 z)) ∧ t4 = t + 5 ∧ f4 = -1) ∨ (blF T (xS X0) (xS X1) t ≤ 4 ∧ f4 = Int32.ofNat (po T (t + blF T (xS X0) (xS X1) t)))) := by
    rcases w3 with ⟨k1, ⟨y, z, g1, g2, g3⟩, k4, k2, k3⟩ | ⟨k1, k2⟩
    · subst k2 k3
      rcases e6 with ⟨y0, z0, i1, i2, i3, i4, i5⟩ | ⟨i1, i2⟩
      · exact ⟨_, _, i5, by omega, by omega, Or.inl ⟨k1, ⟨y, z, g1, g2, g3⟩, k4, ⟨y0, z0, i1, i2, i3⟩, rfl, rfl⟩⟩
      · rw [fF_n] at i2
        have hb : blF T (xS X0) (xS X1) t = 4 := by unfold blF; rw [if_neg (fun z => z k1), if_neg (by rw [g1]; intro q; cases q), if_neg (fun z => z k4), if_pos i1]
        exact ⟨_, _, i2, by omega, by omega, Or.inr ⟨by omega, by rw [hb]⟩⟩
    · subst k2
      rcases e6 with ⟨y0, z0, i1, i2, i3, i4, i5⟩ | ⟨i1, i2⟩
      · exact ⟨_, _, i5, by omega, by omega, Or.inr ⟨by omega, rfl⟩⟩
      · rw [fF_k (nn _)] at i2
        exact ⟨_, _, i2, by omega, by omega, Or.inr ⟨by omega, rfl⟩⟩
  obtain ⟨t4, f4, r4, u4, v4, w4⟩ := st4
  obtain ⟨A5, h5, f51, f52, f53, f54⟩ := c148d (w := w) (x := 41) (v := 41) e2 K r4 v4 (by omega) (by omega) rfl
  have Q5 := RX_u e2 Q4 f53
  have st5 : ∃ t5 f5, RS T k t5 f5 r cc A5 ∧ t < t5 ∧ t5 ≤ k ∧ ((blF T (xS X0) (xS X1) t = 6 ∧ (∃ y z, rfv T (xS X0) (xS X1) (po T (t + 2)) = some (y, z) ∧ x1 = some (M 1 y) ∧ y1 = some (M 1 z)) ∧ (∃ y z, rfv T (xS X0) (xS X1) (po T (t + 4)) = some (y, z) ∧ x2 = some (M 1 y) ∧ y2 = some (M 1 z)) ∧ t5 = t + 6 ∧ f5 = -1) ∨ (blF T (xS X0) (xS X1) t < 6 ∧ f5 = Int32.ofNat (po T (t + blF T (xS X0) (xS X1) t)))) := by
    rcases w4 with ⟨k1, ⟨y, z, g1, g2, g3⟩, k4, ⟨yb, zb, j1, j2, j3⟩, k2, k3⟩ | ⟨k1, k2⟩
    · subst k2 k3
      rcases f54 with ⟨i1, i2, i3⟩ | ⟨i1, i2⟩
      · have hb : blF T (xS X0) (xS X1) t = 6 := by unfold blF; rw [if_neg (fun z => z k1), if_neg (by rw [g1]; intro q; cases q), if_neg (fun z => z k4), if_neg (by rw [j1]; intro q; cases q), if_neg (fun z => z i1)]
        exact ⟨_, _, i3, by omega, by omega, Or.inl ⟨hb, ⟨y, z, g1, g2, g3⟩, ⟨yb, zb, j1, j2, j3⟩, rfl, rfl⟩⟩
      · rw [fF_n] at i2
        have hb : blF T (xS X0) (xS X1) t = 5 := by unfold blF; rw [if_neg (fun z => z k1), if_neg (by rw [g1]; intro q; cases q), if_neg (fun z => z k4), if_neg (by rw [j1]; intro q; cases q), if_pos i1]
        exact ⟨_, _, i2, by omega, by omega, Or.inr ⟨by omega, by rw [hb]⟩⟩
    · subst k2
      rcases f54 with ⟨i1, i2, i3⟩ | ⟨i1, i2⟩
      · exact ⟨_, _, i3, by omega, by omega, Or.inr ⟨by omega, rfl⟩⟩
      · rw [fF_k (nn _)] at i2
        exact ⟨_, _, i2, by omega, by omega, Or.inr ⟨by omega, rfl⟩⟩
  obtain ⟨t5, f5, r5, u5, v5, w5⟩ := st5
  have z1 : A5.1 q1 = ac_c (.inl (9, [.ref 9, .null, .null, .long 0, tm_r x1, tm_r y1, .null, .null])) := st_c (st_trans (st_trans d3 e5) f53) c2 c3 (by intro z; cases z) (by simp; omega)
  have z2 : A5.1 q2 = ac_c (.inl (9, [.ref 9, .null, .null, .long 0, tm_r x2, tm_r y2, .null, .null])) := st_c f53 e2 e3 (by intro z; cases z) (by simp; omega)
  obtain ⟨h6, p6, R6⟩ := c153 (kc := kc) f52 Q5.2.2.2.2.2.1 z1 z2
  have hu : RU A (ah_new A5 (ac_c (.inl (9, [.ref kc, .null, .null, .long 0, tm_r x1, tm_r y1, tm_r x2, tm_r y2]))) 8) 3 := by
    have := RU_tr (RU_tr (RU_tr (RU_tr (RU_tr (RU_tr a4 b3) c5) d3) e5) f53) (RU_new f52 Q5.2.2.2.2.2.1 (.inl (9, [.ref kc, .null, .null, .long 0, tm_r x1, tm_r y1, tm_r x2, tm_r y2])))
    simpa using this
  refine ⟨_, h6, A5.2.1, t5, f5, ?_, R6, Q5.2.2.2.2.2.1, hu, RS_new r5 Q5.2.2.2.2.2.1, u5, v5, ?_⟩
  · unfold ll_149
    rw [if_pos (rr_lc R s), a1, rt_V, if_pos (rr_lc a2 a3), b1, rt_V, if_pos (rr_lc b2 r1), c1, rt_R, if_pos (rr_lc c2 r2), d1, rt_V, if_pos (rr_lc d2 r3), e1, rt_R, if_pos (rr_lc e2 r4), f51, rt_V, p6]
    rfl
  · rcases w5 with ⟨k1, ⟨y, z, g1, g2, g3⟩, ⟨yb, zb, j1, j2, j3⟩, k2, k3⟩ | ⟨k1, k2⟩
    · refine Or.inl ⟨k1, k3, k2, y, z, yb, zb, g1, j1, ?_⟩
      rw [ah_new_e, g2, g3, j2, j3]
      rfl
    · exact Or.inr ⟨k1, k2⟩
end CN2
