/-! THE REFERENCE: operands, signs, brackets -/
section ST2
variable {S S0 S' S2 : rs_S} {T Lr Lc : List Nat} {k t p j n m x b d q N e o id B B' c s kt u : Nat} {Q pd : List Nat} {ts : List (Nat × Int32)} {v arg : Int32}
theorem nmS_l : ∀ m p b d q N, (nmS T m p b d q N).1 + (nmS T m p b d q N).2.1 + (nmS T m p b d q N).2.2.1 = b + d + q + m
  | 0, p, b, d, q, N => rfl
  | m + 1, p, b, d, q, N => by
    rw [nmS]
    split
    · have := nmS_l m (p + 1) b d (q + 1) N
      omega
    · by_cases e : q = 0
      · rw [if_pos e, if_pos e]
        have := nmS_l m (p + 1) (b + 1) d q (10 * N + (chT T p - 48))
        omega
      · rw [if_neg e, if_neg e]
        have := nmS_l m (p + 1) b (d + 1) q (10 * N + (chT T p - 48))
        omega
theorem ndg_lb (h1 : 1 ≤ b) (h2 : b ≤ 6) (h : m < 10 ^ b) : ndg m ≤ b := by
  have hb : b = 1 ∨ b = 2 ∨ b = 3 ∨ b = 4 ∨ b = 5 ∨ b = 6 := by omega
  unfold ndg
  rcases hb with e | e | e | e | e | e <;> subst e <;> (repeat' split) <;> omega
theorem nmv_w (K : TK T k) (h : nmv T p = some u) : twt (97, Int32.ofNat u) ≤ 3 * (te T p - p) ∧ u ≤ 1000000000 ∧ p < te T p := by
  have hn := nmv_n h
  have hp := nmb_e hn
  have hlt := te_lt hp
  unfold nmv at h
  split at h
  · next z =>
    obtain ⟨-, z2, z3⟩ := z
    cases h
    obtain ⟨g1, g2, g3, g4⟩ := gd_N K hn z2
    have hl := nmS_l (T := T) (te T p - p) p 0 0 0 0
    refine ⟨?_, z3, hlt⟩
    show nwt (Int32.ofNat (vlN (nmZ T p))) ≤ _
    have ti : (Int32.ofNat (vlN (nmZ T p))).toInt = (vlN (nmZ T p) : Int) := Int32.toInt_ofNat_of_lt (by omega)
    unfold nwt
    rw [ti, if_neg (show ¬ ((vlN (nmZ T p) : Int) < 0) by omega), Int.natAbs_natCast]
    have hl' : (nmZ T p).1 + (nmZ T p).2.1 + (nmZ T p).2.2.1 = te T p - p := by
      unfold nmZ
      omega
    have hd : (nmZ T p).2.1 ≤ 4 := by omega
    have hq : vlN (nmZ T p) / 10000 < 10 ^ (nmZ T p).1 := by
      unfold vlN
      rw [Nat.div_lt_iff_lt_mul (by decide)]
      have e1 : (10 : Nat) ^ (nmZ T p).1 * 10000 = 10 ^ ((nmZ T p).1 + (nmZ T p).2.1) * 10 ^ (4 - (nmZ T p).2.1) := by
        rw [← Nat.pow_add, show (nmZ T p).1 + (nmZ T p).2.1 + (4 - (nmZ T p).2.1) = (nmZ T p).1 + 4 by omega, Nat.pow_add]
      rw [e1]
      exact Nat.mul_lt_mul_of_pos_right g1 (Nat.pow_pos (by decide))
    have hg := ndg_lb g2 g3 hq
    rcases g4 with ⟨q0, d0⟩ | ⟨q1, d1, d4⟩
    · have : vlN (nmZ T p) % 10000 = 0 := by
        unfold vlN
        rw [d0]
        exact Nat.mul_mod_left _ _
      rw [if_pos this]
      omega
    · split <;> omega
  · cases h
theorem rfv_w (K : TK T k) {y z : Nat} (h : rfv T Lr Lc p = some (y, z)) : p + 2 ≤ te T p := by
  have hc := rfv_c h
  have hp := cp_e hc
  have hlt := te_lt hp
  unfold rfv at h
  split at h
  · next w =>
    have w1 := w.2.1
    unfold rwv at w1
    by_cases e : te T p = p + 1
    · rw [if_pos e] at w1; omega
    · omega
  · cases h
theorem rs_30 (h : v = S.1 30) : rs_setI S 30 v = S := by
  subst h
  refine Prod.ext (funext fun j => ?_) rfl
  show (if j = 30 then S.1 30 else S.1 j) = S.1 j
  split
  · next z => rw [z]
  · rfl
/-- a sign, or an opening bracket -/
theorem q272o (H : HB T k o id S0 Lr Lc) (ht : t < k) (L : LXT T Lr Lc (po T t) S) (P : PB id S0 (po T t) Q ts S) : (chT T (po T t) = 45 → ∃ S', rf_272 (Int32.ofNat o) (Int32.ofNat id) S = some (0, S') ∧ LXT T Lr Lc (po T (t + 1)) S' ∧ PB id S0 (po T (t + 1)) (126 :: Q) ts S') ∧ (chT T (po T t) = 40 → ∃ S', rf_272 (Int32.ofNat o) (Int32.ofNat id) S = some (0, S') ∧ LXT T Lr Lc (po T (t + 1)) S' ∧ PB id S0 (po T (t + 1)) (40 :: Q) ts S') := by
  have hb := HB_b H
  have h1 := po_1 H ht
  constructor
  · intro hc
    have hcd : S.1 25 = (45 : Int32) := by rw [L.2.2.1]; exact (cd_ch (x := 45) H.1 (by omega) (by omega) rfl rfl rfl).mpr hc
    obtain ⟨S2, b1, b2, b3, b4⟩ := q273 (c := 126) (v := 126) P (by omega) rfl (by have := hb (t + 1); omega)
    have P2 := PB_w (B' := po T (t + 1)) (by omega) (hb _) (b2 (S2.1 30) (by rw [b3 30 (by omega), P.2.2.1]; rfl))
    rw [rs_30 rfl] at P2
    have L2 := LXT_1 (fun a ha => b3 a (by omega)) L
    obtain ⟨S3, d1, d2, d3⟩ := q266p H L2 P2.1
    refine ⟨S3, ?_, d2, PB_l d3 P2⟩
    unfold rf_272
    rw [hcd, if_neg (by decide), if_pos rfl]
    unfold r272_17 r272_30
    rw [if_pos rfl, b1, rb_r, if_neg (by decide)]
    unfold r272_53 rb_S
    dsimp only
    rw [rs_30 rfl, d1, rb_r]
  · intro hc
    have hcd : S.1 25 = (40 : Int32) := by rw [L.2.2.1]; exact (cd_ch (x := 40) H.1 (by omega) (by omega) rfl rfl rfl).mpr hc
    obtain ⟨S2, b1, b2, b3, b4⟩ := q273 (c := 40) (v := 40) P (by omega) rfl (by have := hb (t + 1); omega)
    have hq20 : Q.count 40 ≤ 20 := Nat.le_trans List.count_le_length (by have := P.2.2.2.2.1; omega)
    have P2 := PB_w (B' := po T (t + 1)) (by omega) (hb _) (b2 (S2.1 30 + 1) (by
      rw [b3 30 (by omega), P.2.2.1, List.count_cons]
      exact i32_add _ 1))
    have L2 := LXT_1 (S' := rs_setI S2 30 (S2.1 30 + 1)) (fun a ha => (show (if a = 30 then _ else S2.1 a) = S.1 a by rw [if_neg (by omega)]; exact b3 a (by omega))) L
    obtain ⟨S3, d1, d2, d3⟩ := q266p H L2 P2.1
    refine ⟨S3, ?_, d2, PB_l d3 P2⟩
    unfold rf_272
    rw [hcd, if_pos rfl]
    unfold r272_17 r272_30
    rw [if_neg (by decide), b1, rb_r, if_pos rfl]
    unfold r272_53 rb_S
    dsimp only
    rw [d1, rb_r]
theorem sg_rep : ∀ x ∈ List.replicate kt 126, 3 ≤ sgh x := by
  intro x hx
  rw [(List.mem_replicate.mp hx).2]
  decide
/-- an operand is down: the signs before it follow -/
theorem q272s (P : PB id S0 B (List.replicate kt 126 ++ Q) ts S) (hQ : Q = [] ∨ sgh (Q.getD 0 0) < 3) : ∃ S', r272_146 (Int32.ofNat id) S = some (1, S') ∧ PB id S0 B Q (ts ++ List.replicate kt (126, 0)) S' ∧ ∀ a, a ≠ 29 → S'.1 a = S.1 a := by
  obtain ⟨S', g1, g2, g3⟩ := q276 (s := 3) (v := 3) P (by omega) (by omega) rfl hQ sg_rep
  rw [List.map_replicate] at g2
  refine ⟨S', ?_, g2, g3⟩
  unfold r272_146
  rw [g1, rb_r]
/-- a number, a reference -/
theorem q272v (H : HB T k o id S0 Lr Lc) (ht : t < k) (L : LXT T Lr Lc (po T t) S) (P : PB id S0 (po T t) (List.replicate kt 126 ++ Q) ts S) (hQ : Q = [] ∨ sgh (Q.getD 0 0) < 3) {cd : Nat} (hcd : (cd = 97 ∧ ∃ u, nmv T (po T t) = some u ∧ arg = Int32.ofNat u) ∨ (cd = 114 ∧ ∃ y z, rfv T Lr Lc (po T t) = some (y, z) ∧ arg = Int32.ofNat (y + 128 * z))) : ∃ S', rf_272 (Int32.ofNat o) (Int32.ofNat id) S = some (1, S') ∧ LXT T Lr Lc (po T (t + 1)) S' ∧ PB id S0 (po T (t + 1)) Q (ts ++ [(cd, arg)] ++ List.replicate kt (126, 0)) S' := by
  have hb := HB_b H
  have h1 := po_1 H ht
  have hte : po T (t + 1) = te T (po T t) := rfl
  have tw : twt (cd, arg) ≤ 3 * (po T (t + 1) - po T t) := by
    rcases hcd with ⟨e1, u, e2, e3⟩ | ⟨e1, y, z, e2, e3⟩
    · subst e1 e3; exact (nmv_w H.1 e2).1
    · subst e1
      have := rfv_w H.1 e2
      have : twt (114, arg) = 4 := rfl
      omega
  have p5 := P.2.2.2.2.1
  obtain ⟨S1, a1, a2, a3⟩ := q275 (B' := po T (t + 1)) (c := cd) (arg := arg) (v := Int32.ofNat cd) P (by omega) rfl (by omega) (by omega) (hb _)
  have L1 := LXT_1 (fun a _ => by rw [a3]) L
  obtain ⟨S2, b1, b2, b3⟩ := q266p H L1 a2.1
  obtain ⟨S3, c1, c2, c3⟩ := q272s (PB_l b3 a2) hQ
  refine ⟨S3, ?_, LXT_1 (fun a ha => c3 a (by omega)) b2, c2⟩
  unfold rf_272
  rcases hcd with ⟨e1, u, e2, e3⟩ | ⟨e1, y, z, e2, e3⟩
  · subst e1
    have hc : S.1 25 = -2 := by rw [L.2.2.1]; exact (cd_m2 H.1).mpr (by rw [e2]; rfl)
    have h26 : S.1 26 = arg := by rw [L.2.2.2.1 u e2, e3]
    rw [hc, if_neg (by decide), if_neg (by decide), if_neg (by decide), if_neg (by decide), if_neg (by decide), if_pos rfl]
    unfold r272_106 r272_121 r272_138
    rw [if_pos rfl, if_pos rfl, h26, show (97 : Int32) = Int32.ofNat 97 from rfl, a1, rb_r, b1, rb_r, c1]
  · subst e1
    have hc : S.1 25 = -3 := by rw [L.2.2.1]; exact (cd_m3 H.1).mpr (by rw [e2]; rfl)
    have h27 : S.1 27 = arg := by rw [L.2.2.2.2 y z e2, e3]
    rw [hc, if_neg (by decide), if_neg (by decide), if_neg (by decide), if_neg (by decide), if_neg (by decide), if_neg (by decide), if_pos rfl]
    unfold r272_106 r272_121 r272_138
    rw [if_neg (by decide), if_neg (by decide), h27, show (114 : Int32) = Int32.ofNat 114 from rfl, a1, rb_r, b1, rb_r, c1]
/-- nothing that may stand there -/
theorem q272x (H : HB T k o id S0 Lr Lc) (L : LXT T Lr Lc (po T t) S) (h1 : chT T (po T t) ≠ 45) (h2 : chT T (po T t) ≠ 40) (h3 : chT T (po T t) ≠ 115) (h4 : chT T (po T t) ≠ 110) (h5 : chT T (po T t) ≠ 109) (h6 : nmv T (po T t) = none) (h7 : rfv T Lr Lc (po T t) = none) : r271_12 (m + 2) (Int32.ofNat o) (Int32.ofNat id) 0 S = some (0, S) := by
  have hr : rf_272 (Int32.ofNat o) (Int32.ofNat id) S = some (-1, S) := by
    have ne : ∀ x : Nat, 0 < x → x < 200 → nmB x = false → cpB x = false → chT T (po T t) ≠ x → ∀ v : Int32, v = Int32.ofNat x → ¬ S.1 25 = v := by
      intro x y0 y1 y2 y3 y4 v hv e
      exact y4 ((cd_ch (Lr := Lr) (Lc := Lc) H.1 y0 y1 y2 y3 hv).mp (L.2.2.1.symm.trans e))
    unfold rf_272
    rw [if_neg (ne 40 (by omega) (by omega) rfl rfl h2 40 rfl), if_neg (ne 45 (by omega) (by omega) rfl rfl h1 45 rfl), if_neg (ne 115 (by omega) (by omega) rfl rfl h3 115 rfl), if_neg (ne 110 (by omega) (by omega) rfl rfl h4 110 rfl), if_neg (ne 109 (by omega) (by omega) rfl rfl h5 109 rfl), if_neg (fun z => by have := (cd_m2 H.1).mp (L.2.2.1.symm.trans z); rw [h6] at this; cases this), if_neg (fun z => by have := (cd_m3 H.1).mp (L.2.2.1.symm.trans z); rw [h7] at this; cases this)]
  rw [r271_12]
  dsimp only
  rw [if_neg (by decide), if_pos rfl]
  unfold r271_28
  rw [if_pos rfl, hr, rb_r]
  unfold r271_47
  rw [r271_12]
  dsimp only
  rw [if_pos (by decide)]
  unfold r271_51
  rw [if_pos (by decide)]
/-- a bracket closes -/
theorem q278c (H : HB T k o id S0 Lr Lc) (ht : t < k) (L : LXT T Lr Lc (po T t) S) (P : PB id S0 (po T t) (pd ++ 40 :: (List.replicate kt 126 ++ Q)) ts S) (hc : chT T (po T t) = 41) (hp : ∀ x ∈ pd, 1 ≤ sgh x) (hQ : Q = [] ∨ sgh (Q.getD 0 0) < 3) : ∃ S', rf_278 (Int32.ofNat o) (Int32.ofNat id) S = some (1, S') ∧ LXT T Lr Lc (po T (t + 1)) S' ∧ PB id S0 (po T (t + 1)) Q (ts ++ pd.map (fun c => (c, 0)) ++ List.replicate kt (126, 0)) S' := by
  have hb := HB_b H
  have h1 := po_1 H ht
  have hcd : S.1 25 = (41 : Int32) := by rw [L.2.2.1]; exact (cd_ch (x := 41) H.1 (by omega) (by omega) rfl rfl rfl).mpr hc
  have hl := P.2.2.2.2.1.1
  rw [List.length_append, List.length_cons] at hl
  have hcnt : (pd ++ 40 :: (List.replicate kt 126 ++ Q)).count 40 ≤ 20 := Nat.le_trans List.count_le_length (by rw [List.length_append, List.length_cons]; have := hb t; omega)
  have h30 : S.1 30 ≠ 0 := by
    rw [P.2.2.1]
    refine i32_ofne (b := 0) (by omega) (by omega) ?_
    rw [List.count_append, List.count_cons_self]
    omega
  obtain ⟨S1, a1, a2, a3⟩ := q276 (s := 1) (v := 1) P (by omega) (by omega) rfl (Or.inr (by show sgh 40 < 1; decide)) hp
  obtain ⟨p1, p2, p3, p4, p5, p6, p7⟩ := a2
  obtain ⟨g1, g2, g3⟩ := PIL_c p2
  rw [List.count_cons_self] at p3
  have P2 : PB id S0 (po T t) (List.replicate kt 126 ++ Q) (ts ++ pd.map (fun c => (c, 0))) (rs_setI (rs_setI S1 29 (S1.1 29 - 1)) 30 (S1.1 30 - 1)) := by
    refine ⟨Rk_tr p1 (Rk_tr (Rk_I (by omega) (by omega)) (Rk_I (by omega) (by omega))), ⟨?_, g3⟩, ?_, p4, ⟨?_, ?_, p5.2.2⟩, fun x hx => p6 x (List.mem_cons_of_mem _ hx), p7⟩
    · show S1.1 29 - 1 = _
      rw [g1]
      exact i32_sub (b := 1) (by omega)
    · show S1.1 30 - 1 = _
      rw [p3]
      exact i32_sub (b := 1) (by omega)
    · have := p5.1; rw [List.length_cons] at this; omega
    · have := p5.2.1; rw [List.length_cons] at this; omega
  have L2 : LXT T Lr Lc (po T t) (rs_setI (rs_setI S1 29 (S1.1 29 - 1)) 30 (S1.1 30 - 1)) := LXT_1 (S := S) (fun a ha => (show (if a = 30 then _ else if a = 29 then _ else S1.1 a) = S.1 a by rw [if_neg (by omega), if_neg (by omega)]; exact a3 a (by omega))) L
  obtain ⟨S3, d1, d2, d3⟩ := q266p H L2 P2.1
  obtain ⟨S4, e1, e2, e3⟩ := q276 (s := 3) (v := 3) (PB_w (B' := po T (t + 1)) (by omega) (hb _) (PB_l d3 P2)) (by omega) (by omega) rfl hQ sg_rep
  rw [List.map_replicate] at e2
  refine ⟨S4, ?_, LXT_1 (fun a ha => e3 a (by omega)) d2, e2⟩
  unfold rf_278
  rw [hcd, show rf_277 (41 : Int32) S = some (0, S) from rfl, rb_r, if_pos (by decide)]
  unfold r278_39
  rw [if_pos rfl, if_neg h30, a1, rb_r]
  unfold rb_S
  dsimp only
  rw [show (rs_setI S1 29 (S1.1 29 - 1)).1 30 = S1.1 30 from rfl, d1, rb_r, e1, rb_r]
end ST2
