/-! BOTH read together: expressions -/
section EXR
variable {A A' A2 : ah} {h : pm_H} {M : aM} {D : aD} {X0 X1 : ax} {S S0 S' S2 : rs_S} {T Lr Lc : List Nat} {k t p j n m x b d q N e o id B B' c s kt u r cc dp x3 kc : Nat} {Q pd : List Nat} {ts : List (Nat × Int32)} {v arg fl : Int32} {w : Option Nat} {X : Option Nat → Int32 → pm_H → tm_L}
/-- an expression's loop: it ends, after a fault or not -/
theorem exprF (R : ar A h) (s : RS T k t fl r cc A) (hf : fl ≠ -1) (q : Nat) (x3 : Int32) : l142_8 w X (n + 1) (some 83) v (some q) x3 h = rtR (some q) h := by
  rw [l142_8]
  dsimp only
  split
  · rfl
  · rw [rs_fl R s, Option.bind_some, if_neg hf]
theorem exprX (R : ar A h) (K : TK T k) (s : RS T k t (-1) r cc A) (ht : t ≤ k) (h1 : chT T (po T t) ≠ 43) (h2 : chT T (po T t) ≠ 45) (q : Nat) (x3 : Int32) : l142_8 w X (n + 1) (some 83) v (some q) x3 h = rtR (some q) h := by
  rw [l142_8]
  dsimp only
  split
  · rfl
  · rw [rs_fl R s, Option.bind_some, if_pos rfl, if_pos (rr_lc R s), c139 (x := 43) (v := 43) R K s ht (by omega) rfl, rt_I, ifB, decide_eq_false h1, if_neg Bool.false_ne_true, if_pos (rr_lc R s), c139 (x := 45) (v := 45) R K s ht (by omega) rfl, rt_I, ifB, decide_eq_false h2, if_neg Bool.false_ne_true]
theorem exprO (R : ar A h) (K : TK T k) (s : RS T k t (-1) r cc A) (ht : t ≤ k) (hx : x3 < 20) (hc : (chT T (po T t) = 43 ∧ kc = 11) ∨ (chT T (po T t) = 45 ∧ kc = 12)) (q : Nat) : l142_8 w X (n + 1) (some 83) v (some q) (Int32.ofNat x3) h = l142_58 w X (l142_8 w X n) (some 83) v (some q) (Int32.ofNat x3) (some kc) h := by
  rw [l142_8]
  dsimp only
  rw [if_neg (show ¬ (20 : Int32) ≤ Int32.ofNat x3 from fun z => by have := (i32_len (a := 20) (by omega) (by omega)).mp z; omega), rs_fl R s, Option.bind_some, if_pos rfl, if_pos (rr_lc R s), c139 (x := 43) (v := 43) R K s ht (by omega) rfl, rt_I, ifB]
  rcases hc with ⟨e1, e2⟩ | ⟨e1, e2⟩
  · subst e2
    rw [decide_eq_true e1, if_pos rfl]
    unfold l142_40
    rw [if_pos (rr_lc R s), c139 (x := 43) (v := 43) R K s ht (by omega) rfl, rt_I, ifB, decide_eq_true e1, if_pos rfl]
  · subst e2
    have e3 : chT T (po T t) ≠ 43 := by omega
    rw [decide_eq_false e3, if_neg Bool.false_ne_true, if_pos (rr_lc R s), c139 (x := 45) (v := 45) R K s ht (by omega) rfl, rt_I, ifB, decide_eq_true e1, if_pos rfl]
    unfold l142_40
    rw [if_pos (rr_lc R s), c139 (x := 43) (v := 43) R K s ht (by omega) rfl, rt_I, ifB, decide_eq_false e3, if_neg Bool.false_ne_true]
theorem exprL (H : HB T k o id S0 (xS X0) (xS X1)) (hF : TERMp T k r cc o id S0 M D X0 X1 (ll_143 w X) dp) (hQ : Q = [] ∨ sgh (Q.getD 0 0) < 1) : ∀ (rr t t0 x3 n q m : Nat) (u' : List (Nat × Int32)) (pd : List Nat) (A : ah) (h : pm_H) (S : rs_S), k - t ≤ rr → rr < n → t0 < t → t ≤ k → x3 < t → dp ≤ po T t → ar A h → RS T k t (-1) r cc A → RX M A D r cc X0 X1 → prt M A D (po T t - po T t0) q (u' ++ z0 pd) → LXT T (xS X0) (xS X1) (po T t) S → PB id S0 (po T t) (pd ++ Q) (ts ++ u') S → (∀ c ∈ pd, 1 ≤ sgh c) → 25 ≤ m + po T t → chT T (po T t) ≠ 42 ∧ chT T (po T t) ≠ 47 → GOODo T (xS X0) (xS X1) k r cc o id M D A t t0 (l142_8 w X n (some 83) (Int32.ofNat dp) (some q) (Int32.ofNat x3) h) (r271_12 m (Int32.ofNat o) (Int32.ofNat id) 1 S) (FinE T id S0 t0 Q ts) ∨ BADo T k r cc id S0 A t (l142_8 w X n (some 83) (Int32.ofNat dp) (some q) (Int32.ofNat x3) h) (r271_12 m (Int32.ofNat o) (Int32.ofNat id) 1 S) := by
  have K := H.1
  have hb := HB_b H
  have exit : ∀ (t t0 x3 n q m : Nat) (u' : List (Nat × Int32)) (pd : List Nat) (A : ah) (h : pm_H) (S : rs_S), t0 < t → t ≤ k → ar A h → RS T k t (-1) r cc A → prt M A D (po T t - po T t0) q (u' ++ z0 pd) → LXT T (xS X0) (xS X1) (po T t) S → PB id S0 (po T t) (pd ++ Q) (ts ++ u') S → (∀ c ∈ pd, 1 ≤ sgh c) → 25 ≤ m + po T t → chT T (po T t) ≠ 42 ∧ chT T (po T t) ≠ 47 → chT T (po T t) ≠ 43 → chT T (po T t) ≠ 45 → GOODo T (xS X0) (xS X1) k r cc o id M D A t t0 (l142_8 w X (n + 1) (some 83) (Int32.ofNat dp) (some q) (Int32.ofNat x3) h) (r271_12 m (Int32.ofNat o) (Int32.ofNat id) 1 S) (FinE T id S0 t0 Q ts) := by
    intro t t0 x3 n q m u' pd A h S g1 g2 R s hp L P hd hm hne h1 h2
    exact ⟨q, t, _, A, h, S, 0, m, exprX R K s g2 h1 h2 q _, R, s, Nat.le_refl _, g2, hp, RU_0, Nat.zero_le _, rfl, hm, L, g1, ⟨pd, u', rfl, hd, P⟩, hne.1, hne.2, h1, h2⟩
  intro rr
  induction rr with
  | zero =>
    intro t t0 x3 n q m u' pd A h S g1 g2 g3 g4 g5 g6 R s hX hp L P hd hm hne
    cases n with
    | zero => omega
    | succ n =>
      have e : chT T (po T t) = 0 := chT_n (by rw [show t = k by omega, K.2.2.2.1]; exact Nat.le_refl _)
      exact Or.inl (exit t t0 x3 n q m u' pd A h S g3 g4 R s hp L P hd hm hne (by omega) (by omega))
  | succ rr ih =>
    intro t t0 x3 n q m u' pd A h S g1 g2 g3 g4 g5 g6 R s hX hp L P hd hm hne
    cases n with
    | zero => omega
    | succ n =>
      by_cases hop : chT T (po T t) = 43 ∨ chT T (po T t) = 45
      · obtain ⟨c, kc, hc, hcd, hck⟩ : ∃ c kc, chT T (po T t) = c ∧ ((chT T (po T t) = 43 ∧ kc = 11) ∨ (chT T (po T t) = 45 ∧ kc = 12)) ∧ (kc, c) ∈ kcT ∧ sgh c = 1 := by
          rcases hop with e | e
          · exact ⟨43, 11, e, Or.inl ⟨e, rfl⟩, by decide, by decide⟩
          · exact ⟨45, 12, e, Or.inr ⟨e, rfl⟩, by decide, by decide⟩
        have htk : t < k := (tk_lt K g4).mpr (by
          by_cases z : po T t < T.length
          · exact z
          · rw [chT_n (by omega)] at hop; omega)
        have k20 := K.2.2.1
        obtain ⟨m, rfl⟩ : ∃ m0, m = m0 + 1 := ⟨m - 1, by have := hb t; omega⟩
        -- the reference
        obtain ⟨S1, a1, a2, a3⟩ := q278o H htk L P hc hck.2 (Or.inl rfl) hd hQ
        have hR : r271_12 (m + 1) (Int32.ofNat o) (Int32.ofNat id) 1 S = r271_12 m (Int32.ofNat o) (Int32.ofNat id) 0 S1 := by
          rw [r271_12]
          dsimp only
          rw [if_neg (by decide), if_neg (by decide), if_neg (show ¬ S.1 25 = -1 by rw [L.2.2.1]; exact fun z => by have := (cd_m1 K).mp z; have := K.2.2.2.2 t htk; omega)]
          unfold r271_28
          rw [if_neg (by decide), a1, rb_r]
          rfl
        -- the class
        obtain ⟨A1, h1, b1, b2, b3, b4⟩ := c141 R K s g4
        rw [show gn k t = t + 1 from if_pos htk] at b3
        have hX1 := RX_u R hX b4
        have l1 := hX1.2.2.2.2.2.1
        have R2 := c9n b2
        have s2 : RS T k (t + 1) (-1) r cc (ah_new A1 (ac_c pt0) 8) := RS_new b3 l1
        have u2 : RU A1 (ah_new A1 (ac_c pt0) 8) 1 := RU_new b2 l1 pt0
        have hX2 := RX_u b2 hX1 u2
        have hpo := po_1 H htk
        have e12 : (ah_new A1 (ac_c pt0) 8).1 A1.2.1 = ac_c pt0 := ah_new_e
        have hlen : h1.1.length = A1.2.1 := ar_len b2
        have hcl : l142_8 w X (n + 1) (some 83) (Int32.ofNat dp) (some q) (Int32.ofNat x3) h = lb_R (ll_143 w X (some 83) (Int32.ofNat dp) (lf_new h1 9 8 [.null, .null, .null, .long 0, .null, .null, .null, .null])) (fun v7 h8 => lb_V (ll_147 (some A1.2.1) (some kc) (some q) v7 h8) (fun h11 => l142_8 w X n (some 83) (Int32.ofNat dp) (some A1.2.1) (Int32.ofNat (x3 + 1)) h11)) := by
          rw [exprO R K s g4 (by omega) hcd q]
          unfold l142_58 lb_h
          rw [if_pos (rr_lc R s), b1, rt_V]
          dsimp only
          rw [if_pos (rr_lc R2 s2), hlen, show Int32.ofNat x3 + (1 : Int32) = Int32.ofNat (x3 + 1) from i32_add x3 1]
        rw [hcl, hR]
        rcases hF (t + 1) m (c :: Q) (ts ++ u' ++ z0 pd) _ _ S1 R2 s2 hX2 (by omega) (by omega) a2 a3 (Or.inr (by show sgh c < 2; omega)) (by omega) with hg | hbd
        · obtain ⟨q2, t2, u2', A3, h3, S3, c3, m3, f1, f2, f3, f4, f5, f6, f7, f8, f9, f10, f11, f12, ⟨pd2, v2, hv2, hd2, f13⟩, hn42, hn47⟩ := hg
          have e3 : A3.1 A1.2.1 = ac_c pt0 := st_c f7 R2 e12 (by intro z; cases z) (by simp; omega)
          obtain ⟨h4, p4, R4⟩ := c147 f2 e3 (by omega) (some kc) (some q) (some q2)
          have hpo2 := po_le K f4
          have hpo3 := po_s K f12 f5
          have hpo0 := po_s K g3 g4
          have RUt : RU A A3 (0 + 1 + c3) := RU_tr (RU_tr b4 u2) f7
          have pr1 := prt_set (y := ac_c (.inl (9, [tm_r (some kc), tm_r (some q), tm_r (some q2), .long 0, .null, .null, .null, .null]))) e3 _ _ _ (prt_u R RUt hp)
          have pr2 := prt_set (y := ac_c (.inl (9, [tm_r (some kc), tm_r (some q), tm_r (some q2), .long 0, .null, .null, .null, .null]))) e3 _ _ _ f6
          have RU4 : RU A (ah_set A3 A1.2.1 (ac_c (.inl (9, [tm_r (some kc), tm_r (some q), tm_r (some q2), .long 0, .null, .null, .null, .null])))) (0 + 1 + c3) := RU_set RUt (b4.1) e3
          have RU4' : RU A3 (ah_set A3 A1.2.1 (ac_c (.inl (9, [tm_r (some kc), tm_r (some q), tm_r (some q2), .long 0, .null, .null, .null, .null])))) 0 ∨ True := Or.inr trivial
          have prn : prt M (ah_set A3 A1.2.1 (ac_c (.inl (9, [tm_r (some kc), tm_r (some q), tm_r (some q2), .long 0, .null, .null, .null, .null])))) D (po T t2 - po T t0) A1.2.1 ((u' ++ z0 pd ++ v2) ++ z0 (pd2 ++ [c])) := by
            rw [show po T t2 - po T t0 = (po T t2 - po T t0 - 1) + 1 by omega]
            refine ⟨l1, Or.inr (Or.inr (Or.inr (Or.inr ⟨kc, c, q, q2, u' ++ z0 pd, u2', hck.1, ah_set_e, prt_mono _ _ _ _ (by omega) pr1, prt_mono _ _ _ _ (by omega) pr2, by rw [hv2]; simp [z0]⟩)))⟩
          have hX4 := RX_u R hX RU4
          have s4 := RS_set (y := ac_c (.inl (9, [tm_r (some kc), tm_r (some q), tm_r (some q2), .long 0, .null, .null, .null, .null]))) f3 (show 86 < A1.2.1 by omega)
          have P4 : PB id S0 (po T t2) ((pd2 ++ [c]) ++ Q) (ts ++ (u' ++ z0 pd ++ v2)) S3 := by
            have := f13
            rw [show ts ++ u' ++ z0 pd ++ v2 = ts ++ (u' ++ z0 pd ++ v2) by simp, show pd2 ++ c :: Q = (pd2 ++ [c]) ++ Q by simp] at this
            exact this
          have key := ih t2 t0 (x3 + 1) n A1.2.1 m3 (u' ++ z0 pd ++ v2) (pd2 ++ [c]) _ h4 S3 (by omega) (by omega) (by omega) f5 (by omega) (by omega) R4 s4 hX4 prn f11 P4 (by
            intro y hy
            rcases List.mem_append.mp hy with z | z
            · have := hd2 y z; omega
            · simp at z; subst z; omega) f10 ⟨hn42, hn47⟩
          rw [f1, rt_R, p4, rt_V, f9]
          rcases key with ⟨q5, t5, u5, A5, h5, S5, c5, m5, i1, i2, i3, i4, i5, i6, i7, i8, i9⟩ | ⟨q5, t5, f5', A5, h5, S5, c5, i1, i2, i3, i4, i5, i6, i7, i8, i9⟩
          · exact Or.inl ⟨q5, t5, u5, A5, h5, S5, _, m5, i1, i2, i3, by omega, i5, i6, RU_tr RU4 i7, by omega, i9⟩
          · exact Or.inr ⟨q5, t5, f5', A5, h5, S5, _, i1, i2, i3, i4, by omega, i6, RU_tr RU4 i7, by omega, i9⟩
        · obtain ⟨q2, t2, ff, A3, h3, S3, c3, f1, f2, f3, f4, f5, f6, f7, f8, f9, f10, f11⟩ := hbd
          have e3 : A3.1 A1.2.1 = ac_c pt0 := st_c f7 R2 e12 (by intro z; cases z) (by simp; omega)
          obtain ⟨h4, p4, R4⟩ := c147 f2 e3 (by omega) (some kc) (some q) (some q2)
          have RUt : RU A A3 (0 + 1 + c3) := RU_tr (RU_tr b4 u2) f7
          have RU4 := RU_set (z := .inl (9, [tm_r (some kc), tm_r (some q), tm_r (some q2), .long 0, .null, .null, .null, .null])) RUt (b4.1) e3
          have s4 := RS_set (y := ac_c (.inl (9, [tm_r (some kc), tm_r (some q), tm_r (some q2), .long 0, .null, .null, .null, .null]))) f3 (show 86 < A1.2.1 by omega)
          obtain ⟨n', rfl⟩ : ∃ n', n = n' + 1 := ⟨n - 1, by omega⟩
          rw [f1, rt_R, p4, rt_V, f9, exprF R4 s4 (i32_nn (by omega)) A1.2.1 _]
          exact Or.inr ⟨A1.2.1, t2, ff, _, h4, S3, _, rfl, R4, s4, f4, by omega, f6, RU4, by omega, rfl, f10, f11⟩
      · exact Or.inl (exit t t0 x3 n q m u' pd A h S g3 g4 R s hp L P hd hm hne (by omega) (by omega))
theorem exprP (H : HB T k o id S0 (xS X0) (xS X1)) (hF : TERMp T k r cc o id S0 M D X0 X1 (ll_143 w X) dp) : EXPRp T k r cc o id S0 M D X0 X1 (ll_142 w X) dp := by
  have K := H.1
  intro t m Q ts A h S R s hX ht hdp L P hQ hm
  have hl : ll_142 w X (some 83) (Int32.ofNat dp) h = lb_R (ll_143 w X (some 83) (Int32.ofNat dp) h) (fun v2 h3 => l142_8 w X lf_N (some 83) (Int32.ofNat dp) v2 (0 : Int32) h3) := by
    unfold ll_142
    rw [if_pos (rr_lc R s)]
  rw [hl]
  rcases hF t m Q ts A h S R s hX ht hdp L P (by rcases hQ with z | z; exact Or.inl z; exact Or.inr (by omega)) hm with hg | hbd
  · obtain ⟨q2, t2, u2', A3, h3, S3, c3, m3, f1, f2, f3, f4, f5, f6, f7, f8, f9, f10, f11, f12, ⟨pd2, v2, hv2, hd2, f13⟩, hn42, hn47⟩ := hg
    rw [f1, rt_R, f9]
    have hpo2 := po_le K f4
    have k20 := K.2.2.1
    rcases exprL (w := w) (ts := ts) H hF hQ (k - t2) t2 t 0 lf_N q2 m3 v2 pd2 A3 h3 S3 (Nat.le_refl _) (by unfold lf_N; omega) f12 f5 (by omega) (by omega) f2 f3 (RX_u R hX f7) (by rw [← hv2]; exact f6) f11 f13 (fun y hy => by have := hd2 y hy; omega) f10 ⟨hn42, hn47⟩ with ⟨q5, t5, u5, A5, h5, S5, c5, m5, i1, i2, i3, i4, i5, i6, i7, i8, i9⟩ | ⟨q5, t5, f5', A5, h5, S5, c5, i1, i2, i3, i4, i5, i6, i7, i8, i9⟩
    · exact Or.inl ⟨q5, t5, u5, A5, h5, S5, _, m5, i1, i2, i3, by omega, i5, i6, RU_tr f7 i7, by omega, i9⟩
    · exact Or.inr ⟨q5, t5, f5', A5, h5, S5, _, i1, i2, i3, i4, by omega, i6, RU_tr f7 i7, by omega, i9⟩
  · obtain ⟨q2, t2, ff, A3, h3, S3, c3, f1, f2, f3, f4, f5, f6, f7, f8, f9, f10, f11⟩ := hbd
    obtain ⟨n', hn⟩ : ∃ n', lf_N = n' + 1 := ⟨lf_N - 1, by unfold lf_N; omega⟩
    rw [f1, rt_R, f9, hn, exprF f2 f3 (i32_nn (by omega)) q2 _]
    exact Or.inr ⟨q2, t2, ff, A3, h3, S3, c3, rfl, f2, f3, f4, f5, f6, f7, f8, rfl, f10, f11⟩
end EXR
