/-! BOTH read together: terms -/
def BADo (T : List Nat) (k r cc id : Nat) (S0 : rs_S) (A : ah) (t : Nat) (L : tm_L) (R : Option (Int32 × rs_S)) : Prop := ∃ q t' f A' h' S' c, L = rtR (some q) h' ∧ ar A' h' ∧ RS T k t' (Int32.ofNat f) r cc A' ∧ f ≤ 20 ∧ t ≤ t' ∧ t' ≤ k ∧ RU A A' c ∧ c ≤ 3 * (t' - t) + 3 ∧ R = some (0, S') ∧ S'.1 24 = Int32.ofNat f ∧ Rk id S0 S'
def GOODo (T Lr Lc : List Nat) (k r cc o id : Nat) (M : aM) (D : aD) (A : ah) (t t0 : Nat) (L : tm_L) (R : Option (Int32 × rs_S)) (Fin : Nat → List (Nat × Int32) → rs_S → Prop) : Prop := ∃ q t' u A' h' S' c m', L = rtR (some q) h' ∧ ar A' h' ∧ RS T k t' (-1) r cc A' ∧ t ≤ t' ∧ t' ≤ k ∧ prt M A' D (po T t' - po T t0) q u ∧ RU A A' c ∧ c ≤ 3 * (t' - t) ∧ R = r271_12 m' (Int32.ofNat o) (Int32.ofNat id) 1 S' ∧ 25 ≤ m' + po T t' ∧ LXT T Lr Lc (po T t') S' ∧ Fin t' u S'
abbrev z0 (pd : List Nat) : List (Nat × Int32) := pd.map (fun c => (c, 0))
def FinF (T : List Nat) (id : Nat) (S0 : rs_S) (t0 kt : Nat) (Q : List Nat) (ts : List (Nat × Int32)) (t' : Nat) (u : List (Nat × Int32)) (S' : rs_S) : Prop := t0 < t' ∧ PB id S0 (po T t') Q (ts ++ u ++ List.replicate kt (126, 0)) S'
def FinT (T : List Nat) (id : Nat) (S0 : rs_S) (t0 : Nat) (Q : List Nat) (ts : List (Nat × Int32)) (t' : Nat) (u : List (Nat × Int32)) (S' : rs_S) : Prop := t0 < t' ∧ (∃ pd u', u = u' ++ z0 pd ∧ (∀ c ∈ pd, 2 ≤ sgh c) ∧ PB id S0 (po T t') (pd ++ Q) (ts ++ u') S') ∧ chT T (po T t') ≠ 42 ∧ chT T (po T t') ≠ 47
def FinE (T : List Nat) (id : Nat) (S0 : rs_S) (t0 : Nat) (Q : List Nat) (ts : List (Nat × Int32)) (t' : Nat) (u : List (Nat × Int32)) (S' : rs_S) : Prop := t0 < t' ∧ (∃ pd u', u = u' ++ z0 pd ∧ (∀ c ∈ pd, 1 ≤ sgh c) ∧ PB id S0 (po T t') (pd ++ Q) (ts ++ u') S') ∧ chT T (po T t') ≠ 42 ∧ chT T (po T t') ≠ 47 ∧ chT T (po T t') ≠ 43 ∧ chT T (po T t') ≠ 45
def FACp (T : List Nat) (k r cc o id : Nat) (S0 : rs_S) (M : aM) (D : aD) (X0 X1 : ax) (X : Option Nat → Int32 → pm_H → tm_L) (dp : Nat) : Prop := ∀ (t kt m : Nat) (Q : List Nat) (ts : List (Nat × Int32)) (A : ah) (h : pm_H) (S : rs_S), ar A h → RS T k t (-1) r cc A → RX M A D r cc X0 X1 → t ≤ k → dp ≤ po T t → LXT T (xS X0) (xS X1) (po T t) S → PB id S0 (po T t) (List.replicate kt 126 ++ Q) ts S → (Q = [] ∨ sgh (Q.getD 0 0) < 3) → 25 ≤ m + po T t → GOODo T (xS X0) (xS X1) k r cc o id M D A t t (X (some 83) (Int32.ofNat dp) h) (r271_12 m (Int32.ofNat o) (Int32.ofNat id) 0 S) (FinF T id S0 t kt Q ts) ∨ BADo T k r cc id S0 A t (X (some 83) (Int32.ofNat dp) h) (r271_12 m (Int32.ofNat o) (Int32.ofNat id) 0 S)
def TERMp (T : List Nat) (k r cc o id : Nat) (S0 : rs_S) (M : aM) (D : aD) (X0 X1 : ax) (X : Option Nat → Int32 → pm_H → tm_L) (dp : Nat) : Prop := ∀ (t m : Nat) (Q : List Nat) (ts : List (Nat × Int32)) (A : ah) (h : pm_H) (S : rs_S), ar A h → RS T k t (-1) r cc A → RX M A D r cc X0 X1 → t ≤ k → dp ≤ po T t → LXT T (xS X0) (xS X1) (po T t) S → PB id S0 (po T t) Q ts S → (Q = [] ∨ sgh (Q.getD 0 0) < 2) → 25 ≤ m + po T t → GOODo T (xS X0) (xS X1) k r cc o id M D A t t (X (some 83) (Int32.ofNat dp) h) (r271_12 m (Int32.ofNat o) (Int32.ofNat id) 0 S) (FinT T id S0 t Q ts) ∨ BADo T k r cc id S0 A t (X (some 83) (Int32.ofNat dp) h) (r271_12 m (Int32.ofNat o) (Int32.ofNat id) 0 S)
def EXPRp (T : List Nat) (k r cc o id : Nat) (S0 : rs_S) (M : aM) (D : aD) (X0 X1 : ax) (X : Option Nat → Int32 → pm_H → tm_L) (dp : Nat) : Prop := ∀ (t m : Nat) (Q : List Nat) (ts : List (Nat × Int32)) (A : ah) (h : pm_H) (S : rs_S), ar A h → RS T k t (-1) r cc A → RX M A D r cc X0 X1 → t ≤ k → dp ≤ po T t → LXT T (xS X0) (xS X1) (po T t) S → PB id S0 (po T t) Q ts S → (Q = [] ∨ sgh (Q.getD 0 0) < 1) → 25 ≤ m + po T t → GOODo T (xS X0) (xS X1) k r cc o id M D A t t (X (some 83) (Int32.ofNat dp) h) (r271_12 m (Int32.ofNat o) (Int32.ofNat id) 0 S) (FinE T id S0 t Q ts) ∨ BADo T k r cc id S0 A t (X (some 83) (Int32.ofNat dp) h) (r271_12 m (Int32.ofNat o) (Int32.ofNat id) 0 S)
section TRM
variable {A A' A2 : ah} {h : pm_H} {M : aM} {D : aD} {X0 X1 : ax} {S S0 S' S2 : rs_S} {T Lr Lc : List Nat} {k t p j n m x b d q N e o id B B' c s kt u r cc dp x3 kc : Nat} {Q pd : List Nat} {ts : List (Nat × Int32)} {v arg fl : Int32} {w : Option Nat} {X : Option Nat → Int32 → pm_H → tm_L}
theorem rs_fl (R : ar A h) (s : RS T k t fl r cc A) : lf_I h (some 83) [1, 4] = some fl := hc_I (v := fl) (ar_c R s.1) rfl
theorem po_m (K : TK T k) : ∀ d t, po T t ≤ po T (t + d)
  | 0, _ => Nat.le_refl _
  | d + 1, t => by
    have h1 := po_m K d t
    have h2 : po T (t + d) ≤ po T (t + (d + 1)) := by
      show po T (t + d) ≤ te T (po T (t + d))
      by_cases q : po T (t + d) < T.length
      · have := te_lt q; omega
      · rw [te_n (by omega)]; exact Nat.le_refl _
    omega
theorem po_le (K : TK T k) {a b : Nat} (h : a ≤ b) : po T a ≤ po T b := by
  have := po_m K (b - a) a
  rw [show a + (b - a) = b by omega] at this
  exact this
theorem po_s (K : TK T k) {a b : Nat} (h : a < b) (hb : b ≤ k) : po T a + 1 ≤ po T b := by
  have h1 : po T a < po T (a + 1) := te_lt (K.2.2.2.2 a (by omega))
  have h2 := po_le K (show a + 1 ≤ b by omega)
  omega
/-- a term's loop: it ends, after a fault or not -/
theorem termF (R : ar A h) (s : RS T k t fl r cc A) (hf : fl ≠ -1) (q : Nat) (x3 : Int32) : l143_8 w X (n + 1) (some 83) v (some q) x3 h = rtR (some q) h := by
  rw [l143_8]
  dsimp only
  split
  · rfl
  · rw [rs_fl R s, Option.bind_some, if_neg hf]
theorem termX (R : ar A h) (K : TK T k) (s : RS T k t (-1) r cc A) (ht : t ≤ k) (h1 : chT T (po T t) ≠ 42) (h2 : chT T (po T t) ≠ 47) (q : Nat) (x3 : Int32) : l143_8 w X (n + 1) (some 83) v (some q) x3 h = rtR (some q) h := by
  rw [l143_8]
  dsimp only
  split
  · rfl
  · rw [rs_fl R s, Option.bind_some, if_pos rfl, if_pos (rr_lc R s), c139 (x := 42) (v := 42) R K s ht (by omega) rfl, rt_I, ifB, decide_eq_false h1, if_neg Bool.false_ne_true, if_pos (rr_lc R s), c139 (x := 47) (v := 47) R K s ht (by omega) rfl, rt_I, ifB, decide_eq_false h2, if_neg Bool.false_ne_true]
theorem termO (R : ar A h) (K : TK T k) (s : RS T k t (-1) r cc A) (ht : t ≤ k) (hx : x3 < 20) (hc : (chT T (po T t) = 42 ∧ kc = 13) ∨ (chT T (po T t) = 47 ∧ kc = 14)) (q : Nat) : l143_8 w X (n + 1) (some 83) v (some q) (Int32.ofNat x3) h = l143_58 w X (l143_8 w X n) (some 83) v (some q) (Int32.ofNat x3) (some kc) h := by
  rw [l143_8]
  dsimp only
  rw [if_neg (show ¬ (20 : Int32) ≤ Int32.ofNat x3 from fun z => by have := (i32_len (a := 20) (by omega) (by omega)).mp z; omega), rs_fl R s, Option.bind_some, if_pos rfl, if_pos (rr_lc R s), c139 (x := 42) (v := 42) R K s ht (by omega) rfl, rt_I, ifB]
  rcases hc with ⟨e1, e2⟩ | ⟨e1, e2⟩
  · subst e2
    rw [decide_eq_true e1, if_pos rfl]
    unfold l143_40
    rw [if_pos (rr_lc R s), c139 (x := 42) (v := 42) R K s ht (by omega) rfl, rt_I, ifB, decide_eq_true e1, if_pos rfl]
  · subst e2
    have e3 : chT T (po T t) ≠ 42 := by omega
    rw [decide_eq_false e3, if_neg Bool.false_ne_true, if_pos (rr_lc R s), c139 (x := 47) (v := 47) R K s ht (by omega) rfl, rt_I, ifB, decide_eq_true e1, if_pos rfl]
    unfold l143_40
    rw [if_pos (rr_lc R s), c139 (x := 42) (v := 42) R K s ht (by omega) rfl, rt_I, ifB, decide_eq_false e3, if_neg Bool.false_ne_true]
theorem termL (H : HB T k o id S0 (xS X0) (xS X1)) (hF : FACp T k r cc o id S0 M D X0 X1 X dp) (hQ : Q = [] ∨ sgh (Q.getD 0 0) < 2) : ∀ (rr t t0 x3 n q m : Nat) (u' : List (Nat × Int32)) (pd : List Nat) (A : ah) (h : pm_H) (S : rs_S), k - t ≤ rr → rr < n → t0 < t → t ≤ k → x3 < t → dp ≤ po T t → ar A h → RS T k t (-1) r cc A → RX M A D r cc X0 X1 → prt M A D (po T t - po T t0) q (u' ++ z0 pd) → LXT T (xS X0) (xS X1) (po T t) S → PB id S0 (po T t) (pd ++ Q) (ts ++ u') S → (∀ c ∈ pd, 2 ≤ sgh c) → 25 ≤ m + po T t → GOODo T (xS X0) (xS X1) k r cc o id M D A t t0 (l143_8 w X n (some 83) (Int32.ofNat dp) (some q) (Int32.ofNat x3) h) (r271_12 m (Int32.ofNat o) (Int32.ofNat id) 1 S) (FinT T id S0 t0 Q ts) ∨ BADo T k r cc id S0 A t (l143_8 w X n (some 83) (Int32.ofNat dp) (some q) (Int32.ofNat x3) h) (r271_12 m (Int32.ofNat o) (Int32.ofNat id) 1 S) := by
  have K := H.1
  have hb := HB_b H
  have exit : ∀ (t t0 x3 n q m : Nat) (u' : List (Nat × Int32)) (pd : List Nat) (A : ah) (h : pm_H) (S : rs_S), t0 < t → t ≤ k → ar A h → RS T k t (-1) r cc A → prt M A D (po T t - po T t0) q (u' ++ z0 pd) → LXT T (xS X0) (xS X1) (po T t) S → PB id S0 (po T t) (pd ++ Q) (ts ++ u') S → (∀ c ∈ pd, 2 ≤ sgh c) → 25 ≤ m + po T t → chT T (po T t) ≠ 42 → chT T (po T t) ≠ 47 → GOODo T (xS X0) (xS X1) k r cc o id M D A t t0 (l143_8 w X (n + 1) (some 83) (Int32.ofNat dp) (some q) (Int32.ofNat x3) h) (r271_12 m (Int32.ofNat o) (Int32.ofNat id) 1 S) (FinT T id S0 t0 Q ts) := by
    intro t t0 x3 n q m u' pd A h S g1 g2 R s hp L P hd hm h1 h2
    exact ⟨q, t, _, A, h, S, 0, m, termX R K s g2 h1 h2 q _, R, s, Nat.le_refl _, g2, hp, RU_0, Nat.zero_le _, rfl, hm, L, g1, ⟨pd, u', rfl, hd, P⟩, h1, h2⟩
  intro rr
  induction rr with
  | zero =>
    intro t t0 x3 n q m u' pd A h S g1 g2 g3 g4 g5 g6 R s hX hp L P hd hm
    cases n with
    | zero => omega
    | succ n =>
      have e : chT T (po T t) = 0 := chT_n (by rw [show t = k by omega, K.2.2.2.1]; exact Nat.le_refl _)
      exact Or.inl (exit t t0 x3 n q m u' pd A h S g3 g4 R s hp L P hd hm (by omega) (by omega))
  | succ rr ih =>
    intro t t0 x3 n q m u' pd A h S g1 g2 g3 g4 g5 g6 R s hX hp L P hd hm
    cases n with
    | zero => omega
    | succ n =>
      by_cases hop : chT T (po T t) = 42 ∨ chT T (po T t) = 47
      · obtain ⟨c, kc, hc, hcd, hck⟩ : ∃ c kc, chT T (po T t) = c ∧ ((chT T (po T t) = 42 ∧ kc = 13) ∨ (chT T (po T t) = 47 ∧ kc = 14)) ∧ (kc, c) ∈ kcT ∧ sgh c = 2 := by
          rcases hop with e | e
          · exact ⟨42, 13, e, Or.inl ⟨e, rfl⟩, by decide, by decide⟩
          · exact ⟨47, 14, e, Or.inr ⟨e, rfl⟩, by decide, by decide⟩
        have htk : t < k := (tk_lt K g4).mpr (by
          by_cases z : po T t < T.length
          · exact z
          · rw [chT_n (by omega)] at hop; omega)
        have k20 := K.2.2.1
        obtain ⟨m, rfl⟩ : ∃ m0, m = m0 + 1 := ⟨m - 1, by have := hb t; omega⟩
        -- the reference
        obtain ⟨S1, a1, a2, a3⟩ := q278o H htk L P hc hck.2 (Or.inr rfl) hd hQ
        have hR : r271_12 (m + 1) (Int32.ofNat o) (Int32.ofNat id) 1 S = r271_12 m (Int32.ofNat o) (Int32.ofNat id) 0 S1 := by
          rw [r271_12]
          dsimp only
          rw [if_neg (by decide), if_neg (by decide), if_neg (show ¬ S.1 25 = -1 by rw [L.2.2.1]; exact fun z => by have := (cd_m1 K).mp z; have := K.2.2.2.2 t htk; omega)]
          unfold r271_28
          rw [if_neg (by decide), a1, rb_r]
          rfl
        -- the class
        obtain ⟨A1, h1, b1, b2, b3, b4⟩ := c141 R K s g4
        rw [show gn k t = t + 1 from if_pos htk] at b3
        have hX1 := RX_u R hX b4
        have l1 := hX1.2.2.2.2.2.1
        have R2 := c9n b2
        have s2 : RS T k (t + 1) (-1) r cc (ah_new A1 (ac_c pt0) 8) := RS_new b3 l1
        have u2 : RU A1 (ah_new A1 (ac_c pt0) 8) 1 := RU_new b2 l1 pt0
        have hX2 := RX_u b2 hX1 u2
        have hpo := po_1 H htk
        have e12 : (ah_new A1 (ac_c pt0) 8).1 A1.2.1 = ac_c pt0 := ah_new_e
        have hlen : h1.1.length = A1.2.1 := ar_len b2
        have hcl : l143_8 w X (n + 1) (some 83) (Int32.ofNat dp) (some q) (Int32.ofNat x3) h = lb_R (X (some 83) (Int32.ofNat dp) (lf_new h1 9 8 [.null, .null, .null, .long 0, .null, .null, .null, .null])) (fun v7 h8 => lb_V (ll_147 (some A1.2.1) (some kc) (some q) v7 h8) (fun h11 => l143_8 w X n (some 83) (Int32.ofNat dp) (some A1.2.1) (Int32.ofNat (x3 + 1)) h11)) := by
          rw [termO R K s g4 (by omega) hcd q]
          unfold l143_58 lb_h
          rw [if_pos (rr_lc R s), b1, rt_V]
          dsimp only
          rw [if_pos (rr_lc R2 s2), hlen, show Int32.ofNat x3 + (1 : Int32) = Int32.ofNat (x3 + 1) from i32_add x3 1]
        rw [hcl, hR]
        rcases hF (t + 1) 0 m (c :: Q) (ts ++ u' ++ z0 pd) _ _ S1 R2 s2 hX2 (by omega) (by omega) a2 a3 (Or.inr (by show sgh c < 3; omega)) (by omega) with hg | hbd
        · obtain ⟨q2, t2, u2', A3, h3, S3, c3, m3, f1, f2, f3, f4, f5, f6, f7, f8, f9, f10, f11, f12, f13⟩ := hg
          rw [List.replicate_zero, List.append_nil] at f13
          have e3 : A3.1 A1.2.1 = ac_c pt0 := st_c f7 R2 e12 (by intro z; cases z) (by simp; omega)
          obtain ⟨h4, p4, R4⟩ := c147 f2 e3 (by omega) (some kc) (some q) (some q2)
          have hpo2 := po_le K f4
          have hpo3 := po_s K f12 f5
          have hpo0 := po_s K g3 g4
          have RUt : RU A A3 (0 + 1 + c3) := RU_tr (RU_tr b4 u2) f7
          have pr1 := prt_set (y := ac_c (.inl (9, [tm_r (some kc), tm_r (some q), tm_r (some q2), .long 0, .null, .null, .null, .null]))) e3 _ _ _ (prt_u R RUt hp)
          have pr2 := prt_set (y := ac_c (.inl (9, [tm_r (some kc), tm_r (some q), tm_r (some q2), .long 0, .null, .null, .null, .null]))) e3 _ _ _ f6
          have RU4 : RU A (ah_set A3 A1.2.1 (ac_c (.inl (9, [tm_r (some kc), tm_r (some q), tm_r (some q2), .long 0, .null, .null, .null, .null])))) (0 + 1 + c3) := RU_set RUt (b4.1) e3
          have RU4' : RU A3 (ah_set A3 A1.2.1 (ac_c (.inl (9, [tm_r (some kc), tm_r (some q), tm_r (some q2), .long 0, .null, .null, .null, .null])))) 0 ∨ True := Or.inr trivial
          have prn : prt M (ah_set A3 A1.2.1 (ac_c (.inl (9, [tm_r (some kc), tm_r (some q), tm_r (some q2), .long 0, .null, .null, .null, .null])))) D (po T t2 - po T t0) A1.2.1 ((u' ++ z0 pd ++ u2') ++ z0 [c]) := by
            rw [show po T t2 - po T t0 = (po T t2 - po T t0 - 1) + 1 by omega]
            refine ⟨l1, Or.inr (Or.inr (Or.inr (Or.inr ⟨kc, c, q, q2, u' ++ z0 pd, u2', hck.1, ah_set_e, prt_mono _ _ _ _ (by omega) pr1, prt_mono _ _ _ _ (by omega) pr2, rfl⟩)))⟩
          have hX4 := RX_u R hX RU4
          have s4 := RS_set (y := ac_c (.inl (9, [tm_r (some kc), tm_r (some q), tm_r (some q2), .long 0, .null, .null, .null, .null]))) f3 (show 86 < A1.2.1 by omega)
          have P4 : PB id S0 (po T t2) ([c] ++ Q) (ts ++ (u' ++ z0 pd ++ u2')) S3 := by
            have := f13
            rw [show ts ++ u' ++ z0 pd ++ u2' = ts ++ (u' ++ z0 pd ++ u2') by simp] at this
            exact this
          have key := ih t2 t0 (x3 + 1) n A1.2.1 m3 (u' ++ z0 pd ++ u2') [c] _ h4 S3 (by omega) (by omega) (by omega) f5 (by omega) (by omega) R4 s4 hX4 prn f11 P4 (by intro y hy; simp at hy; subst hy; omega) f10
          rw [f1, rt_R, p4, rt_V, f9]
          rcases key with ⟨q5, t5, u5, A5, h5, S5, c5, m5, i1, i2, i3, i4, i5, i6, i7, i8, i9⟩ | ⟨q5, t5, f5', A5, h5, S5, c5, i1, i2, i3, i4, i5, i6, i7, i8, i9⟩
          · exact Or.inl ⟨q5, t5, u5, A5, h5, S5, _, m5, i1, i2, i3, by omega, i5, i6, RU_tr RU4 i7, by omega, i9⟩
          · exact Or.inr ⟨q5, t5, f5', A5, h5, S5, _, i1, i2, i3, i4, by omega, i6, RU_tr RU4 i7, by omega, i9⟩
        · obtain ⟨q2, t2, ff, A3, h3, S3, c3, f1, f2, f3, f4, f5, f6, f7, f8, f9, f10, f11⟩ := hbd
          have e3 : A3.1 A1.2.1 = ac_c pt0 := st_c f7 R2 e12 (by intro z; cases z) (by simp; omega)
          obtain ⟨h4, p4, R4⟩ := c147 f2 e3 (by omega) (some kc) (some q) (some q2)
          have RUt : RU A A3 (0 + 1 + c3) := RU_tr (RU_tr b4 u2) f7
          have RU4 := RU_set (z := .inl (9, [tm_r (some kc), tm_r (some q), tm_r (some q2), .long 0, .null, .null, .null, .null])) RUt (b4.1) e3
          have s4 := RS_set (y := ac_c (.inl (9, [tm_r (some kc), tm_r (some q), tm_r (some q2), .long 0, .null, .null, .null, .null]))) f3 (show 86 < A1.2.1 by omega)
          obtain ⟨n', rfl⟩ : ∃ n', n = n' + 1 := ⟨n - 1, by omega⟩
          rw [f1, rt_R, p4, rt_V, f9, termF R4 s4 (i32_nn (by omega)) A1.2.1 _]
          exact Or.inr ⟨A1.2.1, t2, ff, _, h4, S3, _, rfl, R4, s4, f4, by omega, f6, RU4, by omega, rfl, f10, f11⟩
      · exact Or.inl (exit t t0 x3 n q m u' pd A h S g3 g4 R s hp L P hd hm (by omega) (by omega))
theorem termP (H : HB T k o id S0 (xS X0) (xS X1)) (hF : FACp T k r cc o id S0 M D X0 X1 X dp) : TERMp T k r cc o id S0 M D X0 X1 (ll_143 w X) dp := by
  have K := H.1
  intro t m Q ts A h S R s hX ht hdp L P hQ hm
  have hl : ll_143 w X (some 83) (Int32.ofNat dp) h = lb_R (X (some 83) (Int32.ofNat dp) h) (fun v2 h3 => l143_8 w X lf_N (some 83) (Int32.ofNat dp) v2 (0 : Int32) h3) := by
    unfold ll_143
    rw [if_pos (rr_lc R s)]
  rw [hl]
  rcases hF t 0 m Q ts A h S R s hX ht hdp L P (by rcases hQ with z | z; exact Or.inl z; exact Or.inr (by omega)) hm with hg | hbd
  · obtain ⟨q2, t2, u2', A3, h3, S3, c3, m3, f1, f2, f3, f4, f5, f6, f7, f8, f9, f10, f11, f12, f13⟩ := hg
    rw [List.replicate_zero, List.append_nil] at f13
    rw [f1, rt_R, f9]
    have hpo2 := po_le K f4
    have k20 := K.2.2.1
    rcases termL (w := w) (ts := ts) H hF hQ (k - t2) t2 t 0 lf_N q2 m3 u2' [] A3 h3 S3 (Nat.le_refl _) (by unfold lf_N; omega) f12 f5 (by omega) (by omega) f2 f3 (RX_u R hX f7) (by simpa using f6) f11 (by simpa using f13) (by intro y hy; cases hy) f10 with ⟨q5, t5, u5, A5, h5, S5, c5, m5, i1, i2, i3, i4, i5, i6, i7, i8, i9⟩ | ⟨q5, t5, f5', A5, h5, S5, c5, i1, i2, i3, i4, i5, i6, i7, i8, i9⟩
    · exact Or.inl ⟨q5, t5, u5, A5, h5, S5, _, m5, i1, i2, i3, by omega, i5, i6, RU_tr f7 i7, by omega, i9⟩
    · exact Or.inr ⟨q5, t5, f5', A5, h5, S5, _, i1, i2, i3, i4, by omega, i6, RU_tr f7 i7, by omega, i9⟩
  · obtain ⟨q2, t2, ff, A3, h3, S3, c3, f1, f2, f3, f4, f5, f6, f7, f8, f9, f10, f11⟩ := hbd
    obtain ⟨n', hn⟩ : ∃ n', lf_N = n' + 1 := ⟨lf_N - 1, by unfold lf_N; omega⟩
    rw [f1, rt_R, f9, hn, termF f2 f3 (i32_nn (by omega)) q2 _]
    exact Or.inr ⟨q2, t2, ff, A3, h3, S3, c3, rfl, f2, f3, f4, f5, f6, f7, f8, rfl, f10, f11⟩
end TRM
