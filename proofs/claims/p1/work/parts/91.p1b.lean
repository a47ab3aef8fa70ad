/-! THE FIRST CALL: what each call comes to on a new object -/
section P1B
variable {w : Option Nat} {xs : List Int32} {a1 a2 a3 a4 : Int32}
/-- both throw -/
theorem fx_mk {cmp : Int32 → Option tm_V → pm_H → Prop} {y1 y2 ci : Nat} {as1 as2 : List tm_V} {k : Int32} {b : Option tm_V} (e1 : tx_R w y1 as1 (fx_H xs) (.inl (some (.inl k)), fx_T ci xs)) (e2 : tx_R w y2 as2 (fx_T ci xs) (.inl b, pt_hx k 0 [.inl (ci, [])] 11711 xs)) (hc : cmp k b (pt_hx k 0 [.inl (ci, [])] 11711 xs)) : ∃ h3, pt_O w cmp y1 as1 y2 as2 (pt_h0 xs) h3 ∧ fx_good xs h3 :=
  ⟨pt_hx k 0 [.inl (ci, [])] 11711 xs, ⟨k, _, b, _, e1, rfl, rfl, e2, rfl, tx_l (D := 0) (by decide) (lq_235 (fx_235 k 0 [.inl (ci, [])] 11711 xs)), hc⟩, fx_goodT k 0 ci xs⟩
/-- both answer 0 -/
theorem fx_mk0 {y1 y2 : Nat} {as1 as2 : List tm_V} (e1 : tx_R w y1 as1 (fx_H xs) (.inl (some (.inl 0)), fx_H xs)) (e2 : tx_R w y2 as2 (fx_H xs) (.inl (some (.inl 0)), fx_H xs)) : ∃ h3, pt_O w pt_cI y1 as1 y2 as2 (pt_h0 xs) h3 ∧ fx_good xs h3 :=
  ⟨fx_H xs, ⟨0, _, some (.inl 0), _, e1, rfl, rfl, e2, rfl, tx_l (D := 0) (by decide) (lq_235 (fx_235 0 0 [] 11705 xs)), 0, rfl, fun _ => rfl⟩, fx_goodN 0 0 xs⟩
theorem fx_cI {k : Int32} {v : Int32} {h : pm_H} (hk : ¬ k = 0) : pt_cI k (some (.inl v)) h := ⟨v, rfl, fun e => absurd e hk⟩
theorem fx_cB {k : Int32} {v : Int32} {h : pm_H} (hk : ¬ k = 0) : pt_cB k (some (.inl v)) h := ⟨v, rfl, fun e => absurd e hk⟩
-- type
set_option maxRecDepth 8000 in
theorem fx_op0 {c : Int32} (hc : c < 32 ∨ ¬ c ≤ 126) : ∃ h3, pt_O w pt_cI 15 [.inr (.inr (some 81)), .inl c, .inr (.inr (some 177))] 262 [.inr (.inr (some 145)), .inl c] (pt_h0 xs) h3 ∧ fx_good xs h3 := by
  have e0 : ll_16 w (some 81) c (fx_H xs) = some (.inr 178, fx_T 14 xs) := by
    unfold ll_16
    by_cases h1 : c < 32
    · rw [if_pos h1]; rfl
    · rw [if_neg h1, if_neg (hc.resolve_left h1)]; rfl
  have e1 : ll_15 w (some 81) c (some 177) (fx_H xs) = some (.inl (some (.inl 1)), fx_T 14 xs) := by
    unfold ll_15
    rw [if_pos (fx_c81 xs), e0]
    rfl
  have e2 : ll_262 (some 145) c (fx_T 14 xs) = some (.inl (some (.inl 0)), pt_hx 1 0 [.inl (14, [])] 11711 xs) := by
    unfold ll_262
    by_cases h1 : c < 32
    · rw [if_pos h1]; rfl
    · rw [if_neg h1, if_neg (hc.resolve_left h1)]; rfl
  exact fx_mk (k := 1) (tx_l (by decide) (lq_15 e1)) (tx_l (by decide) (lq_262 e2)) (fx_cI (by decide))
-- cut
set_option maxRecDepth 8000 in
theorem fx_op1 (hc : ¬ a1 = 0) : ∃ h3, pt_O w pt_cV 42 [.inr (.inr (some 81)), .inl a1] 263 [.inr (.inr (some 145)), .inl a1] (pt_h0 xs) h3 ∧ fx_good xs h3 := by
  have hle : ¬ a1 < 0 → ¬ a1 ≤ 0 := by
    intro h1 h2
    rw [Int32.lt_iff_toInt_lt] at h1
    rw [Int32.le_iff_toInt_le] at h2
    exact hc (Int32.toInt_inj.mp (by omega))
  have e0 : ll_43 w (some 81) a1 (fx_H xs) = some (.inr 178, fx_T 14 xs) := by
    unfold ll_43
    by_cases h1 : a1 < 0
    · rw [if_pos h1]; rfl
    · rw [if_neg h1]
      show (if a1 ≤ (0 : Int32) then _ else _) = _
      rw [if_neg (hle h1)]
      rfl
  have e1 : ll_42 w (some 81) a1 (fx_H xs) = some (.inl (some (.inl 1)), fx_T 14 xs) := by
    unfold ll_42
    rw [if_pos (fx_c81 xs), e0]
    rfl
  have e2 : ll_263 (some 145) a1 (fx_T 14 xs) = some (.inl none, pt_hx 1 0 [.inl (14, [])] 11711 xs) := by
    unfold ll_263
    by_cases h1 : a1 < 0
    · rw [if_pos h1]; rfl
    · rw [if_neg h1]
      show (if a1 ≤ (0 : Int32) then _ else _) = _
      rw [if_neg (hle h1)]
      rfl
  exact fx_mk (k := 1) (tx_l (by decide) (lq_42 e1)) (tx_l (by decide) (lq_263 e2)) rfl
-- put
set_option maxRecDepth 8000 in
theorem fx_op2 (hc : fx_bad a1 ∨ fx_badk a2 ∨ ¬ a3 = -1) : ∃ h3, pt_O w pt_cI 79 [.inr (.inr (some 81)), .inl a1, .inl a2, .inl a3, .inr (.inr (some 177))] 236 [.inr (.inr (some 145)), .inl a1, .inl a2, .inl a3] (pt_h0 xs) h3 ∧ fx_good xs h3 := by
  by_cases b1 : fx_bad a1
  · have e0 : ll_80 w (some 81) a1 a2 a3 (fx_H xs) = some (.inr 178, fx_T 14 xs) := by
      unfold ll_80
      rw [if_pos (fx_c81 xs), fx_81T b1]
      rfl
    have e1 : ll_79 w (some 81) a1 a2 a3 (some 177) (fx_H xs) = some (.inl (some (.inl 1)), fx_T 14 xs) := by
      unfold ll_79
      rw [if_pos (fx_c81 xs), e0]
      rfl
    have e2 : ll_236 (some 145) a1 a2 a3 (fx_T 14 xs) = some (.inl (some (.inl 0)), pt_hx 1 0 [.inl (14, [])] 11711 xs) := by
      unfold ll_236
      rw [fx_237T b1]
      rfl
    exact fx_mk (k := 1) (tx_l (by decide) (lq_79 e1)) (tx_l (by decide) (lq_236 e2)) (fx_cI (by decide))
  · have ho := fx_3 b1
    by_cases b2 : fx_badk a2
    · have e0 : ll_80 w (some 81) a1 a2 a3 (fx_H xs) = some (.inr 178, fx_T 14 xs) := by
        unfold ll_80
        rw [if_pos (fx_c81 xs), fx_81 ho]
        show lb_R (ll_82 _ a2 _) _ = _
        rw [fx_82T b2]
        rfl
      have e1 : ll_79 w (some 81) a1 a2 a3 (some 177) (fx_H xs) = some (.inl (some (.inl 1)), fx_T 14 xs) := by
        unfold ll_79
        rw [if_pos (fx_c81 xs), e0]
        rfl
      have e2 : ll_236 (some 145) a1 a2 a3 (fx_T 14 xs) = some (.inl (some (.inl 0)), pt_hx 1 0 [.inl (14, [])] 11711 xs) := by
        unfold ll_236
        rw [fx_237 ho]
        show lb_I (ll_238 a2 _) _ = _
        rw [fx_238T b2]
        rfl
      exact fx_mk (k := 1) (tx_l (by decide) (lq_79 e1)) (tx_l (by decide) (lq_236 e2)) (fx_cI (by decide))
    · have hk := fx_2 b2
      have h3 : ¬ a3 = -1 := (hc.resolve_left b1).resolve_left b2
      have e0 : ll_80 w (some 81) a1 a2 a3 (fx_H xs) = some (.inr 178, fx_T 16 xs) := by
        unfold ll_80
        rw [if_pos (fx_c81 xs), fx_81 ho]
        show lb_R (ll_82 _ a2 _) _ = _
        rw [fx_82 ho hk]
        show lb_R (ll_83 _ a3 _) _ = _
        unfold ll_83
        rw [if_neg h3, fx_84 (fx_c5 ho hk xs) (fx_85 ho hk xs)]
        rfl
      have e1 : ll_79 w (some 81) a1 a2 a3 (some 177) (fx_H xs) = some (.inl (some (.inl 2)), fx_T 16 xs) := by
        unfold ll_79
        rw [if_pos (fx_c81 xs), e0]
        rfl
      have e2 : ll_236 (some 145) a1 a2 a3 (fx_T 16 xs) = some (.inl (some (.inl 0)), pt_hx 2 0 [.inl (16, [])] 11711 xs) := by
        unfold ll_236
        rw [fx_237 ho]
        show lb_I (ll_238 a2 _) _ = _
        rw [fx_238 hk]
        show l236_19 (some 145) a1 a2 a3 1 (fx_T 16 xs) = _
        unfold l236_19
        rw [if_neg (by decide), if_neg h3, if_pos (fx_c145 _ _ _ _ _), fx_239 (fx_cnt ho hk _ _ _ _ _)]
        rfl
      exact fx_mk (k := 2) (tx_l (by decide) (lq_79 e1)) (tx_l (by decide) (lq_236 e2)) (fx_cI (by decide))
-- move
set_option maxRecDepth 8000 in
theorem fx_op3 : ∃ h3, pt_O w pt_cV 123 [.inr (.inr (some 81)), .inl a1, .inl a2, .inl a3, .inl a4] 251 [.inr (.inr (some 145)), .inl a1, .inl a2, .inl a3, .inl a4] (pt_h0 xs) h3 ∧ fx_good xs h3 := by
  by_cases b1 : fx_bad a1
  · have e0 : ll_124 w (some 81) a1 a2 a3 a4 (fx_H xs) = some (.inr 178, fx_T 14 xs) := by
      unfold ll_124
      rw [if_pos (fx_c81 xs), fx_81T b1]
      rfl
    have e1 : ll_123 w (some 81) a1 a2 a3 a4 (fx_H xs) = some (.inl (some (.inl 1)), fx_T 14 xs) := by
      unfold ll_123
      rw [if_pos (fx_c81 xs), e0]
      rfl
    have e2 : ll_251 (some 145) a1 a2 a3 a4 (fx_T 14 xs) = some (.inl none, pt_hx 1 0 [.inl (14, [])] 11711 xs) := by
      unfold ll_251
      rw [fx_237T b1]
      rfl
    exact fx_mk (k := 1) (tx_l (by decide) (lq_123 e1)) (tx_l (by decide) (lq_251 e2)) rfl
  · have ho := fx_3 b1
    by_cases b2 : fx_badk a2
    · have e0 : ll_124 w (some 81) a1 a2 a3 a4 (fx_H xs) = some (.inr 178, fx_T 14 xs) := by
        unfold ll_124
        rw [if_pos (fx_c81 xs), fx_81 ho]
        show lb_R (ll_82 _ a2 _) _ = _
        rw [fx_82T b2]
        rfl
      have e1 : ll_123 w (some 81) a1 a2 a3 a4 (fx_H xs) = some (.inl (some (.inl 1)), fx_T 14 xs) := by
        unfold ll_123
        rw [if_pos (fx_c81 xs), e0]
        rfl
      have e2 : ll_251 (some 145) a1 a2 a3 a4 (fx_T 14 xs) = some (.inl none, pt_hx 1 0 [.inl (14, [])] 11711 xs) := by
        unfold ll_251
        rw [fx_237 ho]
        show lb_I (ll_238 a2 _) _ = _
        rw [fx_238T b2]
        rfl
      exact fx_mk (k := 1) (tx_l (by decide) (lq_123 e1)) (tx_l (by decide) (lq_251 e2)) rfl
    · have hk := fx_2 b2
      have e0 : ll_124 w (some 81) a1 a2 a3 a4 (fx_H xs) = some (.inr 178, fx_T 16 xs) := by
        unfold ll_124
        rw [if_pos (fx_c81 xs), fx_81 ho]
        show lb_R (ll_82 _ a2 _) _ = _
        rw [fx_82 ho hk]
        show lb_R (ll_84 _ a3 _) _ = _
        rw [fx_84 (fx_c5 ho hk xs) (fx_85 ho hk xs)]
        rfl
      have e1 : ll_123 w (some 81) a1 a2 a3 a4 (fx_H xs) = some (.inl (some (.inl 2)), fx_T 16 xs) := by
        unfold ll_123
        rw [if_pos (fx_c81 xs), e0]
        rfl
      have e2 : ll_251 (some 145) a1 a2 a3 a4 (fx_T 16 xs) = some (.inl none, pt_hx 2 0 [.inl (16, [])] 11711 xs) := by
        unfold ll_251
        rw [fx_237 ho]
        show lb_I (ll_238 a2 _) _ = _
        rw [fx_238 hk]
        show l251_19 (some 145) a1 a2 a3 a4 1 (fx_T 16 xs) = _
        unfold l251_19
        rw [if_neg (by decide), if_pos (fx_c145 _ _ _ _ _), fx_239 (fx_cnt ho hk _ _ _ _ _)]
        rfl
      exact fx_mk (k := 2) (tx_l (by decide) (lq_123 e1)) (tx_l (by decide) (lq_251 e2)) rfl
-- remove
set_option maxRecDepth 8000 in
theorem fx_op4 : ∃ h3, pt_O w pt_cV 126 [.inr (.inr (some 81)), .inl a1, .inl a2, .inl a3] 252 [.inr (.inr (some 145)), .inl a1, .inl a2, .inl a3] (pt_h0 xs) h3 ∧ fx_good xs h3 := by
  by_cases b1 : fx_bad a1
  · have e0 : ll_127 w (some 81) a1 a2 a3 (fx_H xs) = some (.inr 178, fx_T 14 xs) := by
      unfold ll_127
      rw [if_pos (fx_c81 xs), fx_81T b1]
      rfl
    have e1 : ll_126 w (some 81) a1 a2 a3 (fx_H xs) = some (.inl (some (.inl 1)), fx_T 14 xs) := by
      unfold ll_126
      rw [if_pos (fx_c81 xs), e0]
      rfl
    have e2 : ll_252 (some 145) a1 a2 a3 (fx_T 14 xs) = some (.inl none, pt_hx 1 0 [.inl (14, [])] 11711 xs) := by
      unfold ll_252
      rw [fx_237T b1]
      rfl
    exact fx_mk (k := 1) (tx_l (by decide) (lq_126 e1)) (tx_l (by decide) (lq_252 e2)) rfl
  · have ho := fx_3 b1
    by_cases b2 : fx_badk a2
    · have e0 : ll_127 w (some 81) a1 a2 a3 (fx_H xs) = some (.inr 178, fx_T 14 xs) := by
        unfold ll_127
        rw [if_pos (fx_c81 xs), fx_81 ho]
        show lb_R (ll_82 _ a2 _) _ = _
        rw [fx_82T b2]
        rfl
      have e1 : ll_126 w (some 81) a1 a2 a3 (fx_H xs) = some (.inl (some (.inl 1)), fx_T 14 xs) := by
        unfold ll_126
        rw [if_pos (fx_c81 xs), e0]
        rfl
      have e2 : ll_252 (some 145) a1 a2 a3 (fx_T 14 xs) = some (.inl none, pt_hx 1 0 [.inl (14, [])] 11711 xs) := by
        unfold ll_252
        rw [fx_237 ho]
        show lb_I (ll_238 a2 _) _ = _
        rw [fx_238T b2]
        rfl
      exact fx_mk (k := 1) (tx_l (by decide) (lq_126 e1)) (tx_l (by decide) (lq_252 e2)) rfl
    · have hk := fx_2 b2
      have e0 : ll_127 w (some 81) a1 a2 a3 (fx_H xs) = some (.inr 178, fx_T 16 xs) := by
        unfold ll_127
        rw [if_pos (fx_c81 xs), fx_81 ho]
        show lb_R (ll_82 _ a2 _) _ = _
        rw [fx_82 ho hk]
        show lb_R (ll_84 _ a3 _) _ = _
        rw [fx_84 (fx_c5 ho hk xs) (fx_85 ho hk xs)]
        rfl
      have e1 : ll_126 w (some 81) a1 a2 a3 (fx_H xs) = some (.inl (some (.inl 2)), fx_T 16 xs) := by
        unfold ll_126
        rw [if_pos (fx_c81 xs), e0]
        rfl
      have e2 : ll_252 (some 145) a1 a2 a3 (fx_T 16 xs) = some (.inl none, pt_hx 2 0 [.inl (16, [])] 11711 xs) := by
        unfold ll_252
        rw [fx_237 ho]
        show lb_I (ll_238 a2 _) _ = _
        rw [fx_238 hk]
        show l252_19 (some 145) a1 a2 a3 1 (fx_T 16 xs) = _
        unfold l252_19
        rw [if_neg (by decide), if_pos (fx_c145 _ _ _ _ _), fx_239 (fx_cnt ho hk _ _ _ _ _)]
        rfl
      exact fx_mk (k := 2) (tx_l (by decide) (lq_126 e1)) (tx_l (by decide) (lq_252 e2)) rfl
end P1B
