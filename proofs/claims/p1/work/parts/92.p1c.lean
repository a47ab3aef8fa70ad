/-! THE FIRST CALL: the other calls -/
section P1C
variable {w : Option Nat} {xs : List Int32} {a1 a2 a3 a4 : Int32}
theorem fx_280T (hx : fx_bad a1) (ci : Nat) : ll_280 (some 145) a1 a2 a3 (fx_T ci xs) = some (.inl (some (.inl (-1))), pt_hx 1 0 [.inl (ci, [])] 11711 xs) := by
  unfold ll_280
  rw [fx_237T hx]
  rfl
set_option maxRecDepth 8000 in
theorem fx_280 (ho : a1 = 0 ∨ a1 = 1 ∨ a1 = 2) (ci : Nat) : ll_280 (some 145) a1 a2 a3 (fx_T ci xs) = some (.inl (some (.inl (-1))), pt_hx 2 0 [.inl (ci, [])] 11711 xs) := by
  unfold ll_280
  rw [fx_237 ho]
  rw [fx_rI]
  rw [if_neg (by decide)]
  rw [if_pos (fx_c145 _ _ _ _ _), fx_239 (k := 0) (fx_cnt ho (Or.inl rfl) _ _ _ _ _)]
  rfl
theorem fx_300 (a c : Int32) (t : Int32) (q : Int64) (ex : List pm_C) (n : Nat) (hc : c < 0) : l300_15 lf_N (some 145) a c 0 0 (pt_hx t q ex n xs) = some (.inl (some (.inl 0)), pt_hx t q ex n xs) := by
  rw [show lf_N = 19999 + 1 from rfl, l300_15]
  dsimp only
  rw [if_neg (by decide), if_pos hc]
set_option maxRecDepth 8000 in
theorem fx_op5 : ∃ h3, pt_O w pt_cI 129 [.inr (.inr (some 81)), .inl a1, .inl a2, .inl a3, .inr (.inr (some 177))] 264 [.inr (.inr (some 145)), .inl a1, .inl a2, .inl a3] (pt_h0 xs) h3 ∧ fx_good xs h3 := by
  by_cases b1 : fx_bad a1
  · have e0 : ll_130 w (some 81) a1 a2 a3 (fx_H xs) = some (.inr 178, fx_T 14 xs) := by
      unfold ll_130
      rw [if_pos (fx_c81 xs), fx_81T b1]
      rfl
    have e1 : ll_129 w (some 81) a1 a2 a3 (some 177) (fx_H xs) = some (.inl (some (.inl 1)), fx_T 14 xs) := by
      unfold ll_129
      rw [if_pos (fx_c81 xs), e0]
      rfl
    have e2 : ll_264 (some 145) a1 a2 a3 (fx_T 14 xs) = some (.inl (some (.inl 0)), pt_hx 1 0 [.inl (14, [])] 11711 xs) := by
      unfold ll_264
      rw [fx_237T b1]
      rfl
    exact fx_mk (k := 1) (tx_l (by decide) (lq_129 e1)) (tx_l (by decide) (lq_264 e2)) (fx_cI (by decide))
  · have ho := fx_3 b1
    have e0 : ll_130 w (some 81) a1 a2 a3 (fx_H xs) = some (.inr 178, fx_T 16 xs) := by
      unfold ll_130
      rw [if_pos (fx_c81 xs), fx_81 ho]
      show ((lf_R (fx_H xs) (some (fx_O a1)) [4, 3]).bind _) = _
      rw [fx_ax ho]
      show ((la_R (fx_H xs) .aaload (some (fx_X a1)) 0).bind _) = _
      rw [fx_a0 ho]
      show lb_R (ll_84 (some (fx_A a1 0)) a2 (fx_H xs)) _ = _
      rw [fx_84 (fx_c5 ho (Or.inl rfl) xs) (fx_85 ho (Or.inl rfl) xs)]
      rfl
    have e1 : ll_129 w (some 81) a1 a2 a3 (some 177) (fx_H xs) = some (.inl (some (.inl 2)), fx_T 16 xs) := by
      unfold ll_129
      rw [if_pos (fx_c81 xs), e0]
      rfl
    have e2 : ll_264 (some 145) a1 a2 a3 (fx_T 16 xs) = some (.inl (some (.inl 0)), pt_hx 2 0 [.inl (16, [])] 11711 xs) := by
      unfold ll_264
      rw [fx_237 ho]
      rw [fx_rI]
      rw [if_neg (by decide)]
      rw [if_pos (fx_c145 _ _ _ _ _), fx_239 (k := 0) (fx_cnt ho (Or.inl rfl) _ _ _ _ _)]
      rfl
    exact fx_mk (k := 2) (tx_l (by decide) (lq_129 e1)) (tx_l (by decide) (lq_264 e2)) (fx_cI (by decide))
set_option maxRecDepth 8000 in
theorem fx_op12 : ∃ h3, pt_O w pt_cI 184 [.inr (.inr (some 81)), .inl a1, .inl a2, .inl a3, .inr (.inr (some 177))] 279 [.inr (.inr (some 145)), .inl a1, .inl a2, .inl a3] (pt_h0 xs) h3 ∧ fx_good xs h3 := by
  by_cases b1 : fx_bad a1
  · have e9 : ll_186 (some 81) a1 a2 a3 (fx_H xs) = some (.inr 178, fx_T 14 xs) := by
      unfold ll_186
      rw [if_pos (fx_c81 xs), fx_81T b1]
      rfl
    have e0 : ll_185 (some 81) a1 a2 a3 (fx_H xs) = some (.inr 178, fx_T 14 xs) := by
      unfold ll_185
      rw [if_pos (fx_c81 xs), e9]
      rfl
    have e1 : ll_184 (some 81) a1 a2 a3 (some 177) (fx_H xs) = some (.inl (some (.inl 1)), fx_T 14 xs) := by
      unfold ll_184
      rw [if_pos (fx_c81 xs), e0]
      rfl
    have e2 : ll_279 (some 145) a1 a2 a3 (fx_T 14 xs) = some (.inl (some (.inl 0)), pt_hx 1 0 [.inl (14, [])] 11711 xs) := by
      unfold ll_279
      rw [if_pos (fx_c145 _ _ _ _ _), fx_280T b1]
      rfl
    exact fx_mk (k := 1) (tx_l (by decide) (lq_184 e1)) (tx_l (by decide) (lq_279 e2)) (fx_cI (by decide))
  · have ho := fx_3 b1
    have e9 : ll_186 (some 81) a1 a2 a3 (fx_H xs) = some (.inr 178, fx_T 16 xs) := by
      unfold ll_186
      rw [if_pos (fx_c81 xs), fx_81 ho]
      show ((lf_R (fx_H xs) (some (fx_O a1)) [4, 3]).bind _) = _
      rw [fx_ax ho]
      show ((la_R (fx_H xs) .aaload (some (fx_X a1)) 0).bind _) = _
      rw [fx_a0 ho]
      show lb_R (ll_84 (some (fx_A a1 0)) a2 (fx_H xs)) _ = _
      rw [fx_84 (fx_c5 ho (Or.inl rfl) xs) (fx_85 ho (Or.inl rfl) xs)]
      rfl
    have e0 : ll_185 (some 81) a1 a2 a3 (fx_H xs) = some (.inr 178, fx_T 16 xs) := by
      unfold ll_185
      rw [if_pos (fx_c81 xs), e9]
      rfl
    have e1 : ll_184 (some 81) a1 a2 a3 (some 177) (fx_H xs) = some (.inl (some (.inl 2)), fx_T 16 xs) := by
      unfold ll_184
      rw [if_pos (fx_c81 xs), e0]
      rfl
    have e2 : ll_279 (some 145) a1 a2 a3 (fx_T 16 xs) = some (.inl (some (.inl 0)), pt_hx 2 0 [.inl (16, [])] 11711 xs) := by
      unfold ll_279
      rw [if_pos (fx_c145 _ _ _ _ _), fx_280 ho]
      rfl
    exact fx_mk (k := 2) (tx_l (by decide) (lq_184 e1)) (tx_l (by decide) (lq_279 e2)) (fx_cI (by decide))
set_option maxRecDepth 8000 in
theorem fx_op13 : ∃ h3, pt_O w pt_cI 208 [.inr (.inr (some 81)), .inl a1, .inl a2, .inl a3, .inr (.inr (some 177))] 299 [.inr (.inr (some 145)), .inl a1, .inl a2, .inl a3] (pt_h0 xs) h3 ∧ fx_good xs h3 := by
  by_cases b1 : fx_bad a1
  · have e9 : ll_186 (some 81) a1 a2 a3 (fx_H xs) = some (.inr 178, fx_T 14 xs) := by
      unfold ll_186
      rw [if_pos (fx_c81 xs), fx_81T b1]
      rfl
    have e0 : ll_209 (some 81) a1 a2 a3 (fx_H xs) = some (.inr 178, fx_T 14 xs) := by
      unfold ll_209
      rw [if_pos (fx_c81 xs), e9]
      rfl
    have e1 : ll_208 (some 81) a1 a2 a3 (some 177) (fx_H xs) = some (.inl (some (.inl 1)), fx_T 14 xs) := by
      unfold ll_208
      rw [if_pos (fx_c81 xs), e0]
      rfl
    have e2 : ll_299 (some 145) a1 a2 a3 (fx_T 14 xs) = some (.inl (some (.inl 0)), pt_hx 1 0 [.inl (14, [])] 11711 xs) := by
      unfold ll_299
      rw [if_pos (fx_c145 _ _ _ _ _), fx_280T b1]
      rfl
    exact fx_mk (k := 1) (tx_l (by decide) (lq_208 e1)) (tx_l (by decide) (lq_299 e2)) (fx_cI (by decide))
  · have ho := fx_3 b1
    have e9 : ll_186 (some 81) a1 a2 a3 (fx_H xs) = some (.inr 178, fx_T 16 xs) := by
      unfold ll_186
      rw [if_pos (fx_c81 xs), fx_81 ho]
      show ((lf_R (fx_H xs) (some (fx_O a1)) [4, 3]).bind _) = _
      rw [fx_ax ho]
      show ((la_R (fx_H xs) .aaload (some (fx_X a1)) 0).bind _) = _
      rw [fx_a0 ho]
      show lb_R (ll_84 (some (fx_A a1 0)) a2 (fx_H xs)) _ = _
      rw [fx_84 (fx_c5 ho (Or.inl rfl) xs) (fx_85 ho (Or.inl rfl) xs)]
      rfl
    have e0 : ll_209 (some 81) a1 a2 a3 (fx_H xs) = some (.inr 178, fx_T 16 xs) := by
      unfold ll_209
      rw [if_pos (fx_c81 xs), e9]
      rfl
    have e1 : ll_208 (some 81) a1 a2 a3 (some 177) (fx_H xs) = some (.inl (some (.inl 2)), fx_T 16 xs) := by
      unfold ll_208
      rw [if_pos (fx_c81 xs), e0]
      rfl
    have e2 : ll_299 (some 145) a1 a2 a3 (fx_T 16 xs) = some (.inl (some (.inl 0)), pt_hx 2 0 [.inl (16, [])] 11711 xs) := by
      unfold ll_299
      rw [if_pos (fx_c145 _ _ _ _ _), fx_280 ho]
      rfl
    exact fx_mk (k := 2) (tx_l (by decide) (lq_208 e1)) (tx_l (by decide) (lq_299 e2)) (fx_cI (by decide))
set_option maxRecDepth 8000 in
theorem fx_op14 : ∃ h3, pt_O w pt_cI 211 [.inr (.inr (some 81)), .inl a1, .inl a2, .inl a3, .inr (.inr (some 177))] 300 [.inr (.inr (some 145)), .inl a1, .inl a2, .inl a3] (pt_h0 xs) h3 ∧ fx_good xs h3 := by
  by_cases b1 : fx_bad a1
  · have e0 : ll_212 (some 81) a1 a2 a3 (fx_H xs) = some (.inr 178, fx_T 14 xs) := by
      unfold ll_212
      rw [if_pos (fx_c81 xs), fx_81T b1]
      rfl
    have e1 : ll_211 (some 81) a1 a2 a3 (some 177) (fx_H xs) = some (.inl (some (.inl 1)), fx_T 14 xs) := by
      unfold ll_211
      rw [if_pos (fx_c81 xs), e0]
      rfl
    have e2 : ll_300 (some 145) a1 a2 a3 (fx_T 14 xs) = some (.inl (some (.inl 0)), pt_hx 1 0 [.inl (14, [])] 11711 xs) := by
      unfold ll_300
      rw [if_pos (fx_c145 _ _ _ _ _), fx_280T b1]
      show l300_15 lf_N (some 145) a1 (-1) 0 0 _ = _
      rw [fx_300 _ _ _ _ _ _ (by decide)]
    exact fx_mk (k := 1) (tx_l (by decide) (lq_211 e1)) (tx_l (by decide) (lq_300 e2)) (fx_cI (by decide))
  · have ho := fx_3 b1
    have e0 : ll_212 (some 81) a1 a2 a3 (fx_H xs) = some (.inr 178, fx_T 16 xs) := by
      unfold ll_212
      rw [if_pos (fx_c81 xs), fx_81 ho]
      show ((lf_R (fx_H xs) (some (fx_O a1)) [4, 3]).bind _) = _
      rw [fx_ax ho]
      show ((la_R (fx_H xs) .aaload (some (fx_X a1)) 0).bind _) = _
      rw [fx_a0 ho]
      show lb_R (ll_84 (some (fx_A a1 0)) a2 (fx_H xs)) _ = _
      rw [fx_84 (fx_c5 ho (Or.inl rfl) xs) (fx_85 ho (Or.inl rfl) xs)]
      rfl
    have e1 : ll_211 (some 81) a1 a2 a3 (some 177) (fx_H xs) = some (.inl (some (.inl 2)), fx_T 16 xs) := by
      unfold ll_211
      rw [if_pos (fx_c81 xs), e0]
      rfl
    have e2 : ll_300 (some 145) a1 a2 a3 (fx_T 16 xs) = some (.inl (some (.inl 0)), pt_hx 2 0 [.inl (16, [])] 11711 xs) := by
      unfold ll_300
      rw [if_pos (fx_c145 _ _ _ _ _), fx_280 ho]
      show l300_15 lf_N (some 145) a1 (-1) 0 0 _ = _
      rw [fx_300 _ _ _ _ _ _ (by decide)]
    exact fx_mk (k := 2) (tx_l (by decide) (lq_211 e1)) (tx_l (by decide) (lq_300 e2)) (fx_cI (by decide))
set_option maxRecDepth 8000 in
theorem fx_op15 : ∃ h3, pt_O w pt_cI 216 [.inr (.inr (some 81)), .inl a1, .inl a2, .inl a3, .inr (.inr (some 177))] 302 [.inr (.inr (some 145)), .inl a1, .inl a2, .inl a3] (pt_h0 xs) h3 ∧ fx_good xs h3 := by
  by_cases b1 : fx_bad a1
  · have e0 : ll_217 w (some 81) a1 a2 a3 (fx_H xs) = some (.inr 178, fx_T 14 xs) := by
      unfold ll_217
      rw [if_pos (fx_c81 xs), fx_81T b1]
      rfl
    have e1 : ll_216 w (some 81) a1 a2 a3 (some 177) (fx_H xs) = some (.inl (some (.inl 1)), fx_T 14 xs) := by
      unfold ll_216
      rw [if_pos (fx_c81 xs), e0]
      rfl
    have e2 : ll_302 (some 145) a1 a2 a3 (fx_T 14 xs) = some (.inl (some (.inl 0)), pt_hx 1 0 [.inl (14, [])] 11711 xs) := by
      unfold ll_302
      rw [if_pos (fx_c145 _ _ _ _ _), fx_280T b1]
      rfl
    exact fx_mk (k := 1) (tx_l (by decide) (lq_216 e1)) (tx_l (by decide) (lq_302 e2)) (fx_cI (by decide))
  · have ho := fx_3 b1
    have e0 : ll_217 w (some 81) a1 a2 a3 (fx_H xs) = some (.inr 178, fx_T 16 xs) := by
      unfold ll_217
      rw [if_pos (fx_c81 xs), fx_81 ho]
      show ((lf_R (fx_H xs) (some (fx_O a1)) [4, 3]).bind _) = _
      rw [fx_ax ho]
      show ((la_R (fx_H xs) .aaload (some (fx_X a1)) 0).bind _) = _
      rw [fx_a0 ho]
      show lb_R (ll_84 (some (fx_A a1 0)) a2 (fx_H xs)) _ = _
      rw [fx_84 (fx_c5 ho (Or.inl rfl) xs) (fx_85 ho (Or.inl rfl) xs)]
      rfl
    have e1 : ll_216 w (some 81) a1 a2 a3 (some 177) (fx_H xs) = some (.inl (some (.inl 2)), fx_T 16 xs) := by
      unfold ll_216
      rw [if_pos (fx_c81 xs), e0]
      rfl
    have e2 : ll_302 (some 145) a1 a2 a3 (fx_T 16 xs) = some (.inl (some (.inl 0)), pt_hx 2 0 [.inl (16, [])] 11711 xs) := by
      unfold ll_302
      rw [if_pos (fx_c145 _ _ _ _ _), fx_280 ho]
      rfl
    exact fx_mk (k := 2) (tx_l (by decide) (lq_216 e1)) (tx_l (by decide) (lq_302 e2)) (fx_cI (by decide))
set_option maxRecDepth 8000 in
theorem fx_op6 : ∃ h3, pt_O w pt_cB 161 [.inr (.inr (some 81)), .inl a1, .inr (.inr (some 177))] 253 [.inr (.inr (some 145)), .inl a1] (pt_h0 xs) h3 ∧ fx_good xs h3 := by
  by_cases b1 : fx_bad a1
  · have e0 : ll_162 w (some 81) a1 (fx_H xs) = some (.inr 178, fx_T 14 xs) := by
      unfold ll_162
      rw [if_pos (fx_c81 xs), fx_81T b1]
      rfl
    have e1 : ll_161 w (some 81) a1 (some 177) (fx_H xs) = some (.inl (some (.inl 1)), fx_T 14 xs) := by
      unfold ll_161
      rw [if_pos (fx_c81 xs), e0]
      rfl
    have e2 : ll_253 (some 145) a1 (fx_T 14 xs) = some (.inl (some (.inl 0)), pt_hx 1 0 [.inl (14, [])] 11711 xs) := by
      unfold ll_253
      rw [fx_237T b1]
      rfl
    exact fx_mk (k := 1) (tx_l (by decide) (lq_161 e1)) (tx_l (by decide) (lq_253 e2)) (fx_cB (by decide))
  · have ho := fx_3 b1
    have e0 : ll_162 w (some 81) a1 (fx_H xs) = some (.inr 178, fx_T 17 xs) := by
      unfold ll_162
      rw [if_pos (fx_c81 xs), fx_81 ho]
      show (if lc_of (fx_H xs) (some (fx_O a1)) = some 4 then _ else _) = _
      rw [if_pos (fx_c4 ho xs), fx_92 ho]
      rfl
    have e1 : ll_161 w (some 81) a1 (some 177) (fx_H xs) = some (.inl (some (.inl 2)), fx_T 17 xs) := by
      unfold ll_161
      rw [if_pos (fx_c81 xs), e0]
      rfl
    have e2 : ll_253 (some 145) a1 (fx_T 17 xs) = some (.inl (some (.inl 0)), pt_hx 2 0 [.inl (17, [])] 11711 xs) := by
      unfold ll_253
      rw [fx_237 ho]
      show ((la_I (fx_T 17 xs) .iaload (some 161) ((4 : Int32) * a1)).bind _) = _
      rw [fx_own ho]
      rfl
    exact fx_mk (k := 2) (tx_l (by decide) (lq_161 e1)) (tx_l (by decide) (lq_253 e2)) (fx_cB (by decide))
set_option maxRecDepth 8000 in
theorem fx_op7 : ∃ h3, pt_O w pt_cI 168 [.inr (.inr (some 81)), .inl a1, .inl a2, .inl a3, .inr (.inr (some 177))] 256 [.inr (.inr (some 145)), .inl a1, .inl a2, .inl a3] (pt_h0 xs) h3 ∧ fx_good xs h3 := by
  by_cases b1 : fx_bad a1
  · have e0 : ll_169 w (some 81) a1 a2 a3 (fx_H xs) = some (.inr 178, fx_T 14 xs) := by
      unfold ll_169
      rw [if_pos (fx_c81 xs), fx_81T b1]
      rfl
    have e1 : ll_168 w (some 81) a1 a2 a3 (some 177) (fx_H xs) = some (.inl (some (.inl 1)), fx_T 14 xs) := by
      unfold ll_168
      rw [if_pos (fx_c81 xs), e0]
      rfl
    have e2 : ll_256 (some 145) a1 a2 a3 (fx_T 14 xs) = some (.inl (some (.inl 0)), pt_hx 1 0 [.inl (14, [])] 11711 xs) := by
      unfold ll_256
      rw [fx_237T b1]
      rfl
    exact fx_mk (k := 1) (tx_l (by decide) (lq_168 e1)) (tx_l (by decide) (lq_256 e2)) (fx_cI (by decide))
  · have ho := fx_3 b1
    by_cases b2 : fx_bad a2
    · have e0 : ll_169 w (some 81) a1 a2 a3 (fx_H xs) = some (.inr 178, fx_T 14 xs) := by
        unfold ll_169
        rw [if_pos (fx_c81 xs), fx_81 ho]
        rw [fx_rR]
        rw [if_pos (fx_c81 xs), fx_81T b2]
        rfl
      have e1 : ll_168 w (some 81) a1 a2 a3 (some 177) (fx_H xs) = some (.inl (some (.inl 1)), fx_T 14 xs) := by
        unfold ll_168
        rw [if_pos (fx_c81 xs), e0]
        rfl
      have e2 : ll_256 (some 145) a1 a2 a3 (fx_T 14 xs) = some (.inl (some (.inl 0)), pt_hx 1 0 [.inl (14, [])] 11711 xs) := by
        unfold ll_256
        rw [fx_237 ho]
        show lb_I (ll_237 a2 _) _ = _
        rw [fx_237T b2]
        rfl
      exact fx_mk (k := 1) (tx_l (by decide) (lq_168 e1)) (tx_l (by decide) (lq_256 e2)) (fx_cI (by decide))
    · have ho2 := fx_3 b2
      have hle : ¬ a3 < 1 → ¬ a3 ≤ 0 := by
        intro h1 h2
        rw [Int32.lt_iff_toInt_lt] at h1
        rw [Int32.le_iff_toInt_le] at h2
        have e0 : (0 : Int32).toInt = 0 := rfl
        have e1 : (1 : Int32).toInt = 1 := rfl
        omega
      have hlt : ¬ a3 < 1 → (0 : Int32) < a3 := fun h1 => Int32.not_le.mp (hle h1)
      have e0 : ll_169 w (some 81) a1 a2 a3 (fx_H xs) = some (.inr 178, fx_T 14 xs) := by
        unfold ll_169
        rw [if_pos (fx_c81 xs), fx_81 ho]
        rw [fx_rR]
        rw [if_pos (fx_c81 xs), fx_81 ho2]
        show (if a1 = a2 then _ else _) = _
        by_cases c1 : a1 = a2
        · rw [if_pos c1]; rfl
        · rw [if_neg c1]
          by_cases c2 : a3 < 1
          · rw [if_pos c2]; rfl
          · rw [if_neg c2, if_pos (fx_c4 ho2 xs), fx_92 ho2]
            show (if a3 ≤ (0 : Int32) then _ else _) = _
            rw [if_neg (hle c2)]
            rfl
      have e1 : ll_168 w (some 81) a1 a2 a3 (some 177) (fx_H xs) = some (.inl (some (.inl 1)), fx_T 14 xs) := by
        unfold ll_168
        rw [if_pos (fx_c81 xs), e0]
        rfl
      have e2 : ll_256 (some 145) a1 a2 a3 (fx_T 14 xs) = some (.inl (some (.inl 0)), pt_hx 1 0 [.inl (14, [])] 11711 xs) := by
        unfold ll_256
        rw [fx_237 ho]
        show lb_I (ll_237 a2 _) _ = _
        rw [fx_237 ho2]
        show (if a1 = a2 then l256_23 (some 145) a1 a2 a3 (fx_T 14 xs) else l256_24 (some 145) a1 a2 a3 1 (fx_T 14 xs)) = _
        by_cases c1 : a1 = a2
        · rw [if_pos c1]; rfl
        · rw [if_neg c1]
          unfold l256_24
          rw [if_neg (by decide)]
          by_cases c2 : a3 < 1
          · rw [if_pos c2]; rfl
          · rw [if_neg c2]
            show ((la_I (fx_T 14 xs) .iaload (some 161) ((4 : Int32) * a2)).bind _) = _
            rw [fx_own ho2]
            show (if (0 : Int32) < a3 then _ else _) = _
            rw [if_pos (hlt c2)]
            rfl
      exact fx_mk (k := 1) (tx_l (by decide) (lq_168 e1)) (tx_l (by decide) (lq_256 e2)) (fx_cI (by decide))
set_option maxRecDepth 8000 in
theorem fx_op8 : ∃ h3, pt_O w pt_cI 174 [.inr (.inr (some 81)), .inl a1, .inl a2, .inr (.inr (some 177))] 258 [.inr (.inr (some 145)), .inl a1, .inl a2] (pt_h0 xs) h3 ∧ fx_good xs h3 := by
  by_cases b1 : fx_bad a1
  · have e0 : ll_175 (some 81) a1 a2 (fx_H xs) = some (.inr 178, fx_T 14 xs) := by
      unfold ll_175
      rw [if_pos (fx_c81 xs), fx_81T b1]
      rfl
    have e1 : ll_174 (some 81) a1 a2 (some 177) (fx_H xs) = some (.inl (some (.inl 1)), fx_T 14 xs) := by
      unfold ll_174
      rw [if_pos (fx_c81 xs), e0]
      rfl
    have e2 : ll_258 (some 145) a1 a2 (fx_T 14 xs) = some (.inl (some (.inl 0)), pt_hx 1 0 [.inl (14, [])] 11711 xs) := by
      unfold ll_258
      rw [fx_237T b1]
      rfl
    exact fx_mk (k := 1) (tx_l (by decide) (lq_174 e1)) (tx_l (by decide) (lq_258 e2)) (fx_cI (by decide))
  · have ho := fx_3 b1
    by_cases b2 : fx_bad a2
    · have e0 : ll_175 (some 81) a1 a2 (fx_H xs) = some (.inr 178, fx_T 14 xs) := by
        unfold ll_175
        rw [if_pos (fx_c81 xs), fx_81 ho]
        show ((lf_R (fx_H xs) (some (fx_O a1)) [4, 1]).bind _) = _
        rw [fx_kn ho]
        rw [Option.bind_some]
        rw [if_pos (fx_c81 xs), fx_81T b2]
        rfl
      have e1 : ll_174 (some 81) a1 a2 (some 177) (fx_H xs) = some (.inl (some (.inl 1)), fx_T 14 xs) := by
        unfold ll_174
        rw [if_pos (fx_c81 xs), e0]
        rfl
      have e2 : ll_258 (some 145) a1 a2 (fx_T 14 xs) = some (.inl (some (.inl 0)), pt_hx 1 0 [.inl (14, [])] 11711 xs) := by
        unfold ll_258
        rw [fx_237 ho]
        show lb_I (ll_237 a2 _) _ = _
        rw [fx_237T b2]
        rfl
      exact fx_mk (k := 1) (tx_l (by decide) (lq_174 e1)) (tx_l (by decide) (lq_258 e2)) (fx_cI (by decide))
    · have ho2 := fx_3 b2
      have e1 : ll_174 (some 81) a1 a2 (some 177) (fx_H xs) = some (.inl (some (.inl 0)), fx_H xs) := by
        rcases ho with rfl | rfl | rfl <;> rcases ho2 with rfl | rfl | rfl <;> rfl
      have e2 : ll_258 (some 145) a1 a2 (fx_H xs) = some (.inl (some (.inl 0)), fx_H xs) := by
        rcases ho with rfl | rfl | rfl <;> rcases ho2 with rfl | rfl | rfl <;> rfl
      exact fx_mk0 (tx_l (by decide) (lq_174 e1)) (tx_l (by decide) (lq_258 e2))
set_option maxRecDepth 8000 in
theorem fx_op10 : ∃ h3, pt_O w pt_cI 180 [.inr (.inr (some 81)), .inl a1, .inl a2, .inr (.inr (some 177))] 260 [.inr (.inr (some 145)), .inl a1, .inl a2] (pt_h0 xs) h3 ∧ fx_good xs h3 := by
  by_cases b1 : fx_bad a1
  · have e0 : ll_181 (some 81) a1 a2 (fx_H xs) = some (.inr 178, fx_T 14 xs) := by
      unfold ll_181
      rw [if_pos (fx_c81 xs), fx_81T b1]
      rfl
    have e1 : ll_180 (some 81) a1 a2 (some 177) (fx_H xs) = some (.inl (some (.inl 1)), fx_T 14 xs) := by
      unfold ll_180
      rw [if_pos (fx_c81 xs), e0]
      rfl
    have e2 : ll_260 (some 145) a1 a2 (fx_T 14 xs) = some (.inl (some (.inl 0)), pt_hx 1 0 [.inl (14, [])] 11711 xs) := by
      unfold ll_260
      rw [fx_237T b1]
      rfl
    exact fx_mk (k := 1) (tx_l (by decide) (lq_180 e1)) (tx_l (by decide) (lq_260 e2)) (fx_cI (by decide))
  · have ho := fx_3 b1
    by_cases b2 : fx_badk a2
    · have e0 : ll_181 (some 81) a1 a2 (fx_H xs) = some (.inr 178, fx_T 14 xs) := by
        unfold ll_181
        rw [if_pos (fx_c81 xs), fx_81 ho]
        show lb_R (ll_82 _ a2 _) _ = _
        rw [fx_82T b2]
        rfl
      have e1 : ll_180 (some 81) a1 a2 (some 177) (fx_H xs) = some (.inl (some (.inl 1)), fx_T 14 xs) := by
        unfold ll_180
        rw [if_pos (fx_c81 xs), e0]
        rfl
      have e2 : ll_260 (some 145) a1 a2 (fx_T 14 xs) = some (.inl (some (.inl 0)), pt_hx 1 0 [.inl (14, [])] 11711 xs) := by
        unfold ll_260
        rw [fx_237 ho]
        show lb_I (ll_238 a2 _) _ = _
        rw [fx_238T b2]
        rfl
      exact fx_mk (k := 1) (tx_l (by decide) (lq_180 e1)) (tx_l (by decide) (lq_260 e2)) (fx_cI (by decide))
    · have hk := fx_2 b2
      have e1 : ll_180 (some 81) a1 a2 (some 177) (fx_H xs) = some (.inl (some (.inl 0)), fx_H xs) := by
        rcases ho with rfl | rfl | rfl <;> rcases hk with rfl | rfl <;> rfl
      have e2 : ll_260 (some 145) a1 a2 (fx_H xs) = some (.inl (some (.inl 0)), fx_H xs) := by
        rcases ho with rfl | rfl | rfl <;> rcases hk with rfl | rfl <;> rfl
      exact fx_mk0 (tx_l (by decide) (lq_180 e1)) (tx_l (by decide) (lq_260 e2))
set_option maxRecDepth 8000 in
theorem fx_op11 : ∃ h3, pt_O w pt_cI 182 [.inr (.inr (some 81)), .inl a1, .inl a2, .inl a3, .inr (.inr (some 177))] 261 [.inr (.inr (some 145)), .inl a1, .inl a2, .inl a3] (pt_h0 xs) h3 ∧ fx_good xs h3 := by
  by_cases b1 : fx_bad a1
  · have e0 : ll_183 (some 81) a1 a2 a3 (fx_H xs) = some (.inr 178, fx_T 14 xs) := by
      unfold ll_183
      rw [if_pos (fx_c81 xs), fx_81T b1]
      rfl
    have e1 : ll_182 (some 81) a1 a2 a3 (some 177) (fx_H xs) = some (.inl (some (.inl 1)), fx_T 14 xs) := by
      unfold ll_182
      rw [if_pos (fx_c81 xs), e0]
      rfl
    have e2 : ll_261 (some 145) a1 a2 a3 (fx_T 14 xs) = some (.inl (some (.inl 0)), pt_hx 1 0 [.inl (14, [])] 11711 xs) := by
      unfold ll_261
      rw [fx_237T b1]
      rfl
    exact fx_mk (k := 1) (tx_l (by decide) (lq_182 e1)) (tx_l (by decide) (lq_261 e2)) (fx_cI (by decide))
  · have ho := fx_3 b1
    by_cases b2 : fx_badk a2
    · have e0 : ll_183 (some 81) a1 a2 a3 (fx_H xs) = some (.inr 178, fx_T 14 xs) := by
        unfold ll_183
        rw [if_pos (fx_c81 xs), fx_81 ho]
        show lb_R (ll_82 _ a2 _) _ = _
        rw [fx_82T b2]
        rfl
      have e1 : ll_182 (some 81) a1 a2 a3 (some 177) (fx_H xs) = some (.inl (some (.inl 1)), fx_T 14 xs) := by
        unfold ll_182
        rw [if_pos (fx_c81 xs), e0]
        rfl
      have e2 : ll_261 (some 145) a1 a2 a3 (fx_T 14 xs) = some (.inl (some (.inl 0)), pt_hx 1 0 [.inl (14, [])] 11711 xs) := by
        unfold ll_261
        rw [fx_237 ho]
        show lb_I (ll_238 a2 _) _ = _
        rw [fx_238T b2]
        rfl
      exact fx_mk (k := 1) (tx_l (by decide) (lq_182 e1)) (tx_l (by decide) (lq_261 e2)) (fx_cI (by decide))
    · have hk := fx_2 b2
      have e0 : ll_183 (some 81) a1 a2 a3 (fx_H xs) = some (.inr 178, fx_T 16 xs) := by
        unfold ll_183
        rw [if_pos (fx_c81 xs), fx_81 ho]
        show lb_R (ll_82 _ a2 _) _ = _
        rw [fx_82 ho hk]
        show lb_R (ll_84 _ a3 _) _ = _
        rw [fx_84 (fx_c5 ho hk xs) (fx_85 ho hk xs)]
        rfl
      have e1 : ll_182 (some 81) a1 a2 a3 (some 177) (fx_H xs) = some (.inl (some (.inl 2)), fx_T 16 xs) := by
        unfold ll_182
        rw [if_pos (fx_c81 xs), e0]
        rfl
      have e2 : ll_261 (some 145) a1 a2 a3 (fx_T 16 xs) = some (.inl (some (.inl 0)), pt_hx 2 0 [.inl (16, [])] 11711 xs) := by
        unfold ll_261
        rw [fx_237 ho]
        show lb_I (ll_238 a2 _) _ = _
        rw [fx_238 hk]
        rw [fx_rI]
        rw [if_neg (by decide)]
        rw [if_pos (fx_c145 _ _ _ _ _), fx_239 (fx_cnt ho hk _ _ _ _ _)]
        rfl
      exact fx_mk (k := 2) (tx_l (by decide) (lq_182 e1)) (tx_l (by decide) (lq_261 e2)) (fx_cI (by decide))
set_option maxRecDepth 8000 in
theorem fx_op9 (b1 : fx_bad a1) : ∃ h3, pt_O w pt_cI 176 [.inr (.inr (some 81)), .inl a1, .inr (.inr (some 177))] 259 [.inr (.inr (some 145)), .inl a1] (pt_h0 xs) h3 ∧ fx_good xs h3 := by
  have e0 : ll_177 (some 81) a1 (fx_H xs) = some (.inr 178, fx_T 14 xs) := by
    unfold ll_177
    rw [if_pos (fx_c81 xs), fx_81T b1]
    rfl
  have e1 : ll_176 (some 81) a1 (some 177) (fx_H xs) = some (.inl (some (.inl 1)), fx_T 14 xs) := by
    unfold ll_176
    rw [if_pos (fx_c81 xs), e0]
    rfl
  have e2 : ll_259 (some 145) a1 (fx_T 14 xs) = some (.inl (some (.inl 0)), pt_hx 1 0 [.inl (14, [])] 11711 xs) := by
    unfold ll_259
    rw [fx_237T b1]
    show l259_20 lf_N (some 145) a1 0 0 (pt_hx 1 0 [.inl (14, [])] 11711 xs) = _
    rw [show lf_N = 19999 + 1 from rfl, l259_20]
    rfl
  exact fx_mk (k := 1) (tx_l (by decide) (lq_176 e1)) (tx_l (by decide) (lq_259 e2)) (fx_cI (by decide))
set_option maxRecDepth 8000 in
theorem fx_op16 : ∃ h3, pt_O w pt_cI 232 [.inr (.inr (some 81)), .inl a1, .inr (.inr (some 177))] 313 [.inr (.inr (some 145)), .inl a1] (pt_h0 xs) h3 ∧ fx_good xs h3 := by
  have e0 : ll_233 w (some 81) a1 (fx_H xs) = some (.inr 178, fx_T 16 xs) := by
    unfold ll_233
    by_cases h1 : a1 < 0
    · rw [if_pos h1]; rfl
    · rw [if_neg h1]
      show (if a1 < (0 : Int32) then _ else _) = _
      rw [if_neg h1]
      rfl
  have e1 : ll_232 w (some 81) a1 (some 177) (fx_H xs) = some (.inl (some (.inl 1)), fx_T 16 xs) := by
    unfold ll_232
    rw [if_pos (fx_c81 xs), e0]
    rfl
  have e2 : ll_313 (some 145) a1 (fx_T 16 xs) = some (.inl (some (.inl 0)), pt_hx 1 0 [.inl (16, [])] 11711 xs) := by
    unfold ll_313
    by_cases h1 : a1 < 0
    · rw [if_pos h1]; rfl
    · rw [if_neg h1]
      show (if a1 < (0 : Int32) then _ else _) = _
      rw [if_neg h1]
      rfl
  exact fx_mk (k := 1) (tx_l (by decide) (lq_232 e1)) (tx_l (by decide) (lq_313 e2)) (fx_cI (by decide))
end P1C
