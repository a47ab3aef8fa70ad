/-! of the reference: 275, 274, 277, 276, 272, 278, 271, 265, 264, 283, 282, 285, 288, 287, 289, 290, 292, 291 -/
-- OfficeSheetModel.emit(III)V
set_option maxRecDepth 20000 in
def rf_275 (a1 : Int32) (a2 : Int32) (a3 : Int32) (S : rs_S) : Option (Unit × rs_S) := (rd_I S 13 a1).bind fun v1 => (wr_I S 14 (((20 : Int32) * a1) + v1) a2).bind fun S2 => (rd_I S2 13 a1).bind fun v3 => (wr_I S2 15 (((20 : Int32) * a1) + v3) a3).bind fun S4 => (rd_I S4 13 a1).bind fun v5 => (wr_I S4 13 a1 (v5 + (1 : Int32))).bind fun S6 => some ((), S6)
set_option maxRecDepth 20000 in
theorem rt_275 {h : pm_H} (hl : 177 ≤ h.1.length) {a1 : Int32} {a2 : Int32} {a3 : Int32} {S S' : rs_S} {v : Unit} (hr : rf_275 a1 a2 a3 S = some (v, S')) : ll_275 (some 145) a1 a2 a3 (rs_h S h) = some (.inl none, rs_h S' h) := by
  unfold rf_275 at hr
  unfold ll_275
  first | rw [rs_fR (k := 14) hl (by decide) rfl, Option.bind_some] | rw [Option.bind_some]
  first | rw [rs_fR (k := 13) hl (by decide) rfl, Option.bind_some] | rw [Option.bind_some]
  obtain ⟨v1, qv1, hr⟩ := Option.bind_eq_some_iff.mp hr
  first | rw [rs_rdI (k := 13) hl rfl rfl qv1, Option.bind_some] | rw [Option.bind_some]
  obtain ⟨S2, qS2, hr⟩ := Option.bind_eq_some_iff.mp hr
  first | rw [rs_wrI (k := 14) hl rfl rfl qS2, Option.bind_some] | rw [Option.bind_some]
  first | rw [rs_fR (k := 15) hl (by decide) rfl, Option.bind_some] | rw [Option.bind_some]
  first | rw [rs_fR (k := 13) hl (by decide) rfl, Option.bind_some] | rw [Option.bind_some]
  obtain ⟨v3, qv3, hr⟩ := Option.bind_eq_some_iff.mp hr
  first | rw [rs_rdI (k := 13) hl rfl rfl qv3, Option.bind_some] | rw [Option.bind_some]
  obtain ⟨S4, qS4, hr⟩ := Option.bind_eq_some_iff.mp hr
  first | rw [rs_wrI (k := 15) hl rfl rfl qS4, Option.bind_some] | rw [Option.bind_some]
  first | rw [rs_fR (k := 13) hl (by decide) rfl, Option.bind_some] | rw [Option.bind_some]
  obtain ⟨v5, qv5, hr⟩ := Option.bind_eq_some_iff.mp hr
  first | rw [rs_rdI (k := 13) hl rfl rfl qv5, Option.bind_some] | rw [Option.bind_some]
  obtain ⟨S6, qS6, hr⟩ := Option.bind_eq_some_iff.mp hr
  first | rw [rs_wrI (k := 13) hl rfl rfl qS6, Option.bind_some] | rw [Option.bind_some]
  cases hr
  rfl
-- OfficeSheetModel.block(II)Z
set_option maxRecDepth 20000 in
def rf_274 (a1 : Int32) (a2 : Int32) (S : rs_S) : Option (Int32 × rs_S) := rb (rf_266 a1 S) fun _ S2 => if (S2.1 25) = (40 : Int32) then rb (rf_266 a1 S2) fun _ S5 => if (S5.1 25) = (-3 : Int32) then rb (rf_266 a1 S5) fun _ S8 => if (S8.1 25) = (58 : Int32) then rb (rf_266 a1 S8) fun _ S11 => if (S11.1 25) = (-3 : Int32) then rb (rf_266 a1 S11) fun _ S14 => if (S14.1 25) = (41 : Int32) then rb (rf_275 a2 (S.1 25) ((S5.1 27) + ((16384 : Int32) * (S11.1 27))) S14) fun _ S17 => rb (rf_266 a1 S17) fun _ S20 => some ((1 : Int32), S20) else some ((0 : Int32), S14) else some ((0 : Int32), S11) else some ((0 : Int32), S8) else some ((0 : Int32), S5) else some ((0 : Int32), S2)
set_option maxRecDepth 20000 in
theorem rt_274 {h : pm_H} (hl : 177 ≤ h.1.length) {a1 : Int32} {a2 : Int32} {S S' : rs_S} {v : Int32} (hr : rf_274 a1 a2 S = some (v, S')) : ll_274 (some 145) a1 a2 (rs_h S h) = some (.inl (some (.inl v)), rs_h S' h) := by
  unfold rf_274 at hr
  unfold ll_274
  first | rw [rs_fI (k := 25) hl (by decide) rfl, Option.bind_some] | rw [Option.bind_some]
  obtain ⟨v1, S2, m3, hr⟩ := rb_s hr
  rw [if_pos (rs_lc hl)]
  rw [rt_266 hl m3, lb_V_r]
  first | rw [rs_fI (k := 25) hl (by decide) rfl, Option.bind_some] | rw [Option.bind_some]
  by_cases c26 : (S2.1 25) = (40 : Int32)
  · rw [if_pos c26] at hr ⊢
    obtain ⟨v4, S5, m6, hr⟩ := rb_s hr
    rw [if_pos (rs_lc hl)]
    rw [rt_266 hl m6, lb_V_r]
    first | rw [rs_fI (k := 27) hl (by decide) rfl, Option.bind_some] | rw [Option.bind_some]
    first | rw [rs_fI (k := 25) hl (by decide) rfl, Option.bind_some] | rw [Option.bind_some]
    by_cases c25 : (S5.1 25) = (-3 : Int32)
    · rw [if_pos c25] at hr ⊢
      obtain ⟨v7, S8, m9, hr⟩ := rb_s hr
      rw [if_pos (rs_lc hl)]
      rw [rt_266 hl m9, lb_V_r]
      first | rw [rs_fI (k := 25) hl (by decide) rfl, Option.bind_some] | rw [Option.bind_some]
      by_cases c24 : (S8.1 25) = (58 : Int32)
      · rw [if_pos c24] at hr ⊢
        obtain ⟨v10, S11, m12, hr⟩ := rb_s hr
        rw [if_pos (rs_lc hl)]
        rw [rt_266 hl m12, lb_V_r]
        first | rw [rs_fI (k := 27) hl (by decide) rfl, Option.bind_some] | rw [Option.bind_some]
        first | rw [rs_fI (k := 25) hl (by decide) rfl, Option.bind_some] | rw [Option.bind_some]
        by_cases c23 : (S11.1 25) = (-3 : Int32)
        · rw [if_pos c23] at hr ⊢
          obtain ⟨v13, S14, m15, hr⟩ := rb_s hr
          rw [if_pos (rs_lc hl)]
          rw [rt_266 hl m15, lb_V_r]
          first | rw [rs_fI (k := 25) hl (by decide) rfl, Option.bind_some] | rw [Option.bind_some]
          by_cases c22 : (S14.1 25) = (41 : Int32)
          · rw [if_pos c22] at hr ⊢
            obtain ⟨v16, S17, m18, hr⟩ := rb_s hr
            rw [if_pos (rs_lc hl)]
            rw [rt_275 hl m18, lb_V_r]
            obtain ⟨v19, S20, m21, hr⟩ := rb_s hr
            rw [if_pos (rs_lc hl)]
            rw [rt_266 hl m21, lb_V_r]
            cases hr
            rfl
          · rw [if_neg c22] at hr ⊢
            cases hr
            rfl
        · rw [if_neg c23] at hr ⊢
          cases hr
          rfl
      · rw [if_neg c24] at hr ⊢
        cases hr
        rfl
    · rw [if_neg c25] at hr ⊢
      cases hr
      rfl
  · rw [if_neg c26] at hr ⊢
    cases hr
    rfl
-- OfficeSheetModel.strength(I)I
set_option maxRecDepth 20000 in
def rf_277 (a0 : Int32) (S : rs_S) : Option (Int32 × rs_S) := if a0 = (43 : Int32) then some ((1 : Int32), S) else if a0 = (45 : Int32) then some ((1 : Int32), S) else if a0 = (42 : Int32) then some ((2 : Int32), S) else if a0 = (47 : Int32) then some ((2 : Int32), S) else if a0 = (126 : Int32) then some ((3 : Int32), S) else some ((0 : Int32), S)
set_option maxRecDepth 20000 in
theorem rt_277 {h : pm_H} (hl : 177 ≤ h.1.length) {a0 : Int32} {S S' : rs_S} {v : Int32} (hr : rf_277 a0 S = some (v, S')) : ll_277 a0 (rs_h S h) = some (.inl (some (.inl v)), rs_h S' h) := by
  unfold rf_277 at hr
  unfold ll_277
  by_cases c5 : a0 = (43 : Int32)
  · rw [if_pos c5] at hr ⊢
    cases hr
    rfl
  · rw [if_neg c5] at hr ⊢
    by_cases c4 : a0 = (45 : Int32)
    · rw [if_pos c4] at hr ⊢
      cases hr
      rfl
    · rw [if_neg c4] at hr ⊢
      by_cases c3 : a0 = (42 : Int32)
      · rw [if_pos c3] at hr ⊢
        cases hr
        rfl
      · rw [if_neg c3] at hr ⊢
        by_cases c2 : a0 = (47 : Int32)
        · rw [if_pos c2] at hr ⊢
          cases hr
          rfl
        · rw [if_neg c2] at hr ⊢
          by_cases c1 : a0 = (126 : Int32)
          · rw [if_pos c1] at hr ⊢
            cases hr
            rfl
          · rw [if_neg c1] at hr ⊢
            cases hr
            rfl
-- OfficeSheetModel.settle(II)V
set_option maxRecDepth 20000 in
def r276_0 : Nat → Int32 → Int32 → rs_S → Option (Unit × rs_S)
  | 0 => fun _ _ _ => none
  | n + 1 => fun x1 x2 S => if (S.1 29) ≤ (0 : Int32) then some ((), S) else (rd_I S 28 ((S.1 29) - (1 : Int32))).bind fun v1 => rb (rf_277 v1 S) fun v2 S3 => if v2 < x2 then some ((), S3) else rb_S (rs_setI S3 29 ((S3.1 29) - (1 : Int32))) fun S5 => (rd_I S5 28 (S5.1 29)).bind fun v6 => rb (rf_275 x1 v6 (0 : Int32) S5) fun _ S8 => r276_0 n x1 x2 S8
set_option maxRecDepth 20000 in
theorem r276_0_t {h : pm_H} (hl : 177 ≤ h.1.length) : ∀ (n : Nat) {x1 : Int32} {x2 : Int32} {S S' : rs_S} {v : Unit}, r276_0 n x1 x2 S = some (v, S') → l276_0 n (some 145) x1 x2 (rs_h S h) = some (.inl none, rs_h S' h) := by
  intro n
  induction n with
  | zero => intro x1 x2 S S' v hr; cases hr
  | succ n ih =>
    intro x1 x2 S S' v hr
    rw [r276_0] at hr
    rw [l276_0]
    try dsimp only at hr
    try dsimp only
    first | rw [rs_fI (k := 29) hl (by decide) rfl, Option.bind_some] | rw [Option.bind_some]
    by_cases c11 : (S.1 29) ≤ (0 : Int32)
    · rw [if_pos c11] at hr ⊢
      cases hr
      rfl
    · rw [if_neg c11] at hr ⊢
      first | rw [rs_fR (k := 28) hl (by decide) rfl, Option.bind_some] | rw [Option.bind_some]
      first | rw [rs_fI (k := 29) hl (by decide) rfl, Option.bind_some] | rw [Option.bind_some]
      obtain ⟨v1, qv1, hr⟩ := Option.bind_eq_some_iff.mp hr
      first | rw [rs_rdI (k := 28) hl rfl rfl qv1, Option.bind_some] | rw [Option.bind_some]
      obtain ⟨v2, S3, m4, hr⟩ := rb_s hr
      rw [rt_277 hl m4, lb_I_r]
      by_cases c10 : v2 < x2
      · rw [if_pos c10] at hr ⊢
        cases hr
        rfl
      · rw [if_neg c10] at hr ⊢
        first | rw [rs_fI (k := 29) hl (by decide) rfl, Option.bind_some] | rw [Option.bind_some]
        obtain ⟨S5, eS5, hr⟩ := rb_S_s hr
        rw [rs_pI (k := 29) hl (by decide) rfl, Option.bind_some, ← eS5]
        first | rw [rs_fR (k := 28) hl (by decide) rfl, Option.bind_some] | rw [Option.bind_some]
        first | rw [rs_fI (k := 29) hl (by decide) rfl, Option.bind_some] | rw [Option.bind_some]
        obtain ⟨v6, qv6, hr⟩ := Option.bind_eq_some_iff.mp hr
        first | rw [rs_rdI (k := 28) hl rfl rfl qv6, Option.bind_some] | rw [Option.bind_some]
        obtain ⟨v7, S8, m9, hr⟩ := rb_s hr
        rw [if_pos (rs_lc hl)]
        rw [rt_275 hl m9, lb_V_r]
        exact ih hr
set_option maxRecDepth 20000 in
def rf_276 (a1 : Int32) (a2 : Int32) (S : rs_S) : Option (Unit × rs_S) := r276_0 lf_N a1 a2 S
set_option maxRecDepth 20000 in
theorem rt_276 {h : pm_H} (hl : 177 ≤ h.1.length) {a1 : Int32} {a2 : Int32} {S S' : rs_S} {v : Unit} (hr : rf_276 a1 a2 S = some (v, S')) : ll_276 (some 145) a1 a2 (rs_h S h) = some (.inl none, rs_h S' h) := by
  unfold rf_276 at hr
  unfold ll_276
  exact r276_0_t hl lf_N hr
-- OfficeSheetModel.operand(II)I
set_option maxRecDepth 20000 in
def r272_53 (x1 : Int32) (s0 : Int32) (S : rs_S) : Option (Int32 × rs_S) := rb_S (rs_setI S 30 s0) fun S1 => rb (rf_266 x1 S1) fun _ S3 => some ((0 : Int32), S3)
set_option maxRecDepth 20000 in
theorem r272_53_t {h : pm_H} (hl : 177 ≤ h.1.length) {x1 : Int32} {s0 : Int32} {S S' : rs_S} {v : Int32} (hr : r272_53 x1 s0 S = some (v, S')) : l272_53 (some 145) x1 s0 (some 145) (rs_h S h) = some (.inl (some (.inl v)), rs_h S' h) := by
  unfold r272_53 at hr
  unfold l272_53
  obtain ⟨S1, eS1, hr⟩ := rb_S_s hr
  rw [rs_pI (k := 30) hl (by decide) rfl, Option.bind_some, ← eS1]
  obtain ⟨v2, S3, m4, hr⟩ := rb_s hr
  rw [if_pos (rs_lc hl)]
  rw [rt_266 hl m4, lb_V_r]
  cases hr
  rfl
set_option maxRecDepth 20000 in
def r272_30 (x1 : Int32) (x3 : Int32) (s0 : Int32) (S : rs_S) : Option (Int32 × rs_S) := rb (rf_273 s0 S) fun _ S2 => if x3 = (40 : Int32) then r272_53 x1 ((S2.1 30) + (1 : Int32)) S2 else r272_53 x1 (S2.1 30) S2
set_option maxRecDepth 20000 in
theorem r272_30_t {h : pm_H} (hl : 177 ≤ h.1.length) {x1 : Int32} {x3 : Int32} {s0 : Int32} {S S' : rs_S} {v : Int32} (hr : r272_30 x1 x3 s0 S = some (v, S')) : l272_30 (some 145) x1 x3 s0 (some 145) (rs_h S h) = some (.inl (some (.inl v)), rs_h S' h) := by
  unfold r272_30 at hr
  unfold l272_30
  obtain ⟨v1, S2, m3, hr⟩ := rb_s hr
  rw [if_pos (rs_lc hl)]
  rw [rt_273 hl m3, lb_V_r]
  by_cases c4 : x3 = (40 : Int32)
  · rw [if_pos c4] at hr ⊢
    first | rw [rs_fI (k := 30) hl (by decide) rfl, Option.bind_some] | rw [Option.bind_some]
    exact r272_53_t hl hr
  · rw [if_neg c4] at hr ⊢
    first | rw [rs_fI (k := 30) hl (by decide) rfl, Option.bind_some] | rw [Option.bind_some]
    exact r272_53_t hl hr
set_option maxRecDepth 20000 in
def r272_17 (x1 : Int32) (x3 : Int32) (S : rs_S) : Option (Int32 × rs_S) := if x3 = (45 : Int32) then r272_30 x1 x3 (126 : Int32) S else r272_30 x1 x3 x3 S
set_option maxRecDepth 20000 in
theorem r272_17_t {h : pm_H} (hl : 177 ≤ h.1.length) {x1 : Int32} {x3 : Int32} {S S' : rs_S} {v : Int32} (hr : r272_17 x1 x3 S = some (v, S')) : l272_17 (some 145) x1 x3 (rs_h S h) = some (.inl (some (.inl v)), rs_h S' h) := by
  unfold r272_17 at hr
  unfold l272_17
  by_cases c1 : x3 = (45 : Int32)
  · rw [if_pos c1] at hr ⊢
    exact r272_30_t hl hr
  · rw [if_neg c1] at hr ⊢
    exact r272_30_t hl hr
set_option maxRecDepth 20000 in
def r272_146 (x2 : Int32) (S : rs_S) : Option (Int32 × rs_S) := rb (rf_276 x2 (3 : Int32) S) fun _ S2 => some ((1 : Int32), S2)
set_option maxRecDepth 20000 in
theorem r272_146_t {h : pm_H} (hl : 177 ≤ h.1.length) {x2 : Int32} {S S' : rs_S} {v : Int32} (hr : r272_146 x2 S = some (v, S')) : l272_146 (some 145) x2 (rs_h S h) = some (.inl (some (.inl v)), rs_h S' h) := by
  unfold r272_146 at hr
  unfold l272_146
  obtain ⟨v1, S2, m3, hr⟩ := rb_s hr
  rw [if_pos (rs_lc hl)]
  rw [rt_276 hl m3, lb_V_r]
  cases hr
  rfl
set_option maxRecDepth 20000 in
def r272_81 (x1 : Int32) (x2 : Int32) (S : rs_S) : Option (Int32 × rs_S) := rb (rf_274 x1 x2 S) fun v1 S2 => if v1 = (0 : Int32) then some ((-1 : Int32), S2) else r272_146 x2 S2
set_option maxRecDepth 20000 in
theorem r272_81_t {h : pm_H} (hl : 177 ≤ h.1.length) {x1 : Int32} {x2 : Int32} {S S' : rs_S} {v : Int32} (hr : r272_81 x1 x2 S = some (v, S')) : l272_81 (some 145) x1 x2 (rs_h S h) = some (.inl (some (.inl v)), rs_h S' h) := by
  unfold r272_81 at hr
  unfold l272_81
  obtain ⟨v1, S2, m3, hr⟩ := rb_s hr
  rw [if_pos (rs_lc hl)]
  rw [rt_274 hl m3, lb_I_r]
  by_cases c4 : v1 = (0 : Int32)
  · rw [if_pos c4] at hr ⊢
    cases hr
    rfl
  · rw [if_neg c4] at hr ⊢
    exact r272_146_t hl hr
set_option maxRecDepth 20000 in
def r272_138 (x1 : Int32) (x2 : Int32) (s0 : Int32) (s1 : Int32) (s2 : Int32) (S : rs_S) : Option (Int32 × rs_S) := rb (rf_275 s2 s1 s0 S) fun _ S2 => rb (rf_266 x1 S2) fun _ S5 => r272_146 x2 S5
set_option maxRecDepth 20000 in
theorem r272_138_t {h : pm_H} (hl : 177 ≤ h.1.length) {x1 : Int32} {x2 : Int32} {s0 : Int32} {s1 : Int32} {s2 : Int32} {S S' : rs_S} {v : Int32} (hr : r272_138 x1 x2 s0 s1 s2 S = some (v, S')) : l272_138 (some 145) x1 x2 s0 s1 s2 (some 145) (rs_h S h) = some (.inl (some (.inl v)), rs_h S' h) := by
  unfold r272_138 at hr
  unfold l272_138
  obtain ⟨v1, S2, m3, hr⟩ := rb_s hr
  rw [if_pos (rs_lc hl)]
  rw [rt_275 hl m3, lb_V_r]
  obtain ⟨v4, S5, m6, hr⟩ := rb_s hr
  rw [if_pos (rs_lc hl)]
  rw [rt_266 hl m6, lb_V_r]
  exact r272_146_t hl hr
set_option maxRecDepth 20000 in
def r272_121 (x1 : Int32) (x2 : Int32) (x3 : Int32) (s0 : Int32) (s1 : Int32) (S : rs_S) : Option (Int32 × rs_S) := if x3 = (-2 : Int32) then r272_138 x1 x2 (S.1 26) s0 s1 S else r272_138 x1 x2 (S.1 27) s0 s1 S
set_option maxRecDepth 20000 in
theorem r272_121_t {h : pm_H} (hl : 177 ≤ h.1.length) {x1 : Int32} {x2 : Int32} {x3 : Int32} {s0 : Int32} {s1 : Int32} {S S' : rs_S} {v : Int32} (hr : r272_121 x1 x2 x3 s0 s1 S = some (v, S')) : l272_121 (some 145) x1 x2 x3 s0 s1 (some 145) (rs_h S h) = some (.inl (some (.inl v)), rs_h S' h) := by
  unfold r272_121 at hr
  unfold l272_121
  by_cases c1 : x3 = (-2 : Int32)
  · rw [if_pos c1] at hr ⊢
    first | rw [rs_fI (k := 26) hl (by decide) rfl, Option.bind_some] | rw [Option.bind_some]
    exact r272_138_t hl hr
  · rw [if_neg c1] at hr ⊢
    first | rw [rs_fI (k := 27) hl (by decide) rfl, Option.bind_some] | rw [Option.bind_some]
    exact r272_138_t hl hr
set_option maxRecDepth 20000 in
def r272_106 (x1 : Int32) (x2 : Int32) (x3 : Int32) (S : rs_S) : Option (Int32 × rs_S) := if x3 = (-2 : Int32) then r272_121 x1 x2 x3 (97 : Int32) x2 S else r272_121 x1 x2 x3 (114 : Int32) x2 S
set_option maxRecDepth 20000 in
theorem r272_106_t {h : pm_H} (hl : 177 ≤ h.1.length) {x1 : Int32} {x2 : Int32} {x3 : Int32} {S S' : rs_S} {v : Int32} (hr : r272_106 x1 x2 x3 S = some (v, S')) : l272_106 (some 145) x1 x2 x3 (rs_h S h) = some (.inl (some (.inl v)), rs_h S' h) := by
  unfold r272_106 at hr
  unfold l272_106
  by_cases c1 : x3 = (-2 : Int32)
  · rw [if_pos c1] at hr ⊢
    exact r272_121_t hl hr
  · rw [if_neg c1] at hr ⊢
    exact r272_121_t hl hr
set_option maxRecDepth 20000 in
def rf_272 (a1 : Int32) (a2 : Int32) (S : rs_S) : Option (Int32 × rs_S) := if (S.1 25) = (40 : Int32) then r272_17 a1 (S.1 25) S else if (S.1 25) = (45 : Int32) then r272_17 a1 (S.1 25) S else if (S.1 25) = (115 : Int32) then r272_81 a1 a2 S else if (S.1 25) = (110 : Int32) then r272_81 a1 a2 S else if (S.1 25) = (109 : Int32) then r272_81 a1 a2 S else if (S.1 25) = (-2 : Int32) then r272_106 a1 a2 (S.1 25) S else if (S.1 25) = (-3 : Int32) then r272_106 a1 a2 (S.1 25) S else some ((-1 : Int32), S)
set_option maxRecDepth 20000 in
theorem rt_272 {h : pm_H} (hl : 177 ≤ h.1.length) {a1 : Int32} {a2 : Int32} {S S' : rs_S} {v : Int32} (hr : rf_272 a1 a2 S = some (v, S')) : ll_272 (some 145) a1 a2 (rs_h S h) = some (.inl (some (.inl v)), rs_h S' h) := by
  unfold rf_272 at hr
  unfold ll_272
  first | rw [rs_fI (k := 25) hl (by decide) rfl, Option.bind_some] | rw [Option.bind_some]
  by_cases c7 : (S.1 25) = (40 : Int32)
  · rw [if_pos c7] at hr ⊢
    exact r272_17_t hl hr
  · rw [if_neg c7] at hr ⊢
    by_cases c6 : (S.1 25) = (45 : Int32)
    · rw [if_pos c6] at hr ⊢
      exact r272_17_t hl hr
    · rw [if_neg c6] at hr ⊢
      by_cases c5 : (S.1 25) = (115 : Int32)
      · rw [if_pos c5] at hr ⊢
        exact r272_81_t hl hr
      · rw [if_neg c5] at hr ⊢
        by_cases c4 : (S.1 25) = (110 : Int32)
        · rw [if_pos c4] at hr ⊢
          exact r272_81_t hl hr
        · rw [if_neg c4] at hr ⊢
          by_cases c3 : (S.1 25) = (109 : Int32)
          · rw [if_pos c3] at hr ⊢
            exact r272_81_t hl hr
          · rw [if_neg c3] at hr ⊢
            by_cases c2 : (S.1 25) = (-2 : Int32)
            · rw [if_pos c2] at hr ⊢
              exact r272_106_t hl hr
            · rw [if_neg c2] at hr ⊢
              by_cases c1 : (S.1 25) = (-3 : Int32)
              · rw [if_pos c1] at hr ⊢
                exact r272_106_t hl hr
              · rw [if_neg c1] at hr ⊢
                cases hr
                rfl
-- OfficeSheetModel.behind(II)I
set_option maxRecDepth 20000 in
def r278_39 (x1 : Int32) (x2 : Int32) (x3 : Int32) (S : rs_S) : Option (Int32 × rs_S) := if x3 = (41 : Int32) then if (S.1 30) = (0 : Int32) then some ((-1 : Int32), S) else rb (rf_276 x2 (1 : Int32) S) fun _ S2 => rb_S (rs_setI S2 29 ((S2.1 29) - (1 : Int32))) fun S4 => rb_S (rs_setI S4 30 ((S4.1 30) - (1 : Int32))) fun S5 => rb (rf_266 x1 S5) fun _ S7 => rb (rf_276 x2 (3 : Int32) S7) fun _ S10 => some ((1 : Int32), S10) else some ((-1 : Int32), S)
set_option maxRecDepth 20000 in
theorem r278_39_t {h : pm_H} (hl : 177 ≤ h.1.length) {x1 : Int32} {x2 : Int32} {x3 : Int32} {S S' : rs_S} {v : Int32} (hr : r278_39 x1 x2 x3 S = some (v, S')) : l278_39 (some 145) x1 x2 x3 (rs_h S h) = some (.inl (some (.inl v)), rs_h S' h) := by
  unfold r278_39 at hr
  unfold l278_39
  by_cases c13 : x3 = (41 : Int32)
  · rw [if_pos c13] at hr ⊢
    first | rw [rs_fI (k := 30) hl (by decide) rfl, Option.bind_some] | rw [Option.bind_some]
    by_cases c12 : (S.1 30) = (0 : Int32)
    · rw [if_pos c12] at hr ⊢
      cases hr
      rfl
    · rw [if_neg c12] at hr ⊢
      obtain ⟨v1, S2, m3, hr⟩ := rb_s hr
      rw [if_pos (rs_lc hl)]
      rw [rt_276 hl m3, lb_V_r]
      first | rw [rs_fI (k := 29) hl (by decide) rfl, Option.bind_some] | rw [Option.bind_some]
      obtain ⟨S4, eS4, hr⟩ := rb_S_s hr
      rw [rs_pI (k := 29) hl (by decide) rfl, Option.bind_some, ← eS4]
      first | rw [rs_fI (k := 30) hl (by decide) rfl, Option.bind_some] | rw [Option.bind_some]
      obtain ⟨S5, eS5, hr⟩ := rb_S_s hr
      rw [rs_pI (k := 30) hl (by decide) rfl, Option.bind_some, ← eS5]
      obtain ⟨v6, S7, m8, hr⟩ := rb_s hr
      rw [if_pos (rs_lc hl)]
      rw [rt_266 hl m8, lb_V_r]
      obtain ⟨v9, S10, m11, hr⟩ := rb_s hr
      rw [if_pos (rs_lc hl)]
      rw [rt_276 hl m11, lb_V_r]
      cases hr
      rfl
  · rw [if_neg c13] at hr ⊢
    cases hr
    rfl
set_option maxRecDepth 20000 in
def rf_278 (a1 : Int32) (a2 : Int32) (S : rs_S) : Option (Int32 × rs_S) := rb (rf_277 (S.1 25) S) fun v1 S2 => if v1 ≤ (0 : Int32) then r278_39 a1 a2 (S.1 25) S2 else if (S.1 25) = (126 : Int32) then r278_39 a1 a2 (S.1 25) S2 else rb (rf_277 (S.1 25) S2) fun v4 S5 => rb (rf_276 a2 v4 S5) fun _ S8 => rb (rf_273 (S.1 25) S8) fun _ S11 => rb (rf_266 a1 S11) fun _ S14 => some ((0 : Int32), S14)
set_option maxRecDepth 20000 in
theorem rt_278 {h : pm_H} (hl : 177 ≤ h.1.length) {a1 : Int32} {a2 : Int32} {S S' : rs_S} {v : Int32} (hr : rf_278 a1 a2 S = some (v, S')) : ll_278 (some 145) a1 a2 (rs_h S h) = some (.inl (some (.inl v)), rs_h S' h) := by
  unfold rf_278 at hr
  unfold ll_278
  first | rw [rs_fI (k := 25) hl (by decide) rfl, Option.bind_some] | rw [Option.bind_some]
  obtain ⟨v1, S2, m3, hr⟩ := rb_s hr
  rw [rt_277 hl m3, lb_I_r]
  by_cases c17 : v1 ≤ (0 : Int32)
  · rw [if_pos c17] at hr ⊢
    exact r278_39_t hl hr
  · rw [if_neg c17] at hr ⊢
    by_cases c16 : (S.1 25) = (126 : Int32)
    · rw [if_pos c16] at hr ⊢
      exact r278_39_t hl hr
    · rw [if_neg c16] at hr ⊢
      obtain ⟨v4, S5, m6, hr⟩ := rb_s hr
      rw [rt_277 hl m6, lb_I_r]
      obtain ⟨v7, S8, m9, hr⟩ := rb_s hr
      rw [if_pos (rs_lc hl)]
      rw [rt_276 hl m9, lb_V_r]
      obtain ⟨v10, S11, m12, hr⟩ := rb_s hr
      rw [if_pos (rs_lc hl)]
      rw [rt_273 hl m12, lb_V_r]
      obtain ⟨v13, S14, m15, hr⟩ := rb_s hr
      rw [if_pos (rs_lc hl)]
      rw [rt_266 hl m15, lb_V_r]
      cases hr
      rfl
-- OfficeSheetModel.expression(II)Z
set_option maxRecDepth 20000 in
def r271_51 (x2 : Int32) (x3 : Int32) (S : rs_S) : Option (Int32 × rs_S) := if x3 < (0 : Int32) then some ((0 : Int32), S) else if (S.1 30) ≤ (0 : Int32) then rb (rf_276 x2 (1 : Int32) S) fun _ S2 => some ((1 : Int32), S2) else some ((0 : Int32), S)
set_option maxRecDepth 20000 in
theorem r271_51_t {h : pm_H} (hl : 177 ≤ h.1.length) {x2 : Int32} {x3 : Int32} {S S' : rs_S} {v : Int32} (hr : r271_51 x2 x3 S = some (v, S')) : l271_51 (some 145) x2 x3 (rs_h S h) = some (.inl (some (.inl v)), rs_h S' h) := by
  unfold r271_51 at hr
  unfold l271_51
  by_cases c5 : x3 < (0 : Int32)
  · rw [if_pos c5] at hr ⊢
    cases hr
    rfl
  · rw [if_neg c5] at hr ⊢
    first | rw [rs_fI (k := 30) hl (by decide) rfl, Option.bind_some] | rw [Option.bind_some]
    by_cases c4 : (S.1 30) ≤ (0 : Int32)
    · rw [if_pos c4] at hr ⊢
      obtain ⟨v1, S2, m3, hr⟩ := rb_s hr
      rw [if_pos (rs_lc hl)]
      rw [rt_276 hl m3, lb_V_r]
      cases hr
      rfl
    · rw [if_neg c4] at hr ⊢
      cases hr
      rfl
set_option maxRecDepth 20000 in
def r271_47 (J12 : Int32 → Int32 → Int32 → rs_S → Option (Int32 × rs_S)) (x1 : Int32) (x2 : Int32) (s0 : Int32) (S : rs_S) : Option (Int32 × rs_S) := J12 x1 x2 s0 S
set_option maxRecDepth 20000 in
theorem r271_47_t {h : pm_H} (hl : 177 ≤ h.1.length) {J12 : Int32 → Int32 → Int32 → rs_S → Option (Int32 × rs_S)} {K12 : Option Nat → Int32 → Int32 → Int32 → pm_H → tm_L} (hJ12 : ∀ {x1 : Int32} {x2 : Int32} {x3 : Int32} {S S' : rs_S} {v : Int32}, J12 x1 x2 x3 S = some (v, S') → K12 (some 145) x1 x2 x3 (rs_h S h) = some (.inl (some (.inl v)), rs_h S' h)) {x1 : Int32} {x2 : Int32} {s0 : Int32} {S S' : rs_S} {v : Int32} (hr : r271_47 J12 x1 x2 s0 S = some (v, S')) : l271_47 K12 (some 145) x1 x2 s0 (rs_h S h) = some (.inl (some (.inl v)), rs_h S' h) := by
  unfold r271_47 at hr
  unfold l271_47
  exact hJ12 hr
set_option maxRecDepth 20000 in
def r271_28 (J12 : Int32 → Int32 → Int32 → rs_S → Option (Int32 × rs_S)) (x1 : Int32) (x2 : Int32) (x3 : Int32) (S : rs_S) : Option (Int32 × rs_S) := if x3 = (0 : Int32) then rb (rf_272 x1 x2 S) fun v1 S2 => r271_47 J12 x1 x2 v1 S2 else rb (rf_278 x1 x2 S) fun v4 S5 => r271_47 J12 x1 x2 v4 S5
set_option maxRecDepth 20000 in
theorem r271_28_t {h : pm_H} (hl : 177 ≤ h.1.length) {J12 : Int32 → Int32 → Int32 → rs_S → Option (Int32 × rs_S)} {K12 : Option Nat → Int32 → Int32 → Int32 → pm_H → tm_L} (hJ12 : ∀ {x1 : Int32} {x2 : Int32} {x3 : Int32} {S S' : rs_S} {v : Int32}, J12 x1 x2 x3 S = some (v, S') → K12 (some 145) x1 x2 x3 (rs_h S h) = some (.inl (some (.inl v)), rs_h S' h)) {x1 : Int32} {x2 : Int32} {x3 : Int32} {S S' : rs_S} {v : Int32} (hr : r271_28 J12 x1 x2 x3 S = some (v, S')) : l271_28 K12 (some 145) x1 x2 x3 (rs_h S h) = some (.inl (some (.inl v)), rs_h S' h) := by
  unfold r271_28 at hr
  unfold l271_28
  by_cases c7 : x3 = (0 : Int32)
  · rw [if_pos c7] at hr ⊢
    obtain ⟨v1, S2, m3, hr⟩ := rb_s hr
    rw [if_pos (rs_lc hl)]
    rw [rt_272 hl m3, lb_I_r]
    exact r271_47_t hl hJ12 hr
  · rw [if_neg c7] at hr ⊢
    obtain ⟨v4, S5, m6, hr⟩ := rb_s hr
    rw [if_pos (rs_lc hl)]
    rw [rt_278 hl m6, lb_I_r]
    exact r271_47_t hl hJ12 hr
set_option maxRecDepth 20000 in
def r271_12 : Nat → Int32 → Int32 → Int32 → rs_S → Option (Int32 × rs_S)
  | 0 => fun _ _ _ _ => none
  | n + 1 => fun x1 x2 x3 S => if x3 < (0 : Int32) then r271_51 x2 x3 S else if x3 = (0 : Int32) then r271_28 (r271_12 n) x1 x2 x3 S else if (S.1 25) = (-1 : Int32) then r271_51 x2 x3 S else r271_28 (r271_12 n) x1 x2 x3 S
set_option maxRecDepth 20000 in
theorem r271_12_t {h : pm_H} (hl : 177 ≤ h.1.length) : ∀ (n : Nat) {x1 : Int32} {x2 : Int32} {x3 : Int32} {S S' : rs_S} {v : Int32}, r271_12 n x1 x2 x3 S = some (v, S') → l271_12 n (some 145) x1 x2 x3 (rs_h S h) = some (.inl (some (.inl v)), rs_h S' h) := by
  intro n
  induction n with
  | zero => intro x1 x2 x3 S S' v hr; cases hr
  | succ n ih =>
    intro x1 x2 x3 S S' v hr
    rw [r271_12] at hr
    rw [l271_12]
    try dsimp only at hr
    try dsimp only
    by_cases c3 : x3 < (0 : Int32)
    · rw [if_pos c3] at hr ⊢
      exact r271_51_t hl hr
    · rw [if_neg c3] at hr ⊢
      by_cases c2 : x3 = (0 : Int32)
      · rw [if_pos c2] at hr ⊢
        exact r271_28_t hl (fun hr => ih hr) hr
      · rw [if_neg c2] at hr ⊢
        first | rw [rs_fI (k := 25) hl (by decide) rfl, Option.bind_some] | rw [Option.bind_some]
        by_cases c1 : (S.1 25) = (-1 : Int32)
        · rw [if_pos c1] at hr ⊢
          exact r271_51_t hl hr
        · rw [if_neg c1] at hr ⊢
          exact r271_28_t hl (fun hr => ih hr) hr
set_option maxRecDepth 20000 in
def rf_271 (a1 : Int32) (a2 : Int32) (S : rs_S) : Option (Int32 × rs_S) := rb_S (rs_setI S 29 (0 : Int32)) fun S1 => rb_S (rs_setI S1 30 (0 : Int32)) fun S2 => r271_12 lf_N a1 a2 (0 : Int32) S2
set_option maxRecDepth 20000 in
theorem rt_271 {h : pm_H} (hl : 177 ≤ h.1.length) {a1 : Int32} {a2 : Int32} {S S' : rs_S} {v : Int32} (hr : rf_271 a1 a2 S = some (v, S')) : ll_271 (some 145) a1 a2 (rs_h S h) = some (.inl (some (.inl v)), rs_h S' h) := by
  unfold rf_271 at hr
  unfold ll_271
  obtain ⟨S1, eS1, hr⟩ := rb_S_s hr
  rw [rs_pI (k := 29) hl (by decide) rfl, Option.bind_some, ← eS1]
  obtain ⟨S2, eS2, hr⟩ := rb_S_s hr
  rw [rs_pI (k := 30) hl (by decide) rfl, Option.bind_some, ← eS2]
  exact r271_12_t hl lf_N hr
-- OfficeSheetModel.read(II)Z
set_option maxRecDepth 20000 in
def r265_117 (x1 : Int32) (s0 : Int32) (s1 : Int32) (s2 : Int32) (S : rs_S) : Option (Int32 × rs_S) := rb (rf_275 s2 s1 s0 S) fun _ S2 => rb (rf_266 x1 S2) fun _ S5 => if (S5.1 25) = (-1 : Int32) then some ((1 : Int32), S5) else some ((0 : Int32), S5)
set_option maxRecDepth 20000 in
theorem r265_117_t {h : pm_H} (hl : 177 ≤ h.1.length) {x1 : Int32} {s0 : Int32} {s1 : Int32} {s2 : Int32} {S S' : rs_S} {v : Int32} (hr : r265_117 x1 s0 s1 s2 S = some (v, S')) : l265_117 (some 145) x1 s0 s1 s2 (some 145) (rs_h S h) = some (.inl (some (.inl v)), rs_h S' h) := by
  unfold r265_117 at hr
  unfold l265_117
  obtain ⟨v1, S2, m3, hr⟩ := rb_s hr
  rw [if_pos (rs_lc hl)]
  rw [rt_275 hl m3, lb_V_r]
  obtain ⟨v4, S5, m6, hr⟩ := rb_s hr
  rw [if_pos (rs_lc hl)]
  rw [rt_266 hl m6, lb_V_r]
  first | rw [rs_fI (k := 25) hl (by decide) rfl, Option.bind_some] | rw [Option.bind_some]
  by_cases c7 : (S5.1 25) = (-1 : Int32)
  · rw [if_pos c7] at hr ⊢
    cases hr
    rfl
  · rw [if_neg c7] at hr ⊢
    cases hr
    rfl
set_option maxRecDepth 20000 in
def r265_70 (x1 : Int32) (x2 : Int32) (x3 : Int32) (S : rs_S) : Option (Int32 × rs_S) := (rd_I S 12 x2).bind fun v1 => if v1 = (0 : Int32) then if (S.1 25) = (-2 : Int32) then if x3 = (0 : Int32) then r265_117 x1 (S.1 26) (97 : Int32) x2 S else r265_117 x1 (-(S.1 26)) (97 : Int32) x2 S else some ((0 : Int32), S) else rb (rf_271 x1 x2 S) fun v4 S5 => if pm_fit 3 (.int v4) = true then some (v4, S5) else none
set_option maxRecDepth 20000 in
theorem r265_70_t {h : pm_H} (hl : 177 ≤ h.1.length) {x1 : Int32} {x2 : Int32} {x3 : Int32} {S S' : rs_S} {v : Int32} (hr : r265_70 x1 x2 x3 S = some (v, S')) : l265_70 (some 145) x1 x2 x3 (rs_h S h) = some (.inl (some (.inl v)), rs_h S' h) := by
  unfold r265_70 at hr
  unfold l265_70
  first | rw [rs_fR (k := 12) hl (by decide) rfl, Option.bind_some] | rw [Option.bind_some]
  obtain ⟨v1, qv1, hr⟩ := Option.bind_eq_some_iff.mp hr
  first | rw [rs_rdZ (k := 12) hl rfl rfl qv1, Option.bind_some] | rw [Option.bind_some]
  by_cases c8 : v1 = (0 : Int32)
  · rw [if_pos c8] at hr ⊢
    first | rw [rs_fI (k := 25) hl (by decide) rfl, Option.bind_some] | rw [Option.bind_some]
    by_cases c3 : (S.1 25) = (-2 : Int32)
    · rw [if_pos c3] at hr ⊢
      by_cases c2 : x3 = (0 : Int32)
      · rw [if_pos c2] at hr ⊢
        first | rw [rs_fI (k := 26) hl (by decide) rfl, Option.bind_some] | rw [Option.bind_some]
        exact r265_117_t hl hr
      · rw [if_neg c2] at hr ⊢
        first | rw [rs_fI (k := 26) hl (by decide) rfl, Option.bind_some] | rw [Option.bind_some]
        exact r265_117_t hl hr
    · rw [if_neg c3] at hr ⊢
      cases hr
      rfl
  · rw [if_neg c8] at hr ⊢
    obtain ⟨v4, S5, m6, hr⟩ := rb_s hr
    rw [if_pos (rs_lc hl)]
    rw [rt_271 hl m6, lb_I_r]
    by_cases c7 : pm_fit 3 (.int v4) = true
    · rw [if_pos c7] at hr ⊢
      cases hr
      rfl
    · rw [if_neg c7] at hr
      cases hr
set_option maxRecDepth 20000 in
def r265_65 (x1 : Int32) (x2 : Int32) (x3 : Int32) (S : rs_S) : Option (Int32 × rs_S) := rb (rf_266 x1 S) fun _ S2 => r265_70 x1 x2 x3 S2
set_option maxRecDepth 20000 in
theorem r265_65_t {h : pm_H} (hl : 177 ≤ h.1.length) {x1 : Int32} {x2 : Int32} {x3 : Int32} {S S' : rs_S} {v : Int32} (hr : r265_65 x1 x2 x3 S = some (v, S')) : l265_65 (some 145) x1 x2 x3 (rs_h S h) = some (.inl (some (.inl v)), rs_h S' h) := by
  unfold r265_65 at hr
  unfold l265_65
  obtain ⟨v1, S2, m3, hr⟩ := rb_s hr
  rw [if_pos (rs_lc hl)]
  rw [rt_266 hl m3, lb_V_r]
  exact r265_70_t hl hr
set_option maxRecDepth 20000 in
def r265_51 (x1 : Int32) (x2 : Int32) (s0 : Int32) (S : rs_S) : Option (Int32 × rs_S) := (rd_I S 12 x2).bind fun v1 => if v1 = (0 : Int32) then if s0 = (0 : Int32) then r265_70 x1 x2 s0 S else r265_65 x1 x2 s0 S else r265_65 x1 x2 s0 S
set_option maxRecDepth 20000 in
theorem r265_51_t {h : pm_H} (hl : 177 ≤ h.1.length) {x1 : Int32} {x2 : Int32} {s0 : Int32} {S S' : rs_S} {v : Int32} (hr : r265_51 x1 x2 s0 S = some (v, S')) : l265_51 (some 145) x1 x2 s0 (rs_h S h) = some (.inl (some (.inl v)), rs_h S' h) := by
  unfold r265_51 at hr
  unfold l265_51
  first | rw [rs_fR (k := 12) hl (by decide) rfl, Option.bind_some] | rw [Option.bind_some]
  obtain ⟨v1, qv1, hr⟩ := Option.bind_eq_some_iff.mp hr
  first | rw [rs_rdZ (k := 12) hl rfl rfl qv1, Option.bind_some] | rw [Option.bind_some]
  by_cases c3 : v1 = (0 : Int32)
  · rw [if_pos c3] at hr ⊢
    by_cases c2 : s0 = (0 : Int32)
    · rw [if_pos c2] at hr ⊢
      exact r265_70_t hl hr
    · rw [if_neg c2] at hr ⊢
      exact r265_65_t hl hr
  · rw [if_neg c3] at hr ⊢
    exact r265_65_t hl hr
set_option maxRecDepth 20000 in
def r265_36 (x1 : Int32) (x2 : Int32) (s0 : Int32) (s1 : Int32) (S : rs_S) : Option (Int32 × rs_S) := (wr_Z S 12 s1 s0).bind fun S1 => if (S1.1 25) = (45 : Int32) then r265_51 x1 x2 (1 : Int32) S1 else r265_51 x1 x2 (0 : Int32) S1
set_option maxRecDepth 20000 in
theorem r265_36_t {h : pm_H} (hl : 177 ≤ h.1.length) {x1 : Int32} {x2 : Int32} {s0 : Int32} {s1 : Int32} {S S' : rs_S} {v : Int32} (hr : r265_36 x1 x2 s0 s1 S = some (v, S')) : l265_36 (some 145) x1 x2 s0 s1 (some (rs_ad 12)) (rs_h S h) = some (.inl (some (.inl v)), rs_h S' h) := by
  unfold r265_36 at hr
  unfold l265_36
  obtain ⟨S1, qS1, hr⟩ := Option.bind_eq_some_iff.mp hr
  first | rw [rs_wrZ (k := 12) hl rfl rfl qS1, Option.bind_some] | rw [Option.bind_some]
  first | rw [rs_fI (k := 25) hl (by decide) rfl, Option.bind_some] | rw [Option.bind_some]
  by_cases c2 : (S1.1 25) = (45 : Int32)
  · rw [if_pos c2] at hr ⊢
    exact r265_51_t hl hr
  · rw [if_neg c2] at hr ⊢
    exact r265_51_t hl hr
set_option maxRecDepth 20000 in
def rf_265 (a1 : Int32) (a2 : Int32) (S : rs_S) : Option (Int32 × rs_S) := rb_S (rs_setI S 23 (0 : Int32)) fun S1 => (wr_I S1 13 a2 (0 : Int32)).bind fun S2 => rb (rf_266 a1 S2) fun _ S4 => if (S4.1 25) = (61 : Int32) then r265_36 a1 a2 (1 : Int32) a2 S4 else r265_36 a1 a2 (0 : Int32) a2 S4
set_option maxRecDepth 20000 in
theorem rt_265 {h : pm_H} (hl : 177 ≤ h.1.length) {a1 : Int32} {a2 : Int32} {S S' : rs_S} {v : Int32} (hr : rf_265 a1 a2 S = some (v, S')) : ll_265 (some 145) a1 a2 (rs_h S h) = some (.inl (some (.inl v)), rs_h S' h) := by
  unfold rf_265 at hr
  unfold ll_265
  obtain ⟨S1, eS1, hr⟩ := rb_S_s hr
  rw [rs_pI (k := 23) hl (by decide) rfl, Option.bind_some, ← eS1]
  first | rw [rs_fR (k := 13) hl (by decide) rfl, Option.bind_some] | rw [Option.bind_some]
  obtain ⟨S2, qS2, hr⟩ := Option.bind_eq_some_iff.mp hr
  first | rw [rs_wrI (k := 13) hl rfl rfl qS2, Option.bind_some] | rw [Option.bind_some]
  obtain ⟨v3, S4, m5, hr⟩ := rb_s hr
  rw [if_pos (rs_lc hl)]
  rw [rt_266 hl m5, lb_V_r]
  first | rw [rs_fR (k := 12) hl (by decide) rfl, Option.bind_some] | rw [Option.bind_some]
  first | rw [rs_fI (k := 25) hl (by decide) rfl, Option.bind_some] | rw [Option.bind_some]
  by_cases c6 : (S4.1 25) = (61 : Int32)
  · rw [if_pos c6] at hr ⊢
    exact r265_36_t hl hr
  · rw [if_neg c6] at hr ⊢
    exact r265_36_t hl hr
-- OfficeSheetModel.enter(III)I
set_option maxRecDepth 20000 in
def r264_194 (x1 : Int32) (x9 : Int32) (s0 : Int32) (s1 : Int32) (S : rs_S) : Option (Int32 × rs_S) := (wr_I S 11 s1 s0).bind fun S1 => rb (rf_247 x1 x9 S1) fun _ S3 => some ((-1 : Int32), S3)
set_option maxRecDepth 20000 in
theorem r264_194_t {h : pm_H} (hl : 177 ≤ h.1.length) {x1 : Int32} {x9 : Int32} {s0 : Int32} {s1 : Int32} {S S' : rs_S} {v : Int32} (hr : r264_194 x1 x9 s0 s1 S = some (v, S')) : l264_194 (some 145) x1 x9 s0 s1 (some (rs_ad 11)) (rs_h S h) = some (.inl (some (.inl v)), rs_h S' h) := by
  unfold r264_194 at hr
  unfold l264_194
  obtain ⟨S1, qS1, hr⟩ := Option.bind_eq_some_iff.mp hr
  first | rw [rs_wrI (k := 11) hl rfl rfl qS1, Option.bind_some] | rw [Option.bind_some]
  obtain ⟨v2, S3, m4, hr⟩ := rb_s hr
  rw [if_pos (rs_lc hl)]
  rw [rt_247 hl m4, lb_V_r]
  cases hr
  rfl
set_option maxRecDepth 20000 in
def r264_171 (x1 : Int32) (x8 : Int32) (x9 : Int32) (s0 : Int32) (s1 : Int32) (S : rs_S) : Option (Int32 × rs_S) := (wr_I S 10 s1 s0).bind fun S1 => if (0 : Int32) ≤ x8 then (rd_I S1 10 x8).bind fun v2 => r264_194 x1 x9 v2 x9 S1 else r264_194 x1 x9 (-1 : Int32) x9 S1
set_option maxRecDepth 20000 in
theorem r264_171_t {h : pm_H} (hl : 177 ≤ h.1.length) {x1 : Int32} {x8 : Int32} {x9 : Int32} {s0 : Int32} {s1 : Int32} {S S' : rs_S} {v : Int32} (hr : r264_171 x1 x8 x9 s0 s1 S = some (v, S')) : l264_171 (some 145) x1 x8 x9 s0 s1 (some (rs_ad 10)) (rs_h S h) = some (.inl (some (.inl v)), rs_h S' h) := by
  unfold r264_171 at hr
  unfold l264_171
  obtain ⟨S1, qS1, hr⟩ := Option.bind_eq_some_iff.mp hr
  first | rw [rs_wrI (k := 10) hl rfl rfl qS1, Option.bind_some] | rw [Option.bind_some]
  first | rw [rs_fR (k := 11) hl (by decide) rfl, Option.bind_some] | rw [Option.bind_some]
  by_cases c3 : (0 : Int32) ≤ x8
  · rw [if_pos c3] at hr ⊢
    first | rw [rs_fR (k := 10) hl (by decide) rfl, Option.bind_some] | rw [Option.bind_some]
    obtain ⟨v2, qv2, hr⟩ := Option.bind_eq_some_iff.mp hr
    first | rw [rs_rdI (k := 10) hl rfl rfl qv2, Option.bind_some] | rw [Option.bind_some]
    exact r264_194_t hl hr
  · rw [if_neg c3] at hr ⊢
    exact r264_194_t hl hr
set_option maxRecDepth 20000 in
def r264_102 (x1 : Int32) (x2 : Int32) (x3 : Int32) (x5 : Int32) (S : rs_S) : Option (Int32 × rs_S) := rb (rf_242 x1 (0 : Int32) x2 S) fun v1 S2 => rb (rf_242 x1 (1 : Int32) x3 S2) fun v4 S5 => rb (rf_255 x1 v1 v4 S5) fun v7 S8 => rb (rf_246 x1 (6 : Int32) (0 : Int32) v1 S8) fun v10 S11 => (wr_I S11 6 v10 v4).bind fun S13 => if (S13.1 22) ≤ (0 : Int32) then r264_171 x1 v7 v10 (-1 : Int32) v10 S13 else r264_171 x1 v7 v10 x5 v10 S13
set_option maxRecDepth 20000 in
theorem r264_102_t {h : pm_H} (hl : 177 ≤ h.1.length) {x1 : Int32} {x2 : Int32} {x3 : Int32} {x5 : Int32} {S S' : rs_S} {v : Int32} (hr : r264_102 x1 x2 x3 x5 S = some (v, S')) : l264_102 (some 145) x1 x2 x3 x5 (rs_h S h) = some (.inl (some (.inl v)), rs_h S' h) := by
  unfold r264_102 at hr
  unfold l264_102
  obtain ⟨v1, S2, m3, hr⟩ := rb_s hr
  rw [if_pos (rs_lc hl)]
  rw [rt_242 hl m3, lb_I_r]
  obtain ⟨v4, S5, m6, hr⟩ := rb_s hr
  rw [if_pos (rs_lc hl)]
  rw [rt_242 hl m6, lb_I_r]
  obtain ⟨v7, S8, m9, hr⟩ := rb_s hr
  rw [if_pos (rs_lc hl)]
  rw [rt_255 hl m9, lb_I_r]
  obtain ⟨v10, S11, m12, hr⟩ := rb_s hr
  rw [if_pos (rs_lc hl)]
  rw [rt_246 hl m12, lb_I_r]
  first | rw [rs_fR (k := 6) hl (by decide) rfl, Option.bind_some] | rw [Option.bind_some]
  obtain ⟨S13, qS13, hr⟩ := Option.bind_eq_some_iff.mp hr
  first | rw [rs_wrI (k := 6) hl rfl rfl qS13, Option.bind_some] | rw [Option.bind_some]
  first | rw [rs_fR (k := 10) hl (by decide) rfl, Option.bind_some] | rw [Option.bind_some]
  first | rw [rs_fI (k := 22) hl (by decide) rfl, Option.bind_some] | rw [Option.bind_some]
  by_cases c14 : (S13.1 22) ≤ (0 : Int32)
  · rw [if_pos c14] at hr ⊢
    exact r264_171_t hl hr
  · rw [if_neg c14] at hr ⊢
    exact r264_171_t hl hr
set_option maxRecDepth 20000 in
def r264_53 (x1 : Int32) (x2 : Int32) (x3 : Int32) (s0 : Int32) (S : rs_S) : Option (Int32 × rs_S) := rb_S (rs_setI S 0 s0) fun S1 => if (S1.1 0) ≤ (0 : Int32) then (rd_I S1 16 ((4 : Int32) * x1)).bind fun v2 => if (S1.1 22) ≤ (0 : Int32) then r264_102 x1 x2 x3 (((40 : Int32) * x1) + v2) S1 else rb (rf_265 x1 (((40 : Int32) * x1) + v2) S1) fun v3 S4 => if v3 = (0 : Int32) then some ((S4.1 24), S4) else r264_102 x1 x2 x3 (((40 : Int32) * x1) + v2) S4 else some ((0 : Int32), S1)
set_option maxRecDepth 20000 in
theorem r264_53_t {h : pm_H} (hl : 177 ≤ h.1.length) {x1 : Int32} {x2 : Int32} {x3 : Int32} {s0 : Int32} {S S' : rs_S} {v : Int32} (hr : r264_53 x1 x2 x3 s0 S = some (v, S')) : l264_53 (some 145) x1 x2 x3 s0 (some 145) (rs_h S h) = some (.inl (some (.inl v)), rs_h S' h) := by
  unfold r264_53 at hr
  unfold l264_53
  obtain ⟨S1, eS1, hr⟩ := rb_S_s hr
  rw [rs_pI (k := 0) hl (by decide) rfl, Option.bind_some, ← eS1]
  first | rw [rs_fI (k := 0) hl (by decide) rfl, Option.bind_some] | rw [Option.bind_some]
  by_cases c8 : (S1.1 0) ≤ (0 : Int32)
  · rw [if_pos c8] at hr ⊢
    first | rw [rs_fR (k := 16) hl (by decide) rfl, Option.bind_some] | rw [Option.bind_some]
    obtain ⟨v2, qv2, hr⟩ := Option.bind_eq_some_iff.mp hr
    first | rw [rs_rdI (k := 16) hl rfl rfl qv2, Option.bind_some] | rw [Option.bind_some]
    first | rw [rs_fI (k := 22) hl (by decide) rfl, Option.bind_some] | rw [Option.bind_some]
    by_cases c7 : (S1.1 22) ≤ (0 : Int32)
    · rw [if_pos c7] at hr ⊢
      exact r264_102_t hl hr
    · rw [if_neg c7] at hr ⊢
      obtain ⟨v3, S4, m5, hr⟩ := rb_s hr
      rw [if_pos (rs_lc hl)]
      rw [rt_265 hl m5, lb_I_r]
      by_cases c6 : v3 = (0 : Int32)
      · rw [if_pos c6] at hr ⊢
        first | rw [rs_fI (k := 24) hl (by decide) rfl, Option.bind_some] | rw [Option.bind_some]
        cases hr
        rfl
      · rw [if_neg c6] at hr ⊢
        exact r264_102_t hl hr
  · rw [if_neg c8] at hr ⊢
    cases hr
    rfl
set_option maxRecDepth 20000 in
def r264_36 (x1 : Int32) (x2 : Int32) (x3 : Int32) (S : rs_S) : Option (Int32 × rs_S) := r264_53 x1 x2 x3 (2 : Int32) S
set_option maxRecDepth 20000 in
theorem r264_36_t {h : pm_H} (hl : 177 ≤ h.1.length) {x1 : Int32} {x2 : Int32} {x3 : Int32} {S S' : rs_S} {v : Int32} (hr : r264_36 x1 x2 x3 S = some (v, S')) : l264_36 (some 145) x1 x2 x3 (some 145) (rs_h S h) = some (.inl (some (.inl v)), rs_h S' h) := by
  unfold r264_36 at hr
  unfold l264_36
  exact r264_53_t hl hr
set_option maxRecDepth 20000 in
def rf_264 (a1 : Int32) (a2 : Int32) (a3 : Int32) (S : rs_S) : Option (Int32 × rs_S) := rb (rf_237 a1 S) fun v1 S2 => if v1 = (0 : Int32) then r264_53 a1 a2 a3 (1 : Int32) S2 else rb (rf_239 a1 (0 : Int32) a2 S2) fun v4 S5 => if v4 = (0 : Int32) then r264_36 a1 a2 a3 S5 else rb (rf_239 a1 (1 : Int32) a3 S5) fun v7 S8 => if v7 = (0 : Int32) then r264_36 a1 a2 a3 S8 else rb (rf_240 a1 S8) fun v10 S11 => if v10 = (0 : Int32) then r264_53 a1 a2 a3 (0 : Int32) S11 else r264_53 a1 a2 a3 (3 : Int32) S11
set_option maxRecDepth 20000 in
theorem rt_264 {h : pm_H} (hl : 177 ≤ h.1.length) {a1 : Int32} {a2 : Int32} {a3 : Int32} {S S' : rs_S} {v : Int32} (hr : rf_264 a1 a2 a3 S = some (v, S')) : ll_264 (some 145) a1 a2 a3 (rs_h S h) = some (.inl (some (.inl v)), rs_h S' h) := by
  unfold rf_264 at hr
  unfold ll_264
  obtain ⟨v1, S2, m3, hr⟩ := rb_s hr
  rw [rt_237 hl m3, lb_I_r]
  by_cases c16 : v1 = (0 : Int32)
  · rw [if_pos c16] at hr ⊢
    exact r264_53_t hl hr
  · rw [if_neg c16] at hr ⊢
    obtain ⟨v4, S5, m6, hr⟩ := rb_s hr
    rw [if_pos (rs_lc hl)]
    rw [rt_239 hl m6, lb_I_r]
    by_cases c15 : v4 = (0 : Int32)
    · rw [if_pos c15] at hr ⊢
      exact r264_36_t hl hr
    · rw [if_neg c15] at hr ⊢
      obtain ⟨v7, S8, m9, hr⟩ := rb_s hr
      rw [if_pos (rs_lc hl)]
      rw [rt_239 hl m9, lb_I_r]
      by_cases c14 : v7 = (0 : Int32)
      · rw [if_pos c14] at hr ⊢
        exact r264_36_t hl hr
      · rw [if_neg c14] at hr ⊢
        obtain ⟨v10, S11, m12, hr⟩ := rb_s hr
        rw [if_pos (rs_lc hl)]
        rw [rt_240 hl m12, lb_I_r]
        by_cases c13 : v10 = (0 : Int32)
        · rw [if_pos c13] at hr ⊢
          exact r264_53_t hl hr
        · rw [if_neg c13] at hr ⊢
          exact r264_53_t hl hr
-- OfficeSheetModel.cellOf(II)I
set_option maxRecDepth 20000 in
def r283_32 (J2 : Int32 → Int32 → Int32 → rs_S → Option (Int32 × rs_S)) (x1 : Int32) (x2 : Int32) (x3 : Int32) (S : rs_S) : Option (Int32 × rs_S) := J2 x1 x2 (x3 + (1 : Int32)) S
set_option maxRecDepth 20000 in
theorem r283_32_t {h : pm_H} (hl : 177 ≤ h.1.length) {J2 : Int32 → Int32 → Int32 → rs_S → Option (Int32 × rs_S)} {K2 : Option Nat → Int32 → Int32 → Int32 → pm_H → tm_L} (hJ2 : ∀ {x1 : Int32} {x2 : Int32} {x3 : Int32} {S S' : rs_S} {v : Int32}, J2 x1 x2 x3 S = some (v, S') → K2 (some 145) x1 x2 x3 (rs_h S h) = some (.inl (some (.inl v)), rs_h S' h)) {x1 : Int32} {x2 : Int32} {x3 : Int32} {S S' : rs_S} {v : Int32} (hr : r283_32 J2 x1 x2 x3 S = some (v, S')) : l283_32 K2 (some 145) x1 x2 x3 (rs_h S h) = some (.inl (some (.inl v)), rs_h S' h) := by
  unfold r283_32 at hr
  unfold l283_32
  exact hJ2 hr
set_option maxRecDepth 20000 in
def r283_2 : Nat → Int32 → Int32 → Int32 → rs_S → Option (Int32 × rs_S)
  | 0 => fun _ _ _ _ => none
  | n + 1 => fun x1 x2 x3 S => if (S.1 32) ≤ x3 then some ((-1 : Int32), S) else (rd_I S 33 x3).bind fun v1 => if v1 = x1 then (rd_I S 34 x3).bind fun v2 => if v2 = x2 then some (x3, S) else r283_32 (r283_2 n) x1 x2 x3 S else r283_32 (r283_2 n) x1 x2 x3 S
set_option maxRecDepth 20000 in
theorem r283_2_t {h : pm_H} (hl : 177 ≤ h.1.length) : ∀ (n : Nat) {x1 : Int32} {x2 : Int32} {x3 : Int32} {S S' : rs_S} {v : Int32}, r283_2 n x1 x2 x3 S = some (v, S') → l283_2 n (some 145) x1 x2 x3 (rs_h S h) = some (.inl (some (.inl v)), rs_h S' h) := by
  intro n
  induction n with
  | zero => intro x1 x2 x3 S S' v hr; cases hr
  | succ n ih =>
    intro x1 x2 x3 S S' v hr
    rw [r283_2] at hr
    rw [l283_2]
    try dsimp only at hr
    try dsimp only
    first | rw [rs_fI (k := 32) hl (by decide) rfl, Option.bind_some] | rw [Option.bind_some]
    by_cases c5 : (S.1 32) ≤ x3
    · rw [if_pos c5] at hr ⊢
      cases hr
      rfl
    · rw [if_neg c5] at hr ⊢
      first | rw [rs_fR (k := 33) hl (by decide) rfl, Option.bind_some] | rw [Option.bind_some]
      obtain ⟨v1, qv1, hr⟩ := Option.bind_eq_some_iff.mp hr
      first | rw [rs_rdI (k := 33) hl rfl rfl qv1, Option.bind_some] | rw [Option.bind_some]
      by_cases c4 : v1 = x1
      · rw [if_pos c4] at hr ⊢
        first | rw [rs_fR (k := 34) hl (by decide) rfl, Option.bind_some] | rw [Option.bind_some]
        obtain ⟨v2, qv2, hr⟩ := Option.bind_eq_some_iff.mp hr
        first | rw [rs_rdI (k := 34) hl rfl rfl qv2, Option.bind_some] | rw [Option.bind_some]
        by_cases c3 : v2 = x2
        · rw [if_pos c3] at hr ⊢
          cases hr
          rfl
        · rw [if_neg c3] at hr ⊢
          exact r283_32_t hl (fun hr => ih hr) hr
      · rw [if_neg c4] at hr ⊢
        exact r283_32_t hl (fun hr => ih hr) hr
set_option maxRecDepth 20000 in
def rf_283 (a1 : Int32) (a2 : Int32) (S : rs_S) : Option (Int32 × rs_S) := r283_2 lf_N a1 a2 (0 : Int32) S
set_option maxRecDepth 20000 in
theorem rt_283 {h : pm_H} (hl : 177 ≤ h.1.length) {a1 : Int32} {a2 : Int32} {S S' : rs_S} {v : Int32} (hr : rf_283 a1 a2 S = some (v, S')) : ll_283 (some 145) a1 a2 (rs_h S h) = some (.inl (some (.inl v)), rs_h S' h) := by
  unfold rf_283 at hr
  unfold ll_283
  exact r283_2_t hl lf_N hr
-- OfficeSheetModel.gather(I)V
set_option maxRecDepth 20000 in
def r282_138 (J7 : Int32 → Int32 → rs_S → Option (Unit × rs_S)) (x1 : Int32) (x2 : Int32) (S : rs_S) : Option (Unit × rs_S) := J7 x1 (x2 + (1 : Int32)) S
set_option maxRecDepth 20000 in
theorem r282_138_t {h : pm_H} (hl : 177 ≤ h.1.length) {J7 : Int32 → Int32 → rs_S → Option (Unit × rs_S)} {K7 : Option Nat → Int32 → Int32 → pm_H → tm_L} (hJ7 : ∀ {x1 : Int32} {x2 : Int32} {S S' : rs_S} {v : Unit}, J7 x1 x2 S = some (v, S') → K7 (some 145) x1 x2 (rs_h S h) = some (.inl none, rs_h S' h)) {x1 : Int32} {x2 : Int32} {S S' : rs_S} {v : Unit} (hr : r282_138 J7 x1 x2 S = some (v, S')) : l282_138 K7 (some 145) x1 x2 (rs_h S h) = some (.inl none, rs_h S' h) := by
  unfold r282_138 at hr
  unfold l282_138
  exact hJ7 hr
set_option maxRecDepth 20000 in
def r282_7 : Nat → Int32 → Int32 → rs_S → Option (Unit × rs_S)
  | 0 => fun _ _ _ => none
  | n + 1 => fun x1 x2 S => if (120 : Int32) ≤ x2 then some ((), S) else (rd_I S 1 x2).bind fun v1 => if v1 = (6 : Int32) then rb (rf_244 x1 x2 S) fun v2 S3 => if v2 = (0 : Int32) then r282_138 (r282_7 n) x1 x2 S3 else (rd_I S3 5 x2).bind fun v5 => (rd_I S3 6 x2).bind fun v6 => rb (rf_283 v5 v6 S3) fun v7 S8 => if (0 : Int32) ≤ v7 then r282_138 (r282_7 n) x1 x2 S8 else (rd_I S8 5 x2).bind fun v10 => (wr_I S8 33 (S8.1 32) v10).bind fun S11 => (rd_I S11 6 x2).bind fun v12 => (wr_I S11 34 (S11.1 32) v12).bind fun S13 => (rd_I S13 5 x2).bind fun v14 => (rd_I S13 6 x2).bind fun v15 => rb (rf_255 x1 v14 v15 S13) fun v16 S17 => (wr_I S17 35 (S13.1 32) v16).bind fun S19 => (wr_I S19 36 (S19.1 32) (0 : Int32)).bind fun S20 => (wr_J S20 37 (S20.1 32) (0 : Int64)).bind fun S21 => rb_S (rs_setI S21 32 ((S21.1 32) + (1 : Int32))) fun S22 => r282_138 (r282_7 n) x1 x2 S22 else r282_138 (r282_7 n) x1 x2 S
set_option maxRecDepth 20000 in
theorem r282_7_t {h : pm_H} (hl : 177 ≤ h.1.length) : ∀ (n : Nat) {x1 : Int32} {x2 : Int32} {S S' : rs_S} {v : Unit}, r282_7 n x1 x2 S = some (v, S') → l282_7 n (some 145) x1 x2 (rs_h S h) = some (.inl none, rs_h S' h) := by
  intro n
  induction n with
  | zero => intro x1 x2 S S' v hr; cases hr
  | succ n ih =>
    intro x1 x2 S S' v hr
    rw [r282_7] at hr
    rw [l282_7]
    try dsimp only at hr
    try dsimp only
    by_cases c26 : (120 : Int32) ≤ x2
    · rw [if_pos c26] at hr ⊢
      cases hr
      rfl
    · rw [if_neg c26] at hr ⊢
      first | rw [rs_fR (k := 1) hl (by decide) rfl, Option.bind_some] | rw [Option.bind_some]
      obtain ⟨v1, qv1, hr⟩ := Option.bind_eq_some_iff.mp hr
      first | rw [rs_rdI (k := 1) hl rfl rfl qv1, Option.bind_some] | rw [Option.bind_some]
      by_cases c25 : v1 = (6 : Int32)
      · rw [if_pos c25] at hr ⊢
        obtain ⟨v2, S3, m4, hr⟩ := rb_s hr
        rw [if_pos (rs_lc hl)]
        rw [rt_244 hl m4, lb_I_r]
        by_cases c24 : v2 = (0 : Int32)
        · rw [if_pos c24] at hr ⊢
          exact r282_138_t hl (fun hr => ih hr) hr
        · rw [if_neg c24] at hr ⊢
          first | rw [rs_fR (k := 5) hl (by decide) rfl, Option.bind_some] | rw [Option.bind_some]
          obtain ⟨v5, qv5, hr⟩ := Option.bind_eq_some_iff.mp hr
          first | rw [rs_rdI (k := 5) hl rfl rfl qv5, Option.bind_some] | rw [Option.bind_some]
          first | rw [rs_fR (k := 6) hl (by decide) rfl, Option.bind_some] | rw [Option.bind_some]
          obtain ⟨v6, qv6, hr⟩ := Option.bind_eq_some_iff.mp hr
          first | rw [rs_rdI (k := 6) hl rfl rfl qv6, Option.bind_some] | rw [Option.bind_some]
          obtain ⟨v7, S8, m9, hr⟩ := rb_s hr
          rw [if_pos (rs_lc hl)]
          rw [rt_283 hl m9, lb_I_r]
          by_cases c23 : (0 : Int32) ≤ v7
          · rw [if_pos c23] at hr ⊢
            exact r282_138_t hl (fun hr => ih hr) hr
          · rw [if_neg c23] at hr ⊢
            first | rw [rs_fR (k := 33) hl (by decide) rfl, Option.bind_some] | rw [Option.bind_some]
            first | rw [rs_fI (k := 32) hl (by decide) rfl, Option.bind_some] | rw [Option.bind_some]
            first | rw [rs_fR (k := 5) hl (by decide) rfl, Option.bind_some] | rw [Option.bind_some]
            obtain ⟨v10, qv10, hr⟩ := Option.bind_eq_some_iff.mp hr
            first | rw [rs_rdI (k := 5) hl rfl rfl qv10, Option.bind_some] | rw [Option.bind_some]
            obtain ⟨S11, qS11, hr⟩ := Option.bind_eq_some_iff.mp hr
            first | rw [rs_wrI (k := 33) hl rfl rfl qS11, Option.bind_some] | rw [Option.bind_some]
            first | rw [rs_fR (k := 34) hl (by decide) rfl, Option.bind_some] | rw [Option.bind_some]
            first | rw [rs_fI (k := 32) hl (by decide) rfl, Option.bind_some] | rw [Option.bind_some]
            first | rw [rs_fR (k := 6) hl (by decide) rfl, Option.bind_some] | rw [Option.bind_some]
            obtain ⟨v12, qv12, hr⟩ := Option.bind_eq_some_iff.mp hr
            first | rw [rs_rdI (k := 6) hl rfl rfl qv12, Option.bind_some] | rw [Option.bind_some]
            obtain ⟨S13, qS13, hr⟩ := Option.bind_eq_some_iff.mp hr
            first | rw [rs_wrI (k := 34) hl rfl rfl qS13, Option.bind_some] | rw [Option.bind_some]
            first | rw [rs_fR (k := 35) hl (by decide) rfl, Option.bind_some] | rw [Option.bind_some]
            first | rw [rs_fI (k := 32) hl (by decide) rfl, Option.bind_some] | rw [Option.bind_some]
            first | rw [rs_fR (k := 5) hl (by decide) rfl, Option.bind_some] | rw [Option.bind_some]
            obtain ⟨v14, qv14, hr⟩ := Option.bind_eq_some_iff.mp hr
            first | rw [rs_rdI (k := 5) hl rfl rfl qv14, Option.bind_some] | rw [Option.bind_some]
            first | rw [rs_fR (k := 6) hl (by decide) rfl, Option.bind_some] | rw [Option.bind_some]
            obtain ⟨v15, qv15, hr⟩ := Option.bind_eq_some_iff.mp hr
            first | rw [rs_rdI (k := 6) hl rfl rfl qv15, Option.bind_some] | rw [Option.bind_some]
            obtain ⟨v16, S17, m18, hr⟩ := rb_s hr
            rw [if_pos (rs_lc hl)]
            rw [rt_255 hl m18, lb_I_r]
            obtain ⟨S19, qS19, hr⟩ := Option.bind_eq_some_iff.mp hr
            first | rw [rs_wrI (k := 35) hl rfl rfl qS19, Option.bind_some] | rw [Option.bind_some]
            first | rw [rs_fR (k := 36) hl (by decide) rfl, Option.bind_some] | rw [Option.bind_some]
            first | rw [rs_fI (k := 32) hl (by decide) rfl, Option.bind_some] | rw [Option.bind_some]
            obtain ⟨S20, qS20, hr⟩ := Option.bind_eq_some_iff.mp hr
            first | rw [rs_wrI (k := 36) hl rfl rfl qS20, Option.bind_some] | rw [Option.bind_some]
            first | rw [rs_fR (k := 37) hl (by decide) rfl, Option.bind_some] | rw [Option.bind_some]
            first | rw [rs_fI (k := 32) hl (by decide) rfl, Option.bind_some] | rw [Option.bind_some]
            obtain ⟨S21, qS21, hr⟩ := Option.bind_eq_some_iff.mp hr
            first | rw [rs_wrJ (k := 37) hl rfl rfl qS21, Option.bind_some] | rw [Option.bind_some]
            first | rw [rs_fI (k := 32) hl (by decide) rfl, Option.bind_some] | rw [Option.bind_some]
            obtain ⟨S22, eS22, hr⟩ := rb_S_s hr
            rw [rs_pI (k := 32) hl (by decide) rfl, Option.bind_some, ← eS22]
            exact r282_138_t hl (fun hr => ih hr) hr
      · rw [if_neg c25] at hr ⊢
        exact r282_138_t hl (fun hr => ih hr) hr
set_option maxRecDepth 20000 in
def rf_282 (a1 : Int32) (S : rs_S) : Option (Unit × rs_S) := rb_S (rs_setI S 32 (0 : Int32)) fun S1 => r282_7 lf_N a1 (0 : Int32) S1
set_option maxRecDepth 20000 in
theorem rt_282 {h : pm_H} (hl : 177 ≤ h.1.length) {a1 : Int32} {S S' : rs_S} {v : Unit} (hr : rf_282 a1 S = some (v, S')) : ll_282 (some 145) a1 (rs_h S h) = some (.inl none, rs_h S' h) := by
  unfold rf_282 at hr
  unfold ll_282
  obtain ⟨S1, eS1, hr⟩ := rb_S_s hr
  rw [rs_pI (k := 32) hl (by decide) rfl, Option.bind_some, ← eS1]
  exact r282_7_t hl lf_N hr
-- OfficeSheetModel.held(I)I
set_option maxRecDepth 20000 in
def rf_285 (a1 : Int32) (S : rs_S) : Option (Int32 × rs_S) := (rd_I S 35 a1).bind fun v1 => (rd_I S 10 v1).bind fun v2 => some (v2, S)
set_option maxRecDepth 20000 in
theorem rt_285 {h : pm_H} (hl : 177 ≤ h.1.length) {a1 : Int32} {S S' : rs_S} {v : Int32} (hr : rf_285 a1 S = some (v, S')) : ll_285 (some 145) a1 (rs_h S h) = some (.inl (some (.inl v)), rs_h S' h) := by
  unfold rf_285 at hr
  unfold ll_285
  first | rw [rs_fR (k := 10) hl (by decide) rfl, Option.bind_some] | rw [Option.bind_some]
  first | rw [rs_fR (k := 35) hl (by decide) rfl, Option.bind_some] | rw [Option.bind_some]
  obtain ⟨v1, qv1, hr⟩ := Option.bind_eq_some_iff.mp hr
  first | rw [rs_rdI (k := 35) hl rfl rfl qv1, Option.bind_some] | rw [Option.bind_some]
  obtain ⟨v2, qv2, hr⟩ := Option.bind_eq_some_iff.mp hr
  first | rw [rs_rdI (k := 10) hl rfl rfl qv2, Option.bind_some] | rw [Option.bind_some]
  cases hr
  rfl
-- OfficeSheetModel.position(III)I
set_option maxRecDepth 20000 in
def r288_3 : Nat → Int32 → Int32 → Int32 → Int32 → rs_S → Option (Int32 × rs_S)
  | 0 => fun _ _ _ _ _ => none
  | n + 1 => fun x1 x2 x3 x4 S => (rd_I S 20 (((2 : Int32) * x1) + x2)).bind fun v1 => if v1 ≤ x4 then some ((-1 : Int32), S) else rb (rf_242 x1 x2 x4 S) fun v2 S3 => if v2 = x3 then some (x4, S3) else r288_3 n x1 x2 x3 (x4 + (1 : Int32)) S3
set_option maxRecDepth 20000 in
theorem r288_3_t {h : pm_H} (hl : 177 ≤ h.1.length) : ∀ (n : Nat) {x1 : Int32} {x2 : Int32} {x3 : Int32} {x4 : Int32} {S S' : rs_S} {v : Int32}, r288_3 n x1 x2 x3 x4 S = some (v, S') → l288_3 n (some 145) x1 x2 x3 x4 (rs_h S h) = some (.inl (some (.inl v)), rs_h S' h) := by
  intro n
  induction n with
  | zero => intro x1 x2 x3 x4 S S' v hr; cases hr
  | succ n ih =>
    intro x1 x2 x3 x4 S S' v hr
    rw [r288_3] at hr
    rw [l288_3]
    try dsimp only at hr
    try dsimp only
    first | rw [rs_fR (k := 20) hl (by decide) rfl, Option.bind_some] | rw [Option.bind_some]
    obtain ⟨v1, qv1, hr⟩ := Option.bind_eq_some_iff.mp hr
    first | rw [rs_rdI (k := 20) hl rfl rfl qv1, Option.bind_some] | rw [Option.bind_some]
    by_cases c6 : v1 ≤ x4
    · rw [if_pos c6] at hr ⊢
      cases hr
      rfl
    · rw [if_neg c6] at hr ⊢
      obtain ⟨v2, S3, m4, hr⟩ := rb_s hr
      rw [if_pos (rs_lc hl)]
      rw [rt_242 hl m4, lb_I_r]
      by_cases c5 : v2 = x3
      · rw [if_pos c5] at hr ⊢
        cases hr
        rfl
      · rw [if_neg c5] at hr ⊢
        exact ih hr
set_option maxRecDepth 20000 in
def rf_288 (a1 : Int32) (a2 : Int32) (a3 : Int32) (S : rs_S) : Option (Int32 × rs_S) := r288_3 lf_N a1 a2 a3 (0 : Int32) S
set_option maxRecDepth 20000 in
theorem rt_288 {h : pm_H} (hl : 177 ≤ h.1.length) {a1 : Int32} {a2 : Int32} {a3 : Int32} {S S' : rs_S} {v : Int32} (hr : rf_288 a1 a2 a3 S = some (v, S')) : ll_288 (some 145) a1 a2 a3 (rs_h S h) = some (.inl (some (.inl v)), rs_h S' h) := by
  unfold rf_288 at hr
  unfold ll_288
  exact r288_3_t hl lf_N hr
-- OfficeSheetModel.isNamed(II)Z
set_option maxRecDepth 20000 in
def rf_287 (a1 : Int32) (a2 : Int32) (S : rs_S) : Option (Int32 × rs_S) := rb (rf_288 a1 (0 : Int32) (a2 - a2 / (128 : Int32) * (128 : Int32)) S) fun v1 S2 => if v1 < (0 : Int32) then some ((0 : Int32), S2) else rb (rf_288 a1 (1 : Int32) (a2 / (128 : Int32)) S2) fun v4 S5 => if v4 < (0 : Int32) then some ((0 : Int32), S5) else some ((1 : Int32), S5)
set_option maxRecDepth 20000 in
theorem rt_287 {h : pm_H} (hl : 177 ≤ h.1.length) {a1 : Int32} {a2 : Int32} {S S' : rs_S} {v : Int32} (hr : rf_287 a1 a2 S = some (v, S')) : ll_287 (some 145) a1 a2 (rs_h S h) = some (.inl (some (.inl v)), rs_h S' h) := by
  unfold rf_287 at hr
  unfold ll_287
  obtain ⟨v1, S2, m3, hr⟩ := rb_s hr
  rw [if_pos (rs_lc hl)]
  rw [rt_288 hl m3, lb_I_r]
  by_cases c8 : v1 < (0 : Int32)
  · rw [if_pos c8] at hr ⊢
    cases hr
    rfl
  · rw [if_neg c8] at hr ⊢
    obtain ⟨v4, S5, m6, hr⟩ := rb_s hr
    rw [if_pos (rs_lc hl)]
    rw [rt_288 hl m6, lb_I_r]
    by_cases c7 : v4 < (0 : Int32)
    · rw [if_pos c7] at hr ⊢
      cases hr
      rfl
    · rw [if_neg c7] at hr ⊢
      cases hr
      rfl
-- OfficeSheetModel.isBlock(I)Z
set_option maxRecDepth 20000 in
def rf_289 (a0 : Int32) (S : rs_S) : Option (Int32 × rs_S) := if a0 = (115 : Int32) then some ((1 : Int32), S) else if a0 = (110 : Int32) then some ((1 : Int32), S) else if a0 = (109 : Int32) then some ((1 : Int32), S) else some ((0 : Int32), S)
set_option maxRecDepth 20000 in
theorem rt_289 {h : pm_H} (hl : 177 ≤ h.1.length) {a0 : Int32} {S S' : rs_S} {v : Int32} (hr : rf_289 a0 S = some (v, S')) : ll_289 a0 (rs_h S h) = some (.inl (some (.inl v)), rs_h S' h) := by
  unfold rf_289 at hr
  unfold ll_289
  by_cases c3 : a0 = (115 : Int32)
  · rw [if_pos c3] at hr ⊢
    cases hr
    rfl
  · rw [if_neg c3] at hr ⊢
    by_cases c2 : a0 = (110 : Int32)
    · rw [if_pos c2] at hr ⊢
      cases hr
      rfl
    · rw [if_neg c2] at hr ⊢
      by_cases c1 : a0 = (109 : Int32)
      · rw [if_pos c1] at hr ⊢
        cases hr
        rfl
      · rw [if_neg c1] at hr ⊢
        cases hr
        rfl
-- OfficeSheetModel.isShownBlock(II)Z
set_option maxRecDepth 20000 in
def rf_290 (a1 : Int32) (a2 : Int32) (S : rs_S) : Option (Int32 × rs_S) := rb (rf_287 a1 (a2 - a2 / (16384 : Int32) * (16384 : Int32)) S) fun v1 S2 => if v1 = (0 : Int32) then some ((0 : Int32), S2) else rb (rf_287 a1 (a2 / (16384 : Int32)) S2) fun v4 S5 => if v4 = (0 : Int32) then some ((0 : Int32), S5) else some ((1 : Int32), S5)
set_option maxRecDepth 20000 in
theorem rt_290 {h : pm_H} (hl : 177 ≤ h.1.length) {a1 : Int32} {a2 : Int32} {S S' : rs_S} {v : Int32} (hr : rf_290 a1 a2 S = some (v, S')) : ll_290 (some 145) a1 a2 (rs_h S h) = some (.inl (some (.inl v)), rs_h S' h) := by
  unfold rf_290 at hr
  unfold ll_290
  obtain ⟨v1, S2, m3, hr⟩ := rb_s hr
  rw [if_pos (rs_lc hl)]
  rw [rt_287 hl m3, lb_I_r]
  by_cases c8 : v1 = (0 : Int32)
  · rw [if_pos c8] at hr ⊢
    cases hr
    rfl
  · rw [if_neg c8] at hr ⊢
    obtain ⟨v4, S5, m6, hr⟩ := rb_s hr
    rw [if_pos (rs_lc hl)]
    rw [rt_287 hl m6, lb_I_r]
    by_cases c7 : v4 = (0 : Int32)
    · rw [if_pos c7] at hr ⊢
      cases hr
      rfl
    · rw [if_neg c7] at hr ⊢
      cases hr
      rfl
-- OfficeSheetModel.edge(III)I
set_option maxRecDepth 20000 in
def r292_100 (x7 : Int32) (x8 : Int32) (s0 : Int32) (s1 : Int32) (S : rs_S) : Option (Int32 × rs_S) := if s1 = s0 then some (x7, S) else some (x8, S)
set_option maxRecDepth 20000 in
theorem r292_100_t {h : pm_H} (hl : 177 ≤ h.1.length) {x7 : Int32} {x8 : Int32} {s0 : Int32} {s1 : Int32} {S S' : rs_S} {v : Int32} (hr : r292_100 x7 x8 s0 s1 S = some (v, S')) : l292_100 x7 x8 s0 s1 (rs_h S h) = some (.inl (some (.inl v)), rs_h S' h) := by
  unfold r292_100 at hr
  unfold l292_100
  by_cases c1 : s1 = s0
  · rw [if_pos c1] at hr ⊢
    cases hr
    rfl
  · rw [if_neg c1] at hr ⊢
    cases hr
    rfl
set_option maxRecDepth 20000 in
def r292_88 (x7 : Int32) (x8 : Int32) (s0 : Int32) (S : rs_S) : Option (Int32 × rs_S) := if x8 ≤ x7 then r292_100 x7 x8 (0 : Int32) s0 S else r292_100 x7 x8 (1 : Int32) s0 S
set_option maxRecDepth 20000 in
theorem r292_88_t {h : pm_H} (hl : 177 ≤ h.1.length) {x7 : Int32} {x8 : Int32} {s0 : Int32} {S S' : rs_S} {v : Int32} (hr : r292_88 x7 x8 s0 S = some (v, S')) : l292_88 x7 x8 s0 (rs_h S h) = some (.inl (some (.inl v)), rs_h S' h) := by
  unfold r292_88 at hr
  unfold l292_88
  by_cases c1 : x8 ≤ x7
  · rw [if_pos c1] at hr ⊢
    exact r292_100_t hl hr
  · rw [if_neg c1] at hr ⊢
    exact r292_100_t hl hr
set_option maxRecDepth 20000 in
def r292_72 (x3 : Int32) (x7 : Int32) (s0 : Int32) (s1 : Int32) (s2 : Int32) (S : rs_S) : Option (Int32 × rs_S) := rb (rf_288 s2 s1 s0 S) fun v1 S2 => if (x3 - x3 / (2 : Int32) * (2 : Int32)) = (0 : Int32) then r292_88 x7 v1 (1 : Int32) S2 else r292_88 x7 v1 (0 : Int32) S2
set_option maxRecDepth 20000 in
theorem r292_72_t {h : pm_H} (hl : 177 ≤ h.1.length) {x3 : Int32} {x7 : Int32} {s0 : Int32} {s1 : Int32} {s2 : Int32} {S S' : rs_S} {v : Int32} (hr : r292_72 x3 x7 s0 s1 s2 S = some (v, S')) : l292_72 x3 x7 s0 s1 s2 (some 145) (rs_h S h) = some (.inl (some (.inl v)), rs_h S' h) := by
  unfold r292_72 at hr
  unfold l292_72
  obtain ⟨v1, S2, m3, hr⟩ := rb_s hr
  rw [if_pos (rs_lc hl)]
  rw [rt_288 hl m3, lb_I_r]
  by_cases c4 : (x3 - x3 / (2 : Int32) * (2 : Int32)) = (0 : Int32)
  · rw [if_pos c4] at hr ⊢
    exact r292_88_t hl hr
  · rw [if_neg c4] at hr ⊢
    exact r292_88_t hl hr
set_option maxRecDepth 20000 in
def r292_43 (x1 : Int32) (x3 : Int32) (x5 : Int32) (x6 : Int32) (s0 : Int32) (s1 : Int32) (s2 : Int32) (S : rs_S) : Option (Int32 × rs_S) := rb (rf_288 s2 s1 s0 S) fun v1 S2 => if x6 = (0 : Int32) then r292_72 x3 v1 (x5 - x5 / (128 : Int32) * (128 : Int32)) x6 x1 S2 else r292_72 x3 v1 (x5 / (128 : Int32)) x6 x1 S2
set_option maxRecDepth 20000 in
theorem r292_43_t {h : pm_H} (hl : 177 ≤ h.1.length) {x1 : Int32} {x3 : Int32} {x5 : Int32} {x6 : Int32} {s0 : Int32} {s1 : Int32} {s2 : Int32} {S S' : rs_S} {v : Int32} (hr : r292_43 x1 x3 x5 x6 s0 s1 s2 S = some (v, S')) : l292_43 (some 145) x1 x3 x5 x6 s0 s1 s2 (some 145) (rs_h S h) = some (.inl (some (.inl v)), rs_h S' h) := by
  unfold r292_43 at hr
  unfold l292_43
  obtain ⟨v1, S2, m3, hr⟩ := rb_s hr
  rw [if_pos (rs_lc hl)]
  rw [rt_288 hl m3, lb_I_r]
  by_cases c4 : x6 = (0 : Int32)
  · rw [if_pos c4] at hr ⊢
    exact r292_72_t hl hr
  · rw [if_neg c4] at hr ⊢
    exact r292_72_t hl hr
set_option maxRecDepth 20000 in
def rf_292 (a1 : Int32) (a2 : Int32) (a3 : Int32) (S : rs_S) : Option (Int32 × rs_S) := if (a3 / (2 : Int32)) = (0 : Int32) then r292_43 a1 a3 (a2 / (16384 : Int32)) (a3 / (2 : Int32)) ((a2 - a2 / (16384 : Int32) * (16384 : Int32)) - (a2 - a2 / (16384 : Int32) * (16384 : Int32)) / (128 : Int32) * (128 : Int32)) (a3 / (2 : Int32)) a1 S else r292_43 a1 a3 (a2 / (16384 : Int32)) (a3 / (2 : Int32)) ((a2 - a2 / (16384 : Int32) * (16384 : Int32)) / (128 : Int32)) (a3 / (2 : Int32)) a1 S
set_option maxRecDepth 20000 in
theorem rt_292 {h : pm_H} (hl : 177 ≤ h.1.length) {a1 : Int32} {a2 : Int32} {a3 : Int32} {S S' : rs_S} {v : Int32} (hr : rf_292 a1 a2 a3 S = some (v, S')) : ll_292 (some 145) a1 a2 a3 (rs_h S h) = some (.inl (some (.inl v)), rs_h S' h) := by
  unfold rf_292 at hr
  unfold ll_292
  by_cases c1 : (a3 / (2 : Int32)) = (0 : Int32)
  · rw [if_pos c1] at hr ⊢
    exact r292_43_t hl hr
  · rw [if_neg c1] at hr ⊢
    exact r292_43_t hl hr
-- OfficeSheetModel.blockLevel(II)I
set_option maxRecDepth 20000 in
def r291_93 (J11 : Int32 → Int32 → Int32 → Int32 → rs_S → Option (Int32 × rs_S)) (J32 : Int32 → Int32 → Int32 → Int32 → Int32 → rs_S → Option (Int32 × rs_S)) (x1 : Int32) (x2 : Int32) (x4 : Int32) (x5 : Int32) (s0 : Int32) (S : rs_S) : Option (Int32 × rs_S) := J32 x1 x2 s0 x4 (x5 + (1 : Int32)) S
set_option maxRecDepth 20000 in
theorem r291_93_t {h : pm_H} (hl : 177 ≤ h.1.length) {J11 : Int32 → Int32 → Int32 → Int32 → rs_S → Option (Int32 × rs_S)} {K11 : Option Nat → Int32 → Int32 → Int32 → Int32 → pm_H → tm_L} {J32 : Int32 → Int32 → Int32 → Int32 → Int32 → rs_S → Option (Int32 × rs_S)} {K32 : Option Nat → Int32 → Int32 → Int32 → Int32 → Int32 → pm_H → tm_L} (hJ11 : ∀ {x1 : Int32} {x2 : Int32} {x3 : Int32} {x4 : Int32} {S S' : rs_S} {v : Int32}, J11 x1 x2 x3 x4 S = some (v, S') → K11 (some 145) x1 x2 x3 x4 (rs_h S h) = some (.inl (some (.inl v)), rs_h S' h)) (hJ32 : ∀ {x1 : Int32} {x2 : Int32} {x3 : Int32} {x4 : Int32} {x5 : Int32} {S S' : rs_S} {v : Int32}, J32 x1 x2 x3 x4 x5 S = some (v, S') → K32 (some 145) x1 x2 x3 x4 x5 (rs_h S h) = some (.inl (some (.inl v)), rs_h S' h)) {x1 : Int32} {x2 : Int32} {x4 : Int32} {x5 : Int32} {s0 : Int32} {S S' : rs_S} {v : Int32} (hr : r291_93 J11 J32 x1 x2 x4 x5 s0 S = some (v, S')) : l291_93 K11 K32 (some 145) x1 x2 x4 x5 s0 (rs_h S h) = some (.inl (some (.inl v)), rs_h S' h) := by
  unfold r291_93 at hr
  unfold l291_93
  exact hJ32 hr
set_option maxRecDepth 20000 in
def r291_92 (J11 : Int32 → Int32 → Int32 → Int32 → rs_S → Option (Int32 × rs_S)) (J32 : Int32 → Int32 → Int32 → Int32 → Int32 → rs_S → Option (Int32 × rs_S)) (x1 : Int32) (x2 : Int32) (x3 : Int32) (x4 : Int32) (x5 : Int32) (S : rs_S) : Option (Int32 × rs_S) := r291_93 J11 J32 x1 x2 x4 x5 x3 S
set_option maxRecDepth 20000 in
theorem r291_92_t {h : pm_H} (hl : 177 ≤ h.1.length) {J11 : Int32 → Int32 → Int32 → Int32 → rs_S → Option (Int32 × rs_S)} {K11 : Option Nat → Int32 → Int32 → Int32 → Int32 → pm_H → tm_L} {J32 : Int32 → Int32 → Int32 → Int32 → Int32 → rs_S → Option (Int32 × rs_S)} {K32 : Option Nat → Int32 → Int32 → Int32 → Int32 → Int32 → pm_H → tm_L} (hJ11 : ∀ {x1 : Int32} {x2 : Int32} {x3 : Int32} {x4 : Int32} {S S' : rs_S} {v : Int32}, J11 x1 x2 x3 x4 S = some (v, S') → K11 (some 145) x1 x2 x3 x4 (rs_h S h) = some (.inl (some (.inl v)), rs_h S' h)) (hJ32 : ∀ {x1 : Int32} {x2 : Int32} {x3 : Int32} {x4 : Int32} {x5 : Int32} {S S' : rs_S} {v : Int32}, J32 x1 x2 x3 x4 x5 S = some (v, S') → K32 (some 145) x1 x2 x3 x4 x5 (rs_h S h) = some (.inl (some (.inl v)), rs_h S' h)) {x1 : Int32} {x2 : Int32} {x3 : Int32} {x4 : Int32} {x5 : Int32} {S S' : rs_S} {v : Int32} (hr : r291_92 J11 J32 x1 x2 x3 x4 x5 S = some (v, S')) : l291_92 K11 K32 (some 145) x1 x2 x3 x4 x5 (rs_h S h) = some (.inl (some (.inl v)), rs_h S' h) := by
  unfold r291_92 at hr
  unfold l291_92
  exact r291_93_t hl hJ11 hJ32 hr
set_option maxRecDepth 20000 in
def r291_32 (J11 : Int32 → Int32 → Int32 → Int32 → rs_S → Option (Int32 × rs_S)) : Nat → Int32 → Int32 → Int32 → Int32 → Int32 → rs_S → Option (Int32 × rs_S)
  | 0 => fun _ _ _ _ _ _ => none
  | n + 1 => fun x1 x2 x3 x4 x5 S => rb (rf_292 x1 x2 (3 : Int32) S) fun v1 S2 => if v1 < x5 then J11 x1 x2 x3 (x4 + (1 : Int32)) S2 else rb (rf_242 x1 (0 : Int32) x4 S2) fun v4 S5 => rb (rf_242 x1 (1 : Int32) x5 S5) fun v7 S8 => rb (rf_283 v4 v7 S8) fun v10 S11 => if v10 < (0 : Int32) then r291_92 J11 (r291_32 J11 n) x1 x2 x3 x4 x5 S11 else (rd_I S11 36 v10).bind fun v13 => if v13 ≤ x3 then r291_92 J11 (r291_32 J11 n) x1 x2 x3 x4 x5 S11 else (rd_I S11 36 v10).bind fun v14 => r291_93 J11 (r291_32 J11 n) x1 x2 x4 x5 v14 S11
set_option maxRecDepth 20000 in
theorem r291_32_t {h : pm_H} (hl : 177 ≤ h.1.length) {J11 : Int32 → Int32 → Int32 → Int32 → rs_S → Option (Int32 × rs_S)} {K11 : Option Nat → Int32 → Int32 → Int32 → Int32 → pm_H → tm_L} (hJ11 : ∀ {x1 : Int32} {x2 : Int32} {x3 : Int32} {x4 : Int32} {S S' : rs_S} {v : Int32}, J11 x1 x2 x3 x4 S = some (v, S') → K11 (some 145) x1 x2 x3 x4 (rs_h S h) = some (.inl (some (.inl v)), rs_h S' h)) : ∀ (n : Nat) {x1 : Int32} {x2 : Int32} {x3 : Int32} {x4 : Int32} {x5 : Int32} {S S' : rs_S} {v : Int32}, r291_32 J11 n x1 x2 x3 x4 x5 S = some (v, S') → l291_32 K11 n (some 145) x1 x2 x3 x4 x5 (rs_h S h) = some (.inl (some (.inl v)), rs_h S' h) := by
  intro n
  induction n with
  | zero => intro x1 x2 x3 x4 x5 S S' v hr; cases hr
  | succ n ih =>
    intro x1 x2 x3 x4 x5 S S' v hr
    rw [r291_32] at hr
    rw [l291_32]
    try dsimp only at hr
    try dsimp only
    obtain ⟨v1, S2, m3, hr⟩ := rb_s hr
    rw [if_pos (rs_lc hl)]
    rw [rt_292 hl m3, lb_I_r]
    by_cases c17 : v1 < x5
    · rw [if_pos c17] at hr ⊢
      exact hJ11 hr
    · rw [if_neg c17] at hr ⊢
      obtain ⟨v4, S5, m6, hr⟩ := rb_s hr
      rw [if_pos (rs_lc hl)]
      rw [rt_242 hl m6, lb_I_r]
      obtain ⟨v7, S8, m9, hr⟩ := rb_s hr
      rw [if_pos (rs_lc hl)]
      rw [rt_242 hl m9, lb_I_r]
      obtain ⟨v10, S11, m12, hr⟩ := rb_s hr
      rw [if_pos (rs_lc hl)]
      rw [rt_283 hl m12, lb_I_r]
      by_cases c16 : v10 < (0 : Int32)
      · rw [if_pos c16] at hr ⊢
        exact r291_92_t hl hJ11 (fun hr => ih hr) hr
      · rw [if_neg c16] at hr ⊢
        first | rw [rs_fR (k := 36) hl (by decide) rfl, Option.bind_some] | rw [Option.bind_some]
        obtain ⟨v13, qv13, hr⟩ := Option.bind_eq_some_iff.mp hr
        first | rw [rs_rdI (k := 36) hl rfl rfl qv13, Option.bind_some] | rw [Option.bind_some]
        by_cases c15 : v13 ≤ x3
        · rw [if_pos c15] at hr ⊢
          exact r291_92_t hl hJ11 (fun hr => ih hr) hr
        · rw [if_neg c15] at hr ⊢
          first | rw [rs_fR (k := 36) hl (by decide) rfl, Option.bind_some] | rw [Option.bind_some]
          obtain ⟨v14, qv14, hr⟩ := Option.bind_eq_some_iff.mp hr
          first | rw [rs_rdI (k := 36) hl rfl rfl qv14, Option.bind_some] | rw [Option.bind_some]
          exact r291_93_t hl hJ11 (fun hr => ih hr) hr
set_option maxRecDepth 20000 in
def r291_11 : Nat → Int32 → Int32 → Int32 → Int32 → rs_S → Option (Int32 × rs_S)
  | 0 => fun _ _ _ _ _ => none
  | n + 1 => fun x1 x2 x3 x4 S => rb (rf_292 x1 x2 (1 : Int32) S) fun v1 S2 => if v1 < x4 then some (x3, S2) else rb (rf_292 x1 x2 (2 : Int32) S2) fun v4 S5 => r291_32 (r291_11 n) lf_N x1 x2 x3 x4 v4 S5
set_option maxRecDepth 20000 in
theorem r291_11_t {h : pm_H} (hl : 177 ≤ h.1.length) : ∀ (n : Nat) {x1 : Int32} {x2 : Int32} {x3 : Int32} {x4 : Int32} {S S' : rs_S} {v : Int32}, r291_11 n x1 x2 x3 x4 S = some (v, S') → l291_11 n (some 145) x1 x2 x3 x4 (rs_h S h) = some (.inl (some (.inl v)), rs_h S' h) := by
  intro n
  induction n with
  | zero => intro x1 x2 x3 x4 S S' v hr; cases hr
  | succ n ih =>
    intro x1 x2 x3 x4 S S' v hr
    rw [r291_11] at hr
    rw [l291_11]
    try dsimp only at hr
    try dsimp only
    obtain ⟨v1, S2, m3, hr⟩ := rb_s hr
    rw [if_pos (rs_lc hl)]
    rw [rt_292 hl m3, lb_I_r]
    by_cases c7 : v1 < x4
    · rw [if_pos c7] at hr ⊢
      cases hr
      rfl
    · rw [if_neg c7] at hr ⊢
      obtain ⟨v4, S5, m6, hr⟩ := rb_s hr
      rw [if_pos (rs_lc hl)]
      rw [rt_292 hl m6, lb_I_r]
      exact r291_32_t hl (fun hr => ih hr) lf_N hr
set_option maxRecDepth 20000 in
def rf_291 (a1 : Int32) (a2 : Int32) (S : rs_S) : Option (Int32 × rs_S) := rb (rf_292 a1 a2 (0 : Int32) S) fun v1 S2 => r291_11 lf_N a1 a2 (0 : Int32) v1 S2
set_option maxRecDepth 20000 in
theorem rt_291 {h : pm_H} (hl : 177 ≤ h.1.length) {a1 : Int32} {a2 : Int32} {S S' : rs_S} {v : Int32} (hr : rf_291 a1 a2 S = some (v, S')) : ll_291 (some 145) a1 a2 (rs_h S h) = some (.inl (some (.inl v)), rs_h S' h) := by
  unfold rf_291 at hr
  unfold ll_291
  obtain ⟨v1, S2, m3, hr⟩ := rb_s hr
  rw [if_pos (rs_lc hl)]
  rw [rt_292 hl m3, lb_I_r]
  exact r291_11_t hl lf_N hr
