/-! of the reference: 253, 257, 256, 258, 259, 260, 261, 262, 263, 267, 268, 269, 270, 266, 273 -/
-- OfficeSheetModel.undo(I)Z
set_option maxRecDepth 20000 in
def r253_40 (x1 : Int32) (s0 : Int32) (S : rs_S) : Option (Int32 × rs_S) := rb_S (rs_setI S 0 s0) fun S1 => if (S1.1 0) = (0 : Int32) then (rd_I S1 16 ((4 : Int32) * x1)).bind fun v2 => rb (rf_254 x1 ((((40 : Int32) * x1) + v2) - (1 : Int32)) S1) fun v3 S4 => if v3 = (0 : Int32) then some ((0 : Int32), S4) else some ((1 : Int32), S4) else some ((0 : Int32), S1)
set_option maxRecDepth 20000 in
theorem r253_40_t {h : pm_H} (hl : 177 ≤ h.1.length) {x1 : Int32} {s0 : Int32} {S S' : rs_S} {v : Int32} (hr : r253_40 x1 s0 S = some (v, S')) : l253_40 (some 145) x1 s0 (some 145) (rs_h S h) = some (.inl (some (.inl v)), rs_h S' h) := by
  unfold r253_40 at hr
  unfold l253_40
  obtain ⟨S1, eS1, hr⟩ := rb_S_s hr
  rw [rs_pI (k := 0) hl (by decide) rfl, Option.bind_some, ← eS1]
  first | rw [rs_fI (k := 0) hl (by decide) rfl, Option.bind_some] | rw [Option.bind_some]
  by_cases c7 : (S1.1 0) = (0 : Int32)
  · rw [if_pos c7] at hr ⊢
    first | rw [rs_fR (k := 16) hl (by decide) rfl, Option.bind_some] | rw [Option.bind_some]
    obtain ⟨v2, qv2, hr⟩ := Option.bind_eq_some_iff.mp hr
    first | rw [rs_rdI (k := 16) hl rfl rfl qv2, Option.bind_some] | rw [Option.bind_some]
    obtain ⟨v3, S4, m5, hr⟩ := rb_s hr
    rw [if_pos (rs_lc hl)]
    rw [rt_254 hl m5, lb_I_r]
    by_cases c6 : v3 = (0 : Int32)
    · rw [if_pos c6] at hr ⊢
      cases hr
      rfl
    · rw [if_neg c6] at hr ⊢
      cases hr
      rfl
  · rw [if_neg c7] at hr ⊢
    cases hr
    rfl
set_option maxRecDepth 20000 in
def rf_253 (a1 : Int32) (S : rs_S) : Option (Int32 × rs_S) := rb (rf_237 a1 S) fun v1 S2 => if v1 = (0 : Int32) then r253_40 a1 (1 : Int32) S2 else (rd_I S2 16 ((4 : Int32) * a1)).bind fun v4 => if v4 = (0 : Int32) then r253_40 a1 (2 : Int32) S2 else rb (rf_240 a1 S2) fun v5 S6 => if v5 = (0 : Int32) then r253_40 a1 (0 : Int32) S6 else r253_40 a1 (3 : Int32) S6
set_option maxRecDepth 20000 in
theorem rt_253 {h : pm_H} (hl : 177 ≤ h.1.length) {a1 : Int32} {S S' : rs_S} {v : Int32} (hr : rf_253 a1 S = some (v, S')) : ll_253 (some 145) a1 (rs_h S h) = some (.inl (some (.inl v)), rs_h S' h) := by
  unfold rf_253 at hr
  unfold ll_253
  obtain ⟨v1, S2, m3, hr⟩ := rb_s hr
  rw [rt_237 hl m3, lb_I_r]
  by_cases c10 : v1 = (0 : Int32)
  · rw [if_pos c10] at hr ⊢
    exact r253_40_t hl hr
  · rw [if_neg c10] at hr ⊢
    first | rw [rs_fR (k := 16) hl (by decide) rfl, Option.bind_some] | rw [Option.bind_some]
    obtain ⟨v4, qv4, hr⟩ := Option.bind_eq_some_iff.mp hr
    first | rw [rs_rdI (k := 16) hl rfl rfl qv4, Option.bind_some] | rw [Option.bind_some]
    by_cases c9 : v4 = (0 : Int32)
    · rw [if_pos c9] at hr ⊢
      exact r253_40_t hl hr
    · rw [if_neg c9] at hr ⊢
      obtain ⟨v5, S6, m7, hr⟩ := rb_s hr
      rw [if_pos (rs_lc hl)]
      rw [rt_240 hl m7, lb_I_r]
      by_cases c8 : v5 = (0 : Int32)
      · rw [if_pos c8] at hr ⊢
        exact r253_40_t hl hr
      · rw [if_neg c8] at hr ⊢
        exact r253_40_t hl hr
-- OfficeSheetModel.isReady(II)Z
set_option maxRecDepth 20000 in
def rf_257 (a1 : Int32) (a2 : Int32) (S : rs_S) : Option (Int32 × rs_S) := (rd_I S 16 (((3 : Int32) * a1) + a2)).bind fun v1 => (rd_I S 16 (((3 : Int32) * a1) + a2)).bind fun v2 => if v2 = (40 : Int32) then some ((0 : Int32), S) else (rd_I S 18 (((120 : Int32) * a1) + (((40 : Int32) * a2) + v1))).bind fun v3 => if v3 = (0 : Int32) then some ((0 : Int32), S) else (rd_I S 4 ((3 : Int32) * (((40 : Int32) * a2) + v1))).bind fun v4 => (rd_I S 16 ((3 : Int32) * a1)).bind fun v5 => if v5 < v4 then some ((0 : Int32), S) else (rd_I S 4 (((3 : Int32) * (((40 : Int32) * a2) + v1)) + (1 : Int32))).bind fun v6 => (rd_I S 16 (((3 : Int32) * a1) + (1 : Int32))).bind fun v7 => if v7 < v6 then some ((0 : Int32), S) else (rd_I S 4 (((3 : Int32) * (((40 : Int32) * a2) + v1)) + (2 : Int32))).bind fun v8 => (rd_I S 16 (((3 : Int32) * a1) + (2 : Int32))).bind fun v9 => if v9 < v8 then some ((0 : Int32), S) else some ((1 : Int32), S)
set_option maxRecDepth 20000 in
theorem rt_257 {h : pm_H} (hl : 177 ≤ h.1.length) {a1 : Int32} {a2 : Int32} {S S' : rs_S} {v : Int32} (hr : rf_257 a1 a2 S = some (v, S')) : ll_257 (some 145) a1 a2 (rs_h S h) = some (.inl (some (.inl v)), rs_h S' h) := by
  unfold rf_257 at hr
  unfold ll_257
  first | rw [rs_fR (k := 16) hl (by decide) rfl, Option.bind_some] | rw [Option.bind_some]
  obtain ⟨v1, qv1, hr⟩ := Option.bind_eq_some_iff.mp hr
  first | rw [rs_rdI (k := 16) hl rfl rfl qv1, Option.bind_some] | rw [Option.bind_some]
  first | rw [rs_fR (k := 16) hl (by decide) rfl, Option.bind_some] | rw [Option.bind_some]
  obtain ⟨v2, qv2, hr⟩ := Option.bind_eq_some_iff.mp hr
  first | rw [rs_rdI (k := 16) hl rfl rfl qv2, Option.bind_some] | rw [Option.bind_some]
  by_cases c14 : v2 = (40 : Int32)
  · rw [if_pos c14] at hr ⊢
    cases hr
    rfl
  · rw [if_neg c14] at hr ⊢
    first | rw [rs_fR (k := 18) hl (by decide) rfl, Option.bind_some] | rw [Option.bind_some]
    obtain ⟨v3, qv3, hr⟩ := Option.bind_eq_some_iff.mp hr
    first | rw [rs_rdZ (k := 18) hl rfl rfl qv3, Option.bind_some] | rw [Option.bind_some]
    by_cases c13 : v3 = (0 : Int32)
    · rw [if_pos c13] at hr ⊢
      cases hr
      rfl
    · rw [if_neg c13] at hr ⊢
      first | rw [rs_fR (k := 4) hl (by decide) rfl, Option.bind_some] | rw [Option.bind_some]
      obtain ⟨v4, qv4, hr⟩ := Option.bind_eq_some_iff.mp hr
      first | rw [rs_rdI (k := 4) hl rfl rfl qv4, Option.bind_some] | rw [Option.bind_some]
      first | rw [rs_fR (k := 16) hl (by decide) rfl, Option.bind_some] | rw [Option.bind_some]
      obtain ⟨v5, qv5, hr⟩ := Option.bind_eq_some_iff.mp hr
      first | rw [rs_rdI (k := 16) hl rfl rfl qv5, Option.bind_some] | rw [Option.bind_some]
      by_cases c12 : v5 < v4
      · rw [if_pos c12] at hr ⊢
        cases hr
        rfl
      · rw [if_neg c12] at hr ⊢
        first | rw [rs_fR (k := 4) hl (by decide) rfl, Option.bind_some] | rw [Option.bind_some]
        obtain ⟨v6, qv6, hr⟩ := Option.bind_eq_some_iff.mp hr
        first | rw [rs_rdI (k := 4) hl rfl rfl qv6, Option.bind_some] | rw [Option.bind_some]
        first | rw [rs_fR (k := 16) hl (by decide) rfl, Option.bind_some] | rw [Option.bind_some]
        obtain ⟨v7, qv7, hr⟩ := Option.bind_eq_some_iff.mp hr
        first | rw [rs_rdI (k := 16) hl rfl rfl qv7, Option.bind_some] | rw [Option.bind_some]
        by_cases c11 : v7 < v6
        · rw [if_pos c11] at hr ⊢
          cases hr
          rfl
        · rw [if_neg c11] at hr ⊢
          first | rw [rs_fR (k := 4) hl (by decide) rfl, Option.bind_some] | rw [Option.bind_some]
          obtain ⟨v8, qv8, hr⟩ := Option.bind_eq_some_iff.mp hr
          first | rw [rs_rdI (k := 4) hl rfl rfl qv8, Option.bind_some] | rw [Option.bind_some]
          first | rw [rs_fR (k := 16) hl (by decide) rfl, Option.bind_some] | rw [Option.bind_some]
          obtain ⟨v9, qv9, hr⟩ := Option.bind_eq_some_iff.mp hr
          first | rw [rs_rdI (k := 16) hl rfl rfl qv9, Option.bind_some] | rw [Option.bind_some]
          by_cases c10 : v9 < v8
          · rw [if_pos c10] at hr ⊢
            cases hr
            rfl
          · rw [if_neg c10] at hr ⊢
            cases hr
            rfl
-- OfficeSheetModel.deliver(III)I
set_option maxRecDepth 20000 in
def r256_164 (J119 : Int32 → Int32 → Int32 → rs_S → Option (Int32 × rs_S)) (x1 : Int32) (x5 : Int32) (s0 : Int32) (S : rs_S) : Option (Int32 × rs_S) := if s0 < (0 : Int32) then J119 x1 x5 s0 S else (rd_I S 16 (((3 : Int32) * x1) + s0)).bind fun v1 => (wr_Z S 18 (((120 : Int32) * x1) + (((40 : Int32) * s0) + v1)) (0 : Int32)).bind fun S2 => rb (rf_247 x1 (((40 : Int32) * s0) + v1) S2) fun _ S4 => J119 x1 x5 s0 S4
set_option maxRecDepth 20000 in
theorem r256_164_t {h : pm_H} (hl : 177 ≤ h.1.length) {J119 : Int32 → Int32 → Int32 → rs_S → Option (Int32 × rs_S)} {K119 : Option Nat → Int32 → Int32 → Int32 → pm_H → tm_L} (hJ119 : ∀ {x1 : Int32} {x5 : Int32} {x6 : Int32} {S S' : rs_S} {v : Int32}, J119 x1 x5 x6 S = some (v, S') → K119 (some 145) x1 x5 x6 (rs_h S h) = some (.inl (some (.inl v)), rs_h S' h)) {x1 : Int32} {x5 : Int32} {s0 : Int32} {S S' : rs_S} {v : Int32} (hr : r256_164 J119 x1 x5 s0 S = some (v, S')) : l256_164 K119 (some 145) x1 x5 s0 (rs_h S h) = some (.inl (some (.inl v)), rs_h S' h) := by
  unfold r256_164 at hr
  unfold l256_164
  by_cases c6 : s0 < (0 : Int32)
  · rw [if_pos c6] at hr ⊢
    exact hJ119 hr
  · rw [if_neg c6] at hr ⊢
    first | rw [rs_fR (k := 16) hl (by decide) rfl, Option.bind_some] | rw [Option.bind_some]
    obtain ⟨v1, qv1, hr⟩ := Option.bind_eq_some_iff.mp hr
    first | rw [rs_rdI (k := 16) hl rfl rfl qv1, Option.bind_some] | rw [Option.bind_some]
    first | rw [rs_fR (k := 18) hl (by decide) rfl, Option.bind_some] | rw [Option.bind_some]
    obtain ⟨S2, qS2, hr⟩ := Option.bind_eq_some_iff.mp hr
    first | rw [rs_wrZ (k := 18) hl rfl rfl qS2, Option.bind_some] | rw [Option.bind_some]
    obtain ⟨v3, S4, m5, hr⟩ := rb_s hr
    rw [if_pos (rs_lc hl)]
    rw [rt_247 hl m5, lb_V_r]
    exact hJ119 hr
set_option maxRecDepth 20000 in
def r256_119 : Nat → Int32 → Int32 → Int32 → rs_S → Option (Int32 × rs_S)
  | 0 => fun _ _ _ _ => none
  | n + 1 => fun x1 x5 x6 S => if x6 < (0 : Int32) then rb (rf_244 x1 x5 S) fun v1 S2 => if v1 = (0 : Int32) then some ((2 : Int32), S2) else some ((1 : Int32), S2) else rb (rf_257 x1 (0 : Int32) S) fun v5 S6 => if v5 = (0 : Int32) then rb (rf_257 x1 (1 : Int32) S6) fun v8 S9 => if v8 = (0 : Int32) then rb (rf_257 x1 (2 : Int32) S9) fun v11 S12 => if v11 = (0 : Int32) then r256_164 (r256_119 n) x1 x5 (-1 : Int32) S12 else r256_164 (r256_119 n) x1 x5 (2 : Int32) S12 else r256_164 (r256_119 n) x1 x5 (1 : Int32) S9 else r256_164 (r256_119 n) x1 x5 (0 : Int32) S6
set_option maxRecDepth 20000 in
theorem r256_119_t {h : pm_H} (hl : 177 ≤ h.1.length) : ∀ (n : Nat) {x1 : Int32} {x5 : Int32} {x6 : Int32} {S S' : rs_S} {v : Int32}, r256_119 n x1 x5 x6 S = some (v, S') → l256_119 n (some 145) x1 x5 x6 (rs_h S h) = some (.inl (some (.inl v)), rs_h S' h) := by
  intro n
  induction n with
  | zero => intro x1 x5 x6 S S' v hr; cases hr
  | succ n ih =>
    intro x1 x5 x6 S S' v hr
    rw [r256_119] at hr
    rw [l256_119]
    try dsimp only at hr
    try dsimp only
    by_cases c17 : x6 < (0 : Int32)
    · rw [if_pos c17] at hr ⊢
      obtain ⟨v1, S2, m3, hr⟩ := rb_s hr
      rw [if_pos (rs_lc hl)]
      rw [rt_244 hl m3, lb_I_r]
      by_cases c4 : v1 = (0 : Int32)
      · rw [if_pos c4] at hr ⊢
        cases hr
        rfl
      · rw [if_neg c4] at hr ⊢
        cases hr
        rfl
    · rw [if_neg c17] at hr ⊢
      obtain ⟨v5, S6, m7, hr⟩ := rb_s hr
      rw [if_pos (rs_lc hl)]
      rw [rt_257 hl m7, lb_I_r]
      by_cases c16 : v5 = (0 : Int32)
      · rw [if_pos c16] at hr ⊢
        obtain ⟨v8, S9, m10, hr⟩ := rb_s hr
        rw [if_pos (rs_lc hl)]
        rw [rt_257 hl m10, lb_I_r]
        by_cases c15 : v8 = (0 : Int32)
        · rw [if_pos c15] at hr ⊢
          obtain ⟨v11, S12, m13, hr⟩ := rb_s hr
          rw [if_pos (rs_lc hl)]
          rw [rt_257 hl m13, lb_I_r]
          by_cases c14 : v11 = (0 : Int32)
          · rw [if_pos c14] at hr ⊢
            exact r256_164_t hl (fun hr => ih hr) hr
          · rw [if_neg c14] at hr ⊢
            exact r256_164_t hl (fun hr => ih hr) hr
        · rw [if_neg c15] at hr ⊢
          exact r256_164_t hl (fun hr => ih hr) hr
      · rw [if_neg c16] at hr ⊢
        exact r256_164_t hl (fun hr => ih hr) hr
set_option maxRecDepth 20000 in
def r256_54 (x1 : Int32) (x2 : Int32) (x3 : Int32) (s0 : Int32) (S : rs_S) : Option (Int32 × rs_S) := rb_S (rs_setI S 0 s0) fun S1 => if (S1.1 0) ≤ (0 : Int32) then rb (rf_244 x1 ((((40 : Int32) * x2) + x3) - (1 : Int32)) S1) fun v2 S3 => if v2 = (0 : Int32) then (rd_I S3 18 (((120 : Int32) * x1) + ((((40 : Int32) * x2) + x3) - (1 : Int32)))).bind fun v5 => if v5 = (0 : Int32) then (wr_Z S3 18 (((120 : Int32) * x1) + ((((40 : Int32) * x2) + x3) - (1 : Int32))) (1 : Int32)).bind fun S6 => r256_119 lf_N x1 ((((40 : Int32) * x2) + x3) - (1 : Int32)) (0 : Int32) S6 else some ((0 : Int32), S3) else some ((0 : Int32), S3) else some ((0 : Int32), S1)
set_option maxRecDepth 20000 in
theorem r256_54_t {h : pm_H} (hl : 177 ≤ h.1.length) {x1 : Int32} {x2 : Int32} {x3 : Int32} {s0 : Int32} {S S' : rs_S} {v : Int32} (hr : r256_54 x1 x2 x3 s0 S = some (v, S')) : l256_54 (some 145) x1 x2 x3 s0 (some 145) (rs_h S h) = some (.inl (some (.inl v)), rs_h S' h) := by
  unfold r256_54 at hr
  unfold l256_54
  obtain ⟨S1, eS1, hr⟩ := rb_S_s hr
  rw [rs_pI (k := 0) hl (by decide) rfl, Option.bind_some, ← eS1]
  first | rw [rs_fI (k := 0) hl (by decide) rfl, Option.bind_some] | rw [Option.bind_some]
  by_cases c9 : (S1.1 0) ≤ (0 : Int32)
  · rw [if_pos c9] at hr ⊢
    obtain ⟨v2, S3, m4, hr⟩ := rb_s hr
    rw [if_pos (rs_lc hl)]
    rw [rt_244 hl m4, lb_I_r]
    by_cases c8 : v2 = (0 : Int32)
    · rw [if_pos c8] at hr ⊢
      first | rw [rs_fR (k := 18) hl (by decide) rfl, Option.bind_some] | rw [Option.bind_some]
      obtain ⟨v5, qv5, hr⟩ := Option.bind_eq_some_iff.mp hr
      first | rw [rs_rdZ (k := 18) hl rfl rfl qv5, Option.bind_some] | rw [Option.bind_some]
      by_cases c7 : v5 = (0 : Int32)
      · rw [if_pos c7] at hr ⊢
        first | rw [rs_fR (k := 18) hl (by decide) rfl, Option.bind_some] | rw [Option.bind_some]
        obtain ⟨S6, qS6, hr⟩ := Option.bind_eq_some_iff.mp hr
        first | rw [rs_wrZ (k := 18) hl rfl rfl qS6, Option.bind_some] | rw [Option.bind_some]
        exact r256_119_t hl lf_N hr
      · rw [if_neg c7] at hr ⊢
        cases hr
        rfl
    · rw [if_neg c8] at hr ⊢
      cases hr
      rfl
  · rw [if_neg c9] at hr ⊢
    cases hr
    rfl
set_option maxRecDepth 20000 in
def r256_53 (x1 : Int32) (x2 : Int32) (x3 : Int32) (S : rs_S) : Option (Int32 × rs_S) := r256_54 x1 x2 x3 (1 : Int32) S
set_option maxRecDepth 20000 in
theorem r256_53_t {h : pm_H} (hl : 177 ≤ h.1.length) {x1 : Int32} {x2 : Int32} {x3 : Int32} {S S' : rs_S} {v : Int32} (hr : r256_53 x1 x2 x3 S = some (v, S')) : l256_53 (some 145) x1 x2 x3 (some 145) (rs_h S h) = some (.inl (some (.inl v)), rs_h S' h) := by
  unfold r256_53 at hr
  unfold l256_53
  exact r256_54_t hl hr
set_option maxRecDepth 20000 in
def r256_24 (x1 : Int32) (x2 : Int32) (x3 : Int32) (s0 : Int32) (S : rs_S) : Option (Int32 × rs_S) := if s0 = (0 : Int32) then r256_53 x1 x2 x3 S else if x3 < (1 : Int32) then r256_53 x1 x2 x3 S else (rd_I S 16 ((4 : Int32) * x2)).bind fun v1 => if v1 < x3 then r256_53 x1 x2 x3 S else r256_54 x1 x2 x3 (0 : Int32) S
set_option maxRecDepth 20000 in
theorem r256_24_t {h : pm_H} (hl : 177 ≤ h.1.length) {x1 : Int32} {x2 : Int32} {x3 : Int32} {s0 : Int32} {S S' : rs_S} {v : Int32} (hr : r256_24 x1 x2 x3 s0 S = some (v, S')) : l256_24 (some 145) x1 x2 x3 s0 (rs_h S h) = some (.inl (some (.inl v)), rs_h S' h) := by
  unfold r256_24 at hr
  unfold l256_24
  by_cases c4 : s0 = (0 : Int32)
  · rw [if_pos c4] at hr ⊢
    exact r256_53_t hl hr
  · rw [if_neg c4] at hr ⊢
    by_cases c3 : x3 < (1 : Int32)
    · rw [if_pos c3] at hr ⊢
      exact r256_53_t hl hr
    · rw [if_neg c3] at hr ⊢
      first | rw [rs_fR (k := 16) hl (by decide) rfl, Option.bind_some] | rw [Option.bind_some]
      obtain ⟨v1, qv1, hr⟩ := Option.bind_eq_some_iff.mp hr
      first | rw [rs_rdI (k := 16) hl rfl rfl qv1, Option.bind_some] | rw [Option.bind_some]
      by_cases c2 : v1 < x3
      · rw [if_pos c2] at hr ⊢
        exact r256_53_t hl hr
      · rw [if_neg c2] at hr ⊢
        exact r256_54_t hl hr
set_option maxRecDepth 20000 in
def r256_23 (x1 : Int32) (x2 : Int32) (x3 : Int32) (S : rs_S) : Option (Int32 × rs_S) := r256_24 x1 x2 x3 (0 : Int32) S
set_option maxRecDepth 20000 in
theorem r256_23_t {h : pm_H} (hl : 177 ≤ h.1.length) {x1 : Int32} {x2 : Int32} {x3 : Int32} {S S' : rs_S} {v : Int32} (hr : r256_23 x1 x2 x3 S = some (v, S')) : l256_23 (some 145) x1 x2 x3 (rs_h S h) = some (.inl (some (.inl v)), rs_h S' h) := by
  unfold r256_23 at hr
  unfold l256_23
  exact r256_24_t hl hr
set_option maxRecDepth 20000 in
def rf_256 (a1 : Int32) (a2 : Int32) (a3 : Int32) (S : rs_S) : Option (Int32 × rs_S) := rb (rf_237 a1 S) fun v1 S2 => if v1 = (0 : Int32) then r256_23 a1 a2 a3 S2 else rb (rf_237 a2 S2) fun v4 S5 => if v4 = (0 : Int32) then r256_23 a1 a2 a3 S5 else if a1 = a2 then r256_23 a1 a2 a3 S5 else r256_24 a1 a2 a3 (1 : Int32) S5
set_option maxRecDepth 20000 in
theorem rt_256 {h : pm_H} (hl : 177 ≤ h.1.length) {a1 : Int32} {a2 : Int32} {a3 : Int32} {S S' : rs_S} {v : Int32} (hr : rf_256 a1 a2 a3 S = some (v, S')) : ll_256 (some 145) a1 a2 a3 (rs_h S h) = some (.inl (some (.inl v)), rs_h S' h) := by
  unfold rf_256 at hr
  unfold ll_256
  obtain ⟨v1, S2, m3, hr⟩ := rb_s hr
  rw [rt_237 hl m3, lb_I_r]
  by_cases c9 : v1 = (0 : Int32)
  · rw [if_pos c9] at hr ⊢
    exact r256_23_t hl hr
  · rw [if_neg c9] at hr ⊢
    obtain ⟨v4, S5, m6, hr⟩ := rb_s hr
    rw [rt_237 hl m6, lb_I_r]
    by_cases c8 : v4 = (0 : Int32)
    · rw [if_pos c8] at hr ⊢
      exact r256_23_t hl hr
    · rw [if_neg c8] at hr ⊢
      by_cases c7 : a1 = a2
      · rw [if_pos c7] at hr ⊢
        exact r256_23_t hl hr
      · rw [if_neg c7] at hr ⊢
        exact r256_24_t hl hr
-- OfficeSheetModel.known(II)I
set_option maxRecDepth 20000 in
def r258_20 (x1 : Int32) (x2 : Int32) (s0 : Int32) (S : rs_S) : Option (Int32 × rs_S) := rb_S (rs_setI S 0 s0) fun S1 => if (S1.1 0) ≤ (0 : Int32) then (rd_I S1 16 (((3 : Int32) * x1) + x2)).bind fun v2 => some (v2, S1) else some ((0 : Int32), S1)
set_option maxRecDepth 20000 in
theorem r258_20_t {h : pm_H} (hl : 177 ≤ h.1.length) {x1 : Int32} {x2 : Int32} {s0 : Int32} {S S' : rs_S} {v : Int32} (hr : r258_20 x1 x2 s0 S = some (v, S')) : l258_20 (some 145) x1 x2 s0 (some 145) (rs_h S h) = some (.inl (some (.inl v)), rs_h S' h) := by
  unfold r258_20 at hr
  unfold l258_20
  obtain ⟨S1, eS1, hr⟩ := rb_S_s hr
  rw [rs_pI (k := 0) hl (by decide) rfl, Option.bind_some, ← eS1]
  first | rw [rs_fI (k := 0) hl (by decide) rfl, Option.bind_some] | rw [Option.bind_some]
  by_cases c3 : (S1.1 0) ≤ (0 : Int32)
  · rw [if_pos c3] at hr ⊢
    first | rw [rs_fR (k := 16) hl (by decide) rfl, Option.bind_some] | rw [Option.bind_some]
    obtain ⟨v2, qv2, hr⟩ := Option.bind_eq_some_iff.mp hr
    first | rw [rs_rdI (k := 16) hl rfl rfl qv2, Option.bind_some] | rw [Option.bind_some]
    cases hr
    rfl
  · rw [if_neg c3] at hr ⊢
    cases hr
    rfl
set_option maxRecDepth 20000 in
def r258_19 (x1 : Int32) (x2 : Int32) (S : rs_S) : Option (Int32 × rs_S) := r258_20 x1 x2 (1 : Int32) S
set_option maxRecDepth 20000 in
theorem r258_19_t {h : pm_H} (hl : 177 ≤ h.1.length) {x1 : Int32} {x2 : Int32} {S S' : rs_S} {v : Int32} (hr : r258_19 x1 x2 S = some (v, S')) : l258_19 (some 145) x1 x2 (some 145) (rs_h S h) = some (.inl (some (.inl v)), rs_h S' h) := by
  unfold r258_19 at hr
  unfold l258_19
  exact r258_20_t hl hr
set_option maxRecDepth 20000 in
def rf_258 (a1 : Int32) (a2 : Int32) (S : rs_S) : Option (Int32 × rs_S) := rb (rf_237 a1 S) fun v1 S2 => if v1 = (0 : Int32) then r258_19 a1 a2 S2 else rb (rf_237 a2 S2) fun v4 S5 => if v4 = (0 : Int32) then r258_19 a1 a2 S5 else r258_20 a1 a2 (0 : Int32) S5
set_option maxRecDepth 20000 in
theorem rt_258 {h : pm_H} (hl : 177 ≤ h.1.length) {a1 : Int32} {a2 : Int32} {S S' : rs_S} {v : Int32} (hr : rf_258 a1 a2 S = some (v, S')) : ll_258 (some 145) a1 a2 (rs_h S h) = some (.inl (some (.inl v)), rs_h S' h) := by
  unfold rf_258 at hr
  unfold ll_258
  obtain ⟨v1, S2, m3, hr⟩ := rb_s hr
  rw [rt_237 hl m3, lb_I_r]
  by_cases c8 : v1 = (0 : Int32)
  · rw [if_pos c8] at hr ⊢
    exact r258_19_t hl hr
  · rw [if_neg c8] at hr ⊢
    obtain ⟨v4, S5, m6, hr⟩ := rb_s hr
    rw [rt_237 hl m6, lb_I_r]
    by_cases c7 : v4 = (0 : Int32)
    · rw [if_pos c7] at hr ⊢
      exact r258_19_t hl hr
    · rw [if_neg c7] at hr ⊢
      exact r258_20_t hl hr
-- OfficeSheetModel.waiting(I)I
set_option maxRecDepth 20000 in
def r259_54 (J20 : Int32 → Int32 → Int32 → rs_S → Option (Int32 × rs_S)) (x1 : Int32) (x3 : Int32) (s0 : Int32) (S : rs_S) : Option (Int32 × rs_S) := J20 x1 s0 (x3 + (1 : Int32)) S
set_option maxRecDepth 20000 in
theorem r259_54_t {h : pm_H} (hl : 177 ≤ h.1.length) {J20 : Int32 → Int32 → Int32 → rs_S → Option (Int32 × rs_S)} {K20 : Option Nat → Int32 → Int32 → Int32 → pm_H → tm_L} (hJ20 : ∀ {x1 : Int32} {x2 : Int32} {x3 : Int32} {S S' : rs_S} {v : Int32}, J20 x1 x2 x3 S = some (v, S') → K20 (some 145) x1 x2 x3 (rs_h S h) = some (.inl (some (.inl v)), rs_h S' h)) {x1 : Int32} {x3 : Int32} {s0 : Int32} {S S' : rs_S} {v : Int32} (hr : r259_54 J20 x1 x3 s0 S = some (v, S')) : l259_54 K20 (some 145) x1 x3 s0 (rs_h S h) = some (.inl (some (.inl v)), rs_h S' h) := by
  unfold r259_54 at hr
  unfold l259_54
  exact hJ20 hr
set_option maxRecDepth 20000 in
def r259_20 : Nat → Int32 → Int32 → Int32 → rs_S → Option (Int32 × rs_S)
  | 0 => fun _ _ _ _ => none
  | n + 1 => fun x1 x2 x3 S => if (120 : Int32) ≤ x3 then some (x2, S) else if (S.1 0) = (0 : Int32) then (rd_I S 18 (((120 : Int32) * x1) + x3)).bind fun v1 => if v1 = (0 : Int32) then r259_54 (r259_20 n) x1 x3 x2 S else r259_54 (r259_20 n) x1 x3 (x2 + (1 : Int32)) S else some (x2, S)
set_option maxRecDepth 20000 in
theorem r259_20_t {h : pm_H} (hl : 177 ≤ h.1.length) : ∀ (n : Nat) {x1 : Int32} {x2 : Int32} {x3 : Int32} {S S' : rs_S} {v : Int32}, r259_20 n x1 x2 x3 S = some (v, S') → l259_20 n (some 145) x1 x2 x3 (rs_h S h) = some (.inl (some (.inl v)), rs_h S' h) := by
  intro n
  induction n with
  | zero => intro x1 x2 x3 S S' v hr; cases hr
  | succ n ih =>
    intro x1 x2 x3 S S' v hr
    rw [r259_20] at hr
    rw [l259_20]
    try dsimp only at hr
    try dsimp only
    by_cases c4 : (120 : Int32) ≤ x3
    · rw [if_pos c4] at hr ⊢
      cases hr
      rfl
    · rw [if_neg c4] at hr ⊢
      first | rw [rs_fI (k := 0) hl (by decide) rfl, Option.bind_some] | rw [Option.bind_some]
      by_cases c3 : (S.1 0) = (0 : Int32)
      · rw [if_pos c3] at hr ⊢
        first | rw [rs_fR (k := 18) hl (by decide) rfl, Option.bind_some] | rw [Option.bind_some]
        obtain ⟨v1, qv1, hr⟩ := Option.bind_eq_some_iff.mp hr
        first | rw [rs_rdZ (k := 18) hl rfl rfl qv1, Option.bind_some] | rw [Option.bind_some]
        by_cases c2 : v1 = (0 : Int32)
        · rw [if_pos c2] at hr ⊢
          exact r259_54_t hl (fun hr => ih hr) hr
        · rw [if_neg c2] at hr ⊢
          exact r259_54_t hl (fun hr => ih hr) hr
      · rw [if_neg c3] at hr ⊢
        cases hr
        rfl
set_option maxRecDepth 20000 in
def r259_13 (x1 : Int32) (s0 : Int32) (S : rs_S) : Option (Int32 × rs_S) := rb_S (rs_setI S 0 s0) fun S1 => r259_20 lf_N x1 (0 : Int32) (0 : Int32) S1
set_option maxRecDepth 20000 in
theorem r259_13_t {h : pm_H} (hl : 177 ≤ h.1.length) {x1 : Int32} {s0 : Int32} {S S' : rs_S} {v : Int32} (hr : r259_13 x1 s0 S = some (v, S')) : l259_13 (some 145) x1 s0 (some 145) (rs_h S h) = some (.inl (some (.inl v)), rs_h S' h) := by
  unfold r259_13 at hr
  unfold l259_13
  obtain ⟨S1, eS1, hr⟩ := rb_S_s hr
  rw [rs_pI (k := 0) hl (by decide) rfl, Option.bind_some, ← eS1]
  exact r259_20_t hl lf_N hr
set_option maxRecDepth 20000 in
def rf_259 (a1 : Int32) (S : rs_S) : Option (Int32 × rs_S) := rb (rf_237 a1 S) fun v1 S2 => if v1 = (0 : Int32) then r259_13 a1 (1 : Int32) S2 else r259_13 a1 (0 : Int32) S2
set_option maxRecDepth 20000 in
theorem rt_259 {h : pm_H} (hl : 177 ≤ h.1.length) {a1 : Int32} {S S' : rs_S} {v : Int32} (hr : rf_259 a1 S = some (v, S')) : ll_259 (some 145) a1 (rs_h S h) = some (.inl (some (.inl v)), rs_h S' h) := by
  unfold rf_259 at hr
  unfold ll_259
  obtain ⟨v1, S2, m3, hr⟩ := rb_s hr
  rw [rt_237 hl m3, lb_I_r]
  by_cases c4 : v1 = (0 : Int32)
  · rw [if_pos c4] at hr ⊢
    exact r259_13_t hl hr
  · rw [if_neg c4] at hr ⊢
    exact r259_13_t hl hr
-- OfficeSheetModel.lines(II)I
set_option maxRecDepth 20000 in
def r260_20 (x1 : Int32) (x2 : Int32) (s0 : Int32) (S : rs_S) : Option (Int32 × rs_S) := rb_S (rs_setI S 0 s0) fun S1 => if (S1.1 0) ≤ (0 : Int32) then (rd_I S1 20 (((2 : Int32) * x1) + x2)).bind fun v2 => some (v2, S1) else some ((0 : Int32), S1)
set_option maxRecDepth 20000 in
theorem r260_20_t {h : pm_H} (hl : 177 ≤ h.1.length) {x1 : Int32} {x2 : Int32} {s0 : Int32} {S S' : rs_S} {v : Int32} (hr : r260_20 x1 x2 s0 S = some (v, S')) : l260_20 (some 145) x1 x2 s0 (some 145) (rs_h S h) = some (.inl (some (.inl v)), rs_h S' h) := by
  unfold r260_20 at hr
  unfold l260_20
  obtain ⟨S1, eS1, hr⟩ := rb_S_s hr
  rw [rs_pI (k := 0) hl (by decide) rfl, Option.bind_some, ← eS1]
  first | rw [rs_fI (k := 0) hl (by decide) rfl, Option.bind_some] | rw [Option.bind_some]
  by_cases c3 : (S1.1 0) ≤ (0 : Int32)
  · rw [if_pos c3] at hr ⊢
    first | rw [rs_fR (k := 20) hl (by decide) rfl, Option.bind_some] | rw [Option.bind_some]
    obtain ⟨v2, qv2, hr⟩ := Option.bind_eq_some_iff.mp hr
    first | rw [rs_rdI (k := 20) hl rfl rfl qv2, Option.bind_some] | rw [Option.bind_some]
    cases hr
    rfl
  · rw [if_neg c3] at hr ⊢
    cases hr
    rfl
set_option maxRecDepth 20000 in
def r260_19 (x1 : Int32) (x2 : Int32) (S : rs_S) : Option (Int32 × rs_S) := r260_20 x1 x2 (1 : Int32) S
set_option maxRecDepth 20000 in
theorem r260_19_t {h : pm_H} (hl : 177 ≤ h.1.length) {x1 : Int32} {x2 : Int32} {S S' : rs_S} {v : Int32} (hr : r260_19 x1 x2 S = some (v, S')) : l260_19 (some 145) x1 x2 (some 145) (rs_h S h) = some (.inl (some (.inl v)), rs_h S' h) := by
  unfold r260_19 at hr
  unfold l260_19
  exact r260_20_t hl hr
set_option maxRecDepth 20000 in
def rf_260 (a1 : Int32) (a2 : Int32) (S : rs_S) : Option (Int32 × rs_S) := rb (rf_237 a1 S) fun v1 S2 => if v1 = (0 : Int32) then r260_19 a1 a2 S2 else rb (rf_238 a2 S2) fun v4 S5 => if v4 = (0 : Int32) then r260_19 a1 a2 S5 else r260_20 a1 a2 (0 : Int32) S5
set_option maxRecDepth 20000 in
theorem rt_260 {h : pm_H} (hl : 177 ≤ h.1.length) {a1 : Int32} {a2 : Int32} {S S' : rs_S} {v : Int32} (hr : rf_260 a1 a2 S = some (v, S')) : ll_260 (some 145) a1 a2 (rs_h S h) = some (.inl (some (.inl v)), rs_h S' h) := by
  unfold rf_260 at hr
  unfold ll_260
  obtain ⟨v1, S2, m3, hr⟩ := rb_s hr
  rw [rt_237 hl m3, lb_I_r]
  by_cases c8 : v1 = (0 : Int32)
  · rw [if_pos c8] at hr ⊢
    exact r260_19_t hl hr
  · rw [if_neg c8] at hr ⊢
    obtain ⟨v4, S5, m6, hr⟩ := rb_s hr
    rw [rt_238 hl m6, lb_I_r]
    by_cases c7 : v4 = (0 : Int32)
    · rw [if_pos c7] at hr ⊢
      exact r260_19_t hl hr
    · rw [if_neg c7] at hr ⊢
      exact r260_20_t hl hr
-- OfficeSheetModel.line(III)I
set_option maxRecDepth 20000 in
def r261_34 (x1 : Int32) (x2 : Int32) (x3 : Int32) (s0 : Int32) (S : rs_S) : Option (Int32 × rs_S) := rb_S (rs_setI S 0 s0) fun S1 => if (S1.1 0) ≤ (0 : Int32) then rb (rf_242 x1 x2 x3 S1) fun v2 S3 => some (((((100 : Int32) * (v2 / (40 : Int32))) + (v2 - v2 / (40 : Int32) * (40 : Int32))) + (1 : Int32)), S3) else some ((0 : Int32), S1)
set_option maxRecDepth 20000 in
theorem r261_34_t {h : pm_H} (hl : 177 ≤ h.1.length) {x1 : Int32} {x2 : Int32} {x3 : Int32} {s0 : Int32} {S S' : rs_S} {v : Int32} (hr : r261_34 x1 x2 x3 s0 S = some (v, S')) : l261_34 (some 145) x1 x2 x3 s0 (some 145) (rs_h S h) = some (.inl (some (.inl v)), rs_h S' h) := by
  unfold r261_34 at hr
  unfold l261_34
  obtain ⟨S1, eS1, hr⟩ := rb_S_s hr
  rw [rs_pI (k := 0) hl (by decide) rfl, Option.bind_some, ← eS1]
  first | rw [rs_fI (k := 0) hl (by decide) rfl, Option.bind_some] | rw [Option.bind_some]
  by_cases c5 : (S1.1 0) ≤ (0 : Int32)
  · rw [if_pos c5] at hr ⊢
    obtain ⟨v2, S3, m4, hr⟩ := rb_s hr
    rw [if_pos (rs_lc hl)]
    rw [rt_242 hl m4, lb_I_r]
    cases hr
    rfl
  · rw [if_neg c5] at hr ⊢
    cases hr
    rfl
set_option maxRecDepth 20000 in
def r261_15 (x1 : Int32) (x2 : Int32) (x3 : Int32) (S : rs_S) : Option (Int32 × rs_S) := r261_34 x1 x2 x3 (1 : Int32) S
set_option maxRecDepth 20000 in
theorem r261_15_t {h : pm_H} (hl : 177 ≤ h.1.length) {x1 : Int32} {x2 : Int32} {x3 : Int32} {S S' : rs_S} {v : Int32} (hr : r261_15 x1 x2 x3 S = some (v, S')) : l261_15 (some 145) x1 x2 x3 (some 145) (rs_h S h) = some (.inl (some (.inl v)), rs_h S' h) := by
  unfold r261_15 at hr
  unfold l261_15
  exact r261_34_t hl hr
set_option maxRecDepth 20000 in
def rf_261 (a1 : Int32) (a2 : Int32) (a3 : Int32) (S : rs_S) : Option (Int32 × rs_S) := rb (rf_237 a1 S) fun v1 S2 => if v1 = (0 : Int32) then r261_15 a1 a2 a3 S2 else rb (rf_238 a2 S2) fun v4 S5 => if v4 = (0 : Int32) then r261_15 a1 a2 a3 S5 else rb (rf_239 a1 a2 a3 S5) fun v7 S8 => if v7 = (0 : Int32) then r261_34 a1 a2 a3 (2 : Int32) S8 else r261_34 a1 a2 a3 (0 : Int32) S8
set_option maxRecDepth 20000 in
theorem rt_261 {h : pm_H} (hl : 177 ≤ h.1.length) {a1 : Int32} {a2 : Int32} {a3 : Int32} {S S' : rs_S} {v : Int32} (hr : rf_261 a1 a2 a3 S = some (v, S')) : ll_261 (some 145) a1 a2 a3 (rs_h S h) = some (.inl (some (.inl v)), rs_h S' h) := by
  unfold rf_261 at hr
  unfold ll_261
  obtain ⟨v1, S2, m3, hr⟩ := rb_s hr
  rw [rt_237 hl m3, lb_I_r]
  by_cases c12 : v1 = (0 : Int32)
  · rw [if_pos c12] at hr ⊢
    exact r261_15_t hl hr
  · rw [if_neg c12] at hr ⊢
    obtain ⟨v4, S5, m6, hr⟩ := rb_s hr
    rw [rt_238 hl m6, lb_I_r]
    by_cases c11 : v4 = (0 : Int32)
    · rw [if_pos c11] at hr ⊢
      exact r261_15_t hl hr
    · rw [if_neg c11] at hr ⊢
      obtain ⟨v7, S8, m9, hr⟩ := rb_s hr
      rw [if_pos (rs_lc hl)]
      rw [rt_239 hl m9, lb_I_r]
      by_cases c10 : v7 = (0 : Int32)
      · rw [if_pos c10] at hr ⊢
        exact r261_34_t hl hr
      · rw [if_neg c10] at hr ⊢
        exact r261_34_t hl hr
-- OfficeSheetModel.type(C)I
set_option maxRecDepth 20000 in
def r262_31 (x1 : Int32) (s0 : Int32) (S : rs_S) : Option (Int32 × rs_S) := rb_S (rs_setI S 0 s0) fun S1 => if (S1.1 0) ≤ (0 : Int32) then (wr_I S1 21 (S1.1 22) x1).bind fun S2 => rb_S (rs_setI S2 22 ((S2.1 22) + (1 : Int32))) fun S3 => some ((S3.1 22), S3) else some ((0 : Int32), S1)
set_option maxRecDepth 20000 in
theorem r262_31_t {h : pm_H} (hl : 177 ≤ h.1.length) {x1 : Int32} {s0 : Int32} {S S' : rs_S} {v : Int32} (hr : r262_31 x1 s0 S = some (v, S')) : l262_31 (some 145) x1 s0 (some 145) (rs_h S h) = some (.inl (some (.inl v)), rs_h S' h) := by
  unfold r262_31 at hr
  unfold l262_31
  obtain ⟨S1, eS1, hr⟩ := rb_S_s hr
  rw [rs_pI (k := 0) hl (by decide) rfl, Option.bind_some, ← eS1]
  first | rw [rs_fI (k := 0) hl (by decide) rfl, Option.bind_some] | rw [Option.bind_some]
  by_cases c4 : (S1.1 0) ≤ (0 : Int32)
  · rw [if_pos c4] at hr ⊢
    first | rw [rs_fR (k := 21) hl (by decide) rfl, Option.bind_some] | rw [Option.bind_some]
    first | rw [rs_fI (k := 22) hl (by decide) rfl, Option.bind_some] | rw [Option.bind_some]
    obtain ⟨S2, qS2, hr⟩ := Option.bind_eq_some_iff.mp hr
    first | rw [rs_wrI (k := 21) hl rfl rfl qS2, Option.bind_some] | rw [Option.bind_some]
    first | rw [rs_fI (k := 22) hl (by decide) rfl, Option.bind_some] | rw [Option.bind_some]
    obtain ⟨S3, eS3, hr⟩ := rb_S_s hr
    rw [rs_pI (k := 22) hl (by decide) rfl, Option.bind_some, ← eS3]
    first | rw [rs_fI (k := 22) hl (by decide) rfl, Option.bind_some] | rw [Option.bind_some]
    cases hr
    rfl
  · rw [if_neg c4] at hr ⊢
    cases hr
    rfl
set_option maxRecDepth 20000 in
def r262_13 (x1 : Int32) (S : rs_S) : Option (Int32 × rs_S) := r262_31 x1 (1 : Int32) S
set_option maxRecDepth 20000 in
theorem r262_13_t {h : pm_H} (hl : 177 ≤ h.1.length) {x1 : Int32} {S S' : rs_S} {v : Int32} (hr : r262_13 x1 S = some (v, S')) : l262_13 (some 145) x1 (some 145) (rs_h S h) = some (.inl (some (.inl v)), rs_h S' h) := by
  unfold r262_13 at hr
  unfold l262_13
  exact r262_31_t hl hr
set_option maxRecDepth 20000 in
def rf_262 (a1 : Int32) (S : rs_S) : Option (Int32 × rs_S) := if a1 < (32 : Int32) then r262_13 a1 S else if a1 ≤ (126 : Int32) then if (S.1 22) = (20 : Int32) then r262_31 a1 (2 : Int32) S else r262_31 a1 (0 : Int32) S else r262_13 a1 S
set_option maxRecDepth 20000 in
theorem rt_262 {h : pm_H} (hl : 177 ≤ h.1.length) {a1 : Int32} {S S' : rs_S} {v : Int32} (hr : rf_262 a1 S = some (v, S')) : ll_262 (some 145) a1 (rs_h S h) = some (.inl (some (.inl v)), rs_h S' h) := by
  unfold rf_262 at hr
  unfold ll_262
  by_cases c3 : a1 < (32 : Int32)
  · rw [if_pos c3] at hr ⊢
    exact r262_13_t hl hr
  · rw [if_neg c3] at hr ⊢
    by_cases c2 : a1 ≤ (126 : Int32)
    · rw [if_pos c2] at hr ⊢
      first | rw [rs_fI (k := 22) hl (by decide) rfl, Option.bind_some] | rw [Option.bind_some]
      by_cases c1 : (S.1 22) = (20 : Int32)
      · rw [if_pos c1] at hr ⊢
        exact r262_31_t hl hr
      · rw [if_neg c1] at hr ⊢
        exact r262_31_t hl hr
    · rw [if_neg c2] at hr ⊢
      exact r262_13_t hl hr
-- OfficeSheetModel.cut(I)V
set_option maxRecDepth 20000 in
def r263_37 (s0 : Int32) (S : rs_S) : Option (Unit × rs_S) := rb_S (rs_setI S 22 s0) fun S1 => some ((), S1)
set_option maxRecDepth 20000 in
theorem r263_37_t {h : pm_H} (hl : 177 ≤ h.1.length) {s0 : Int32} {S S' : rs_S} {v : Unit} (hr : r263_37 s0 S = some (v, S')) : l263_37 s0 (some 145) (rs_h S h) = some (.inl none, rs_h S' h) := by
  unfold r263_37 at hr
  unfold l263_37
  obtain ⟨S1, eS1, hr⟩ := rb_S_s hr
  rw [rs_pI (k := 22) hl (by decide) rfl, Option.bind_some, ← eS1]
  cases hr
  rfl
set_option maxRecDepth 20000 in
def r263_18 (x1 : Int32) (s0 : Int32) (S : rs_S) : Option (Unit × rs_S) := rb_S (rs_setI S 0 s0) fun S1 => if (S1.1 0) ≤ (0 : Int32) then r263_37 x1 S1 else r263_37 (S1.1 22) S1
set_option maxRecDepth 20000 in
theorem r263_18_t {h : pm_H} (hl : 177 ≤ h.1.length) {x1 : Int32} {s0 : Int32} {S S' : rs_S} {v : Unit} (hr : r263_18 x1 s0 S = some (v, S')) : l263_18 (some 145) x1 s0 (some 145) (rs_h S h) = some (.inl none, rs_h S' h) := by
  unfold r263_18 at hr
  unfold l263_18
  obtain ⟨S1, eS1, hr⟩ := rb_S_s hr
  rw [rs_pI (k := 0) hl (by decide) rfl, Option.bind_some, ← eS1]
  first | rw [rs_fI (k := 0) hl (by decide) rfl, Option.bind_some] | rw [Option.bind_some]
  by_cases c2 : (S1.1 0) ≤ (0 : Int32)
  · rw [if_pos c2] at hr ⊢
    exact r263_37_t hl hr
  · rw [if_neg c2] at hr ⊢
    first | rw [rs_fI (k := 22) hl (by decide) rfl, Option.bind_some] | rw [Option.bind_some]
    exact r263_37_t hl hr
set_option maxRecDepth 20000 in
def r263_13 (x1 : Int32) (S : rs_S) : Option (Unit × rs_S) := r263_18 x1 (1 : Int32) S
set_option maxRecDepth 20000 in
theorem r263_13_t {h : pm_H} (hl : 177 ≤ h.1.length) {x1 : Int32} {S S' : rs_S} {v : Unit} (hr : r263_13 x1 S = some (v, S')) : l263_13 (some 145) x1 (some 145) (rs_h S h) = some (.inl none, rs_h S' h) := by
  unfold r263_13 at hr
  unfold l263_13
  exact r263_18_t hl hr
set_option maxRecDepth 20000 in
def rf_263 (a1 : Int32) (S : rs_S) : Option (Unit × rs_S) := if a1 < (0 : Int32) then r263_13 a1 S else if a1 ≤ (S.1 22) then r263_18 a1 (0 : Int32) S else r263_13 a1 S
set_option maxRecDepth 20000 in
theorem rt_263 {h : pm_H} (hl : 177 ≤ h.1.length) {a1 : Int32} {S S' : rs_S} {v : Unit} (hr : rf_263 a1 S = some (v, S')) : ll_263 (some 145) a1 (rs_h S h) = some (.inl none, rs_h S' h) := by
  unfold rf_263 at hr
  unfold ll_263
  by_cases c2 : a1 < (0 : Int32)
  · rw [if_pos c2] at hr ⊢
    exact r263_13_t hl hr
  · rw [if_neg c2] at hr ⊢
    first | rw [rs_fI (k := 22) hl (by decide) rfl, Option.bind_some] | rw [Option.bind_some]
    by_cases c1 : a1 ≤ (S.1 22)
    · rw [if_pos c1] at hr ⊢
      exact r263_18_t hl hr
    · rw [if_neg c1] at hr ⊢
      exact r263_13_t hl hr
-- OfficeSheetModel.isDigit(I)Z
set_option maxRecDepth 20000 in
def rf_267 (a1 : Int32) (S : rs_S) : Option (Int32 × rs_S) := if (S.1 22) ≤ a1 then some ((0 : Int32), S) else (rd_I S 21 a1).bind fun v1 => if v1 < (48 : Int32) then some ((0 : Int32), S) else (rd_I S 21 a1).bind fun v2 => if (57 : Int32) < v2 then some ((0 : Int32), S) else some ((1 : Int32), S)
set_option maxRecDepth 20000 in
theorem rt_267 {h : pm_H} (hl : 177 ≤ h.1.length) {a1 : Int32} {S S' : rs_S} {v : Int32} (hr : rf_267 a1 S = some (v, S')) : ll_267 (some 145) a1 (rs_h S h) = some (.inl (some (.inl v)), rs_h S' h) := by
  unfold rf_267 at hr
  unfold ll_267
  first | rw [rs_fI (k := 22) hl (by decide) rfl, Option.bind_some] | rw [Option.bind_some]
  by_cases c5 : (S.1 22) ≤ a1
  · rw [if_pos c5] at hr ⊢
    cases hr
    rfl
  · rw [if_neg c5] at hr ⊢
    first | rw [rs_fR (k := 21) hl (by decide) rfl, Option.bind_some] | rw [Option.bind_some]
    obtain ⟨v1, qv1, hr⟩ := Option.bind_eq_some_iff.mp hr
    first | rw [rs_rdI (k := 21) hl rfl rfl qv1, Option.bind_some] | rw [Option.bind_some]
    by_cases c4 : v1 < (48 : Int32)
    · rw [if_pos c4] at hr ⊢
      cases hr
      rfl
    · rw [if_neg c4] at hr ⊢
      first | rw [rs_fR (k := 21) hl (by decide) rfl, Option.bind_some] | rw [Option.bind_some]
      obtain ⟨v2, qv2, hr⟩ := Option.bind_eq_some_iff.mp hr
      first | rw [rs_rdI (k := 21) hl rfl rfl qv2, Option.bind_some] | rw [Option.bind_some]
      by_cases c3 : (57 : Int32) < v2
      · rw [if_pos c3] at hr ⊢
        cases hr
        rfl
      · rw [if_neg c3] at hr ⊢
        cases hr
        rfl
-- OfficeSheetModel.isPoint(I)Z
set_option maxRecDepth 20000 in
def rf_268 (a1 : Int32) (S : rs_S) : Option (Int32 × rs_S) := if (S.1 22) ≤ a1 then some ((0 : Int32), S) else (rd_I S 21 a1).bind fun v1 => if v1 = (46 : Int32) then some ((1 : Int32), S) else some ((0 : Int32), S)
set_option maxRecDepth 20000 in
theorem rt_268 {h : pm_H} (hl : 177 ≤ h.1.length) {a1 : Int32} {S S' : rs_S} {v : Int32} (hr : rf_268 a1 S = some (v, S')) : ll_268 (some 145) a1 (rs_h S h) = some (.inl (some (.inl v)), rs_h S' h) := by
  unfold rf_268 at hr
  unfold ll_268
  first | rw [rs_fI (k := 22) hl (by decide) rfl, Option.bind_some] | rw [Option.bind_some]
  by_cases c3 : (S.1 22) ≤ a1
  · rw [if_pos c3] at hr ⊢
    cases hr
    rfl
  · rw [if_neg c3] at hr ⊢
    first | rw [rs_fR (k := 21) hl (by decide) rfl, Option.bind_some] | rw [Option.bind_some]
    obtain ⟨v1, qv1, hr⟩ := Option.bind_eq_some_iff.mp hr
    first | rw [rs_rdI (k := 21) hl rfl rfl qv1, Option.bind_some] | rw [Option.bind_some]
    by_cases c2 : v1 = (46 : Int32)
    · rw [if_pos c2] at hr ⊢
      cases hr
      rfl
    · rw [if_neg c2] at hr ⊢
      cases hr
      rfl
-- OfficeSheetModel.readNumber()V
set_option maxRecDepth 20000 in
def r269_262 (s0 : Int32) (S : rs_S) : Option (Unit × rs_S) := rb_S (rs_setI S 25 s0) fun S1 => some ((), S1)
set_option maxRecDepth 20000 in
theorem r269_262_t {h : pm_H} (hl : 177 ≤ h.1.length) {s0 : Int32} {S S' : rs_S} {v : Unit} (hr : r269_262 s0 S = some (v, S')) : l269_262 s0 (some 145) (rs_h S h) = some (.inl none, rs_h S' h) := by
  unfold r269_262 at hr
  unfold l269_262
  obtain ⟨S1, eS1, hr⟩ := rb_S_s hr
  rw [rs_pI (k := 25) hl (by decide) rfl, Option.bind_some, ← eS1]
  cases hr
  rfl
set_option maxRecDepth 20000 in
def r269_238 (J222 : Int32 → Int32 → rs_S → Option (Unit × rs_S)) (x1 : Int32) (x4 : Int32) (S : rs_S) : Option (Unit × rs_S) := J222 (x1 + (1 : Int32)) x4 S
set_option maxRecDepth 20000 in
theorem r269_238_t {h : pm_H} (hl : 177 ≤ h.1.length) {J222 : Int32 → Int32 → rs_S → Option (Unit × rs_S)} {K222 : Option Nat → Int32 → Int32 → pm_H → tm_L} (hJ222 : ∀ {x1 : Int32} {x4 : Int32} {S S' : rs_S} {v : Unit}, J222 x1 x4 S = some (v, S') → K222 (some 145) x1 x4 (rs_h S h) = some (.inl none, rs_h S' h)) {x1 : Int32} {x4 : Int32} {S S' : rs_S} {v : Unit} (hr : r269_238 J222 x1 x4 S = some (v, S')) : l269_238 K222 (some 145) x1 x4 (rs_h S h) = some (.inl none, rs_h S' h) := by
  unfold r269_238 at hr
  unfold l269_238
  exact hJ222 hr
set_option maxRecDepth 20000 in
def r269_222 : Nat → Int32 → Int32 → rs_S → Option (Unit × rs_S)
  | 0 => fun _ _ _ => none
  | n + 1 => fun x1 x4 S => rb (rf_267 x1 S) fun v1 S2 => if v1 = (0 : Int32) then rb (rf_268 x1 S2) fun v4 S5 => if v4 = (0 : Int32) then rb_S (rs_setI S5 23 x1) fun S7 => if x4 = (0 : Int32) then r269_262 (-4 : Int32) S7 else r269_262 (-2 : Int32) S7 else r269_238 (r269_222 n) x1 x4 S5 else r269_238 (r269_222 n) x1 x4 S2
set_option maxRecDepth 20000 in
theorem r269_222_t {h : pm_H} (hl : 177 ≤ h.1.length) : ∀ (n : Nat) {x1 : Int32} {x4 : Int32} {S S' : rs_S} {v : Unit}, r269_222 n x1 x4 S = some (v, S') → l269_222 n (some 145) x1 x4 (rs_h S h) = some (.inl none, rs_h S' h) := by
  intro n
  induction n with
  | zero => intro x1 x4 S S' v hr; cases hr
  | succ n ih =>
    intro x1 x4 S S' v hr
    rw [r269_222] at hr
    rw [l269_222]
    try dsimp only at hr
    try dsimp only
    obtain ⟨v1, S2, m3, hr⟩ := rb_s hr
    rw [if_pos (rs_lc hl)]
    rw [rt_267 hl m3, lb_I_r]
    by_cases c10 : v1 = (0 : Int32)
    · rw [if_pos c10] at hr ⊢
      obtain ⟨v4, S5, m6, hr⟩ := rb_s hr
      rw [if_pos (rs_lc hl)]
      rw [rt_268 hl m6, lb_I_r]
      by_cases c9 : v4 = (0 : Int32)
      · rw [if_pos c9] at hr ⊢
        obtain ⟨S7, eS7, hr⟩ := rb_S_s hr
        rw [rs_pI (k := 23) hl (by decide) rfl, Option.bind_some, ← eS7]
        by_cases c8 : x4 = (0 : Int32)
        · rw [if_pos c8] at hr ⊢
          exact r269_262_t hl hr
        · rw [if_neg c8] at hr ⊢
          exact r269_262_t hl hr
      · rw [if_neg c9] at hr ⊢
        exact r269_238_t hl (fun hr => ih hr) hr
    · rw [if_neg c10] at hr ⊢
      exact r269_238_t hl (fun hr => ih hr) hr
set_option maxRecDepth 20000 in
def r269_219 (x1 : Int32) (x4 : Int32) (s0 : Int32) (S : rs_S) : Option (Unit × rs_S) := rb_S (rs_setI S 26 s0) fun S1 => r269_222 lf_N x1 x4 S1
set_option maxRecDepth 20000 in
theorem r269_219_t {h : pm_H} (hl : 177 ≤ h.1.length) {x1 : Int32} {x4 : Int32} {s0 : Int32} {S S' : rs_S} {v : Unit} (hr : r269_219 x1 x4 s0 S = some (v, S')) : l269_219 (some 145) x1 x4 s0 (some 145) (rs_h S h) = some (.inl none, rs_h S' h) := by
  unfold r269_219 at hr
  unfold l269_219
  obtain ⟨S1, eS1, hr⟩ := rb_S_s hr
  rw [rs_pI (k := 26) hl (by decide) rfl, Option.bind_some, ← eS1]
  exact r269_222_t hl lf_N hr
set_option maxRecDepth 20000 in
def r269_204 (x1 : Int32) (x5 : Int64) (s0 : Int32) (S : rs_S) : Option (Unit × rs_S) := if s0 = (0 : Int32) then r269_219 x1 s0 (0 : Int32) S else r269_219 x1 s0 (Int64.toInt32 x5) S
set_option maxRecDepth 20000 in
theorem r269_204_t {h : pm_H} (hl : 177 ≤ h.1.length) {x1 : Int32} {x5 : Int64} {s0 : Int32} {S S' : rs_S} {v : Unit} (hr : r269_204 x1 x5 s0 S = some (v, S')) : l269_204 (some 145) x1 x5 s0 (rs_h S h) = some (.inl none, rs_h S' h) := by
  unfold r269_204 at hr
  unfold l269_204
  by_cases c1 : s0 = (0 : Int32)
  · rw [if_pos c1] at hr ⊢
    exact r269_219_t hl hr
  · rw [if_neg c1] at hr ⊢
    exact r269_219_t hl hr
set_option maxRecDepth 20000 in
def r269_203 (x1 : Int32) (x5 : Int64) (S : rs_S) : Option (Unit × rs_S) := r269_204 x1 x5 (0 : Int32) S
set_option maxRecDepth 20000 in
theorem r269_203_t {h : pm_H} (hl : 177 ≤ h.1.length) {x1 : Int32} {x5 : Int64} {S S' : rs_S} {v : Unit} (hr : r269_203 x1 x5 S = some (v, S')) : l269_203 (some 145) x1 x5 (rs_h S h) = some (.inl none, rs_h S' h) := by
  unfold r269_203 at hr
  unfold l269_203
  exact r269_204_t hl hr
set_option maxRecDepth 20000 in
def r269_165 : Nat → Int32 → Int32 → Int64 → Int32 → rs_S → Option (Unit × rs_S)
  | 0 => fun _ _ _ _ _ => none
  | n + 1 => fun x1 x4 x5 x7 S => if (4 : Int32) ≤ x7 then if x4 = (0 : Int32) then r269_203 x1 x5 S else if (0 : Int32) < (lg_cmp x5 (1000000000 : Int64)) then r269_203 x1 x5 S else r269_204 x1 x5 (1 : Int32) S else r269_165 n x1 x4 (x5 * (10 : Int64)) (x7 + (1 : Int32)) S
set_option maxRecDepth 20000 in
theorem r269_165_t {h : pm_H} (hl : 177 ≤ h.1.length) : ∀ (n : Nat) {x1 : Int32} {x4 : Int32} {x5 : Int64} {x7 : Int32} {S S' : rs_S} {v : Unit}, r269_165 n x1 x4 x5 x7 S = some (v, S') → l269_165 n (some 145) x1 x4 x5 x7 (rs_h S h) = some (.inl none, rs_h S' h) := by
  intro n
  induction n with
  | zero => intro x1 x4 x5 x7 S S' v hr; cases hr
  | succ n ih =>
    intro x1 x4 x5 x7 S S' v hr
    rw [r269_165] at hr
    rw [l269_165]
    try dsimp only at hr
    try dsimp only
    by_cases c3 : (4 : Int32) ≤ x7
    · rw [if_pos c3] at hr ⊢
      by_cases c2 : x4 = (0 : Int32)
      · rw [if_pos c2] at hr ⊢
        exact r269_203_t hl hr
      · rw [if_neg c2] at hr ⊢
        by_cases c1 : (0 : Int32) < (lg_cmp x5 (1000000000 : Int64))
        · rw [if_pos c1] at hr ⊢
          exact r269_203_t hl hr
        · rw [if_neg c1] at hr ⊢
          exact r269_204_t hl hr
    · rw [if_neg c3] at hr ⊢
      exact ih hr
set_option maxRecDepth 20000 in
def r269_163 (x1 : Int32) (x4 : Int32) (x5 : Int64) (s0 : Int32) (S : rs_S) : Option (Unit × rs_S) := r269_165 lf_N x1 x4 x5 s0 S
set_option maxRecDepth 20000 in
theorem r269_163_t {h : pm_H} (hl : 177 ≤ h.1.length) {x1 : Int32} {x4 : Int32} {x5 : Int64} {s0 : Int32} {S S' : rs_S} {v : Unit} (hr : r269_163 x1 x4 x5 s0 S = some (v, S')) : l269_163 (some 145) x1 x4 x5 s0 (rs_h S h) = some (.inl none, rs_h S' h) := by
  unfold r269_163 at hr
  unfold l269_163
  exact r269_165_t hl lf_N hr
set_option maxRecDepth 20000 in
def r269_154 (x1 : Int32) (x3 : Int32) (x4 : Int32) (x5 : Int64) (S : rs_S) : Option (Unit × rs_S) := if (0 : Int32) ≤ x3 then r269_163 x1 x4 x5 x3 S else r269_163 x1 x4 x5 (0 : Int32) S
set_option maxRecDepth 20000 in
theorem r269_154_t {h : pm_H} (hl : 177 ≤ h.1.length) {x1 : Int32} {x3 : Int32} {x4 : Int32} {x5 : Int64} {S S' : rs_S} {v : Unit} (hr : r269_154 x1 x3 x4 x5 S = some (v, S')) : l269_154 (some 145) x1 x3 x4 x5 (rs_h S h) = some (.inl none, rs_h S' h) := by
  unfold r269_154 at hr
  unfold l269_154
  by_cases c1 : (0 : Int32) ≤ x3
  · rw [if_pos c1] at hr ⊢
    exact r269_163_t hl hr
  · rw [if_neg c1] at hr ⊢
    exact r269_163_t hl hr
set_option maxRecDepth 20000 in
def r269_146 (J102 : Int32 → Int32 → Int32 → Int64 → Int32 → rs_S → Option (Unit × rs_S)) (x1 : Int32) (x3 : Int32) (x4 : Int32) (x7 : Int32) (s0 : Int64) (S : rs_S) : Option (Unit × rs_S) := J102 x1 x3 x4 s0 (x7 + (1 : Int32)) S
set_option maxRecDepth 20000 in
theorem r269_146_t {h : pm_H} (hl : 177 ≤ h.1.length) {J102 : Int32 → Int32 → Int32 → Int64 → Int32 → rs_S → Option (Unit × rs_S)} {K102 : Option Nat → Int32 → Int32 → Int32 → Int64 → Int32 → pm_H → tm_L} (hJ102 : ∀ {x1 : Int32} {x3 : Int32} {x4 : Int32} {x5 : Int64} {x7 : Int32} {S S' : rs_S} {v : Unit}, J102 x1 x3 x4 x5 x7 S = some (v, S') → K102 (some 145) x1 x3 x4 x5 x7 (rs_h S h) = some (.inl none, rs_h S' h)) {x1 : Int32} {x3 : Int32} {x4 : Int32} {x7 : Int32} {s0 : Int64} {S S' : rs_S} {v : Unit} (hr : r269_146 J102 x1 x3 x4 x7 s0 S = some (v, S')) : l269_146 K102 (some 145) x1 x3 x4 x7 s0 (rs_h S h) = some (.inl none, rs_h S' h) := by
  unfold r269_146 at hr
  unfold l269_146
  exact hJ102 hr
set_option maxRecDepth 20000 in
def r269_102 : Nat → Int32 → Int32 → Int32 → Int64 → Int32 → rs_S → Option (Unit × rs_S)
  | 0 => fun _ _ _ _ _ _ => none
  | n + 1 => fun x1 x3 x4 x5 x7 S => if x1 ≤ x7 then r269_154 x1 x3 x4 x5 S else if x4 = (0 : Int32) then r269_154 x1 x3 x4 x5 S else rb (rf_268 x7 S) fun v1 S2 => if v1 = (0 : Int32) then (rd_I S2 21 x7).bind fun v4 => r269_146 (r269_102 n) x1 x3 x4 x7 ((((10 : Int64) * x5) + (Int32.toInt64 v4)) - (48 : Int64)) S2 else r269_146 (r269_102 n) x1 x3 x4 x7 x5 S2
set_option maxRecDepth 20000 in
theorem r269_102_t {h : pm_H} (hl : 177 ≤ h.1.length) : ∀ (n : Nat) {x1 : Int32} {x3 : Int32} {x4 : Int32} {x5 : Int64} {x7 : Int32} {S S' : rs_S} {v : Unit}, r269_102 n x1 x3 x4 x5 x7 S = some (v, S') → l269_102 n (some 145) x1 x3 x4 x5 x7 (rs_h S h) = some (.inl none, rs_h S' h) := by
  intro n
  induction n with
  | zero => intro x1 x3 x4 x5 x7 S S' v hr; cases hr
  | succ n ih =>
    intro x1 x3 x4 x5 x7 S S' v hr
    rw [r269_102] at hr
    rw [l269_102]
    try dsimp only at hr
    try dsimp only
    by_cases c7 : x1 ≤ x7
    · rw [if_pos c7] at hr ⊢
      exact r269_154_t hl hr
    · rw [if_neg c7] at hr ⊢
      by_cases c6 : x4 = (0 : Int32)
      · rw [if_pos c6] at hr ⊢
        exact r269_154_t hl hr
      · rw [if_neg c6] at hr ⊢
        obtain ⟨v1, S2, m3, hr⟩ := rb_s hr
        rw [if_pos (rs_lc hl)]
        rw [rt_268 hl m3, lb_I_r]
        by_cases c5 : v1 = (0 : Int32)
        · rw [if_pos c5] at hr ⊢
          first | rw [rs_fR (k := 21) hl (by decide) rfl, Option.bind_some] | rw [Option.bind_some]
          obtain ⟨v4, qv4, hr⟩ := Option.bind_eq_some_iff.mp hr
          first | rw [rs_rdI (k := 21) hl rfl rfl qv4, Option.bind_some] | rw [Option.bind_some]
          exact r269_146_t hl (fun hr => ih hr) hr
        · rw [if_neg c5] at hr ⊢
          exact r269_146_t hl (fun hr => ih hr) hr
set_option maxRecDepth 20000 in
def r269_91 (x1 : Int32) (x3 : Int32) (s0 : Int32) (S : rs_S) : Option (Unit × rs_S) := r269_102 lf_N x1 x3 s0 (0 : Int64) (S.1 23) S
set_option maxRecDepth 20000 in
theorem r269_91_t {h : pm_H} (hl : 177 ≤ h.1.length) {x1 : Int32} {x3 : Int32} {s0 : Int32} {S S' : rs_S} {v : Unit} (hr : r269_91 x1 x3 s0 S = some (v, S')) : l269_91 (some 145) x1 x3 s0 (rs_h S h) = some (.inl none, rs_h S' h) := by
  unfold r269_91 at hr
  unfold l269_91
  first | rw [rs_fI (k := 23) hl (by decide) rfl, Option.bind_some] | rw [Option.bind_some]
  exact r269_102_t hl lf_N hr
set_option maxRecDepth 20000 in
def r269_90 (x1 : Int32) (x3 : Int32) (S : rs_S) : Option (Unit × rs_S) := r269_91 x1 x3 (0 : Int32) S
set_option maxRecDepth 20000 in
theorem r269_90_t {h : pm_H} (hl : 177 ≤ h.1.length) {x1 : Int32} {x3 : Int32} {S S' : rs_S} {v : Unit} (hr : r269_90 x1 x3 S = some (v, S')) : l269_90 (some 145) x1 x3 (rs_h S h) = some (.inl none, rs_h S' h) := by
  unfold r269_90 at hr
  unfold l269_90
  exact r269_91_t hl hr
set_option maxRecDepth 20000 in
def r269_58 (x1 : Int32) (x2 : Int32) (x3 : Int32) (S : rs_S) : Option (Unit × rs_S) := if x2 < (1 : Int32) then r269_90 x1 x3 S else if (6 : Int32) < x2 then r269_90 x1 x3 S else if x3 = (0 : Int32) then r269_90 x1 x3 S else if (4 : Int32) < x3 then r269_90 x1 x3 S else rb (rf_268 x1 S) fun v1 S2 => if v1 = (0 : Int32) then r269_91 x1 x3 (1 : Int32) S2 else r269_90 x1 x3 S2
set_option maxRecDepth 20000 in
theorem r269_58_t {h : pm_H} (hl : 177 ≤ h.1.length) {x1 : Int32} {x2 : Int32} {x3 : Int32} {S S' : rs_S} {v : Unit} (hr : r269_58 x1 x2 x3 S = some (v, S')) : l269_58 (some 145) x1 x2 x3 (rs_h S h) = some (.inl none, rs_h S' h) := by
  unfold r269_58 at hr
  unfold l269_58
  by_cases c8 : x2 < (1 : Int32)
  · rw [if_pos c8] at hr ⊢
    exact r269_90_t hl hr
  · rw [if_neg c8] at hr ⊢
    by_cases c7 : (6 : Int32) < x2
    · rw [if_pos c7] at hr ⊢
      exact r269_90_t hl hr
    · rw [if_neg c7] at hr ⊢
      by_cases c6 : x3 = (0 : Int32)
      · rw [if_pos c6] at hr ⊢
        exact r269_90_t hl hr
      · rw [if_neg c6] at hr ⊢
        by_cases c5 : (4 : Int32) < x3
        · rw [if_pos c5] at hr ⊢
          exact r269_90_t hl hr
        · rw [if_neg c5] at hr ⊢
          obtain ⟨v1, S2, m3, hr⟩ := rb_s hr
          rw [if_pos (rs_lc hl)]
          rw [rt_268 hl m3, lb_I_r]
          by_cases c4 : v1 = (0 : Int32)
          · rw [if_pos c4] at hr ⊢
            exact r269_91_t hl hr
          · rw [if_neg c4] at hr ⊢
            exact r269_90_t hl hr
set_option maxRecDepth 20000 in
def r269_41 : Nat → Int32 → Int32 → Int32 → rs_S → Option (Unit × rs_S)
  | 0 => fun _ _ _ _ => none
  | n + 1 => fun x1 x2 x3 S => rb (rf_267 x1 S) fun v1 S2 => if v1 = (0 : Int32) then r269_58 x1 x2 x3 S2 else r269_41 n (x1 + (1 : Int32)) x2 (x3 + (1 : Int32)) S2
set_option maxRecDepth 20000 in
theorem r269_41_t {h : pm_H} (hl : 177 ≤ h.1.length) : ∀ (n : Nat) {x1 : Int32} {x2 : Int32} {x3 : Int32} {S S' : rs_S} {v : Unit}, r269_41 n x1 x2 x3 S = some (v, S') → l269_41 n (some 145) x1 x2 x3 (rs_h S h) = some (.inl none, rs_h S' h) := by
  intro n
  induction n with
  | zero => intro x1 x2 x3 S S' v hr; cases hr
  | succ n ih =>
    intro x1 x2 x3 S S' v hr
    rw [r269_41] at hr
    rw [l269_41]
    try dsimp only at hr
    try dsimp only
    obtain ⟨v1, S2, m3, hr⟩ := rb_s hr
    rw [if_pos (rs_lc hl)]
    rw [rt_267 hl m3, lb_I_r]
    by_cases c4 : v1 = (0 : Int32)
    · rw [if_pos c4] at hr ⊢
      exact r269_58_t hl hr
    · rw [if_neg c4] at hr ⊢
      exact ih hr
set_option maxRecDepth 20000 in
def r269_5 : Nat → Int32 → rs_S → Option (Unit × rs_S)
  | 0 => fun _ _ => none
  | n + 1 => fun x1 S => rb (rf_267 x1 S) fun v1 S2 => if v1 = (0 : Int32) then rb (rf_268 x1 S2) fun v4 S5 => if v4 = (0 : Int32) then r269_58 x1 (x1 - (S2.1 23)) (-1 : Int32) S5 else r269_41 lf_N (x1 + (1 : Int32)) (x1 - (S2.1 23)) (0 : Int32) S5 else r269_5 n (x1 + (1 : Int32)) S2
set_option maxRecDepth 20000 in
theorem r269_5_t {h : pm_H} (hl : 177 ≤ h.1.length) : ∀ (n : Nat) {x1 : Int32} {S S' : rs_S} {v : Unit}, r269_5 n x1 S = some (v, S') → l269_5 n (some 145) x1 (rs_h S h) = some (.inl none, rs_h S' h) := by
  intro n
  induction n with
  | zero => intro x1 S S' v hr; cases hr
  | succ n ih =>
    intro x1 S S' v hr
    rw [r269_5] at hr
    rw [l269_5]
    try dsimp only at hr
    try dsimp only
    obtain ⟨v1, S2, m3, hr⟩ := rb_s hr
    rw [if_pos (rs_lc hl)]
    rw [rt_267 hl m3, lb_I_r]
    by_cases c8 : v1 = (0 : Int32)
    · rw [if_pos c8] at hr ⊢
      first | rw [rs_fI (k := 23) hl (by decide) rfl, Option.bind_some] | rw [Option.bind_some]
      obtain ⟨v4, S5, m6, hr⟩ := rb_s hr
      rw [if_pos (rs_lc hl)]
      rw [rt_268 hl m6, lb_I_r]
      by_cases c7 : v4 = (0 : Int32)
      · rw [if_pos c7] at hr ⊢
        exact r269_58_t hl hr
      · rw [if_neg c7] at hr ⊢
        exact r269_41_t hl lf_N hr
    · rw [if_neg c8] at hr ⊢
      exact ih hr
set_option maxRecDepth 20000 in
def rf_269 (S : rs_S) : Option (Unit × rs_S) := r269_5 lf_N (S.1 23) S
set_option maxRecDepth 20000 in
theorem rt_269 {h : pm_H} (hl : 177 ≤ h.1.length) {S S' : rs_S} {v : Unit} (hr : rf_269  S = some (v, S')) : ll_269 (some 145) (rs_h S h) = some (.inl none, rs_h S' h) := by
  unfold rf_269 at hr
  unfold ll_269
  first | rw [rs_fI (k := 23) hl (by decide) rfl, Option.bind_some] | rw [Option.bind_some]
  exact r269_5_t hl lf_N hr
-- OfficeSheetModel.readReference(I)V
set_option maxRecDepth 20000 in
def r270_227 (s0 : Int32) (S : rs_S) : Option (Unit × rs_S) := rb_S (rs_setI S 27 s0) fun S1 => some ((), S1)
set_option maxRecDepth 20000 in
theorem r270_227_t {h : pm_H} (hl : 177 ≤ h.1.length) {s0 : Int32} {S S' : rs_S} {v : Unit} (hr : r270_227 s0 S = some (v, S')) : l270_227 s0 (some 145) (rs_h S h) = some (.inl none, rs_h S' h) := by
  unfold r270_227 at hr
  unfold l270_227
  obtain ⟨S1, eS1, hr⟩ := rb_S_s hr
  rw [rs_pI (k := 27) hl (by decide) rfl, Option.bind_some, ← eS1]
  cases hr
  rfl
set_option maxRecDepth 20000 in
def r270_192 (x1 : Int32) (x2 : Int32) (x4 : Int32) (x5 : Int32) (s0 : Int32) (S : rs_S) : Option (Unit × rs_S) := rb_S (rs_setI S 25 s0) fun S1 => if x5 = (0 : Int32) then r270_227 (0 : Int32) S1 else rb (rf_242 x1 (0 : Int32) (x4 - (1 : Int32)) S1) fun v2 S3 => rb (rf_242 x1 (1 : Int32) x2 S3) fun v5 S6 => r270_227 (v2 + ((128 : Int32) * v5)) S6
set_option maxRecDepth 20000 in
theorem r270_192_t {h : pm_H} (hl : 177 ≤ h.1.length) {x1 : Int32} {x2 : Int32} {x4 : Int32} {x5 : Int32} {s0 : Int32} {S S' : rs_S} {v : Unit} (hr : r270_192 x1 x2 x4 x5 s0 S = some (v, S')) : l270_192 (some 145) x1 x2 x4 x5 s0 (some 145) (rs_h S h) = some (.inl none, rs_h S' h) := by
  unfold r270_192 at hr
  unfold l270_192
  obtain ⟨S1, eS1, hr⟩ := rb_S_s hr
  rw [rs_pI (k := 25) hl (by decide) rfl, Option.bind_some, ← eS1]
  by_cases c8 : x5 = (0 : Int32)
  · rw [if_pos c8] at hr ⊢
    exact r270_227_t hl hr
  · rw [if_neg c8] at hr ⊢
    obtain ⟨v2, S3, m4, hr⟩ := rb_s hr
    rw [if_pos (rs_lc hl)]
    rw [rt_242 hl m4, lb_I_r]
    obtain ⟨v5, S6, m7, hr⟩ := rb_s hr
    rw [if_pos (rs_lc hl)]
    rw [rt_242 hl m7, lb_I_r]
    exact r270_227_t hl hr
set_option maxRecDepth 20000 in
def r270_165 (x1 : Int32) (x2 : Int32) (x3 : Int32) (x4 : Int32) (s0 : Int32) (S : rs_S) : Option (Unit × rs_S) := rb_S (rs_setI S 23 (((S.1 23) + (1 : Int32)) + x3)) fun S1 => if s0 = (0 : Int32) then r270_192 x1 x2 x4 s0 (-4 : Int32) S1 else r270_192 x1 x2 x4 s0 (-3 : Int32) S1
set_option maxRecDepth 20000 in
theorem r270_165_t {h : pm_H} (hl : 177 ≤ h.1.length) {x1 : Int32} {x2 : Int32} {x3 : Int32} {x4 : Int32} {s0 : Int32} {S S' : rs_S} {v : Unit} (hr : r270_165 x1 x2 x3 x4 s0 S = some (v, S')) : l270_165 (some 145) x1 x2 x3 x4 s0 (rs_h S h) = some (.inl none, rs_h S' h) := by
  unfold r270_165 at hr
  unfold l270_165
  first | rw [rs_fI (k := 23) hl (by decide) rfl, Option.bind_some] | rw [Option.bind_some]
  obtain ⟨S1, eS1, hr⟩ := rb_S_s hr
  rw [rs_pI (k := 23) hl (by decide) rfl, Option.bind_some, ← eS1]
  by_cases c2 : s0 = (0 : Int32)
  · rw [if_pos c2] at hr ⊢
    exact r270_192_t hl hr
  · rw [if_neg c2] at hr ⊢
    exact r270_192_t hl hr
set_option maxRecDepth 20000 in
def r270_164 (x1 : Int32) (x2 : Int32) (x3 : Int32) (x4 : Int32) (S : rs_S) : Option (Unit × rs_S) := r270_165 x1 x2 x3 x4 (0 : Int32) S
set_option maxRecDepth 20000 in
theorem r270_164_t {h : pm_H} (hl : 177 ≤ h.1.length) {x1 : Int32} {x2 : Int32} {x3 : Int32} {x4 : Int32} {S S' : rs_S} {v : Unit} (hr : r270_164 x1 x2 x3 x4 S = some (v, S')) : l270_164 (some 145) x1 x2 x3 x4 (rs_h S h) = some (.inl none, rs_h S' h) := by
  unfold r270_164 at hr
  unfold l270_164
  exact r270_165_t hl hr
set_option maxRecDepth 20000 in
def r270_111 (x1 : Int32) (x2 : Int32) (x3 : Int32) (s0 : Int32) (S : rs_S) : Option (Unit × rs_S) := if x3 ≤ (0 : Int32) then r270_164 x1 x2 x3 s0 S else (rd_I S 21 ((S.1 23) + (1 : Int32))).bind fun v1 => if v1 = (48 : Int32) then r270_164 x1 x2 x3 s0 S else (rd_I S 20 ((2 : Int32) * x1)).bind fun v2 => if v2 < s0 then r270_164 x1 x2 x3 s0 S else (rd_I S 20 (((2 : Int32) * x1) + (1 : Int32))).bind fun v3 => if v3 ≤ x2 then r270_164 x1 x2 x3 s0 S else r270_165 x1 x2 x3 s0 (1 : Int32) S
set_option maxRecDepth 20000 in
theorem r270_111_t {h : pm_H} (hl : 177 ≤ h.1.length) {x1 : Int32} {x2 : Int32} {x3 : Int32} {s0 : Int32} {S S' : rs_S} {v : Unit} (hr : r270_111 x1 x2 x3 s0 S = some (v, S')) : l270_111 (some 145) x1 x2 x3 s0 (rs_h S h) = some (.inl none, rs_h S' h) := by
  unfold r270_111 at hr
  unfold l270_111
  by_cases c7 : x3 ≤ (0 : Int32)
  · rw [if_pos c7] at hr ⊢
    exact r270_164_t hl hr
  · rw [if_neg c7] at hr ⊢
    first | rw [rs_fR (k := 21) hl (by decide) rfl, Option.bind_some] | rw [Option.bind_some]
    first | rw [rs_fI (k := 23) hl (by decide) rfl, Option.bind_some] | rw [Option.bind_some]
    obtain ⟨v1, qv1, hr⟩ := Option.bind_eq_some_iff.mp hr
    first | rw [rs_rdI (k := 21) hl rfl rfl qv1, Option.bind_some] | rw [Option.bind_some]
    by_cases c6 : v1 = (48 : Int32)
    · rw [if_pos c6] at hr ⊢
      exact r270_164_t hl hr
    · rw [if_neg c6] at hr ⊢
      first | rw [rs_fR (k := 20) hl (by decide) rfl, Option.bind_some] | rw [Option.bind_some]
      obtain ⟨v2, qv2, hr⟩ := Option.bind_eq_some_iff.mp hr
      first | rw [rs_rdI (k := 20) hl rfl rfl qv2, Option.bind_some] | rw [Option.bind_some]
      by_cases c5 : v2 < s0
      · rw [if_pos c5] at hr ⊢
        exact r270_164_t hl hr
      · rw [if_neg c5] at hr ⊢
        first | rw [rs_fR (k := 20) hl (by decide) rfl, Option.bind_some] | rw [Option.bind_some]
        obtain ⟨v3, qv3, hr⟩ := Option.bind_eq_some_iff.mp hr
        first | rw [rs_rdI (k := 20) hl rfl rfl qv3, Option.bind_some] | rw [Option.bind_some]
        by_cases c4 : v3 ≤ x2
        · rw [if_pos c4] at hr ⊢
          exact r270_164_t hl hr
        · rw [if_neg c4] at hr ⊢
          exact r270_165_t hl hr
set_option maxRecDepth 20000 in
def r270_48 (x1 : Int32) (x2 : Int32) (s0 : Int32) (S : rs_S) : Option (Unit × rs_S) := if s0 = (0 : Int32) then r270_111 x1 x2 s0 (0 : Int32) S else if s0 = (1 : Int32) then (rd_I S 21 ((S.1 23) + (1 : Int32))).bind fun v1 => r270_111 x1 x2 s0 (v1 - (48 : Int32)) S else (rd_I S 21 ((S.1 23) + (1 : Int32))).bind fun v2 => (rd_I S 21 ((S.1 23) + (2 : Int32))).bind fun v3 => r270_111 x1 x2 s0 ((((10 : Int32) * (v2 - (48 : Int32))) + v3) - (48 : Int32)) S
set_option maxRecDepth 20000 in
theorem r270_48_t {h : pm_H} (hl : 177 ≤ h.1.length) {x1 : Int32} {x2 : Int32} {s0 : Int32} {S S' : rs_S} {v : Unit} (hr : r270_48 x1 x2 s0 S = some (v, S')) : l270_48 (some 145) x1 x2 s0 (rs_h S h) = some (.inl none, rs_h S' h) := by
  unfold r270_48 at hr
  unfold l270_48
  by_cases c5 : s0 = (0 : Int32)
  · rw [if_pos c5] at hr ⊢
    exact r270_111_t hl hr
  · rw [if_neg c5] at hr ⊢
    by_cases c4 : s0 = (1 : Int32)
    · rw [if_pos c4] at hr ⊢
      first | rw [rs_fR (k := 21) hl (by decide) rfl, Option.bind_some] | rw [Option.bind_some]
      first | rw [rs_fI (k := 23) hl (by decide) rfl, Option.bind_some] | rw [Option.bind_some]
      obtain ⟨v1, qv1, hr⟩ := Option.bind_eq_some_iff.mp hr
      first | rw [rs_rdI (k := 21) hl rfl rfl qv1, Option.bind_some] | rw [Option.bind_some]
      exact r270_111_t hl hr
    · rw [if_neg c4] at hr ⊢
      first | rw [rs_fR (k := 21) hl (by decide) rfl, Option.bind_some] | rw [Option.bind_some]
      first | rw [rs_fI (k := 23) hl (by decide) rfl, Option.bind_some] | rw [Option.bind_some]
      obtain ⟨v2, qv2, hr⟩ := Option.bind_eq_some_iff.mp hr
      first | rw [rs_rdI (k := 21) hl rfl rfl qv2, Option.bind_some] | rw [Option.bind_some]
      first | rw [rs_fR (k := 21) hl (by decide) rfl, Option.bind_some] | rw [Option.bind_some]
      first | rw [rs_fI (k := 23) hl (by decide) rfl, Option.bind_some] | rw [Option.bind_some]
      obtain ⟨v3, qv3, hr⟩ := Option.bind_eq_some_iff.mp hr
      first | rw [rs_rdI (k := 21) hl rfl rfl qv3, Option.bind_some] | rw [Option.bind_some]
      exact r270_111_t hl hr
set_option maxRecDepth 20000 in
def rf_270 (a1 : Int32) (S : rs_S) : Option (Unit × rs_S) := (rd_I S 21 (S.1 23)).bind fun v1 => rb (rf_267 ((S.1 23) + (1 : Int32)) S) fun v2 S3 => if v2 = (0 : Int32) then r270_48 a1 (v1 - (65 : Int32)) (0 : Int32) S3 else rb (rf_267 ((S3.1 23) + (2 : Int32)) S3) fun v5 S6 => if v5 = (0 : Int32) then r270_48 a1 (v1 - (65 : Int32)) (1 : Int32) S6 else r270_48 a1 (v1 - (65 : Int32)) (2 : Int32) S6
set_option maxRecDepth 20000 in
theorem rt_270 {h : pm_H} (hl : 177 ≤ h.1.length) {a1 : Int32} {S S' : rs_S} {v : Unit} (hr : rf_270 a1 S = some (v, S')) : ll_270 (some 145) a1 (rs_h S h) = some (.inl none, rs_h S' h) := by
  unfold rf_270 at hr
  unfold ll_270
  first | rw [rs_fR (k := 21) hl (by decide) rfl, Option.bind_some] | rw [Option.bind_some]
  first | rw [rs_fI (k := 23) hl (by decide) rfl, Option.bind_some] | rw [Option.bind_some]
  obtain ⟨v1, qv1, hr⟩ := Option.bind_eq_some_iff.mp hr
  first | rw [rs_rdI (k := 21) hl rfl rfl qv1, Option.bind_some] | rw [Option.bind_some]
  first | rw [rs_fI (k := 23) hl (by decide) rfl, Option.bind_some] | rw [Option.bind_some]
  obtain ⟨v2, S3, m4, hr⟩ := rb_s hr
  rw [if_pos (rs_lc hl)]
  rw [rt_267 hl m4, lb_I_r]
  by_cases c9 : v2 = (0 : Int32)
  · rw [if_pos c9] at hr ⊢
    exact r270_48_t hl hr
  · rw [if_neg c9] at hr ⊢
    first | rw [rs_fI (k := 23) hl (by decide) rfl, Option.bind_some] | rw [Option.bind_some]
    obtain ⟨v5, S6, m7, hr⟩ := rb_s hr
    rw [if_pos (rs_lc hl)]
    rw [rt_267 hl m7, lb_I_r]
    by_cases c8 : v5 = (0 : Int32)
    · rw [if_pos c8] at hr ⊢
      exact r270_48_t hl hr
    · rw [if_neg c8] at hr ⊢
      exact r270_48_t hl hr
-- OfficeSheetModel.next(I)V
set_option maxRecDepth 20000 in
def r266_92 (S : rs_S) : Option (Unit × rs_S) := (rd_I S 21 (S.1 23)).bind fun v1 => rb_S (rs_setI S 25 v1) fun S2 => rb_S (rs_setI S2 23 ((S2.1 23) + (1 : Int32))) fun S3 => some ((), S3)
set_option maxRecDepth 20000 in
theorem r266_92_t {h : pm_H} (hl : 177 ≤ h.1.length) {S S' : rs_S} {v : Unit} (hr : r266_92  S = some (v, S')) : l266_92 (some 145) (rs_h S h) = some (.inl none, rs_h S' h) := by
  unfold r266_92 at hr
  unfold l266_92
  first | rw [rs_fR (k := 21) hl (by decide) rfl, Option.bind_some] | rw [Option.bind_some]
  first | rw [rs_fI (k := 23) hl (by decide) rfl, Option.bind_some] | rw [Option.bind_some]
  obtain ⟨v1, qv1, hr⟩ := Option.bind_eq_some_iff.mp hr
  first | rw [rs_rdI (k := 21) hl rfl rfl qv1, Option.bind_some] | rw [Option.bind_some]
  obtain ⟨S2, eS2, hr⟩ := rb_S_s hr
  rw [rs_pI (k := 25) hl (by decide) rfl, Option.bind_some, ← eS2]
  first | rw [rs_fI (k := 23) hl (by decide) rfl, Option.bind_some] | rw [Option.bind_some]
  obtain ⟨S3, eS3, hr⟩ := rb_S_s hr
  rw [rs_pI (k := 23) hl (by decide) rfl, Option.bind_some, ← eS3]
  cases hr
  rfl
set_option maxRecDepth 20000 in
def r266_49 (S : rs_S) : Option (Unit × rs_S) := rb (rf_269 S) fun _ S2 => some ((), S2)
set_option maxRecDepth 20000 in
theorem r266_49_t {h : pm_H} (hl : 177 ≤ h.1.length) {S S' : rs_S} {v : Unit} (hr : r266_49  S = some (v, S')) : l266_49 (some 145) (rs_h S h) = some (.inl none, rs_h S' h) := by
  unfold r266_49 at hr
  unfold l266_49
  obtain ⟨v1, S2, m3, hr⟩ := rb_s hr
  rw [if_pos (rs_lc hl)]
  rw [rt_269 hl m3, lb_V_r]
  cases hr
  rfl
set_option maxRecDepth 20000 in
def rf_266 (a1 : Int32) (S : rs_S) : Option (Unit × rs_S) := rb_S (rs_setI S 24 (S.1 23)) fun S1 => if (S1.1 23) = (S1.1 22) then rb_S (rs_setI S1 25 (-1 : Int32)) fun S2 => some ((), S2) else rb (rf_267 (S1.1 23) S1) fun v3 S4 => if v3 = (0 : Int32) then rb (rf_268 (S4.1 23) S4) fun v6 S7 => if v6 = (0 : Int32) then (rd_I S7 21 (S7.1 23)).bind fun v9 => if v9 < (65 : Int32) then r266_92 S7 else (rd_I S7 21 (S7.1 23)).bind fun v10 => if (90 : Int32) < v10 then r266_92 S7 else rb (rf_270 a1 S7) fun _ S12 => some ((), S12) else r266_49 S7 else r266_49 S4
set_option maxRecDepth 20000 in
theorem rt_266 {h : pm_H} (hl : 177 ≤ h.1.length) {a1 : Int32} {S S' : rs_S} {v : Unit} (hr : rf_266 a1 S = some (v, S')) : ll_266 (some 145) a1 (rs_h S h) = some (.inl none, rs_h S' h) := by
  unfold rf_266 at hr
  unfold ll_266
  first | rw [rs_fI (k := 23) hl (by decide) rfl, Option.bind_some] | rw [Option.bind_some]
  obtain ⟨S1, eS1, hr⟩ := rb_S_s hr
  rw [rs_pI (k := 24) hl (by decide) rfl, Option.bind_some, ← eS1]
  first | rw [rs_fI (k := 23) hl (by decide) rfl, Option.bind_some] | rw [Option.bind_some]
  first | rw [rs_fI (k := 22) hl (by decide) rfl, Option.bind_some] | rw [Option.bind_some]
  by_cases c18 : (S1.1 23) = (S1.1 22)
  · rw [if_pos c18] at hr ⊢
    obtain ⟨S2, eS2, hr⟩ := rb_S_s hr
    rw [rs_pI (k := 25) hl (by decide) rfl, Option.bind_some, ← eS2]
    cases hr
    rfl
  · rw [if_neg c18] at hr ⊢
    first | rw [rs_fI (k := 23) hl (by decide) rfl, Option.bind_some] | rw [Option.bind_some]
    obtain ⟨v3, S4, m5, hr⟩ := rb_s hr
    rw [if_pos (rs_lc hl)]
    rw [rt_267 hl m5, lb_I_r]
    by_cases c17 : v3 = (0 : Int32)
    · rw [if_pos c17] at hr ⊢
      first | rw [rs_fI (k := 23) hl (by decide) rfl, Option.bind_some] | rw [Option.bind_some]
      obtain ⟨v6, S7, m8, hr⟩ := rb_s hr
      rw [if_pos (rs_lc hl)]
      rw [rt_268 hl m8, lb_I_r]
      by_cases c16 : v6 = (0 : Int32)
      · rw [if_pos c16] at hr ⊢
        first | rw [rs_fR (k := 21) hl (by decide) rfl, Option.bind_some] | rw [Option.bind_some]
        first | rw [rs_fI (k := 23) hl (by decide) rfl, Option.bind_some] | rw [Option.bind_some]
        obtain ⟨v9, qv9, hr⟩ := Option.bind_eq_some_iff.mp hr
        first | rw [rs_rdI (k := 21) hl rfl rfl qv9, Option.bind_some] | rw [Option.bind_some]
        by_cases c15 : v9 < (65 : Int32)
        · rw [if_pos c15] at hr ⊢
          exact r266_92_t hl hr
        · rw [if_neg c15] at hr ⊢
          first | rw [rs_fR (k := 21) hl (by decide) rfl, Option.bind_some] | rw [Option.bind_some]
          first | rw [rs_fI (k := 23) hl (by decide) rfl, Option.bind_some] | rw [Option.bind_some]
          obtain ⟨v10, qv10, hr⟩ := Option.bind_eq_some_iff.mp hr
          first | rw [rs_rdI (k := 21) hl rfl rfl qv10, Option.bind_some] | rw [Option.bind_some]
          by_cases c14 : (90 : Int32) < v10
          · rw [if_pos c14] at hr ⊢
            exact r266_92_t hl hr
          · rw [if_neg c14] at hr ⊢
            obtain ⟨v11, S12, m13, hr⟩ := rb_s hr
            rw [if_pos (rs_lc hl)]
            rw [rt_270 hl m13, lb_V_r]
            cases hr
            rfl
      · rw [if_neg c16] at hr ⊢
        exact r266_49_t hl hr
    · rw [if_neg c17] at hr ⊢
      exact r266_49_t hl hr
-- OfficeSheetModel.push(I)V
set_option maxRecDepth 20000 in
def rf_273 (a1 : Int32) (S : rs_S) : Option (Unit × rs_S) := (wr_I S 28 (S.1 29) a1).bind fun S1 => rb_S (rs_setI S1 29 ((S1.1 29) + (1 : Int32))) fun S2 => some ((), S2)
set_option maxRecDepth 20000 in
theorem rt_273 {h : pm_H} (hl : 177 ≤ h.1.length) {a1 : Int32} {S S' : rs_S} {v : Unit} (hr : rf_273 a1 S = some (v, S')) : ll_273 (some 145) a1 (rs_h S h) = some (.inl none, rs_h S' h) := by
  unfold rf_273 at hr
  unfold ll_273
  first | rw [rs_fR (k := 28) hl (by decide) rfl, Option.bind_some] | rw [Option.bind_some]
  first | rw [rs_fI (k := 29) hl (by decide) rfl, Option.bind_some] | rw [Option.bind_some]
  obtain ⟨S1, qS1, hr⟩ := Option.bind_eq_some_iff.mp hr
  first | rw [rs_wrI (k := 28) hl rfl rfl qS1, Option.bind_some] | rw [Option.bind_some]
  first | rw [rs_fI (k := 29) hl (by decide) rfl, Option.bind_some] | rw [Option.bind_some]
  obtain ⟨S2, eS2, hr⟩ := rb_S_s hr
  rw [rs_pI (k := 29) hl (by decide) rfl, Option.bind_some, ← eS2]
  cases hr
  rfl
