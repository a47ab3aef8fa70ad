/-! of the reference: 286, 284, 295, 294, 298, 297, 296, 293, 281, 280, 279, 299, 301, 300 -/
-- OfficeSheetModel.levelOf(II)I
set_option maxRecDepth 20000 in
def r286_154 (J8 : Int32 → Int32 → Int32 → Int32 → rs_S → Option (Int32 × rs_S)) (x1 : Int32) (x2 : Int32) (x4 : Int32) (s0 : Int32) (S : rs_S) : Option (Int32 × rs_S) := J8 x1 x2 s0 (x4 + (1 : Int32)) S
set_option maxRecDepth 20000 in
theorem r286_154_t {h : pm_H} (hl : 177 ≤ h.1.length) {J8 : Int32 → Int32 → Int32 → Int32 → rs_S → Option (Int32 × rs_S)} {K8 : Option Nat → Int32 → Int32 → Int32 → Int32 → pm_H → tm_L} (hJ8 : ∀ {x1 : Int32} {x2 : Int32} {x3 : Int32} {x4 : Int32} {S S' : rs_S} {v : Int32}, J8 x1 x2 x3 x4 S = some (v, S') → K8 (some 145) x1 x2 x3 x4 (rs_h S h) = some (.inl (some (.inl v)), rs_h S' h)) {x1 : Int32} {x2 : Int32} {x4 : Int32} {s0 : Int32} {S S' : rs_S} {v : Int32} (hr : r286_154 J8 x1 x2 x4 s0 S = some (v, S')) : l286_154 K8 (some 145) x1 x2 x4 s0 (rs_h S h) = some (.inl (some (.inl v)), rs_h S' h) := by
  unfold r286_154 at hr
  unfold l286_154
  exact hJ8 hr
set_option maxRecDepth 20000 in
def r286_142 (J8 : Int32 → Int32 → Int32 → Int32 → rs_S → Option (Int32 × rs_S)) (x1 : Int32) (x2 : Int32) (x3 : Int32) (x4 : Int32) (x5 : Int32) (S : rs_S) : Option (Int32 × rs_S) := if x5 ≤ x3 then r286_154 J8 x1 x2 x4 x3 S else r286_154 J8 x1 x2 x4 x5 S
set_option maxRecDepth 20000 in
theorem r286_142_t {h : pm_H} (hl : 177 ≤ h.1.length) {J8 : Int32 → Int32 → Int32 → Int32 → rs_S → Option (Int32 × rs_S)} {K8 : Option Nat → Int32 → Int32 → Int32 → Int32 → pm_H → tm_L} (hJ8 : ∀ {x1 : Int32} {x2 : Int32} {x3 : Int32} {x4 : Int32} {S S' : rs_S} {v : Int32}, J8 x1 x2 x3 x4 S = some (v, S') → K8 (some 145) x1 x2 x3 x4 (rs_h S h) = some (.inl (some (.inl v)), rs_h S' h)) {x1 : Int32} {x2 : Int32} {x3 : Int32} {x4 : Int32} {x5 : Int32} {S S' : rs_S} {v : Int32} (hr : r286_142 J8 x1 x2 x3 x4 x5 S = some (v, S')) : l286_142 K8 (some 145) x1 x2 x3 x4 x5 (rs_h S h) = some (.inl (some (.inl v)), rs_h S' h) := by
  unfold r286_142 at hr
  unfold l286_142
  by_cases c1 : x5 ≤ x3
  · rw [if_pos c1] at hr ⊢
    exact r286_154_t hl hJ8 hr
  · rw [if_neg c1] at hr ⊢
    exact r286_154_t hl hJ8 hr
set_option maxRecDepth 20000 in
def r286_100 (J8 : Int32 → Int32 → Int32 → Int32 → rs_S → Option (Int32 × rs_S)) (x1 : Int32) (x2 : Int32) (x3 : Int32) (x4 : Int32) (x5 : Int32) (S : rs_S) : Option (Int32 × rs_S) := (rd_I S 14 x4).bind fun v1 => rb (rf_289 v1 S) fun v2 S3 => if v2 = (0 : Int32) then r286_142 J8 x1 x2 x3 x4 x5 S3 else (rd_I S3 15 x4).bind fun v5 => rb (rf_290 x1 v5 S3) fun v6 S7 => if v6 = (0 : Int32) then r286_142 J8 x1 x2 x3 x4 x5 S7 else (rd_I S7 15 x4).bind fun v9 => rb (rf_291 x1 v9 S7) fun v10 S11 => r286_142 J8 x1 x2 x3 x4 v10 S11
set_option maxRecDepth 20000 in
theorem r286_100_t {h : pm_H} (hl : 177 ≤ h.1.length) {J8 : Int32 → Int32 → Int32 → Int32 → rs_S → Option (Int32 × rs_S)} {K8 : Option Nat → Int32 → Int32 → Int32 → Int32 → pm_H → tm_L} (hJ8 : ∀ {x1 : Int32} {x2 : Int32} {x3 : Int32} {x4 : Int32} {S S' : rs_S} {v : Int32}, J8 x1 x2 x3 x4 S = some (v, S') → K8 (some 145) x1 x2 x3 x4 (rs_h S h) = some (.inl (some (.inl v)), rs_h S' h)) {x1 : Int32} {x2 : Int32} {x3 : Int32} {x4 : Int32} {x5 : Int32} {S S' : rs_S} {v : Int32} (hr : r286_100 J8 x1 x2 x3 x4 x5 S = some (v, S')) : l286_100 K8 (some 145) x1 x2 x3 x4 x5 (rs_h S h) = some (.inl (some (.inl v)), rs_h S' h) := by
  unfold r286_100 at hr
  unfold l286_100
  first | rw [rs_fR (k := 14) hl (by decide) rfl, Option.bind_some] | rw [Option.bind_some]
  obtain ⟨v1, qv1, hr⟩ := Option.bind_eq_some_iff.mp hr
  first | rw [rs_rdI (k := 14) hl rfl rfl qv1, Option.bind_some] | rw [Option.bind_some]
  obtain ⟨v2, S3, m4, hr⟩ := rb_s hr
  rw [rt_289 hl m4, lb_I_r]
  by_cases c14 : v2 = (0 : Int32)
  · rw [if_pos c14] at hr ⊢
    exact r286_142_t hl hJ8 hr
  · rw [if_neg c14] at hr ⊢
    first | rw [rs_fR (k := 15) hl (by decide) rfl, Option.bind_some] | rw [Option.bind_some]
    obtain ⟨v5, qv5, hr⟩ := Option.bind_eq_some_iff.mp hr
    first | rw [rs_rdI (k := 15) hl rfl rfl qv5, Option.bind_some] | rw [Option.bind_some]
    obtain ⟨v6, S7, m8, hr⟩ := rb_s hr
    rw [if_pos (rs_lc hl)]
    rw [rt_290 hl m8, lb_I_r]
    by_cases c13 : v6 = (0 : Int32)
    · rw [if_pos c13] at hr ⊢
      exact r286_142_t hl hJ8 hr
    · rw [if_neg c13] at hr ⊢
      first | rw [rs_fR (k := 15) hl (by decide) rfl, Option.bind_some] | rw [Option.bind_some]
      obtain ⟨v9, qv9, hr⟩ := Option.bind_eq_some_iff.mp hr
      first | rw [rs_rdI (k := 15) hl rfl rfl qv9, Option.bind_some] | rw [Option.bind_some]
      obtain ⟨v10, S11, m12, hr⟩ := rb_s hr
      rw [if_pos (rs_lc hl)]
      rw [rt_291 hl m12, lb_I_r]
      exact r286_142_t hl hJ8 hr
set_option maxRecDepth 20000 in
def r286_98 (J8 : Int32 → Int32 → Int32 → Int32 → rs_S → Option (Int32 × rs_S)) (x1 : Int32) (x2 : Int32) (x3 : Int32) (x4 : Int32) (s0 : Int32) (S : rs_S) : Option (Int32 × rs_S) := r286_100 J8 x1 x2 x3 x4 s0 S
set_option maxRecDepth 20000 in
theorem r286_98_t {h : pm_H} (hl : 177 ≤ h.1.length) {J8 : Int32 → Int32 → Int32 → Int32 → rs_S → Option (Int32 × rs_S)} {K8 : Option Nat → Int32 → Int32 → Int32 → Int32 → pm_H → tm_L} (hJ8 : ∀ {x1 : Int32} {x2 : Int32} {x3 : Int32} {x4 : Int32} {S S' : rs_S} {v : Int32}, J8 x1 x2 x3 x4 S = some (v, S') → K8 (some 145) x1 x2 x3 x4 (rs_h S h) = some (.inl (some (.inl v)), rs_h S' h)) {x1 : Int32} {x2 : Int32} {x3 : Int32} {x4 : Int32} {s0 : Int32} {S S' : rs_S} {v : Int32} (hr : r286_98 J8 x1 x2 x3 x4 s0 S = some (v, S')) : l286_98 K8 (some 145) x1 x2 x3 x4 s0 (rs_h S h) = some (.inl (some (.inl v)), rs_h S' h) := by
  unfold r286_98 at hr
  unfold l286_98
  exact r286_100_t hl hJ8 hr
set_option maxRecDepth 20000 in
def r286_8 : Nat → Int32 → Int32 → Int32 → Int32 → rs_S → Option (Int32 × rs_S)
  | 0 => fun _ _ _ _ _ => none
  | n + 1 => fun x1 x2 x3 x4 S => (rd_I S 13 x2).bind fun v1 => if (((20 : Int32) * x2) + v1) ≤ x4 then some ((x3 + (1 : Int32)), S) else (rd_I S 14 x4).bind fun v2 => if v2 = (114 : Int32) then (rd_I S 15 x4).bind fun v3 => rb (rf_287 x1 v3 S) fun v4 S5 => if v4 = (0 : Int32) then r286_100 (r286_8 n) x1 x2 x3 x4 (0 : Int32) S5 else (rd_I S5 15 x4).bind fun v7 => (rd_I S5 15 x4).bind fun v8 => rb (rf_283 (v7 - v7 / (128 : Int32) * (128 : Int32)) (v8 / (128 : Int32)) S5) fun v9 S10 => if (0 : Int32) ≤ v9 then (rd_I S10 36 v9).bind fun v12 => r286_98 (r286_8 n) x1 x2 x3 x4 v12 S10 else r286_98 (r286_8 n) x1 x2 x3 x4 (0 : Int32) S10 else r286_100 (r286_8 n) x1 x2 x3 x4 (0 : Int32) S
set_option maxRecDepth 20000 in
theorem r286_8_t {h : pm_H} (hl : 177 ≤ h.1.length) : ∀ (n : Nat) {x1 : Int32} {x2 : Int32} {x3 : Int32} {x4 : Int32} {S S' : rs_S} {v : Int32}, r286_8 n x1 x2 x3 x4 S = some (v, S') → l286_8 n (some 145) x1 x2 x3 x4 (rs_h S h) = some (.inl (some (.inl v)), rs_h S' h) := by
  intro n
  induction n with
  | zero => intro x1 x2 x3 x4 S S' v hr; cases hr
  | succ n ih =>
    intro x1 x2 x3 x4 S S' v hr
    rw [r286_8] at hr
    rw [l286_8]
    try dsimp only at hr
    try dsimp only
    first | rw [rs_fR (k := 13) hl (by decide) rfl, Option.bind_some] | rw [Option.bind_some]
    obtain ⟨v1, qv1, hr⟩ := Option.bind_eq_some_iff.mp hr
    first | rw [rs_rdI (k := 13) hl rfl rfl qv1, Option.bind_some] | rw [Option.bind_some]
    by_cases c16 : (((20 : Int32) * x2) + v1) ≤ x4
    · rw [if_pos c16] at hr ⊢
      cases hr
      rfl
    · rw [if_neg c16] at hr ⊢
      first | rw [rs_fR (k := 14) hl (by decide) rfl, Option.bind_some] | rw [Option.bind_some]
      obtain ⟨v2, qv2, hr⟩ := Option.bind_eq_some_iff.mp hr
      first | rw [rs_rdI (k := 14) hl rfl rfl qv2, Option.bind_some] | rw [Option.bind_some]
      by_cases c15 : v2 = (114 : Int32)
      · rw [if_pos c15] at hr ⊢
        first | rw [rs_fR (k := 15) hl (by decide) rfl, Option.bind_some] | rw [Option.bind_some]
        obtain ⟨v3, qv3, hr⟩ := Option.bind_eq_some_iff.mp hr
        first | rw [rs_rdI (k := 15) hl rfl rfl qv3, Option.bind_some] | rw [Option.bind_some]
        obtain ⟨v4, S5, m6, hr⟩ := rb_s hr
        rw [if_pos (rs_lc hl)]
        rw [rt_287 hl m6, lb_I_r]
        by_cases c14 : v4 = (0 : Int32)
        · rw [if_pos c14] at hr ⊢
          exact r286_100_t hl (fun hr => ih hr) hr
        · rw [if_neg c14] at hr ⊢
          first | rw [rs_fR (k := 15) hl (by decide) rfl, Option.bind_some] | rw [Option.bind_some]
          obtain ⟨v7, qv7, hr⟩ := Option.bind_eq_some_iff.mp hr
          first | rw [rs_rdI (k := 15) hl rfl rfl qv7, Option.bind_some] | rw [Option.bind_some]
          first | rw [rs_fR (k := 15) hl (by decide) rfl, Option.bind_some] | rw [Option.bind_some]
          obtain ⟨v8, qv8, hr⟩ := Option.bind_eq_some_iff.mp hr
          first | rw [rs_rdI (k := 15) hl rfl rfl qv8, Option.bind_some] | rw [Option.bind_some]
          obtain ⟨v9, S10, m11, hr⟩ := rb_s hr
          rw [if_pos (rs_lc hl)]
          rw [rt_283 hl m11, lb_I_r]
          by_cases c13 : (0 : Int32) ≤ v9
          · rw [if_pos c13] at hr ⊢
            first | rw [rs_fR (k := 36) hl (by decide) rfl, Option.bind_some] | rw [Option.bind_some]
            obtain ⟨v12, qv12, hr⟩ := Option.bind_eq_some_iff.mp hr
            first | rw [rs_rdI (k := 36) hl rfl rfl qv12, Option.bind_some] | rw [Option.bind_some]
            exact r286_98_t hl (fun hr => ih hr) hr
          · rw [if_neg c13] at hr ⊢
            exact r286_98_t hl (fun hr => ih hr) hr
      · rw [if_neg c15] at hr ⊢
        exact r286_100_t hl (fun hr => ih hr) hr
set_option maxRecDepth 20000 in
def rf_286 (a1 : Int32) (a2 : Int32) (S : rs_S) : Option (Int32 × rs_S) := r286_8 lf_N a1 a2 (0 : Int32) ((20 : Int32) * a2) S
set_option maxRecDepth 20000 in
theorem rt_286 {h : pm_H} (hl : 177 ≤ h.1.length) {a1 : Int32} {a2 : Int32} {S S' : rs_S} {v : Int32} (hr : rf_286 a1 a2 S = some (v, S')) : ll_286 (some 145) a1 a2 (rs_h S h) = some (.inl (some (.inl v)), rs_h S' h) := by
  unfold rf_286 at hr
  unfold ll_286
  exact r286_8_t hl lf_N hr
-- OfficeSheetModel.findLevels(I)V
set_option maxRecDepth 20000 in
def r284_111 (J4 : Int32 → Int32 → Int32 → rs_S → Option (Unit × rs_S)) (J21 : Int32 → Int32 → Int32 → Int32 → rs_S → Option (Unit × rs_S)) (x1 : Int32) (x2 : Int32) (x3 : Int32) (x4 : Int32) (S : rs_S) : Option (Unit × rs_S) := J21 x1 x2 x3 (x4 + (1 : Int32)) S
set_option maxRecDepth 20000 in
theorem r284_111_t {h : pm_H} (hl : 177 ≤ h.1.length) {J4 : Int32 → Int32 → Int32 → rs_S → Option (Unit × rs_S)} {K4 : Option Nat → Int32 → Int32 → Int32 → pm_H → tm_L} {J21 : Int32 → Int32 → Int32 → Int32 → rs_S → Option (Unit × rs_S)} {K21 : Option Nat → Int32 → Int32 → Int32 → Int32 → pm_H → tm_L} (hJ4 : ∀ {x1 : Int32} {x2 : Int32} {x3 : Int32} {S S' : rs_S} {v : Unit}, J4 x1 x2 x3 S = some (v, S') → K4 (some 145) x1 x2 x3 (rs_h S h) = some (.inl none, rs_h S' h)) (hJ21 : ∀ {x1 : Int32} {x2 : Int32} {x3 : Int32} {x4 : Int32} {S S' : rs_S} {v : Unit}, J21 x1 x2 x3 x4 S = some (v, S') → K21 (some 145) x1 x2 x3 x4 (rs_h S h) = some (.inl none, rs_h S' h)) {x1 : Int32} {x2 : Int32} {x3 : Int32} {x4 : Int32} {S S' : rs_S} {v : Unit} (hr : r284_111 J4 J21 x1 x2 x3 x4 S = some (v, S')) : l284_111 K4 K21 (some 145) x1 x2 x3 x4 (rs_h S h) = some (.inl none, rs_h S' h) := by
  unfold r284_111 at hr
  unfold l284_111
  exact hJ21 hr
set_option maxRecDepth 20000 in
def r284_101 (J4 : Int32 → Int32 → Int32 → rs_S → Option (Unit × rs_S)) (J21 : Int32 → Int32 → Int32 → Int32 → rs_S → Option (Unit × rs_S)) (x1 : Int32) (x3 : Int32) (x4 : Int32) (x5 : Int32) (s0 : Int32) (S : rs_S) : Option (Unit × rs_S) := (wr_I S 36 x4 x5).bind fun S1 => r284_111 J4 J21 x1 s0 x3 x4 S1
set_option maxRecDepth 20000 in
theorem r284_101_t {h : pm_H} (hl : 177 ≤ h.1.length) {J4 : Int32 → Int32 → Int32 → rs_S → Option (Unit × rs_S)} {K4 : Option Nat → Int32 → Int32 → Int32 → pm_H → tm_L} {J21 : Int32 → Int32 → Int32 → Int32 → rs_S → Option (Unit × rs_S)} {K21 : Option Nat → Int32 → Int32 → Int32 → Int32 → pm_H → tm_L} (hJ4 : ∀ {x1 : Int32} {x2 : Int32} {x3 : Int32} {S S' : rs_S} {v : Unit}, J4 x1 x2 x3 S = some (v, S') → K4 (some 145) x1 x2 x3 (rs_h S h) = some (.inl none, rs_h S' h)) (hJ21 : ∀ {x1 : Int32} {x2 : Int32} {x3 : Int32} {x4 : Int32} {S S' : rs_S} {v : Unit}, J21 x1 x2 x3 x4 S = some (v, S') → K21 (some 145) x1 x2 x3 x4 (rs_h S h) = some (.inl none, rs_h S' h)) {x1 : Int32} {x3 : Int32} {x4 : Int32} {x5 : Int32} {s0 : Int32} {S S' : rs_S} {v : Unit} (hr : r284_101 J4 J21 x1 x3 x4 x5 s0 S = some (v, S')) : l284_101 K4 K21 (some 145) x1 x3 x4 x5 s0 (rs_h S h) = some (.inl none, rs_h S' h) := by
  unfold r284_101 at hr
  unfold l284_101
  first | rw [rs_fR (k := 36) hl (by decide) rfl, Option.bind_some] | rw [Option.bind_some]
  obtain ⟨S1, qS1, hr⟩ := Option.bind_eq_some_iff.mp hr
  first | rw [rs_wrI (k := 36) hl rfl rfl qS1, Option.bind_some] | rw [Option.bind_some]
  exact r284_111_t hl hJ4 hJ21 hr
set_option maxRecDepth 20000 in
def r284_96 (J4 : Int32 → Int32 → Int32 → rs_S → Option (Unit × rs_S)) (J21 : Int32 → Int32 → Int32 → Int32 → rs_S → Option (Unit × rs_S)) (x1 : Int32) (x3 : Int32) (x4 : Int32) (x5 : Int32) (S : rs_S) : Option (Unit × rs_S) := r284_101 J4 J21 x1 x3 x4 x5 (1 : Int32) S
set_option maxRecDepth 20000 in
theorem r284_96_t {h : pm_H} (hl : 177 ≤ h.1.length) {J4 : Int32 → Int32 → Int32 → rs_S → Option (Unit × rs_S)} {K4 : Option Nat → Int32 → Int32 → Int32 → pm_H → tm_L} {J21 : Int32 → Int32 → Int32 → Int32 → rs_S → Option (Unit × rs_S)} {K21 : Option Nat → Int32 → Int32 → Int32 → Int32 → pm_H → tm_L} (hJ4 : ∀ {x1 : Int32} {x2 : Int32} {x3 : Int32} {S S' : rs_S} {v : Unit}, J4 x1 x2 x3 S = some (v, S') → K4 (some 145) x1 x2 x3 (rs_h S h) = some (.inl none, rs_h S' h)) (hJ21 : ∀ {x1 : Int32} {x2 : Int32} {x3 : Int32} {x4 : Int32} {S S' : rs_S} {v : Unit}, J21 x1 x2 x3 x4 S = some (v, S') → K21 (some 145) x1 x2 x3 x4 (rs_h S h) = some (.inl none, rs_h S' h)) {x1 : Int32} {x3 : Int32} {x4 : Int32} {x5 : Int32} {S S' : rs_S} {v : Unit} (hr : r284_96 J4 J21 x1 x3 x4 x5 S = some (v, S')) : l284_96 K4 K21 (some 145) x1 x3 x4 x5 (rs_h S h) = some (.inl none, rs_h S' h) := by
  unfold r284_96 at hr
  unfold l284_96
  exact r284_101_t hl hJ4 hJ21 hr
set_option maxRecDepth 20000 in
def r284_21 (J4 : Int32 → Int32 → Int32 → rs_S → Option (Unit × rs_S)) : Nat → Int32 → Int32 → Int32 → Int32 → rs_S → Option (Unit × rs_S)
  | 0 => fun _ _ _ _ _ => none
  | n + 1 => fun x1 x2 x3 x4 S => if (S.1 32) ≤ x4 then J4 x1 x2 (x3 + (1 : Int32)) S else rb (rf_285 x4 S) fun v1 S2 => if v1 < (0 : Int32) then r284_111 J4 (r284_21 J4 n) x1 x2 x3 x4 S2 else rb (rf_285 x4 S2) fun v4 S5 => (rd_I S5 12 v4).bind fun v7 => if v7 = (0 : Int32) then r284_111 J4 (r284_21 J4 n) x1 x2 x3 x4 S5 else (rd_I S5 36 x4).bind fun v8 => if (S5.1 32) < v8 then r284_111 J4 (r284_21 J4 n) x1 x2 x3 x4 S5 else rb (rf_285 x4 S5) fun v9 S10 => rb (rf_286 x1 v9 S10) fun v12 S13 => if x2 = (0 : Int32) then (rd_I S13 36 x4).bind fun v15 => if v12 = v15 then r284_101 J4 (r284_21 J4 n) x1 x3 x4 v12 (0 : Int32) S13 else r284_96 J4 (r284_21 J4 n) x1 x3 x4 v12 S13 else r284_96 J4 (r284_21 J4 n) x1 x3 x4 v12 S13
set_option maxRecDepth 20000 in
theorem r284_21_t {h : pm_H} (hl : 177 ≤ h.1.length) {J4 : Int32 → Int32 → Int32 → rs_S → Option (Unit × rs_S)} {K4 : Option Nat → Int32 → Int32 → Int32 → pm_H → tm_L} (hJ4 : ∀ {x1 : Int32} {x2 : Int32} {x3 : Int32} {S S' : rs_S} {v : Unit}, J4 x1 x2 x3 S = some (v, S') → K4 (some 145) x1 x2 x3 (rs_h S h) = some (.inl none, rs_h S' h)) : ∀ (n : Nat) {x1 : Int32} {x2 : Int32} {x3 : Int32} {x4 : Int32} {S S' : rs_S} {v : Unit}, r284_21 J4 n x1 x2 x3 x4 S = some (v, S') → l284_21 K4 n (some 145) x1 x2 x3 x4 (rs_h S h) = some (.inl none, rs_h S' h) := by
  intro n
  induction n with
  | zero => intro x1 x2 x3 x4 S S' v hr; cases hr
  | succ n ih =>
    intro x1 x2 x3 x4 S S' v hr
    rw [r284_21] at hr
    rw [l284_21]
    try dsimp only at hr
    try dsimp only
    first | rw [rs_fI (k := 32) hl (by decide) rfl, Option.bind_some] | rw [Option.bind_some]
    by_cases c21 : (S.1 32) ≤ x4
    · rw [if_pos c21] at hr ⊢
      exact hJ4 hr
    · rw [if_neg c21] at hr ⊢
      obtain ⟨v1, S2, m3, hr⟩ := rb_s hr
      rw [if_pos (rs_lc hl)]
      rw [rt_285 hl m3, lb_I_r]
      by_cases c20 : v1 < (0 : Int32)
      · rw [if_pos c20] at hr ⊢
        exact r284_111_t hl hJ4 (fun hr => ih hr) hr
      · rw [if_neg c20] at hr ⊢
        first | rw [rs_fR (k := 12) hl (by decide) rfl, Option.bind_some] | rw [Option.bind_some]
        obtain ⟨v4, S5, m6, hr⟩ := rb_s hr
        rw [if_pos (rs_lc hl)]
        rw [rt_285 hl m6, lb_I_r]
        obtain ⟨v7, qv7, hr⟩ := Option.bind_eq_some_iff.mp hr
        first | rw [rs_rdZ (k := 12) hl rfl rfl qv7, Option.bind_some] | rw [Option.bind_some]
        by_cases c19 : v7 = (0 : Int32)
        · rw [if_pos c19] at hr ⊢
          exact r284_111_t hl hJ4 (fun hr => ih hr) hr
        · rw [if_neg c19] at hr ⊢
          first | rw [rs_fR (k := 36) hl (by decide) rfl, Option.bind_some] | rw [Option.bind_some]
          obtain ⟨v8, qv8, hr⟩ := Option.bind_eq_some_iff.mp hr
          first | rw [rs_rdI (k := 36) hl rfl rfl qv8, Option.bind_some] | rw [Option.bind_some]
          first | rw [rs_fI (k := 32) hl (by decide) rfl, Option.bind_some] | rw [Option.bind_some]
          by_cases c18 : (S5.1 32) < v8
          · rw [if_pos c18] at hr ⊢
            exact r284_111_t hl hJ4 (fun hr => ih hr) hr
          · rw [if_neg c18] at hr ⊢
            obtain ⟨v9, S10, m11, hr⟩ := rb_s hr
            rw [if_pos (rs_lc hl)]
            rw [rt_285 hl m11, lb_I_r]
            obtain ⟨v12, S13, m14, hr⟩ := rb_s hr
            rw [if_pos (rs_lc hl)]
            rw [rt_286 hl m14, lb_I_r]
            by_cases c17 : x2 = (0 : Int32)
            · rw [if_pos c17] at hr ⊢
              first | rw [rs_fR (k := 36) hl (by decide) rfl, Option.bind_some] | rw [Option.bind_some]
              obtain ⟨v15, qv15, hr⟩ := Option.bind_eq_some_iff.mp hr
              first | rw [rs_rdI (k := 36) hl rfl rfl qv15, Option.bind_some] | rw [Option.bind_some]
              by_cases c16 : v12 = v15
              · rw [if_pos c16] at hr ⊢
                exact r284_101_t hl hJ4 (fun hr => ih hr) hr
              · rw [if_neg c16] at hr ⊢
                exact r284_96_t hl hJ4 (fun hr => ih hr) hr
            · rw [if_neg c17] at hr ⊢
              exact r284_96_t hl hJ4 (fun hr => ih hr) hr
set_option maxRecDepth 20000 in
def r284_4 : Nat → Int32 → Int32 → Int32 → rs_S → Option (Unit × rs_S)
  | 0 => fun _ _ _ _ => none
  | n + 1 => fun x1 x2 x3 S => if (S.1 32) < x3 then some ((), S) else if x2 = (0 : Int32) then some ((), S) else r284_21 (r284_4 n) lf_N x1 (0 : Int32) x3 (0 : Int32) S
set_option maxRecDepth 20000 in
theorem r284_4_t {h : pm_H} (hl : 177 ≤ h.1.length) : ∀ (n : Nat) {x1 : Int32} {x2 : Int32} {x3 : Int32} {S S' : rs_S} {v : Unit}, r284_4 n x1 x2 x3 S = some (v, S') → l284_4 n (some 145) x1 x2 x3 (rs_h S h) = some (.inl none, rs_h S' h) := by
  intro n
  induction n with
  | zero => intro x1 x2 x3 S S' v hr; cases hr
  | succ n ih =>
    intro x1 x2 x3 S S' v hr
    rw [r284_4] at hr
    rw [l284_4]
    try dsimp only at hr
    try dsimp only
    first | rw [rs_fI (k := 32) hl (by decide) rfl, Option.bind_some] | rw [Option.bind_some]
    by_cases c2 : (S.1 32) < x3
    · rw [if_pos c2] at hr ⊢
      cases hr
      rfl
    · rw [if_neg c2] at hr ⊢
      by_cases c1 : x2 = (0 : Int32)
      · rw [if_pos c1] at hr ⊢
        cases hr
        rfl
      · rw [if_neg c1] at hr ⊢
        exact r284_21_t hl (fun hr => ih hr) lf_N hr
set_option maxRecDepth 20000 in
def rf_284 (a1 : Int32) (S : rs_S) : Option (Unit × rs_S) := r284_4 lf_N a1 (1 : Int32) (0 : Int32) S
set_option maxRecDepth 20000 in
theorem rt_284 {h : pm_H} (hl : 177 ≤ h.1.length) {a1 : Int32} {S S' : rs_S} {v : Unit} (hr : rf_284 a1 S = some (v, S')) : ll_284 (some 145) a1 (rs_h S h) = some (.inl none, rs_h S' h) := by
  unfold rf_284 at hr
  unfold ll_284
  exact r284_4_t hl lf_N hr
-- OfficeSheetModel.isBeyond(J)Z
set_option maxRecDepth 20000 in
def rf_295 (a0 : Int64) (S : rs_S) : Option (Int32 × rs_S) := if (0 : Int32) < (lg_cmp a0 (1000000000 : Int64)) then some ((1 : Int32), S) else if (0 : Int32) ≤ (lg_cmp a0 (-1000000000 : Int64)) then some ((0 : Int32), S) else some ((1 : Int32), S)
set_option maxRecDepth 20000 in
theorem rt_295 {h : pm_H} (hl : 177 ≤ h.1.length) {a0 : Int64} {S S' : rs_S} {v : Int32} (hr : rf_295 a0 S = some (v, S')) : ll_295 a0 (rs_h S h) = some (.inl (some (.inl v)), rs_h S' h) := by
  unfold rf_295 at hr
  unfold ll_295
  by_cases c2 : (0 : Int32) < (lg_cmp a0 (1000000000 : Int64))
  · rw [if_pos c2] at hr ⊢
    cases hr
    rfl
  · rw [if_neg c2] at hr ⊢
    by_cases c1 : (0 : Int32) ≤ (lg_cmp a0 (-1000000000 : Int64))
    · rw [if_pos c1] at hr ⊢
      cases hr
      rfl
    · rw [if_neg c1] at hr ⊢
      cases hr
      rfl
-- OfficeSheetModel.workBlock(III)J
set_option maxRecDepth 20000 in
def r294_191 (J31 : Int32 → Int32 → Int32 → Int64 → Int64 → Int64 → Int32 → rs_S → Option (Int64 × rs_S)) (J52 : Int32 → Int32 → Int32 → Int64 → Int64 → Int64 → Int32 → Int32 → rs_S → Option (Int64 × rs_S)) (x1 : Int32) (x2 : Int32) (x3 : Int32) (x4 : Int64) (x6 : Int64) (x8 : Int64) (x10 : Int32) (x11 : Int32) (S : rs_S) : Option (Int64 × rs_S) := J52 x1 x2 x3 x4 x6 x8 x10 (x11 + (1 : Int32)) S
set_option maxRecDepth 20000 in
theorem r294_191_t {h : pm_H} (hl : 177 ≤ h.1.length) {J31 : Int32 → Int32 → Int32 → Int64 → Int64 → Int64 → Int32 → rs_S → Option (Int64 × rs_S)} {K31 : Option Nat → Int32 → Int32 → Int32 → Int64 → Int64 → Int64 → Int32 → pm_H → tm_L} {J52 : Int32 → Int32 → Int32 → Int64 → Int64 → Int64 → Int32 → Int32 → rs_S → Option (Int64 × rs_S)} {K52 : Option Nat → Int32 → Int32 → Int32 → Int64 → Int64 → Int64 → Int32 → Int32 → pm_H → tm_L} (hJ31 : ∀ {x1 : Int32} {x2 : Int32} {x3 : Int32} {x4 : Int64} {x6 : Int64} {x8 : Int64} {x10 : Int32} {S S' : rs_S} {v : Int64}, J31 x1 x2 x3 x4 x6 x8 x10 S = some (v, S') → K31 (some 145) x1 x2 x3 x4 x6 x8 x10 (rs_h S h) = some (.inl (some (.inr (.inl v))), rs_h S' h)) (hJ52 : ∀ {x1 : Int32} {x2 : Int32} {x3 : Int32} {x4 : Int64} {x6 : Int64} {x8 : Int64} {x10 : Int32} {x11 : Int32} {S S' : rs_S} {v : Int64}, J52 x1 x2 x3 x4 x6 x8 x10 x11 S = some (v, S') → K52 (some 145) x1 x2 x3 x4 x6 x8 x10 x11 (rs_h S h) = some (.inl (some (.inr (.inl v))), rs_h S' h)) {x1 : Int32} {x2 : Int32} {x3 : Int32} {x4 : Int64} {x6 : Int64} {x8 : Int64} {x10 : Int32} {x11 : Int32} {S S' : rs_S} {v : Int64} (hr : r294_191 J31 J52 x1 x2 x3 x4 x6 x8 x10 x11 S = some (v, S')) : l294_191 K31 K52 (some 145) x1 x2 x3 x4 x6 x8 x10 x11 (rs_h S h) = some (.inl (some (.inr (.inl v))), rs_h S' h) := by
  unfold r294_191 at hr
  unfold l294_191
  exact hJ52 hr
set_option maxRecDepth 20000 in
def r294_183 (J31 : Int32 → Int32 → Int32 → Int64 → Int64 → Int64 → Int32 → rs_S → Option (Int64 × rs_S)) (J52 : Int32 → Int32 → Int32 → Int64 → Int64 → Int64 → Int32 → Int32 → rs_S → Option (Int64 × rs_S)) (x1 : Int32) (x2 : Int32) (x3 : Int32) (x4 : Int64) (x8 : Int64) (x10 : Int32) (x11 : Int32) (s0 : Int64) (S : rs_S) : Option (Int64 × rs_S) := r294_191 J31 J52 x1 x2 x3 (x4 + (1 : Int64)) s0 x8 x10 x11 S
set_option maxRecDepth 20000 in
theorem r294_183_t {h : pm_H} (hl : 177 ≤ h.1.length) {J31 : Int32 → Int32 → Int32 → Int64 → Int64 → Int64 → Int32 → rs_S → Option (Int64 × rs_S)} {K31 : Option Nat → Int32 → Int32 → Int32 → Int64 → Int64 → Int64 → Int32 → pm_H → tm_L} {J52 : Int32 → Int32 → Int32 → Int64 → Int64 → Int64 → Int32 → Int32 → rs_S → Option (Int64 × rs_S)} {K52 : Option Nat → Int32 → Int32 → Int32 → Int64 → Int64 → Int64 → Int32 → Int32 → pm_H → tm_L} (hJ31 : ∀ {x1 : Int32} {x2 : Int32} {x3 : Int32} {x4 : Int64} {x6 : Int64} {x8 : Int64} {x10 : Int32} {S S' : rs_S} {v : Int64}, J31 x1 x2 x3 x4 x6 x8 x10 S = some (v, S') → K31 (some 145) x1 x2 x3 x4 x6 x8 x10 (rs_h S h) = some (.inl (some (.inr (.inl v))), rs_h S' h)) (hJ52 : ∀ {x1 : Int32} {x2 : Int32} {x3 : Int32} {x4 : Int64} {x6 : Int64} {x8 : Int64} {x10 : Int32} {x11 : Int32} {S S' : rs_S} {v : Int64}, J52 x1 x2 x3 x4 x6 x8 x10 x11 S = some (v, S') → K52 (some 145) x1 x2 x3 x4 x6 x8 x10 x11 (rs_h S h) = some (.inl (some (.inr (.inl v))), rs_h S' h)) {x1 : Int32} {x2 : Int32} {x3 : Int32} {x4 : Int64} {x8 : Int64} {x10 : Int32} {x11 : Int32} {s0 : Int64} {S S' : rs_S} {v : Int64} (hr : r294_183 J31 J52 x1 x2 x3 x4 x8 x10 x11 s0 S = some (v, S')) : l294_183 K31 K52 (some 145) x1 x2 x3 x4 x8 x10 x11 s0 (rs_h S h) = some (.inl (some (.inr (.inl v))), rs_h S' h) := by
  unfold r294_183 at hr
  unfold l294_183
  exact r294_191_t hl hJ31 hJ52 hr
set_option maxRecDepth 20000 in
def r294_155 (J31 : Int32 → Int32 → Int32 → Int64 → Int64 → Int64 → Int32 → rs_S → Option (Int64 × rs_S)) (J52 : Int32 → Int32 → Int32 → Int64 → Int64 → Int64 → Int32 → Int32 → rs_S → Option (Int64 × rs_S)) (x1 : Int32) (x2 : Int32) (x3 : Int32) (x4 : Int64) (x8 : Int64) (x10 : Int32) (x11 : Int32) (x13 : Int64) (S : rs_S) : Option (Int64 × rs_S) := r294_183 J31 J52 x1 x2 x3 x4 x8 x10 x11 x13 S
set_option maxRecDepth 20000 in
theorem r294_155_t {h : pm_H} (hl : 177 ≤ h.1.length) {J31 : Int32 → Int32 → Int32 → Int64 → Int64 → Int64 → Int32 → rs_S → Option (Int64 × rs_S)} {K31 : Option Nat → Int32 → Int32 → Int32 → Int64 → Int64 → Int64 → Int32 → pm_H → tm_L} {J52 : Int32 → Int32 → Int32 → Int64 → Int64 → Int64 → Int32 → Int32 → rs_S → Option (Int64 × rs_S)} {K52 : Option Nat → Int32 → Int32 → Int32 → Int64 → Int64 → Int64 → Int32 → Int32 → pm_H → tm_L} (hJ31 : ∀ {x1 : Int32} {x2 : Int32} {x3 : Int32} {x4 : Int64} {x6 : Int64} {x8 : Int64} {x10 : Int32} {S S' : rs_S} {v : Int64}, J31 x1 x2 x3 x4 x6 x8 x10 S = some (v, S') → K31 (some 145) x1 x2 x3 x4 x6 x8 x10 (rs_h S h) = some (.inl (some (.inr (.inl v))), rs_h S' h)) (hJ52 : ∀ {x1 : Int32} {x2 : Int32} {x3 : Int32} {x4 : Int64} {x6 : Int64} {x8 : Int64} {x10 : Int32} {x11 : Int32} {S S' : rs_S} {v : Int64}, J52 x1 x2 x3 x4 x6 x8 x10 x11 S = some (v, S') → K52 (some 145) x1 x2 x3 x4 x6 x8 x10 x11 (rs_h S h) = some (.inl (some (.inr (.inl v))), rs_h S' h)) {x1 : Int32} {x2 : Int32} {x3 : Int32} {x4 : Int64} {x8 : Int64} {x10 : Int32} {x11 : Int32} {x13 : Int64} {S S' : rs_S} {v : Int64} (hr : r294_155 J31 J52 x1 x2 x3 x4 x8 x10 x11 x13 S = some (v, S')) : l294_155 K31 K52 (some 145) x1 x2 x3 x4 x8 x10 x11 x13 (rs_h S h) = some (.inl (some (.inr (.inl v))), rs_h S' h) := by
  unfold r294_155 at hr
  unfold l294_155
  exact r294_183_t hl hJ31 hJ52 hr
set_option maxRecDepth 20000 in
def r294_132 (J31 : Int32 → Int32 → Int32 → Int64 → Int64 → Int64 → Int32 → rs_S → Option (Int64 × rs_S)) (J52 : Int32 → Int32 → Int32 → Int64 → Int64 → Int64 → Int32 → Int32 → rs_S → Option (Int64 × rs_S)) (x1 : Int32) (x2 : Int32) (x3 : Int32) (x4 : Int64) (x6 : Int64) (x10 : Int32) (x11 : Int32) (x13 : Int64) (s0 : Int64) (S : rs_S) : Option (Int64 × rs_S) := if x2 = (109 : Int32) then if (lg_cmp x4 (0 : Int64)) = (0 : Int32) then r294_155 J31 J52 x1 x2 x3 x4 s0 x10 x11 x13 S else if (lg_cmp x13 x6) ≤ (0 : Int32) then r294_183 J31 J52 x1 x2 x3 x4 s0 x10 x11 x6 S else r294_155 J31 J52 x1 x2 x3 x4 s0 x10 x11 x13 S else rb (rf_295 x6 S) fun v3 S4 => if v3 = (0 : Int32) then r294_183 J31 J52 x1 x2 x3 x4 s0 x10 x11 (x6 + x13) S4 else r294_183 J31 J52 x1 x2 x3 x4 s0 x10 x11 x6 S4
set_option maxRecDepth 20000 in
theorem r294_132_t {h : pm_H} (hl : 177 ≤ h.1.length) {J31 : Int32 → Int32 → Int32 → Int64 → Int64 → Int64 → Int32 → rs_S → Option (Int64 × rs_S)} {K31 : Option Nat → Int32 → Int32 → Int32 → Int64 → Int64 → Int64 → Int32 → pm_H → tm_L} {J52 : Int32 → Int32 → Int32 → Int64 → Int64 → Int64 → Int32 → Int32 → rs_S → Option (Int64 × rs_S)} {K52 : Option Nat → Int32 → Int32 → Int32 → Int64 → Int64 → Int64 → Int32 → Int32 → pm_H → tm_L} (hJ31 : ∀ {x1 : Int32} {x2 : Int32} {x3 : Int32} {x4 : Int64} {x6 : Int64} {x8 : Int64} {x10 : Int32} {S S' : rs_S} {v : Int64}, J31 x1 x2 x3 x4 x6 x8 x10 S = some (v, S') → K31 (some 145) x1 x2 x3 x4 x6 x8 x10 (rs_h S h) = some (.inl (some (.inr (.inl v))), rs_h S' h)) (hJ52 : ∀ {x1 : Int32} {x2 : Int32} {x3 : Int32} {x4 : Int64} {x6 : Int64} {x8 : Int64} {x10 : Int32} {x11 : Int32} {S S' : rs_S} {v : Int64}, J52 x1 x2 x3 x4 x6 x8 x10 x11 S = some (v, S') → K52 (some 145) x1 x2 x3 x4 x6 x8 x10 x11 (rs_h S h) = some (.inl (some (.inr (.inl v))), rs_h S' h)) {x1 : Int32} {x2 : Int32} {x3 : Int32} {x4 : Int64} {x6 : Int64} {x10 : Int32} {x11 : Int32} {x13 : Int64} {s0 : Int64} {S S' : rs_S} {v : Int64} (hr : r294_132 J31 J52 x1 x2 x3 x4 x6 x10 x11 x13 s0 S = some (v, S')) : l294_132 K31 K52 (some 145) x1 x2 x3 x4 x6 x10 x11 x13 s0 (rs_h S h) = some (.inl (some (.inr (.inl v))), rs_h S' h) := by
  unfold r294_132 at hr
  unfold l294_132
  by_cases c7 : x2 = (109 : Int32)
  · rw [if_pos c7] at hr ⊢
    by_cases c2 : (lg_cmp x4 (0 : Int64)) = (0 : Int32)
    · rw [if_pos c2] at hr ⊢
      exact r294_155_t hl hJ31 hJ52 hr
    · rw [if_neg c2] at hr ⊢
      by_cases c1 : (lg_cmp x13 x6) ≤ (0 : Int32)
      · rw [if_pos c1] at hr ⊢
        exact r294_183_t hl hJ31 hJ52 hr
      · rw [if_neg c1] at hr ⊢
        exact r294_155_t hl hJ31 hJ52 hr
  · rw [if_neg c7] at hr ⊢
    obtain ⟨v3, S4, m5, hr⟩ := rb_s hr
    rw [rt_295 hl m5, lb_I_r]
    by_cases c6 : v3 = (0 : Int32)
    · rw [if_pos c6] at hr ⊢
      exact r294_183_t hl hJ31 hJ52 hr
    · rw [if_neg c6] at hr ⊢
      exact r294_183_t hl hJ31 hJ52 hr
set_option maxRecDepth 20000 in
def r294_130 (J31 : Int32 → Int32 → Int32 → Int64 → Int64 → Int64 → Int32 → rs_S → Option (Int64 × rs_S)) (J52 : Int32 → Int32 → Int32 → Int64 → Int64 → Int64 → Int32 → Int32 → rs_S → Option (Int64 × rs_S)) (x1 : Int32) (x2 : Int32) (x3 : Int32) (x4 : Int64) (x6 : Int64) (x8 : Int64) (x10 : Int32) (x11 : Int32) (x13 : Int64) (S : rs_S) : Option (Int64 × rs_S) := r294_132 J31 J52 x1 x2 x3 x4 x6 x10 x11 x13 x8 S
set_option maxRecDepth 20000 in
theorem r294_130_t {h : pm_H} (hl : 177 ≤ h.1.length) {J31 : Int32 → Int32 → Int32 → Int64 → Int64 → Int64 → Int32 → rs_S → Option (Int64 × rs_S)} {K31 : Option Nat → Int32 → Int32 → Int32 → Int64 → Int64 → Int64 → Int32 → pm_H → tm_L} {J52 : Int32 → Int32 → Int32 → Int64 → Int64 → Int64 → Int32 → Int32 → rs_S → Option (Int64 × rs_S)} {K52 : Option Nat → Int32 → Int32 → Int32 → Int64 → Int64 → Int64 → Int32 → Int32 → pm_H → tm_L} (hJ31 : ∀ {x1 : Int32} {x2 : Int32} {x3 : Int32} {x4 : Int64} {x6 : Int64} {x8 : Int64} {x10 : Int32} {S S' : rs_S} {v : Int64}, J31 x1 x2 x3 x4 x6 x8 x10 S = some (v, S') → K31 (some 145) x1 x2 x3 x4 x6 x8 x10 (rs_h S h) = some (.inl (some (.inr (.inl v))), rs_h S' h)) (hJ52 : ∀ {x1 : Int32} {x2 : Int32} {x3 : Int32} {x4 : Int64} {x6 : Int64} {x8 : Int64} {x10 : Int32} {x11 : Int32} {S S' : rs_S} {v : Int64}, J52 x1 x2 x3 x4 x6 x8 x10 x11 S = some (v, S') → K52 (some 145) x1 x2 x3 x4 x6 x8 x10 x11 (rs_h S h) = some (.inl (some (.inr (.inl v))), rs_h S' h)) {x1 : Int32} {x2 : Int32} {x3 : Int32} {x4 : Int64} {x6 : Int64} {x8 : Int64} {x10 : Int32} {x11 : Int32} {x13 : Int64} {S S' : rs_S} {v : Int64} (hr : r294_130 J31 J52 x1 x2 x3 x4 x6 x8 x10 x11 x13 S = some (v, S')) : l294_130 K31 K52 (some 145) x1 x2 x3 x4 x6 x8 x10 x11 x13 (rs_h S h) = some (.inl (some (.inr (.inl v))), rs_h S' h) := by
  unfold r294_130 at hr
  unfold l294_130
  exact r294_132_t hl hJ31 hJ52 hr
set_option maxRecDepth 20000 in
def r294_52 (J31 : Int32 → Int32 → Int32 → Int64 → Int64 → Int64 → Int32 → rs_S → Option (Int64 × rs_S)) : Nat → Int32 → Int32 → Int32 → Int64 → Int64 → Int64 → Int32 → Int32 → rs_S → Option (Int64 × rs_S)
  | 0 => fun _ _ _ _ _ _ _ _ _ => none
  | n + 1 => fun x1 x2 x3 x4 x6 x8 x10 x11 S => rb (rf_292 x1 x3 (3 : Int32) S) fun v1 S2 => if v1 < x11 then J31 x1 x2 x3 x4 x6 x8 (x10 + (1 : Int32)) S2 else rb (rf_242 x1 (0 : Int32) x10 S2) fun v4 S5 => rb (rf_242 x1 (1 : Int32) x11 S5) fun v7 S8 => rb (rf_283 v4 v7 S8) fun v10 S11 => if v10 < (0 : Int32) then r294_191 J31 (r294_52 J31 n) x1 x2 x3 x4 x6 x8 x10 x11 S11 else rb (rf_285 v10 S11) fun v13 S14 => if v13 < (0 : Int32) then r294_191 J31 (r294_52 J31 n) x1 x2 x3 x4 x6 x8 x10 x11 S14 else (rd_J S14 37 v10).bind fun v16 => if (lg_cmp x8 (0 : Int64)) = (0 : Int32) then if (lg_cmp v16 (4000000000 : Int64)) < (0 : Int32) then r294_130 J31 (r294_52 J31 n) x1 x2 x3 x4 x6 x8 x10 x11 v16 S14 else r294_132 J31 (r294_52 J31 n) x1 x2 x3 x4 x6 x10 x11 v16 v16 S14 else r294_130 J31 (r294_52 J31 n) x1 x2 x3 x4 x6 x8 x10 x11 v16 S14
set_option maxRecDepth 20000 in
theorem r294_52_t {h : pm_H} (hl : 177 ≤ h.1.length) {J31 : Int32 → Int32 → Int32 → Int64 → Int64 → Int64 → Int32 → rs_S → Option (Int64 × rs_S)} {K31 : Option Nat → Int32 → Int32 → Int32 → Int64 → Int64 → Int64 → Int32 → pm_H → tm_L} (hJ31 : ∀ {x1 : Int32} {x2 : Int32} {x3 : Int32} {x4 : Int64} {x6 : Int64} {x8 : Int64} {x10 : Int32} {S S' : rs_S} {v : Int64}, J31 x1 x2 x3 x4 x6 x8 x10 S = some (v, S') → K31 (some 145) x1 x2 x3 x4 x6 x8 x10 (rs_h S h) = some (.inl (some (.inr (.inl v))), rs_h S' h)) : ∀ (n : Nat) {x1 : Int32} {x2 : Int32} {x3 : Int32} {x4 : Int64} {x6 : Int64} {x8 : Int64} {x10 : Int32} {x11 : Int32} {S S' : rs_S} {v : Int64}, r294_52 J31 n x1 x2 x3 x4 x6 x8 x10 x11 S = some (v, S') → l294_52 K31 n (some 145) x1 x2 x3 x4 x6 x8 x10 x11 (rs_h S h) = some (.inl (some (.inr (.inl v))), rs_h S' h) := by
  intro n
  induction n with
  | zero => intro x1 x2 x3 x4 x6 x8 x10 x11 S S' v hr; cases hr
  | succ n ih =>
    intro x1 x2 x3 x4 x6 x8 x10 x11 S S' v hr
    rw [r294_52] at hr
    rw [l294_52]
    try dsimp only at hr
    try dsimp only
    obtain ⟨v1, S2, m3, hr⟩ := rb_s hr
    rw [if_pos (rs_lc hl)]
    rw [rt_292 hl m3, lb_I_r]
    by_cases c21 : v1 < x11
    · rw [if_pos c21] at hr ⊢
      exact hJ31 hr
    · rw [if_neg c21] at hr ⊢
      obtain ⟨v4, S5, m6, hr⟩ := rb_s hr
      rw [if_pos (rs_lc hl)]
      rw [rt_242 hl m6, lb_I_r]
      obtain ⟨v7, S8, m9, hr⟩ := rb_s hr
      rw [if_pos (rs_lc hl)]
      rw [rt_242 hl m9, lb_I_r]
      obtain ⟨v10, S11, m12, hr⟩ := rb_s hr
      rw [if_pos (rs_lc hl)]
      rw [rt_283 hl m12, lb_I_r]
      by_cases c20 : v10 < (0 : Int32)
      · rw [if_pos c20] at hr ⊢
        exact r294_191_t hl hJ31 (fun hr => ih hr) hr
      · rw [if_neg c20] at hr ⊢
        obtain ⟨v13, S14, m15, hr⟩ := rb_s hr
        rw [if_pos (rs_lc hl)]
        rw [rt_285 hl m15, lb_I_r]
        by_cases c19 : v13 < (0 : Int32)
        · rw [if_pos c19] at hr ⊢
          exact r294_191_t hl hJ31 (fun hr => ih hr) hr
        · rw [if_neg c19] at hr ⊢
          first | rw [rs_fR (k := 37) hl (by decide) rfl, Option.bind_some] | rw [Option.bind_some]
          obtain ⟨v16, qv16, hr⟩ := Option.bind_eq_some_iff.mp hr
          first | rw [rs_rdJ (k := 37) hl rfl rfl qv16, Option.bind_some] | rw [Option.bind_some]
          by_cases c18 : (lg_cmp x8 (0 : Int64)) = (0 : Int32)
          · rw [if_pos c18] at hr ⊢
            by_cases c17 : (lg_cmp v16 (4000000000 : Int64)) < (0 : Int32)
            · rw [if_pos c17] at hr ⊢
              exact r294_130_t hl hJ31 (fun hr => ih hr) hr
            · rw [if_neg c17] at hr ⊢
              exact r294_132_t hl hJ31 (fun hr => ih hr) hr
          · rw [if_neg c18] at hr ⊢
            exact r294_130_t hl hJ31 (fun hr => ih hr) hr
set_option maxRecDepth 20000 in
def r294_31 : Nat → Int32 → Int32 → Int32 → Int64 → Int64 → Int64 → Int32 → rs_S → Option (Int64 × rs_S)
  | 0 => fun _ _ _ _ _ _ _ _ => none
  | n + 1 => fun x1 x2 x3 x4 x6 x8 x10 S => rb (rf_292 x1 x3 (1 : Int32) S) fun v1 S2 => if v1 < x10 then if x2 = (110 : Int32) then some (((10000 : Int64) * x4), S2) else if (lg_cmp x8 (0 : Int64)) ≤ (0 : Int32) then rb (rf_295 x6 S2) fun v4 S5 => if v4 = (0 : Int32) then some (x6, S5) else some ((4000000004 : Int64), S5) else some (x8, S2) else rb (rf_292 x1 x3 (2 : Int32) S2) fun v10 S11 => r294_52 (r294_31 n) lf_N x1 x2 x3 x4 x6 x8 x10 v10 S11
set_option maxRecDepth 20000 in
theorem r294_31_t {h : pm_H} (hl : 177 ≤ h.1.length) : ∀ (n : Nat) {x1 : Int32} {x2 : Int32} {x3 : Int32} {x4 : Int64} {x6 : Int64} {x8 : Int64} {x10 : Int32} {S S' : rs_S} {v : Int64}, r294_31 n x1 x2 x3 x4 x6 x8 x10 S = some (v, S') → l294_31 n (some 145) x1 x2 x3 x4 x6 x8 x10 (rs_h S h) = some (.inl (some (.inr (.inl v))), rs_h S' h) := by
  intro n
  induction n with
  | zero => intro x1 x2 x3 x4 x6 x8 x10 S S' v hr; cases hr
  | succ n ih =>
    intro x1 x2 x3 x4 x6 x8 x10 S S' v hr
    rw [r294_31] at hr
    rw [l294_31]
    try dsimp only at hr
    try dsimp only
    obtain ⟨v1, S2, m3, hr⟩ := rb_s hr
    rw [if_pos (rs_lc hl)]
    rw [rt_292 hl m3, lb_I_r]
    by_cases c13 : v1 < x10
    · rw [if_pos c13] at hr ⊢
      by_cases c9 : x2 = (110 : Int32)
      · rw [if_pos c9] at hr ⊢
        cases hr
        rfl
      · rw [if_neg c9] at hr ⊢
        by_cases c8 : (lg_cmp x8 (0 : Int64)) ≤ (0 : Int32)
        · rw [if_pos c8] at hr ⊢
          obtain ⟨v4, S5, m6, hr⟩ := rb_s hr
          rw [rt_295 hl m6, lb_I_r]
          by_cases c7 : v4 = (0 : Int32)
          · rw [if_pos c7] at hr ⊢
            cases hr
            rfl
          · rw [if_neg c7] at hr ⊢
            cases hr
            rfl
        · rw [if_neg c8] at hr ⊢
          cases hr
          rfl
    · rw [if_neg c13] at hr ⊢
      obtain ⟨v10, S11, m12, hr⟩ := rb_s hr
      rw [if_pos (rs_lc hl)]
      rw [rt_292 hl m12, lb_I_r]
      exact r294_52_t hl (fun hr => ih hr) lf_N hr
set_option maxRecDepth 20000 in
def rf_294 (a1 : Int32) (a2 : Int32) (a3 : Int32) (S : rs_S) : Option (Int64 × rs_S) := rb (rf_290 a1 a3 S) fun v1 S2 => if v1 = (0 : Int32) then some ((4000000002 : Int64), S2) else rb (rf_292 a1 a3 (0 : Int32) S2) fun v4 S5 => r294_31 lf_N a1 a2 a3 (0 : Int64) (0 : Int64) (0 : Int64) v4 S5
set_option maxRecDepth 20000 in
theorem rt_294 {h : pm_H} (hl : 177 ≤ h.1.length) {a1 : Int32} {a2 : Int32} {a3 : Int32} {S S' : rs_S} {v : Int64} (hr : rf_294 a1 a2 a3 S = some (v, S')) : ll_294 (some 145) a1 a2 a3 (rs_h S h) = some (.inl (some (.inr (.inl v))), rs_h S' h) := by
  unfold rf_294 at hr
  unfold ll_294
  obtain ⟨v1, S2, m3, hr⟩ := rb_s hr
  rw [if_pos (rs_lc hl)]
  rw [rt_290 hl m3, lb_I_r]
  by_cases c7 : v1 = (0 : Int32)
  · rw [if_pos c7] at hr ⊢
    cases hr
    rfl
  · rw [if_neg c7] at hr ⊢
    obtain ⟨v4, S5, m6, hr⟩ := rb_s hr
    rw [if_pos (rs_lc hl)]
    rw [rt_292 hl m6, lb_I_r]
    exact r294_31_t hl lf_N hr
-- OfficeSheetModel.size(J)J
set_option maxRecDepth 20000 in
def rf_298 (a0 : Int64) (S : rs_S) : Option (Int64 × rs_S) := if (0 : Int32) ≤ (lg_cmp a0 (0 : Int64)) then some (a0, S) else some ((-a0), S)
set_option maxRecDepth 20000 in
theorem rt_298 {h : pm_H} (hl : 177 ≤ h.1.length) {a0 : Int64} {S S' : rs_S} {v : Int64} (hr : rf_298 a0 S = some (v, S')) : ll_298 a0 (rs_h S h) = some (.inl (some (.inr (.inl v))), rs_h S' h) := by
  unfold rf_298 at hr
  unfold ll_298
  by_cases c1 : (0 : Int32) ≤ (lg_cmp a0 (0 : Int64))
  · rw [if_pos c1] at hr ⊢
    cases hr
    rfl
  · rw [if_neg c1] at hr ⊢
    cases hr
    rfl
-- OfficeSheetModel.nearest(JJ)J
set_option maxRecDepth 20000 in
def r297_90 (x8 : Int64) (s0 : Int32) (s1 : Int32) (S : rs_S) : Option (Int64 × rs_S) := if s1 = s0 then some (x8, S) else some ((-x8), S)
set_option maxRecDepth 20000 in
theorem r297_90_t {h : pm_H} (hl : 177 ≤ h.1.length) {x8 : Int64} {s0 : Int32} {s1 : Int32} {S S' : rs_S} {v : Int64} (hr : r297_90 x8 s0 s1 S = some (v, S')) : l297_90 x8 s0 s1 (rs_h S h) = some (.inl (some (.inr (.inl v))), rs_h S' h) := by
  unfold r297_90 at hr
  unfold l297_90
  by_cases c1 : s1 = s0
  · rw [if_pos c1] at hr ⊢
    cases hr
    rfl
  · rw [if_neg c1] at hr ⊢
    cases hr
    rfl
set_option maxRecDepth 20000 in
def r297_79 (x2 : Int64) (x8 : Int64) (s0 : Int32) (S : rs_S) : Option (Int64 × rs_S) := if (0 : Int32) ≤ (lg_cmp x2 (0 : Int64)) then r297_90 x8 (0 : Int32) s0 S else r297_90 x8 (1 : Int32) s0 S
set_option maxRecDepth 20000 in
theorem r297_79_t {h : pm_H} (hl : 177 ≤ h.1.length) {x2 : Int64} {x8 : Int64} {s0 : Int32} {S S' : rs_S} {v : Int64} (hr : r297_79 x2 x8 s0 S = some (v, S')) : l297_79 x2 x8 s0 (rs_h S h) = some (.inl (some (.inr (.inl v))), rs_h S' h) := by
  unfold r297_79 at hr
  unfold l297_79
  by_cases c1 : (0 : Int32) ≤ (lg_cmp x2 (0 : Int64))
  · rw [if_pos c1] at hr ⊢
    exact r297_90_t hl hr
  · rw [if_neg c1] at hr ⊢
    exact r297_90_t hl hr
set_option maxRecDepth 20000 in
def r297_66 (x0 : Int64) (x2 : Int64) (s0 : Int64) (S : rs_S) : Option (Int64 × rs_S) := if (0 : Int32) ≤ (lg_cmp x0 (0 : Int64)) then r297_79 x2 s0 (0 : Int32) S else r297_79 x2 s0 (1 : Int32) S
set_option maxRecDepth 20000 in
theorem r297_66_t {h : pm_H} (hl : 177 ≤ h.1.length) {x0 : Int64} {x2 : Int64} {s0 : Int64} {S S' : rs_S} {v : Int64} (hr : r297_66 x0 x2 s0 S = some (v, S')) : l297_66 x0 x2 s0 (rs_h S h) = some (.inl (some (.inr (.inl v))), rs_h S' h) := by
  unfold r297_66 at hr
  unfold l297_66
  by_cases c1 : (0 : Int32) ≤ (lg_cmp x0 (0 : Int64))
  · rw [if_pos c1] at hr ⊢
    exact r297_79_t hl hr
  · rw [if_neg c1] at hr ⊢
    exact r297_79_t hl hr
set_option maxRecDepth 20000 in
def r297_57 (x0 : Int64) (x2 : Int64) (x8 : Int64) (S : rs_S) : Option (Int64 × rs_S) := r297_66 x0 x2 (x8 + (1 : Int64)) S
set_option maxRecDepth 20000 in
theorem r297_57_t {h : pm_H} (hl : 177 ≤ h.1.length) {x0 : Int64} {x2 : Int64} {x8 : Int64} {S S' : rs_S} {v : Int64} (hr : r297_57 x0 x2 x8 S = some (v, S')) : l297_57 x0 x2 x8 (rs_h S h) = some (.inl (some (.inr (.inl v))), rs_h S' h) := by
  unfold r297_57 at hr
  unfold l297_57
  exact r297_66_t hl hr
set_option maxRecDepth 20000 in
def r297_64 (x0 : Int64) (x2 : Int64) (x8 : Int64) (S : rs_S) : Option (Int64 × rs_S) := r297_66 x0 x2 x8 S
set_option maxRecDepth 20000 in
theorem r297_64_t {h : pm_H} (hl : 177 ≤ h.1.length) {x0 : Int64} {x2 : Int64} {x8 : Int64} {S S' : rs_S} {v : Int64} (hr : r297_64 x0 x2 x8 S = some (v, S')) : l297_64 x0 x2 x8 (rs_h S h) = some (.inl (some (.inr (.inl v))), rs_h S' h) := by
  unfold r297_64 at hr
  unfold l297_64
  exact r297_66_t hl hr
set_option maxRecDepth 20000 in
def rf_297 (a0 : Int64) (a1 : Int64) (S : rs_S) : Option (Int64 × rs_S) := rb (rf_298 a0 S) fun v1 S2 => rb (rf_298 a1 S2) fun v4 S5 => if v4 = 0 then none else if v4 = 0 then none else if (0 : Int32) < (lg_cmp ((2 : Int64) * (v1 - v1 / v4 * v4)) v4) then r297_57 a0 a1 (v1 / v4) S5 else if (lg_cmp ((2 : Int64) * (v1 - v1 / v4 * v4)) v4) = (0 : Int32) then if (lg_cmp ((v1 / v4) - (v1 / v4) / (2 : Int64) * (2 : Int64)) (1 : Int64)) = (0 : Int32) then r297_57 a0 a1 (v1 / v4) S5 else r297_64 a0 a1 (v1 / v4) S5 else r297_64 a0 a1 (v1 / v4) S5
set_option maxRecDepth 20000 in
theorem rt_297 {h : pm_H} (hl : 177 ≤ h.1.length) {a0 : Int64} {a1 : Int64} {S S' : rs_S} {v : Int64} (hr : rf_297 a0 a1 S = some (v, S')) : ll_297 a0 a1 (rs_h S h) = some (.inl (some (.inr (.inl v))), rs_h S' h) := by
  unfold rf_297 at hr
  unfold ll_297
  obtain ⟨v1, S2, m3, hr⟩ := rb_s hr
  rw [rt_298 hl m3, lb_J_r]
  obtain ⟨v4, S5, m6, hr⟩ := rb_s hr
  rw [rt_298 hl m6, lb_J_r]
  by_cases c7 : v4 = 0
  · rw [if_pos c7] at hr
    cases hr
  · rw [if_neg c7] at hr ⊢
    by_cases c8 : v4 = 0
    · rw [if_pos c8] at hr
      cases hr
    · rw [if_neg c8] at hr ⊢
      by_cases c11 : (0 : Int32) < (lg_cmp ((2 : Int64) * (v1 - v1 / v4 * v4)) v4)
      · rw [if_pos c11] at hr ⊢
        exact r297_57_t hl hr
      · rw [if_neg c11] at hr ⊢
        by_cases c10 : (lg_cmp ((2 : Int64) * (v1 - v1 / v4 * v4)) v4) = (0 : Int32)
        · rw [if_pos c10] at hr ⊢
          by_cases c9 : (lg_cmp ((v1 / v4) - (v1 / v4) / (2 : Int64) * (2 : Int64)) (1 : Int64)) = (0 : Int32)
          · rw [if_pos c9] at hr ⊢
            exact r297_57_t hl hr
          · rw [if_neg c9] at hr ⊢
            exact r297_64_t hl hr
        · rw [if_neg c10] at hr ⊢
          exact r297_64_t hl hr
-- OfficeSheetModel.joined(IJJ)J
set_option maxRecDepth 20000 in
def r296_16 (x1 : Int64) (x3 : Int64) (S : rs_S) : Option (Int64 × rs_S) := if (lg_cmp x1 (4000000000 : Int64)) < (0 : Int32) then some (x3, S) else some (x1, S)
set_option maxRecDepth 20000 in
theorem r296_16_t {h : pm_H} (hl : 177 ≤ h.1.length) {x1 : Int64} {x3 : Int64} {S S' : rs_S} {v : Int64} (hr : r296_16 x1 x3 S = some (v, S')) : l296_16 x1 x3 (rs_h S h) = some (.inl (some (.inr (.inl v))), rs_h S' h) := by
  unfold r296_16 at hr
  unfold l296_16
  by_cases c1 : (lg_cmp x1 (4000000000 : Int64)) < (0 : Int32)
  · rw [if_pos c1] at hr ⊢
    cases hr
    rfl
  · rw [if_neg c1] at hr ⊢
    cases hr
    rfl
set_option maxRecDepth 20000 in
def r296_97 (s0 : Int64) (S : rs_S) : Option (Int64 × rs_S) := rb (rf_295 s0 S) fun v1 S2 => if v1 = (0 : Int32) then some (s0, S2) else some ((4000000004 : Int64), S2)
set_option maxRecDepth 20000 in
theorem r296_97_t {h : pm_H} (hl : 177 ≤ h.1.length) {s0 : Int64} {S S' : rs_S} {v : Int64} (hr : r296_97 s0 S = some (v, S')) : l296_97 s0 (rs_h S h) = some (.inl (some (.inr (.inl v))), rs_h S' h) := by
  unfold r296_97 at hr
  unfold l296_97
  obtain ⟨v1, S2, m3, hr⟩ := rb_s hr
  rw [rt_295 hl m3, lb_I_r]
  by_cases c4 : v1 = (0 : Int32)
  · rw [if_pos c4] at hr ⊢
    cases hr
    rfl
  · rw [if_neg c4] at hr ⊢
    cases hr
    rfl
set_option maxRecDepth 20000 in
def r296_46 (x0 : Int32) (x1 : Int64) (x3 : Int64) (S : rs_S) : Option (Int64 × rs_S) := if x0 = (43 : Int32) then r296_97 (x1 + x3) S else if x0 = (45 : Int32) then r296_97 (x1 - x3) S else if x0 = (42 : Int32) then rb (rf_297 (x1 * x3) (10000 : Int64) S) fun v1 S2 => r296_97 v1 S2 else rb (rf_297 (x1 * (10000 : Int64)) x3 S) fun v4 S5 => r296_97 v4 S5
set_option maxRecDepth 20000 in
theorem r296_46_t {h : pm_H} (hl : 177 ≤ h.1.length) {x0 : Int32} {x1 : Int64} {x3 : Int64} {S S' : rs_S} {v : Int64} (hr : r296_46 x0 x1 x3 S = some (v, S')) : l296_46 x0 x1 x3 (rs_h S h) = some (.inl (some (.inr (.inl v))), rs_h S' h) := by
  unfold r296_46 at hr
  unfold l296_46
  by_cases c9 : x0 = (43 : Int32)
  · rw [if_pos c9] at hr ⊢
    exact r296_97_t hl hr
  · rw [if_neg c9] at hr ⊢
    by_cases c8 : x0 = (45 : Int32)
    · rw [if_pos c8] at hr ⊢
      exact r296_97_t hl hr
    · rw [if_neg c8] at hr ⊢
      by_cases c7 : x0 = (42 : Int32)
      · rw [if_pos c7] at hr ⊢
        obtain ⟨v1, S2, m3, hr⟩ := rb_s hr
        rw [rt_297 hl m3, lb_J_r]
        exact r296_97_t hl hr
      · rw [if_neg c7] at hr ⊢
        obtain ⟨v4, S5, m6, hr⟩ := rb_s hr
        rw [rt_297 hl m6, lb_J_r]
        exact r296_97_t hl hr
set_option maxRecDepth 20000 in
def rf_296 (a0 : Int32) (a1 : Int64) (a2 : Int64) (S : rs_S) : Option (Int64 × rs_S) := if (0 : Int32) ≤ (lg_cmp a1 (4000000000 : Int64)) then r296_16 a1 a2 S else if (lg_cmp a2 (4000000000 : Int64)) < (0 : Int32) then if a0 = (47 : Int32) then if (lg_cmp a2 (0 : Int64)) = (0 : Int32) then some ((4000000001 : Int64), S) else r296_46 a0 a1 a2 S else r296_46 a0 a1 a2 S else r296_16 a1 a2 S
set_option maxRecDepth 20000 in
theorem rt_296 {h : pm_H} (hl : 177 ≤ h.1.length) {a0 : Int32} {a1 : Int64} {a2 : Int64} {S S' : rs_S} {v : Int64} (hr : rf_296 a0 a1 a2 S = some (v, S')) : ll_296 a0 a1 a2 (rs_h S h) = some (.inl (some (.inr (.inl v))), rs_h S' h) := by
  unfold rf_296 at hr
  unfold ll_296
  by_cases c4 : (0 : Int32) ≤ (lg_cmp a1 (4000000000 : Int64))
  · rw [if_pos c4] at hr ⊢
    exact r296_16_t hl hr
  · rw [if_neg c4] at hr ⊢
    by_cases c3 : (lg_cmp a2 (4000000000 : Int64)) < (0 : Int32)
    · rw [if_pos c3] at hr ⊢
      by_cases c2 : a0 = (47 : Int32)
      · rw [if_pos c2] at hr ⊢
        by_cases c1 : (lg_cmp a2 (0 : Int64)) = (0 : Int32)
        · rw [if_pos c1] at hr ⊢
          cases hr
          rfl
        · rw [if_neg c1] at hr ⊢
          exact r296_46_t hl hr
      · rw [if_neg c2] at hr ⊢
        exact r296_46_t hl hr
    · rw [if_neg c3] at hr ⊢
      exact r296_16_t hl hr
-- OfficeSheetModel.work(II)J
set_option maxRecDepth 20000 in
def r293_261 (J8 : Int32 → Int32 → Int32 → Int32 → rs_S → Option (Int64 × rs_S)) (x1 : Int32) (x2 : Int32) (x3 : Int32) (x4 : Int32) (S : rs_S) : Option (Int64 × rs_S) := J8 x1 x2 x3 (x4 + (1 : Int32)) S
set_option maxRecDepth 20000 in
theorem r293_261_t {h : pm_H} (hl : 177 ≤ h.1.length) {J8 : Int32 → Int32 → Int32 → Int32 → rs_S → Option (Int64 × rs_S)} {K8 : Option Nat → Int32 → Int32 → Int32 → Int32 → pm_H → tm_L} (hJ8 : ∀ {x1 : Int32} {x2 : Int32} {x3 : Int32} {x4 : Int32} {S S' : rs_S} {v : Int64}, J8 x1 x2 x3 x4 S = some (v, S') → K8 (some 145) x1 x2 x3 x4 (rs_h S h) = some (.inl (some (.inr (.inl v))), rs_h S' h)) {x1 : Int32} {x2 : Int32} {x3 : Int32} {x4 : Int32} {S S' : rs_S} {v : Int64} (hr : r293_261 J8 x1 x2 x3 x4 S = some (v, S')) : l293_261 K8 (some 145) x1 x2 x3 x4 (rs_h S h) = some (.inl (some (.inr (.inl v))), rs_h S' h) := by
  unfold r293_261 at hr
  unfold l293_261
  exact hJ8 hr
set_option maxRecDepth 20000 in
def r293_137 (J8 : Int32 → Int32 → Int32 → Int32 → rs_S → Option (Int64 × rs_S)) (x1 : Int32) (x2 : Int32) (x3 : Int32) (x4 : Int32) (s0 : Int64) (s1 : Int32) (S : rs_S) : Option (Int64 × rs_S) := (wr_J S 38 s1 s0).bind fun S1 => r293_261 J8 x1 x2 (x3 + (1 : Int32)) x4 S1
set_option maxRecDepth 20000 in
theorem r293_137_t {h : pm_H} (hl : 177 ≤ h.1.length) {J8 : Int32 → Int32 → Int32 → Int32 → rs_S → Option (Int64 × rs_S)} {K8 : Option Nat → Int32 → Int32 → Int32 → Int32 → pm_H → tm_L} (hJ8 : ∀ {x1 : Int32} {x2 : Int32} {x3 : Int32} {x4 : Int32} {S S' : rs_S} {v : Int64}, J8 x1 x2 x3 x4 S = some (v, S') → K8 (some 145) x1 x2 x3 x4 (rs_h S h) = some (.inl (some (.inr (.inl v))), rs_h S' h)) {x1 : Int32} {x2 : Int32} {x3 : Int32} {x4 : Int32} {s0 : Int64} {s1 : Int32} {S S' : rs_S} {v : Int64} (hr : r293_137 J8 x1 x2 x3 x4 s0 s1 S = some (v, S')) : l293_137 K8 (some 145) x1 x2 x3 x4 s0 s1 (some (rs_ad 38)) (rs_h S h) = some (.inl (some (.inr (.inl v))), rs_h S' h) := by
  unfold r293_137 at hr
  unfold l293_137
  obtain ⟨S1, qS1, hr⟩ := Option.bind_eq_some_iff.mp hr
  first | rw [rs_wrJ (k := 38) hl rfl rfl qS1, Option.bind_some] | rw [Option.bind_some]
  exact r293_261_t hl hJ8 hr
set_option maxRecDepth 20000 in
def r293_227 (J8 : Int32 → Int32 → Int32 → Int32 → rs_S → Option (Int64 × rs_S)) (x1 : Int32) (x2 : Int32) (x3 : Int32) (x4 : Int32) (s0 : Int64) (s1 : Int32) (S : rs_S) : Option (Int64 × rs_S) := (wr_J S 38 s1 s0).bind fun S1 => r293_261 J8 x1 x2 x3 x4 S1
set_option maxRecDepth 20000 in
theorem r293_227_t {h : pm_H} (hl : 177 ≤ h.1.length) {J8 : Int32 → Int32 → Int32 → Int32 → rs_S → Option (Int64 × rs_S)} {K8 : Option Nat → Int32 → Int32 → Int32 → Int32 → pm_H → tm_L} (hJ8 : ∀ {x1 : Int32} {x2 : Int32} {x3 : Int32} {x4 : Int32} {S S' : rs_S} {v : Int64}, J8 x1 x2 x3 x4 S = some (v, S') → K8 (some 145) x1 x2 x3 x4 (rs_h S h) = some (.inl (some (.inr (.inl v))), rs_h S' h)) {x1 : Int32} {x2 : Int32} {x3 : Int32} {x4 : Int32} {s0 : Int64} {s1 : Int32} {S S' : rs_S} {v : Int64} (hr : r293_227 J8 x1 x2 x3 x4 s0 s1 S = some (v, S')) : l293_227 K8 (some 145) x1 x2 x3 x4 s0 s1 (some (rs_ad 38)) (rs_h S h) = some (.inl (some (.inr (.inl v))), rs_h S' h) := by
  unfold r293_227 at hr
  unfold l293_227
  obtain ⟨S1, qS1, hr⟩ := Option.bind_eq_some_iff.mp hr
  first | rw [rs_wrJ (k := 38) hl rfl rfl qS1, Option.bind_some] | rw [Option.bind_some]
  exact r293_261_t hl hJ8 hr
set_option maxRecDepth 20000 in
def r293_8 : Nat → Int32 → Int32 → Int32 → Int32 → rs_S → Option (Int64 × rs_S)
  | 0 => fun _ _ _ _ _ => none
  | n + 1 => fun x1 x2 x3 x4 S => (rd_I S 13 x2).bind fun v1 => if (((20 : Int32) * x2) + v1) ≤ x4 then (rd_J S 38 (0 : Int32)).bind fun v2 => some (v2, S) else (rd_I S 14 x4).bind fun v3 => if v3 = (97 : Int32) then (rd_I S 15 x4).bind fun v4 => (wr_J S 38 x3 (Int32.toInt64 v4)).bind fun S5 => r293_261 (r293_8 n) x1 x2 (x3 + (1 : Int32)) x4 S5 else if v3 = (114 : Int32) then (rd_I S 15 x4).bind fun v6 => (rd_I S 15 x4).bind fun v7 => rb (rf_283 (v6 - v6 / (128 : Int32) * (128 : Int32)) (v7 / (128 : Int32)) S) fun v8 S9 => (rd_I S9 15 x4).bind fun v11 => rb (rf_287 x1 v11 S9) fun v12 S13 => if v12 = (0 : Int32) then r293_137 (r293_8 n) x1 x2 x3 x4 (4000000002 : Int64) x3 S13 else if (0 : Int32) ≤ v8 then (rd_J S13 37 v8).bind fun v15 => r293_137 (r293_8 n) x1 x2 x3 x4 v15 x3 S13 else r293_137 (r293_8 n) x1 x2 x3 x4 (0 : Int64) x3 S13 else rb (rf_289 v3 S) fun v18 S19 => if v18 = (0 : Int32) then if v3 = (126 : Int32) then (rd_J S19 38 (x3 - (1 : Int32))).bind fun v21 => if (lg_cmp v21 (4000000000 : Int64)) < (0 : Int32) then (rd_J S19 38 (x3 - (1 : Int32))).bind fun v22 => r293_227 (r293_8 n) x1 x2 x3 x4 (-v22) (x3 - (1 : Int32)) S19 else (rd_J S19 38 (x3 - (1 : Int32))).bind fun v23 => r293_227 (r293_8 n) x1 x2 x3 x4 v23 (x3 - (1 : Int32)) S19 else (rd_J S19 38 ((x3 + (-1 : Int32)) - (1 : Int32))).bind fun v25 => (rd_J S19 38 (x3 + (-1 : Int32))).bind fun v26 => rb (rf_296 v3 v25 v26 S19) fun v27 S28 => (wr_J S28 38 ((x3 + (-1 : Int32)) - (1 : Int32)) v27).bind fun S30 => r293_261 (r293_8 n) x1 x2 (x3 + (-1 : Int32)) x4 S30 else (rd_I S19 15 x4).bind fun v32 => rb (rf_294 x1 v3 v32 S19) fun v33 S34 => (wr_J S34 38 x3 v33).bind fun S36 => r293_261 (r293_8 n) x1 x2 (x3 + (1 : Int32)) x4 S36
set_option maxRecDepth 20000 in
theorem r293_8_t {h : pm_H} (hl : 177 ≤ h.1.length) : ∀ (n : Nat) {x1 : Int32} {x2 : Int32} {x3 : Int32} {x4 : Int32} {S S' : rs_S} {v : Int64}, r293_8 n x1 x2 x3 x4 S = some (v, S') → l293_8 n (some 145) x1 x2 x3 x4 (rs_h S h) = some (.inl (some (.inr (.inl v))), rs_h S' h) := by
  intro n
  induction n with
  | zero => intro x1 x2 x3 x4 S S' v hr; cases hr
  | succ n ih =>
    intro x1 x2 x3 x4 S S' v hr
    rw [r293_8] at hr
    rw [l293_8]
    try dsimp only at hr
    try dsimp only
    first | rw [rs_fR (k := 13) hl (by decide) rfl, Option.bind_some] | rw [Option.bind_some]
    obtain ⟨v1, qv1, hr⟩ := Option.bind_eq_some_iff.mp hr
    first | rw [rs_rdI (k := 13) hl rfl rfl qv1, Option.bind_some] | rw [Option.bind_some]
    by_cases c40 : (((20 : Int32) * x2) + v1) ≤ x4
    · rw [if_pos c40] at hr ⊢
      first | rw [rs_fR (k := 38) hl (by decide) rfl, Option.bind_some] | rw [Option.bind_some]
      obtain ⟨v2, qv2, hr⟩ := Option.bind_eq_some_iff.mp hr
      first | rw [rs_rdJ (k := 38) hl rfl rfl qv2, Option.bind_some] | rw [Option.bind_some]
      cases hr
      rfl
    · rw [if_neg c40] at hr ⊢
      first | rw [rs_fR (k := 14) hl (by decide) rfl, Option.bind_some] | rw [Option.bind_some]
      obtain ⟨v3, qv3, hr⟩ := Option.bind_eq_some_iff.mp hr
      first | rw [rs_rdI (k := 14) hl rfl rfl qv3, Option.bind_some] | rw [Option.bind_some]
      by_cases c39 : v3 = (97 : Int32)
      · rw [if_pos c39] at hr ⊢
        first | rw [rs_fR (k := 38) hl (by decide) rfl, Option.bind_some] | rw [Option.bind_some]
        first | rw [rs_fR (k := 15) hl (by decide) rfl, Option.bind_some] | rw [Option.bind_some]
        obtain ⟨v4, qv4, hr⟩ := Option.bind_eq_some_iff.mp hr
        first | rw [rs_rdI (k := 15) hl rfl rfl qv4, Option.bind_some] | rw [Option.bind_some]
        obtain ⟨S5, qS5, hr⟩ := Option.bind_eq_some_iff.mp hr
        first | rw [rs_wrJ (k := 38) hl rfl rfl qS5, Option.bind_some] | rw [Option.bind_some]
        exact r293_261_t hl (fun hr => ih hr) hr
      · rw [if_neg c39] at hr ⊢
        by_cases c38 : v3 = (114 : Int32)
        · rw [if_pos c38] at hr ⊢
          first | rw [rs_fR (k := 15) hl (by decide) rfl, Option.bind_some] | rw [Option.bind_some]
          obtain ⟨v6, qv6, hr⟩ := Option.bind_eq_some_iff.mp hr
          first | rw [rs_rdI (k := 15) hl rfl rfl qv6, Option.bind_some] | rw [Option.bind_some]
          first | rw [rs_fR (k := 15) hl (by decide) rfl, Option.bind_some] | rw [Option.bind_some]
          obtain ⟨v7, qv7, hr⟩ := Option.bind_eq_some_iff.mp hr
          first | rw [rs_rdI (k := 15) hl rfl rfl qv7, Option.bind_some] | rw [Option.bind_some]
          obtain ⟨v8, S9, m10, hr⟩ := rb_s hr
          rw [if_pos (rs_lc hl)]
          rw [rt_283 hl m10, lb_I_r]
          first | rw [rs_fR (k := 38) hl (by decide) rfl, Option.bind_some] | rw [Option.bind_some]
          first | rw [rs_fR (k := 15) hl (by decide) rfl, Option.bind_some] | rw [Option.bind_some]
          obtain ⟨v11, qv11, hr⟩ := Option.bind_eq_some_iff.mp hr
          first | rw [rs_rdI (k := 15) hl rfl rfl qv11, Option.bind_some] | rw [Option.bind_some]
          obtain ⟨v12, S13, m14, hr⟩ := rb_s hr
          rw [if_pos (rs_lc hl)]
          rw [rt_287 hl m14, lb_I_r]
          by_cases c17 : v12 = (0 : Int32)
          · rw [if_pos c17] at hr ⊢
            exact r293_137_t hl (fun hr => ih hr) hr
          · rw [if_neg c17] at hr ⊢
            by_cases c16 : (0 : Int32) ≤ v8
            · rw [if_pos c16] at hr ⊢
              first | rw [rs_fR (k := 37) hl (by decide) rfl, Option.bind_some] | rw [Option.bind_some]
              obtain ⟨v15, qv15, hr⟩ := Option.bind_eq_some_iff.mp hr
              first | rw [rs_rdJ (k := 37) hl rfl rfl qv15, Option.bind_some] | rw [Option.bind_some]
              exact r293_137_t hl (fun hr => ih hr) hr
            · rw [if_neg c16] at hr ⊢
              exact r293_137_t hl (fun hr => ih hr) hr
        · rw [if_neg c38] at hr ⊢
          obtain ⟨v18, S19, m20, hr⟩ := rb_s hr
          rw [rt_289 hl m20, lb_I_r]
          by_cases c37 : v18 = (0 : Int32)
          · rw [if_pos c37] at hr ⊢
            by_cases c31 : v3 = (126 : Int32)
            · rw [if_pos c31] at hr ⊢
              first | rw [rs_fR (k := 38) hl (by decide) rfl, Option.bind_some] | rw [Option.bind_some]
              first | rw [rs_fR (k := 38) hl (by decide) rfl, Option.bind_some] | rw [Option.bind_some]
              obtain ⟨v21, qv21, hr⟩ := Option.bind_eq_some_iff.mp hr
              first | rw [rs_rdJ (k := 38) hl rfl rfl qv21, Option.bind_some] | rw [Option.bind_some]
              by_cases c24 : (lg_cmp v21 (4000000000 : Int64)) < (0 : Int32)
              · rw [if_pos c24] at hr ⊢
                first | rw [rs_fR (k := 38) hl (by decide) rfl, Option.bind_some] | rw [Option.bind_some]
                obtain ⟨v22, qv22, hr⟩ := Option.bind_eq_some_iff.mp hr
                first | rw [rs_rdJ (k := 38) hl rfl rfl qv22, Option.bind_some] | rw [Option.bind_some]
                exact r293_227_t hl (fun hr => ih hr) hr
              · rw [if_neg c24] at hr ⊢
                first | rw [rs_fR (k := 38) hl (by decide) rfl, Option.bind_some] | rw [Option.bind_some]
                obtain ⟨v23, qv23, hr⟩ := Option.bind_eq_some_iff.mp hr
                first | rw [rs_rdJ (k := 38) hl rfl rfl qv23, Option.bind_some] | rw [Option.bind_some]
                exact r293_227_t hl (fun hr => ih hr) hr
            · rw [if_neg c31] at hr ⊢
              first | rw [rs_fR (k := 38) hl (by decide) rfl, Option.bind_some] | rw [Option.bind_some]
              first | rw [rs_fR (k := 38) hl (by decide) rfl, Option.bind_some] | rw [Option.bind_some]
              obtain ⟨v25, qv25, hr⟩ := Option.bind_eq_some_iff.mp hr
              first | rw [rs_rdJ (k := 38) hl rfl rfl qv25, Option.bind_some] | rw [Option.bind_some]
              first | rw [rs_fR (k := 38) hl (by decide) rfl, Option.bind_some] | rw [Option.bind_some]
              obtain ⟨v26, qv26, hr⟩ := Option.bind_eq_some_iff.mp hr
              first | rw [rs_rdJ (k := 38) hl rfl rfl qv26, Option.bind_some] | rw [Option.bind_some]
              obtain ⟨v27, S28, m29, hr⟩ := rb_s hr
              rw [rt_296 hl m29, lb_J_r]
              obtain ⟨S30, qS30, hr⟩ := Option.bind_eq_some_iff.mp hr
              first | rw [rs_wrJ (k := 38) hl rfl rfl qS30, Option.bind_some] | rw [Option.bind_some]
              exact r293_261_t hl (fun hr => ih hr) hr
          · rw [if_neg c37] at hr ⊢
            first | rw [rs_fR (k := 38) hl (by decide) rfl, Option.bind_some] | rw [Option.bind_some]
            first | rw [rs_fR (k := 15) hl (by decide) rfl, Option.bind_some] | rw [Option.bind_some]
            obtain ⟨v32, qv32, hr⟩ := Option.bind_eq_some_iff.mp hr
            first | rw [rs_rdI (k := 15) hl rfl rfl qv32, Option.bind_some] | rw [Option.bind_some]
            obtain ⟨v33, S34, m35, hr⟩ := rb_s hr
            rw [if_pos (rs_lc hl)]
            rw [rt_294 hl m35, lb_J_r]
            obtain ⟨S36, qS36, hr⟩ := Option.bind_eq_some_iff.mp hr
            first | rw [rs_wrJ (k := 38) hl rfl rfl qS36, Option.bind_some] | rw [Option.bind_some]
            exact r293_261_t hl (fun hr => ih hr) hr
set_option maxRecDepth 20000 in
def rf_293 (a1 : Int32) (a2 : Int32) (S : rs_S) : Option (Int64 × rs_S) := r293_8 lf_N a1 a2 (0 : Int32) ((20 : Int32) * a2) S
set_option maxRecDepth 20000 in
theorem rt_293 {h : pm_H} (hl : 177 ≤ h.1.length) {a1 : Int32} {a2 : Int32} {S S' : rs_S} {v : Int64} (hr : rf_293 a1 a2 S = some (v, S')) : ll_293 (some 145) a1 a2 (rs_h S h) = some (.inl (some (.inr (.inl v))), rs_h S' h) := by
  unfold rf_293 at hr
  unfold ll_293
  exact r293_8_t hl lf_N hr
-- OfficeSheetModel.workOut(I)V
set_option maxRecDepth 20000 in
def r281_130 (J92 : Int32 → rs_S → Option (Unit × rs_S)) (x2 : Int32) (s0 : Int64) (s1 : Int32) (S : rs_S) : Option (Unit × rs_S) := (wr_J S 37 s1 s0).bind fun S1 => J92 (x2 + (1 : Int32)) S1
set_option maxRecDepth 20000 in
theorem r281_130_t {h : pm_H} (hl : 177 ≤ h.1.length) {J92 : Int32 → rs_S → Option (Unit × rs_S)} {K92 : Option Nat → Int32 → pm_H → tm_L} (hJ92 : ∀ {x2 : Int32} {S S' : rs_S} {v : Unit}, J92 x2 S = some (v, S') → K92 (some 145) x2 (rs_h S h) = some (.inl none, rs_h S' h)) {x2 : Int32} {s0 : Int64} {s1 : Int32} {S S' : rs_S} {v : Unit} (hr : r281_130 J92 x2 s0 s1 S = some (v, S')) : l281_130 K92 (some 145) x2 s0 s1 (some (rs_ad 37)) (rs_h S h) = some (.inl none, rs_h S' h) := by
  unfold r281_130 at hr
  unfold l281_130
  obtain ⟨S1, qS1, hr⟩ := Option.bind_eq_some_iff.mp hr
  first | rw [rs_wrJ (k := 37) hl rfl rfl qS1, Option.bind_some] | rw [Option.bind_some]
  exact hJ92 hr
set_option maxRecDepth 20000 in
def r281_92 : Nat → Int32 → rs_S → Option (Unit × rs_S)
  | 0 => fun _ _ => none
  | n + 1 => fun x2 S => if (S.1 32) ≤ x2 then some ((), S) else (rd_I S 36 x2).bind fun v1 => if v1 ≤ (S.1 32) then (rd_J S 37 x2).bind fun v2 => r281_130 (r281_92 n) x2 v2 x2 S else r281_130 (r281_92 n) x2 (4000000003 : Int64) x2 S
set_option maxRecDepth 20000 in
theorem r281_92_t {h : pm_H} (hl : 177 ≤ h.1.length) : ∀ (n : Nat) {x2 : Int32} {S S' : rs_S} {v : Unit}, r281_92 n x2 S = some (v, S') → l281_92 n (some 145) x2 (rs_h S h) = some (.inl none, rs_h S' h) := by
  intro n
  induction n with
  | zero => intro x2 S S' v hr; cases hr
  | succ n ih =>
    intro x2 S S' v hr
    rw [r281_92] at hr
    rw [l281_92]
    try dsimp only at hr
    try dsimp only
    first | rw [rs_fI (k := 32) hl (by decide) rfl, Option.bind_some] | rw [Option.bind_some]
    by_cases c4 : (S.1 32) ≤ x2
    · rw [if_pos c4] at hr ⊢
      cases hr
      rfl
    · rw [if_neg c4] at hr ⊢
      first | rw [rs_fR (k := 37) hl (by decide) rfl, Option.bind_some] | rw [Option.bind_some]
      first | rw [rs_fR (k := 36) hl (by decide) rfl, Option.bind_some] | rw [Option.bind_some]
      obtain ⟨v1, qv1, hr⟩ := Option.bind_eq_some_iff.mp hr
      first | rw [rs_rdI (k := 36) hl rfl rfl qv1, Option.bind_some] | rw [Option.bind_some]
      first | rw [rs_fI (k := 32) hl (by decide) rfl, Option.bind_some] | rw [Option.bind_some]
      by_cases c3 : v1 ≤ (S.1 32)
      · rw [if_pos c3] at hr ⊢
        first | rw [rs_fR (k := 37) hl (by decide) rfl, Option.bind_some] | rw [Option.bind_some]
        obtain ⟨v2, qv2, hr⟩ := Option.bind_eq_some_iff.mp hr
        first | rw [rs_rdJ (k := 37) hl rfl rfl qv2, Option.bind_some] | rw [Option.bind_some]
        exact r281_130_t hl (fun hr => ih hr) hr
      · rw [if_neg c3] at hr ⊢
        exact r281_130_t hl (fun hr => ih hr) hr
set_option maxRecDepth 20000 in
def r281_78 (J26 : Int32 → Int32 → rs_S → Option (Unit × rs_S)) (J36 : Int32 → Int32 → Int32 → rs_S → Option (Unit × rs_S)) (x1 : Int32) (x2 : Int32) (x3 : Int32) (S : rs_S) : Option (Unit × rs_S) := J36 x1 x2 (x3 + (1 : Int32)) S
set_option maxRecDepth 20000 in
theorem r281_78_t {h : pm_H} (hl : 177 ≤ h.1.length) {J26 : Int32 → Int32 → rs_S → Option (Unit × rs_S)} {K26 : Option Nat → Int32 → Int32 → pm_H → tm_L} {J36 : Int32 → Int32 → Int32 → rs_S → Option (Unit × rs_S)} {K36 : Option Nat → Int32 → Int32 → Int32 → pm_H → tm_L} (hJ26 : ∀ {x1 : Int32} {x2 : Int32} {S S' : rs_S} {v : Unit}, J26 x1 x2 S = some (v, S') → K26 (some 145) x1 x2 (rs_h S h) = some (.inl none, rs_h S' h)) (hJ36 : ∀ {x1 : Int32} {x2 : Int32} {x3 : Int32} {S S' : rs_S} {v : Unit}, J36 x1 x2 x3 S = some (v, S') → K36 (some 145) x1 x2 x3 (rs_h S h) = some (.inl none, rs_h S' h)) {x1 : Int32} {x2 : Int32} {x3 : Int32} {S S' : rs_S} {v : Unit} (hr : r281_78 J26 J36 x1 x2 x3 S = some (v, S')) : l281_78 K26 K36 (some 145) x1 x2 x3 (rs_h S h) = some (.inl none, rs_h S' h) := by
  unfold r281_78 at hr
  unfold l281_78
  exact hJ36 hr
set_option maxRecDepth 20000 in
def r281_36 (J26 : Int32 → Int32 → rs_S → Option (Unit × rs_S)) : Nat → Int32 → Int32 → Int32 → rs_S → Option (Unit × rs_S)
  | 0 => fun _ _ _ _ => none
  | n + 1 => fun x1 x2 x3 S => if (S.1 32) ≤ x3 then J26 x1 (x2 + (1 : Int32)) S else (rd_I S 36 x3).bind fun v1 => if v1 = x2 then rb (rf_285 x3 S) fun v2 S3 => if v2 < (0 : Int32) then r281_78 J26 (r281_36 J26 n) x1 x2 x3 S3 else rb (rf_285 x3 S3) fun v5 S6 => rb (rf_293 x1 v5 S6) fun v8 S9 => (wr_J S9 37 x3 v8).bind fun S11 => r281_78 J26 (r281_36 J26 n) x1 x2 x3 S11 else r281_78 J26 (r281_36 J26 n) x1 x2 x3 S
set_option maxRecDepth 20000 in
theorem r281_36_t {h : pm_H} (hl : 177 ≤ h.1.length) {J26 : Int32 → Int32 → rs_S → Option (Unit × rs_S)} {K26 : Option Nat → Int32 → Int32 → pm_H → tm_L} (hJ26 : ∀ {x1 : Int32} {x2 : Int32} {S S' : rs_S} {v : Unit}, J26 x1 x2 S = some (v, S') → K26 (some 145) x1 x2 (rs_h S h) = some (.inl none, rs_h S' h)) : ∀ (n : Nat) {x1 : Int32} {x2 : Int32} {x3 : Int32} {S S' : rs_S} {v : Unit}, r281_36 J26 n x1 x2 x3 S = some (v, S') → l281_36 K26 n (some 145) x1 x2 x3 (rs_h S h) = some (.inl none, rs_h S' h) := by
  intro n
  induction n with
  | zero => intro x1 x2 x3 S S' v hr; cases hr
  | succ n ih =>
    intro x1 x2 x3 S S' v hr
    rw [r281_36] at hr
    rw [l281_36]
    try dsimp only at hr
    try dsimp only
    first | rw [rs_fI (k := 32) hl (by decide) rfl, Option.bind_some] | rw [Option.bind_some]
    by_cases c14 : (S.1 32) ≤ x3
    · rw [if_pos c14] at hr ⊢
      exact hJ26 hr
    · rw [if_neg c14] at hr ⊢
      first | rw [rs_fR (k := 36) hl (by decide) rfl, Option.bind_some] | rw [Option.bind_some]
      obtain ⟨v1, qv1, hr⟩ := Option.bind_eq_some_iff.mp hr
      first | rw [rs_rdI (k := 36) hl rfl rfl qv1, Option.bind_some] | rw [Option.bind_some]
      by_cases c13 : v1 = x2
      · rw [if_pos c13] at hr ⊢
        obtain ⟨v2, S3, m4, hr⟩ := rb_s hr
        rw [if_pos (rs_lc hl)]
        rw [rt_285 hl m4, lb_I_r]
        by_cases c12 : v2 < (0 : Int32)
        · rw [if_pos c12] at hr ⊢
          exact r281_78_t hl hJ26 (fun hr => ih hr) hr
        · rw [if_neg c12] at hr ⊢
          first | rw [rs_fR (k := 37) hl (by decide) rfl, Option.bind_some] | rw [Option.bind_some]
          obtain ⟨v5, S6, m7, hr⟩ := rb_s hr
          rw [if_pos (rs_lc hl)]
          rw [rt_285 hl m7, lb_I_r]
          obtain ⟨v8, S9, m10, hr⟩ := rb_s hr
          rw [if_pos (rs_lc hl)]
          rw [rt_293 hl m10, lb_J_r]
          obtain ⟨S11, qS11, hr⟩ := Option.bind_eq_some_iff.mp hr
          first | rw [rs_wrJ (k := 37) hl rfl rfl qS11, Option.bind_some] | rw [Option.bind_some]
          exact r281_78_t hl hJ26 (fun hr => ih hr) hr
      · rw [if_neg c13] at hr ⊢
        exact r281_78_t hl hJ26 (fun hr => ih hr) hr
set_option maxRecDepth 20000 in
def r281_26 : Nat → Int32 → Int32 → rs_S → Option (Unit × rs_S)
  | 0 => fun _ _ _ => none
  | n + 1 => fun x1 x2 S => if (S.1 32) < x2 then r281_92 lf_N (0 : Int32) S else r281_36 (r281_26 n) lf_N x1 x2 (0 : Int32) S
set_option maxRecDepth 20000 in
theorem r281_26_t {h : pm_H} (hl : 177 ≤ h.1.length) : ∀ (n : Nat) {x1 : Int32} {x2 : Int32} {S S' : rs_S} {v : Unit}, r281_26 n x1 x2 S = some (v, S') → l281_26 n (some 145) x1 x2 (rs_h S h) = some (.inl none, rs_h S' h) := by
  intro n
  induction n with
  | zero => intro x1 x2 S S' v hr; cases hr
  | succ n ih =>
    intro x1 x2 S S' v hr
    rw [r281_26] at hr
    rw [l281_26]
    try dsimp only at hr
    try dsimp only
    first | rw [rs_fI (k := 32) hl (by decide) rfl, Option.bind_some] | rw [Option.bind_some]
    by_cases c1 : (S.1 32) < x2
    · rw [if_pos c1] at hr ⊢
      exact r281_92_t hl lf_N hr
    · rw [if_neg c1] at hr ⊢
      exact r281_36_t hl (fun hr => ih hr) lf_N hr
set_option maxRecDepth 20000 in
def rf_281 (a1 : Int32) (S : rs_S) : Option (Unit × rs_S) := if (S.1 31) = a1 then some ((), S) else rb_S (rs_setI S 31 a1) fun S1 => rb (rf_282 a1 S1) fun _ S3 => rb (rf_284 a1 S3) fun _ S6 => r281_26 lf_N a1 (0 : Int32) S6
set_option maxRecDepth 20000 in
theorem rt_281 {h : pm_H} (hl : 177 ≤ h.1.length) {a1 : Int32} {S S' : rs_S} {v : Unit} (hr : rf_281 a1 S = some (v, S')) : ll_281 (some 145) a1 (rs_h S h) = some (.inl none, rs_h S' h) := by
  unfold rf_281 at hr
  unfold ll_281
  first | rw [rs_fI (k := 31) hl (by decide) rfl, Option.bind_some] | rw [Option.bind_some]
  by_cases c8 : (S.1 31) = a1
  · rw [if_pos c8] at hr ⊢
    cases hr
    rfl
  · rw [if_neg c8] at hr ⊢
    obtain ⟨S1, eS1, hr⟩ := rb_S_s hr
    rw [rs_pI (k := 31) hl (by decide) rfl, Option.bind_some, ← eS1]
    obtain ⟨v2, S3, m4, hr⟩ := rb_s hr
    rw [if_pos (rs_lc hl)]
    rw [rt_282 hl m4, lb_V_r]
    obtain ⟨v5, S6, m7, hr⟩ := rb_s hr
    rw [if_pos (rs_lc hl)]
    rw [rt_284 hl m7, lb_V_r]
    exact r281_26_t hl lf_N hr
-- OfficeSheetModel.asked(III)I
set_option maxRecDepth 20000 in
def r280_41 (x1 : Int32) (x2 : Int32) (x3 : Int32) (s0 : Int32) (S : rs_S) : Option (Int32 × rs_S) := rb_S (rs_setI S 0 s0) fun S1 => if (S1.1 0) ≤ (0 : Int32) then rb (rf_281 x1 S1) fun _ S3 => rb (rf_242 x1 (0 : Int32) x2 S3) fun v5 S6 => rb (rf_242 x1 (1 : Int32) x3 S6) fun v8 S9 => rb (rf_283 v5 v8 S9) fun v11 S12 => some (v11, S12) else some ((-1 : Int32), S1)
set_option maxRecDepth 20000 in
theorem r280_41_t {h : pm_H} (hl : 177 ≤ h.1.length) {x1 : Int32} {x2 : Int32} {x3 : Int32} {s0 : Int32} {S S' : rs_S} {v : Int32} (hr : r280_41 x1 x2 x3 s0 S = some (v, S')) : l280_41 (some 145) x1 x2 x3 s0 (some 145) (rs_h S h) = some (.inl (some (.inl v)), rs_h S' h) := by
  unfold r280_41 at hr
  unfold l280_41
  obtain ⟨S1, eS1, hr⟩ := rb_S_s hr
  rw [rs_pI (k := 0) hl (by decide) rfl, Option.bind_some, ← eS1]
  first | rw [rs_fI (k := 0) hl (by decide) rfl, Option.bind_some] | rw [Option.bind_some]
  by_cases c14 : (S1.1 0) ≤ (0 : Int32)
  · rw [if_pos c14] at hr ⊢
    obtain ⟨v2, S3, m4, hr⟩ := rb_s hr
    rw [if_pos (rs_lc hl)]
    rw [rt_281 hl m4, lb_V_r]
    obtain ⟨v5, S6, m7, hr⟩ := rb_s hr
    rw [if_pos (rs_lc hl)]
    rw [rt_242 hl m7, lb_I_r]
    obtain ⟨v8, S9, m10, hr⟩ := rb_s hr
    rw [if_pos (rs_lc hl)]
    rw [rt_242 hl m10, lb_I_r]
    obtain ⟨v11, S12, m13, hr⟩ := rb_s hr
    rw [if_pos (rs_lc hl)]
    rw [rt_283 hl m13, lb_I_r]
    cases hr
    rfl
  · rw [if_neg c14] at hr ⊢
    cases hr
    rfl
set_option maxRecDepth 20000 in
def r280_36 (x1 : Int32) (x2 : Int32) (x3 : Int32) (S : rs_S) : Option (Int32 × rs_S) := r280_41 x1 x2 x3 (2 : Int32) S
set_option maxRecDepth 20000 in
theorem r280_36_t {h : pm_H} (hl : 177 ≤ h.1.length) {x1 : Int32} {x2 : Int32} {x3 : Int32} {S S' : rs_S} {v : Int32} (hr : r280_36 x1 x2 x3 S = some (v, S')) : l280_36 (some 145) x1 x2 x3 (some 145) (rs_h S h) = some (.inl (some (.inl v)), rs_h S' h) := by
  unfold r280_36 at hr
  unfold l280_36
  exact r280_41_t hl hr
set_option maxRecDepth 20000 in
def rf_280 (a1 : Int32) (a2 : Int32) (a3 : Int32) (S : rs_S) : Option (Int32 × rs_S) := rb (rf_237 a1 S) fun v1 S2 => if v1 = (0 : Int32) then r280_41 a1 a2 a3 (1 : Int32) S2 else rb (rf_239 a1 (0 : Int32) a2 S2) fun v4 S5 => if v4 = (0 : Int32) then r280_36 a1 a2 a3 S5 else rb (rf_239 a1 (1 : Int32) a3 S5) fun v7 S8 => if v7 = (0 : Int32) then r280_36 a1 a2 a3 S8 else r280_41 a1 a2 a3 (0 : Int32) S8
set_option maxRecDepth 20000 in
theorem rt_280 {h : pm_H} (hl : 177 ≤ h.1.length) {a1 : Int32} {a2 : Int32} {a3 : Int32} {S S' : rs_S} {v : Int32} (hr : rf_280 a1 a2 a3 S = some (v, S')) : ll_280 (some 145) a1 a2 a3 (rs_h S h) = some (.inl (some (.inl v)), rs_h S' h) := by
  unfold rf_280 at hr
  unfold ll_280
  obtain ⟨v1, S2, m3, hr⟩ := rb_s hr
  rw [rt_237 hl m3, lb_I_r]
  by_cases c12 : v1 = (0 : Int32)
  · rw [if_pos c12] at hr ⊢
    exact r280_41_t hl hr
  · rw [if_neg c12] at hr ⊢
    obtain ⟨v4, S5, m6, hr⟩ := rb_s hr
    rw [if_pos (rs_lc hl)]
    rw [rt_239 hl m6, lb_I_r]
    by_cases c11 : v4 = (0 : Int32)
    · rw [if_pos c11] at hr ⊢
      exact r280_36_t hl hr
    · rw [if_neg c11] at hr ⊢
      obtain ⟨v7, S8, m9, hr⟩ := rb_s hr
      rw [if_pos (rs_lc hl)]
      rw [rt_239 hl m9, lb_I_r]
      by_cases c10 : v7 = (0 : Int32)
      · rw [if_pos c10] at hr ⊢
        exact r280_36_t hl hr
      · rw [if_neg c10] at hr ⊢
        exact r280_41_t hl hr
-- OfficeSheetModel.value(III)I
set_option maxRecDepth 20000 in
def rf_279 (a1 : Int32) (a2 : Int32) (a3 : Int32) (S : rs_S) : Option (Int32 × rs_S) := rb (rf_280 a1 a2 a3 S) fun v1 S2 => if v1 < (0 : Int32) then some ((0 : Int32), S2) else (rd_J S2 37 v1).bind fun v4 => if (lg_cmp v4 (4000000000 : Int64)) < (0 : Int32) then (rd_J S2 37 v1).bind fun v5 => some ((Int64.toInt32 v5), S2) else some ((0 : Int32), S2)
set_option maxRecDepth 20000 in
theorem rt_279 {h : pm_H} (hl : 177 ≤ h.1.length) {a1 : Int32} {a2 : Int32} {a3 : Int32} {S S' : rs_S} {v : Int32} (hr : rf_279 a1 a2 a3 S = some (v, S')) : ll_279 (some 145) a1 a2 a3 (rs_h S h) = some (.inl (some (.inl v)), rs_h S' h) := by
  unfold rf_279 at hr
  unfold ll_279
  obtain ⟨v1, S2, m3, hr⟩ := rb_s hr
  rw [if_pos (rs_lc hl)]
  rw [rt_280 hl m3, lb_I_r]
  by_cases c7 : v1 < (0 : Int32)
  · rw [if_pos c7] at hr ⊢
    cases hr
    rfl
  · rw [if_neg c7] at hr ⊢
    first | rw [rs_fR (k := 37) hl (by decide) rfl, Option.bind_some] | rw [Option.bind_some]
    obtain ⟨v4, qv4, hr⟩ := Option.bind_eq_some_iff.mp hr
    first | rw [rs_rdJ (k := 37) hl rfl rfl qv4, Option.bind_some] | rw [Option.bind_some]
    by_cases c6 : (lg_cmp v4 (4000000000 : Int64)) < (0 : Int32)
    · rw [if_pos c6] at hr ⊢
      first | rw [rs_fR (k := 37) hl (by decide) rfl, Option.bind_some] | rw [Option.bind_some]
      obtain ⟨v5, qv5, hr⟩ := Option.bind_eq_some_iff.mp hr
      first | rw [rs_rdJ (k := 37) hl rfl rfl qv5, Option.bind_some] | rw [Option.bind_some]
      cases hr
      rfl
    · rw [if_neg c6] at hr ⊢
      cases hr
      rfl
-- OfficeSheetModel.error(III)I
set_option maxRecDepth 20000 in
def rf_299 (a1 : Int32) (a2 : Int32) (a3 : Int32) (S : rs_S) : Option (Int32 × rs_S) := rb (rf_280 a1 a2 a3 S) fun v1 S2 => if v1 < (0 : Int32) then some ((0 : Int32), S2) else (rd_J S2 37 v1).bind fun v4 => if (0 : Int32) ≤ (lg_cmp v4 (4000000000 : Int64)) then (rd_J S2 37 v1).bind fun v5 => some ((Int64.toInt32 (v5 - (4000000000 : Int64))), S2) else some ((0 : Int32), S2)
set_option maxRecDepth 20000 in
theorem rt_299 {h : pm_H} (hl : 177 ≤ h.1.length) {a1 : Int32} {a2 : Int32} {a3 : Int32} {S S' : rs_S} {v : Int32} (hr : rf_299 a1 a2 a3 S = some (v, S')) : ll_299 (some 145) a1 a2 a3 (rs_h S h) = some (.inl (some (.inl v)), rs_h S' h) := by
  unfold rf_299 at hr
  unfold ll_299
  obtain ⟨v1, S2, m3, hr⟩ := rb_s hr
  rw [if_pos (rs_lc hl)]
  rw [rt_280 hl m3, lb_I_r]
  by_cases c7 : v1 < (0 : Int32)
  · rw [if_pos c7] at hr ⊢
    cases hr
    rfl
  · rw [if_neg c7] at hr ⊢
    first | rw [rs_fR (k := 37) hl (by decide) rfl, Option.bind_some] | rw [Option.bind_some]
    obtain ⟨v4, qv4, hr⟩ := Option.bind_eq_some_iff.mp hr
    first | rw [rs_rdJ (k := 37) hl rfl rfl qv4, Option.bind_some] | rw [Option.bind_some]
    by_cases c6 : (0 : Int32) ≤ (lg_cmp v4 (4000000000 : Int64))
    · rw [if_pos c6] at hr ⊢
      first | rw [rs_fR (k := 37) hl (by decide) rfl, Option.bind_some] | rw [Option.bind_some]
      obtain ⟨v5, qv5, hr⟩ := Option.bind_eq_some_iff.mp hr
      first | rw [rs_rdJ (k := 37) hl rfl rfl qv5, Option.bind_some] | rw [Option.bind_some]
      cases hr
      rfl
    · rw [if_neg c6] at hr ⊢
      cases hr
      rfl
-- OfficeSheetModel.writes(III)Z
set_option maxRecDepth 20000 in
def rf_301 (a1 : Int32) (a2 : Int32) (a3 : Int32) (S : rs_S) : Option (Int32 × rs_S) := (rd_I S 1 a2).bind fun v1 => if v1 = (6 : Int32) then rb (rf_244 a1 a2 S) fun v2 S3 => if v2 = (0 : Int32) then some ((0 : Int32), S3) else (rd_I S3 5 a2).bind fun v5 => (rd_I S3 33 a3).bind fun v6 => if v5 = v6 then (rd_I S3 6 a2).bind fun v7 => (rd_I S3 34 a3).bind fun v8 => if v7 = v8 then some ((1 : Int32), S3) else some ((0 : Int32), S3) else some ((0 : Int32), S3) else some ((0 : Int32), S)
set_option maxRecDepth 20000 in
theorem rt_301 {h : pm_H} (hl : 177 ≤ h.1.length) {a1 : Int32} {a2 : Int32} {a3 : Int32} {S S' : rs_S} {v : Int32} (hr : rf_301 a1 a2 a3 S = some (v, S')) : ll_301 (some 145) a1 a2 a3 (rs_h S h) = some (.inl (some (.inl v)), rs_h S' h) := by
  unfold rf_301 at hr
  unfold ll_301
  first | rw [rs_fR (k := 1) hl (by decide) rfl, Option.bind_some] | rw [Option.bind_some]
  obtain ⟨v1, qv1, hr⟩ := Option.bind_eq_some_iff.mp hr
  first | rw [rs_rdI (k := 1) hl rfl rfl qv1, Option.bind_some] | rw [Option.bind_some]
  by_cases c12 : v1 = (6 : Int32)
  · rw [if_pos c12] at hr ⊢
    obtain ⟨v2, S3, m4, hr⟩ := rb_s hr
    rw [if_pos (rs_lc hl)]
    rw [rt_244 hl m4, lb_I_r]
    by_cases c11 : v2 = (0 : Int32)
    · rw [if_pos c11] at hr ⊢
      cases hr
      rfl
    · rw [if_neg c11] at hr ⊢
      first | rw [rs_fR (k := 5) hl (by decide) rfl, Option.bind_some] | rw [Option.bind_some]
      obtain ⟨v5, qv5, hr⟩ := Option.bind_eq_some_iff.mp hr
      first | rw [rs_rdI (k := 5) hl rfl rfl qv5, Option.bind_some] | rw [Option.bind_some]
      first | rw [rs_fR (k := 33) hl (by decide) rfl, Option.bind_some] | rw [Option.bind_some]
      obtain ⟨v6, qv6, hr⟩ := Option.bind_eq_some_iff.mp hr
      first | rw [rs_rdI (k := 33) hl rfl rfl qv6, Option.bind_some] | rw [Option.bind_some]
      by_cases c10 : v5 = v6
      · rw [if_pos c10] at hr ⊢
        first | rw [rs_fR (k := 6) hl (by decide) rfl, Option.bind_some] | rw [Option.bind_some]
        obtain ⟨v7, qv7, hr⟩ := Option.bind_eq_some_iff.mp hr
        first | rw [rs_rdI (k := 6) hl rfl rfl qv7, Option.bind_some] | rw [Option.bind_some]
        first | rw [rs_fR (k := 34) hl (by decide) rfl, Option.bind_some] | rw [Option.bind_some]
        obtain ⟨v8, qv8, hr⟩ := Option.bind_eq_some_iff.mp hr
        first | rw [rs_rdI (k := 34) hl rfl rfl qv8, Option.bind_some] | rw [Option.bind_some]
        by_cases c9 : v7 = v8
        · rw [if_pos c9] at hr ⊢
          cases hr
          rfl
        · rw [if_neg c9] at hr ⊢
          cases hr
          rfl
      · rw [if_neg c10] at hr ⊢
        cases hr
        rfl
  · rw [if_neg c12] at hr ⊢
    cases hr
    rfl
-- OfficeSheetModel.also(III)I
set_option maxRecDepth 20000 in
def r300_135 (J15 : Int32 → Int32 → Int32 → Int32 → rs_S → Option (Int32 × rs_S)) (J61 : Int32 → Int32 → Int32 → Int32 → Int32 → Int32 → rs_S → Option (Int32 × rs_S)) (x1 : Int32) (x4 : Int32) (x6 : Int32) (s0 : Int32) (S : rs_S) : Option (Int32 × rs_S) := J15 x1 x4 s0 (x6 + (1 : Int32)) S
set_option maxRecDepth 20000 in
theorem r300_135_t {h : pm_H} (hl : 177 ≤ h.1.length) {J15 : Int32 → Int32 → Int32 → Int32 → rs_S → Option (Int32 × rs_S)} {K15 : Option Nat → Int32 → Int32 → Int32 → Int32 → pm_H → tm_L} {J61 : Int32 → Int32 → Int32 → Int32 → Int32 → Int32 → rs_S → Option (Int32 × rs_S)} {K61 : Option Nat → Int32 → Int32 → Int32 → Int32 → Int32 → Int32 → pm_H → tm_L} (hJ15 : ∀ {x1 : Int32} {x4 : Int32} {x5 : Int32} {x6 : Int32} {S S' : rs_S} {v : Int32}, J15 x1 x4 x5 x6 S = some (v, S') → K15 (some 145) x1 x4 x5 x6 (rs_h S h) = some (.inl (some (.inl v)), rs_h S' h)) (hJ61 : ∀ {x1 : Int32} {x4 : Int32} {x5 : Int32} {x6 : Int32} {x7 : Int32} {x8 : Int32} {S S' : rs_S} {v : Int32}, J61 x1 x4 x5 x6 x7 x8 S = some (v, S') → K61 (some 145) x1 x4 x5 x6 x7 x8 (rs_h S h) = some (.inl (some (.inl v)), rs_h S' h)) {x1 : Int32} {x4 : Int32} {x6 : Int32} {s0 : Int32} {S S' : rs_S} {v : Int32} (hr : r300_135 J15 J61 x1 x4 x6 s0 S = some (v, S')) : l300_135 K15 K61 (some 145) x1 x4 x6 s0 (rs_h S h) = some (.inl (some (.inl v)), rs_h S' h) := by
  unfold r300_135 at hr
  unfold l300_135
  exact hJ15 hr
set_option maxRecDepth 20000 in
def r300_121 (J15 : Int32 → Int32 → Int32 → Int32 → rs_S → Option (Int32 × rs_S)) (J61 : Int32 → Int32 → Int32 → Int32 → Int32 → Int32 → rs_S → Option (Int32 × rs_S)) (x1 : Int32) (x4 : Int32) (x5 : Int32) (x6 : Int32) (x7 : Int32) (S : rs_S) : Option (Int32 × rs_S) := if x7 = (0 : Int32) then r300_135 J15 J61 x1 x4 x6 x5 S else r300_135 J15 J61 x1 x4 x6 (x5 + (1 : Int32)) S
set_option maxRecDepth 20000 in
theorem r300_121_t {h : pm_H} (hl : 177 ≤ h.1.length) {J15 : Int32 → Int32 → Int32 → Int32 → rs_S → Option (Int32 × rs_S)} {K15 : Option Nat → Int32 → Int32 → Int32 → Int32 → pm_H → tm_L} {J61 : Int32 → Int32 → Int32 → Int32 → Int32 → Int32 → rs_S → Option (Int32 × rs_S)} {K61 : Option Nat → Int32 → Int32 → Int32 → Int32 → Int32 → Int32 → pm_H → tm_L} (hJ15 : ∀ {x1 : Int32} {x4 : Int32} {x5 : Int32} {x6 : Int32} {S S' : rs_S} {v : Int32}, J15 x1 x4 x5 x6 S = some (v, S') → K15 (some 145) x1 x4 x5 x6 (rs_h S h) = some (.inl (some (.inl v)), rs_h S' h)) (hJ61 : ∀ {x1 : Int32} {x4 : Int32} {x5 : Int32} {x6 : Int32} {x7 : Int32} {x8 : Int32} {S S' : rs_S} {v : Int32}, J61 x1 x4 x5 x6 x7 x8 S = some (v, S') → K61 (some 145) x1 x4 x5 x6 x7 x8 (rs_h S h) = some (.inl (some (.inl v)), rs_h S' h)) {x1 : Int32} {x4 : Int32} {x5 : Int32} {x6 : Int32} {x7 : Int32} {S S' : rs_S} {v : Int32} (hr : r300_121 J15 J61 x1 x4 x5 x6 x7 S = some (v, S')) : l300_121 K15 K61 (some 145) x1 x4 x5 x6 x7 (rs_h S h) = some (.inl (some (.inl v)), rs_h S' h) := by
  unfold r300_121 at hr
  unfold l300_121
  by_cases c1 : x7 = (0 : Int32)
  · rw [if_pos c1] at hr ⊢
    exact r300_135_t hl hJ15 hJ61 hr
  · rw [if_neg c1] at hr ⊢
    exact r300_135_t hl hJ15 hJ61 hr
set_option maxRecDepth 20000 in
def r300_113 (J15 : Int32 → Int32 → Int32 → Int32 → rs_S → Option (Int32 × rs_S)) (J61 : Int32 → Int32 → Int32 → Int32 → Int32 → Int32 → rs_S → Option (Int32 × rs_S)) (x1 : Int32) (x4 : Int32) (x5 : Int32) (x6 : Int32) (x8 : Int32) (s0 : Int32) (S : rs_S) : Option (Int32 × rs_S) := J61 x1 x4 x5 x6 s0 (x8 + (1 : Int32)) S
set_option maxRecDepth 20000 in
theorem r300_113_t {h : pm_H} (hl : 177 ≤ h.1.length) {J15 : Int32 → Int32 → Int32 → Int32 → rs_S → Option (Int32 × rs_S)} {K15 : Option Nat → Int32 → Int32 → Int32 → Int32 → pm_H → tm_L} {J61 : Int32 → Int32 → Int32 → Int32 → Int32 → Int32 → rs_S → Option (Int32 × rs_S)} {K61 : Option Nat → Int32 → Int32 → Int32 → Int32 → Int32 → Int32 → pm_H → tm_L} (hJ15 : ∀ {x1 : Int32} {x4 : Int32} {x5 : Int32} {x6 : Int32} {S S' : rs_S} {v : Int32}, J15 x1 x4 x5 x6 S = some (v, S') → K15 (some 145) x1 x4 x5 x6 (rs_h S h) = some (.inl (some (.inl v)), rs_h S' h)) (hJ61 : ∀ {x1 : Int32} {x4 : Int32} {x5 : Int32} {x6 : Int32} {x7 : Int32} {x8 : Int32} {S S' : rs_S} {v : Int32}, J61 x1 x4 x5 x6 x7 x8 S = some (v, S') → K61 (some 145) x1 x4 x5 x6 x7 x8 (rs_h S h) = some (.inl (some (.inl v)), rs_h S' h)) {x1 : Int32} {x4 : Int32} {x5 : Int32} {x6 : Int32} {x8 : Int32} {s0 : Int32} {S S' : rs_S} {v : Int32} (hr : r300_113 J15 J61 x1 x4 x5 x6 x8 s0 S = some (v, S')) : l300_113 K15 K61 (some 145) x1 x4 x5 x6 x8 s0 (rs_h S h) = some (.inl (some (.inl v)), rs_h S' h) := by
  unfold r300_113 at hr
  unfold l300_113
  exact hJ61 hr
set_option maxRecDepth 20000 in
def r300_108 (J15 : Int32 → Int32 → Int32 → Int32 → rs_S → Option (Int32 × rs_S)) (J61 : Int32 → Int32 → Int32 → Int32 → Int32 → Int32 → rs_S → Option (Int32 × rs_S)) (x1 : Int32) (x4 : Int32) (x5 : Int32) (x6 : Int32) (x8 : Int32) (S : rs_S) : Option (Int32 × rs_S) := r300_113 J15 J61 x1 x4 x5 x6 x8 (1 : Int32) S
set_option maxRecDepth 20000 in
theorem r300_108_t {h : pm_H} (hl : 177 ≤ h.1.length) {J15 : Int32 → Int32 → Int32 → Int32 → rs_S → Option (Int32 × rs_S)} {K15 : Option Nat → Int32 → Int32 → Int32 → Int32 → pm_H → tm_L} {J61 : Int32 → Int32 → Int32 → Int32 → Int32 → Int32 → rs_S → Option (Int32 × rs_S)} {K61 : Option Nat → Int32 → Int32 → Int32 → Int32 → Int32 → Int32 → pm_H → tm_L} (hJ15 : ∀ {x1 : Int32} {x4 : Int32} {x5 : Int32} {x6 : Int32} {S S' : rs_S} {v : Int32}, J15 x1 x4 x5 x6 S = some (v, S') → K15 (some 145) x1 x4 x5 x6 (rs_h S h) = some (.inl (some (.inl v)), rs_h S' h)) (hJ61 : ∀ {x1 : Int32} {x4 : Int32} {x5 : Int32} {x6 : Int32} {x7 : Int32} {x8 : Int32} {S S' : rs_S} {v : Int32}, J61 x1 x4 x5 x6 x7 x8 S = some (v, S') → K61 (some 145) x1 x4 x5 x6 x7 x8 (rs_h S h) = some (.inl (some (.inl v)), rs_h S' h)) {x1 : Int32} {x4 : Int32} {x5 : Int32} {x6 : Int32} {x8 : Int32} {S S' : rs_S} {v : Int32} (hr : r300_108 J15 J61 x1 x4 x5 x6 x8 S = some (v, S')) : l300_108 K15 K61 (some 145) x1 x4 x5 x6 x8 (rs_h S h) = some (.inl (some (.inl v)), rs_h S' h) := by
  unfold r300_108 at hr
  unfold l300_108
  exact r300_113_t hl hJ15 hJ61 hr
set_option maxRecDepth 20000 in
def r300_61 (J15 : Int32 → Int32 → Int32 → Int32 → rs_S → Option (Int32 × rs_S)) : Nat → Int32 → Int32 → Int32 → Int32 → Int32 → Int32 → rs_S → Option (Int32 × rs_S)
  | 0 => fun _ _ _ _ _ _ _ => none
  | n + 1 => fun x1 x4 x5 x6 x7 x8 S => if (120 : Int32) ≤ x8 then r300_121 J15 (r300_61 J15 n) x1 x4 x5 x6 x7 S else if x7 = (0 : Int32) then r300_121 J15 (r300_61 J15 n) x1 x4 x5 x6 x7 S else rb (rf_301 x1 x8 x4 S) fun v1 S2 => if v1 = (0 : Int32) then r300_108 J15 (r300_61 J15 n) x1 x4 x5 x6 x8 S2 else (rd_I S2 4 (((3 : Int32) * x8) + (x6 / (40 : Int32)))).bind fun v4 => if (x6 - x6 / (40 : Int32) * (40 : Int32)) < v4 then r300_113 J15 (r300_61 J15 n) x1 x4 x5 x6 x8 (0 : Int32) S2 else r300_108 J15 (r300_61 J15 n) x1 x4 x5 x6 x8 S2
set_option maxRecDepth 20000 in
theorem r300_61_t {h : pm_H} (hl : 177 ≤ h.1.length) {J15 : Int32 → Int32 → Int32 → Int32 → rs_S → Option (Int32 × rs_S)} {K15 : Option Nat → Int32 → Int32 → Int32 → Int32 → pm_H → tm_L} (hJ15 : ∀ {x1 : Int32} {x4 : Int32} {x5 : Int32} {x6 : Int32} {S S' : rs_S} {v : Int32}, J15 x1 x4 x5 x6 S = some (v, S') → K15 (some 145) x1 x4 x5 x6 (rs_h S h) = some (.inl (some (.inl v)), rs_h S' h)) : ∀ (n : Nat) {x1 : Int32} {x4 : Int32} {x5 : Int32} {x6 : Int32} {x7 : Int32} {x8 : Int32} {S S' : rs_S} {v : Int32}, r300_61 J15 n x1 x4 x5 x6 x7 x8 S = some (v, S') → l300_61 K15 n (some 145) x1 x4 x5 x6 x7 x8 (rs_h S h) = some (.inl (some (.inl v)), rs_h S' h) := by
  intro n
  induction n with
  | zero => intro x1 x4 x5 x6 x7 x8 S S' v hr; cases hr
  | succ n ih =>
    intro x1 x4 x5 x6 x7 x8 S S' v hr
    rw [r300_61] at hr
    rw [l300_61]
    try dsimp only at hr
    try dsimp only
    by_cases c8 : (120 : Int32) ≤ x8
    · rw [if_pos c8] at hr ⊢
      exact r300_121_t hl hJ15 (fun hr => ih hr) hr
    · rw [if_neg c8] at hr ⊢
      by_cases c7 : x7 = (0 : Int32)
      · rw [if_pos c7] at hr ⊢
        exact r300_121_t hl hJ15 (fun hr => ih hr) hr
      · rw [if_neg c7] at hr ⊢
        obtain ⟨v1, S2, m3, hr⟩ := rb_s hr
        rw [if_pos (rs_lc hl)]
        rw [rt_301 hl m3, lb_I_r]
        by_cases c6 : v1 = (0 : Int32)
        · rw [if_pos c6] at hr ⊢
          exact r300_108_t hl hJ15 (fun hr => ih hr) hr
        · rw [if_neg c6] at hr ⊢
          first | rw [rs_fR (k := 4) hl (by decide) rfl, Option.bind_some] | rw [Option.bind_some]
          obtain ⟨v4, qv4, hr⟩ := Option.bind_eq_some_iff.mp hr
          first | rw [rs_rdI (k := 4) hl rfl rfl qv4, Option.bind_some] | rw [Option.bind_some]
          by_cases c5 : (x6 - x6 / (40 : Int32) * (40 : Int32)) < v4
          · rw [if_pos c5] at hr ⊢
            exact r300_113_t hl hJ15 (fun hr => ih hr) hr
          · rw [if_neg c5] at hr ⊢
            exact r300_108_t hl hJ15 (fun hr => ih hr) hr
set_option maxRecDepth 20000 in
def r300_56 (J15 : Int32 → Int32 → Int32 → Int32 → rs_S → Option (Int32 × rs_S)) (x1 : Int32) (x4 : Int32) (x5 : Int32) (x6 : Int32) (s0 : Int32) (S : rs_S) : Option (Int32 × rs_S) := r300_61 J15 lf_N x1 x4 x5 x6 s0 (0 : Int32) S
set_option maxRecDepth 20000 in
theorem r300_56_t {h : pm_H} (hl : 177 ≤ h.1.length) {J15 : Int32 → Int32 → Int32 → Int32 → rs_S → Option (Int32 × rs_S)} {K15 : Option Nat → Int32 → Int32 → Int32 → Int32 → pm_H → tm_L} (hJ15 : ∀ {x1 : Int32} {x4 : Int32} {x5 : Int32} {x6 : Int32} {S S' : rs_S} {v : Int32}, J15 x1 x4 x5 x6 S = some (v, S') → K15 (some 145) x1 x4 x5 x6 (rs_h S h) = some (.inl (some (.inl v)), rs_h S' h)) {x1 : Int32} {x4 : Int32} {x5 : Int32} {x6 : Int32} {s0 : Int32} {S S' : rs_S} {v : Int32} (hr : r300_56 J15 x1 x4 x5 x6 s0 S = some (v, S')) : l300_56 K15 (some 145) x1 x4 x5 x6 s0 (rs_h S h) = some (.inl (some (.inl v)), rs_h S' h) := by
  unfold r300_56 at hr
  unfold l300_56
  exact r300_61_t hl hJ15 lf_N hr
set_option maxRecDepth 20000 in
def r300_55 (J15 : Int32 → Int32 → Int32 → Int32 → rs_S → Option (Int32 × rs_S)) (x1 : Int32) (x4 : Int32) (x5 : Int32) (x6 : Int32) (S : rs_S) : Option (Int32 × rs_S) := r300_56 J15 x1 x4 x5 x6 (0 : Int32) S
set_option maxRecDepth 20000 in
theorem r300_55_t {h : pm_H} (hl : 177 ≤ h.1.length) {J15 : Int32 → Int32 → Int32 → Int32 → rs_S → Option (Int32 × rs_S)} {K15 : Option Nat → Int32 → Int32 → Int32 → Int32 → pm_H → tm_L} (hJ15 : ∀ {x1 : Int32} {x4 : Int32} {x5 : Int32} {x6 : Int32} {S S' : rs_S} {v : Int32}, J15 x1 x4 x5 x6 S = some (v, S') → K15 (some 145) x1 x4 x5 x6 (rs_h S h) = some (.inl (some (.inl v)), rs_h S' h)) {x1 : Int32} {x4 : Int32} {x5 : Int32} {x6 : Int32} {S S' : rs_S} {v : Int32} (hr : r300_55 J15 x1 x4 x5 x6 S = some (v, S')) : l300_55 K15 (some 145) x1 x4 x5 x6 (rs_h S h) = some (.inl (some (.inl v)), rs_h S' h) := by
  unfold r300_55 at hr
  unfold l300_55
  exact r300_56_t hl hJ15 hr
set_option maxRecDepth 20000 in
def r300_15 : Nat → Int32 → Int32 → Int32 → Int32 → rs_S → Option (Int32 × rs_S)
  | 0 => fun _ _ _ _ _ => none
  | n + 1 => fun x1 x4 x5 x6 S => if (120 : Int32) ≤ x6 then some (x5, S) else if x4 < (0 : Int32) then some (x5, S) else rb (rf_301 x1 x6 x4 S) fun v1 S2 => if v1 = (0 : Int32) then r300_55 (r300_15 n) x1 x4 x5 x6 S2 else (rd_I S2 35 x4).bind fun v4 => if x6 = v4 then r300_55 (r300_15 n) x1 x4 x5 x6 S2 else r300_56 (r300_15 n) x1 x4 x5 x6 (1 : Int32) S2
set_option maxRecDepth 20000 in
theorem r300_15_t {h : pm_H} (hl : 177 ≤ h.1.length) : ∀ (n : Nat) {x1 : Int32} {x4 : Int32} {x5 : Int32} {x6 : Int32} {S S' : rs_S} {v : Int32}, r300_15 n x1 x4 x5 x6 S = some (v, S') → l300_15 n (some 145) x1 x4 x5 x6 (rs_h S h) = some (.inl (some (.inl v)), rs_h S' h) := by
  intro n
  induction n with
  | zero => intro x1 x4 x5 x6 S S' v hr; cases hr
  | succ n ih =>
    intro x1 x4 x5 x6 S S' v hr
    rw [r300_15] at hr
    rw [l300_15]
    try dsimp only at hr
    try dsimp only
    by_cases c8 : (120 : Int32) ≤ x6
    · rw [if_pos c8] at hr ⊢
      cases hr
      rfl
    · rw [if_neg c8] at hr ⊢
      by_cases c7 : x4 < (0 : Int32)
      · rw [if_pos c7] at hr ⊢
        cases hr
        rfl
      · rw [if_neg c7] at hr ⊢
        obtain ⟨v1, S2, m3, hr⟩ := rb_s hr
        rw [if_pos (rs_lc hl)]
        rw [rt_301 hl m3, lb_I_r]
        by_cases c6 : v1 = (0 : Int32)
        · rw [if_pos c6] at hr ⊢
          exact r300_55_t hl (fun hr => ih hr) hr
        · rw [if_neg c6] at hr ⊢
          first | rw [rs_fR (k := 35) hl (by decide) rfl, Option.bind_some] | rw [Option.bind_some]
          obtain ⟨v4, qv4, hr⟩ := Option.bind_eq_some_iff.mp hr
          first | rw [rs_rdI (k := 35) hl rfl rfl qv4, Option.bind_some] | rw [Option.bind_some]
          by_cases c5 : x6 = v4
          · rw [if_pos c5] at hr ⊢
            exact r300_55_t hl (fun hr => ih hr) hr
          · rw [if_neg c5] at hr ⊢
            exact r300_56_t hl (fun hr => ih hr) hr
set_option maxRecDepth 20000 in
def rf_300 (a1 : Int32) (a2 : Int32) (a3 : Int32) (S : rs_S) : Option (Int32 × rs_S) := rb (rf_280 a1 a2 a3 S) fun v1 S2 => r300_15 lf_N a1 v1 (0 : Int32) (0 : Int32) S2
set_option maxRecDepth 20000 in
theorem rt_300 {h : pm_H} (hl : 177 ≤ h.1.length) {a1 : Int32} {a2 : Int32} {a3 : Int32} {S S' : rs_S} {v : Int32} (hr : rf_300 a1 a2 a3 S = some (v, S')) : ll_300 (some 145) a1 a2 a3 (rs_h S h) = some (.inl (some (.inl v)), rs_h S' h) := by
  unfold rf_300 at hr
  unfold ll_300
  obtain ⟨v1, S2, m3, hr⟩ := rb_s hr
  rw [if_pos (rs_lc hl)]
  rw [rt_280 hl m3, lb_I_r]
  exact r300_15_t hl lf_N hr
