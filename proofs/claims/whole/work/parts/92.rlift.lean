/-! of the reference: 235, 237, 238, 239, 240, 242, 244, 245, 243, 241, 246, 249, 250, 248, 247, 236, 251, 252, 255, 254 -/
-- OfficeSheetModel.thrown()I
set_option maxRecDepth 20000 in
def rf_235 (S : rs_S) : Option (Int32 × rs_S) := some ((S.1 0), S)
set_option maxRecDepth 20000 in
theorem rt_235 {h : pm_H} (hl : 177 ≤ h.1.length) {S S' : rs_S} {v : Int32} (hr : rf_235  S = some (v, S')) : ll_235 (some 145) (rs_h S h) = some (.inl (some (.inl v)), rs_h S' h) := by
  unfold rf_235 at hr
  unfold ll_235
  first | rw [rs_fI (k := 0) hl (by decide) rfl, Option.bind_some] | rw [Option.bind_some]
  cases hr
  rfl
-- OfficeSheetModel.isOffice(I)Z
set_option maxRecDepth 20000 in
def rf_237 (a0 : Int32) (S : rs_S) : Option (Int32 × rs_S) := if a0 < (0 : Int32) then some ((0 : Int32), S) else if (3 : Int32) ≤ a0 then some ((0 : Int32), S) else some ((1 : Int32), S)
set_option maxRecDepth 20000 in
theorem rt_237 {h : pm_H} (hl : 177 ≤ h.1.length) {a0 : Int32} {S S' : rs_S} {v : Int32} (hr : rf_237 a0 S = some (v, S')) : ll_237 a0 (rs_h S h) = some (.inl (some (.inl v)), rs_h S' h) := by
  unfold rf_237 at hr
  unfold ll_237
  by_cases c2 : a0 < (0 : Int32)
  · rw [if_pos c2] at hr ⊢
    cases hr
    rfl
  · rw [if_neg c2] at hr ⊢
    by_cases c1 : (3 : Int32) ≤ a0
    · rw [if_pos c1] at hr ⊢
      cases hr
      rfl
    · rw [if_neg c1] at hr ⊢
      cases hr
      rfl
-- OfficeSheetModel.isKind(I)Z
set_option maxRecDepth 20000 in
def rf_238 (a0 : Int32) (S : rs_S) : Option (Int32 × rs_S) := if a0 = (0 : Int32) then some ((1 : Int32), S) else if a0 = (1 : Int32) then some ((1 : Int32), S) else some ((0 : Int32), S)
set_option maxRecDepth 20000 in
theorem rt_238 {h : pm_H} (hl : 177 ≤ h.1.length) {a0 : Int32} {S S' : rs_S} {v : Int32} (hr : rf_238 a0 S = some (v, S')) : ll_238 a0 (rs_h S h) = some (.inl (some (.inl v)), rs_h S' h) := by
  unfold rf_238 at hr
  unfold ll_238
  by_cases c2 : a0 = (0 : Int32)
  · rw [if_pos c2] at hr ⊢
    cases hr
    rfl
  · rw [if_neg c2] at hr ⊢
    by_cases c1 : a0 = (1 : Int32)
    · rw [if_pos c1] at hr ⊢
      cases hr
      rfl
    · rw [if_neg c1] at hr ⊢
      cases hr
      rfl
-- OfficeSheetModel.isShown(III)Z
set_option maxRecDepth 20000 in
def rf_239 (a1 : Int32) (a2 : Int32) (a3 : Int32) (S : rs_S) : Option (Int32 × rs_S) := if a3 < (0 : Int32) then some ((0 : Int32), S) else (rd_I S 20 (((2 : Int32) * a1) + a2)).bind fun v1 => if v1 ≤ a3 then some ((0 : Int32), S) else some ((1 : Int32), S)
set_option maxRecDepth 20000 in
theorem rt_239 {h : pm_H} (hl : 177 ≤ h.1.length) {a1 : Int32} {a2 : Int32} {a3 : Int32} {S S' : rs_S} {v : Int32} (hr : rf_239 a1 a2 a3 S = some (v, S')) : ll_239 (some 145) a1 a2 a3 (rs_h S h) = some (.inl (some (.inl v)), rs_h S' h) := by
  unfold rf_239 at hr
  unfold ll_239
  by_cases c3 : a3 < (0 : Int32)
  · rw [if_pos c3] at hr ⊢
    cases hr
    rfl
  · rw [if_neg c3] at hr ⊢
    first | rw [rs_fR (k := 20) hl (by decide) rfl, Option.bind_some] | rw [Option.bind_some]
    obtain ⟨v1, qv1, hr⟩ := Option.bind_eq_some_iff.mp hr
    first | rw [rs_rdI (k := 20) hl rfl rfl qv1, Option.bind_some] | rw [Option.bind_some]
    by_cases c2 : v1 ≤ a3
    · rw [if_pos c2] at hr ⊢
      cases hr
      rfl
    · rw [if_neg c2] at hr ⊢
      cases hr
      rfl
-- OfficeSheetModel.isFull(I)Z
set_option maxRecDepth 20000 in
def rf_240 (a1 : Int32) (S : rs_S) : Option (Int32 × rs_S) := (rd_I S 16 ((4 : Int32) * a1)).bind fun v1 => if v1 = (40 : Int32) then some ((1 : Int32), S) else some ((0 : Int32), S)
set_option maxRecDepth 20000 in
theorem rt_240 {h : pm_H} (hl : 177 ≤ h.1.length) {a1 : Int32} {S S' : rs_S} {v : Int32} (hr : rf_240 a1 S = some (v, S')) : ll_240 (some 145) a1 (rs_h S h) = some (.inl (some (.inl v)), rs_h S' h) := by
  unfold rf_240 at hr
  unfold ll_240
  first | rw [rs_fR (k := 16) hl (by decide) rfl, Option.bind_some] | rw [Option.bind_some]
  obtain ⟨v1, qv1, hr⟩ := Option.bind_eq_some_iff.mp hr
  first | rw [rs_rdI (k := 16) hl rfl rfl qv1, Option.bind_some] | rw [Option.bind_some]
  by_cases c2 : v1 = (40 : Int32)
  · rw [if_pos c2] at hr ⊢
    cases hr
    rfl
  · rw [if_neg c2] at hr ⊢
    cases hr
    rfl
-- OfficeSheetModel.shownAt(III)I
set_option maxRecDepth 20000 in
def rf_242 (a1 : Int32) (a2 : Int32) (a3 : Int32) (S : rs_S) : Option (Int32 × rs_S) := (rd_I S 19 ((((240 : Int32) * a1) + ((120 : Int32) * a2)) + a3)).bind fun v1 => some (v1, S)
set_option maxRecDepth 20000 in
theorem rt_242 {h : pm_H} (hl : 177 ≤ h.1.length) {a1 : Int32} {a2 : Int32} {a3 : Int32} {S S' : rs_S} {v : Int32} (hr : rf_242 a1 a2 a3 S = some (v, S')) : ll_242 (some 145) a1 a2 a3 (rs_h S h) = some (.inl (some (.inl v)), rs_h S' h) := by
  unfold rf_242 at hr
  unfold ll_242
  first | rw [rs_fR (k := 19) hl (by decide) rfl, Option.bind_some] | rw [Option.bind_some]
  obtain ⟨v1, qv1, hr⟩ := Option.bind_eq_some_iff.mp hr
  first | rw [rs_rdI (k := 19) hl rfl rfl qv1, Option.bind_some] | rw [Option.bind_some]
  cases hr
  rfl
-- OfficeSheetModel.has(II)Z
set_option maxRecDepth 20000 in
def rf_244 (a1 : Int32) (a2 : Int32) (S : rs_S) : Option (Int32 × rs_S) := (rd_I S 16 (((3 : Int32) * a1) + (a2 / (40 : Int32)))).bind fun v1 => if v1 ≤ (a2 - a2 / (40 : Int32) * (40 : Int32)) then some ((0 : Int32), S) else some ((1 : Int32), S)
set_option maxRecDepth 20000 in
theorem rt_244 {h : pm_H} (hl : 177 ≤ h.1.length) {a1 : Int32} {a2 : Int32} {S S' : rs_S} {v : Int32} (hr : rf_244 a1 a2 S = some (v, S')) : ll_244 (some 145) a1 a2 (rs_h S h) = some (.inl (some (.inl v)), rs_h S' h) := by
  unfold rf_244 at hr
  unfold ll_244
  first | rw [rs_fR (k := 16) hl (by decide) rfl, Option.bind_some] | rw [Option.bind_some]
  obtain ⟨v1, qv1, hr⟩ := Option.bind_eq_some_iff.mp hr
  first | rw [rs_rdI (k := 16) hl rfl rfl qv1, Option.bind_some] | rw [Option.bind_some]
  by_cases c2 : v1 ≤ (a2 - a2 / (40 : Int32) * (40 : Int32))
  · rw [if_pos c2] at hr ⊢
    cases hr
    rfl
  · rw [if_neg c2] at hr ⊢
    cases hr
    rfl
-- OfficeSheetModel.key(I)I
set_option maxRecDepth 20000 in
def rf_245 (a1 : Int32) (S : rs_S) : Option (Int32 × rs_S) := (rd_I S 3 a1).bind fun v1 => some ((((4 : Int32) * v1) + (a1 / (40 : Int32))), S)
set_option maxRecDepth 20000 in
theorem rt_245 {h : pm_H} (hl : 177 ≤ h.1.length) {a1 : Int32} {S S' : rs_S} {v : Int32} (hr : rf_245 a1 S = some (v, S')) : ll_245 (some 145) a1 (rs_h S h) = some (.inl (some (.inl v)), rs_h S' h) := by
  unfold rf_245 at hr
  unfold ll_245
  first | rw [rs_fR (k := 3) hl (by decide) rfl, Option.bind_some] | rw [Option.bind_some]
  obtain ⟨v1, qv1, hr⟩ := Option.bind_eq_some_iff.mp hr
  first | rw [rs_rdI (k := 3) hl rfl rfl qv1, Option.bind_some] | rw [Option.bind_some]
  cases hr
  rfl
-- OfficeSheetModel.latest(IIZ)I
set_option maxRecDepth 20000 in
def r243_116 (J6 : Int32 → Int32 → Int32 → Int32 → Int32 → rs_S → Option (Int32 × rs_S)) (x1 : Int32) (x2 : Int32) (x3 : Int32) (x4 : Int32) (x5 : Int32) (S : rs_S) : Option (Int32 × rs_S) := J6 x1 x2 x3 x4 (x5 + (1 : Int32)) S
set_option maxRecDepth 20000 in
theorem r243_116_t {h : pm_H} (hl : 177 ≤ h.1.length) {J6 : Int32 → Int32 → Int32 → Int32 → Int32 → rs_S → Option (Int32 × rs_S)} {K6 : Option Nat → Int32 → Int32 → Int32 → Int32 → Int32 → pm_H → tm_L} (hJ6 : ∀ {x1 : Int32} {x2 : Int32} {x3 : Int32} {x4 : Int32} {x5 : Int32} {S S' : rs_S} {v : Int32}, J6 x1 x2 x3 x4 x5 S = some (v, S') → K6 (some 145) x1 x2 x3 x4 x5 (rs_h S h) = some (.inl (some (.inl v)), rs_h S' h)) {x1 : Int32} {x2 : Int32} {x3 : Int32} {x4 : Int32} {x5 : Int32} {S S' : rs_S} {v : Int32} (hr : r243_116 J6 x1 x2 x3 x4 x5 S = some (v, S')) : l243_116 K6 (some 145) x1 x2 x3 x4 x5 (rs_h S h) = some (.inl (some (.inl v)), rs_h S' h) := by
  unfold r243_116 at hr
  unfold l243_116
  exact hJ6 hr
set_option maxRecDepth 20000 in
def r243_112 (J6 : Int32 → Int32 → Int32 → Int32 → Int32 → rs_S → Option (Int32 × rs_S)) (x1 : Int32) (x2 : Int32) (x3 : Int32) (x5 : Int32) (S : rs_S) : Option (Int32 × rs_S) := r243_116 J6 x1 x2 x3 x5 x5 S
set_option maxRecDepth 20000 in
theorem r243_112_t {h : pm_H} (hl : 177 ≤ h.1.length) {J6 : Int32 → Int32 → Int32 → Int32 → Int32 → rs_S → Option (Int32 × rs_S)} {K6 : Option Nat → Int32 → Int32 → Int32 → Int32 → Int32 → pm_H → tm_L} (hJ6 : ∀ {x1 : Int32} {x2 : Int32} {x3 : Int32} {x4 : Int32} {x5 : Int32} {S S' : rs_S} {v : Int32}, J6 x1 x2 x3 x4 x5 S = some (v, S') → K6 (some 145) x1 x2 x3 x4 x5 (rs_h S h) = some (.inl (some (.inl v)), rs_h S' h)) {x1 : Int32} {x2 : Int32} {x3 : Int32} {x5 : Int32} {S S' : rs_S} {v : Int32} (hr : r243_112 J6 x1 x2 x3 x5 S = some (v, S')) : l243_112 K6 (some 145) x1 x2 x3 x5 (rs_h S h) = some (.inl (some (.inl v)), rs_h S' h) := by
  unfold r243_112 at hr
  unfold l243_112
  exact r243_116_t hl hJ6 hr
set_option maxRecDepth 20000 in
def r243_64 (J6 : Int32 → Int32 → Int32 → Int32 → Int32 → rs_S → Option (Int32 × rs_S)) (x1 : Int32) (x2 : Int32) (x3 : Int32) (x4 : Int32) (x5 : Int32) (s0 : Int32) (S : rs_S) : Option (Int32 × rs_S) := if s0 = (0 : Int32) then r243_116 J6 x1 x2 x3 x4 x5 S else rb (rf_244 x1 x5 S) fun v1 S2 => if v1 = (0 : Int32) then r243_116 J6 x1 x2 x3 x4 x5 S2 else (rd_I S2 5 x5).bind fun v4 => if v4 = x2 then if x4 < (0 : Int32) then r243_112 J6 x1 x2 x3 x5 S2 else rb (rf_245 x5 S2) fun v5 S6 => rb (rf_245 x4 S6) fun v8 S9 => if v5 ≤ v8 then r243_116 J6 x1 x2 x3 x4 x5 S9 else r243_112 J6 x1 x2 x3 x5 S9 else r243_116 J6 x1 x2 x3 x4 x5 S2
set_option maxRecDepth 20000 in
theorem r243_64_t {h : pm_H} (hl : 177 ≤ h.1.length) {J6 : Int32 → Int32 → Int32 → Int32 → Int32 → rs_S → Option (Int32 × rs_S)} {K6 : Option Nat → Int32 → Int32 → Int32 → Int32 → Int32 → pm_H → tm_L} (hJ6 : ∀ {x1 : Int32} {x2 : Int32} {x3 : Int32} {x4 : Int32} {x5 : Int32} {S S' : rs_S} {v : Int32}, J6 x1 x2 x3 x4 x5 S = some (v, S') → K6 (some 145) x1 x2 x3 x4 x5 (rs_h S h) = some (.inl (some (.inl v)), rs_h S' h)) {x1 : Int32} {x2 : Int32} {x3 : Int32} {x4 : Int32} {x5 : Int32} {s0 : Int32} {S S' : rs_S} {v : Int32} (hr : r243_64 J6 x1 x2 x3 x4 x5 s0 S = some (v, S')) : l243_64 K6 (some 145) x1 x2 x3 x4 x5 s0 (rs_h S h) = some (.inl (some (.inl v)), rs_h S' h) := by
  unfold r243_64 at hr
  unfold l243_64
  by_cases c15 : s0 = (0 : Int32)
  · rw [if_pos c15] at hr ⊢
    exact r243_116_t hl hJ6 hr
  · rw [if_neg c15] at hr ⊢
    obtain ⟨v1, S2, m3, hr⟩ := rb_s hr
    rw [if_pos (rs_lc hl)]
    rw [rt_244 hl m3, lb_I_r]
    by_cases c14 : v1 = (0 : Int32)
    · rw [if_pos c14] at hr ⊢
      exact r243_116_t hl hJ6 hr
    · rw [if_neg c14] at hr ⊢
      first | rw [rs_fR (k := 5) hl (by decide) rfl, Option.bind_some] | rw [Option.bind_some]
      obtain ⟨v4, qv4, hr⟩ := Option.bind_eq_some_iff.mp hr
      first | rw [rs_rdI (k := 5) hl rfl rfl qv4, Option.bind_some] | rw [Option.bind_some]
      by_cases c13 : v4 = x2
      · rw [if_pos c13] at hr ⊢
        by_cases c12 : x4 < (0 : Int32)
        · rw [if_pos c12] at hr ⊢
          exact r243_112_t hl hJ6 hr
        · rw [if_neg c12] at hr ⊢
          obtain ⟨v5, S6, m7, hr⟩ := rb_s hr
          rw [if_pos (rs_lc hl)]
          rw [rt_245 hl m7, lb_I_r]
          obtain ⟨v8, S9, m10, hr⟩ := rb_s hr
          rw [if_pos (rs_lc hl)]
          rw [rt_245 hl m10, lb_I_r]
          by_cases c11 : v5 ≤ v8
          · rw [if_pos c11] at hr ⊢
            exact r243_116_t hl hJ6 hr
          · rw [if_neg c11] at hr ⊢
            exact r243_112_t hl hJ6 hr
      · rw [if_neg c13] at hr ⊢
        exact r243_116_t hl hJ6 hr
set_option maxRecDepth 20000 in
def r243_59 (J6 : Int32 → Int32 → Int32 → Int32 → Int32 → rs_S → Option (Int32 × rs_S)) (x1 : Int32) (x2 : Int32) (x3 : Int32) (x4 : Int32) (x5 : Int32) (S : rs_S) : Option (Int32 × rs_S) := r243_64 J6 x1 x2 x3 x4 x5 (1 : Int32) S
set_option maxRecDepth 20000 in
theorem r243_59_t {h : pm_H} (hl : 177 ≤ h.1.length) {J6 : Int32 → Int32 → Int32 → Int32 → Int32 → rs_S → Option (Int32 × rs_S)} {K6 : Option Nat → Int32 → Int32 → Int32 → Int32 → Int32 → pm_H → tm_L} (hJ6 : ∀ {x1 : Int32} {x2 : Int32} {x3 : Int32} {x4 : Int32} {x5 : Int32} {S S' : rs_S} {v : Int32}, J6 x1 x2 x3 x4 x5 S = some (v, S') → K6 (some 145) x1 x2 x3 x4 x5 (rs_h S h) = some (.inl (some (.inl v)), rs_h S' h)) {x1 : Int32} {x2 : Int32} {x3 : Int32} {x4 : Int32} {x5 : Int32} {S S' : rs_S} {v : Int32} (hr : r243_59 J6 x1 x2 x3 x4 x5 S = some (v, S')) : l243_59 K6 (some 145) x1 x2 x3 x4 x5 (rs_h S h) = some (.inl (some (.inl v)), rs_h S' h) := by
  unfold r243_59 at hr
  unfold l243_59
  exact r243_64_t hl hJ6 hr
set_option maxRecDepth 20000 in
def r243_63 (J6 : Int32 → Int32 → Int32 → Int32 → Int32 → rs_S → Option (Int32 × rs_S)) (x1 : Int32) (x2 : Int32) (x3 : Int32) (x4 : Int32) (x5 : Int32) (S : rs_S) : Option (Int32 × rs_S) := r243_64 J6 x1 x2 x3 x4 x5 (0 : Int32) S
set_option maxRecDepth 20000 in
theorem r243_63_t {h : pm_H} (hl : 177 ≤ h.1.length) {J6 : Int32 → Int32 → Int32 → Int32 → Int32 → rs_S → Option (Int32 × rs_S)} {K6 : Option Nat → Int32 → Int32 → Int32 → Int32 → Int32 → pm_H → tm_L} (hJ6 : ∀ {x1 : Int32} {x2 : Int32} {x3 : Int32} {x4 : Int32} {x5 : Int32} {S S' : rs_S} {v : Int32}, J6 x1 x2 x3 x4 x5 S = some (v, S') → K6 (some 145) x1 x2 x3 x4 x5 (rs_h S h) = some (.inl (some (.inl v)), rs_h S' h)) {x1 : Int32} {x2 : Int32} {x3 : Int32} {x4 : Int32} {x5 : Int32} {S S' : rs_S} {v : Int32} (hr : r243_63 J6 x1 x2 x3 x4 x5 S = some (v, S')) : l243_63 K6 (some 145) x1 x2 x3 x4 x5 (rs_h S h) = some (.inl (some (.inl v)), rs_h S' h) := by
  unfold r243_63 at hr
  unfold l243_63
  exact r243_64_t hl hJ6 hr
set_option maxRecDepth 20000 in
def r243_6 : Nat → Int32 → Int32 → Int32 → Int32 → Int32 → rs_S → Option (Int32 × rs_S)
  | 0 => fun _ _ _ _ _ _ => none
  | n + 1 => fun x1 x2 x3 x4 x5 S => if (120 : Int32) ≤ x5 then some (x4, S) else (rd_I S 1 x5).bind fun v1 => if v1 = (1 : Int32) then r243_59 (r243_6 n) x1 x2 x3 x4 x5 S else if x3 = (0 : Int32) then if v1 = (4 : Int32) then r243_59 (r243_6 n) x1 x2 x3 x4 x5 S else if v1 = (5 : Int32) then r243_59 (r243_6 n) x1 x2 x3 x4 x5 S else r243_63 (r243_6 n) x1 x2 x3 x4 x5 S else if v1 = (2 : Int32) then r243_59 (r243_6 n) x1 x2 x3 x4 x5 S else if v1 = (3 : Int32) then r243_59 (r243_6 n) x1 x2 x3 x4 x5 S else r243_63 (r243_6 n) x1 x2 x3 x4 x5 S
set_option maxRecDepth 20000 in
theorem r243_6_t {h : pm_H} (hl : 177 ≤ h.1.length) : ∀ (n : Nat) {x1 : Int32} {x2 : Int32} {x3 : Int32} {x4 : Int32} {x5 : Int32} {S S' : rs_S} {v : Int32}, r243_6 n x1 x2 x3 x4 x5 S = some (v, S') → l243_6 n (some 145) x1 x2 x3 x4 x5 (rs_h S h) = some (.inl (some (.inl v)), rs_h S' h) := by
  intro n
  induction n with
  | zero => intro x1 x2 x3 x4 x5 S S' v hr; cases hr
  | succ n ih =>
    intro x1 x2 x3 x4 x5 S S' v hr
    rw [r243_6] at hr
    rw [l243_6]
    try dsimp only at hr
    try dsimp only
    by_cases c8 : (120 : Int32) ≤ x5
    · rw [if_pos c8] at hr ⊢
      cases hr
      rfl
    · rw [if_neg c8] at hr ⊢
      first | rw [rs_fR (k := 1) hl (by decide) rfl, Option.bind_some] | rw [Option.bind_some]
      obtain ⟨v1, qv1, hr⟩ := Option.bind_eq_some_iff.mp hr
      first | rw [rs_rdI (k := 1) hl rfl rfl qv1, Option.bind_some] | rw [Option.bind_some]
      by_cases c7 : v1 = (1 : Int32)
      · rw [if_pos c7] at hr ⊢
        exact r243_59_t hl (fun hr => ih hr) hr
      · rw [if_neg c7] at hr ⊢
        by_cases c6 : x3 = (0 : Int32)
        · rw [if_pos c6] at hr ⊢
          by_cases c3 : v1 = (4 : Int32)
          · rw [if_pos c3] at hr ⊢
            exact r243_59_t hl (fun hr => ih hr) hr
          · rw [if_neg c3] at hr ⊢
            by_cases c2 : v1 = (5 : Int32)
            · rw [if_pos c2] at hr ⊢
              exact r243_59_t hl (fun hr => ih hr) hr
            · rw [if_neg c2] at hr ⊢
              exact r243_63_t hl (fun hr => ih hr) hr
        · rw [if_neg c6] at hr ⊢
          by_cases c5 : v1 = (2 : Int32)
          · rw [if_pos c5] at hr ⊢
            exact r243_59_t hl (fun hr => ih hr) hr
          · rw [if_neg c5] at hr ⊢
            by_cases c4 : v1 = (3 : Int32)
            · rw [if_pos c4] at hr ⊢
              exact r243_59_t hl (fun hr => ih hr) hr
            · rw [if_neg c4] at hr ⊢
              exact r243_63_t hl (fun hr => ih hr) hr
set_option maxRecDepth 20000 in
def rf_243 (a1 : Int32) (a2 : Int32) (a3 : Int32) (S : rs_S) : Option (Int32 × rs_S) := r243_6 lf_N a1 a2 a3 (-1 : Int32) (0 : Int32) S
set_option maxRecDepth 20000 in
theorem rt_243 {h : pm_H} (hl : 177 ≤ h.1.length) {a1 : Int32} {a2 : Int32} {a3 : Int32} {S S' : rs_S} {v : Int32} (hr : rf_243 a1 a2 a3 S = some (v, S')) : ll_243 (some 145) a1 a2 a3 (rs_h S h) = some (.inl (some (.inl v)), rs_h S' h) := by
  unfold rf_243 at hr
  unfold ll_243
  exact r243_6_t hl lf_N hr
-- OfficeSheetModel.placeOf(III)I
set_option maxRecDepth 20000 in
def rf_241 (a1 : Int32) (a2 : Int32) (a3 : Int32) (S : rs_S) : Option (Int32 × rs_S) := if (0 : Int32) ≤ a3 then rb (rf_242 a1 a2 a3 S) fun v1 S2 => rb (rf_243 a1 v1 (1 : Int32) S2) fun v4 S5 => (rd_I S5 7 v4).bind fun v7 => some (v7, S5) else some ((-1 : Int32), S)
set_option maxRecDepth 20000 in
theorem rt_241 {h : pm_H} (hl : 177 ≤ h.1.length) {a1 : Int32} {a2 : Int32} {a3 : Int32} {S S' : rs_S} {v : Int32} (hr : rf_241 a1 a2 a3 S = some (v, S')) : ll_241 (some 145) a1 a2 a3 (rs_h S h) = some (.inl (some (.inl v)), rs_h S' h) := by
  unfold rf_241 at hr
  unfold ll_241
  by_cases c8 : (0 : Int32) ≤ a3
  · rw [if_pos c8] at hr ⊢
    first | rw [rs_fR (k := 7) hl (by decide) rfl, Option.bind_some] | rw [Option.bind_some]
    obtain ⟨v1, S2, m3, hr⟩ := rb_s hr
    rw [if_pos (rs_lc hl)]
    rw [rt_242 hl m3, lb_I_r]
    obtain ⟨v4, S5, m6, hr⟩ := rb_s hr
    rw [if_pos (rs_lc hl)]
    rw [rt_243 hl m6, lb_I_r]
    obtain ⟨v7, qv7, hr⟩ := Option.bind_eq_some_iff.mp hr
    first | rw [rs_rdI (k := 7) hl rfl rfl qv7, Option.bind_some] | rw [Option.bind_some]
    cases hr
    rfl
  · rw [if_neg c8] at hr ⊢
    cases hr
    rfl
-- OfficeSheetModel.begin(IIII)I
set_option maxRecDepth 20000 in
def r246_117 : Nat → Int32 → Int32 → Int32 → rs_S → Option (Int32 × rs_S)
  | 0 => fun _ _ _ _ => none
  | n + 1 => fun x1 x5 x6 S => if (3 : Int32) ≤ x6 then some (x5, S) else (rd_I S 16 (((3 : Int32) * x1) + x6)).bind fun v1 => (wr_I S 4 (((3 : Int32) * x5) + x6) v1).bind fun S2 => r246_117 n x1 x5 (x6 + (1 : Int32)) S2
set_option maxRecDepth 20000 in
theorem r246_117_t {h : pm_H} (hl : 177 ≤ h.1.length) : ∀ (n : Nat) {x1 : Int32} {x5 : Int32} {x6 : Int32} {S S' : rs_S} {v : Int32}, r246_117 n x1 x5 x6 S = some (v, S') → l246_117 n (some 145) x1 x5 x6 (rs_h S h) = some (.inl (some (.inl v)), rs_h S' h) := by
  intro n
  induction n with
  | zero => intro x1 x5 x6 S S' v hr; cases hr
  | succ n ih =>
    intro x1 x5 x6 S S' v hr
    rw [r246_117] at hr
    rw [l246_117]
    try dsimp only at hr
    try dsimp only
    by_cases c3 : (3 : Int32) ≤ x6
    · rw [if_pos c3] at hr ⊢
      cases hr
      rfl
    · rw [if_neg c3] at hr ⊢
      first | rw [rs_fR (k := 4) hl (by decide) rfl, Option.bind_some] | rw [Option.bind_some]
      first | rw [rs_fR (k := 16) hl (by decide) rfl, Option.bind_some] | rw [Option.bind_some]
      obtain ⟨v1, qv1, hr⟩ := Option.bind_eq_some_iff.mp hr
      first | rw [rs_rdI (k := 16) hl rfl rfl qv1, Option.bind_some] | rw [Option.bind_some]
      obtain ⟨S2, qS2, hr⟩ := Option.bind_eq_some_iff.mp hr
      first | rw [rs_wrI (k := 4) hl rfl rfl qS2, Option.bind_some] | rw [Option.bind_some]
      exact ih hr
set_option maxRecDepth 20000 in
def r246_64 (x1 : Int32) (x5 : Int32) (s0 : Int32) (s1 : Int32) (S : rs_S) : Option (Int32 × rs_S) := (wr_I S 5 s1 s0).bind fun S1 => (wr_I S1 6 x5 (-1 : Int32)).bind fun S2 => (wr_I S2 7 x5 x5).bind fun S3 => (wr_I S3 8 x5 (-1 : Int32)).bind fun S4 => (wr_I S4 9 x5 (-1 : Int32)).bind fun S5 => (wr_I S5 10 x5 (-1 : Int32)).bind fun S6 => (wr_I S6 11 x5 (-1 : Int32)).bind fun S7 => r246_117 lf_N x1 x5 (0 : Int32) S7
set_option maxRecDepth 20000 in
theorem r246_64_t {h : pm_H} (hl : 177 ≤ h.1.length) {x1 : Int32} {x5 : Int32} {s0 : Int32} {s1 : Int32} {S S' : rs_S} {v : Int32} (hr : r246_64 x1 x5 s0 s1 S = some (v, S')) : l246_64 (some 145) x1 x5 s0 s1 (some (rs_ad 5)) (rs_h S h) = some (.inl (some (.inl v)), rs_h S' h) := by
  unfold r246_64 at hr
  unfold l246_64
  obtain ⟨S1, qS1, hr⟩ := Option.bind_eq_some_iff.mp hr
  first | rw [rs_wrI (k := 5) hl rfl rfl qS1, Option.bind_some] | rw [Option.bind_some]
  first | rw [rs_fR (k := 6) hl (by decide) rfl, Option.bind_some] | rw [Option.bind_some]
  obtain ⟨S2, qS2, hr⟩ := Option.bind_eq_some_iff.mp hr
  first | rw [rs_wrI (k := 6) hl rfl rfl qS2, Option.bind_some] | rw [Option.bind_some]
  first | rw [rs_fR (k := 7) hl (by decide) rfl, Option.bind_some] | rw [Option.bind_some]
  obtain ⟨S3, qS3, hr⟩ := Option.bind_eq_some_iff.mp hr
  first | rw [rs_wrI (k := 7) hl rfl rfl qS3, Option.bind_some] | rw [Option.bind_some]
  first | rw [rs_fR (k := 8) hl (by decide) rfl, Option.bind_some] | rw [Option.bind_some]
  obtain ⟨S4, qS4, hr⟩ := Option.bind_eq_some_iff.mp hr
  first | rw [rs_wrI (k := 8) hl rfl rfl qS4, Option.bind_some] | rw [Option.bind_some]
  first | rw [rs_fR (k := 9) hl (by decide) rfl, Option.bind_some] | rw [Option.bind_some]
  obtain ⟨S5, qS5, hr⟩ := Option.bind_eq_some_iff.mp hr
  first | rw [rs_wrI (k := 9) hl rfl rfl qS5, Option.bind_some] | rw [Option.bind_some]
  first | rw [rs_fR (k := 10) hl (by decide) rfl, Option.bind_some] | rw [Option.bind_some]
  obtain ⟨S6, qS6, hr⟩ := Option.bind_eq_some_iff.mp hr
  first | rw [rs_wrI (k := 10) hl rfl rfl qS6, Option.bind_some] | rw [Option.bind_some]
  first | rw [rs_fR (k := 11) hl (by decide) rfl, Option.bind_some] | rw [Option.bind_some]
  obtain ⟨S7, qS7, hr⟩ := Option.bind_eq_some_iff.mp hr
  first | rw [rs_wrI (k := 11) hl rfl rfl qS7, Option.bind_some] | rw [Option.bind_some]
  exact r246_117_t hl lf_N hr
set_option maxRecDepth 20000 in
def rf_246 (a1 : Int32) (a2 : Int32) (a3 : Int32) (a4 : Int32) (S : rs_S) : Option (Int32 × rs_S) := (rd_I S 16 ((4 : Int32) * a1)).bind fun v1 => (wr_I S 1 (((40 : Int32) * a1) + v1) a2).bind fun S2 => (wr_I S2 2 (((40 : Int32) * a1) + v1) a3).bind fun S3 => (rd_I S3 17 a1).bind fun v4 => (wr_I S3 3 (((40 : Int32) * a1) + v1) (v4 + (1 : Int32))).bind fun S5 => if (0 : Int32) ≤ a4 then r246_64 a1 (((40 : Int32) * a1) + v1) a4 (((40 : Int32) * a1) + v1) S5 else r246_64 a1 (((40 : Int32) * a1) + v1) (((40 : Int32) * a1) + v1) (((40 : Int32) * a1) + v1) S5
set_option maxRecDepth 20000 in
theorem rt_246 {h : pm_H} (hl : 177 ≤ h.1.length) {a1 : Int32} {a2 : Int32} {a3 : Int32} {a4 : Int32} {S S' : rs_S} {v : Int32} (hr : rf_246 a1 a2 a3 a4 S = some (v, S')) : ll_246 (some 145) a1 a2 a3 a4 (rs_h S h) = some (.inl (some (.inl v)), rs_h S' h) := by
  unfold rf_246 at hr
  unfold ll_246
  first | rw [rs_fR (k := 16) hl (by decide) rfl, Option.bind_some] | rw [Option.bind_some]
  obtain ⟨v1, qv1, hr⟩ := Option.bind_eq_some_iff.mp hr
  first | rw [rs_rdI (k := 16) hl rfl rfl qv1, Option.bind_some] | rw [Option.bind_some]
  first | rw [rs_fR (k := 1) hl (by decide) rfl, Option.bind_some] | rw [Option.bind_some]
  obtain ⟨S2, qS2, hr⟩ := Option.bind_eq_some_iff.mp hr
  first | rw [rs_wrI (k := 1) hl rfl rfl qS2, Option.bind_some] | rw [Option.bind_some]
  first | rw [rs_fR (k := 2) hl (by decide) rfl, Option.bind_some] | rw [Option.bind_some]
  obtain ⟨S3, qS3, hr⟩ := Option.bind_eq_some_iff.mp hr
  first | rw [rs_wrI (k := 2) hl rfl rfl qS3, Option.bind_some] | rw [Option.bind_some]
  first | rw [rs_fR (k := 3) hl (by decide) rfl, Option.bind_some] | rw [Option.bind_some]
  first | rw [rs_fR (k := 17) hl (by decide) rfl, Option.bind_some] | rw [Option.bind_some]
  obtain ⟨v4, qv4, hr⟩ := Option.bind_eq_some_iff.mp hr
  first | rw [rs_rdI (k := 17) hl rfl rfl qv4, Option.bind_some] | rw [Option.bind_some]
  obtain ⟨S5, qS5, hr⟩ := Option.bind_eq_some_iff.mp hr
  first | rw [rs_wrI (k := 3) hl rfl rfl qS5, Option.bind_some] | rw [Option.bind_some]
  first | rw [rs_fR (k := 5) hl (by decide) rfl, Option.bind_some] | rw [Option.bind_some]
  by_cases c6 : (0 : Int32) ≤ a4
  · rw [if_pos c6] at hr ⊢
    exact r246_64_t hl hr
  · rw [if_neg c6] at hr ⊢
    exact r246_64_t hl hr
-- OfficeSheetModel.child(IIII)I
set_option maxRecDepth 20000 in
def r249_114 (J6 : Int32 → Int32 → Int32 → Int32 → Int32 → Int32 → rs_S → Option (Int32 × rs_S)) (x1 : Int32) (x2 : Int32) (x3 : Int32) (x4 : Int32) (x5 : Int32) (x6 : Int32) (S : rs_S) : Option (Int32 × rs_S) := J6 x1 x2 x3 x4 x5 (x6 + (1 : Int32)) S
set_option maxRecDepth 20000 in
theorem r249_114_t {h : pm_H} (hl : 177 ≤ h.1.length) {J6 : Int32 → Int32 → Int32 → Int32 → Int32 → Int32 → rs_S → Option (Int32 × rs_S)} {K6 : Option Nat → Int32 → Int32 → Int32 → Int32 → Int32 → Int32 → pm_H → tm_L} (hJ6 : ∀ {x1 : Int32} {x2 : Int32} {x3 : Int32} {x4 : Int32} {x5 : Int32} {x6 : Int32} {S S' : rs_S} {v : Int32}, J6 x1 x2 x3 x4 x5 x6 S = some (v, S') → K6 (some 145) x1 x2 x3 x4 x5 x6 (rs_h S h) = some (.inl (some (.inl v)), rs_h S' h)) {x1 : Int32} {x2 : Int32} {x3 : Int32} {x4 : Int32} {x5 : Int32} {x6 : Int32} {S S' : rs_S} {v : Int32} (hr : r249_114 J6 x1 x2 x3 x4 x5 x6 S = some (v, S')) : l249_114 K6 (some 145) x1 x2 x3 x4 x5 x6 (rs_h S h) = some (.inl (some (.inl v)), rs_h S' h) := by
  unfold r249_114 at hr
  unfold l249_114
  exact hJ6 hr
set_option maxRecDepth 20000 in
def r249_110 (J6 : Int32 → Int32 → Int32 → Int32 → Int32 → Int32 → rs_S → Option (Int32 × rs_S)) (x1 : Int32) (x2 : Int32) (x3 : Int32) (x4 : Int32) (x6 : Int32) (S : rs_S) : Option (Int32 × rs_S) := r249_114 J6 x1 x2 x3 x4 x6 x6 S
set_option maxRecDepth 20000 in
theorem r249_110_t {h : pm_H} (hl : 177 ≤ h.1.length) {J6 : Int32 → Int32 → Int32 → Int32 → Int32 → Int32 → rs_S → Option (Int32 × rs_S)} {K6 : Option Nat → Int32 → Int32 → Int32 → Int32 → Int32 → Int32 → pm_H → tm_L} (hJ6 : ∀ {x1 : Int32} {x2 : Int32} {x3 : Int32} {x4 : Int32} {x5 : Int32} {x6 : Int32} {S S' : rs_S} {v : Int32}, J6 x1 x2 x3 x4 x5 x6 S = some (v, S') → K6 (some 145) x1 x2 x3 x4 x5 x6 (rs_h S h) = some (.inl (some (.inl v)), rs_h S' h)) {x1 : Int32} {x2 : Int32} {x3 : Int32} {x4 : Int32} {x6 : Int32} {S S' : rs_S} {v : Int32} (hr : r249_110 J6 x1 x2 x3 x4 x6 S = some (v, S')) : l249_110 K6 (some 145) x1 x2 x3 x4 x6 (rs_h S h) = some (.inl (some (.inl v)), rs_h S' h) := by
  unfold r249_110 at hr
  unfold l249_110
  exact r249_114_t hl hJ6 hr
set_option maxRecDepth 20000 in
def r249_40 (J6 : Int32 → Int32 → Int32 → Int32 → Int32 → Int32 → rs_S → Option (Int32 × rs_S)) (x1 : Int32) (x2 : Int32) (x3 : Int32) (x4 : Int32) (x5 : Int32) (x6 : Int32) (s0 : Int32) (S : rs_S) : Option (Int32 × rs_S) := if s0 = (0 : Int32) then r249_114 J6 x1 x2 x3 x4 x5 x6 S else rb (rf_244 x1 x6 S) fun v1 S2 => if v1 = (0 : Int32) then r249_114 J6 x1 x2 x3 x4 x5 x6 S2 else (rd_I S2 2 x6).bind fun v4 => if v4 = x2 then (rd_I S2 8 x6).bind fun v5 => if v5 = x3 then rb (rf_245 x6 S2) fun v6 S7 => if x4 ≤ v6 then r249_114 J6 x1 x2 x3 x4 x5 x6 S7 else if x5 < (0 : Int32) then r249_110 J6 x1 x2 x3 x4 x6 S7 else rb (rf_245 x6 S7) fun v9 S10 => rb (rf_245 x5 S10) fun v12 S13 => if v9 ≤ v12 then r249_114 J6 x1 x2 x3 x4 x5 x6 S13 else r249_110 J6 x1 x2 x3 x4 x6 S13 else r249_114 J6 x1 x2 x3 x4 x5 x6 S2 else r249_114 J6 x1 x2 x3 x4 x5 x6 S2
set_option maxRecDepth 20000 in
theorem r249_40_t {h : pm_H} (hl : 177 ≤ h.1.length) {J6 : Int32 → Int32 → Int32 → Int32 → Int32 → Int32 → rs_S → Option (Int32 × rs_S)} {K6 : Option Nat → Int32 → Int32 → Int32 → Int32 → Int32 → Int32 → pm_H → tm_L} (hJ6 : ∀ {x1 : Int32} {x2 : Int32} {x3 : Int32} {x4 : Int32} {x5 : Int32} {x6 : Int32} {S S' : rs_S} {v : Int32}, J6 x1 x2 x3 x4 x5 x6 S = some (v, S') → K6 (some 145) x1 x2 x3 x4 x5 x6 (rs_h S h) = some (.inl (some (.inl v)), rs_h S' h)) {x1 : Int32} {x2 : Int32} {x3 : Int32} {x4 : Int32} {x5 : Int32} {x6 : Int32} {s0 : Int32} {S S' : rs_S} {v : Int32} (hr : r249_40 J6 x1 x2 x3 x4 x5 x6 s0 S = some (v, S')) : l249_40 K6 (some 145) x1 x2 x3 x4 x5 x6 s0 (rs_h S h) = some (.inl (some (.inl v)), rs_h S' h) := by
  unfold r249_40 at hr
  unfold l249_40
  by_cases c21 : s0 = (0 : Int32)
  · rw [if_pos c21] at hr ⊢
    exact r249_114_t hl hJ6 hr
  · rw [if_neg c21] at hr ⊢
    obtain ⟨v1, S2, m3, hr⟩ := rb_s hr
    rw [if_pos (rs_lc hl)]
    rw [rt_244 hl m3, lb_I_r]
    by_cases c20 : v1 = (0 : Int32)
    · rw [if_pos c20] at hr ⊢
      exact r249_114_t hl hJ6 hr
    · rw [if_neg c20] at hr ⊢
      first | rw [rs_fR (k := 2) hl (by decide) rfl, Option.bind_some] | rw [Option.bind_some]
      obtain ⟨v4, qv4, hr⟩ := Option.bind_eq_some_iff.mp hr
      first | rw [rs_rdI (k := 2) hl rfl rfl qv4, Option.bind_some] | rw [Option.bind_some]
      by_cases c19 : v4 = x2
      · rw [if_pos c19] at hr ⊢
        first | rw [rs_fR (k := 8) hl (by decide) rfl, Option.bind_some] | rw [Option.bind_some]
        obtain ⟨v5, qv5, hr⟩ := Option.bind_eq_some_iff.mp hr
        first | rw [rs_rdI (k := 8) hl rfl rfl qv5, Option.bind_some] | rw [Option.bind_some]
        by_cases c18 : v5 = x3
        · rw [if_pos c18] at hr ⊢
          obtain ⟨v6, S7, m8, hr⟩ := rb_s hr
          rw [if_pos (rs_lc hl)]
          rw [rt_245 hl m8, lb_I_r]
          by_cases c17 : x4 ≤ v6
          · rw [if_pos c17] at hr ⊢
            exact r249_114_t hl hJ6 hr
          · rw [if_neg c17] at hr ⊢
            by_cases c16 : x5 < (0 : Int32)
            · rw [if_pos c16] at hr ⊢
              exact r249_110_t hl hJ6 hr
            · rw [if_neg c16] at hr ⊢
              obtain ⟨v9, S10, m11, hr⟩ := rb_s hr
              rw [if_pos (rs_lc hl)]
              rw [rt_245 hl m11, lb_I_r]
              obtain ⟨v12, S13, m14, hr⟩ := rb_s hr
              rw [if_pos (rs_lc hl)]
              rw [rt_245 hl m14, lb_I_r]
              by_cases c15 : v9 ≤ v12
              · rw [if_pos c15] at hr ⊢
                exact r249_114_t hl hJ6 hr
              · rw [if_neg c15] at hr ⊢
                exact r249_110_t hl hJ6 hr
        · rw [if_neg c18] at hr ⊢
          exact r249_114_t hl hJ6 hr
      · rw [if_neg c19] at hr ⊢
        exact r249_114_t hl hJ6 hr
set_option maxRecDepth 20000 in
def r249_35 (J6 : Int32 → Int32 → Int32 → Int32 → Int32 → Int32 → rs_S → Option (Int32 × rs_S)) (x1 : Int32) (x2 : Int32) (x3 : Int32) (x4 : Int32) (x5 : Int32) (x6 : Int32) (S : rs_S) : Option (Int32 × rs_S) := r249_40 J6 x1 x2 x3 x4 x5 x6 (1 : Int32) S
set_option maxRecDepth 20000 in
theorem r249_35_t {h : pm_H} (hl : 177 ≤ h.1.length) {J6 : Int32 → Int32 → Int32 → Int32 → Int32 → Int32 → rs_S → Option (Int32 × rs_S)} {K6 : Option Nat → Int32 → Int32 → Int32 → Int32 → Int32 → Int32 → pm_H → tm_L} (hJ6 : ∀ {x1 : Int32} {x2 : Int32} {x3 : Int32} {x4 : Int32} {x5 : Int32} {x6 : Int32} {S S' : rs_S} {v : Int32}, J6 x1 x2 x3 x4 x5 x6 S = some (v, S') → K6 (some 145) x1 x2 x3 x4 x5 x6 (rs_h S h) = some (.inl (some (.inl v)), rs_h S' h)) {x1 : Int32} {x2 : Int32} {x3 : Int32} {x4 : Int32} {x5 : Int32} {x6 : Int32} {S S' : rs_S} {v : Int32} (hr : r249_35 J6 x1 x2 x3 x4 x5 x6 S = some (v, S')) : l249_35 K6 (some 145) x1 x2 x3 x4 x5 x6 (rs_h S h) = some (.inl (some (.inl v)), rs_h S' h) := by
  unfold r249_35 at hr
  unfold l249_35
  exact r249_40_t hl hJ6 hr
set_option maxRecDepth 20000 in
def r249_6 : Nat → Int32 → Int32 → Int32 → Int32 → Int32 → Int32 → rs_S → Option (Int32 × rs_S)
  | 0 => fun _ _ _ _ _ _ _ => none
  | n + 1 => fun x1 x2 x3 x4 x5 x6 S => if (120 : Int32) ≤ x6 then some (x5, S) else (rd_I S 1 x6).bind fun v1 => if v1 = (1 : Int32) then r249_35 (r249_6 n) x1 x2 x3 x4 x5 x6 S else (rd_I S 1 x6).bind fun v2 => if v2 = (2 : Int32) then r249_35 (r249_6 n) x1 x2 x3 x4 x5 x6 S else r249_40 (r249_6 n) x1 x2 x3 x4 x5 x6 (0 : Int32) S
set_option maxRecDepth 20000 in
theorem r249_6_t {h : pm_H} (hl : 177 ≤ h.1.length) : ∀ (n : Nat) {x1 : Int32} {x2 : Int32} {x3 : Int32} {x4 : Int32} {x5 : Int32} {x6 : Int32} {S S' : rs_S} {v : Int32}, r249_6 n x1 x2 x3 x4 x5 x6 S = some (v, S') → l249_6 n (some 145) x1 x2 x3 x4 x5 x6 (rs_h S h) = some (.inl (some (.inl v)), rs_h S' h) := by
  intro n
  induction n with
  | zero => intro x1 x2 x3 x4 x5 x6 S S' v hr; cases hr
  | succ n ih =>
    intro x1 x2 x3 x4 x5 x6 S S' v hr
    rw [r249_6] at hr
    rw [l249_6]
    try dsimp only at hr
    try dsimp only
    by_cases c5 : (120 : Int32) ≤ x6
    · rw [if_pos c5] at hr ⊢
      cases hr
      rfl
    · rw [if_neg c5] at hr ⊢
      first | rw [rs_fR (k := 1) hl (by decide) rfl, Option.bind_some] | rw [Option.bind_some]
      obtain ⟨v1, qv1, hr⟩ := Option.bind_eq_some_iff.mp hr
      first | rw [rs_rdI (k := 1) hl rfl rfl qv1, Option.bind_some] | rw [Option.bind_some]
      by_cases c4 : v1 = (1 : Int32)
      · rw [if_pos c4] at hr ⊢
        exact r249_35_t hl (fun hr => ih hr) hr
      · rw [if_neg c4] at hr ⊢
        first | rw [rs_fR (k := 1) hl (by decide) rfl, Option.bind_some] | rw [Option.bind_some]
        obtain ⟨v2, qv2, hr⟩ := Option.bind_eq_some_iff.mp hr
        first | rw [rs_rdI (k := 1) hl rfl rfl qv2, Option.bind_some] | rw [Option.bind_some]
        by_cases c3 : v2 = (2 : Int32)
        · rw [if_pos c3] at hr ⊢
          exact r249_35_t hl (fun hr => ih hr) hr
        · rw [if_neg c3] at hr ⊢
          exact r249_40_t hl (fun hr => ih hr) hr
set_option maxRecDepth 20000 in
def rf_249 (a1 : Int32) (a2 : Int32) (a3 : Int32) (a4 : Int32) (S : rs_S) : Option (Int32 × rs_S) := r249_6 lf_N a1 a2 a3 a4 (-1 : Int32) (0 : Int32) S
set_option maxRecDepth 20000 in
theorem rt_249 {h : pm_H} (hl : 177 ≤ h.1.length) {a1 : Int32} {a2 : Int32} {a3 : Int32} {a4 : Int32} {S S' : rs_S} {v : Int32} (hr : rf_249 a1 a2 a3 a4 S = some (v, S')) : ll_249 (some 145) a1 a2 a3 a4 (rs_h S h) = some (.inl (some (.inl v)), rs_h S' h) := by
  unfold rf_249 at hr
  unfold ll_249
  exact r249_6_t hl lf_N hr
-- OfficeSheetModel.visit(III)V
set_option maxRecDepth 20000 in
def rf_250 (a1 : Int32) (a2 : Int32) (a3 : Int32) (S : rs_S) : Option (Unit × rs_S) := (rd_I S 5 a3).bind fun v1 => rb (rf_243 a1 v1 (1 : Int32) S) fun v2 S3 => (rd_I S3 7 v2).bind fun v5 => if v5 = a3 then rb (rf_243 a1 v1 (0 : Int32) S3) fun v6 S7 => (rd_I S7 1 v6).bind fun v9 => if v9 = (5 : Int32) then some ((), S7) else (rd_I S7 20 (((2 : Int32) * a1) + a2)).bind fun v10 => (wr_I S7 19 ((((240 : Int32) * a1) + ((120 : Int32) * a2)) + v10) v1).bind fun S11 => (rd_I S11 20 (((2 : Int32) * a1) + a2)).bind fun v12 => (wr_I S11 20 (((2 : Int32) * a1) + a2) (v12 + (1 : Int32))).bind fun S13 => some ((), S13) else some ((), S3)
set_option maxRecDepth 20000 in
theorem rt_250 {h : pm_H} (hl : 177 ≤ h.1.length) {a1 : Int32} {a2 : Int32} {a3 : Int32} {S S' : rs_S} {v : Unit} (hr : rf_250 a1 a2 a3 S = some (v, S')) : ll_250 (some 145) a1 a2 a3 (rs_h S h) = some (.inl none, rs_h S' h) := by
  unfold rf_250 at hr
  unfold ll_250
  first | rw [rs_fR (k := 5) hl (by decide) rfl, Option.bind_some] | rw [Option.bind_some]
  obtain ⟨v1, qv1, hr⟩ := Option.bind_eq_some_iff.mp hr
  first | rw [rs_rdI (k := 5) hl rfl rfl qv1, Option.bind_some] | rw [Option.bind_some]
  first | rw [rs_fR (k := 7) hl (by decide) rfl, Option.bind_some] | rw [Option.bind_some]
  obtain ⟨v2, S3, m4, hr⟩ := rb_s hr
  rw [if_pos (rs_lc hl)]
  rw [rt_243 hl m4, lb_I_r]
  obtain ⟨v5, qv5, hr⟩ := Option.bind_eq_some_iff.mp hr
  first | rw [rs_rdI (k := 7) hl rfl rfl qv5, Option.bind_some] | rw [Option.bind_some]
  by_cases c15 : v5 = a3
  · rw [if_pos c15] at hr ⊢
    first | rw [rs_fR (k := 1) hl (by decide) rfl, Option.bind_some] | rw [Option.bind_some]
    obtain ⟨v6, S7, m8, hr⟩ := rb_s hr
    rw [if_pos (rs_lc hl)]
    rw [rt_243 hl m8, lb_I_r]
    obtain ⟨v9, qv9, hr⟩ := Option.bind_eq_some_iff.mp hr
    first | rw [rs_rdI (k := 1) hl rfl rfl qv9, Option.bind_some] | rw [Option.bind_some]
    by_cases c14 : v9 = (5 : Int32)
    · rw [if_pos c14] at hr ⊢
      cases hr
      rfl
    · rw [if_neg c14] at hr ⊢
      first | rw [rs_fR (k := 19) hl (by decide) rfl, Option.bind_some] | rw [Option.bind_some]
      first | rw [rs_fR (k := 20) hl (by decide) rfl, Option.bind_some] | rw [Option.bind_some]
      obtain ⟨v10, qv10, hr⟩ := Option.bind_eq_some_iff.mp hr
      first | rw [rs_rdI (k := 20) hl rfl rfl qv10, Option.bind_some] | rw [Option.bind_some]
      obtain ⟨S11, qS11, hr⟩ := Option.bind_eq_some_iff.mp hr
      first | rw [rs_wrI (k := 19) hl rfl rfl qS11, Option.bind_some] | rw [Option.bind_some]
      first | rw [rs_fR (k := 20) hl (by decide) rfl, Option.bind_some] | rw [Option.bind_some]
      obtain ⟨v12, qv12, hr⟩ := Option.bind_eq_some_iff.mp hr
      first | rw [rs_rdI (k := 20) hl rfl rfl qv12, Option.bind_some] | rw [Option.bind_some]
      obtain ⟨S13, qS13, hr⟩ := Option.bind_eq_some_iff.mp hr
      first | rw [rs_wrI (k := 20) hl rfl rfl qS13, Option.bind_some] | rw [Option.bind_some]
      cases hr
      rfl
  · rw [if_neg c15] at hr ⊢
    cases hr
    rfl
-- OfficeSheetModel.show(II)V
set_option maxRecDepth 20000 in
def r248_91 (J22 : Int32 → Int32 → Int32 → rs_S → Option (Unit × rs_S)) (J48 : Int32 → Int32 → Int32 → Int32 → rs_S → Option (Unit × rs_S)) (x1 : Int32) (x2 : Int32) (x4 : Int32) (S : rs_S) : Option (Unit × rs_S) := J22 x1 x2 x4 S
set_option maxRecDepth 20000 in
theorem r248_91_t {h : pm_H} (hl : 177 ≤ h.1.length) {J22 : Int32 → Int32 → Int32 → rs_S → Option (Unit × rs_S)} {K22 : Option Nat → Int32 → Int32 → Int32 → pm_H → tm_L} {J48 : Int32 → Int32 → Int32 → Int32 → rs_S → Option (Unit × rs_S)} {K48 : Option Nat → Int32 → Int32 → Int32 → Int32 → pm_H → tm_L} (hJ22 : ∀ {x1 : Int32} {x2 : Int32} {x3 : Int32} {S S' : rs_S} {v : Unit}, J22 x1 x2 x3 S = some (v, S') → K22 (some 145) x1 x2 x3 (rs_h S h) = some (.inl none, rs_h S' h)) (hJ48 : ∀ {x1 : Int32} {x2 : Int32} {x4 : Int32} {x5 : Int32} {S S' : rs_S} {v : Unit}, J48 x1 x2 x4 x5 S = some (v, S') → K48 (some 145) x1 x2 x4 x5 (rs_h S h) = some (.inl none, rs_h S' h)) {x1 : Int32} {x2 : Int32} {x4 : Int32} {S S' : rs_S} {v : Unit} (hr : r248_91 J22 J48 x1 x2 x4 S = some (v, S')) : l248_91 K22 K48 (some 145) x1 x2 x4 (rs_h S h) = some (.inl none, rs_h S' h) := by
  unfold r248_91 at hr
  unfold l248_91
  exact hJ22 hr
set_option maxRecDepth 20000 in
def r248_48 (J22 : Int32 → Int32 → Int32 → rs_S → Option (Unit × rs_S)) : Nat → Int32 → Int32 → Int32 → Int32 → rs_S → Option (Unit × rs_S)
  | 0 => fun _ _ _ _ _ => none
  | n + 1 => fun x1 x2 x4 x5 S => if (0 : Int32) ≤ x4 then r248_91 J22 (r248_48 J22 n) x1 x2 x4 S else if x5 < (0 : Int32) then r248_91 J22 (r248_48 J22 n) x1 x2 x4 S else (rd_I S 8 x5).bind fun v1 => rb (rf_245 x5 S) fun v2 S3 => rb (rf_249 x1 x2 v1 v2 S3) fun v5 S6 => (rd_I S6 8 x5).bind fun v8 => r248_48 J22 n x1 x2 v5 v8 S6
set_option maxRecDepth 20000 in
theorem r248_48_t {h : pm_H} (hl : 177 ≤ h.1.length) {J22 : Int32 → Int32 → Int32 → rs_S → Option (Unit × rs_S)} {K22 : Option Nat → Int32 → Int32 → Int32 → pm_H → tm_L} (hJ22 : ∀ {x1 : Int32} {x2 : Int32} {x3 : Int32} {S S' : rs_S} {v : Unit}, J22 x1 x2 x3 S = some (v, S') → K22 (some 145) x1 x2 x3 (rs_h S h) = some (.inl none, rs_h S' h)) : ∀ (n : Nat) {x1 : Int32} {x2 : Int32} {x4 : Int32} {x5 : Int32} {S S' : rs_S} {v : Unit}, r248_48 J22 n x1 x2 x4 x5 S = some (v, S') → l248_48 K22 n (some 145) x1 x2 x4 x5 (rs_h S h) = some (.inl none, rs_h S' h) := by
  intro n
  induction n with
  | zero => intro x1 x2 x4 x5 S S' v hr; cases hr
  | succ n ih =>
    intro x1 x2 x4 x5 S S' v hr
    rw [r248_48] at hr
    rw [l248_48]
    try dsimp only at hr
    try dsimp only
    by_cases c10 : (0 : Int32) ≤ x4
    · rw [if_pos c10] at hr ⊢
      exact r248_91_t hl hJ22 (fun hr => ih hr) hr
    · rw [if_neg c10] at hr ⊢
      by_cases c9 : x5 < (0 : Int32)
      · rw [if_pos c9] at hr ⊢
        exact r248_91_t hl hJ22 (fun hr => ih hr) hr
      · rw [if_neg c9] at hr ⊢
        first | rw [rs_fR (k := 8) hl (by decide) rfl, Option.bind_some] | rw [Option.bind_some]
        obtain ⟨v1, qv1, hr⟩ := Option.bind_eq_some_iff.mp hr
        first | rw [rs_rdI (k := 8) hl rfl rfl qv1, Option.bind_some] | rw [Option.bind_some]
        obtain ⟨v2, S3, m4, hr⟩ := rb_s hr
        rw [if_pos (rs_lc hl)]
        rw [rt_245 hl m4, lb_I_r]
        obtain ⟨v5, S6, m7, hr⟩ := rb_s hr
        rw [if_pos (rs_lc hl)]
        rw [rt_249 hl m7, lb_I_r]
        first | rw [rs_fR (k := 8) hl (by decide) rfl, Option.bind_some] | rw [Option.bind_some]
        obtain ⟨v8, qv8, hr⟩ := Option.bind_eq_some_iff.mp hr
        first | rw [rs_rdI (k := 8) hl rfl rfl qv8, Option.bind_some] | rw [Option.bind_some]
        exact ih hr
set_option maxRecDepth 20000 in
def r248_22 : Nat → Int32 → Int32 → Int32 → rs_S → Option (Unit × rs_S)
  | 0 => fun _ _ _ _ => none
  | n + 1 => fun x1 x2 x3 S => if x3 < (0 : Int32) then some ((), S) else rb (rf_250 x1 x2 x3 S) fun _ S2 => rb (rf_249 x1 x2 x3 (1000 : Int32) S2) fun v4 S5 => r248_48 (r248_22 n) lf_N x1 x2 v4 x3 S5
set_option maxRecDepth 20000 in
theorem r248_22_t {h : pm_H} (hl : 177 ≤ h.1.length) : ∀ (n : Nat) {x1 : Int32} {x2 : Int32} {x3 : Int32} {S S' : rs_S} {v : Unit}, r248_22 n x1 x2 x3 S = some (v, S') → l248_22 n (some 145) x1 x2 x3 (rs_h S h) = some (.inl none, rs_h S' h) := by
  intro n
  induction n with
  | zero => intro x1 x2 x3 S S' v hr; cases hr
  | succ n ih =>
    intro x1 x2 x3 S S' v hr
    rw [r248_22] at hr
    rw [l248_22]
    try dsimp only at hr
    try dsimp only
    by_cases c7 : x3 < (0 : Int32)
    · rw [if_pos c7] at hr ⊢
      cases hr
      rfl
    · rw [if_neg c7] at hr ⊢
      obtain ⟨v1, S2, m3, hr⟩ := rb_s hr
      rw [if_pos (rs_lc hl)]
      rw [rt_250 hl m3, lb_V_r]
      obtain ⟨v4, S5, m6, hr⟩ := rb_s hr
      rw [if_pos (rs_lc hl)]
      rw [rt_249 hl m6, lb_I_r]
      exact r248_48_t hl (fun hr => ih hr) lf_N hr
set_option maxRecDepth 20000 in
def rf_248 (a1 : Int32) (a2 : Int32) (S : rs_S) : Option (Unit × rs_S) := (wr_I S 20 (((2 : Int32) * a1) + a2) (0 : Int32)).bind fun S1 => rb (rf_249 a1 a2 (-1 : Int32) (1000 : Int32) S1) fun v2 S3 => r248_22 lf_N a1 a2 v2 S3
set_option maxRecDepth 20000 in
theorem rt_248 {h : pm_H} (hl : 177 ≤ h.1.length) {a1 : Int32} {a2 : Int32} {S S' : rs_S} {v : Unit} (hr : rf_248 a1 a2 S = some (v, S')) : ll_248 (some 145) a1 a2 (rs_h S h) = some (.inl none, rs_h S' h) := by
  unfold rf_248 at hr
  unfold ll_248
  first | rw [rs_fR (k := 20) hl (by decide) rfl, Option.bind_some] | rw [Option.bind_some]
  obtain ⟨S1, qS1, hr⟩ := Option.bind_eq_some_iff.mp hr
  first | rw [rs_wrI (k := 20) hl rfl rfl qS1, Option.bind_some] | rw [Option.bind_some]
  obtain ⟨v2, S3, m4, hr⟩ := rb_s hr
  rw [if_pos (rs_lc hl)]
  rw [rt_249 hl m4, lb_I_r]
  exact r248_22_t hl lf_N hr
-- OfficeSheetModel.take(II)V
set_option maxRecDepth 20000 in
def r247_84 (s0 : Int32) (S : rs_S) : Option (Unit × rs_S) := rb_S (rs_setI S 31 s0) fun S1 => some ((), S1)
set_option maxRecDepth 20000 in
theorem r247_84_t {h : pm_H} (hl : 177 ≤ h.1.length) {s0 : Int32} {S S' : rs_S} {v : Unit} (hr : r247_84 s0 S = some (v, S')) : l247_84 s0 (some 145) (rs_h S h) = some (.inl none, rs_h S' h) := by
  unfold r247_84 at hr
  unfold l247_84
  obtain ⟨S1, eS1, hr⟩ := rb_S_s hr
  rw [rs_pI (k := 31) hl (by decide) rfl, Option.bind_some, ← eS1]
  cases hr
  rfl
set_option maxRecDepth 20000 in
def r247_54 (x1 : Int32) (s0 : Int32) (s1 : Int32) (S : rs_S) : Option (Unit × rs_S) := (wr_I S 17 s1 s0).bind fun S1 => rb (rf_248 x1 (0 : Int32) S1) fun _ S3 => rb (rf_248 x1 (1 : Int32) S3) fun _ S6 => if (S6.1 31) = x1 then r247_84 (-1 : Int32) S6 else r247_84 (S6.1 31) S6
set_option maxRecDepth 20000 in
theorem r247_54_t {h : pm_H} (hl : 177 ≤ h.1.length) {x1 : Int32} {s0 : Int32} {s1 : Int32} {S S' : rs_S} {v : Unit} (hr : r247_54 x1 s0 s1 S = some (v, S')) : l247_54 (some 145) x1 s0 s1 (some (rs_ad 17)) (rs_h S h) = some (.inl none, rs_h S' h) := by
  unfold r247_54 at hr
  unfold l247_54
  obtain ⟨S1, qS1, hr⟩ := Option.bind_eq_some_iff.mp hr
  first | rw [rs_wrI (k := 17) hl rfl rfl qS1, Option.bind_some] | rw [Option.bind_some]
  obtain ⟨v2, S3, m4, hr⟩ := rb_s hr
  rw [if_pos (rs_lc hl)]
  rw [rt_248 hl m4, lb_V_r]
  obtain ⟨v5, S6, m7, hr⟩ := rb_s hr
  rw [if_pos (rs_lc hl)]
  rw [rt_248 hl m7, lb_V_r]
  first | rw [rs_fI (k := 31) hl (by decide) rfl, Option.bind_some] | rw [Option.bind_some]
  by_cases c8 : (S6.1 31) = x1
  · rw [if_pos c8] at hr ⊢
    exact r247_84_t hl hr
  · rw [if_neg c8] at hr ⊢
    first | rw [rs_fI (k := 31) hl (by decide) rfl, Option.bind_some] | rw [Option.bind_some]
    exact r247_84_t hl hr
set_option maxRecDepth 20000 in
def rf_247 (a1 : Int32) (a2 : Int32) (S : rs_S) : Option (Unit × rs_S) := (wr_I S 16 (((3 : Int32) * a1) + (a2 / (40 : Int32))) ((a2 - a2 / (40 : Int32) * (40 : Int32)) + (1 : Int32))).bind fun S1 => (rd_I S1 17 a1).bind fun v2 => (rd_I S1 3 a2).bind fun v3 => if v2 ≤ v3 then (rd_I S1 3 a2).bind fun v4 => r247_54 a1 v4 a1 S1 else (rd_I S1 17 a1).bind fun v5 => r247_54 a1 v5 a1 S1
set_option maxRecDepth 20000 in
theorem rt_247 {h : pm_H} (hl : 177 ≤ h.1.length) {a1 : Int32} {a2 : Int32} {S S' : rs_S} {v : Unit} (hr : rf_247 a1 a2 S = some (v, S')) : ll_247 (some 145) a1 a2 (rs_h S h) = some (.inl none, rs_h S' h) := by
  unfold rf_247 at hr
  unfold ll_247
  first | rw [rs_fR (k := 16) hl (by decide) rfl, Option.bind_some] | rw [Option.bind_some]
  obtain ⟨S1, qS1, hr⟩ := Option.bind_eq_some_iff.mp hr
  first | rw [rs_wrI (k := 16) hl rfl rfl qS1, Option.bind_some] | rw [Option.bind_some]
  first | rw [rs_fR (k := 17) hl (by decide) rfl, Option.bind_some] | rw [Option.bind_some]
  first | rw [rs_fR (k := 17) hl (by decide) rfl, Option.bind_some] | rw [Option.bind_some]
  obtain ⟨v2, qv2, hr⟩ := Option.bind_eq_some_iff.mp hr
  first | rw [rs_rdI (k := 17) hl rfl rfl qv2, Option.bind_some] | rw [Option.bind_some]
  first | rw [rs_fR (k := 3) hl (by decide) rfl, Option.bind_some] | rw [Option.bind_some]
  obtain ⟨v3, qv3, hr⟩ := Option.bind_eq_some_iff.mp hr
  first | rw [rs_rdI (k := 3) hl rfl rfl qv3, Option.bind_some] | rw [Option.bind_some]
  by_cases c6 : v2 ≤ v3
  · rw [if_pos c6] at hr ⊢
    first | rw [rs_fR (k := 3) hl (by decide) rfl, Option.bind_some] | rw [Option.bind_some]
    obtain ⟨v4, qv4, hr⟩ := Option.bind_eq_some_iff.mp hr
    first | rw [rs_rdI (k := 3) hl rfl rfl qv4, Option.bind_some] | rw [Option.bind_some]
    exact r247_54_t hl hr
  · rw [if_neg c6] at hr ⊢
    first | rw [rs_fR (k := 17) hl (by decide) rfl, Option.bind_some] | rw [Option.bind_some]
    obtain ⟨v5, qv5, hr⟩ := Option.bind_eq_some_iff.mp hr
    first | rw [rs_rdI (k := 17) hl rfl rfl qv5, Option.bind_some] | rw [Option.bind_some]
    exact r247_54_t hl hr
-- OfficeSheetModel.put(III)I
set_option maxRecDepth 20000 in
def r236_86 (x1 : Int32) (x2 : Int32) (x3 : Int32) (s0 : Int32) (S : rs_S) : Option (Int32 × rs_S) := rb_S (rs_setI S 0 s0) fun S1 => if (S1.1 0) ≤ (0 : Int32) then rb (rf_241 x1 x2 x3 S1) fun v2 S3 => rb (rf_246 x1 (1 : Int32) x2 (-1 : Int32) S3) fun v5 S6 => (wr_I S6 8 v5 v2).bind fun S8 => rb (rf_247 x1 v5 S8) fun _ S10 => some (((((100 : Int32) * x1) + (v5 - v5 / (40 : Int32) * (40 : Int32))) + (1 : Int32)), S10) else some ((0 : Int32), S1)
set_option maxRecDepth 20000 in
theorem r236_86_t {h : pm_H} (hl : 177 ≤ h.1.length) {x1 : Int32} {x2 : Int32} {x3 : Int32} {s0 : Int32} {S S' : rs_S} {v : Int32} (hr : r236_86 x1 x2 x3 s0 S = some (v, S')) : l236_86 (some 145) x1 x2 x3 s0 (some 145) (rs_h S h) = some (.inl (some (.inl v)), rs_h S' h) := by
  unfold r236_86 at hr
  unfold l236_86
  obtain ⟨S1, eS1, hr⟩ := rb_S_s hr
  rw [rs_pI (k := 0) hl (by decide) rfl, Option.bind_some, ← eS1]
  first | rw [rs_fI (k := 0) hl (by decide) rfl, Option.bind_some] | rw [Option.bind_some]
  by_cases c12 : (S1.1 0) ≤ (0 : Int32)
  · rw [if_pos c12] at hr ⊢
    obtain ⟨v2, S3, m4, hr⟩ := rb_s hr
    rw [if_pos (rs_lc hl)]
    rw [rt_241 hl m4, lb_I_r]
    obtain ⟨v5, S6, m7, hr⟩ := rb_s hr
    rw [if_pos (rs_lc hl)]
    rw [rt_246 hl m7, lb_I_r]
    first | rw [rs_fR (k := 8) hl (by decide) rfl, Option.bind_some] | rw [Option.bind_some]
    obtain ⟨S8, qS8, hr⟩ := Option.bind_eq_some_iff.mp hr
    first | rw [rs_wrI (k := 8) hl rfl rfl qS8, Option.bind_some] | rw [Option.bind_some]
    obtain ⟨v9, S10, m11, hr⟩ := rb_s hr
    rw [if_pos (rs_lc hl)]
    rw [rt_247 hl m11, lb_V_r]
    cases hr
    rfl
  · rw [if_neg c12] at hr ⊢
    cases hr
    rfl
set_option maxRecDepth 20000 in
def r236_81 (x1 : Int32) (x2 : Int32) (x3 : Int32) (S : rs_S) : Option (Int32 × rs_S) := r236_86 x1 x2 x3 (3 : Int32) S
set_option maxRecDepth 20000 in
theorem r236_81_t {h : pm_H} (hl : 177 ≤ h.1.length) {x1 : Int32} {x2 : Int32} {x3 : Int32} {S S' : rs_S} {v : Int32} (hr : r236_81 x1 x2 x3 S = some (v, S')) : l236_81 (some 145) x1 x2 x3 (some 145) (rs_h S h) = some (.inl (some (.inl v)), rs_h S' h) := by
  unfold r236_81 at hr
  unfold l236_81
  exact r236_86_t hl hr
set_option maxRecDepth 20000 in
def r236_78 (x1 : Int32) (x2 : Int32) (x3 : Int32) (s0 : Int32) (s1 : Int32) (S : rs_S) : Option (Int32 × rs_S) := if s1 < s0 then r236_86 x1 x2 x3 (0 : Int32) S else r236_81 x1 x2 x3 S
set_option maxRecDepth 20000 in
theorem r236_78_t {h : pm_H} (hl : 177 ≤ h.1.length) {x1 : Int32} {x2 : Int32} {x3 : Int32} {s0 : Int32} {s1 : Int32} {S S' : rs_S} {v : Int32} (hr : r236_78 x1 x2 x3 s0 s1 S = some (v, S')) : l236_78 (some 145) x1 x2 x3 s0 s1 (some 145) (rs_h S h) = some (.inl (some (.inl v)), rs_h S' h) := by
  unfold r236_78 at hr
  unfold l236_78
  by_cases c1 : s1 < s0
  · rw [if_pos c1] at hr ⊢
    exact r236_86_t hl hr
  · rw [if_neg c1] at hr ⊢
    exact r236_81_t hl hr
set_option maxRecDepth 20000 in
def r236_50 (x1 : Int32) (x2 : Int32) (x3 : Int32) (S : rs_S) : Option (Int32 × rs_S) := rb (rf_240 x1 S) fun v1 S2 => if v1 = (0 : Int32) then (rd_I S2 20 (((2 : Int32) * x1) + x2)).bind fun v4 => if x2 = (0 : Int32) then r236_78 x1 x2 x3 (9 : Int32) v4 S2 else r236_78 x1 x2 x3 (5 : Int32) v4 S2 else r236_81 x1 x2 x3 S2
set_option maxRecDepth 20000 in
theorem r236_50_t {h : pm_H} (hl : 177 ≤ h.1.length) {x1 : Int32} {x2 : Int32} {x3 : Int32} {S S' : rs_S} {v : Int32} (hr : r236_50 x1 x2 x3 S = some (v, S')) : l236_50 (some 145) x1 x2 x3 (some 145) (rs_h S h) = some (.inl (some (.inl v)), rs_h S' h) := by
  unfold r236_50 at hr
  unfold l236_50
  obtain ⟨v1, S2, m3, hr⟩ := rb_s hr
  rw [if_pos (rs_lc hl)]
  rw [rt_240 hl m3, lb_I_r]
  by_cases c6 : v1 = (0 : Int32)
  · rw [if_pos c6] at hr ⊢
    first | rw [rs_fR (k := 20) hl (by decide) rfl, Option.bind_some] | rw [Option.bind_some]
    obtain ⟨v4, qv4, hr⟩ := Option.bind_eq_some_iff.mp hr
    first | rw [rs_rdI (k := 20) hl rfl rfl qv4, Option.bind_some] | rw [Option.bind_some]
    by_cases c5 : x2 = (0 : Int32)
    · rw [if_pos c5] at hr ⊢
      exact r236_78_t hl hr
    · rw [if_neg c5] at hr ⊢
      exact r236_78_t hl hr
  · rw [if_neg c6] at hr ⊢
    exact r236_81_t hl hr
set_option maxRecDepth 20000 in
def r236_19 (x1 : Int32) (x2 : Int32) (x3 : Int32) (s0 : Int32) (S : rs_S) : Option (Int32 × rs_S) := if s0 = (0 : Int32) then r236_86 x1 x2 x3 (1 : Int32) S else if x3 = (-1 : Int32) then r236_50 x1 x2 x3 S else rb (rf_239 x1 x2 x3 S) fun v1 S2 => if v1 = (0 : Int32) then r236_86 x1 x2 x3 (2 : Int32) S2 else r236_50 x1 x2 x3 S2
set_option maxRecDepth 20000 in
theorem r236_19_t {h : pm_H} (hl : 177 ≤ h.1.length) {x1 : Int32} {x2 : Int32} {x3 : Int32} {s0 : Int32} {S S' : rs_S} {v : Int32} (hr : r236_19 x1 x2 x3 s0 S = some (v, S')) : l236_19 (some 145) x1 x2 x3 s0 (rs_h S h) = some (.inl (some (.inl v)), rs_h S' h) := by
  unfold r236_19 at hr
  unfold l236_19
  by_cases c6 : s0 = (0 : Int32)
  · rw [if_pos c6] at hr ⊢
    exact r236_86_t hl hr
  · rw [if_neg c6] at hr ⊢
    by_cases c5 : x3 = (-1 : Int32)
    · rw [if_pos c5] at hr ⊢
      exact r236_50_t hl hr
    · rw [if_neg c5] at hr ⊢
      obtain ⟨v1, S2, m3, hr⟩ := rb_s hr
      rw [if_pos (rs_lc hl)]
      rw [rt_239 hl m3, lb_I_r]
      by_cases c4 : v1 = (0 : Int32)
      · rw [if_pos c4] at hr ⊢
        exact r236_86_t hl hr
      · rw [if_neg c4] at hr ⊢
        exact r236_50_t hl hr
set_option maxRecDepth 20000 in
def r236_18 (x1 : Int32) (x2 : Int32) (x3 : Int32) (S : rs_S) : Option (Int32 × rs_S) := r236_19 x1 x2 x3 (0 : Int32) S
set_option maxRecDepth 20000 in
theorem r236_18_t {h : pm_H} (hl : 177 ≤ h.1.length) {x1 : Int32} {x2 : Int32} {x3 : Int32} {S S' : rs_S} {v : Int32} (hr : r236_18 x1 x2 x3 S = some (v, S')) : l236_18 (some 145) x1 x2 x3 (rs_h S h) = some (.inl (some (.inl v)), rs_h S' h) := by
  unfold r236_18 at hr
  unfold l236_18
  exact r236_19_t hl hr
set_option maxRecDepth 20000 in
def rf_236 (a1 : Int32) (a2 : Int32) (a3 : Int32) (S : rs_S) : Option (Int32 × rs_S) := rb (rf_237 a1 S) fun v1 S2 => if v1 = (0 : Int32) then r236_18 a1 a2 a3 S2 else rb (rf_238 a2 S2) fun v4 S5 => if v4 = (0 : Int32) then r236_18 a1 a2 a3 S5 else r236_19 a1 a2 a3 (1 : Int32) S5
set_option maxRecDepth 20000 in
theorem rt_236 {h : pm_H} (hl : 177 ≤ h.1.length) {a1 : Int32} {a2 : Int32} {a3 : Int32} {S S' : rs_S} {v : Int32} (hr : rf_236 a1 a2 a3 S = some (v, S')) : ll_236 (some 145) a1 a2 a3 (rs_h S h) = some (.inl (some (.inl v)), rs_h S' h) := by
  unfold rf_236 at hr
  unfold ll_236
  obtain ⟨v1, S2, m3, hr⟩ := rb_s hr
  rw [rt_237 hl m3, lb_I_r]
  by_cases c8 : v1 = (0 : Int32)
  · rw [if_pos c8] at hr ⊢
    exact r236_18_t hl hr
  · rw [if_neg c8] at hr ⊢
    obtain ⟨v4, S5, m6, hr⟩ := rb_s hr
    rw [rt_238 hl m6, lb_I_r]
    by_cases c7 : v4 = (0 : Int32)
    · rw [if_pos c7] at hr ⊢
      exact r236_18_t hl hr
    · rw [if_neg c7] at hr ⊢
      exact r236_19_t hl hr
-- OfficeSheetModel.move(IIII)V
set_option maxRecDepth 20000 in
def r251_75 (x1 : Int32) (x2 : Int32) (x3 : Int32) (x4 : Int32) (s0 : Int32) (S : rs_S) : Option (Unit × rs_S) := rb_S (rs_setI S 0 s0) fun S1 => if (S1.1 0) ≤ (0 : Int32) then rb (rf_241 x1 x2 x4 S1) fun v2 S3 => rb (rf_241 x1 x2 x3 S3) fun v5 S6 => rb (rf_242 x1 x2 x3 S6) fun v8 S9 => rb (rf_246 x1 (2 : Int32) x2 v8 S9) fun v11 S12 => (wr_I S12 8 v11 v2).bind fun S14 => (wr_I S14 9 v11 v5).bind fun S15 => rb (rf_247 x1 v11 S15) fun _ S17 => some ((), S17) else some ((), S1)
set_option maxRecDepth 20000 in
theorem r251_75_t {h : pm_H} (hl : 177 ≤ h.1.length) {x1 : Int32} {x2 : Int32} {x3 : Int32} {x4 : Int32} {s0 : Int32} {S S' : rs_S} {v : Unit} (hr : r251_75 x1 x2 x3 x4 s0 S = some (v, S')) : l251_75 (some 145) x1 x2 x3 x4 s0 (some 145) (rs_h S h) = some (.inl none, rs_h S' h) := by
  unfold r251_75 at hr
  unfold l251_75
  obtain ⟨S1, eS1, hr⟩ := rb_S_s hr
  rw [rs_pI (k := 0) hl (by decide) rfl, Option.bind_some, ← eS1]
  first | rw [rs_fI (k := 0) hl (by decide) rfl, Option.bind_some] | rw [Option.bind_some]
  by_cases c19 : (S1.1 0) ≤ (0 : Int32)
  · rw [if_pos c19] at hr ⊢
    obtain ⟨v2, S3, m4, hr⟩ := rb_s hr
    rw [if_pos (rs_lc hl)]
    rw [rt_241 hl m4, lb_I_r]
    obtain ⟨v5, S6, m7, hr⟩ := rb_s hr
    rw [if_pos (rs_lc hl)]
    rw [rt_241 hl m7, lb_I_r]
    obtain ⟨v8, S9, m10, hr⟩ := rb_s hr
    rw [if_pos (rs_lc hl)]
    rw [rt_242 hl m10, lb_I_r]
    obtain ⟨v11, S12, m13, hr⟩ := rb_s hr
    rw [if_pos (rs_lc hl)]
    rw [rt_246 hl m13, lb_I_r]
    first | rw [rs_fR (k := 8) hl (by decide) rfl, Option.bind_some] | rw [Option.bind_some]
    obtain ⟨S14, qS14, hr⟩ := Option.bind_eq_some_iff.mp hr
    first | rw [rs_wrI (k := 8) hl rfl rfl qS14, Option.bind_some] | rw [Option.bind_some]
    first | rw [rs_fR (k := 9) hl (by decide) rfl, Option.bind_some] | rw [Option.bind_some]
    obtain ⟨S15, qS15, hr⟩ := Option.bind_eq_some_iff.mp hr
    first | rw [rs_wrI (k := 9) hl rfl rfl qS15, Option.bind_some] | rw [Option.bind_some]
    obtain ⟨v16, S17, m18, hr⟩ := rb_s hr
    rw [if_pos (rs_lc hl)]
    rw [rt_247 hl m18, lb_V_r]
    cases hr
    rfl
  · rw [if_neg c19] at hr ⊢
    cases hr
    rfl
set_option maxRecDepth 20000 in
def r251_58 (x1 : Int32) (x2 : Int32) (x3 : Int32) (x4 : Int32) (S : rs_S) : Option (Unit × rs_S) := r251_75 x1 x2 x3 x4 (2 : Int32) S
set_option maxRecDepth 20000 in
theorem r251_58_t {h : pm_H} (hl : 177 ≤ h.1.length) {x1 : Int32} {x2 : Int32} {x3 : Int32} {x4 : Int32} {S S' : rs_S} {v : Unit} (hr : r251_58 x1 x2 x3 x4 S = some (v, S')) : l251_58 (some 145) x1 x2 x3 x4 (some 145) (rs_h S h) = some (.inl none, rs_h S' h) := by
  unfold r251_58 at hr
  unfold l251_58
  exact r251_75_t hl hr
set_option maxRecDepth 20000 in
def r251_62 (x1 : Int32) (x2 : Int32) (x3 : Int32) (x4 : Int32) (S : rs_S) : Option (Unit × rs_S) := rb (rf_240 x1 S) fun v1 S2 => if v1 = (0 : Int32) then r251_75 x1 x2 x3 x4 (0 : Int32) S2 else r251_75 x1 x2 x3 x4 (3 : Int32) S2
set_option maxRecDepth 20000 in
theorem r251_62_t {h : pm_H} (hl : 177 ≤ h.1.length) {x1 : Int32} {x2 : Int32} {x3 : Int32} {x4 : Int32} {S S' : rs_S} {v : Unit} (hr : r251_62 x1 x2 x3 x4 S = some (v, S')) : l251_62 (some 145) x1 x2 x3 x4 (some 145) (rs_h S h) = some (.inl none, rs_h S' h) := by
  unfold r251_62 at hr
  unfold l251_62
  obtain ⟨v1, S2, m3, hr⟩ := rb_s hr
  rw [if_pos (rs_lc hl)]
  rw [rt_240 hl m3, lb_I_r]
  by_cases c4 : v1 = (0 : Int32)
  · rw [if_pos c4] at hr ⊢
    exact r251_75_t hl hr
  · rw [if_neg c4] at hr ⊢
    exact r251_75_t hl hr
set_option maxRecDepth 20000 in
def r251_19 (x1 : Int32) (x2 : Int32) (x3 : Int32) (x4 : Int32) (s0 : Int32) (S : rs_S) : Option (Unit × rs_S) := if s0 = (0 : Int32) then r251_75 x1 x2 x3 x4 (1 : Int32) S else rb (rf_239 x1 x2 x3 S) fun v1 S2 => if v1 = (0 : Int32) then r251_58 x1 x2 x3 x4 S2 else if x4 = (-1 : Int32) then r251_62 x1 x2 x3 x4 S2 else rb (rf_239 x1 x2 x4 S2) fun v4 S5 => if v4 = (0 : Int32) then r251_58 x1 x2 x3 x4 S5 else r251_62 x1 x2 x3 x4 S5
set_option maxRecDepth 20000 in
theorem r251_19_t {h : pm_H} (hl : 177 ≤ h.1.length) {x1 : Int32} {x2 : Int32} {x3 : Int32} {x4 : Int32} {s0 : Int32} {S S' : rs_S} {v : Unit} (hr : r251_19 x1 x2 x3 x4 s0 S = some (v, S')) : l251_19 (some 145) x1 x2 x3 x4 s0 (rs_h S h) = some (.inl none, rs_h S' h) := by
  unfold r251_19 at hr
  unfold l251_19
  by_cases c10 : s0 = (0 : Int32)
  · rw [if_pos c10] at hr ⊢
    exact r251_75_t hl hr
  · rw [if_neg c10] at hr ⊢
    obtain ⟨v1, S2, m3, hr⟩ := rb_s hr
    rw [if_pos (rs_lc hl)]
    rw [rt_239 hl m3, lb_I_r]
    by_cases c9 : v1 = (0 : Int32)
    · rw [if_pos c9] at hr ⊢
      exact r251_58_t hl hr
    · rw [if_neg c9] at hr ⊢
      by_cases c8 : x4 = (-1 : Int32)
      · rw [if_pos c8] at hr ⊢
        exact r251_62_t hl hr
      · rw [if_neg c8] at hr ⊢
        obtain ⟨v4, S5, m6, hr⟩ := rb_s hr
        rw [if_pos (rs_lc hl)]
        rw [rt_239 hl m6, lb_I_r]
        by_cases c7 : v4 = (0 : Int32)
        · rw [if_pos c7] at hr ⊢
          exact r251_58_t hl hr
        · rw [if_neg c7] at hr ⊢
          exact r251_62_t hl hr
set_option maxRecDepth 20000 in
def r251_18 (x1 : Int32) (x2 : Int32) (x3 : Int32) (x4 : Int32) (S : rs_S) : Option (Unit × rs_S) := r251_19 x1 x2 x3 x4 (0 : Int32) S
set_option maxRecDepth 20000 in
theorem r251_18_t {h : pm_H} (hl : 177 ≤ h.1.length) {x1 : Int32} {x2 : Int32} {x3 : Int32} {x4 : Int32} {S S' : rs_S} {v : Unit} (hr : r251_18 x1 x2 x3 x4 S = some (v, S')) : l251_18 (some 145) x1 x2 x3 x4 (rs_h S h) = some (.inl none, rs_h S' h) := by
  unfold r251_18 at hr
  unfold l251_18
  exact r251_19_t hl hr
set_option maxRecDepth 20000 in
def rf_251 (a1 : Int32) (a2 : Int32) (a3 : Int32) (a4 : Int32) (S : rs_S) : Option (Unit × rs_S) := rb (rf_237 a1 S) fun v1 S2 => if v1 = (0 : Int32) then r251_18 a1 a2 a3 a4 S2 else rb (rf_238 a2 S2) fun v4 S5 => if v4 = (0 : Int32) then r251_18 a1 a2 a3 a4 S5 else r251_19 a1 a2 a3 a4 (1 : Int32) S5
set_option maxRecDepth 20000 in
theorem rt_251 {h : pm_H} (hl : 177 ≤ h.1.length) {a1 : Int32} {a2 : Int32} {a3 : Int32} {a4 : Int32} {S S' : rs_S} {v : Unit} (hr : rf_251 a1 a2 a3 a4 S = some (v, S')) : ll_251 (some 145) a1 a2 a3 a4 (rs_h S h) = some (.inl none, rs_h S' h) := by
  unfold rf_251 at hr
  unfold ll_251
  obtain ⟨v1, S2, m3, hr⟩ := rb_s hr
  rw [rt_237 hl m3, lb_I_r]
  by_cases c8 : v1 = (0 : Int32)
  · rw [if_pos c8] at hr ⊢
    exact r251_18_t hl hr
  · rw [if_neg c8] at hr ⊢
    obtain ⟨v4, S5, m6, hr⟩ := rb_s hr
    rw [rt_238 hl m6, lb_I_r]
    by_cases c7 : v4 = (0 : Int32)
    · rw [if_pos c7] at hr ⊢
      exact r251_18_t hl hr
    · rw [if_neg c7] at hr ⊢
      exact r251_19_t hl hr
-- OfficeSheetModel.remove(III)V
set_option maxRecDepth 20000 in
def r252_58 (x1 : Int32) (x2 : Int32) (x3 : Int32) (s0 : Int32) (S : rs_S) : Option (Unit × rs_S) := rb_S (rs_setI S 0 s0) fun S1 => if (S1.1 0) = (0 : Int32) then rb (rf_242 x1 x2 x3 S1) fun v2 S3 => rb (rf_246 x1 (5 : Int32) x2 v2 S3) fun v5 S6 => rb (rf_247 x1 v5 S6) fun _ S9 => some ((), S9) else some ((), S1)
set_option maxRecDepth 20000 in
theorem r252_58_t {h : pm_H} (hl : 177 ≤ h.1.length) {x1 : Int32} {x2 : Int32} {x3 : Int32} {s0 : Int32} {S S' : rs_S} {v : Unit} (hr : r252_58 x1 x2 x3 s0 S = some (v, S')) : l252_58 (some 145) x1 x2 x3 s0 (some 145) (rs_h S h) = some (.inl none, rs_h S' h) := by
  unfold r252_58 at hr
  unfold l252_58
  obtain ⟨S1, eS1, hr⟩ := rb_S_s hr
  rw [rs_pI (k := 0) hl (by decide) rfl, Option.bind_some, ← eS1]
  first | rw [rs_fI (k := 0) hl (by decide) rfl, Option.bind_some] | rw [Option.bind_some]
  by_cases c11 : (S1.1 0) = (0 : Int32)
  · rw [if_pos c11] at hr ⊢
    obtain ⟨v2, S3, m4, hr⟩ := rb_s hr
    rw [if_pos (rs_lc hl)]
    rw [rt_242 hl m4, lb_I_r]
    obtain ⟨v5, S6, m7, hr⟩ := rb_s hr
    rw [if_pos (rs_lc hl)]
    rw [rt_246 hl m7, lb_I_r]
    obtain ⟨v8, S9, m10, hr⟩ := rb_s hr
    rw [if_pos (rs_lc hl)]
    rw [rt_247 hl m10, lb_V_r]
    cases hr
    rfl
  · rw [if_neg c11] at hr ⊢
    cases hr
    rfl
set_option maxRecDepth 20000 in
def r252_19 (x1 : Int32) (x2 : Int32) (x3 : Int32) (s0 : Int32) (S : rs_S) : Option (Unit × rs_S) := if s0 = (0 : Int32) then r252_58 x1 x2 x3 (1 : Int32) S else rb (rf_239 x1 x2 x3 S) fun v1 S2 => if v1 = (0 : Int32) then r252_58 x1 x2 x3 (2 : Int32) S2 else rb (rf_240 x1 S2) fun v4 S5 => if v4 = (0 : Int32) then r252_58 x1 x2 x3 (0 : Int32) S5 else r252_58 x1 x2 x3 (3 : Int32) S5
set_option maxRecDepth 20000 in
theorem r252_19_t {h : pm_H} (hl : 177 ≤ h.1.length) {x1 : Int32} {x2 : Int32} {x3 : Int32} {s0 : Int32} {S S' : rs_S} {v : Unit} (hr : r252_19 x1 x2 x3 s0 S = some (v, S')) : l252_19 (some 145) x1 x2 x3 s0 (rs_h S h) = some (.inl none, rs_h S' h) := by
  unfold r252_19 at hr
  unfold l252_19
  by_cases c9 : s0 = (0 : Int32)
  · rw [if_pos c9] at hr ⊢
    exact r252_58_t hl hr
  · rw [if_neg c9] at hr ⊢
    obtain ⟨v1, S2, m3, hr⟩ := rb_s hr
    rw [if_pos (rs_lc hl)]
    rw [rt_239 hl m3, lb_I_r]
    by_cases c8 : v1 = (0 : Int32)
    · rw [if_pos c8] at hr ⊢
      exact r252_58_t hl hr
    · rw [if_neg c8] at hr ⊢
      obtain ⟨v4, S5, m6, hr⟩ := rb_s hr
      rw [if_pos (rs_lc hl)]
      rw [rt_240 hl m6, lb_I_r]
      by_cases c7 : v4 = (0 : Int32)
      · rw [if_pos c7] at hr ⊢
        exact r252_58_t hl hr
      · rw [if_neg c7] at hr ⊢
        exact r252_58_t hl hr
set_option maxRecDepth 20000 in
def r252_18 (x1 : Int32) (x2 : Int32) (x3 : Int32) (S : rs_S) : Option (Unit × rs_S) := r252_19 x1 x2 x3 (0 : Int32) S
set_option maxRecDepth 20000 in
theorem r252_18_t {h : pm_H} (hl : 177 ≤ h.1.length) {x1 : Int32} {x2 : Int32} {x3 : Int32} {S S' : rs_S} {v : Unit} (hr : r252_18 x1 x2 x3 S = some (v, S')) : l252_18 (some 145) x1 x2 x3 (rs_h S h) = some (.inl none, rs_h S' h) := by
  unfold r252_18 at hr
  unfold l252_18
  exact r252_19_t hl hr
set_option maxRecDepth 20000 in
def rf_252 (a1 : Int32) (a2 : Int32) (a3 : Int32) (S : rs_S) : Option (Unit × rs_S) := rb (rf_237 a1 S) fun v1 S2 => if v1 = (0 : Int32) then r252_18 a1 a2 a3 S2 else rb (rf_238 a2 S2) fun v4 S5 => if v4 = (0 : Int32) then r252_18 a1 a2 a3 S5 else r252_19 a1 a2 a3 (1 : Int32) S5
set_option maxRecDepth 20000 in
theorem rt_252 {h : pm_H} (hl : 177 ≤ h.1.length) {a1 : Int32} {a2 : Int32} {a3 : Int32} {S S' : rs_S} {v : Unit} (hr : rf_252 a1 a2 a3 S = some (v, S')) : ll_252 (some 145) a1 a2 a3 (rs_h S h) = some (.inl none, rs_h S' h) := by
  unfold rf_252 at hr
  unfold ll_252
  obtain ⟨v1, S2, m3, hr⟩ := rb_s hr
  rw [rt_237 hl m3, lb_I_r]
  by_cases c8 : v1 = (0 : Int32)
  · rw [if_pos c8] at hr ⊢
    exact r252_18_t hl hr
  · rw [if_neg c8] at hr ⊢
    obtain ⟨v4, S5, m6, hr⟩ := rb_s hr
    rw [rt_238 hl m6, lb_I_r]
    by_cases c7 : v4 = (0 : Int32)
    · rw [if_pos c7] at hr ⊢
      exact r252_18_t hl hr
    · rw [if_neg c7] at hr ⊢
      exact r252_19_t hl hr
-- OfficeSheetModel.latestWrite(III)I
set_option maxRecDepth 20000 in
def r255_81 (J6 : Int32 → Int32 → Int32 → Int32 → Int32 → rs_S → Option (Int32 × rs_S)) (x1 : Int32) (x2 : Int32) (x3 : Int32) (x4 : Int32) (x5 : Int32) (S : rs_S) : Option (Int32 × rs_S) := J6 x1 x2 x3 x4 (x5 + (1 : Int32)) S
set_option maxRecDepth 20000 in
theorem r255_81_t {h : pm_H} (hl : 177 ≤ h.1.length) {J6 : Int32 → Int32 → Int32 → Int32 → Int32 → rs_S → Option (Int32 × rs_S)} {K6 : Option Nat → Int32 → Int32 → Int32 → Int32 → Int32 → pm_H → tm_L} (hJ6 : ∀ {x1 : Int32} {x2 : Int32} {x3 : Int32} {x4 : Int32} {x5 : Int32} {S S' : rs_S} {v : Int32}, J6 x1 x2 x3 x4 x5 S = some (v, S') → K6 (some 145) x1 x2 x3 x4 x5 (rs_h S h) = some (.inl (some (.inl v)), rs_h S' h)) {x1 : Int32} {x2 : Int32} {x3 : Int32} {x4 : Int32} {x5 : Int32} {S S' : rs_S} {v : Int32} (hr : r255_81 J6 x1 x2 x3 x4 x5 S = some (v, S')) : l255_81 K6 (some 145) x1 x2 x3 x4 x5 (rs_h S h) = some (.inl (some (.inl v)), rs_h S' h) := by
  unfold r255_81 at hr
  unfold l255_81
  exact hJ6 hr
set_option maxRecDepth 20000 in
def r255_77 (J6 : Int32 → Int32 → Int32 → Int32 → Int32 → rs_S → Option (Int32 × rs_S)) (x1 : Int32) (x2 : Int32) (x3 : Int32) (x5 : Int32) (S : rs_S) : Option (Int32 × rs_S) := r255_81 J6 x1 x2 x3 x5 x5 S
set_option maxRecDepth 20000 in
theorem r255_77_t {h : pm_H} (hl : 177 ≤ h.1.length) {J6 : Int32 → Int32 → Int32 → Int32 → Int32 → rs_S → Option (Int32 × rs_S)} {K6 : Option Nat → Int32 → Int32 → Int32 → Int32 → Int32 → pm_H → tm_L} (hJ6 : ∀ {x1 : Int32} {x2 : Int32} {x3 : Int32} {x4 : Int32} {x5 : Int32} {S S' : rs_S} {v : Int32}, J6 x1 x2 x3 x4 x5 S = some (v, S') → K6 (some 145) x1 x2 x3 x4 x5 (rs_h S h) = some (.inl (some (.inl v)), rs_h S' h)) {x1 : Int32} {x2 : Int32} {x3 : Int32} {x5 : Int32} {S S' : rs_S} {v : Int32} (hr : r255_77 J6 x1 x2 x3 x5 S = some (v, S')) : l255_77 K6 (some 145) x1 x2 x3 x5 (rs_h S h) = some (.inl (some (.inl v)), rs_h S' h) := by
  unfold r255_77 at hr
  unfold l255_77
  exact r255_81_t hl hJ6 hr
set_option maxRecDepth 20000 in
def r255_6 : Nat → Int32 → Int32 → Int32 → Int32 → Int32 → rs_S → Option (Int32 × rs_S)
  | 0 => fun _ _ _ _ _ _ => none
  | n + 1 => fun x1 x2 x3 x4 x5 S => if (120 : Int32) ≤ x5 then some (x4, S) else (rd_I S 1 x5).bind fun v1 => if v1 = (6 : Int32) then rb (rf_244 x1 x5 S) fun v2 S3 => if v2 = (0 : Int32) then r255_81 (r255_6 n) x1 x2 x3 x4 x5 S3 else (rd_I S3 5 x5).bind fun v5 => if v5 = x2 then (rd_I S3 6 x5).bind fun v6 => if v6 = x3 then if x4 < (0 : Int32) then r255_77 (r255_6 n) x1 x2 x3 x5 S3 else rb (rf_245 x5 S3) fun v7 S8 => rb (rf_245 x4 S8) fun v10 S11 => if v7 ≤ v10 then r255_81 (r255_6 n) x1 x2 x3 x4 x5 S11 else r255_77 (r255_6 n) x1 x2 x3 x5 S11 else r255_81 (r255_6 n) x1 x2 x3 x4 x5 S3 else r255_81 (r255_6 n) x1 x2 x3 x4 x5 S3 else r255_81 (r255_6 n) x1 x2 x3 x4 x5 S
set_option maxRecDepth 20000 in
theorem r255_6_t {h : pm_H} (hl : 177 ≤ h.1.length) : ∀ (n : Nat) {x1 : Int32} {x2 : Int32} {x3 : Int32} {x4 : Int32} {x5 : Int32} {S S' : rs_S} {v : Int32}, r255_6 n x1 x2 x3 x4 x5 S = some (v, S') → l255_6 n (some 145) x1 x2 x3 x4 x5 (rs_h S h) = some (.inl (some (.inl v)), rs_h S' h) := by
  intro n
  induction n with
  | zero => intro x1 x2 x3 x4 x5 S S' v hr; cases hr
  | succ n ih =>
    intro x1 x2 x3 x4 x5 S S' v hr
    rw [r255_6] at hr
    rw [l255_6]
    try dsimp only at hr
    try dsimp only
    by_cases c19 : (120 : Int32) ≤ x5
    · rw [if_pos c19] at hr ⊢
      cases hr
      rfl
    · rw [if_neg c19] at hr ⊢
      first | rw [rs_fR (k := 1) hl (by decide) rfl, Option.bind_some] | rw [Option.bind_some]
      obtain ⟨v1, qv1, hr⟩ := Option.bind_eq_some_iff.mp hr
      first | rw [rs_rdI (k := 1) hl rfl rfl qv1, Option.bind_some] | rw [Option.bind_some]
      by_cases c18 : v1 = (6 : Int32)
      · rw [if_pos c18] at hr ⊢
        obtain ⟨v2, S3, m4, hr⟩ := rb_s hr
        rw [if_pos (rs_lc hl)]
        rw [rt_244 hl m4, lb_I_r]
        by_cases c17 : v2 = (0 : Int32)
        · rw [if_pos c17] at hr ⊢
          exact r255_81_t hl (fun hr => ih hr) hr
        · rw [if_neg c17] at hr ⊢
          first | rw [rs_fR (k := 5) hl (by decide) rfl, Option.bind_some] | rw [Option.bind_some]
          obtain ⟨v5, qv5, hr⟩ := Option.bind_eq_some_iff.mp hr
          first | rw [rs_rdI (k := 5) hl rfl rfl qv5, Option.bind_some] | rw [Option.bind_some]
          by_cases c16 : v5 = x2
          · rw [if_pos c16] at hr ⊢
            first | rw [rs_fR (k := 6) hl (by decide) rfl, Option.bind_some] | rw [Option.bind_some]
            obtain ⟨v6, qv6, hr⟩ := Option.bind_eq_some_iff.mp hr
            first | rw [rs_rdI (k := 6) hl rfl rfl qv6, Option.bind_some] | rw [Option.bind_some]
            by_cases c15 : v6 = x3
            · rw [if_pos c15] at hr ⊢
              by_cases c14 : x4 < (0 : Int32)
              · rw [if_pos c14] at hr ⊢
                exact r255_77_t hl (fun hr => ih hr) hr
              · rw [if_neg c14] at hr ⊢
                obtain ⟨v7, S8, m9, hr⟩ := rb_s hr
                rw [if_pos (rs_lc hl)]
                rw [rt_245 hl m9, lb_I_r]
                obtain ⟨v10, S11, m12, hr⟩ := rb_s hr
                rw [if_pos (rs_lc hl)]
                rw [rt_245 hl m12, lb_I_r]
                by_cases c13 : v7 ≤ v10
                · rw [if_pos c13] at hr ⊢
                  exact r255_81_t hl (fun hr => ih hr) hr
                · rw [if_neg c13] at hr ⊢
                  exact r255_77_t hl (fun hr => ih hr) hr
            · rw [if_neg c15] at hr ⊢
              exact r255_81_t hl (fun hr => ih hr) hr
          · rw [if_neg c16] at hr ⊢
            exact r255_81_t hl (fun hr => ih hr) hr
      · rw [if_neg c18] at hr ⊢
        exact r255_81_t hl (fun hr => ih hr) hr
set_option maxRecDepth 20000 in
def rf_255 (a1 : Int32) (a2 : Int32) (a3 : Int32) (S : rs_S) : Option (Int32 × rs_S) := r255_6 lf_N a1 a2 a3 (-1 : Int32) (0 : Int32) S
set_option maxRecDepth 20000 in
theorem rt_255 {h : pm_H} (hl : 177 ≤ h.1.length) {a1 : Int32} {a2 : Int32} {a3 : Int32} {S S' : rs_S} {v : Int32} (hr : rf_255 a1 a2 a3 S = some (v, S')) : ll_255 (some 145) a1 a2 a3 (rs_h S h) = some (.inl (some (.inl v)), rs_h S' h) := by
  unfold rf_255 at hr
  unfold ll_255
  exact r255_6_t hl lf_N hr
-- OfficeSheetModel.takeBack(II)Z
set_option maxRecDepth 20000 in
def r254_204 (x1 : Int32) (x5 : Int32) (S : rs_S) : Option (Int32 × rs_S) := rb (rf_247 x1 x5 S) fun _ S2 => some ((1 : Int32), S2)
set_option maxRecDepth 20000 in
theorem r254_204_t {h : pm_H} (hl : 177 ≤ h.1.length) {x1 : Int32} {x5 : Int32} {S S' : rs_S} {v : Int32} (hr : r254_204 x1 x5 S = some (v, S')) : l254_204 (some 145) x1 x5 (rs_h S h) = some (.inl (some (.inl v)), rs_h S' h) := by
  unfold r254_204 at hr
  unfold l254_204
  obtain ⟨v1, S2, m3, hr⟩ := rb_s hr
  rw [if_pos (rs_lc hl)]
  rw [rt_247 hl m3, lb_V_r]
  cases hr
  rfl
set_option maxRecDepth 20000 in
def r254_178 (x1 : Int32) (x2 : Int32) (x5 : Int32) (S : rs_S) : Option (Int32 × rs_S) := (rd_I S 9 x2).bind fun v1 => (wr_I S 7 x5 v1).bind fun S2 => (rd_I S2 7 x2).bind fun v3 => (wr_I S2 9 x5 v3).bind fun S4 => r254_204 x1 x5 S4
set_option maxRecDepth 20000 in
theorem r254_178_t {h : pm_H} (hl : 177 ≤ h.1.length) {x1 : Int32} {x2 : Int32} {x5 : Int32} {S S' : rs_S} {v : Int32} (hr : r254_178 x1 x2 x5 S = some (v, S')) : l254_178 (some 145) x1 x2 x5 (rs_h S h) = some (.inl (some (.inl v)), rs_h S' h) := by
  unfold r254_178 at hr
  unfold l254_178
  first | rw [rs_fR (k := 7) hl (by decide) rfl, Option.bind_some] | rw [Option.bind_some]
  first | rw [rs_fR (k := 9) hl (by decide) rfl, Option.bind_some] | rw [Option.bind_some]
  obtain ⟨v1, qv1, hr⟩ := Option.bind_eq_some_iff.mp hr
  first | rw [rs_rdI (k := 9) hl rfl rfl qv1, Option.bind_some] | rw [Option.bind_some]
  obtain ⟨S2, qS2, hr⟩ := Option.bind_eq_some_iff.mp hr
  first | rw [rs_wrI (k := 7) hl rfl rfl qS2, Option.bind_some] | rw [Option.bind_some]
  first | rw [rs_fR (k := 9) hl (by decide) rfl, Option.bind_some] | rw [Option.bind_some]
  first | rw [rs_fR (k := 7) hl (by decide) rfl, Option.bind_some] | rw [Option.bind_some]
  obtain ⟨v3, qv3, hr⟩ := Option.bind_eq_some_iff.mp hr
  first | rw [rs_rdI (k := 7) hl rfl rfl qv3, Option.bind_some] | rw [Option.bind_some]
  obtain ⟨S4, qS4, hr⟩ := Option.bind_eq_some_iff.mp hr
  first | rw [rs_wrI (k := 9) hl rfl rfl qS4, Option.bind_some] | rw [Option.bind_some]
  exact r254_204_t hl hr
set_option maxRecDepth 20000 in
def r254_168 (x1 : Int32) (x2 : Int32) (x3 : Int32) (x5 : Int32) (S : rs_S) : Option (Int32 × rs_S) := if x3 = (2 : Int32) then r254_178 x1 x2 x5 S else if x3 = (3 : Int32) then r254_178 x1 x2 x5 S else r254_204 x1 x5 S
set_option maxRecDepth 20000 in
theorem r254_168_t {h : pm_H} (hl : 177 ≤ h.1.length) {x1 : Int32} {x2 : Int32} {x3 : Int32} {x5 : Int32} {S S' : rs_S} {v : Int32} (hr : r254_168 x1 x2 x3 x5 S = some (v, S')) : l254_168 (some 145) x1 x2 x3 x5 (rs_h S h) = some (.inl (some (.inl v)), rs_h S' h) := by
  unfold r254_168 at hr
  unfold l254_168
  by_cases c2 : x3 = (2 : Int32)
  · rw [if_pos c2] at hr ⊢
    exact r254_178_t hl hr
  · rw [if_neg c2] at hr ⊢
    by_cases c1 : x3 = (3 : Int32)
    · rw [if_pos c1] at hr ⊢
      exact r254_178_t hl hr
    · rw [if_neg c1] at hr ⊢
      exact r254_204_t hl hr
set_option maxRecDepth 20000 in
def r254_106 (x1 : Int32) (x2 : Int32) (x3 : Int32) (s0 : Int32) (s1 : Int32) (S : rs_S) : Option (Int32 × rs_S) := (rd_I S 2 x2).bind fun v1 => (rd_I S 5 x2).bind fun v2 => rb (rf_246 s1 s0 v1 v2 S) fun v3 S4 => if x3 = (6 : Int32) then (rd_I S4 6 x2).bind fun v6 => (wr_I S4 6 v3 v6).bind fun S7 => (rd_I S7 11 x2).bind fun v8 => (wr_I S7 10 v3 v8).bind fun S9 => (rd_I S9 10 x2).bind fun v10 => (wr_I S9 11 v3 v10).bind fun S11 => r254_168 x1 x2 x3 v3 S11 else r254_168 x1 x2 x3 v3 S4
set_option maxRecDepth 20000 in
theorem r254_106_t {h : pm_H} (hl : 177 ≤ h.1.length) {x1 : Int32} {x2 : Int32} {x3 : Int32} {s0 : Int32} {s1 : Int32} {S S' : rs_S} {v : Int32} (hr : r254_106 x1 x2 x3 s0 s1 S = some (v, S')) : l254_106 (some 145) x1 x2 x3 s0 s1 (some 145) (rs_h S h) = some (.inl (some (.inl v)), rs_h S' h) := by
  unfold r254_106 at hr
  unfold l254_106
  first | rw [rs_fR (k := 2) hl (by decide) rfl, Option.bind_some] | rw [Option.bind_some]
  obtain ⟨v1, qv1, hr⟩ := Option.bind_eq_some_iff.mp hr
  first | rw [rs_rdI (k := 2) hl rfl rfl qv1, Option.bind_some] | rw [Option.bind_some]
  first | rw [rs_fR (k := 5) hl (by decide) rfl, Option.bind_some] | rw [Option.bind_some]
  obtain ⟨v2, qv2, hr⟩ := Option.bind_eq_some_iff.mp hr
  first | rw [rs_rdI (k := 5) hl rfl rfl qv2, Option.bind_some] | rw [Option.bind_some]
  obtain ⟨v3, S4, m5, hr⟩ := rb_s hr
  rw [if_pos (rs_lc hl)]
  rw [rt_246 hl m5, lb_I_r]
  by_cases c12 : x3 = (6 : Int32)
  · rw [if_pos c12] at hr ⊢
    first | rw [rs_fR (k := 6) hl (by decide) rfl, Option.bind_some] | rw [Option.bind_some]
    first | rw [rs_fR (k := 6) hl (by decide) rfl, Option.bind_some] | rw [Option.bind_some]
    obtain ⟨v6, qv6, hr⟩ := Option.bind_eq_some_iff.mp hr
    first | rw [rs_rdI (k := 6) hl rfl rfl qv6, Option.bind_some] | rw [Option.bind_some]
    obtain ⟨S7, qS7, hr⟩ := Option.bind_eq_some_iff.mp hr
    first | rw [rs_wrI (k := 6) hl rfl rfl qS7, Option.bind_some] | rw [Option.bind_some]
    first | rw [rs_fR (k := 10) hl (by decide) rfl, Option.bind_some] | rw [Option.bind_some]
    first | rw [rs_fR (k := 11) hl (by decide) rfl, Option.bind_some] | rw [Option.bind_some]
    obtain ⟨v8, qv8, hr⟩ := Option.bind_eq_some_iff.mp hr
    first | rw [rs_rdI (k := 11) hl rfl rfl qv8, Option.bind_some] | rw [Option.bind_some]
    obtain ⟨S9, qS9, hr⟩ := Option.bind_eq_some_iff.mp hr
    first | rw [rs_wrI (k := 10) hl rfl rfl qS9, Option.bind_some] | rw [Option.bind_some]
    first | rw [rs_fR (k := 11) hl (by decide) rfl, Option.bind_some] | rw [Option.bind_some]
    first | rw [rs_fR (k := 10) hl (by decide) rfl, Option.bind_some] | rw [Option.bind_some]
    obtain ⟨v10, qv10, hr⟩ := Option.bind_eq_some_iff.mp hr
    first | rw [rs_rdI (k := 10) hl rfl rfl qv10, Option.bind_some] | rw [Option.bind_some]
    obtain ⟨S11, qS11, hr⟩ := Option.bind_eq_some_iff.mp hr
    first | rw [rs_wrI (k := 11) hl rfl rfl qS11, Option.bind_some] | rw [Option.bind_some]
    exact r254_168_t hl hr
  · rw [if_neg c12] at hr ⊢
    exact r254_168_t hl hr
set_option maxRecDepth 20000 in
def r254_92 (x1 : Int32) (x2 : Int32) (x3 : Int32) (s0 : Int32) (S : rs_S) : Option (Int32 × rs_S) := r254_106 x1 x2 x3 (3 : Int32) s0 S
set_option maxRecDepth 20000 in
theorem r254_92_t {h : pm_H} (hl : 177 ≤ h.1.length) {x1 : Int32} {x2 : Int32} {x3 : Int32} {s0 : Int32} {S S' : rs_S} {v : Int32} (hr : r254_92 x1 x2 x3 s0 S = some (v, S')) : l254_92 (some 145) x1 x2 x3 s0 (some 145) (rs_h S h) = some (.inl (some (.inl v)), rs_h S' h) := by
  unfold r254_92 at hr
  unfold l254_92
  exact r254_106_t hl hr
set_option maxRecDepth 20000 in
def r254_59 (x1 : Int32) (x2 : Int32) (x3 : Int32) (s0 : Int32) (S : rs_S) : Option (Int32 × rs_S) := if s0 = x2 then if x3 = (6 : Int32) then r254_106 x1 x2 x3 (6 : Int32) x1 S else if x3 = (2 : Int32) then r254_92 x1 x2 x3 x1 S else if x3 = (3 : Int32) then r254_92 x1 x2 x3 x1 S else if x3 = (5 : Int32) then r254_106 x1 x2 x3 (4 : Int32) x1 S else r254_106 x1 x2 x3 (5 : Int32) x1 S else some ((0 : Int32), S)
set_option maxRecDepth 20000 in
theorem r254_59_t {h : pm_H} (hl : 177 ≤ h.1.length) {x1 : Int32} {x2 : Int32} {x3 : Int32} {s0 : Int32} {S S' : rs_S} {v : Int32} (hr : r254_59 x1 x2 x3 s0 S = some (v, S')) : l254_59 (some 145) x1 x2 x3 s0 (rs_h S h) = some (.inl (some (.inl v)), rs_h S' h) := by
  unfold r254_59 at hr
  unfold l254_59
  by_cases c5 : s0 = x2
  · rw [if_pos c5] at hr ⊢
    by_cases c4 : x3 = (6 : Int32)
    · rw [if_pos c4] at hr ⊢
      exact r254_106_t hl hr
    · rw [if_neg c4] at hr ⊢
      by_cases c3 : x3 = (2 : Int32)
      · rw [if_pos c3] at hr ⊢
        exact r254_92_t hl hr
      · rw [if_neg c3] at hr ⊢
        by_cases c2 : x3 = (3 : Int32)
        · rw [if_pos c2] at hr ⊢
          exact r254_92_t hl hr
        · rw [if_neg c2] at hr ⊢
          by_cases c1 : x3 = (5 : Int32)
          · rw [if_pos c1] at hr ⊢
            exact r254_106_t hl hr
          · rw [if_neg c1] at hr ⊢
            exact r254_106_t hl hr
  · rw [if_neg c5] at hr ⊢
    cases hr
    rfl
set_option maxRecDepth 20000 in
def r254_56 (x1 : Int32) (x2 : Int32) (x3 : Int32) (s0 : Int32) (s1 : Int32) (s2 : Int32) (S : rs_S) : Option (Int32 × rs_S) := rb (rf_243 s2 s1 s0 S) fun v1 S2 => r254_59 x1 x2 x3 v1 S2
set_option maxRecDepth 20000 in
theorem r254_56_t {h : pm_H} (hl : 177 ≤ h.1.length) {x1 : Int32} {x2 : Int32} {x3 : Int32} {s0 : Int32} {s1 : Int32} {s2 : Int32} {S S' : rs_S} {v : Int32} (hr : r254_56 x1 x2 x3 s0 s1 s2 S = some (v, S')) : l254_56 (some 145) x1 x2 x3 s0 s1 s2 (some 145) (rs_h S h) = some (.inl (some (.inl v)), rs_h S' h) := by
  unfold r254_56 at hr
  unfold l254_56
  obtain ⟨v1, S2, m3, hr⟩ := rb_s hr
  rw [if_pos (rs_lc hl)]
  rw [rt_243 hl m3, lb_I_r]
  exact r254_59_t hl hr
set_option maxRecDepth 20000 in
def r254_51 (x1 : Int32) (x2 : Int32) (x3 : Int32) (s0 : Int32) (s1 : Int32) (S : rs_S) : Option (Int32 × rs_S) := r254_56 x1 x2 x3 (1 : Int32) s0 s1 S
set_option maxRecDepth 20000 in
theorem r254_51_t {h : pm_H} (hl : 177 ≤ h.1.length) {x1 : Int32} {x2 : Int32} {x3 : Int32} {s0 : Int32} {s1 : Int32} {S S' : rs_S} {v : Int32} (hr : r254_51 x1 x2 x3 s0 s1 S = some (v, S')) : l254_51 (some 145) x1 x2 x3 s0 s1 (some 145) (rs_h S h) = some (.inl (some (.inl v)), rs_h S' h) := by
  unfold r254_51 at hr
  unfold l254_51
  exact r254_56_t hl hr
set_option maxRecDepth 20000 in
def rf_254 (a1 : Int32) (a2 : Int32) (S : rs_S) : Option (Int32 × rs_S) := (rd_I S 1 a2).bind fun v1 => if v1 = (6 : Int32) then (rd_I S 5 a2).bind fun v2 => (rd_I S 6 a2).bind fun v3 => rb (rf_255 a1 v2 v3 S) fun v4 S5 => r254_59 a1 a2 v1 v4 S5 else (rd_I S 5 a2).bind fun v7 => if v1 = (2 : Int32) then r254_51 a1 a2 v1 v7 a1 S else if v1 = (3 : Int32) then r254_51 a1 a2 v1 v7 a1 S else r254_56 a1 a2 v1 (0 : Int32) v7 a1 S
set_option maxRecDepth 20000 in
theorem rt_254 {h : pm_H} (hl : 177 ≤ h.1.length) {a1 : Int32} {a2 : Int32} {S S' : rs_S} {v : Int32} (hr : rf_254 a1 a2 S = some (v, S')) : ll_254 (some 145) a1 a2 (rs_h S h) = some (.inl (some (.inl v)), rs_h S' h) := by
  unfold rf_254 at hr
  unfold ll_254
  first | rw [rs_fR (k := 1) hl (by decide) rfl, Option.bind_some] | rw [Option.bind_some]
  obtain ⟨v1, qv1, hr⟩ := Option.bind_eq_some_iff.mp hr
  first | rw [rs_rdI (k := 1) hl rfl rfl qv1, Option.bind_some] | rw [Option.bind_some]
  by_cases c10 : v1 = (6 : Int32)
  · rw [if_pos c10] at hr ⊢
    first | rw [rs_fR (k := 5) hl (by decide) rfl, Option.bind_some] | rw [Option.bind_some]
    obtain ⟨v2, qv2, hr⟩ := Option.bind_eq_some_iff.mp hr
    first | rw [rs_rdI (k := 5) hl rfl rfl qv2, Option.bind_some] | rw [Option.bind_some]
    first | rw [rs_fR (k := 6) hl (by decide) rfl, Option.bind_some] | rw [Option.bind_some]
    obtain ⟨v3, qv3, hr⟩ := Option.bind_eq_some_iff.mp hr
    first | rw [rs_rdI (k := 6) hl rfl rfl qv3, Option.bind_some] | rw [Option.bind_some]
    obtain ⟨v4, S5, m6, hr⟩ := rb_s hr
    rw [if_pos (rs_lc hl)]
    rw [rt_255 hl m6, lb_I_r]
    exact r254_59_t hl hr
  · rw [if_neg c10] at hr ⊢
    first | rw [rs_fR (k := 5) hl (by decide) rfl, Option.bind_some] | rw [Option.bind_some]
    obtain ⟨v7, qv7, hr⟩ := Option.bind_eq_some_iff.mp hr
    first | rw [rs_rdI (k := 5) hl rfl rfl qv7, Option.bind_some] | rw [Option.bind_some]
    by_cases c9 : v1 = (2 : Int32)
    · rw [if_pos c9] at hr ⊢
      exact r254_51_t hl hr
    · rw [if_neg c9] at hr ⊢
      by_cases c8 : v1 = (3 : Int32)
      · rw [if_pos c8] at hr ⊢
        exact r254_51_t hl hr
      · rw [if_neg c8] at hr ⊢
        exact r254_56_t hl hr
