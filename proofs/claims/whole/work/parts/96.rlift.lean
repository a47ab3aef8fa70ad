/-! of the reference: 303, 304, 307, 306, 308, 309, 310, 312, 311, 305, 302, 313 -/
-- OfficeSheetModel.say(I)V
set_option maxRecDepth 20000 in
def rf_303 (a1 : Int32) (S : rs_S) : Option (Unit × rs_S) := (wr_I S 40 (S.1 39) a1).bind fun S1 => rb_S (rs_setI S1 39 ((S1.1 39) + (1 : Int32))) fun S2 => some ((), S2)
set_option maxRecDepth 20000 in
theorem rt_303 {h : pm_H} (hl : 177 ≤ h.1.length) {a1 : Int32} {S S' : rs_S} {v : Unit} (hr : rf_303 a1 S = some (v, S')) : ll_303 (some 145) a1 (rs_h S h) = some (.inl none, rs_h S' h) := by
  unfold rf_303 at hr
  unfold ll_303
  first | rw [rs_fR (k := 40) hl (by decide) rfl, Option.bind_some] | rw [Option.bind_some]
  first | rw [rs_fI (k := 39) hl (by decide) rfl, Option.bind_some] | rw [Option.bind_some]
  obtain ⟨S1, qS1, hr⟩ := Option.bind_eq_some_iff.mp hr
  first | rw [rs_wrI (k := 40) hl rfl rfl qS1, Option.bind_some] | rw [Option.bind_some]
  first | rw [rs_fI (k := 39) hl (by decide) rfl, Option.bind_some] | rw [Option.bind_some]
  obtain ⟨S2, eS2, hr⟩ := rb_S_s hr
  rw [rs_pI (k := 39) hl (by decide) rfl, Option.bind_some, ← eS2]
  cases hr
  rfl
-- OfficeSheetModel.plan(I)V
set_option maxRecDepth 20000 in
def rf_304 (a1 : Int32) (S : rs_S) : Option (Unit × rs_S) := (wr_I S 42 (S.1 43) a1).bind fun S1 => rb_S (rs_setI S1 43 ((S1.1 43) + (1 : Int32))) fun S2 => some ((), S2)
set_option maxRecDepth 20000 in
theorem rt_304 {h : pm_H} (hl : 177 ≤ h.1.length) {a1 : Int32} {S S' : rs_S} {v : Unit} (hr : rf_304 a1 S = some (v, S')) : ll_304 (some 145) a1 (rs_h S h) = some (.inl none, rs_h S' h) := by
  unfold rf_304 at hr
  unfold ll_304
  first | rw [rs_fR (k := 42) hl (by decide) rfl, Option.bind_some] | rw [Option.bind_some]
  first | rw [rs_fI (k := 43) hl (by decide) rfl, Option.bind_some] | rw [Option.bind_some]
  obtain ⟨S1, qS1, hr⟩ := Option.bind_eq_some_iff.mp hr
  first | rw [rs_wrI (k := 42) hl rfl rfl qS1, Option.bind_some] | rw [Option.bind_some]
  first | rw [rs_fI (k := 43) hl (by decide) rfl, Option.bind_some] | rw [Option.bind_some]
  obtain ⟨S2, eS2, hr⟩ := rb_S_s hr
  rw [rs_pI (k := 43) hl (by decide) rfl, Option.bind_some, ← eS2]
  cases hr
  rfl
-- OfficeSheetModel.sayWhole(I)V
set_option maxRecDepth 20000 in
def r307_18 : Nat → Int32 → Int32 → rs_S → Option (Unit × rs_S)
  | 0 => fun _ _ _ => none
  | n + 1 => fun x1 x2 S => if x2 ≤ (0 : Int32) then some ((), S) else if x2 = 0 then none else rb (rf_303 ((48 : Int32) + ((x1 / x2) - (x1 / x2) / (10 : Int32) * (10 : Int32))) S) fun _ S3 => r307_18 n x1 (x2 / (10 : Int32)) S3
set_option maxRecDepth 20000 in
theorem r307_18_t {h : pm_H} (hl : 177 ≤ h.1.length) : ∀ (n : Nat) {x1 : Int32} {x2 : Int32} {S S' : rs_S} {v : Unit}, r307_18 n x1 x2 S = some (v, S') → l307_18 n (some 145) x1 x2 (rs_h S h) = some (.inl none, rs_h S' h) := by
  intro n
  induction n with
  | zero => intro x1 x2 S S' v hr; cases hr
  | succ n ih =>
    intro x1 x2 S S' v hr
    rw [r307_18] at hr
    rw [l307_18]
    try dsimp only at hr
    try dsimp only
    by_cases c5 : x2 ≤ (0 : Int32)
    · rw [if_pos c5] at hr ⊢
      cases hr
      rfl
    · rw [if_neg c5] at hr ⊢
      by_cases c1 : x2 = 0
      · rw [if_pos c1] at hr
        cases hr
      · rw [if_neg c1] at hr ⊢
        obtain ⟨v2, S3, m4, hr⟩ := rb_s hr
        rw [if_pos (rs_lc hl)]
        rw [rt_303 hl m4, lb_V_r]
        exact ih hr
set_option maxRecDepth 20000 in
def r307_2 : Nat → Int32 → Int32 → rs_S → Option (Unit × rs_S)
  | 0 => fun _ _ _ => none
  | n + 1 => fun x1 x2 S => if x2 = 0 then none else if (x1 / x2) ≤ (9 : Int32) then r307_18 lf_N x1 x2 S else r307_2 n x1 (x2 * (10 : Int32)) S
set_option maxRecDepth 20000 in
theorem r307_2_t {h : pm_H} (hl : 177 ≤ h.1.length) : ∀ (n : Nat) {x1 : Int32} {x2 : Int32} {S S' : rs_S} {v : Unit}, r307_2 n x1 x2 S = some (v, S') → l307_2 n (some 145) x1 x2 (rs_h S h) = some (.inl none, rs_h S' h) := by
  intro n
  induction n with
  | zero => intro x1 x2 S S' v hr; cases hr
  | succ n ih =>
    intro x1 x2 S S' v hr
    rw [r307_2] at hr
    rw [l307_2]
    try dsimp only at hr
    try dsimp only
    by_cases c1 : x2 = 0
    · rw [if_pos c1] at hr
      cases hr
    · rw [if_neg c1] at hr ⊢
      by_cases c2 : (x1 / x2) ≤ (9 : Int32)
      · rw [if_pos c2] at hr ⊢
        exact r307_18_t hl lf_N hr
      · rw [if_neg c2] at hr ⊢
        exact ih hr
set_option maxRecDepth 20000 in
def rf_307 (a1 : Int32) (S : rs_S) : Option (Unit × rs_S) := r307_2 lf_N a1 (1 : Int32) S
set_option maxRecDepth 20000 in
theorem rt_307 {h : pm_H} (hl : 177 ≤ h.1.length) {a1 : Int32} {S S' : rs_S} {v : Unit} (hr : rf_307 a1 S = some (v, S')) : ll_307 (some 145) a1 (rs_h S h) = some (.inl none, rs_h S' h) := by
  unfold rf_307 at hr
  unfold ll_307
  exact r307_2_t hl lf_N hr
-- OfficeSheetModel.sayNumber(I)V
set_option maxRecDepth 20000 in
def r306_46 : Nat → Int32 → rs_S → Option (Unit × rs_S)
  | 0 => fun _ _ => none
  | n + 1 => fun x3 S => if x3 ≤ (0 : Int32) then some ((), S) else rb (rf_303 ((48 : Int32) + (x3 / (1000 : Int32))) S) fun _ S2 => r306_46 n ((x3 - x3 / (1000 : Int32) * (1000 : Int32)) * (10 : Int32)) S2
set_option maxRecDepth 20000 in
theorem r306_46_t {h : pm_H} (hl : 177 ≤ h.1.length) : ∀ (n : Nat) {x3 : Int32} {S S' : rs_S} {v : Unit}, r306_46 n x3 S = some (v, S') → l306_46 n (some 145) x3 (rs_h S h) = some (.inl none, rs_h S' h) := by
  intro n
  induction n with
  | zero => intro x3 S S' v hr; cases hr
  | succ n ih =>
    intro x3 S S' v hr
    rw [r306_46] at hr
    rw [l306_46]
    try dsimp only at hr
    try dsimp only
    by_cases c4 : x3 ≤ (0 : Int32)
    · rw [if_pos c4] at hr ⊢
      cases hr
      rfl
    · rw [if_neg c4] at hr ⊢
      obtain ⟨v1, S2, m3, hr⟩ := rb_s hr
      rw [if_pos (rs_lc hl)]
      rw [rt_303 hl m3, lb_V_r]
      exact ih hr
set_option maxRecDepth 20000 in
def r306_21 (x2 : Int32) (S : rs_S) : Option (Unit × rs_S) := rb (rf_307 (x2 / (10000 : Int32)) S) fun _ S2 => if (x2 - x2 / (10000 : Int32) * (10000 : Int32)) ≤ (0 : Int32) then r306_46 lf_N (x2 - x2 / (10000 : Int32) * (10000 : Int32)) S2 else rb (rf_303 (46 : Int32) S2) fun _ S5 => r306_46 lf_N (x2 - x2 / (10000 : Int32) * (10000 : Int32)) S5
set_option maxRecDepth 20000 in
theorem r306_21_t {h : pm_H} (hl : 177 ≤ h.1.length) {x2 : Int32} {S S' : rs_S} {v : Unit} (hr : r306_21 x2 S = some (v, S')) : l306_21 (some 145) x2 (rs_h S h) = some (.inl none, rs_h S' h) := by
  unfold r306_21 at hr
  unfold l306_21
  obtain ⟨v1, S2, m3, hr⟩ := rb_s hr
  rw [if_pos (rs_lc hl)]
  rw [rt_307 hl m3, lb_V_r]
  by_cases c7 : (x2 - x2 / (10000 : Int32) * (10000 : Int32)) ≤ (0 : Int32)
  · rw [if_pos c7] at hr ⊢
    exact r306_46_t hl lf_N hr
  · rw [if_neg c7] at hr ⊢
    obtain ⟨v4, S5, m6, hr⟩ := rb_s hr
    rw [if_pos (rs_lc hl)]
    rw [rt_303 hl m6, lb_V_r]
    exact r306_46_t hl lf_N hr
set_option maxRecDepth 20000 in
def r306_10 (x1 : Int32) (s0 : Int32) (S : rs_S) : Option (Unit × rs_S) := if (0 : Int32) ≤ x1 then r306_21 s0 S else rb (rf_303 (45 : Int32) S) fun _ S2 => r306_21 s0 S2
set_option maxRecDepth 20000 in
theorem r306_10_t {h : pm_H} (hl : 177 ≤ h.1.length) {x1 : Int32} {s0 : Int32} {S S' : rs_S} {v : Unit} (hr : r306_10 x1 s0 S = some (v, S')) : l306_10 (some 145) x1 s0 (rs_h S h) = some (.inl none, rs_h S' h) := by
  unfold r306_10 at hr
  unfold l306_10
  by_cases c4 : (0 : Int32) ≤ x1
  · rw [if_pos c4] at hr ⊢
    exact r306_21_t hl hr
  · rw [if_neg c4] at hr ⊢
    obtain ⟨v1, S2, m3, hr⟩ := rb_s hr
    rw [if_pos (rs_lc hl)]
    rw [rt_303 hl m3, lb_V_r]
    exact r306_21_t hl hr
set_option maxRecDepth 20000 in
def rf_306 (a1 : Int32) (S : rs_S) : Option (Unit × rs_S) := if (0 : Int32) ≤ a1 then r306_10 a1 a1 S else r306_10 a1 (-a1) S
set_option maxRecDepth 20000 in
theorem rt_306 {h : pm_H} (hl : 177 ≤ h.1.length) {a1 : Int32} {S S' : rs_S} {v : Unit} (hr : rf_306 a1 S = some (v, S')) : ll_306 (some 145) a1 (rs_h S h) = some (.inl none, rs_h S' h) := by
  unfold rf_306 at hr
  unfold ll_306
  by_cases c1 : (0 : Int32) ≤ a1
  · rw [if_pos c1] at hr ⊢
    exact r306_10_t hl hr
  · rw [if_neg c1] at hr ⊢
    exact r306_10_t hl hr
-- OfficeSheetModel.canName(II)Z
set_option maxRecDepth 20000 in
def rf_308 (a1 : Int32) (a2 : Int32) (S : rs_S) : Option (Int32 × rs_S) := rb (rf_287 a1 a2 S) fun v1 S2 => if v1 = (0 : Int32) then some ((0 : Int32), S2) else rb (rf_288 a1 (1 : Int32) (a2 / (128 : Int32)) S2) fun v4 S5 => if (26 : Int32) ≤ v4 then some ((0 : Int32), S5) else some ((1 : Int32), S5)
set_option maxRecDepth 20000 in
theorem rt_308 {h : pm_H} (hl : 177 ≤ h.1.length) {a1 : Int32} {a2 : Int32} {S S' : rs_S} {v : Int32} (hr : rf_308 a1 a2 S = some (v, S')) : ll_308 (some 145) a1 a2 (rs_h S h) = some (.inl (some (.inl v)), rs_h S' h) := by
  unfold rf_308 at hr
  unfold ll_308
  obtain ⟨v1, S2, m3, hr⟩ := rb_s hr
  rw [if_pos (rs_lc hl)]
  rw [rt_287 hl m3, lb_I_r]
  by_cases c8 : v1 = (0 : Int32)
  · rw [if_pos c8] at hr ⊢
    cases hr
    rfl
  · rw [if_neg c8] at hr ⊢
    obtain ⟨v4, S5, m6, hr⟩ := rb_s hr
    rw [if_pos (rs_lc hl)]
    rw [rt_288 hl m6, lb_I_r]
    by_cases c7 : (26 : Int32) ≤ v4
    · rw [if_pos c7] at hr ⊢
      cases hr
      rfl
    · rw [if_neg c7] at hr ⊢
      cases hr
      rfl
-- OfficeSheetModel.sayName(II)V
set_option maxRecDepth 20000 in
def rf_309 (a1 : Int32) (a2 : Int32) (S : rs_S) : Option (Unit × rs_S) := rb (rf_288 a1 (1 : Int32) (a2 / (128 : Int32)) S) fun v1 S2 => rb (rf_303 ((65 : Int32) + v1) S2) fun _ S5 => rb (rf_288 a1 (0 : Int32) (a2 - a2 / (128 : Int32) * (128 : Int32)) S5) fun v7 S8 => rb (rf_307 (v7 + (1 : Int32)) S8) fun _ S11 => some ((), S11)
set_option maxRecDepth 20000 in
theorem rt_309 {h : pm_H} (hl : 177 ≤ h.1.length) {a1 : Int32} {a2 : Int32} {S S' : rs_S} {v : Unit} (hr : rf_309 a1 a2 S = some (v, S')) : ll_309 (some 145) a1 a2 (rs_h S h) = some (.inl none, rs_h S' h) := by
  unfold rf_309 at hr
  unfold ll_309
  obtain ⟨v1, S2, m3, hr⟩ := rb_s hr
  rw [if_pos (rs_lc hl)]
  rw [rt_288 hl m3, lb_I_r]
  obtain ⟨v4, S5, m6, hr⟩ := rb_s hr
  rw [if_pos (rs_lc hl)]
  rw [rt_303 hl m6, lb_V_r]
  obtain ⟨v7, S8, m9, hr⟩ := rb_s hr
  rw [if_pos (rs_lc hl)]
  rw [rt_288 hl m9, lb_I_r]
  obtain ⟨v10, S11, m12, hr⟩ := rb_s hr
  rw [if_pos (rs_lc hl)]
  rw [rt_307 hl m12, lb_V_r]
  cases hr
  rfl
-- OfficeSheetModel.sayBlock(III)V
set_option maxRecDepth 20000 in
def r310_72 (S : rs_S) : Option (Unit × rs_S) := rb (rf_303 (41 : Int32) S) fun _ S2 => some ((), S2)
set_option maxRecDepth 20000 in
theorem r310_72_t {h : pm_H} (hl : 177 ≤ h.1.length) {S S' : rs_S} {v : Unit} (hr : r310_72  S = some (v, S')) : l310_72 (some 145) (rs_h S h) = some (.inl none, rs_h S' h) := by
  unfold r310_72 at hr
  unfold l310_72
  obtain ⟨v1, S2, m3, hr⟩ := rb_s hr
  rw [if_pos (rs_lc hl)]
  rw [rt_303 hl m3, lb_V_r]
  cases hr
  rfl
set_option maxRecDepth 20000 in
def r310_66 (S : rs_S) : Option (Unit × rs_S) := rb (rf_303 (35 : Int32) S) fun _ S2 => r310_72 S2
set_option maxRecDepth 20000 in
theorem r310_66_t {h : pm_H} (hl : 177 ≤ h.1.length) {S S' : rs_S} {v : Unit} (hr : r310_66  S = some (v, S')) : l310_66 (some 145) (rs_h S h) = some (.inl none, rs_h S' h) := by
  unfold r310_66 at hr
  unfold l310_66
  obtain ⟨v1, S2, m3, hr⟩ := rb_s hr
  rw [if_pos (rs_lc hl)]
  rw [rt_303 hl m3, lb_V_r]
  exact r310_72_t hl hr
set_option maxRecDepth 20000 in
def rf_310 (a1 : Int32) (a2 : Int32) (a3 : Int32) (S : rs_S) : Option (Unit × rs_S) := rb (rf_303 a2 S) fun _ S2 => rb (rf_303 (40 : Int32) S2) fun _ S5 => rb (rf_308 a1 (a3 - a3 / (16384 : Int32) * (16384 : Int32)) S5) fun v7 S8 => if v7 = (0 : Int32) then r310_66 S8 else rb (rf_308 a1 (a3 / (16384 : Int32)) S8) fun v10 S11 => if v10 = (0 : Int32) then r310_66 S11 else rb (rf_309 a1 (a3 - a3 / (16384 : Int32) * (16384 : Int32)) S11) fun _ S14 => rb (rf_303 (58 : Int32) S14) fun _ S17 => rb (rf_309 a1 (a3 / (16384 : Int32)) S17) fun _ S20 => r310_72 S20
set_option maxRecDepth 20000 in
theorem rt_310 {h : pm_H} (hl : 177 ≤ h.1.length) {a1 : Int32} {a2 : Int32} {a3 : Int32} {S S' : rs_S} {v : Unit} (hr : rf_310 a1 a2 a3 S = some (v, S')) : ll_310 (some 145) a1 a2 a3 (rs_h S h) = some (.inl none, rs_h S' h) := by
  unfold rf_310 at hr
  unfold ll_310
  obtain ⟨v1, S2, m3, hr⟩ := rb_s hr
  rw [if_pos (rs_lc hl)]
  rw [rt_303 hl m3, lb_V_r]
  obtain ⟨v4, S5, m6, hr⟩ := rb_s hr
  rw [if_pos (rs_lc hl)]
  rw [rt_303 hl m6, lb_V_r]
  obtain ⟨v7, S8, m9, hr⟩ := rb_s hr
  rw [if_pos (rs_lc hl)]
  rw [rt_308 hl m9, lb_I_r]
  by_cases c23 : v7 = (0 : Int32)
  · rw [if_pos c23] at hr ⊢
    exact r310_66_t hl hr
  · rw [if_neg c23] at hr ⊢
    obtain ⟨v10, S11, m12, hr⟩ := rb_s hr
    rw [if_pos (rs_lc hl)]
    rw [rt_308 hl m12, lb_I_r]
    by_cases c22 : v10 = (0 : Int32)
    · rw [if_pos c22] at hr ⊢
      exact r310_66_t hl hr
    · rw [if_neg c22] at hr ⊢
      obtain ⟨v13, S14, m15, hr⟩ := rb_s hr
      rw [if_pos (rs_lc hl)]
      rw [rt_309 hl m15, lb_V_r]
      obtain ⟨v16, S17, m18, hr⟩ := rb_s hr
      rw [if_pos (rs_lc hl)]
      rw [rt_303 hl m18, lb_V_r]
      obtain ⟨v19, S20, m21, hr⟩ := rb_s hr
      rw [if_pos (rs_lc hl)]
      rw [rt_309 hl m21, lb_V_r]
      exact r310_72_t hl hr
-- OfficeSheetModel.planPart(IZ)V
set_option maxRecDepth 20000 in
def r312_10 (x1 : Int32) (x2 : Int32) (S : rs_S) : Option (Unit × rs_S) := rb (rf_304 x1 S) fun _ S2 => if x2 = (0 : Int32) then some ((), S2) else rb (rf_304 (-40 : Int32) S2) fun _ S5 => some ((), S5)
set_option maxRecDepth 20000 in
theorem r312_10_t {h : pm_H} (hl : 177 ≤ h.1.length) {x1 : Int32} {x2 : Int32} {S S' : rs_S} {v : Unit} (hr : r312_10 x1 x2 S = some (v, S')) : l312_10 (some 145) x1 x2 (rs_h S h) = some (.inl none, rs_h S' h) := by
  unfold r312_10 at hr
  unfold l312_10
  obtain ⟨v1, S2, m3, hr⟩ := rb_s hr
  rw [if_pos (rs_lc hl)]
  rw [rt_304 hl m3, lb_V_r]
  by_cases c7 : x2 = (0 : Int32)
  · rw [if_pos c7] at hr ⊢
    cases hr
    rfl
  · rw [if_neg c7] at hr ⊢
    obtain ⟨v4, S5, m6, hr⟩ := rb_s hr
    rw [if_pos (rs_lc hl)]
    rw [rt_304 hl m6, lb_V_r]
    cases hr
    rfl
set_option maxRecDepth 20000 in
def rf_312 (a1 : Int32) (a2 : Int32) (S : rs_S) : Option (Unit × rs_S) := if a2 = (0 : Int32) then r312_10 a1 a2 S else rb (rf_304 (-41 : Int32) S) fun _ S2 => r312_10 a1 a2 S2
set_option maxRecDepth 20000 in
theorem rt_312 {h : pm_H} (hl : 177 ≤ h.1.length) {a1 : Int32} {a2 : Int32} {S S' : rs_S} {v : Unit} (hr : rf_312 a1 a2 S = some (v, S')) : ll_312 (some 145) a1 a2 (rs_h S h) = some (.inl none, rs_h S' h) := by
  unfold rf_312 at hr
  unfold ll_312
  by_cases c4 : a2 = (0 : Int32)
  · rw [if_pos c4] at hr ⊢
    exact r312_10_t hl hr
  · rw [if_neg c4] at hr ⊢
    obtain ⟨v1, S2, m3, hr⟩ := rb_s hr
    rw [if_pos (rs_lc hl)]
    rw [rt_304 hl m3, lb_V_r]
    exact r312_10_t hl hr
-- OfficeSheetModel.saySign(III)V
set_option maxRecDepth 20000 in
def r311_51 (s0 : Int32) (s1 : Int32) (S : rs_S) : Option (Unit × rs_S) := rb (rf_312 s1 s0 S) fun _ S2 => some ((), S2)
set_option maxRecDepth 20000 in
theorem r311_51_t {h : pm_H} (hl : 177 ≤ h.1.length) {s0 : Int32} {s1 : Int32} {S S' : rs_S} {v : Unit} (hr : r311_51 s0 s1 S = some (v, S')) : l311_51 s0 s1 (some 145) (rs_h S h) = some (.inl none, rs_h S' h) := by
  unfold r311_51 at hr
  unfold l311_51
  obtain ⟨v1, S2, m3, hr⟩ := rb_s hr
  rw [if_pos (rs_lc hl)]
  rw [rt_312 hl m3, lb_V_r]
  cases hr
  rfl
set_option maxRecDepth 20000 in
def r311_46 (s0 : Int32) (S : rs_S) : Option (Unit × rs_S) := r311_51 (1 : Int32) s0 S
set_option maxRecDepth 20000 in
theorem r311_46_t {h : pm_H} (hl : 177 ≤ h.1.length) {s0 : Int32} {S S' : rs_S} {v : Unit} (hr : r311_46 s0 S = some (v, S')) : l311_46 s0 (some 145) (rs_h S h) = some (.inl none, rs_h S' h) := by
  unfold r311_46 at hr
  unfold l311_46
  exact r311_51_t hl hr
set_option maxRecDepth 20000 in
def r311_155 (s0 : Int32) (s1 : Int32) (S : rs_S) : Option (Unit × rs_S) := rb (rf_312 s1 s0 S) fun _ S2 => some ((), S2)
set_option maxRecDepth 20000 in
theorem r311_155_t {h : pm_H} (hl : 177 ≤ h.1.length) {s0 : Int32} {s1 : Int32} {S S' : rs_S} {v : Unit} (hr : r311_155 s0 s1 S = some (v, S')) : l311_155 s0 s1 (some 145) (rs_h S h) = some (.inl none, rs_h S' h) := by
  unfold r311_155 at hr
  unfold l311_155
  obtain ⟨v1, S2, m3, hr⟩ := rb_s hr
  rw [if_pos (rs_lc hl)]
  rw [rt_312 hl m3, lb_V_r]
  cases hr
  rfl
set_option maxRecDepth 20000 in
def r311_154 (s0 : Int32) (S : rs_S) : Option (Unit × rs_S) := r311_155 (0 : Int32) s0 S
set_option maxRecDepth 20000 in
theorem r311_154_t {h : pm_H} (hl : 177 ≤ h.1.length) {s0 : Int32} {S S' : rs_S} {v : Unit} (hr : r311_154 s0 S = some (v, S')) : l311_154 s0 (some 145) (rs_h S h) = some (.inl none, rs_h S' h) := by
  unfold r311_154 at hr
  unfold l311_154
  exact r311_155_t hl hr
set_option maxRecDepth 20000 in
def r311_127 (x3 : Int32) (x5 : Int32) (x6 : Int32) (x7 : Int32) (s0 : Int32) (s1 : Int32) (S : rs_S) : Option (Unit × rs_S) := rb (rf_312 s1 s0 S) fun _ S2 => rb (rf_304 (-x3) S2) fun _ S5 => if x6 = (1 : Int32) then if x7 = (0 : Int32) then r311_155 (1 : Int32) x5 S5 else r311_154 x5 S5 else r311_154 x5 S5
set_option maxRecDepth 20000 in
theorem r311_127_t {h : pm_H} (hl : 177 ≤ h.1.length) {x3 : Int32} {x5 : Int32} {x6 : Int32} {x7 : Int32} {s0 : Int32} {s1 : Int32} {S S' : rs_S} {v : Unit} (hr : r311_127 x3 x5 x6 x7 s0 s1 S = some (v, S')) : l311_127 (some 145) x3 x5 x6 x7 s0 s1 (some 145) (rs_h S h) = some (.inl none, rs_h S' h) := by
  unfold r311_127 at hr
  unfold l311_127
  obtain ⟨v1, S2, m3, hr⟩ := rb_s hr
  rw [if_pos (rs_lc hl)]
  rw [rt_312 hl m3, lb_V_r]
  obtain ⟨v4, S5, m6, hr⟩ := rb_s hr
  rw [if_pos (rs_lc hl)]
  rw [rt_304 hl m6, lb_V_r]
  by_cases c8 : x6 = (1 : Int32)
  · rw [if_pos c8] at hr ⊢
    by_cases c7 : x7 = (0 : Int32)
    · rw [if_pos c7] at hr ⊢
      exact r311_155_t hl hr
    · rw [if_neg c7] at hr ⊢
      exact r311_154_t hl hr
  · rw [if_neg c8] at hr ⊢
    exact r311_154_t hl hr
set_option maxRecDepth 20000 in
def r311_122 (x3 : Int32) (x5 : Int32) (x6 : Int32) (x7 : Int32) (s0 : Int32) (S : rs_S) : Option (Unit × rs_S) := r311_127 x3 x5 x6 x7 (1 : Int32) s0 S
set_option maxRecDepth 20000 in
theorem r311_122_t {h : pm_H} (hl : 177 ≤ h.1.length) {x3 : Int32} {x5 : Int32} {x6 : Int32} {x7 : Int32} {s0 : Int32} {S S' : rs_S} {v : Unit} (hr : r311_122 x3 x5 x6 x7 s0 S = some (v, S')) : l311_122 (some 145) x3 x5 x6 x7 s0 (some 145) (rs_h S h) = some (.inl none, rs_h S' h) := by
  unfold r311_122 at hr
  unfold l311_122
  exact r311_127_t hl hr
set_option maxRecDepth 20000 in
def r311_126 (x3 : Int32) (x5 : Int32) (x6 : Int32) (x7 : Int32) (s0 : Int32) (S : rs_S) : Option (Unit × rs_S) := r311_127 x3 x5 x6 x7 (0 : Int32) s0 S
set_option maxRecDepth 20000 in
theorem r311_126_t {h : pm_H} (hl : 177 ≤ h.1.length) {x3 : Int32} {x5 : Int32} {x6 : Int32} {x7 : Int32} {s0 : Int32} {S S' : rs_S} {v : Unit} (hr : r311_126 x3 x5 x6 x7 s0 S = some (v, S')) : l311_126 (some 145) x3 x5 x6 x7 s0 (some 145) (rs_h S h) = some (.inl none, rs_h S' h) := by
  unfold r311_126 at hr
  unfold l311_126
  exact r311_127_t hl hr
set_option maxRecDepth 20000 in
def r311_99 (x2 : Int32) (x3 : Int32) (x4 : Int32) (x5 : Int32) (x6 : Int32) (s0 : Int32) (S : rs_S) : Option (Unit × rs_S) := if x4 = (1 : Int32) then r311_122 x3 x5 x6 s0 (x2 - (1 : Int32)) S else if x4 = (2 : Int32) then if s0 = (0 : Int32) then r311_122 x3 x5 x6 s0 (x2 - (1 : Int32)) S else r311_126 x3 x5 x6 s0 (x2 - (1 : Int32)) S else r311_126 x3 x5 x6 s0 (x2 - (1 : Int32)) S
set_option maxRecDepth 20000 in
theorem r311_99_t {h : pm_H} (hl : 177 ≤ h.1.length) {x2 : Int32} {x3 : Int32} {x4 : Int32} {x5 : Int32} {x6 : Int32} {s0 : Int32} {S S' : rs_S} {v : Unit} (hr : r311_99 x2 x3 x4 x5 x6 s0 S = some (v, S')) : l311_99 (some 145) x2 x3 x4 x5 x6 s0 (rs_h S h) = some (.inl none, rs_h S' h) := by
  unfold r311_99 at hr
  unfold l311_99
  by_cases c3 : x4 = (1 : Int32)
  · rw [if_pos c3] at hr ⊢
    exact r311_122_t hl hr
  · rw [if_neg c3] at hr ⊢
    by_cases c2 : x4 = (2 : Int32)
    · rw [if_pos c2] at hr ⊢
      by_cases c1 : s0 = (0 : Int32)
      · rw [if_pos c1] at hr ⊢
        exact r311_122_t hl hr
      · rw [if_neg c1] at hr ⊢
        exact r311_126_t hl hr
    · rw [if_neg c2] at hr ⊢
      exact r311_126_t hl hr
set_option maxRecDepth 20000 in
def rf_311 (a1 : Int32) (a2 : Int32) (a3 : Int32) (S : rs_S) : Option (Unit × rs_S) := (rd_I S 14 ((((20 : Int32) * a1) + a2) - (1 : Int32))).bind fun v1 => rb (rf_277 v1 S) fun v2 S3 => if a3 = (126 : Int32) then rb (rf_303 (45 : Int32) S3) fun _ S6 => if v2 = (1 : Int32) then r311_46 (a2 - (1 : Int32)) S6 else if v2 = (2 : Int32) then r311_46 (a2 - (1 : Int32)) S6 else r311_51 (0 : Int32) (a2 - (1 : Int32)) S6 else (rd_I S3 41 (a2 - (1 : Int32))).bind fun v10 => (rd_I S3 14 (((20 : Int32) * a1) + ((a2 - (1 : Int32)) - v10))).bind fun v11 => rb (rf_277 v11 S3) fun v12 S13 => rb (rf_277 a3 S13) fun v15 S16 => if v15 = (1 : Int32) then r311_99 a2 a3 v2 ((a2 - (1 : Int32)) - v10) v12 (1 : Int32) S16 else r311_99 a2 a3 v2 ((a2 - (1 : Int32)) - v10) v12 (0 : Int32) S16
set_option maxRecDepth 20000 in
theorem rt_311 {h : pm_H} (hl : 177 ≤ h.1.length) {a1 : Int32} {a2 : Int32} {a3 : Int32} {S S' : rs_S} {v : Unit} (hr : rf_311 a1 a2 a3 S = some (v, S')) : ll_311 (some 145) a1 a2 a3 (rs_h S h) = some (.inl none, rs_h S' h) := by
  unfold rf_311 at hr
  unfold ll_311
  first | rw [rs_fR (k := 14) hl (by decide) rfl, Option.bind_some] | rw [Option.bind_some]
  obtain ⟨v1, qv1, hr⟩ := Option.bind_eq_some_iff.mp hr
  first | rw [rs_rdI (k := 14) hl rfl rfl qv1, Option.bind_some] | rw [Option.bind_some]
  obtain ⟨v2, S3, m4, hr⟩ := rb_s hr
  rw [rt_277 hl m4, lb_I_r]
  by_cases c19 : a3 = (126 : Int32)
  · rw [if_pos c19] at hr ⊢
    obtain ⟨v5, S6, m7, hr⟩ := rb_s hr
    rw [if_pos (rs_lc hl)]
    rw [rt_303 hl m7, lb_V_r]
    by_cases c9 : v2 = (1 : Int32)
    · rw [if_pos c9] at hr ⊢
      exact r311_46_t hl hr
    · rw [if_neg c9] at hr ⊢
      by_cases c8 : v2 = (2 : Int32)
      · rw [if_pos c8] at hr ⊢
        exact r311_46_t hl hr
      · rw [if_neg c8] at hr ⊢
        exact r311_51_t hl hr
  · rw [if_neg c19] at hr ⊢
    first | rw [rs_fR (k := 41) hl (by decide) rfl, Option.bind_some] | rw [Option.bind_some]
    obtain ⟨v10, qv10, hr⟩ := Option.bind_eq_some_iff.mp hr
    first | rw [rs_rdI (k := 41) hl rfl rfl qv10, Option.bind_some] | rw [Option.bind_some]
    first | rw [rs_fR (k := 14) hl (by decide) rfl, Option.bind_some] | rw [Option.bind_some]
    obtain ⟨v11, qv11, hr⟩ := Option.bind_eq_some_iff.mp hr
    first | rw [rs_rdI (k := 14) hl rfl rfl qv11, Option.bind_some] | rw [Option.bind_some]
    obtain ⟨v12, S13, m14, hr⟩ := rb_s hr
    rw [rt_277 hl m14, lb_I_r]
    obtain ⟨v15, S16, m17, hr⟩ := rb_s hr
    rw [rt_277 hl m17, lb_I_r]
    by_cases c18 : v15 = (1 : Int32)
    · rw [if_pos c18] at hr ⊢
      exact r311_99_t hl hr
    · rw [if_neg c18] at hr ⊢
      exact r311_99_t hl hr
-- OfficeSheetModel.sayPart(III)V
set_option maxRecDepth 20000 in
def rf_305 (a1 : Int32) (a2 : Int32) (a3 : Int32) (S : rs_S) : Option (Unit × rs_S) := (rd_I S 14 (((20 : Int32) * a2) + a3)).bind fun v1 => (rd_I S 15 (((20 : Int32) * a2) + a3)).bind fun v2 => if v1 = (97 : Int32) then rb (rf_306 v2 S) fun _ S4 => some ((), S4) else if v1 = (114 : Int32) then rb (rf_308 a1 v2 S) fun v6 S7 => if v6 = (0 : Int32) then rb (rf_303 (35 : Int32) S7) fun _ S10 => some ((), S10) else rb (rf_309 a1 v2 S7) fun _ S13 => some ((), S13) else rb (rf_289 v1 S) fun v16 S17 => if v16 = (0 : Int32) then rb (rf_311 a2 a3 v1 S17) fun _ S20 => some ((), S20) else rb (rf_310 a1 v1 v2 S17) fun _ S23 => some ((), S23)
set_option maxRecDepth 20000 in
theorem rt_305 {h : pm_H} (hl : 177 ≤ h.1.length) {a1 : Int32} {a2 : Int32} {a3 : Int32} {S S' : rs_S} {v : Unit} (hr : rf_305 a1 a2 a3 S = some (v, S')) : ll_305 (some 145) a1 a2 a3 (rs_h S h) = some (.inl none, rs_h S' h) := by
  unfold rf_305 at hr
  unfold ll_305
  first | rw [rs_fR (k := 14) hl (by decide) rfl, Option.bind_some] | rw [Option.bind_some]
  obtain ⟨v1, qv1, hr⟩ := Option.bind_eq_some_iff.mp hr
  first | rw [rs_rdI (k := 14) hl rfl rfl qv1, Option.bind_some] | rw [Option.bind_some]
  first | rw [rs_fR (k := 15) hl (by decide) rfl, Option.bind_some] | rw [Option.bind_some]
  obtain ⟨v2, qv2, hr⟩ := Option.bind_eq_some_iff.mp hr
  first | rw [rs_rdI (k := 15) hl rfl rfl qv2, Option.bind_some] | rw [Option.bind_some]
  by_cases c27 : v1 = (97 : Int32)
  · rw [if_pos c27] at hr ⊢
    obtain ⟨v3, S4, m5, hr⟩ := rb_s hr
    rw [if_pos (rs_lc hl)]
    rw [rt_306 hl m5, lb_V_r]
    cases hr
    rfl
  · rw [if_neg c27] at hr ⊢
    by_cases c26 : v1 = (114 : Int32)
    · rw [if_pos c26] at hr ⊢
      obtain ⟨v6, S7, m8, hr⟩ := rb_s hr
      rw [if_pos (rs_lc hl)]
      rw [rt_308 hl m8, lb_I_r]
      by_cases c15 : v6 = (0 : Int32)
      · rw [if_pos c15] at hr ⊢
        obtain ⟨v9, S10, m11, hr⟩ := rb_s hr
        rw [if_pos (rs_lc hl)]
        rw [rt_303 hl m11, lb_V_r]
        cases hr
        rfl
      · rw [if_neg c15] at hr ⊢
        obtain ⟨v12, S13, m14, hr⟩ := rb_s hr
        rw [if_pos (rs_lc hl)]
        rw [rt_309 hl m14, lb_V_r]
        cases hr
        rfl
    · rw [if_neg c26] at hr ⊢
      obtain ⟨v16, S17, m18, hr⟩ := rb_s hr
      rw [rt_289 hl m18, lb_I_r]
      by_cases c25 : v16 = (0 : Int32)
      · rw [if_pos c25] at hr ⊢
        obtain ⟨v19, S20, m21, hr⟩ := rb_s hr
        rw [if_pos (rs_lc hl)]
        rw [rt_311 hl m21, lb_V_r]
        cases hr
        rfl
      · rw [if_neg c25] at hr ⊢
        obtain ⟨v22, S23, m24, hr⟩ := rb_s hr
        rw [if_pos (rs_lc hl)]
        rw [rt_310 hl m24, lb_V_r]
        cases hr
        rfl
-- OfficeSheetModel.print(III)I
set_option maxRecDepth 20000 in
def r302_239 (J187 : Int32 → Int32 → rs_S → Option (Int32 × rs_S)) (x1 : Int32) (x5 : Int32) (S : rs_S) : Option (Int32 × rs_S) := J187 x1 x5 S
set_option maxRecDepth 20000 in
theorem r302_239_t {h : pm_H} (hl : 177 ≤ h.1.length) {J187 : Int32 → Int32 → rs_S → Option (Int32 × rs_S)} {K187 : Option Nat → Int32 → Int32 → pm_H → tm_L} (hJ187 : ∀ {x1 : Int32} {x5 : Int32} {S S' : rs_S} {v : Int32}, J187 x1 x5 S = some (v, S') → K187 (some 145) x1 x5 (rs_h S h) = some (.inl (some (.inl v)), rs_h S' h)) {x1 : Int32} {x5 : Int32} {S S' : rs_S} {v : Int32} (hr : r302_239 J187 x1 x5 S = some (v, S')) : l302_239 K187 (some 145) x1 x5 (rs_h S h) = some (.inl (some (.inl v)), rs_h S' h) := by
  unfold r302_239 at hr
  unfold l302_239
  exact hJ187 hr
set_option maxRecDepth 20000 in
def r302_187 : Nat → Int32 → Int32 → rs_S → Option (Int32 × rs_S)
  | 0 => fun _ _ _ => none
  | n + 1 => fun x1 x5 S => if (S.1 43) ≤ (0 : Int32) then some ((S.1 39), S) else rb_S (rs_setI S 43 ((S.1 43) - (1 : Int32))) fun S1 => (rd_I S1 42 (S1.1 43)).bind fun v2 => if (0 : Int32) ≤ v2 then rb (rf_305 x1 x5 v2 S1) fun _ S4 => r302_239 (r302_187 n) x1 x5 S4 else rb (rf_303 (-v2) S1) fun _ S7 => r302_239 (r302_187 n) x1 x5 S7
set_option maxRecDepth 20000 in
theorem r302_187_t {h : pm_H} (hl : 177 ≤ h.1.length) : ∀ (n : Nat) {x1 : Int32} {x5 : Int32} {S S' : rs_S} {v : Int32}, r302_187 n x1 x5 S = some (v, S') → l302_187 n (some 145) x1 x5 (rs_h S h) = some (.inl (some (.inl v)), rs_h S' h) := by
  intro n
  induction n with
  | zero => intro x1 x5 S S' v hr; cases hr
  | succ n ih =>
    intro x1 x5 S S' v hr
    rw [r302_187] at hr
    rw [l302_187]
    try dsimp only at hr
    try dsimp only
    first | rw [rs_fI (k := 43) hl (by decide) rfl, Option.bind_some] | rw [Option.bind_some]
    by_cases c10 : (S.1 43) ≤ (0 : Int32)
    · rw [if_pos c10] at hr ⊢
      first | rw [rs_fI (k := 39) hl (by decide) rfl, Option.bind_some] | rw [Option.bind_some]
      cases hr
      rfl
    · rw [if_neg c10] at hr ⊢
      first | rw [rs_fI (k := 43) hl (by decide) rfl, Option.bind_some] | rw [Option.bind_some]
      obtain ⟨S1, eS1, hr⟩ := rb_S_s hr
      rw [rs_pI (k := 43) hl (by decide) rfl, Option.bind_some, ← eS1]
      first | rw [rs_fR (k := 42) hl (by decide) rfl, Option.bind_some] | rw [Option.bind_some]
      first | rw [rs_fI (k := 43) hl (by decide) rfl, Option.bind_some] | rw [Option.bind_some]
      obtain ⟨v2, qv2, hr⟩ := Option.bind_eq_some_iff.mp hr
      first | rw [rs_rdI (k := 42) hl rfl rfl qv2, Option.bind_some] | rw [Option.bind_some]
      by_cases c9 : (0 : Int32) ≤ v2
      · rw [if_pos c9] at hr ⊢
        obtain ⟨v3, S4, m5, hr⟩ := rb_s hr
        rw [if_pos (rs_lc hl)]
        rw [rt_305 hl m5, lb_V_r]
        exact r302_239_t hl (fun hr => ih hr) hr
      · rw [if_neg c9] at hr ⊢
        obtain ⟨v6, S7, m8, hr⟩ := rb_s hr
        rw [if_pos (rs_lc hl)]
        rw [rt_303 hl m8, lb_V_r]
        exact r302_239_t hl (fun hr => ih hr) hr
set_option maxRecDepth 20000 in
def r302_147 (J66 : Int32 → Int32 → Int32 → rs_S → Option (Int32 × rs_S)) (x1 : Int32) (x5 : Int32) (x6 : Int32) (x8 : Int32) (s0 : Int32) (S : rs_S) : Option (Int32 × rs_S) := (wr_I S 41 x6 (((1 : Int32) + x8) + s0)).bind fun S1 => J66 x1 x5 (x6 + (1 : Int32)) S1
set_option maxRecDepth 20000 in
theorem r302_147_t {h : pm_H} (hl : 177 ≤ h.1.length) {J66 : Int32 → Int32 → Int32 → rs_S → Option (Int32 × rs_S)} {K66 : Option Nat → Int32 → Int32 → Int32 → pm_H → tm_L} (hJ66 : ∀ {x1 : Int32} {x5 : Int32} {x6 : Int32} {S S' : rs_S} {v : Int32}, J66 x1 x5 x6 S = some (v, S') → K66 (some 145) x1 x5 x6 (rs_h S h) = some (.inl (some (.inl v)), rs_h S' h)) {x1 : Int32} {x5 : Int32} {x6 : Int32} {x8 : Int32} {s0 : Int32} {S S' : rs_S} {v : Int32} (hr : r302_147 J66 x1 x5 x6 x8 s0 S = some (v, S')) : l302_147 K66 (some 145) x1 x5 x6 x8 s0 (rs_h S h) = some (.inl (some (.inl v)), rs_h S' h) := by
  unfold r302_147 at hr
  unfold l302_147
  first | rw [rs_fR (k := 41) hl (by decide) rfl, Option.bind_some] | rw [Option.bind_some]
  obtain ⟨S1, qS1, hr⟩ := Option.bind_eq_some_iff.mp hr
  first | rw [rs_wrI (k := 41) hl rfl rfl qS1, Option.bind_some] | rw [Option.bind_some]
  exact hJ66 hr
set_option maxRecDepth 20000 in
def r302_131 (J66 : Int32 → Int32 → Int32 → rs_S → Option (Int32 × rs_S)) (x1 : Int32) (x5 : Int32) (x6 : Int32) (x8 : Int32) (S : rs_S) : Option (Int32 × rs_S) := r302_147 J66 x1 x5 x6 x8 (0 : Int32) S
set_option maxRecDepth 20000 in
theorem r302_131_t {h : pm_H} (hl : 177 ≤ h.1.length) {J66 : Int32 → Int32 → Int32 → rs_S → Option (Int32 × rs_S)} {K66 : Option Nat → Int32 → Int32 → Int32 → pm_H → tm_L} (hJ66 : ∀ {x1 : Int32} {x5 : Int32} {x6 : Int32} {S S' : rs_S} {v : Int32}, J66 x1 x5 x6 S = some (v, S') → K66 (some 145) x1 x5 x6 (rs_h S h) = some (.inl (some (.inl v)), rs_h S' h)) {x1 : Int32} {x5 : Int32} {x6 : Int32} {x8 : Int32} {S S' : rs_S} {v : Int32} (hr : r302_131 J66 x1 x5 x6 x8 S = some (v, S')) : l302_131 K66 (some 145) x1 x5 x6 x8 (rs_h S h) = some (.inl (some (.inl v)), rs_h S' h) := by
  unfold r302_131 at hr
  unfold l302_131
  exact r302_147_t hl hJ66 hr
set_option maxRecDepth 20000 in
def r302_114 (J66 : Int32 → Int32 → Int32 → rs_S → Option (Int32 × rs_S)) (x1 : Int32) (x5 : Int32) (x6 : Int32) (x7 : Int32) (s0 : Int32) (S : rs_S) : Option (Int32 × rs_S) := rb (rf_277 x7 S) fun v1 S2 => if v1 = (0 : Int32) then r302_131 J66 x1 x5 x6 s0 S2 else if x7 = (126 : Int32) then r302_131 J66 x1 x5 x6 s0 S2 else (rd_I S2 41 ((x6 - (1 : Int32)) - s0)).bind fun v4 => r302_147 J66 x1 x5 x6 s0 v4 S2
set_option maxRecDepth 20000 in
theorem r302_114_t {h : pm_H} (hl : 177 ≤ h.1.length) {J66 : Int32 → Int32 → Int32 → rs_S → Option (Int32 × rs_S)} {K66 : Option Nat → Int32 → Int32 → Int32 → pm_H → tm_L} (hJ66 : ∀ {x1 : Int32} {x5 : Int32} {x6 : Int32} {S S' : rs_S} {v : Int32}, J66 x1 x5 x6 S = some (v, S') → K66 (some 145) x1 x5 x6 (rs_h S h) = some (.inl (some (.inl v)), rs_h S' h)) {x1 : Int32} {x5 : Int32} {x6 : Int32} {x7 : Int32} {s0 : Int32} {S S' : rs_S} {v : Int32} (hr : r302_114 J66 x1 x5 x6 x7 s0 S = some (v, S')) : l302_114 K66 (some 145) x1 x5 x6 x7 s0 (rs_h S h) = some (.inl (some (.inl v)), rs_h S' h) := by
  unfold r302_114 at hr
  unfold l302_114
  obtain ⟨v1, S2, m3, hr⟩ := rb_s hr
  rw [rt_277 hl m3, lb_I_r]
  by_cases c6 : v1 = (0 : Int32)
  · rw [if_pos c6] at hr ⊢
    exact r302_131_t hl hJ66 hr
  · rw [if_neg c6] at hr ⊢
    by_cases c5 : x7 = (126 : Int32)
    · rw [if_pos c5] at hr ⊢
      exact r302_131_t hl hJ66 hr
    · rw [if_neg c5] at hr ⊢
      first | rw [rs_fR (k := 41) hl (by decide) rfl, Option.bind_some] | rw [Option.bind_some]
      obtain ⟨v4, qv4, hr⟩ := Option.bind_eq_some_iff.mp hr
      first | rw [rs_rdI (k := 41) hl rfl rfl qv4, Option.bind_some] | rw [Option.bind_some]
      exact r302_147_t hl hJ66 hr
set_option maxRecDepth 20000 in
def r302_66 : Nat → Int32 → Int32 → Int32 → rs_S → Option (Int32 × rs_S)
  | 0 => fun _ _ _ _ => none
  | n + 1 => fun x1 x5 x6 S => (rd_I S 13 x5).bind fun v1 => if v1 ≤ x6 then rb_S (rs_setI S 43 (0 : Int32)) fun S2 => (rd_I S2 13 x5).bind fun v3 => rb (rf_304 (v3 - (1 : Int32)) S2) fun _ S5 => r302_187 lf_N x1 x5 S5 else (rd_I S 14 (((20 : Int32) * x5) + x6)).bind fun v7 => rb (rf_277 v7 S) fun v8 S9 => if v8 = (0 : Int32) then r302_114 (r302_66 n) x1 x5 x6 v7 (0 : Int32) S9 else (rd_I S9 41 (x6 - (1 : Int32))).bind fun v11 => r302_114 (r302_66 n) x1 x5 x6 v7 v11 S9
set_option maxRecDepth 20000 in
theorem r302_66_t {h : pm_H} (hl : 177 ≤ h.1.length) : ∀ (n : Nat) {x1 : Int32} {x5 : Int32} {x6 : Int32} {S S' : rs_S} {v : Int32}, r302_66 n x1 x5 x6 S = some (v, S') → l302_66 n (some 145) x1 x5 x6 (rs_h S h) = some (.inl (some (.inl v)), rs_h S' h) := by
  intro n
  induction n with
  | zero => intro x1 x5 x6 S S' v hr; cases hr
  | succ n ih =>
    intro x1 x5 x6 S S' v hr
    rw [r302_66] at hr
    rw [l302_66]
    try dsimp only at hr
    try dsimp only
    first | rw [rs_fR (k := 13) hl (by decide) rfl, Option.bind_some] | rw [Option.bind_some]
    obtain ⟨v1, qv1, hr⟩ := Option.bind_eq_some_iff.mp hr
    first | rw [rs_rdI (k := 13) hl rfl rfl qv1, Option.bind_some] | rw [Option.bind_some]
    by_cases c13 : v1 ≤ x6
    · rw [if_pos c13] at hr ⊢
      obtain ⟨S2, eS2, hr⟩ := rb_S_s hr
      rw [rs_pI (k := 43) hl (by decide) rfl, Option.bind_some, ← eS2]
      first | rw [rs_fR (k := 13) hl (by decide) rfl, Option.bind_some] | rw [Option.bind_some]
      obtain ⟨v3, qv3, hr⟩ := Option.bind_eq_some_iff.mp hr
      first | rw [rs_rdI (k := 13) hl rfl rfl qv3, Option.bind_some] | rw [Option.bind_some]
      obtain ⟨v4, S5, m6, hr⟩ := rb_s hr
      rw [if_pos (rs_lc hl)]
      rw [rt_304 hl m6, lb_V_r]
      exact r302_187_t hl lf_N hr
    · rw [if_neg c13] at hr ⊢
      first | rw [rs_fR (k := 14) hl (by decide) rfl, Option.bind_some] | rw [Option.bind_some]
      obtain ⟨v7, qv7, hr⟩ := Option.bind_eq_some_iff.mp hr
      first | rw [rs_rdI (k := 14) hl rfl rfl qv7, Option.bind_some] | rw [Option.bind_some]
      obtain ⟨v8, S9, m10, hr⟩ := rb_s hr
      rw [rt_277 hl m10, lb_I_r]
      by_cases c12 : v8 = (0 : Int32)
      · rw [if_pos c12] at hr ⊢
        exact r302_114_t hl (fun hr => ih hr) hr
      · rw [if_neg c12] at hr ⊢
        first | rw [rs_fR (k := 41) hl (by decide) rfl, Option.bind_some] | rw [Option.bind_some]
        obtain ⟨v11, qv11, hr⟩ := Option.bind_eq_some_iff.mp hr
        first | rw [rs_rdI (k := 41) hl rfl rfl qv11, Option.bind_some] | rw [Option.bind_some]
        exact r302_114_t hl (fun hr => ih hr) hr
set_option maxRecDepth 20000 in
def r302_63 (x1 : Int32) (x5 : Int32) (S : rs_S) : Option (Int32 × rs_S) := r302_66 lf_N x1 x5 (0 : Int32) S
set_option maxRecDepth 20000 in
theorem r302_63_t {h : pm_H} (hl : 177 ≤ h.1.length) {x1 : Int32} {x5 : Int32} {S S' : rs_S} {v : Int32} (hr : r302_63 x1 x5 S = some (v, S')) : l302_63 (some 145) x1 x5 (rs_h S h) = some (.inl (some (.inl v)), rs_h S' h) := by
  unfold r302_63 at hr
  unfold l302_63
  exact r302_66_t hl lf_N hr
set_option maxRecDepth 20000 in
def r302_38 (x1 : Int32) (s0 : Int32) (S : rs_S) : Option (Int32 × rs_S) := if (0 : Int32) ≤ s0 then (rd_I S 12 s0).bind fun v1 => if v1 = (0 : Int32) then r302_63 x1 s0 S else rb (rf_303 (61 : Int32) S) fun _ S3 => r302_63 x1 s0 S3 else some ((0 : Int32), S)
set_option maxRecDepth 20000 in
theorem r302_38_t {h : pm_H} (hl : 177 ≤ h.1.length) {x1 : Int32} {s0 : Int32} {S S' : rs_S} {v : Int32} (hr : r302_38 x1 s0 S = some (v, S')) : l302_38 (some 145) x1 s0 (rs_h S h) = some (.inl (some (.inl v)), rs_h S' h) := by
  unfold r302_38 at hr
  unfold l302_38
  by_cases c6 : (0 : Int32) ≤ s0
  · rw [if_pos c6] at hr ⊢
    first | rw [rs_fR (k := 12) hl (by decide) rfl, Option.bind_some] | rw [Option.bind_some]
    obtain ⟨v1, qv1, hr⟩ := Option.bind_eq_some_iff.mp hr
    first | rw [rs_rdZ (k := 12) hl rfl rfl qv1, Option.bind_some] | rw [Option.bind_some]
    by_cases c5 : v1 = (0 : Int32)
    · rw [if_pos c5] at hr ⊢
      exact r302_63_t hl hr
    · rw [if_neg c5] at hr ⊢
      obtain ⟨v2, S3, m4, hr⟩ := rb_s hr
      rw [if_pos (rs_lc hl)]
      rw [rt_303 hl m4, lb_V_r]
      exact r302_63_t hl hr
  · rw [if_neg c6] at hr ⊢
    cases hr
    rfl
set_option maxRecDepth 20000 in
def rf_302 (a1 : Int32) (a2 : Int32) (a3 : Int32) (S : rs_S) : Option (Int32 × rs_S) := rb (rf_280 a1 a2 a3 S) fun v1 S2 => if (S2.1 0) ≤ (0 : Int32) then rb_S (rs_setI S2 39 (0 : Int32)) fun S4 => if (0 : Int32) ≤ v1 then rb (rf_285 v1 S4) fun v5 S6 => r302_38 a1 v5 S6 else r302_38 a1 (-1 : Int32) S4 else some ((0 : Int32), S2)
set_option maxRecDepth 20000 in
theorem rt_302 {h : pm_H} (hl : 177 ≤ h.1.length) {a1 : Int32} {a2 : Int32} {a3 : Int32} {S S' : rs_S} {v : Int32} (hr : rf_302 a1 a2 a3 S = some (v, S')) : ll_302 (some 145) a1 a2 a3 (rs_h S h) = some (.inl (some (.inl v)), rs_h S' h) := by
  unfold rf_302 at hr
  unfold ll_302
  obtain ⟨v1, S2, m3, hr⟩ := rb_s hr
  rw [if_pos (rs_lc hl)]
  rw [rt_280 hl m3, lb_I_r]
  first | rw [rs_fI (k := 0) hl (by decide) rfl, Option.bind_some] | rw [Option.bind_some]
  by_cases c9 : (S2.1 0) ≤ (0 : Int32)
  · rw [if_pos c9] at hr ⊢
    obtain ⟨S4, eS4, hr⟩ := rb_S_s hr
    rw [rs_pI (k := 39) hl (by decide) rfl, Option.bind_some, ← eS4]
    by_cases c8 : (0 : Int32) ≤ v1
    · rw [if_pos c8] at hr ⊢
      obtain ⟨v5, S6, m7, hr⟩ := rb_s hr
      rw [if_pos (rs_lc hl)]
      rw [rt_285 hl m7, lb_I_r]
      exact r302_38_t hl hr
    · rw [if_neg c8] at hr ⊢
      exact r302_38_t hl hr
  · rw [if_neg c9] at hr ⊢
    cases hr
    rfl
-- OfficeSheetModel.out(I)I
set_option maxRecDepth 20000 in
def r313_18 (x1 : Int32) (s0 : Int32) (S : rs_S) : Option (Int32 × rs_S) := rb_S (rs_setI S 0 s0) fun S1 => if (S1.1 0) ≤ (0 : Int32) then (rd_I S1 40 x1).bind fun v2 => some (v2, S1) else some ((0 : Int32), S1)
set_option maxRecDepth 20000 in
theorem r313_18_t {h : pm_H} (hl : 177 ≤ h.1.length) {x1 : Int32} {s0 : Int32} {S S' : rs_S} {v : Int32} (hr : r313_18 x1 s0 S = some (v, S')) : l313_18 (some 145) x1 s0 (some 145) (rs_h S h) = some (.inl (some (.inl v)), rs_h S' h) := by
  unfold r313_18 at hr
  unfold l313_18
  obtain ⟨S1, eS1, hr⟩ := rb_S_s hr
  rw [rs_pI (k := 0) hl (by decide) rfl, Option.bind_some, ← eS1]
  first | rw [rs_fI (k := 0) hl (by decide) rfl, Option.bind_some] | rw [Option.bind_some]
  by_cases c3 : (S1.1 0) ≤ (0 : Int32)
  · rw [if_pos c3] at hr ⊢
    first | rw [rs_fR (k := 40) hl (by decide) rfl, Option.bind_some] | rw [Option.bind_some]
    obtain ⟨v2, qv2, hr⟩ := Option.bind_eq_some_iff.mp hr
    first | rw [rs_rdI (k := 40) hl rfl rfl qv2, Option.bind_some] | rw [Option.bind_some]
    cases hr
    rfl
  · rw [if_neg c3] at hr ⊢
    cases hr
    rfl
set_option maxRecDepth 20000 in
def r313_13 (x1 : Int32) (S : rs_S) : Option (Int32 × rs_S) := r313_18 x1 (1 : Int32) S
set_option maxRecDepth 20000 in
theorem r313_13_t {h : pm_H} (hl : 177 ≤ h.1.length) {x1 : Int32} {S S' : rs_S} {v : Int32} (hr : r313_13 x1 S = some (v, S')) : l313_13 (some 145) x1 (some 145) (rs_h S h) = some (.inl (some (.inl v)), rs_h S' h) := by
  unfold r313_13 at hr
  unfold l313_13
  exact r313_18_t hl hr
set_option maxRecDepth 20000 in
def rf_313 (a1 : Int32) (S : rs_S) : Option (Int32 × rs_S) := if a1 < (0 : Int32) then r313_13 a1 S else if a1 < (S.1 39) then r313_18 a1 (0 : Int32) S else r313_13 a1 S
set_option maxRecDepth 20000 in
theorem rt_313 {h : pm_H} (hl : 177 ≤ h.1.length) {a1 : Int32} {S S' : rs_S} {v : Int32} (hr : rf_313 a1 S = some (v, S')) : ll_313 (some 145) a1 (rs_h S h) = some (.inl (some (.inl v)), rs_h S' h) := by
  unfold rf_313 at hr
  unfold ll_313
  by_cases c2 : a1 < (0 : Int32)
  · rw [if_pos c2] at hr ⊢
    exact r313_13_t hl hr
  · rw [if_neg c2] at hr ⊢
    first | rw [rs_fI (k := 39) hl (by decide) rfl, Option.bind_some] | rw [Option.bind_some]
    by_cases c1 : a1 < (S.1 39)
    · rw [if_pos c1] at hr ⊢
      exact r313_18_t hl hr
    · rw [if_neg c1] at hr ⊢
      exact r313_13_t hl hr
