/-! lifted: 54, 53, 56, 57, 55, 47, 46, 60, 61, 63, 62, 59, 58, 77, 76, 75, 78, 45, 44, 43, 42, 81, 82, 86, 85, 88, 89, 87, 84, 90, 83, 92, 91, 95, 94, 97, 96, 98, 99, 102, 103, 104, 110 -/
-- java/lang/String.coder()B
set_option maxRecDepth 20000 in
def ll_54 (a0 : Option Nat) (h : pm_H) : tm_L := (lf_I h a0 [13, 1]).bind fun v1 => if pm_fit 4 (.int v1) = true then some (.inl (some (.inl v1)), h) else none
set_option maxRecDepth 20000 in
theorem lq_54 {w : Option Nat} {d : Nat} {a0 : Option Nat} {h : pm_H} {r : tm_O × pm_H} (hr : ll_54 a0 h = some r) : tm_run pt_P (pt_G (tm_r w)) (d + 0) 54 [.inr (.inr a0)] h r := by
  unfold ll_54 at hr
  show pm_to pt_P (pt_G (tm_r w)) (d + 0) (pt_g54, []) (tm_m (0, [(0, .inr (.inr a0))], [])) h (tm_e r)
  refine tm_n 1 (F' := (3, [(0, .inr (.inr a0))], [.inl (1 : Int32)])) rfl ?_
  refine tm_ifF rfl (by simp only [tm_cnd]; decide) ?_
  refine tm_n 1 (F' := (7, [(0, .inr (.inr a0))], [.inr (.inr a0)])) rfl ?_
  obtain ⟨v1, qv1, hr⟩ := Option.bind_eq_some_iff.mp hr
  refine tm_getf rfl (lf_I_V qv1) ?_
  refine tm_n 1 (F' := (14, [(0, .inr (.inr a0))], [.inl v1])) rfl ?_
  by_cases c2 : pm_fit 4 (.int v1) = true
  · rw [if_pos c2] at hr
    cases hr
    exact tm_retI rfl c2
  · rw [if_neg c2] at hr
    cases hr
-- java/lang/String.length()I
set_option maxRecDepth 20000 in
def ll_53 (a0 : Option Nat) (h : pm_H) : tm_L := (lf_R h a0 [13, 0]).bind fun v1 => (la_len h v1).bind fun v2 => if lc_of h a0 = some 13 then lb_I (ll_54 a0 h) (fun v4 h5 => some (.inl (some (.inl (v2 >>> (v4 &&& 31)))), h5)) else none
set_option maxRecDepth 20000 in
theorem lq_53 {w : Option Nat} {d : Nat} {a0 : Option Nat} {h : pm_H} {r : tm_O × pm_H} (hr : ll_53 a0 h = some r) : tm_run pt_P (pt_G (tm_r w)) (d + 1) 53 [.inr (.inr a0)] h r := by
  unfold ll_53 at hr
  show pm_to pt_P (pt_G (tm_r w)) (d + 1) (pt_g53, []) (tm_m (0, [(0, .inr (.inr a0))], [])) h (tm_e r)
  refine tm_n 1 (F' := (1, [(0, .inr (.inr a0))], [.inr (.inr a0)])) rfl ?_
  obtain ⟨v1, qv1, hr⟩ := Option.bind_eq_some_iff.mp hr
  refine tm_getf rfl (lf_R_V qv1) ?_
  obtain ⟨v2, qv2, hr⟩ := Option.bind_eq_some_iff.mp hr
  refine tm_alen rfl qv2 ?_
  refine tm_n 1 (F' := (6, [(0, .inr (.inr a0))], [.inr (.inr a0), .inl v2])) rfl ?_
  by_cases c3 : lc_of h a0 = some 13
  · rw [if_pos c3] at hr
    rcases lb_I_s hr with ⟨v4, h5, m6, hr⟩ | ⟨a7, h5, z8, z8l, m6, qz8, rfl⟩
    · try dsimp only at hr
      refine tm_call rfl rfl (tm_callV rfl rfl c3 rfl rfl) (lq_54 m6) ?_
      refine tm_n 1 (F' := (10, [(0, .inr (.inr a0))], [.inl (v2 >>> (v4 &&& 31))])) rfl ?_
      cases hr
      exact tm_retI rfl rfl
    · exact tm_callT rfl rfl (tm_callV rfl rfl c3 rfl rfl) (lq_54 m6) qz8 rfl
  · rw [if_neg c3] at hr
    cases hr
-- java/lang/AbstractStringBuilder.inflateIfNeededFor(Ljava/lang/String;)V
set_option maxRecDepth 20000 in
def ll_56 (w : Option Nat) (a0 : Option Nat) (a1 : Option Nat) (h : pm_H) : tm_L := (lf_I h a0 [11, 1]).bind fun v1 => if lc_of h a1 = some 13 then lb_I (ll_54 a1 h) (fun v3 h4 => if v1 = v3 then some (.inl none, h4) else if lc_of h4 a0 = some 11 then lb_V (ll_30 w a0 h4) (fun h8 => some (.inl none, h8)) else none) else none
set_option maxRecDepth 20000 in
theorem lq_56 {w : Option Nat} {d : Nat} {a0 : Option Nat} {a1 : Option Nat} {h : pm_H} {r : tm_O × pm_H} (hr : ll_56 w a0 a1 h = some r) : tm_run pt_P (pt_G (tm_r w)) (d + 6) 56 [.inr (.inr a0), .inr (.inr a1)] h r := by
  unfold ll_56 at hr
  show pm_to pt_P (pt_G (tm_r w)) (d + 6) (pt_g56, []) (tm_m (0, [(0, .inr (.inr a0)), (1, .inr (.inr a1))], [])) h (tm_e r)
  refine tm_n 1 (F' := (3, [(0, .inr (.inr a0)), (1, .inr (.inr a1))], [.inl (1 : Int32)])) rfl ?_
  refine tm_ifF rfl (by simp only [tm_cnd]; decide) ?_
  refine tm_n 1 (F' := (7, [(0, .inr (.inr a0)), (1, .inr (.inr a1))], [.inr (.inr a0)])) rfl ?_
  obtain ⟨v1, qv1, hr⟩ := Option.bind_eq_some_iff.mp hr
  refine tm_getf rfl (lf_I_V qv1) ?_
  refine tm_n 1 (F' := (11, [(0, .inr (.inr a0)), (1, .inr (.inr a1))], [.inr (.inr a1), .inl v1])) rfl ?_
  by_cases c2 : lc_of h a1 = some 13
  · rw [if_pos c2] at hr
    rcases lb_I_s hr with ⟨v3, h4, m5, hr⟩ | ⟨a13, h4, z14, z14l, m5, qz14, rfl⟩
    · try dsimp only at hr
      refine tm_call rfl rfl (tm_callV rfl rfl c2 rfl rfl) (lq_54 m5) ?_
      by_cases c12 : v1 = v3
      · rw [if_pos c12] at hr
        refine tm_icT rfl c12 ?_
        cases hr
        exact tm_retV rfl
      · rw [if_neg c12] at hr
        refine tm_icF rfl c12 ?_
        refine tm_n 1 (F' := (18, [(0, .inr (.inr a0)), (1, .inr (.inr a1))], [.inr (.inr a0)])) rfl ?_
        by_cases c6 : lc_of h4 a0 = some 11
        · rw [if_pos c6] at hr
          rcases lb_V_s hr with ⟨h8, m9, hr⟩ | ⟨a10, h8, z11, z11l, m9, qz11, rfl⟩
          · try dsimp only at hr
            refine tm_call rfl rfl (tm_callV rfl rfl c6 rfl rfl) (lq_30 m9) ?_
            cases hr
            exact tm_retV rfl
          · exact tm_callT rfl rfl (tm_callV rfl rfl c6 rfl rfl) (lq_30 m9) qz11 rfl
        · rw [if_neg c6] at hr
          cases hr
    · exact tm_callT rfl rfl (tm_callV rfl rfl c2 rfl rfl) (lq_54 m5) qz14 rfl
  · rw [if_neg c2] at hr
    cases hr
-- java/lang/String.getBytes([BIB)V
set_option maxRecDepth 20000 in
def ll_57 (w : Option Nat) (a0 : Option Nat) (a1 : Option Nat) (a2 : Int32) (a3 : Int32) (h : pm_H) : tm_L := if lc_of h a0 = some 13 then lb_I (ll_54 a0 h) (fun v2 h3 => if v2 = a3 then (lf_R h3 a0 [13, 0]).bind fun v5 => (lf_R h3 a0 [13, 0]).bind fun v6 => (la_len h3 v6).bind fun v7 => (lf_cp pt_P h3 v5 (0 : Int32) a1 (a2 <<< (a3 &&& 31)) v7).bind fun h8 => some (.inl none, h8) else (lf_R h3 a0 [13, 0]).bind fun v9 => (lf_R h3 a0 [13, 0]).bind fun v10 => (la_len h3 v10).bind fun v11 => lb_V (ll_31 w v9 (0 : Int32) a1 a2 v11 h3) (fun h13 => some (.inl none, h13))) else none
set_option maxRecDepth 20000 in
theorem lq_57 {w : Option Nat} {d : Nat} {a0 : Option Nat} {a1 : Option Nat} {a2 : Int32} {a3 : Int32} {h : pm_H} {r : tm_O × pm_H} (hr : ll_57 w a0 a1 a2 a3 h = some r) : tm_run pt_P (pt_G (tm_r w)) (d + 5) 57 [.inr (.inr a0), .inr (.inr a1), .inl a2, .inl a3] h r := by
  unfold ll_57 at hr
  show pm_to pt_P (pt_G (tm_r w)) (d + 5) (pt_g57, []) (tm_m (0, [(0, .inr (.inr a0)), (1, .inr (.inr a1)), (2, .inl a2), (3, .inl a3)], [])) h (tm_e r)
  refine tm_n 1 (F' := (1, [(0, .inr (.inr a0)), (1, .inr (.inr a1)), (2, .inl a2), (3, .inl a3)], [.inr (.inr a0)])) rfl ?_
  by_cases c1 : lc_of h a0 = some 13
  · rw [if_pos c1] at hr
    rcases lb_I_s hr with ⟨v2, h3, m4, hr⟩ | ⟨a18, h3, z19, z19l, m4, qz19, rfl⟩
    · try dsimp only at hr
      refine tm_call rfl rfl (tm_callV rfl rfl c1 rfl rfl) (lq_54 m4) ?_
      refine tm_n 1 (F' := (5, [(0, .inr (.inr a0)), (1, .inr (.inr a1)), (2, .inl a2), (3, .inl a3)], [.inl a3, .inl v2])) rfl ?_
      by_cases c17 : v2 = a3
      · rw [if_pos c17] at hr
        refine tm_icF rfl (fun q => q c17) ?_
        refine tm_n 1 (F' := (9, [(0, .inr (.inr a0)), (1, .inr (.inr a1)), (2, .inl a2), (3, .inl a3)], [.inr (.inr a0)])) rfl ?_
        obtain ⟨v5, qv5, hr⟩ := Option.bind_eq_some_iff.mp hr
        refine tm_getf rfl (lf_R_V qv5) ?_
        refine tm_n 6 (F' := (18, [(0, .inr (.inr a0)), (1, .inr (.inr a1)), (2, .inl a2), (3, .inl a3)], [.inr (.inr a0), .inl (a2 <<< (a3 &&& 31)), .inr (.inr a1), .inl (0 : Int32), .inr (.inr v5)])) rfl ?_
        obtain ⟨v6, qv6, hr⟩ := Option.bind_eq_some_iff.mp hr
        refine tm_getf rfl (lf_R_V qv6) ?_
        obtain ⟨v7, qv7, hr⟩ := Option.bind_eq_some_iff.mp hr
        refine tm_alen rfl qv7 ?_
        obtain ⟨h8, qh8, hr⟩ := Option.bind_eq_some_iff.mp hr
        refine tm_acp rfl rfl qh8 ?_
        refine tm_n 1 (F' := (43, [(0, .inr (.inr a0)), (1, .inr (.inr a1)), (2, .inl a2), (3, .inl a3)], [])) rfl ?_
        cases hr
        exact tm_retV rfl
      · rw [if_neg c17] at hr
        refine tm_icT rfl c17 ?_
        refine tm_n 1 (F' := (29, [(0, .inr (.inr a0)), (1, .inr (.inr a1)), (2, .inl a2), (3, .inl a3)], [.inr (.inr a0)])) rfl ?_
        obtain ⟨v9, qv9, hr⟩ := Option.bind_eq_some_iff.mp hr
        refine tm_getf rfl (lf_R_V qv9) ?_
        refine tm_n 4 (F' := (36, [(0, .inr (.inr a0)), (1, .inr (.inr a1)), (2, .inl a2), (3, .inl a3)], [.inr (.inr a0), .inl a2, .inr (.inr a1), .inl (0 : Int32), .inr (.inr v9)])) rfl ?_
        obtain ⟨v10, qv10, hr⟩ := Option.bind_eq_some_iff.mp hr
        refine tm_getf rfl (lf_R_V qv10) ?_
        obtain ⟨v11, qv11, hr⟩ := Option.bind_eq_some_iff.mp hr
        refine tm_alen rfl qv11 ?_
        rcases lb_V_s hr with ⟨h13, m14, hr⟩ | ⟨a15, h13, z16, z16l, m14, qz16, rfl⟩
        · try dsimp only at hr
          refine tm_call rfl rfl (tm_callS rfl rfl) (lq_31 m14) ?_
          cases hr
          exact tm_retV rfl
        · exact tm_callT rfl rfl (tm_callS rfl rfl) (lq_31 m14) qz16 rfl
    · exact tm_callT rfl rfl (tm_callV rfl rfl c1 rfl rfl) (lq_54 m4) qz19 rfl
  · rw [if_neg c1] at hr
    cases hr
-- java/lang/AbstractStringBuilder.putStringAt(ILjava/lang/String;)V
set_option maxRecDepth 20000 in
def ll_55 (w : Option Nat) (a0 : Option Nat) (a1 : Int32) (a2 : Option Nat) (h : pm_H) : tm_L := if lc_of h a0 = some 11 then lb_V (ll_56 w a0 a2 h) (fun h3 => (lf_R h3 a0 [11, 0]).bind fun v5 => (lf_I h3 a0 [11, 1]).bind fun v6 => if lc_of h3 a2 = some 13 then lb_V (ll_57 w a2 v5 a1 v6 h3) (fun h9 => some (.inl none, h9)) else none) else none
set_option maxRecDepth 20000 in
theorem lq_55 {w : Option Nat} {d : Nat} {a0 : Option Nat} {a1 : Int32} {a2 : Option Nat} {h : pm_H} {r : tm_O × pm_H} (hr : ll_55 w a0 a1 a2 h = some r) : tm_run pt_P (pt_G (tm_r w)) (d + 7) 55 [.inr (.inr a0), .inl a1, .inr (.inr a2)] h r := by
  unfold ll_55 at hr
  show pm_to pt_P (pt_G (tm_r w)) (d + 7) (pt_g55, []) (tm_m (0, [(0, .inr (.inr a0)), (1, .inl a1), (2, .inr (.inr a2))], [])) h (tm_e r)
  refine tm_n 2 (F' := (2, [(0, .inr (.inr a0)), (1, .inl a1), (2, .inr (.inr a2))], [.inr (.inr a2), .inr (.inr a0)])) rfl ?_
  by_cases c1 : lc_of h a0 = some 11
  · rw [if_pos c1] at hr
    rcases lb_V_s hr with ⟨h3, m4, hr⟩ | ⟨a13, h3, z14, z14l, m4, qz14, rfl⟩
    · try dsimp only at hr
      refine tm_call rfl rfl (tm_callV rfl rfl c1 rfl rfl) (lq_56 m4) ?_
      refine tm_n 2 (F' := (7, [(0, .inr (.inr a0)), (1, .inl a1), (2, .inr (.inr a2))], [.inr (.inr a0), .inr (.inr a2)])) rfl ?_
      obtain ⟨v5, qv5, hr⟩ := Option.bind_eq_some_iff.mp hr
      refine tm_getf rfl (lf_R_V qv5) ?_
      refine tm_n 2 (F' := (12, [(0, .inr (.inr a0)), (1, .inl a1), (2, .inr (.inr a2))], [.inr (.inr a0), .inl a1, .inr (.inr v5), .inr (.inr a2)])) rfl ?_
      obtain ⟨v6, qv6, hr⟩ := Option.bind_eq_some_iff.mp hr
      refine tm_getf rfl (lf_I_V qv6) ?_
      by_cases c7 : lc_of h3 a2 = some 13
      · rw [if_pos c7] at hr
        rcases lb_V_s hr with ⟨h9, m10, hr⟩ | ⟨a11, h9, z12, z12l, m10, qz12, rfl⟩
        · try dsimp only at hr
          refine tm_call rfl rfl (tm_callV rfl rfl c7 rfl rfl) (lq_57 m10) ?_
          cases hr
          exact tm_retV rfl
        · exact tm_callT rfl rfl (tm_callV rfl rfl c7 rfl rfl) (lq_57 m10) qz12 rfl
      · rw [if_neg c7] at hr
        cases hr
    · exact tm_callT rfl rfl (tm_callV rfl rfl c1 rfl rfl) (lq_56 m4) qz14 rfl
  · rw [if_neg c1] at hr
    cases hr
-- java/lang/AbstractStringBuilder.append(Ljava/lang/String;)Ljava/lang/AbstractStringBuilder;
set_option maxRecDepth 20000 in
def ll_47 (w : Option Nat) (a0 : Option Nat) (a1 : Option Nat) (h : pm_H) : tm_L := match a1 with | none => (if lc_of h a0 = some 11 then lb_R (ll_48 w a0 h) (fun v3 h4 => some (.inl (some (.inr (.inr v3))), h4)) else none) | some a1 => (if lc_of h (some a1) = some 13 then lb_I (ll_53 (some a1) h) (fun v9 h10 => (lf_I h10 a0 [11, 3]).bind fun v12 => if lc_of h10 a0 = some 11 then lb_V (ll_21 a0 (v12 + v9) h10) (fun h15 => (lf_I h15 a0 [11, 3]).bind fun v17 => if lc_of h15 a0 = some 11 then lb_V (ll_55 w a0 v17 (some a1) h15) (fun h20 => (lf_I h20 a0 [11, 3]).bind fun v22 => (lf_P 81 h20 a0 [0, 11, 3] (.inl (v22 + v9))).bind fun h23 => some (.inl (some (.inr (.inr a0))), h23)) else none) else none) else none)
set_option maxRecDepth 20000 in
theorem lq_47 {w : Option Nat} {d : Nat} {a0 : Option Nat} {a1 : Option Nat} {h : pm_H} {r : tm_O × pm_H} (hr : ll_47 w a0 a1 h = some r) : tm_run pt_P (pt_G (tm_r w)) (d + 8) 47 [.inr (.inr a0), .inr (.inr a1)] h r := by
  unfold ll_47 at hr
  show pm_to pt_P (pt_G (tm_r w)) (d + 8) (pt_g47, []) (tm_m (0, [(0, .inr (.inr a0)), (1, .inr (.inr a1))], [])) h (tm_e r)
  refine tm_n 1 (F' := (1, [(0, .inr (.inr a0)), (1, .inr (.inr a1))], [.inr (.inr a1)])) rfl ?_
  cases a1 with
  | none =>
    try dsimp only at hr
    refine tm_nnF rfl ?_
    refine tm_n 1 (F' := (5, [(0, .inr (.inr a0)), (1, .inr (.inr none))], [.inr (.inr a0)])) rfl ?_
    by_cases c2 : lc_of h a0 = some 11
    · rw [if_pos c2] at hr
      rcases lb_R_s hr with ⟨v3, h4, m5, hr⟩ | ⟨a6, h4, z7, z7l, m5, qz7, rfl⟩
      · try dsimp only at hr
        refine tm_call rfl rfl (tm_callV rfl rfl c2 rfl rfl) (lq_48 m5) ?_
        cases hr
        exact tm_retR rfl
      · exact tm_callT rfl rfl (tm_callV rfl rfl c2 rfl rfl) (lq_48 m5) qz7 rfl
    · rw [if_neg c2] at hr
      cases hr
  | some a1 =>
    try dsimp only at hr
    refine tm_nnT rfl ?_
    refine tm_n 1 (F' := (10, [(0, .inr (.inr a0)), (1, .inr (.inr (some a1)))], [.inr (.inr (some a1))])) rfl ?_
    by_cases c8 : lc_of h (some a1) = some 13
    · rw [if_pos c8] at hr
      rcases lb_I_s hr with ⟨v9, h10, m11, hr⟩ | ⟨a28, h10, z29, z29l, m11, qz29, rfl⟩
      · try dsimp only at hr
        refine tm_call rfl rfl (tm_callV rfl rfl c8 rfl rfl) (lq_53 m11) ?_
        refine tm_n 3 (F' := (16, [(2, .inl v9), (0, .inr (.inr a0)), (1, .inr (.inr (some a1)))], [.inr (.inr a0), .inr (.inr a0)])) rfl ?_
        obtain ⟨v12, qv12, hr⟩ := Option.bind_eq_some_iff.mp hr
        refine tm_getf rfl (lf_I_V qv12) ?_
        refine tm_n 2 (F' := (21, [(2, .inl v9), (0, .inr (.inr a0)), (1, .inr (.inr (some a1)))], [.inl (v12 + v9), .inr (.inr a0)])) rfl ?_
        by_cases c13 : lc_of h10 a0 = some 11
        · rw [if_pos c13] at hr
          rcases lb_V_s hr with ⟨h15, m16, hr⟩ | ⟨a26, h15, z27, z27l, m16, qz27, rfl⟩
          · try dsimp only at hr
            refine tm_call rfl rfl (tm_callV rfl rfl c13 rfl rfl) (lq_21 m16) ?_
            refine tm_n 2 (F' := (26, [(2, .inl v9), (0, .inr (.inr a0)), (1, .inr (.inr (some a1)))], [.inr (.inr a0), .inr (.inr a0)])) rfl ?_
            obtain ⟨v17, qv17, hr⟩ := Option.bind_eq_some_iff.mp hr
            refine tm_getf rfl (lf_I_V qv17) ?_
            refine tm_n 1 (F' := (30, [(2, .inl v9), (0, .inr (.inr a0)), (1, .inr (.inr (some a1)))], [.inr (.inr (some a1)), .inl v17, .inr (.inr a0)])) rfl ?_
            by_cases c18 : lc_of h15 a0 = some 11
            · rw [if_pos c18] at hr
              rcases lb_V_s hr with ⟨h20, m21, hr⟩ | ⟨a24, h20, z25, z25l, m21, qz25, rfl⟩
              · try dsimp only at hr
                refine tm_call rfl rfl (tm_callV rfl rfl c18 rfl rfl) (lq_55 m21) ?_
                refine tm_n 2 (F' := (35, [(2, .inl v9), (0, .inr (.inr a0)), (1, .inr (.inr (some a1)))], [.inr (.inr a0), .inr (.inr a0)])) rfl ?_
                obtain ⟨v22, qv22, hr⟩ := Option.bind_eq_some_iff.mp hr
                refine tm_getf rfl (lf_I_V qv22) ?_
                refine tm_n 2 (F' := (40, [(2, .inl v9), (0, .inr (.inr a0)), (1, .inr (.inr (some a1)))], [.inl (v22 + v9), .inr (.inr a0)])) rfl ?_
                obtain ⟨h23, qh23, hr⟩ := Option.bind_eq_some_iff.mp hr
                refine tm_putf rfl qh23 ?_
                refine tm_n 1 (F' := (44, [(2, .inl v9), (0, .inr (.inr a0)), (1, .inr (.inr (some a1)))], [.inr (.inr a0)])) rfl ?_
                cases hr
                exact tm_retR rfl
              · exact tm_callT rfl rfl (tm_callV rfl rfl c18 rfl rfl) (lq_55 m21) qz25 rfl
            · rw [if_neg c18] at hr
              cases hr
          · exact tm_callT rfl rfl (tm_callV rfl rfl c13 rfl rfl) (lq_21 m16) qz27 rfl
        · rw [if_neg c13] at hr
          cases hr
      · exact tm_callT rfl rfl (tm_callV rfl rfl c8 rfl rfl) (lq_53 m11) qz29 rfl
    · rw [if_neg c8] at hr
      cases hr
-- java/lang/StringBuilder.append(Ljava/lang/String;)Ljava/lang/StringBuilder;
set_option maxRecDepth 20000 in
def ll_46 (w : Option Nat) (a0 : Option Nat) (a1 : Option Nat) (h : pm_H) : tm_L := if lc_of h a0 = some 11 then lb_R (ll_47 w a0 a1 h) (fun v2 h3 => some (.inl (some (.inr (.inr a0))), h3)) else none
set_option maxRecDepth 20000 in
theorem lq_46 {w : Option Nat} {d : Nat} {a0 : Option Nat} {a1 : Option Nat} {h : pm_H} {r : tm_O × pm_H} (hr : ll_46 w a0 a1 h = some r) : tm_run pt_P (pt_G (tm_r w)) (d + 9) 46 [.inr (.inr a0), .inr (.inr a1)] h r := by
  unfold ll_46 at hr
  show pm_to pt_P (pt_G (tm_r w)) (d + 9) (pt_g46, []) (tm_m (0, [(0, .inr (.inr a0)), (1, .inr (.inr a1))], [])) h (tm_e r)
  refine tm_n 2 (F' := (2, [(0, .inr (.inr a0)), (1, .inr (.inr a1))], [.inr (.inr a1), .inr (.inr a0)])) rfl ?_
  by_cases c1 : lc_of h a0 = some 11
  · rw [if_pos c1] at hr
    rcases lb_R_s hr with ⟨v2, h3, m4, hr⟩ | ⟨a5, h3, z6, z6l, m4, qz6, rfl⟩
    · try dsimp only at hr
      refine tm_call rfl rfl (tm_callV rfl rfl c1 rfl rfl) (lq_47 m4) ?_
      refine tm_n 2 (F' := (7, [(0, .inr (.inr a0)), (1, .inr (.inr a1))], [.inr (.inr a0)])) rfl ?_
      cases hr
      exact tm_retR rfl
    · exact tm_callT rfl rfl (tm_callV rfl rfl c1 rfl rfl) (lq_47 m4) qz6 rfl
  · rw [if_neg c1] at hr
    cases hr
-- java/lang/Integer.stringSize(I)I
set_option maxRecDepth 20000 in
def l60_16 : Nat → Int32 → Int32 → Int32 → Int32 → pm_H → tm_L
  | 0 => fun _ _ _ _ _ => none
  | n + 1 => fun x0 x1 x2 x3 h => if (10 : Int32) ≤ x3 then some (.inl (some (.inl ((10 : Int32) + x1))), h) else if x0 ≤ x2 then l60_16 n x0 x1 ((10 : Int32) * x2) (x3 + (1 : Int32)) h else some (.inl (some (.inl (x3 + x1))), h)
set_option maxRecDepth 20000 in
theorem l60_16_t {w : Option Nat} {d : Nat} : ∀ (n : Nat) {x0 : Int32} {x1 : Int32} {x2 : Int32} {x3 : Int32} {h : pm_H} {r : tm_O × pm_H}, l60_16 n x0 x1 x2 x3 h = some r → pm_to pt_P (pt_G (tm_r w)) (d + 0) (pt_g60, []) (tm_m (16, [(0, .inl x0), (1, .inl x1), (2, .inl x2), (3, .inl x3)], [])) h (tm_e r) := by
  intro n
  induction n with
  | zero => intro x0 x1 x2 x3 h r hr; cases hr
  | succ n ih =>
    intro x0 x1 x2 x3 h r hr
    unfold l60_16 at hr
    refine tm_n 2 (F' := (19, [(0, .inl x0), (1, .inl x1), (2, .inl x2), (3, .inl x3)], [.inl (10 : Int32), .inl x3])) rfl ?_
    by_cases c2 : (10 : Int32) ≤ x3
    · rw [if_pos c2] at hr
      refine tm_icT rfl c2 ?_
      refine tm_n 3 (F' := (46, [(0, .inl x0), (1, .inl x1), (2, .inl x2), (3, .inl x3)], [.inl ((10 : Int32) + x1)])) rfl ?_
      cases hr
      exact tm_retI rfl rfl
    · rw [if_neg c2] at hr
      refine tm_icF rfl c2 ?_
      refine tm_n 2 (F' := (24, [(0, .inl x0), (1, .inl x1), (2, .inl x2), (3, .inl x3)], [.inl x2, .inl x0])) rfl ?_
      by_cases c1 : x0 ≤ x2
      · rw [if_pos c1] at hr
        refine tm_icT rfl c1 ?_
        refine tm_n 6 (F' := (16, [(3, .inl (x3 + (1 : Int32))), (2, .inl ((10 : Int32) * x2)), (0, .inl x0), (1, .inl x1)], [])) rfl ?_
        refine tm_cut (a := [(0, .inl x0), (1, .inl x1), (2, .inl ((10 : Int32) * x2)), (3, .inl (x3 + (1 : Int32)))]) rfl (tm_sbs [2, 3, 1, 0] rfl) ?_
        exact ih hr
      · rw [if_neg c1] at hr
        refine tm_icF rfl c1 ?_
        refine tm_n 3 (F' := (30, [(0, .inl x0), (1, .inl x1), (2, .inl x2), (3, .inl x3)], [.inl (x3 + x1)])) rfl ?_
        cases hr
        exact tm_retI rfl rfl
set_option maxRecDepth 20000 in
def l60_11 (x0 : Int32) (x1 : Int32) (h : pm_H) : tm_L := l60_16 lf_N x0 x1 (-10 : Int32) (1 : Int32) h
set_option maxRecDepth 20000 in
theorem l60_11_t {w : Option Nat} {d : Nat} {x0 : Int32} {x1 : Int32} {h : pm_H} {r : tm_O × pm_H} (hr : l60_11 x0 x1 h = some r) : pm_to pt_P (pt_G (tm_r w)) (d + 0) (pt_g60, []) (tm_m (11, [(0, .inl x0), (1, .inl x1)], [])) h (tm_e r) := by
  unfold l60_11 at hr
  refine tm_n 4 (F' := (16, [(3, .inl (1 : Int32)), (2, .inl (-10 : Int32)), (0, .inl x0), (1, .inl x1)], [])) rfl ?_
  refine tm_cut (a := [(0, .inl x0), (1, .inl x1), (2, .inl (-10 : Int32)), (3, .inl (1 : Int32))]) rfl (tm_sbs [2, 3, 1, 0] rfl) ?_
  exact l60_16_t lf_N hr
set_option maxRecDepth 20000 in
def ll_60 (a0 : Int32) (h : pm_H) : tm_L := if a0 < (0 : Int32) then l60_11 a0 (1 : Int32) h else l60_11 (-a0) (0 : Int32) h
set_option maxRecDepth 20000 in
theorem lq_60 {w : Option Nat} {d : Nat} {a0 : Int32} {h : pm_H} {r : tm_O × pm_H} (hr : ll_60 a0 h = some r) : tm_run pt_P (pt_G (tm_r w)) (d + 0) 60 [.inl a0] h r := by
  unfold ll_60 at hr
  show pm_to pt_P (pt_G (tm_r w)) (d + 0) (pt_g60, []) (tm_m (0, [(0, .inl a0)], [])) h (tm_e r)
  refine tm_n 3 (F' := (3, [(1, .inl (1 : Int32)), (0, .inl a0)], [.inl a0])) rfl ?_
  by_cases c1 : a0 < (0 : Int32)
  · rw [if_pos c1] at hr
    refine tm_ifT rfl c1 ?_
    refine tm_cut (a := [(0, .inl a0), (1, .inl (1 : Int32))]) rfl (tm_sbs [1, 0] rfl) ?_
    exact l60_11_t hr
  · rw [if_neg c1] at hr
    refine tm_ifF rfl c1 ?_
    refine tm_n 5 (F' := (11, [(0, .inl (-a0)), (1, .inl (0 : Int32))], [])) rfl ?_
    refine tm_cut (a := [(0, .inl (-a0)), (1, .inl (0 : Int32))]) rfl (tm_sbs [0, 1] rfl) ?_
    exact l60_11_t hr
-- java/lang/Integer.getChars(II[B)I
set_option maxRecDepth 20000 in
def l61_104 (x2 : Option Nat) (x5 : Int32) (x6 : Int32) (h : pm_H) : tm_L := if x6 = (0 : Int32) then some (.inl (some (.inl x5)), h) else (la_S pt_P h .bastore x2 (x5 + (-1 : Int32)) (.inl (45 : Int32))).bind fun h1 => some (.inl (some (.inl (x5 + (-1 : Int32)))), h1)
set_option maxRecDepth 20000 in
theorem l61_104_t {w : Option Nat} {d : Nat} {x2 : Option Nat} {x5 : Int32} {x6 : Int32} {h : pm_H} {r : tm_O × pm_H} (hr : l61_104 x2 x5 x6 h = some r) : pm_to pt_P (pt_G (tm_r w)) (d + 0) (pt_g61, []) (tm_m (104, [(2, .inr (.inr x2)), (5, .inl x5), (6, .inl x6)], [])) h (tm_e r) := by
  unfold l61_104 at hr
  refine tm_n 1 (F' := (106, [(2, .inr (.inr x2)), (5, .inl x5), (6, .inl x6)], [.inl x6])) rfl ?_
  by_cases c2 : x6 = (0 : Int32)
  · rw [if_pos c2] at hr
    refine tm_ifT rfl c2 ?_
    refine tm_n 1 (F' := (120, [(2, .inr (.inr x2)), (5, .inl x5), (6, .inl x6)], [.inl x5])) rfl ?_
    cases hr
    exact tm_retI rfl rfl
  · rw [if_neg c2] at hr
    refine tm_ifF rfl c2 ?_
    refine tm_n 4 (F' := (117, [(5, .inl (x5 + (-1 : Int32))), (2, .inr (.inr x2)), (6, .inl x6)], [.inl (45 : Int32), .inl (x5 + (-1 : Int32)), .inr (.inr x2)])) rfl ?_
    obtain ⟨h1, qh1, hr⟩ := Option.bind_eq_some_iff.mp hr
    refine tm_ast rfl rfl qh1 ?_
    refine tm_n 1 (F' := (120, [(5, .inl (x5 + (-1 : Int32))), (2, .inr (.inr x2)), (6, .inl x6)], [.inl (x5 + (-1 : Int32))])) rfl ?_
    cases hr
    exact tm_retI rfl rfl
set_option maxRecDepth 20000 in
def l61_22 : Nat → Int32 → Option Nat → Int32 → Int32 → pm_H → tm_L
  | 0 => fun _ _ _ _ _ => none
  | n + 1 => fun x0 x2 x5 x6 h => if (-100 : Int32) < x0 then (la_I h .baload (some 77) (-x0)).bind fun v1 => (la_S pt_P h .bastore x2 (x5 + (-1 : Int32)) (.inl v1)).bind fun h2 => if (-9 : Int32) ≤ x0 then l61_104 x2 (x5 + (-1 : Int32)) x6 h2 else (la_I h2 .baload (some 78) (-x0)).bind fun v3 => (la_S pt_P h2 .bastore x2 ((x5 + (-1 : Int32)) + (-1 : Int32)) (.inl v3)).bind fun h4 => l61_104 x2 ((x5 + (-1 : Int32)) + (-1 : Int32)) x6 h4 else (la_I h .baload (some 77) (((x0 / (100 : Int32)) * (100 : Int32)) - x0)).bind fun v6 => (la_S pt_P h .bastore x2 (x5 + (-1 : Int32)) (.inl v6)).bind fun h7 => (la_I h7 .baload (some 78) (((x0 / (100 : Int32)) * (100 : Int32)) - x0)).bind fun v8 => (la_S pt_P h7 .bastore x2 ((x5 + (-1 : Int32)) + (-1 : Int32)) (.inl v8)).bind fun h9 => l61_22 n (x0 / (100 : Int32)) x2 ((x5 + (-1 : Int32)) + (-1 : Int32)) x6 h9
set_option maxRecDepth 20000 in
theorem l61_22_t {w : Option Nat} {d : Nat} : ∀ (n : Nat) {x0 : Int32} {x2 : Option Nat} {x5 : Int32} {x6 : Int32} {h : pm_H} {r : tm_O × pm_H}, l61_22 n x0 x2 x5 x6 h = some r → pm_to pt_P (pt_G (tm_r w)) (d + 0) (pt_g61, []) (tm_m (22, [(0, .inl x0), (2, .inr (.inr x2)), (5, .inl x5), (6, .inl x6)], [])) h (tm_e r) := by
  intro n
  induction n with
  | zero => intro x0 x2 x5 x6 h r hr; cases hr
  | succ n ih =>
    intro x0 x2 x5 x6 h r hr
    unfold l61_22 at hr
    refine tm_n 2 (F' := (25, [(0, .inl x0), (2, .inr (.inr x2)), (5, .inl x5), (6, .inl x6)], [.inl (-100 : Int32), .inl x0])) rfl ?_
    by_cases c10 : (-100 : Int32) < x0
    · rw [if_pos c10] at hr
      refine tm_icT rfl c10 ?_
      refine tm_n 6 (F' := (83, [(5, .inl (x5 + (-1 : Int32))), (0, .inl x0), (2, .inr (.inr x2)), (6, .inl x6)], [.inl (-x0), .inr (.inr (some 77)), .inl (x5 + (-1 : Int32)), .inr (.inr x2)])) rfl ?_
      obtain ⟨v1, qv1, hr⟩ := Option.bind_eq_some_iff.mp hr
      refine tm_ald rfl rfl (la_I_V qv1) ?_
      obtain ⟨h2, qh2, hr⟩ := Option.bind_eq_some_iff.mp hr
      refine tm_ast rfl rfl qh2 ?_
      refine tm_n 2 (F' := (88, [(5, .inl (x5 + (-1 : Int32))), (0, .inl x0), (2, .inr (.inr x2)), (6, .inl x6)], [.inl (-9 : Int32), .inl x0])) rfl ?_
      by_cases c5 : (-9 : Int32) ≤ x0
      · rw [if_pos c5] at hr
        refine tm_icT rfl c5 ?_
        refine tm_cut (a := [(2, .inr (.inr x2)), (5, .inl (x5 + (-1 : Int32))), (6, .inl x6)]) rfl (tm_sbs [2, 0, 3] rfl) ?_
        exact l61_104_t hr
      · rw [if_neg c5] at hr
        refine tm_icF rfl c5 ?_
        refine tm_n 6 (F' := (102, [(5, .inl ((x5 + (-1 : Int32)) + (-1 : Int32))), (0, .inl x0), (2, .inr (.inr x2)), (6, .inl x6)], [.inl (-x0), .inr (.inr (some 78)), .inl ((x5 + (-1 : Int32)) + (-1 : Int32)), .inr (.inr x2)])) rfl ?_
        obtain ⟨v3, qv3, hr⟩ := Option.bind_eq_some_iff.mp hr
        refine tm_ald rfl rfl (la_I_V qv3) ?_
        obtain ⟨h4, qh4, hr⟩ := Option.bind_eq_some_iff.mp hr
        refine tm_ast rfl rfl qh4 ?_
        refine tm_cut (a := [(2, .inr (.inr x2)), (5, .inl ((x5 + (-1 : Int32)) + (-1 : Int32))), (6, .inl x6)]) rfl (tm_sbs [2, 0, 3] rfl) ?_
        exact l61_104_t hr
    · rw [if_neg c10] at hr
      refine tm_icF rfl c10 ?_
      refine tm_n 17 (F' := (54, [(5, .inl (x5 + (-1 : Int32))), (0, .inl (x0 / (100 : Int32))), (4, .inl (((x0 / (100 : Int32)) * (100 : Int32)) - x0)), (3, .inl (x0 / (100 : Int32))), (2, .inr (.inr x2)), (6, .inl x6)], [.inl (((x0 / (100 : Int32)) * (100 : Int32)) - x0), .inr (.inr (some 77)), .inl (x5 + (-1 : Int32)), .inr (.inr x2)])) rfl ?_
      obtain ⟨v6, qv6, hr⟩ := Option.bind_eq_some_iff.mp hr
      refine tm_ald rfl rfl (la_I_V qv6) ?_
      obtain ⟨h7, qh7, hr⟩ := Option.bind_eq_some_iff.mp hr
      refine tm_ast rfl rfl qh7 ?_
      refine tm_n 5 (F' := (67, [(5, .inl ((x5 + (-1 : Int32)) + (-1 : Int32))), (0, .inl (x0 / (100 : Int32))), (4, .inl (((x0 / (100 : Int32)) * (100 : Int32)) - x0)), (3, .inl (x0 / (100 : Int32))), (2, .inr (.inr x2)), (6, .inl x6)], [.inl (((x0 / (100 : Int32)) * (100 : Int32)) - x0), .inr (.inr (some 78)), .inl ((x5 + (-1 : Int32)) + (-1 : Int32)), .inr (.inr x2)])) rfl ?_
      obtain ⟨v8, qv8, hr⟩ := Option.bind_eq_some_iff.mp hr
      refine tm_ald rfl rfl (la_I_V qv8) ?_
      obtain ⟨h9, qh9, hr⟩ := Option.bind_eq_some_iff.mp hr
      refine tm_ast rfl rfl qh9 ?_
      refine tm_n 1 (F' := (22, [(5, .inl ((x5 + (-1 : Int32)) + (-1 : Int32))), (0, .inl (x0 / (100 : Int32))), (4, .inl (((x0 / (100 : Int32)) * (100 : Int32)) - x0)), (3, .inl (x0 / (100 : Int32))), (2, .inr (.inr x2)), (6, .inl x6)], [])) rfl ?_
      refine tm_cut (a := [(0, .inl (x0 / (100 : Int32))), (2, .inr (.inr x2)), (5, .inl ((x5 + (-1 : Int32)) + (-1 : Int32))), (6, .inl x6)]) rfl (tm_sbs [1, 4, 0, 5] rfl) ?_
      exact ih hr
set_option maxRecDepth 20000 in
def l61_12 (x0 : Int32) (x2 : Option Nat) (x5 : Int32) (s0 : Int32) (h : pm_H) : tm_L := if s0 = (0 : Int32) then l61_22 lf_N (-x0) x2 x5 s0 h else l61_22 lf_N x0 x2 x5 s0 h
set_option maxRecDepth 20000 in
theorem l61_12_t {w : Option Nat} {d : Nat} {x0 : Int32} {x2 : Option Nat} {x5 : Int32} {s0 : Int32} {h : pm_H} {r : tm_O × pm_H} (hr : l61_12 x0 x2 x5 s0 h = some r) : pm_to pt_P (pt_G (tm_r w)) (d + 0) (pt_g61, []) (tm_m (12, [(0, .inl x0), (2, .inr (.inr x2)), (5, .inl x5)], [.inl s0])) h (tm_e r) := by
  unfold l61_12 at hr
  refine tm_n 2 (F' := (16, [(6, .inl s0), (0, .inl x0), (2, .inr (.inr x2)), (5, .inl x5)], [.inl s0])) rfl ?_
  by_cases c1 : s0 = (0 : Int32)
  · rw [if_pos c1] at hr
    refine tm_ifF rfl (fun q => q c1) ?_
    refine tm_n 3 (F' := (22, [(0, .inl (-x0)), (6, .inl s0), (2, .inr (.inr x2)), (5, .inl x5)], [])) rfl ?_
    refine tm_cut (a := [(0, .inl (-x0)), (2, .inr (.inr x2)), (5, .inl x5), (6, .inl s0)]) rfl (tm_sbs [0, 2, 3, 1] rfl) ?_
    exact l61_22_t lf_N hr
  · rw [if_neg c1] at hr
    refine tm_ifT rfl c1 ?_
    refine tm_cut (a := [(0, .inl x0), (2, .inr (.inr x2)), (5, .inl x5), (6, .inl s0)]) rfl (tm_sbs [1, 2, 3, 0] rfl) ?_
    exact l61_22_t lf_N hr
set_option maxRecDepth 20000 in
def ll_61 (a0 : Int32) (a1 : Int32) (a2 : Option Nat) (h : pm_H) : tm_L := if (0 : Int32) ≤ a0 then l61_12 a0 a2 a1 (0 : Int32) h else l61_12 a0 a2 a1 (1 : Int32) h
set_option maxRecDepth 20000 in
theorem lq_61 {w : Option Nat} {d : Nat} {a0 : Int32} {a1 : Int32} {a2 : Option Nat} {h : pm_H} {r : tm_O × pm_H} (hr : ll_61 a0 a1 a2 h = some r) : tm_run pt_P (pt_G (tm_r w)) (d + 0) 61 [.inl a0, .inl a1, .inr (.inr a2)] h r := by
  unfold ll_61 at hr
  show pm_to pt_P (pt_G (tm_r w)) (d + 0) (pt_g61, []) (tm_m (0, [(0, .inl a0), (1, .inl a1), (2, .inr (.inr a2))], [])) h (tm_e r)
  refine tm_n 3 (F' := (4, [(5, .inl a1), (0, .inl a0), (1, .inl a1), (2, .inr (.inr a2))], [.inl a0])) rfl ?_
  by_cases c1 : (0 : Int32) ≤ a0
  · rw [if_pos c1] at hr
    refine tm_ifT rfl c1 ?_
    refine tm_n 1 (F' := (12, [(5, .inl a1), (0, .inl a0), (1, .inl a1), (2, .inr (.inr a2))], [.inl (0 : Int32)])) rfl ?_
    refine tm_cut (a := [(0, .inl a0), (2, .inr (.inr a2)), (5, .inl a1)]) rfl (tm_sbs [1, 3, 0] rfl) ?_
    exact l61_12_t hr
  · rw [if_neg c1] at hr
    refine tm_ifF rfl c1 ?_
    refine tm_n 2 (F' := (12, [(5, .inl a1), (0, .inl a0), (1, .inl a1), (2, .inr (.inr a2))], [.inl (1 : Int32)])) rfl ?_
    refine tm_cut (a := [(0, .inl a0), (2, .inr (.inr a2)), (5, .inl a1)]) rfl (tm_sbs [1, 3, 0] rfl) ?_
    exact l61_12_t hr
-- java/lang/StringUTF16.getChars(II[B)I
set_option maxRecDepth 20000 in
def l63_112 (x2 : Option Nat) (x5 : Int32) (x6 : Int32) (h : pm_H) : tm_L := if x6 = (0 : Int32) then some (.inl (some (.inl x5)), h) else lb_V (ll_37 x2 (x5 + (-1 : Int32)) (45 : Int32) h) (fun h2 => some (.inl (some (.inl (x5 + (-1 : Int32)))), h2))
set_option maxRecDepth 20000 in
theorem l63_112_t {w : Option Nat} {d : Nat} {x2 : Option Nat} {x5 : Int32} {x6 : Int32} {h : pm_H} {r : tm_O × pm_H} (hr : l63_112 x2 x5 x6 h = some r) : pm_to pt_P (pt_G (tm_r w)) (d + 2) (pt_g63, []) (tm_m (112, [(2, .inr (.inr x2)), (5, .inl x5), (6, .inl x6)], [])) h (tm_e r) := by
  unfold l63_112 at hr
  refine tm_n 1 (F' := (114, [(2, .inr (.inr x2)), (5, .inl x5), (6, .inl x6)], [.inl x6])) rfl ?_
  by_cases c6 : x6 = (0 : Int32)
  · rw [if_pos c6] at hr
    refine tm_ifT rfl c6 ?_
    refine tm_n 1 (F' := (130, [(2, .inr (.inr x2)), (5, .inl x5), (6, .inl x6)], [.inl x5])) rfl ?_
    cases hr
    exact tm_retI rfl rfl
  · rw [if_neg c6] at hr
    refine tm_ifF rfl c6 ?_
    refine tm_n 4 (F' := (125, [(5, .inl (x5 + (-1 : Int32))), (2, .inr (.inr x2)), (6, .inl x6)], [.inl (45 : Int32), .inl (x5 + (-1 : Int32)), .inr (.inr x2)])) rfl ?_
    rcases lb_V_s hr with ⟨h2, m3, hr⟩ | ⟨a4, h2, z5, z5l, m3, qz5, rfl⟩
    · try dsimp only at hr
      refine tm_call rfl rfl (tm_callS rfl rfl) (lq_37 m3) ?_
      refine tm_n 1 (F' := (130, [(5, .inl (x5 + (-1 : Int32))), (2, .inr (.inr x2)), (6, .inl x6)], [.inl (x5 + (-1 : Int32))])) rfl ?_
      cases hr
      exact tm_retI rfl rfl
    · exact tm_callT rfl rfl (tm_callS rfl rfl) (lq_37 m3) qz5 rfl
set_option maxRecDepth 20000 in
def l63_22 : Nat → Int32 → Option Nat → Int32 → Int32 → pm_H → tm_L
  | 0 => fun _ _ _ _ _ => none
  | n + 1 => fun x0 x2 x5 x6 h => if (-100 : Int32) < x0 then (la_I h .baload (some 77) (-x0)).bind fun v1 => lb_V (ll_37 x2 (x5 + (-1 : Int32)) v1 h) (fun h3 => if (-9 : Int32) ≤ x0 then l63_112 x2 (x5 + (-1 : Int32)) x6 h3 else (la_I h3 .baload (some 78) (-x0)).bind fun v5 => lb_V (ll_37 x2 ((x5 + (-1 : Int32)) + (-1 : Int32)) v5 h3) (fun h7 => l63_112 x2 ((x5 + (-1 : Int32)) + (-1 : Int32)) x6 h7)) else (la_I h .baload (some 77) (((x0 / (100 : Int32)) * (100 : Int32)) - x0)).bind fun v14 => lb_V (ll_37 x2 (x5 + (-1 : Int32)) v14 h) (fun h16 => (la_I h16 .baload (some 78) (((x0 / (100 : Int32)) * (100 : Int32)) - x0)).bind fun v18 => lb_V (ll_37 x2 ((x5 + (-1 : Int32)) + (-1 : Int32)) v18 h16) (fun h20 => l63_22 n (x0 / (100 : Int32)) x2 ((x5 + (-1 : Int32)) + (-1 : Int32)) x6 h20))
set_option maxRecDepth 20000 in
theorem l63_22_t {w : Option Nat} {d : Nat} : ∀ (n : Nat) {x0 : Int32} {x2 : Option Nat} {x5 : Int32} {x6 : Int32} {h : pm_H} {r : tm_O × pm_H}, l63_22 n x0 x2 x5 x6 h = some r → pm_to pt_P (pt_G (tm_r w)) (d + 2) (pt_g63, []) (tm_m (22, [(0, .inl x0), (2, .inr (.inr x2)), (5, .inl x5), (6, .inl x6)], [])) h (tm_e r) := by
  intro n
  induction n with
  | zero => intro x0 x2 x5 x6 h r hr; cases hr
  | succ n ih =>
    intro x0 x2 x5 x6 h r hr
    unfold l63_22 at hr
    refine tm_n 2 (F' := (25, [(0, .inl x0), (2, .inr (.inr x2)), (5, .inl x5), (6, .inl x6)], [.inl (-100 : Int32), .inl x0])) rfl ?_
    by_cases c26 : (-100 : Int32) < x0
    · rw [if_pos c26] at hr
      refine tm_icT rfl c26 ?_
      refine tm_n 6 (F' := (87, [(5, .inl (x5 + (-1 : Int32))), (0, .inl x0), (2, .inr (.inr x2)), (6, .inl x6)], [.inl (-x0), .inr (.inr (some 77)), .inl (x5 + (-1 : Int32)), .inr (.inr x2)])) rfl ?_
      obtain ⟨v1, qv1, hr⟩ := Option.bind_eq_some_iff.mp hr
      refine tm_ald rfl rfl (la_I_V qv1) ?_
      rcases lb_V_s hr with ⟨h3, m4, hr⟩ | ⟨a12, h3, z13, z13l, m4, qz13, rfl⟩
      · try dsimp only at hr
        refine tm_call rfl rfl (tm_callS rfl rfl) (lq_37 m4) ?_
        refine tm_n 2 (F' := (94, [(5, .inl (x5 + (-1 : Int32))), (0, .inl x0), (2, .inr (.inr x2)), (6, .inl x6)], [.inl (-9 : Int32), .inl x0])) rfl ?_
        by_cases c11 : (-9 : Int32) ≤ x0
        · rw [if_pos c11] at hr
          refine tm_icT rfl c11 ?_
          refine tm_cut (a := [(2, .inr (.inr x2)), (5, .inl (x5 + (-1 : Int32))), (6, .inl x6)]) rfl (tm_sbs [2, 0, 3] rfl) ?_
          exact l63_112_t hr
        · rw [if_neg c11] at hr
          refine tm_icF rfl c11 ?_
          refine tm_n 6 (F' := (108, [(5, .inl ((x5 + (-1 : Int32)) + (-1 : Int32))), (0, .inl x0), (2, .inr (.inr x2)), (6, .inl x6)], [.inl (-x0), .inr (.inr (some 78)), .inl ((x5 + (-1 : Int32)) + (-1 : Int32)), .inr (.inr x2)])) rfl ?_
          obtain ⟨v5, qv5, hr⟩ := Option.bind_eq_some_iff.mp hr
          refine tm_ald rfl rfl (la_I_V qv5) ?_
          rcases lb_V_s hr with ⟨h7, m8, hr⟩ | ⟨a9, h7, z10, z10l, m8, qz10, rfl⟩
          · try dsimp only at hr
            refine tm_call rfl rfl (tm_callS rfl rfl) (lq_37 m8) ?_
            refine tm_cut (a := [(2, .inr (.inr x2)), (5, .inl ((x5 + (-1 : Int32)) + (-1 : Int32))), (6, .inl x6)]) rfl (tm_sbs [2, 0, 3] rfl) ?_
            exact l63_112_t hr
          · exact tm_callT rfl rfl (tm_callS rfl rfl) (lq_37 m8) qz10 rfl
      · exact tm_callT rfl rfl (tm_callS rfl rfl) (lq_37 m4) qz13 rfl
    · rw [if_neg c26] at hr
      refine tm_icF rfl c26 ?_
      refine tm_n 17 (F' := (54, [(5, .inl (x5 + (-1 : Int32))), (0, .inl (x0 / (100 : Int32))), (4, .inl (((x0 / (100 : Int32)) * (100 : Int32)) - x0)), (3, .inl (x0 / (100 : Int32))), (2, .inr (.inr x2)), (6, .inl x6)], [.inl (((x0 / (100 : Int32)) * (100 : Int32)) - x0), .inr (.inr (some 77)), .inl (x5 + (-1 : Int32)), .inr (.inr x2)])) rfl ?_
      obtain ⟨v14, qv14, hr⟩ := Option.bind_eq_some_iff.mp hr
      refine tm_ald rfl rfl (la_I_V qv14) ?_
      rcases lb_V_s hr with ⟨h16, m17, hr⟩ | ⟨a24, h16, z25, z25l, m17, qz25, rfl⟩
      · try dsimp only at hr
        refine tm_call rfl rfl (tm_callS rfl rfl) (lq_37 m17) ?_
        refine tm_n 5 (F' := (69, [(5, .inl ((x5 + (-1 : Int32)) + (-1 : Int32))), (0, .inl (x0 / (100 : Int32))), (4, .inl (((x0 / (100 : Int32)) * (100 : Int32)) - x0)), (3, .inl (x0 / (100 : Int32))), (2, .inr (.inr x2)), (6, .inl x6)], [.inl (((x0 / (100 : Int32)) * (100 : Int32)) - x0), .inr (.inr (some 78)), .inl ((x5 + (-1 : Int32)) + (-1 : Int32)), .inr (.inr x2)])) rfl ?_
        obtain ⟨v18, qv18, hr⟩ := Option.bind_eq_some_iff.mp hr
        refine tm_ald rfl rfl (la_I_V qv18) ?_
        rcases lb_V_s hr with ⟨h20, m21, hr⟩ | ⟨a22, h20, z23, z23l, m21, qz23, rfl⟩
        · try dsimp only at hr
          refine tm_call rfl rfl (tm_callS rfl rfl) (lq_37 m21) ?_
          refine tm_n 1 (F' := (22, [(5, .inl ((x5 + (-1 : Int32)) + (-1 : Int32))), (0, .inl (x0 / (100 : Int32))), (4, .inl (((x0 / (100 : Int32)) * (100 : Int32)) - x0)), (3, .inl (x0 / (100 : Int32))), (2, .inr (.inr x2)), (6, .inl x6)], [])) rfl ?_
          refine tm_cut (a := [(0, .inl (x0 / (100 : Int32))), (2, .inr (.inr x2)), (5, .inl ((x5 + (-1 : Int32)) + (-1 : Int32))), (6, .inl x6)]) rfl (tm_sbs [1, 4, 0, 5] rfl) ?_
          exact ih hr
        · exact tm_callT rfl rfl (tm_callS rfl rfl) (lq_37 m21) qz23 rfl
      · exact tm_callT rfl rfl (tm_callS rfl rfl) (lq_37 m17) qz25 rfl
set_option maxRecDepth 20000 in
def l63_12 (x0 : Int32) (x2 : Option Nat) (x5 : Int32) (s0 : Int32) (h : pm_H) : tm_L := if s0 = (0 : Int32) then l63_22 lf_N (-x0) x2 x5 s0 h else l63_22 lf_N x0 x2 x5 s0 h
set_option maxRecDepth 20000 in
theorem l63_12_t {w : Option Nat} {d : Nat} {x0 : Int32} {x2 : Option Nat} {x5 : Int32} {s0 : Int32} {h : pm_H} {r : tm_O × pm_H} (hr : l63_12 x0 x2 x5 s0 h = some r) : pm_to pt_P (pt_G (tm_r w)) (d + 2) (pt_g63, []) (tm_m (12, [(0, .inl x0), (2, .inr (.inr x2)), (5, .inl x5)], [.inl s0])) h (tm_e r) := by
  unfold l63_12 at hr
  refine tm_n 2 (F' := (16, [(6, .inl s0), (0, .inl x0), (2, .inr (.inr x2)), (5, .inl x5)], [.inl s0])) rfl ?_
  by_cases c1 : s0 = (0 : Int32)
  · rw [if_pos c1] at hr
    refine tm_ifF rfl (fun q => q c1) ?_
    refine tm_n 3 (F' := (22, [(0, .inl (-x0)), (6, .inl s0), (2, .inr (.inr x2)), (5, .inl x5)], [])) rfl ?_
    refine tm_cut (a := [(0, .inl (-x0)), (2, .inr (.inr x2)), (5, .inl x5), (6, .inl s0)]) rfl (tm_sbs [0, 2, 3, 1] rfl) ?_
    exact l63_22_t lf_N hr
  · rw [if_neg c1] at hr
    refine tm_ifT rfl c1 ?_
    refine tm_cut (a := [(0, .inl x0), (2, .inr (.inr x2)), (5, .inl x5), (6, .inl s0)]) rfl (tm_sbs [1, 2, 3, 0] rfl) ?_
    exact l63_22_t lf_N hr
set_option maxRecDepth 20000 in
def ll_63 (a0 : Int32) (a1 : Int32) (a2 : Option Nat) (h : pm_H) : tm_L := if (0 : Int32) ≤ a0 then l63_12 a0 a2 a1 (0 : Int32) h else l63_12 a0 a2 a1 (1 : Int32) h
set_option maxRecDepth 20000 in
theorem lq_63 {w : Option Nat} {d : Nat} {a0 : Int32} {a1 : Int32} {a2 : Option Nat} {h : pm_H} {r : tm_O × pm_H} (hr : ll_63 a0 a1 a2 h = some r) : tm_run pt_P (pt_G (tm_r w)) (d + 2) 63 [.inl a0, .inl a1, .inr (.inr a2)] h r := by
  unfold ll_63 at hr
  show pm_to pt_P (pt_G (tm_r w)) (d + 2) (pt_g63, []) (tm_m (0, [(0, .inl a0), (1, .inl a1), (2, .inr (.inr a2))], [])) h (tm_e r)
  refine tm_n 3 (F' := (4, [(5, .inl a1), (0, .inl a0), (1, .inl a1), (2, .inr (.inr a2))], [.inl a0])) rfl ?_
  by_cases c1 : (0 : Int32) ≤ a0
  · rw [if_pos c1] at hr
    refine tm_ifT rfl c1 ?_
    refine tm_n 1 (F' := (12, [(5, .inl a1), (0, .inl a0), (1, .inl a1), (2, .inr (.inr a2))], [.inl (0 : Int32)])) rfl ?_
    refine tm_cut (a := [(0, .inl a0), (2, .inr (.inr a2)), (5, .inl a1)]) rfl (tm_sbs [1, 3, 0] rfl) ?_
    exact l63_12_t hr
  · rw [if_neg c1] at hr
    refine tm_ifF rfl c1 ?_
    refine tm_n 2 (F' := (12, [(5, .inl a1), (0, .inl a0), (1, .inl a1), (2, .inr (.inr a2))], [.inl (1 : Int32)])) rfl ?_
    refine tm_cut (a := [(0, .inl a0), (2, .inr (.inr a2)), (5, .inl a1)]) rfl (tm_sbs [1, 3, 0] rfl) ?_
    exact l63_12_t hr
-- java/lang/StringUTF16.getChars(III[B)I
set_option maxRecDepth 20000 in
def ll_62 (w : Option Nat) (a0 : Int32) (a1 : Int32) (a2 : Int32) (a3 : Option Nat) (h : pm_H) : tm_L := lb_V (ll_50 w a1 a2 a3 h) (fun h2 => lb_I (ll_63 a0 a2 a3 h2) (fun v4 h5 => none))
set_option maxRecDepth 20000 in
theorem lq_62 {w : Option Nat} {d : Nat} {a0 : Int32} {a1 : Int32} {a2 : Int32} {a3 : Option Nat} {h : pm_H} {r : tm_O × pm_H} (hr : ll_62 w a0 a1 a2 a3 h = some r) : tm_run pt_P (pt_G (tm_r w)) (d + 3) 62 [.inl a0, .inl a1, .inl a2, .inr (.inr a3)] h r := by
  unfold ll_62 at hr
  show pm_to pt_P (pt_G (tm_r w)) (d + 3) (pt_g62, []) (tm_m (0, [(0, .inl a0), (1, .inl a1), (2, .inl a2), (3, .inr (.inr a3))], [])) h (tm_e r)
  refine tm_n 3 (F' := (3, [(0, .inl a0), (1, .inl a1), (2, .inl a2), (3, .inr (.inr a3))], [.inr (.inr a3), .inl a2, .inl a1])) rfl ?_
  rcases lb_V_s hr with ⟨h2, m3, hr⟩ | ⟨a9, h2, z10, z10l, m3, qz10, rfl⟩
  · try dsimp only at hr
    refine tm_call rfl rfl (tm_callS rfl rfl) (lq_50 m3) ?_
    refine tm_n 3 (F' := (9, [(0, .inl a0), (1, .inl a1), (2, .inl a2), (3, .inr (.inr a3))], [.inr (.inr a3), .inl a2, .inl a0])) rfl ?_
    rcases lb_I_s hr with ⟨v4, h5, m6, hr⟩ | ⟨a7, h5, z8, z8l, m6, qz8, rfl⟩
    · try dsimp only at hr
      refine tm_call rfl rfl (tm_callS rfl rfl) (lq_63 m6) ?_
      cases hr
    · exact tm_callT rfl rfl (tm_callS rfl rfl) (lq_63 m6) qz8 rfl
  · exact tm_callT rfl rfl (tm_callS rfl rfl) (lq_50 m3) qz10 rfl
-- java/lang/AbstractStringBuilder.append(I)Ljava/lang/AbstractStringBuilder;
set_option maxRecDepth 20000 in
def l59_48 (w : Option Nat) (x0 : Option Nat) (x3 : Int32) (h : pm_H) : tm_L := (lf_P 81 h x0 [0, 11, 3] (.inl x3)).bind fun h1 => some (.inl (some (.inr (.inr x0))), h1)
set_option maxRecDepth 20000 in
theorem l59_48_t {w : Option Nat} {d : Nat} {x0 : Option Nat} {x3 : Int32} {h : pm_H} {r : tm_O × pm_H} (hr : l59_48 w x0 x3 h = some r) : pm_to pt_P (pt_G (tm_r w)) (d + 4) (pt_g59, []) (tm_m (48, [(0, .inr (.inr x0)), (3, .inl x3)], [])) h (tm_e r) := by
  unfold l59_48 at hr
  refine tm_n 2 (F' := (50, [(0, .inr (.inr x0)), (3, .inl x3)], [.inl x3, .inr (.inr x0)])) rfl ?_
  obtain ⟨h1, qh1, hr⟩ := Option.bind_eq_some_iff.mp hr
  refine tm_putf rfl qh1 ?_
  refine tm_n 1 (F' := (54, [(0, .inr (.inr x0)), (3, .inl x3)], [.inr (.inr x0)])) rfl ?_
  cases hr
  exact tm_retR rfl
set_option maxRecDepth 20000 in
def ll_59 (w : Option Nat) (a0 : Option Nat) (a1 : Int32) (h : pm_H) : tm_L := (lf_I h a0 [11, 3]).bind fun v1 => lb_I (ll_60 a1 h) (fun v2 h3 => if lc_of h3 a0 = some 11 then lb_V (ll_21 a0 (v1 + v2) h3) (fun h7 => if lc_of h7 a0 = some 11 then lb_I (ll_28 a0 h7) (fun v10 h11 => if v10 = (0 : Int32) then (lf_R h11 a0 [11, 0]).bind fun v13 => lb_I (ll_62 w a1 v1 (v1 + v2) v13 h11) (fun v14 h15 => l59_48 w a0 (v1 + v2) h15) else (lf_R h11 a0 [11, 0]).bind fun v19 => lb_I (ll_61 a1 (v1 + v2) v19 h11) (fun v20 h21 => l59_48 w a0 (v1 + v2) h21)) else none) else none)
set_option maxRecDepth 20000 in
theorem lq_59 {w : Option Nat} {d : Nat} {a0 : Option Nat} {a1 : Int32} {h : pm_H} {r : tm_O × pm_H} (hr : ll_59 w a0 a1 h = some r) : tm_run pt_P (pt_G (tm_r w)) (d + 4) 59 [.inr (.inr a0), .inl a1] h r := by
  unfold ll_59 at hr
  show pm_to pt_P (pt_G (tm_r w)) (d + 4) (pt_g59, []) (tm_m (0, [(0, .inr (.inr a0)), (1, .inl a1)], [])) h (tm_e r)
  refine tm_n 1 (F' := (1, [(0, .inr (.inr a0)), (1, .inl a1)], [.inr (.inr a0)])) rfl ?_
  obtain ⟨v1, qv1, hr⟩ := Option.bind_eq_some_iff.mp hr
  refine tm_getf rfl (lf_I_V qv1) ?_
  refine tm_n 3 (F' := (7, [(2, .inl v1), (0, .inr (.inr a0)), (1, .inl a1)], [.inl a1, .inl v1])) rfl ?_
  rcases lb_I_s hr with ⟨v2, h3, m4, hr⟩ | ⟨a30, h3, z31, z31l, m4, qz31, rfl⟩
  · try dsimp only at hr
    refine tm_call rfl rfl (tm_callS rfl rfl) (lq_60 m4) ?_
    refine tm_n 4 (F' := (14, [(3, .inl (v1 + v2)), (2, .inl v1), (0, .inr (.inr a0)), (1, .inl a1)], [.inl (v1 + v2), .inr (.inr a0)])) rfl ?_
    by_cases c5 : lc_of h3 a0 = some 11
    · rw [if_pos c5] at hr
      rcases lb_V_s hr with ⟨h7, m8, hr⟩ | ⟨a28, h7, z29, z29l, m8, qz29, rfl⟩
      · try dsimp only at hr
        refine tm_call rfl rfl (tm_callV rfl rfl c5 rfl rfl) (lq_21 m8) ?_
        refine tm_n 1 (F' := (18, [(3, .inl (v1 + v2)), (2, .inl v1), (0, .inr (.inr a0)), (1, .inl a1)], [.inr (.inr a0)])) rfl ?_
        by_cases c9 : lc_of h7 a0 = some 11
        · rw [if_pos c9] at hr
          rcases lb_I_s hr with ⟨v10, h11, m12, hr⟩ | ⟨a26, h11, z27, z27l, m12, qz27, rfl⟩
          · try dsimp only at hr
            refine tm_call rfl rfl (tm_callV rfl rfl c9 rfl rfl) (lq_28 m12) ?_
            by_cases c25 : v10 = (0 : Int32)
            · rw [if_pos c25] at hr
              refine tm_ifT rfl c25 ?_
              refine tm_n 4 (F' := (41, [(3, .inl (v1 + v2)), (2, .inl v1), (0, .inr (.inr a0)), (1, .inl a1)], [.inr (.inr a0), .inl (v1 + v2), .inl v1, .inl a1])) rfl ?_
              obtain ⟨v13, qv13, hr⟩ := Option.bind_eq_some_iff.mp hr
              refine tm_getf rfl (lf_R_V qv13) ?_
              rcases lb_I_s hr with ⟨v14, h15, m16, hr⟩ | ⟨a17, h15, z18, z18l, m16, qz18, rfl⟩
              · try dsimp only at hr
                refine tm_call rfl rfl (tm_callS rfl rfl) (lq_62 m16) ?_
                refine tm_n 1 (F' := (48, [(3, .inl (v1 + v2)), (2, .inl v1), (0, .inr (.inr a0)), (1, .inl a1)], [])) rfl ?_
                refine tm_cut (a := [(0, .inr (.inr a0)), (3, .inl (v1 + v2))]) rfl (tm_sbs [2, 0] rfl) ?_
                exact l59_48_t hr
              · exact tm_callT rfl rfl (tm_callS rfl rfl) (lq_62 m16) qz18 rfl
            · rw [if_neg c25] at hr
              refine tm_ifF rfl c25 ?_
              refine tm_n 3 (F' := (27, [(3, .inl (v1 + v2)), (2, .inl v1), (0, .inr (.inr a0)), (1, .inl a1)], [.inr (.inr a0), .inl (v1 + v2), .inl a1])) rfl ?_
              obtain ⟨v19, qv19, hr⟩ := Option.bind_eq_some_iff.mp hr
              refine tm_getf rfl (lf_R_V qv19) ?_
              rcases lb_I_s hr with ⟨v20, h21, m22, hr⟩ | ⟨a23, h21, z24, z24l, m22, qz24, rfl⟩
              · try dsimp only at hr
                refine tm_call rfl rfl (tm_callS rfl rfl) (lq_61 m22) ?_
                refine tm_n 2 (F' := (48, [(3, .inl (v1 + v2)), (2, .inl v1), (0, .inr (.inr a0)), (1, .inl a1)], [])) rfl ?_
                refine tm_cut (a := [(0, .inr (.inr a0)), (3, .inl (v1 + v2))]) rfl (tm_sbs [2, 0] rfl) ?_
                exact l59_48_t hr
              · exact tm_callT rfl rfl (tm_callS rfl rfl) (lq_61 m22) qz24 rfl
          · exact tm_callT rfl rfl (tm_callV rfl rfl c9 rfl rfl) (lq_28 m12) qz27 rfl
        · rw [if_neg c9] at hr
          cases hr
      · exact tm_callT rfl rfl (tm_callV rfl rfl c5 rfl rfl) (lq_21 m8) qz29 rfl
    · rw [if_neg c5] at hr
      cases hr
  · exact tm_callT rfl rfl (tm_callS rfl rfl) (lq_60 m4) qz31 rfl
-- java/lang/StringBuilder.append(I)Ljava/lang/StringBuilder;
set_option maxRecDepth 20000 in
def ll_58 (w : Option Nat) (a0 : Option Nat) (a1 : Int32) (h : pm_H) : tm_L := if lc_of h a0 = some 11 then lb_R (ll_59 w a0 a1 h) (fun v2 h3 => some (.inl (some (.inr (.inr a0))), h3)) else none
set_option maxRecDepth 20000 in
theorem lq_58 {w : Option Nat} {d : Nat} {a0 : Option Nat} {a1 : Int32} {h : pm_H} {r : tm_O × pm_H} (hr : ll_58 w a0 a1 h = some r) : tm_run pt_P (pt_G (tm_r w)) (d + 5) 58 [.inr (.inr a0), .inl a1] h r := by
  unfold ll_58 at hr
  show pm_to pt_P (pt_G (tm_r w)) (d + 5) (pt_g58, []) (tm_m (0, [(0, .inr (.inr a0)), (1, .inl a1)], [])) h (tm_e r)
  refine tm_n 2 (F' := (2, [(0, .inr (.inr a0)), (1, .inl a1)], [.inl a1, .inr (.inr a0)])) rfl ?_
  by_cases c1 : lc_of h a0 = some 11
  · rw [if_pos c1] at hr
    rcases lb_R_s hr with ⟨v2, h3, m4, hr⟩ | ⟨a5, h3, z6, z6l, m4, qz6, rfl⟩
    · try dsimp only at hr
      refine tm_call rfl rfl (tm_callV rfl rfl c1 rfl rfl) (lq_59 m4) ?_
      refine tm_n 2 (F' := (7, [(0, .inr (.inr a0)), (1, .inl a1)], [.inr (.inr a0)])) rfl ?_
      cases hr
      exact tm_retR rfl
    · exact tm_callT rfl rfl (tm_callV rfl rfl c1 rfl rfl) (lq_59 m4) qz6 rfl
  · rw [if_neg c1] at hr
    cases hr
-- java/util/Arrays.rangeCheck(III)V
set_option maxRecDepth 20000 in
def ll_77 (w : Option Nat) (a0 : Int32) (a1 : Int32) (a2 : Int32) (h : pm_H) : tm_L := if a1 ≤ a2 then if (0 : Int32) ≤ a1 then if a2 ≤ a0 then some (.inl none, h) else none else none else none
set_option maxRecDepth 20000 in
theorem lq_77 {w : Option Nat} {d : Nat} {a0 : Int32} {a1 : Int32} {a2 : Int32} {h : pm_H} {r : tm_O × pm_H} (hr : ll_77 w a0 a1 a2 h = some r) : tm_run pt_P (pt_G (tm_r w)) (d + 10) 77 [.inl a0, .inl a1, .inl a2] h r := by
  unfold ll_77 at hr
  show pm_to pt_P (pt_G (tm_r w)) (d + 10) (pt_g77, []) (tm_m (0, [(0, .inl a0), (1, .inl a1), (2, .inl a2)], [])) h (tm_e r)
  refine tm_n 2 (F' := (2, [(0, .inl a0), (1, .inl a1), (2, .inl a2)], [.inl a2, .inl a1])) rfl ?_
  by_cases c3 : a1 ≤ a2
  · rw [if_pos c3] at hr
    refine tm_icT rfl c3 ?_
    refine tm_n 1 (F' := (47, [(0, .inl a0), (1, .inl a1), (2, .inl a2)], [.inl a1])) rfl ?_
    by_cases c2 : (0 : Int32) ≤ a1
    · rw [if_pos c2] at hr
      refine tm_ifT rfl c2 ?_
      refine tm_n 2 (F' := (61, [(0, .inl a0), (1, .inl a1), (2, .inl a2)], [.inl a0, .inl a2])) rfl ?_
      by_cases c1 : a2 ≤ a0
      · rw [if_pos c1] at hr
        refine tm_icT rfl c1 ?_
        cases hr
        exact tm_retV rfl
      · rw [if_neg c1] at hr
        refine tm_icF rfl c1 ?_
        cases hr
    · rw [if_neg c2] at hr
      refine tm_ifF rfl c2 ?_
      cases hr
  · rw [if_neg c3] at hr
    refine tm_icF rfl c3 ?_
    cases hr
-- java/util/Arrays.fill([BIIB)V
set_option maxRecDepth 20000 in
def l76_10 (w : Option Nat) : Nat → Option Nat → Int32 → Int32 → Int32 → pm_H → tm_L
  | 0 => fun _ _ _ _ _ => none
  | n + 1 => fun x0 x2 x3 x4 h => if x2 ≤ x4 then some (.inl none, h) else (la_S pt_P h .bastore x0 x4 (.inl x3)).bind fun h1 => l76_10 w n x0 x2 x3 (x4 + (1 : Int32)) h1
set_option maxRecDepth 20000 in
theorem l76_10_t {w : Option Nat} {d : Nat} : ∀ (n : Nat) {x0 : Option Nat} {x2 : Int32} {x3 : Int32} {x4 : Int32} {h : pm_H} {r : tm_O × pm_H}, l76_10 w n x0 x2 x3 x4 h = some r → pm_to pt_P (pt_G (tm_r w)) (d + 11) (pt_g76, []) (tm_m (10, [(0, .inr (.inr x0)), (2, .inl x2), (3, .inl x3), (4, .inl x4)], [])) h (tm_e r) := by
  intro n
  induction n with
  | zero => intro x0 x2 x3 x4 h r hr; cases hr
  | succ n ih =>
    intro x0 x2 x3 x4 h r hr
    unfold l76_10 at hr
    refine tm_n 2 (F' := (13, [(0, .inr (.inr x0)), (2, .inl x2), (3, .inl x3), (4, .inl x4)], [.inl x2, .inl x4])) rfl ?_
    by_cases c2 : x2 ≤ x4
    · rw [if_pos c2] at hr
      refine tm_icT rfl c2 ?_
      cases hr
      exact tm_retV rfl
    · rw [if_neg c2] at hr
      refine tm_icF rfl c2 ?_
      refine tm_n 3 (F' := (20, [(0, .inr (.inr x0)), (2, .inl x2), (3, .inl x3), (4, .inl x4)], [.inl x3, .inl x4, .inr (.inr x0)])) rfl ?_
      obtain ⟨h1, qh1, hr⟩ := Option.bind_eq_some_iff.mp hr
      refine tm_ast rfl rfl qh1 ?_
      refine tm_n 2 (F' := (10, [(4, .inl (x4 + (1 : Int32))), (0, .inr (.inr x0)), (2, .inl x2), (3, .inl x3)], [])) rfl ?_
      refine tm_cut (a := [(0, .inr (.inr x0)), (2, .inl x2), (3, .inl x3), (4, .inl (x4 + (1 : Int32)))]) rfl (tm_sbs [1, 2, 3, 0] rfl) ?_
      exact ih hr
set_option maxRecDepth 20000 in
def ll_76 (w : Option Nat) (a0 : Option Nat) (a1 : Int32) (a2 : Int32) (a3 : Int32) (h : pm_H) : tm_L := (la_len h a0).bind fun v1 => lb_V (ll_77 w v1 a1 a2 h) (fun h3 => l76_10 w lf_N a0 a2 a3 a1 h3)
set_option maxRecDepth 20000 in
theorem lq_76 {w : Option Nat} {d : Nat} {a0 : Option Nat} {a1 : Int32} {a2 : Int32} {a3 : Int32} {h : pm_H} {r : tm_O × pm_H} (hr : ll_76 w a0 a1 a2 a3 h = some r) : tm_run pt_P (pt_G (tm_r w)) (d + 11) 76 [.inr (.inr a0), .inl a1, .inl a2, .inl a3] h r := by
  unfold ll_76 at hr
  show pm_to pt_P (pt_G (tm_r w)) (d + 11) (pt_g76, []) (tm_m (0, [(0, .inr (.inr a0)), (1, .inl a1), (2, .inl a2), (3, .inl a3)], [])) h (tm_e r)
  refine tm_n 1 (F' := (1, [(0, .inr (.inr a0)), (1, .inl a1), (2, .inl a2), (3, .inl a3)], [.inr (.inr a0)])) rfl ?_
  obtain ⟨v1, qv1, hr⟩ := Option.bind_eq_some_iff.mp hr
  refine tm_alen rfl qv1 ?_
  refine tm_n 2 (F' := (4, [(0, .inr (.inr a0)), (1, .inl a1), (2, .inl a2), (3, .inl a3)], [.inl a2, .inl a1, .inl v1])) rfl ?_
  rcases lb_V_s hr with ⟨h3, m4, hr⟩ | ⟨a5, h3, z6, z6l, m4, qz6, rfl⟩
  · try dsimp only at hr
    refine tm_call rfl rfl (tm_callS rfl rfl) (lq_77 m4) ?_
    refine tm_n 2 (F' := (10, [(4, .inl a1), (0, .inr (.inr a0)), (1, .inl a1), (2, .inl a2), (3, .inl a3)], [])) rfl ?_
    refine tm_cut (a := [(0, .inr (.inr a0)), (2, .inl a2), (3, .inl a3), (4, .inl a1)]) rfl (tm_sbs [1, 3, 4, 0] rfl) ?_
    exact l76_10_t lf_N hr
  · exact tm_callT rfl rfl (tm_callS rfl rfl) (lq_77 m4) qz6 rfl
-- java/lang/StringLatin1.fillNull([BII)V
set_option maxRecDepth 20000 in
def ll_75 (w : Option Nat) (a0 : Option Nat) (a1 : Int32) (a2 : Int32) (h : pm_H) : tm_L := lb_V (ll_76 w a0 a1 a2 (0 : Int32) h) (fun h2 => some (.inl none, h2))
set_option maxRecDepth 20000 in
theorem lq_75 {w : Option Nat} {d : Nat} {a0 : Option Nat} {a1 : Int32} {a2 : Int32} {h : pm_H} {r : tm_O × pm_H} (hr : ll_75 w a0 a1 a2 h = some r) : tm_run pt_P (pt_G (tm_r w)) (d + 12) 75 [.inr (.inr a0), .inl a1, .inl a2] h r := by
  unfold ll_75 at hr
  show pm_to pt_P (pt_G (tm_r w)) (d + 12) (pt_g75, []) (tm_m (0, [(0, .inr (.inr a0)), (1, .inl a1), (2, .inl a2)], [])) h (tm_e r)
  refine tm_n 4 (F' := (4, [(0, .inr (.inr a0)), (1, .inl a1), (2, .inl a2)], [.inl (0 : Int32), .inl a2, .inl a1, .inr (.inr a0)])) rfl ?_
  rcases lb_V_s hr with ⟨h2, m3, hr⟩ | ⟨a4, h2, z5, z5l, m3, qz5, rfl⟩
  · try dsimp only at hr
    refine tm_call rfl rfl (tm_callS rfl rfl) (lq_76 m3) ?_
    cases hr
    exact tm_retV rfl
  · exact tm_callT rfl rfl (tm_callS rfl rfl) (lq_76 m3) qz5 rfl
-- java/lang/StringUTF16.fillNull([BII)V
set_option maxRecDepth 20000 in
def ll_78 (w : Option Nat) (a0 : Option Nat) (a1 : Int32) (a2 : Int32) (h : pm_H) : tm_L := lb_V (ll_76 w a0 (a1 <<< ((1 : Int32) &&& 31)) (a2 <<< ((1 : Int32) &&& 31)) (0 : Int32) h) (fun h2 => some (.inl none, h2))
set_option maxRecDepth 20000 in
theorem lq_78 {w : Option Nat} {d : Nat} {a0 : Option Nat} {a1 : Int32} {a2 : Int32} {h : pm_H} {r : tm_O × pm_H} (hr : ll_78 w a0 a1 a2 h = some r) : tm_run pt_P (pt_G (tm_r w)) (d + 12) 78 [.inr (.inr a0), .inl a1, .inl a2] h r := by
  unfold ll_78 at hr
  show pm_to pt_P (pt_G (tm_r w)) (d + 12) (pt_g78, []) (tm_m (0, [(0, .inr (.inr a0)), (1, .inl a1), (2, .inl a2)], [])) h (tm_e r)
  refine tm_n 8 (F' := (8, [(0, .inr (.inr a0)), (1, .inl a1), (2, .inl a2)], [.inl (0 : Int32), .inl (a2 <<< ((1 : Int32) &&& 31)), .inl (a1 <<< ((1 : Int32) &&& 31)), .inr (.inr a0)])) rfl ?_
  rcases lb_V_s hr with ⟨h2, m3, hr⟩ | ⟨a4, h2, z5, z5l, m3, qz5, rfl⟩
  · try dsimp only at hr
    refine tm_call rfl rfl (tm_callS rfl rfl) (lq_76 m3) ?_
    cases hr
    exact tm_retV rfl
  · exact tm_callT rfl rfl (tm_callS rfl rfl) (lq_76 m3) qz5 rfl
-- java/lang/AbstractStringBuilder.setLength(I)V
set_option maxRecDepth 20000 in
def l45_76 (w : Option Nat) (x0 : Option Nat) (x1 : Int32) (h : pm_H) : tm_L := (lf_P 81 h x0 [0, 11, 3] (.inl x1)).bind fun h1 => some (.inl none, h1)
set_option maxRecDepth 20000 in
theorem l45_76_t {w : Option Nat} {d : Nat} {x0 : Option Nat} {x1 : Int32} {h : pm_H} {r : tm_O × pm_H} (hr : l45_76 w x0 x1 h = some r) : pm_to pt_P (pt_G (tm_r w)) (d + 13) (pt_g45, []) (tm_m (76, [(0, .inr (.inr x0)), (1, .inl x1)], [])) h (tm_e r) := by
  unfold l45_76 at hr
  refine tm_n 2 (F' := (78, [(0, .inr (.inr x0)), (1, .inl x1)], [.inl x1, .inr (.inr x0)])) rfl ?_
  obtain ⟨h1, qh1, hr⟩ := Option.bind_eq_some_iff.mp hr
  refine tm_putf rfl qh1 ?_
  cases hr
  exact tm_retV rfl
set_option maxRecDepth 20000 in
def ll_45 (w : Option Nat) (a0 : Option Nat) (a1 : Int32) (h : pm_H) : tm_L := if (0 : Int32) ≤ a1 then if lc_of h a0 = some 11 then lb_V (ll_21 a0 a1 h) (fun h3 => (lf_I h3 a0 [11, 3]).bind fun v5 => if a1 ≤ v5 then (lf_I h3 a0 [11, 3]).bind fun v6 => if v6 ≤ a1 then l45_76 w a0 a1 h3 else (lf_P 81 h3 a0 [3, 11, 2] (.inl (1 : Int32))).bind fun h7 => l45_76 w a0 a1 h7 else if lc_of h3 a0 = some 11 then lb_I (ll_28 a0 h3) (fun v10 h11 => if v10 = (0 : Int32) then (lf_R h11 a0 [11, 0]).bind fun v13 => (lf_I h11 a0 [11, 3]).bind fun v14 => lb_V (ll_78 w v13 v14 a1 h11) (fun h16 => l45_76 w a0 a1 h16) else (lf_R h11 a0 [11, 0]).bind fun v20 => (lf_I h11 a0 [11, 3]).bind fun v21 => lb_V (ll_75 w v20 v21 a1 h11) (fun h23 => l45_76 w a0 a1 h23)) else none) else none else none
set_option maxRecDepth 20000 in
theorem lq_45 {w : Option Nat} {d : Nat} {a0 : Option Nat} {a1 : Int32} {h : pm_H} {r : tm_O × pm_H} (hr : ll_45 w a0 a1 h = some r) : tm_run pt_P (pt_G (tm_r w)) (d + 13) 45 [.inr (.inr a0), .inl a1] h r := by
  unfold ll_45 at hr
  show pm_to pt_P (pt_G (tm_r w)) (d + 13) (pt_g45, []) (tm_m (0, [(0, .inr (.inr a0)), (1, .inl a1)], [])) h (tm_e r)
  refine tm_n 1 (F' := (1, [(0, .inr (.inr a0)), (1, .inl a1)], [.inl a1])) rfl ?_
  by_cases c33 : (0 : Int32) ≤ a1
  · rw [if_pos c33] at hr
    refine tm_ifT rfl c33 ?_
    refine tm_n 2 (F' := (15, [(0, .inr (.inr a0)), (1, .inl a1)], [.inl a1, .inr (.inr a0)])) rfl ?_
    by_cases c1 : lc_of h a0 = some 11
    · rw [if_pos c1] at hr
      rcases lb_V_s hr with ⟨h3, m4, hr⟩ | ⟨a31, h3, z32, z32l, m4, qz32, rfl⟩
      · try dsimp only at hr
        refine tm_call rfl rfl (tm_callV rfl rfl c1 rfl rfl) (lq_21 m4) ?_
        refine tm_n 1 (F' := (19, [(0, .inr (.inr a0)), (1, .inl a1)], [.inr (.inr a0)])) rfl ?_
        obtain ⟨v5, qv5, hr⟩ := Option.bind_eq_some_iff.mp hr
        refine tm_getf rfl (lf_I_V qv5) ?_
        refine tm_n 1 (F' := (23, [(0, .inr (.inr a0)), (1, .inl a1)], [.inl a1, .inl v5])) rfl ?_
        by_cases c30 : a1 ≤ v5
        · rw [if_pos c30] at hr
          refine tm_icT rfl c30 ?_
          refine tm_n 1 (F' := (64, [(0, .inr (.inr a0)), (1, .inl a1)], [.inr (.inr a0)])) rfl ?_
          obtain ⟨v6, qv6, hr⟩ := Option.bind_eq_some_iff.mp hr
          refine tm_getf rfl (lf_I_V qv6) ?_
          refine tm_n 1 (F' := (68, [(0, .inr (.inr a0)), (1, .inl a1)], [.inl a1, .inl v6])) rfl ?_
          by_cases c8 : v6 ≤ a1
          · rw [if_pos c8] at hr
            refine tm_icT rfl c8 ?_
            refine tm_cut (a := [(0, .inr (.inr a0)), (1, .inl a1)]) rfl (tm_sbs [0, 1] rfl) ?_
            exact l45_76_t hr
          · rw [if_neg c8] at hr
            refine tm_icF rfl c8 ?_
            refine tm_n 2 (F' := (73, [(0, .inr (.inr a0)), (1, .inl a1)], [.inl (1 : Int32), .inr (.inr a0)])) rfl ?_
            obtain ⟨h7, qh7, hr⟩ := Option.bind_eq_some_iff.mp hr
            refine tm_putf rfl qh7 ?_
            refine tm_cut (a := [(0, .inr (.inr a0)), (1, .inl a1)]) rfl (tm_sbs [0, 1] rfl) ?_
            exact l45_76_t hr
        · rw [if_neg c30] at hr
          refine tm_icF rfl c30 ?_
          refine tm_n 1 (F' := (27, [(0, .inr (.inr a0)), (1, .inl a1)], [.inr (.inr a0)])) rfl ?_
          by_cases c9 : lc_of h3 a0 = some 11
          · rw [if_pos c9] at hr
            rcases lb_I_s hr with ⟨v10, h11, m12, hr⟩ | ⟨a28, h11, z29, z29l, m12, qz29, rfl⟩
            · try dsimp only at hr
              refine tm_call rfl rfl (tm_callV rfl rfl c9 rfl rfl) (lq_28 m12) ?_
              by_cases c27 : v10 = (0 : Int32)
              · rw [if_pos c27] at hr
                refine tm_ifT rfl c27 ?_
                refine tm_n 1 (F' := (49, [(0, .inr (.inr a0)), (1, .inl a1)], [.inr (.inr a0)])) rfl ?_
                obtain ⟨v13, qv13, hr⟩ := Option.bind_eq_some_iff.mp hr
                refine tm_getf rfl (lf_R_V qv13) ?_
                refine tm_n 1 (F' := (53, [(0, .inr (.inr a0)), (1, .inl a1)], [.inr (.inr a0), .inr (.inr v13)])) rfl ?_
                obtain ⟨v14, qv14, hr⟩ := Option.bind_eq_some_iff.mp hr
                refine tm_getf rfl (lf_I_V qv14) ?_
                refine tm_n 1 (F' := (57, [(0, .inr (.inr a0)), (1, .inl a1)], [.inl a1, .inl v14, .inr (.inr v13)])) rfl ?_
                rcases lb_V_s hr with ⟨h16, m17, hr⟩ | ⟨a18, h16, z19, z19l, m17, qz19, rfl⟩
                · try dsimp only at hr
                  refine tm_call rfl rfl (tm_callS rfl rfl) (lq_78 m17) ?_
                  refine tm_n 1 (F' := (76, [(0, .inr (.inr a0)), (1, .inl a1)], [])) rfl ?_
                  refine tm_cut (a := [(0, .inr (.inr a0)), (1, .inl a1)]) rfl (tm_sbs [0, 1] rfl) ?_
                  exact l45_76_t hr
                · exact tm_callT rfl rfl (tm_callS rfl rfl) (lq_78 m17) qz19 rfl
              · rw [if_neg c27] at hr
                refine tm_ifF rfl c27 ?_
                refine tm_n 1 (F' := (34, [(0, .inr (.inr a0)), (1, .inl a1)], [.inr (.inr a0)])) rfl ?_
                obtain ⟨v20, qv20, hr⟩ := Option.bind_eq_some_iff.mp hr
                refine tm_getf rfl (lf_R_V qv20) ?_
                refine tm_n 1 (F' := (38, [(0, .inr (.inr a0)), (1, .inl a1)], [.inr (.inr a0), .inr (.inr v20)])) rfl ?_
                obtain ⟨v21, qv21, hr⟩ := Option.bind_eq_some_iff.mp hr
                refine tm_getf rfl (lf_I_V qv21) ?_
                refine tm_n 1 (F' := (42, [(0, .inr (.inr a0)), (1, .inl a1)], [.inl a1, .inl v21, .inr (.inr v20)])) rfl ?_
                rcases lb_V_s hr with ⟨h23, m24, hr⟩ | ⟨a25, h23, z26, z26l, m24, qz26, rfl⟩
                · try dsimp only at hr
                  refine tm_call rfl rfl (tm_callS rfl rfl) (lq_75 m24) ?_
                  refine tm_n 1 (F' := (76, [(0, .inr (.inr a0)), (1, .inl a1)], [])) rfl ?_
                  refine tm_cut (a := [(0, .inr (.inr a0)), (1, .inl a1)]) rfl (tm_sbs [0, 1] rfl) ?_
                  exact l45_76_t hr
                · exact tm_callT rfl rfl (tm_callS rfl rfl) (lq_75 m24) qz26 rfl
            · exact tm_callT rfl rfl (tm_callV rfl rfl c9 rfl rfl) (lq_28 m12) qz29 rfl
          · rw [if_neg c9] at hr
            cases hr
      · exact tm_callT rfl rfl (tm_callV rfl rfl c1 rfl rfl) (lq_21 m4) qz32 rfl
    · rw [if_neg c1] at hr
      cases hr
  · rw [if_neg c33] at hr
    refine tm_ifF rfl c33 ?_
    cases hr
-- java/lang/StringBuilder.setLength(I)V
set_option maxRecDepth 20000 in
def ll_44 (w : Option Nat) (a0 : Option Nat) (a1 : Int32) (h : pm_H) : tm_L := if lc_of h a0 = some 11 then lb_V (ll_45 w a0 a1 h) (fun h3 => some (.inl none, h3)) else none
set_option maxRecDepth 20000 in
theorem lq_44 {w : Option Nat} {d : Nat} {a0 : Option Nat} {a1 : Int32} {h : pm_H} {r : tm_O × pm_H} (hr : ll_44 w a0 a1 h = some r) : tm_run pt_P (pt_G (tm_r w)) (d + 14) 44 [.inr (.inr a0), .inl a1] h r := by
  unfold ll_44 at hr
  show pm_to pt_P (pt_G (tm_r w)) (d + 14) (pt_g44, []) (tm_m (0, [(0, .inr (.inr a0)), (1, .inl a1)], [])) h (tm_e r)
  refine tm_n 2 (F' := (2, [(0, .inr (.inr a0)), (1, .inl a1)], [.inl a1, .inr (.inr a0)])) rfl ?_
  by_cases c1 : lc_of h a0 = some 11
  · rw [if_pos c1] at hr
    rcases lb_V_s hr with ⟨h3, m4, hr⟩ | ⟨a5, h3, z6, z6l, m4, qz6, rfl⟩
    · try dsimp only at hr
      refine tm_call rfl rfl (tm_callV rfl rfl c1 rfl rfl) (lq_45 m4) ?_
      cases hr
      exact tm_retV rfl
    · exact tm_callT rfl rfl (tm_callV rfl rfl c1 rfl rfl) (lq_45 m4) qz6 rfl
  · rw [if_neg c1] at hr
    cases hr
-- OfficeSheet.cut(I)V
set_option maxRecDepth 20000 in
def ll_43 (w : Option Nat) (a0 : Option Nat) (a1 : Int32) (h : pm_H) : tm_L := if a1 < (0 : Int32) then some (.inr h.1.length, lf_new h 14 6 []) else (lf_R h a0 [0, 1]).bind fun v1 => (lf_R h v1 [1, 0]).bind fun v2 => if lc_of h v2 = some 11 then lb_I (ll_17 v2 h) (fun v4 h5 => if a1 ≤ v4 then (lf_R h5 a0 [0, 1]).bind fun v7 => (lf_R h5 v7 [1, 0]).bind fun v8 => if lc_of h5 v8 = some 11 then lb_V (ll_44 w v8 a1 h5) (fun h11 => some (.inl none, h11)) else none else some (.inr h5.1.length, lf_new h5 14 6 [])) else none
set_option maxRecDepth 20000 in
theorem lq_43 {w : Option Nat} {d : Nat} {a0 : Option Nat} {a1 : Int32} {h : pm_H} {r : tm_O × pm_H} (hr : ll_43 w a0 a1 h = some r) : tm_run pt_P (pt_G (tm_r w)) (d + 15) 43 [.inr (.inr a0), .inl a1] h r := by
  unfold ll_43 at hr
  show pm_to pt_P (pt_G (tm_r w)) (d + 15) (pt_g43, []) (tm_m (0, [(0, .inr (.inr a0)), (1, .inl a1)], [])) h (tm_e r)
  refine tm_n 1 (F' := (1, [(0, .inr (.inr a0)), (1, .inl a1)], [.inl a1])) rfl ?_
  by_cases c18 : a1 < (0 : Int32)
  · rw [if_pos c18] at hr
    refine tm_ifT rfl c18 ?_
    cases hr
    exact tm_thr rfl
  · rw [if_neg c18] at hr
    refine tm_ifF rfl c18 ?_
    refine tm_n 2 (F' := (6, [(0, .inr (.inr a0)), (1, .inl a1)], [.inr (.inr a0), .inl a1])) rfl ?_
    obtain ⟨v1, qv1, hr⟩ := Option.bind_eq_some_iff.mp hr
    refine tm_getf rfl (lf_R_V qv1) ?_
    obtain ⟨v2, qv2, hr⟩ := Option.bind_eq_some_iff.mp hr
    refine tm_getf rfl (lf_R_V qv2) ?_
    by_cases c3 : lc_of h v2 = some 11
    · rw [if_pos c3] at hr
      rcases lb_I_s hr with ⟨v4, h5, m6, hr⟩ | ⟨a16, h5, z17, z17l, m6, qz17, rfl⟩
      · try dsimp only at hr
        refine tm_call rfl rfl (tm_callV rfl rfl c3 rfl rfl) (lq_17 m6) ?_
        by_cases c15 : a1 ≤ v4
        · rw [if_pos c15] at hr
          refine tm_icT rfl c15 ?_
          refine tm_n 1 (F' := (29, [(0, .inr (.inr a0)), (1, .inl a1)], [.inr (.inr a0)])) rfl ?_
          obtain ⟨v7, qv7, hr⟩ := Option.bind_eq_some_iff.mp hr
          refine tm_getf rfl (lf_R_V qv7) ?_
          obtain ⟨v8, qv8, hr⟩ := Option.bind_eq_some_iff.mp hr
          refine tm_getf rfl (lf_R_V qv8) ?_
          refine tm_n 1 (F' := (36, [(0, .inr (.inr a0)), (1, .inl a1)], [.inl a1, .inr (.inr v8)])) rfl ?_
          by_cases c9 : lc_of h5 v8 = some 11
          · rw [if_pos c9] at hr
            rcases lb_V_s hr with ⟨h11, m12, hr⟩ | ⟨a13, h11, z14, z14l, m12, qz14, rfl⟩
            · try dsimp only at hr
              refine tm_call rfl rfl (tm_callV rfl rfl c9 rfl rfl) (lq_44 m12) ?_
              cases hr
              exact tm_retV rfl
            · exact tm_callT rfl rfl (tm_callV rfl rfl c9 rfl rfl) (lq_44 m12) qz14 rfl
          · rw [if_neg c9] at hr
            cases hr
        · rw [if_neg c15] at hr
          refine tm_icF rfl c15 ?_
          cases hr
          exact tm_thr rfl
      · exact tm_callT rfl rfl (tm_callV rfl rfl c3 rfl rfl) (lq_17 m6) qz17 rfl
    · rw [if_neg c3] at hr
      cases hr
-- OfficeSheetLaw.cut(LOfficeSheet;I)I
set_option maxRecDepth 20000 in
def ll_42 (w : Option Nat) (a0 : Option Nat) (a1 : Int32) (h : pm_H) : tm_L := if lc_of h a0 = some 0 then lh_V (ll_43 w a0 a1 h) (fun h3 => some (.inl (some (.inl (0 : Int32))), h3)) (fun a5 z6 h3 => if z6 = 14 then some (.inl (some (.inl (1 : Int32))), h3) else none) else none
set_option maxRecDepth 20000 in
theorem lq_42 {w : Option Nat} {d : Nat} {a0 : Option Nat} {a1 : Int32} {h : pm_H} {r : tm_O × pm_H} (hr : ll_42 w a0 a1 h = some r) : tm_run pt_P (pt_G (tm_r w)) (d + 16) 42 [.inr (.inr a0), .inl a1] h r := by
  unfold ll_42 at hr
  show pm_to pt_P (pt_G (tm_r w)) (d + 16) (pt_g42, [(0, 5, 8, [14])]) (tm_m (0, [(0, .inr (.inr a0)), (1, .inl a1)], [])) h (tm_e r)
  refine tm_n 2 (F' := (2, [(0, .inr (.inr a0)), (1, .inl a1)], [.inl a1, .inr (.inr a0)])) rfl ?_
  by_cases c1 : lc_of h a0 = some 0
  · rw [if_pos c1] at hr
    rcases lh_V_s hr with ⟨h3, m4, hr⟩ | ⟨a5, h3, z6, z6l, m4, qz6, hr⟩
    · try dsimp only at hr
      refine tm_call rfl rfl (tm_callV rfl rfl c1 rfl rfl) (lq_43 m4) ?_
      refine tm_n 2 (F' := (12, [(0, .inr (.inr a0)), (1, .inl a1)], [.inl (0 : Int32)])) rfl ?_
      cases hr
      exact tm_retI rfl rfl
    · try dsimp only at hr
      by_cases c7 : z6 = 14
      · rw [if_pos c7] at hr
        subst c7
        refine tm_callC rfl rfl (tm_callV rfl rfl c1 rfl rfl) (lq_43 m4) qz6 rfl ?_
        refine tm_n 2 (F' := (10, [(2, .inr (.inr (some a5))), (0, .inr (.inr a0)), (1, .inl a1)], [.inl (1 : Int32)])) rfl ?_
        cases hr
        exact tm_retI rfl rfl
      · rw [if_neg c7] at hr
        cases hr
  · rw [if_neg c1] at hr
    cases hr
-- OfficeSheet.officeOf(I)LOfficeSheet$Office;
set_option maxRecDepth 20000 in
def ll_81 (a0 : Option Nat) (a1 : Int32) (h : pm_H) : tm_L := if a1 < (0 : Int32) then some (.inr h.1.length, lf_new h 14 6 []) else if a1 < (3 : Int32) then (lf_R h a0 [0, 0]).bind fun v1 => (la_R h .aaload v1 a1).bind fun v2 => some (.inl (some (.inr (.inr v2))), h) else some (.inr h.1.length, lf_new h 14 6 [])
set_option maxRecDepth 20000 in
theorem lq_81 {w : Option Nat} {d : Nat} {a0 : Option Nat} {a1 : Int32} {h : pm_H} {r : tm_O × pm_H} (hr : ll_81 a0 a1 h = some r) : tm_run pt_P (pt_G (tm_r w)) (d + 0) 81 [.inr (.inr a0), .inl a1] h r := by
  unfold ll_81 at hr
  show pm_to pt_P (pt_G (tm_r w)) (d + 0) (pt_g81, []) (tm_m (0, [(0, .inr (.inr a0)), (1, .inl a1)], [])) h (tm_e r)
  refine tm_n 1 (F' := (1, [(0, .inr (.inr a0)), (1, .inl a1)], [.inl a1])) rfl ?_
  by_cases c4 : a1 < (0 : Int32)
  · rw [if_pos c4] at hr
    refine tm_ifT rfl c4 ?_
    cases hr
    exact tm_thr rfl
  · rw [if_neg c4] at hr
    refine tm_ifF rfl c4 ?_
    refine tm_n 2 (F' := (6, [(0, .inr (.inr a0)), (1, .inl a1)], [.inl (3 : Int32), .inl a1])) rfl ?_
    by_cases c3 : a1 < (3 : Int32)
    · rw [if_pos c3] at hr
      refine tm_icT rfl c3 ?_
      refine tm_n 1 (F' := (20, [(0, .inr (.inr a0)), (1, .inl a1)], [.inr (.inr a0)])) rfl ?_
      obtain ⟨v1, qv1, hr⟩ := Option.bind_eq_some_iff.mp hr
      refine tm_getf rfl (lf_R_V qv1) ?_
      refine tm_n 1 (F' := (24, [(0, .inr (.inr a0)), (1, .inl a1)], [.inl a1, .inr (.inr v1)])) rfl ?_
      obtain ⟨v2, qv2, hr⟩ := Option.bind_eq_some_iff.mp hr
      refine tm_ald rfl rfl (la_R_V qv2) ?_
      cases hr
      exact tm_retR rfl
    · rw [if_neg c3] at hr
      refine tm_icF rfl c3 ?_
      cases hr
      exact tm_thr rfl
-- OfficeSheet.axisOf(LOfficeSheet$Office;I)LOfficeSheet$Axis;
set_option maxRecDepth 20000 in
def ll_82 (a0 : Option Nat) (a1 : Int32) (h : pm_H) : tm_L := if a1 < (0 : Int32) then some (.inr h.1.length, lf_new h 14 6 []) else if a1 < (2 : Int32) then (lf_R h a0 [4, 3]).bind fun v1 => (la_R h .aaload v1 a1).bind fun v2 => some (.inl (some (.inr (.inr v2))), h) else some (.inr h.1.length, lf_new h 14 6 [])
set_option maxRecDepth 20000 in
theorem lq_82 {w : Option Nat} {d : Nat} {a0 : Option Nat} {a1 : Int32} {h : pm_H} {r : tm_O × pm_H} (hr : ll_82 a0 a1 h = some r) : tm_run pt_P (pt_G (tm_r w)) (d + 0) 82 [.inr (.inr a0), .inl a1] h r := by
  unfold ll_82 at hr
  show pm_to pt_P (pt_G (tm_r w)) (d + 0) (pt_g82, []) (tm_m (0, [(0, .inr (.inr a0)), (1, .inl a1)], [])) h (tm_e r)
  refine tm_n 1 (F' := (1, [(0, .inr (.inr a0)), (1, .inl a1)], [.inl a1])) rfl ?_
  by_cases c4 : a1 < (0 : Int32)
  · rw [if_pos c4] at hr
    refine tm_ifT rfl c4 ?_
    cases hr
    exact tm_thr rfl
  · rw [if_neg c4] at hr
    refine tm_ifF rfl c4 ?_
    refine tm_n 2 (F' := (6, [(0, .inr (.inr a0)), (1, .inl a1)], [.inl (2 : Int32), .inl a1])) rfl ?_
    by_cases c3 : a1 < (2 : Int32)
    · rw [if_pos c3] at hr
      refine tm_icT rfl c3 ?_
      refine tm_n 1 (F' := (20, [(0, .inr (.inr a0)), (1, .inl a1)], [.inr (.inr a0)])) rfl ?_
      obtain ⟨v1, qv1, hr⟩ := Option.bind_eq_some_iff.mp hr
      refine tm_getf rfl (lf_R_V qv1) ?_
      refine tm_n 1 (F' := (24, [(0, .inr (.inr a0)), (1, .inl a1)], [.inl a1, .inr (.inr v1)])) rfl ?_
      obtain ⟨v2, qv2, hr⟩ := Option.bind_eq_some_iff.mp hr
      refine tm_ald rfl rfl (la_R_V qv2) ?_
      cases hr
      exact tm_retR rfl
    · rw [if_neg c3] at hr
      refine tm_icF rfl c3 ?_
      cases hr
      exact tm_thr rfl
-- java/util/ArrayList.size()I
set_option maxRecDepth 20000 in
def ll_86 (a0 : Option Nat) (h : pm_H) : tm_L := (lf_I h a0 [12, 1]).bind fun v1 => some (.inl (some (.inl v1)), h)
set_option maxRecDepth 20000 in
theorem lq_86 {w : Option Nat} {d : Nat} {a0 : Option Nat} {h : pm_H} {r : tm_O × pm_H} (hr : ll_86 a0 h = some r) : tm_run pt_P (pt_G (tm_r w)) (d + 0) 86 [.inr (.inr a0)] h r := by
  unfold ll_86 at hr
  show pm_to pt_P (pt_G (tm_r w)) (d + 0) (pt_g86, []) (tm_m (0, [(0, .inr (.inr a0))], [])) h (tm_e r)
  refine tm_n 1 (F' := (1, [(0, .inr (.inr a0))], [.inr (.inr a0)])) rfl ?_
  obtain ⟨v1, qv1, hr⟩ := Option.bind_eq_some_iff.mp hr
  refine tm_getf rfl (lf_I_V qv1) ?_
  cases hr
  exact tm_retI rfl rfl
-- OfficeSheet$Axis.count()I
set_option maxRecDepth 20000 in
def ll_85 (a0 : Option Nat) (h : pm_H) : tm_L := (lf_R h a0 [5, 1]).bind fun v1 => if lc_of h v1 = some 12 then lb_I (ll_86 v1 h) (fun v3 h4 => some (.inl (some (.inl v3)), h4)) else none
set_option maxRecDepth 20000 in
theorem lq_85 {w : Option Nat} {d : Nat} {a0 : Option Nat} {h : pm_H} {r : tm_O × pm_H} (hr : ll_85 a0 h = some r) : tm_run pt_P (pt_G (tm_r w)) (d + 1) 85 [.inr (.inr a0)] h r := by
  unfold ll_85 at hr
  show pm_to pt_P (pt_G (tm_r w)) (d + 1) (pt_g85, []) (tm_m (0, [(0, .inr (.inr a0))], [])) h (tm_e r)
  refine tm_n 1 (F' := (1, [(0, .inr (.inr a0))], [.inr (.inr a0)])) rfl ?_
  obtain ⟨v1, qv1, hr⟩ := Option.bind_eq_some_iff.mp hr
  refine tm_getf rfl (lf_R_V qv1) ?_
  by_cases c2 : lc_of h v1 = some 12
  · rw [if_pos c2] at hr
    rcases lb_I_s hr with ⟨v3, h4, m5, hr⟩ | ⟨a6, h4, z7, z7l, m5, qz7, rfl⟩
    · try dsimp only at hr
      refine tm_call rfl rfl (tm_callV rfl rfl c2 rfl rfl) (lq_86 m5) ?_
      cases hr
      exact tm_retI rfl rfl
    · exact tm_callT rfl rfl (tm_callV rfl rfl c2 rfl rfl) (lq_86 m5) qz7 rfl
  · rw [if_neg c2] at hr
    cases hr
-- java/util/Objects.checkIndex(II)I
set_option maxRecDepth 20000 in
def ll_88 (a0 : Int32) (a1 : Int32) (h : pm_H) : tm_L := lb_I (ll_41 a0 a1 none h) (fun v1 h2 => some (.inl (some (.inl v1)), h2))
set_option maxRecDepth 20000 in
theorem lq_88 {w : Option Nat} {d : Nat} {a0 : Int32} {a1 : Int32} {h : pm_H} {r : tm_O × pm_H} (hr : ll_88 a0 a1 h = some r) : tm_run pt_P (pt_G (tm_r w)) (d + 1) 88 [.inl a0, .inl a1] h r := by
  unfold ll_88 at hr
  show pm_to pt_P (pt_G (tm_r w)) (d + 1) (pt_g88, []) (tm_m (0, [(0, .inl a0), (1, .inl a1)], [])) h (tm_e r)
  refine tm_n 3 (F' := (3, [(0, .inl a0), (1, .inl a1)], [.inr (.inr none), .inl a1, .inl a0])) rfl ?_
  rcases lb_I_s hr with ⟨v1, h2, m3, hr⟩ | ⟨a4, h2, z5, z5l, m3, qz5, rfl⟩
  · try dsimp only at hr
    refine tm_call rfl rfl (tm_callS rfl rfl) (lq_41 m3) ?_
    cases hr
    exact tm_retI rfl rfl
  · exact tm_callT rfl rfl (tm_callS rfl rfl) (lq_41 m3) qz5 rfl
-- java/util/ArrayList.elementData(I)Ljava/lang/Object;
set_option maxRecDepth 20000 in
def ll_89 (a0 : Option Nat) (a1 : Int32) (h : pm_H) : tm_L := (lf_R h a0 [12, 0]).bind fun v1 => (la_R h .aaload v1 a1).bind fun v2 => some (.inl (some (.inr (.inr v2))), h)
set_option maxRecDepth 20000 in
theorem lq_89 {w : Option Nat} {d : Nat} {a0 : Option Nat} {a1 : Int32} {h : pm_H} {r : tm_O × pm_H} (hr : ll_89 a0 a1 h = some r) : tm_run pt_P (pt_G (tm_r w)) (d + 0) 89 [.inr (.inr a0), .inl a1] h r := by
  unfold ll_89 at hr
  show pm_to pt_P (pt_G (tm_r w)) (d + 0) (pt_g89, []) (tm_m (0, [(0, .inr (.inr a0)), (1, .inl a1)], [])) h (tm_e r)
  refine tm_n 1 (F' := (1, [(0, .inr (.inr a0)), (1, .inl a1)], [.inr (.inr a0)])) rfl ?_
  obtain ⟨v1, qv1, hr⟩ := Option.bind_eq_some_iff.mp hr
  refine tm_getf rfl (lf_R_V qv1) ?_
  refine tm_n 1 (F' := (5, [(0, .inr (.inr a0)), (1, .inl a1)], [.inl a1, .inr (.inr v1)])) rfl ?_
  obtain ⟨v2, qv2, hr⟩ := Option.bind_eq_some_iff.mp hr
  refine tm_ald rfl rfl (la_R_V qv2) ?_
  cases hr
  exact tm_retR rfl
-- java/util/ArrayList.get(I)Ljava/lang/Object;
set_option maxRecDepth 20000 in
def ll_87 (a0 : Option Nat) (a1 : Int32) (h : pm_H) : tm_L := (lf_I h a0 [12, 1]).bind fun v1 => lb_I (ll_88 a1 v1 h) (fun v2 h3 => if lc_of h3 a0 = some 12 then lb_R (ll_89 a0 a1 h3) (fun v6 h7 => some (.inl (some (.inr (.inr v6))), h7)) else none)
set_option maxRecDepth 20000 in
theorem lq_87 {w : Option Nat} {d : Nat} {a0 : Option Nat} {a1 : Int32} {h : pm_H} {r : tm_O × pm_H} (hr : ll_87 a0 a1 h = some r) : tm_run pt_P (pt_G (tm_r w)) (d + 2) 87 [.inr (.inr a0), .inl a1] h r := by
  unfold ll_87 at hr
  show pm_to pt_P (pt_G (tm_r w)) (d + 2) (pt_g87, []) (tm_m (0, [(0, .inr (.inr a0)), (1, .inl a1)], [])) h (tm_e r)
  refine tm_n 2 (F' := (2, [(0, .inr (.inr a0)), (1, .inl a1)], [.inr (.inr a0), .inl a1])) rfl ?_
  obtain ⟨v1, qv1, hr⟩ := Option.bind_eq_some_iff.mp hr
  refine tm_getf rfl (lf_I_V qv1) ?_
  rcases lb_I_s hr with ⟨v2, h3, m4, hr⟩ | ⟨a11, h3, z12, z12l, m4, qz12, rfl⟩
  · try dsimp only at hr
    refine tm_call rfl rfl (tm_callS rfl rfl) (lq_88 m4) ?_
    refine tm_n 3 (F' := (11, [(0, .inr (.inr a0)), (1, .inl a1)], [.inl a1, .inr (.inr a0)])) rfl ?_
    by_cases c5 : lc_of h3 a0 = some 12
    · rw [if_pos c5] at hr
      rcases lb_R_s hr with ⟨v6, h7, m8, hr⟩ | ⟨a9, h7, z10, z10l, m8, qz10, rfl⟩
      · try dsimp only at hr
        refine tm_call rfl rfl (tm_callV rfl rfl c5 rfl rfl) (lq_89 m8) ?_
        cases hr
        exact tm_retR rfl
      · exact tm_callT rfl rfl (tm_callV rfl rfl c5 rfl rfl) (lq_89 m8) qz10 rfl
    · rw [if_neg c5] at hr
      cases hr
  · exact tm_callT rfl rfl (tm_callS rfl rfl) (lq_88 m4) qz12 rfl
-- OfficeSheet.lineShown(LOfficeSheet$Axis;I)LOfficeSheet$Line;
set_option maxRecDepth 20000 in
def ll_84 (a0 : Option Nat) (a1 : Int32) (h : pm_H) : tm_L := if a1 < (0 : Int32) then some (.inr h.1.length, lf_new h 16 6 []) else if lc_of h a0 = some 5 then lb_I (ll_85 a0 h) (fun v2 h3 => if a1 < v2 then (lf_R h3 a0 [5, 1]).bind fun v5 => if lc_of h3 v5 = some 12 then lb_R (ll_87 v5 a1 h3) (fun v7 h8 => if lf_cc 81 h8 v7 [6] = true then some (.inl (some (.inr (.inr v7))), h8) else none) else none else some (.inr h3.1.length, lf_new h3 16 6 [])) else none
set_option maxRecDepth 20000 in
theorem lq_84 {w : Option Nat} {d : Nat} {a0 : Option Nat} {a1 : Int32} {h : pm_H} {r : tm_O × pm_H} (hr : ll_84 a0 a1 h = some r) : tm_run pt_P (pt_G (tm_r w)) (d + 3) 84 [.inr (.inr a0), .inl a1] h r := by
  unfold ll_84 at hr
  show pm_to pt_P (pt_G (tm_r w)) (d + 3) (pt_g84, []) (tm_m (0, [(0, .inr (.inr a0)), (1, .inl a1)], [])) h (tm_e r)
  refine tm_n 1 (F' := (1, [(0, .inr (.inr a0)), (1, .inl a1)], [.inl a1])) rfl ?_
  by_cases c16 : a1 < (0 : Int32)
  · rw [if_pos c16] at hr
    refine tm_ifT rfl c16 ?_
    cases hr
    exact tm_thr rfl
  · rw [if_neg c16] at hr
    refine tm_ifF rfl c16 ?_
    refine tm_n 2 (F' := (6, [(0, .inr (.inr a0)), (1, .inl a1)], [.inr (.inr a0), .inl a1])) rfl ?_
    by_cases c1 : lc_of h a0 = some 5
    · rw [if_pos c1] at hr
      rcases lb_I_s hr with ⟨v2, h3, m4, hr⟩ | ⟨a14, h3, z15, z15l, m4, qz15, rfl⟩
      · try dsimp only at hr
        refine tm_call rfl rfl (tm_callV rfl rfl c1 rfl rfl) (lq_85 m4) ?_
        by_cases c13 : a1 < v2
        · rw [if_pos c13] at hr
          refine tm_icT rfl c13 ?_
          refine tm_n 1 (F' := (23, [(0, .inr (.inr a0)), (1, .inl a1)], [.inr (.inr a0)])) rfl ?_
          obtain ⟨v5, qv5, hr⟩ := Option.bind_eq_some_iff.mp hr
          refine tm_getf rfl (lf_R_V qv5) ?_
          refine tm_n 1 (F' := (27, [(0, .inr (.inr a0)), (1, .inl a1)], [.inl a1, .inr (.inr v5)])) rfl ?_
          by_cases c6 : lc_of h3 v5 = some 12
          · rw [if_pos c6] at hr
            rcases lb_R_s hr with ⟨v7, h8, m9, hr⟩ | ⟨a11, h8, z12, z12l, m9, qz12, rfl⟩
            · try dsimp only at hr
              refine tm_call rfl rfl (tm_callV rfl rfl c6 rfl rfl) (lq_87 m9) ?_
              by_cases c10 : lf_cc 81 h8 v7 [6] = true
              · rw [if_pos c10] at hr
                refine tm_cc rfl c10 ?_
                cases hr
                exact tm_retR rfl
              · rw [if_neg c10] at hr
                cases hr
            · exact tm_callT rfl rfl (tm_callV rfl rfl c6 rfl rfl) (lq_87 m9) qz12 rfl
          · rw [if_neg c6] at hr
            cases hr
        · rw [if_neg c13] at hr
          refine tm_icF rfl c13 ?_
          cases hr
          exact tm_thr rfl
      · exact tm_callT rfl rfl (tm_callV rfl rfl c1 rfl rfl) (lq_85 m4) qz15 rfl
    · rw [if_neg c1] at hr
      cases hr
-- OfficeSheet$Axis.placeOf(LOfficeSheet$Line;)LOfficeSheet$Place;
set_option maxRecDepth 20000 in
def ll_90 (a0 : Option Nat) (a1 : Option Nat) (h : pm_H) : tm_L := (lf_R h a0 [5, 2]).bind fun v1 => (lf_I h a1 [6, 2]).bind fun v2 => (la_R h .aaload v1 v2).bind fun v3 => match v3 with | none => (some (.inl (some (.inr (.inr none))), h)) | some a4 => ((lf_R h (some a4) [7, 6]).bind fun v5 => some (.inl (some (.inr (.inr v5))), h))
set_option maxRecDepth 20000 in
theorem lq_90 {w : Option Nat} {d : Nat} {a0 : Option Nat} {a1 : Option Nat} {h : pm_H} {r : tm_O × pm_H} (hr : ll_90 a0 a1 h = some r) : tm_run pt_P (pt_G (tm_r w)) (d + 0) 90 [.inr (.inr a0), .inr (.inr a1)] h r := by
  unfold ll_90 at hr
  show pm_to pt_P (pt_G (tm_r w)) (d + 0) (pt_g90, []) (tm_m (0, [(0, .inr (.inr a0)), (1, .inr (.inr a1))], [])) h (tm_e r)
  refine tm_n 1 (F' := (1, [(0, .inr (.inr a0)), (1, .inr (.inr a1))], [.inr (.inr a0)])) rfl ?_
  obtain ⟨v1, qv1, hr⟩ := Option.bind_eq_some_iff.mp hr
  refine tm_getf rfl (lf_R_V qv1) ?_
  refine tm_n 1 (F' := (5, [(0, .inr (.inr a0)), (1, .inr (.inr a1))], [.inr (.inr a1), .inr (.inr v1)])) rfl ?_
  obtain ⟨v2, qv2, hr⟩ := Option.bind_eq_some_iff.mp hr
  refine tm_getf rfl (lf_I_V qv2) ?_
  obtain ⟨v3, qv3, hr⟩ := Option.bind_eq_some_iff.mp hr
  refine tm_ald rfl rfl (la_R_V qv3) ?_
  refine tm_n 2 (F' := (11, [(2, .inr (.inr v3)), (0, .inr (.inr a0)), (1, .inr (.inr a1))], [.inr (.inr v3)])) rfl ?_
  cases v3 with
  | none =>
    try dsimp only at hr
    refine tm_nnF rfl ?_
    refine tm_n 2 (F' := (22, [(2, .inr (.inr none)), (0, .inr (.inr a0)), (1, .inr (.inr a1))], [.inr (.inr none)])) rfl ?_
    cases hr
    exact tm_retR rfl
  | some a4 =>
    try dsimp only at hr
    refine tm_nnT rfl ?_
    refine tm_n 1 (F' := (19, [(2, .inr (.inr (some a4))), (0, .inr (.inr a0)), (1, .inr (.inr a1))], [.inr (.inr (some a4))])) rfl ?_
    obtain ⟨v5, qv5, hr⟩ := Option.bind_eq_some_iff.mp hr
    refine tm_getf rfl (lf_R_V qv5) ?_
    cases hr
    exact tm_retR rfl
-- OfficeSheet.placeShown(LOfficeSheet$Axis;I)LOfficeSheet$Place;
set_option maxRecDepth 20000 in
def ll_83 (a0 : Option Nat) (a1 : Int32) (h : pm_H) : tm_L := if a1 = (-1 : Int32) then some (.inl (some (.inr (.inr none))), h) else lb_R (ll_84 a0 a1 h) (fun v1 h2 => if lc_of h2 a0 = some 5 then lb_R (ll_90 a0 v1 h2) (fun v5 h6 => some (.inl (some (.inr (.inr v5))), h6)) else none)
set_option maxRecDepth 20000 in
theorem lq_83 {w : Option Nat} {d : Nat} {a0 : Option Nat} {a1 : Int32} {h : pm_H} {r : tm_O × pm_H} (hr : ll_83 a0 a1 h = some r) : tm_run pt_P (pt_G (tm_r w)) (d + 4) 83 [.inr (.inr a0), .inl a1] h r := by
  unfold ll_83 at hr
  show pm_to pt_P (pt_G (tm_r w)) (d + 4) (pt_g83, []) (tm_m (0, [(0, .inr (.inr a0)), (1, .inl a1)], [])) h (tm_e r)
  refine tm_n 2 (F' := (2, [(0, .inr (.inr a0)), (1, .inl a1)], [.inl (-1 : Int32), .inl a1])) rfl ?_
  by_cases c12 : a1 = (-1 : Int32)
  · rw [if_pos c12] at hr
    refine tm_icF rfl (fun q => q c12) ?_
    refine tm_n 2 (F' := (18, [(0, .inr (.inr a0)), (1, .inl a1)], [.inr (.inr none)])) rfl ?_
    cases hr
    exact tm_retR rfl
  · rw [if_neg c12] at hr
    refine tm_icT rfl c12 ?_
    refine tm_n 3 (F' := (12, [(0, .inr (.inr a0)), (1, .inl a1)], [.inl a1, .inr (.inr a0), .inr (.inr a0)])) rfl ?_
    rcases lb_R_s hr with ⟨v1, h2, m3, hr⟩ | ⟨a10, h2, z11, z11l, m3, qz11, rfl⟩
    · try dsimp only at hr
      refine tm_call rfl rfl (tm_callS rfl rfl) (lq_84 m3) ?_
      by_cases c4 : lc_of h2 a0 = some 5
      · rw [if_pos c4] at hr
        rcases lb_R_s hr with ⟨v5, h6, m7, hr⟩ | ⟨a8, h6, z9, z9l, m7, qz9, rfl⟩
        · try dsimp only at hr
          refine tm_call rfl rfl (tm_callV rfl rfl c4 rfl rfl) (lq_90 m7) ?_
          cases hr
          exact tm_retR rfl
        · exact tm_callT rfl rfl (tm_callV rfl rfl c4 rfl rfl) (lq_90 m7) qz9 rfl
      · rw [if_neg c4] at hr
        cases hr
    · exact tm_callT rfl rfl (tm_callS rfl rfl) (lq_84 m3) qz11 rfl
-- OfficeSheet$Office.made()I
set_option maxRecDepth 20000 in
def ll_92 (a0 : Option Nat) (h : pm_H) : tm_L := (lf_R h a0 [4, 1]).bind fun v1 => (lf_I h a0 [4, 0]).bind fun v2 => (la_I h .iaload v1 v2).bind fun v3 => some (.inl (some (.inl v3)), h)
set_option maxRecDepth 20000 in
theorem lq_92 {w : Option Nat} {d : Nat} {a0 : Option Nat} {h : pm_H} {r : tm_O × pm_H} (hr : ll_92 a0 h = some r) : tm_run pt_P (pt_G (tm_r w)) (d + 0) 92 [.inr (.inr a0)] h r := by
  unfold ll_92 at hr
  show pm_to pt_P (pt_G (tm_r w)) (d + 0) (pt_g92, []) (tm_m (0, [(0, .inr (.inr a0))], [])) h (tm_e r)
  refine tm_n 1 (F' := (1, [(0, .inr (.inr a0))], [.inr (.inr a0)])) rfl ?_
  obtain ⟨v1, qv1, hr⟩ := Option.bind_eq_some_iff.mp hr
  refine tm_getf rfl (lf_R_V qv1) ?_
  refine tm_n 1 (F' := (5, [(0, .inr (.inr a0))], [.inr (.inr a0), .inr (.inr v1)])) rfl ?_
  obtain ⟨v2, qv2, hr⟩ := Option.bind_eq_some_iff.mp hr
  refine tm_getf rfl (lf_I_V qv2) ?_
  obtain ⟨v3, qv3, hr⟩ := Option.bind_eq_some_iff.mp hr
  refine tm_ald rfl rfl (la_I_V qv3) ?_
  cases hr
  exact tm_retI rfl rfl
-- OfficeSheet.refuseWhenAllActsAreMade(LOfficeSheet$Office;)V
set_option maxRecDepth 20000 in
def ll_91 (a0 : Option Nat) (h : pm_H) : tm_L := if lc_of h a0 = some 4 then lb_I (ll_92 a0 h) (fun v2 h3 => if v2 < (40 : Int32) then some (.inl none, h3) else some (.inr h3.1.length, lf_new h3 15 6 [])) else none
set_option maxRecDepth 20000 in
theorem lq_91 {w : Option Nat} {d : Nat} {a0 : Option Nat} {h : pm_H} {r : tm_O × pm_H} (hr : ll_91 a0 h = some r) : tm_run pt_P (pt_G (tm_r w)) (d + 1) 91 [.inr (.inr a0)] h r := by
  unfold ll_91 at hr
  show pm_to pt_P (pt_G (tm_r w)) (d + 1) (pt_g91, []) (tm_m (0, [(0, .inr (.inr a0))], [])) h (tm_e r)
  refine tm_n 1 (F' := (1, [(0, .inr (.inr a0))], [.inr (.inr a0)])) rfl ?_
  by_cases c1 : lc_of h a0 = some 4
  · rw [if_pos c1] at hr
    rcases lb_I_s hr with ⟨v2, h3, m4, hr⟩ | ⟨a6, h3, z7, z7l, m4, qz7, rfl⟩
    · try dsimp only at hr
      refine tm_call rfl rfl (tm_callV rfl rfl c1 rfl rfl) (lq_92 m4) ?_
      refine tm_n 1 (F' := (6, [(0, .inr (.inr a0))], [.inl (40 : Int32), .inl v2])) rfl ?_
      by_cases c5 : v2 < (40 : Int32)
      · rw [if_pos c5] at hr
        refine tm_icT rfl c5 ?_
        cases hr
        exact tm_retV rfl
      · rw [if_neg c5] at hr
        refine tm_icF rfl c5 ?_
        cases hr
        exact tm_thr rfl
    · exact tm_callT rfl rfl (tm_callV rfl rfl c1 rfl rfl) (lq_92 m4) qz7 rfl
  · rw [if_neg c1] at hr
    cases hr
-- OfficeSheet.indexOf(II)I
set_option maxRecDepth 20000 in
def ll_95 (a0 : Int32) (a1 : Int32) (h : pm_H) : tm_L := some (.inl (some (.inl (((a0 * (40 : Int32)) + a1) - (1 : Int32)))), h)
set_option maxRecDepth 20000 in
theorem lq_95 {w : Option Nat} {d : Nat} {a0 : Int32} {a1 : Int32} {h : pm_H} {r : tm_O × pm_H} (hr : ll_95 a0 a1 h = some r) : tm_run pt_P (pt_G (tm_r w)) (d + 0) 95 [.inl a0, .inl a1] h r := by
  unfold ll_95 at hr
  show pm_to pt_P (pt_G (tm_r w)) (d + 0) (pt_g95, []) (tm_m (0, [(0, .inl a0), (1, .inl a1)], [])) h (tm_e r)
  refine tm_n 7 (F' := (8, [(0, .inl a0), (1, .inl a1)], [.inl (((a0 * (40 : Int32)) + a1) - (1 : Int32))])) rfl ?_
  cases hr
  exact tm_retI rfl rfl
-- OfficeSheet$Line.<init>(III)V
set_option maxRecDepth 20000 in
def ll_94 (a0 : Option Nat) (a1 : Int32) (a2 : Int32) (a3 : Int32) (h : pm_H) : tm_L := if Option.isSome a0 = true then (lf_P 81 h a0 [0, 6, 0] (.inl a1)).bind fun h2 => (lf_P 81 h2 a0 [0, 6, 1] (.inl (((100 : Int32) * a2) + a3))).bind fun h3 => lb_I (ll_95 a2 a3 h3) (fun v4 h5 => (lf_P 81 h5 a0 [0, 6, 2] (.inl v4)).bind fun h7 => some (.inl none, h7)) else none
set_option maxRecDepth 20000 in
theorem lq_94 {w : Option Nat} {d : Nat} {a0 : Option Nat} {a1 : Int32} {a2 : Int32} {a3 : Int32} {h : pm_H} {r : tm_O × pm_H} (hr : ll_94 a0 a1 a2 a3 h = some r) : tm_run pt_P (pt_G (tm_r w)) (d + 1) 94 [.inr (.inr a0), .inl a1, .inl a2, .inl a3] h r := by
  unfold ll_94 at hr
  show pm_to pt_P (pt_G (tm_r w)) (d + 1) (pt_g94, []) (tm_m (0, [(0, .inr (.inr a0)), (1, .inl a1), (2, .inl a2), (3, .inl a3)], [])) h (tm_e r)
  refine tm_n 1 (F' := (1, [(0, .inr (.inr a0)), (1, .inl a1), (2, .inl a2), (3, .inl a3)], [.inr (.inr a0)])) rfl ?_
  by_cases c1 : Option.isSome a0 = true
  · rw [if_pos c1] at hr
    refine tm_oinit2 rfl c1 rfl ?_
    refine tm_n 2 (F' := (6, [(0, .inr (.inr a0)), (1, .inl a1), (2, .inl a2), (3, .inl a3)], [.inl a1, .inr (.inr a0)])) rfl ?_
    obtain ⟨h2, qh2, hr⟩ := Option.bind_eq_some_iff.mp hr
    refine tm_putf rfl qh2 ?_
    refine tm_n 6 (F' := (16, [(0, .inr (.inr a0)), (1, .inl a1), (2, .inl a2), (3, .inl a3)], [.inl (((100 : Int32) * a2) + a3), .inr (.inr a0)])) rfl ?_
    obtain ⟨h3, qh3, hr⟩ := Option.bind_eq_some_iff.mp hr
    refine tm_putf rfl qh3 ?_
    refine tm_n 3 (F' := (22, [(0, .inr (.inr a0)), (1, .inl a1), (2, .inl a2), (3, .inl a3)], [.inl a3, .inl a2, .inr (.inr a0)])) rfl ?_
    rcases lb_I_s hr with ⟨v4, h5, m6, hr⟩ | ⟨a8, h5, z9, z9l, m6, qz9, rfl⟩
    · try dsimp only at hr
      refine tm_call rfl rfl (tm_callS rfl rfl) (lq_95 m6) ?_
      obtain ⟨h7, qh7, hr⟩ := Option.bind_eq_some_iff.mp hr
      refine tm_putf rfl qh7 ?_
      cases hr
      exact tm_retV rfl
    · exact tm_callT rfl rfl (tm_callS rfl rfl) (lq_95 m6) qz9 rfl
  · rw [if_neg c1] at hr
    cases hr
-- OfficeSheet$Office.nextStamp()I
set_option maxRecDepth 20000 in
def ll_97 (a0 : Option Nat) (h : pm_H) : tm_L := (lf_I h a0 [4, 5]).bind fun v1 => (lf_I h a0 [4, 0]).bind fun v2 => some (.inl (some (.inl (((v1 + (1 : Int32)) * (3 : Int32)) + v2))), h)
set_option maxRecDepth 20000 in
theorem lq_97 {w : Option Nat} {d : Nat} {a0 : Option Nat} {h : pm_H} {r : tm_O × pm_H} (hr : ll_97 a0 h = some r) : tm_run pt_P (pt_G (tm_r w)) (d + 0) 97 [.inr (.inr a0)] h r := by
  unfold ll_97 at hr
  show pm_to pt_P (pt_G (tm_r w)) (d + 0) (pt_g97, []) (tm_m (0, [(0, .inr (.inr a0))], [])) h (tm_e r)
  refine tm_n 1 (F' := (1, [(0, .inr (.inr a0))], [.inr (.inr a0)])) rfl ?_
  obtain ⟨v1, qv1, hr⟩ := Option.bind_eq_some_iff.mp hr
  refine tm_getf rfl (lf_I_V qv1) ?_
  refine tm_n 5 (F' := (9, [(0, .inr (.inr a0))], [.inr (.inr a0), .inl ((v1 + (1 : Int32)) * (3 : Int32))])) rfl ?_
  obtain ⟨v2, qv2, hr⟩ := Option.bind_eq_some_iff.mp hr
  refine tm_getf rfl (lf_I_V qv2) ?_
  refine tm_n 1 (F' := (13, [(0, .inr (.inr a0))], [.inl (((v1 + (1 : Int32)) * (3 : Int32)) + v2)])) rfl ?_
  cases hr
  exact tm_retI rfl rfl
-- OfficeSheet$Act.<init>(LOfficeSheet$ActKind;LOfficeSheet$Office;)V
set_option maxRecDepth 20000 in
def ll_96 (a0 : Option Nat) (a1 : Option Nat) (a2 : Option Nat) (h : pm_H) : tm_L := if Option.isSome a0 = true then (lf_P 81 h a0 [2, 7, 0] (.inr (.inr a1))).bind fun h2 => (lf_I h2 a2 [4, 0]).bind fun v3 => (lf_P 81 h2 a0 [0, 7, 1] (.inl v3)).bind fun h4 => if lc_of h4 a2 = some 4 then lb_I (ll_92 a2 h4) (fun v6 h7 => (lf_P 81 h7 a0 [0, 7, 2] (.inl (v6 + (1 : Int32)))).bind fun h9 => if lc_of h9 a2 = some 4 then lb_I (ll_97 a2 h9) (fun v11 h12 => (lf_P 81 h12 a0 [0, 7, 3] (.inl v11)).bind fun h14 => (lf_R h14 a2 [4, 1]).bind fun v15 => (lf_cl 81 h14 v15).bind fun h16 => if lf_cc 81 h16 (some h14.1.length) [1000] = true then (lf_P 81 h16 a0 [2, 7, 4] (.inr (.inr (some h14.1.length)))).bind fun h18 => some (.inl none, h18) else none) else none) else none else none
set_option maxRecDepth 20000 in
theorem lq_96 {w : Option Nat} {d : Nat} {a0 : Option Nat} {a1 : Option Nat} {a2 : Option Nat} {h : pm_H} {r : tm_O × pm_H} (hr : ll_96 a0 a1 a2 h = some r) : tm_run pt_P (pt_G (tm_r w)) (d + 1) 96 [.inr (.inr a0), .inr (.inr a1), .inr (.inr a2)] h r := by
  unfold ll_96 at hr
  show pm_to pt_P (pt_G (tm_r w)) (d + 1) (pt_g96, []) (tm_m (0, [(0, .inr (.inr a0)), (1, .inr (.inr a1)), (2, .inr (.inr a2))], [])) h (tm_e r)
  refine tm_n 1 (F' := (1, [(0, .inr (.inr a0)), (1, .inr (.inr a1)), (2, .inr (.inr a2))], [.inr (.inr a0)])) rfl ?_
  by_cases c1 : Option.isSome a0 = true
  · rw [if_pos c1] at hr
    refine tm_oinit2 rfl c1 rfl ?_
    refine tm_n 2 (F' := (6, [(0, .inr (.inr a0)), (1, .inr (.inr a1)), (2, .inr (.inr a2))], [.inr (.inr a1), .inr (.inr a0)])) rfl ?_
    obtain ⟨h2, qh2, hr⟩ := Option.bind_eq_some_iff.mp hr
    refine tm_putf rfl qh2 ?_
    refine tm_n 2 (F' := (11, [(0, .inr (.inr a0)), (1, .inr (.inr a1)), (2, .inr (.inr a2))], [.inr (.inr a2), .inr (.inr a0)])) rfl ?_
    obtain ⟨v3, qv3, hr⟩ := Option.bind_eq_some_iff.mp hr
    refine tm_getf rfl (lf_I_V qv3) ?_
    obtain ⟨h4, qh4, hr⟩ := Option.bind_eq_some_iff.mp hr
    refine tm_putf rfl qh4 ?_
    refine tm_n 2 (F' := (19, [(0, .inr (.inr a0)), (1, .inr (.inr a1)), (2, .inr (.inr a2))], [.inr (.inr a2), .inr (.inr a0)])) rfl ?_
    by_cases c5 : lc_of h4 a2 = some 4
    · rw [if_pos c5] at hr
      rcases lb_I_s hr with ⟨v6, h7, m8, hr⟩ | ⟨a21, h7, z22, z22l, m8, qz22, rfl⟩
      · try dsimp only at hr
        refine tm_call rfl rfl (tm_callV rfl rfl c5 rfl rfl) (lq_92 m8) ?_
        refine tm_n 2 (F' := (24, [(0, .inr (.inr a0)), (1, .inr (.inr a1)), (2, .inr (.inr a2))], [.inl (v6 + (1 : Int32)), .inr (.inr a0)])) rfl ?_
        obtain ⟨h9, qh9, hr⟩ := Option.bind_eq_some_iff.mp hr
        refine tm_putf rfl qh9 ?_
        refine tm_n 2 (F' := (29, [(0, .inr (.inr a0)), (1, .inr (.inr a1)), (2, .inr (.inr a2))], [.inr (.inr a2), .inr (.inr a0)])) rfl ?_
        by_cases c10 : lc_of h9 a2 = some 4
        · rw [if_pos c10] at hr
          rcases lb_I_s hr with ⟨v11, h12, m13, hr⟩ | ⟨a19, h12, z20, z20l, m13, qz20, rfl⟩
          · try dsimp only at hr
            refine tm_call rfl rfl (tm_callV rfl rfl c10 rfl rfl) (lq_97 m13) ?_
            obtain ⟨h14, qh14, hr⟩ := Option.bind_eq_some_iff.mp hr
            refine tm_putf rfl qh14 ?_
            refine tm_n 2 (F' := (37, [(0, .inr (.inr a0)), (1, .inr (.inr a1)), (2, .inr (.inr a2))], [.inr (.inr a2), .inr (.inr a0)])) rfl ?_
            obtain ⟨v15, qv15, hr⟩ := Option.bind_eq_some_iff.mp hr
            refine tm_getf rfl (lf_R_V qv15) ?_
            obtain ⟨h16, qh16, hr⟩ := Option.bind_eq_some_iff.mp hr
            refine tm_clone rfl rfl qh16 ?_
            by_cases c17 : lf_cc 81 h16 (some h14.1.length) [1000] = true
            · rw [if_pos c17] at hr
              refine tm_cc rfl c17 ?_
              obtain ⟨h18, qh18, hr⟩ := Option.bind_eq_some_iff.mp hr
              refine tm_putf rfl qh18 ?_
              cases hr
              exact tm_retV rfl
            · rw [if_neg c17] at hr
              cases hr
          · exact tm_callT rfl rfl (tm_callV rfl rfl c10 rfl rfl) (lq_97 m13) qz20 rfl
        · rw [if_neg c10] at hr
          cases hr
      · exact tm_callT rfl rfl (tm_callV rfl rfl c5 rfl rfl) (lq_92 m8) qz22 rfl
    · rw [if_neg c5] at hr
      cases hr
  · rw [if_neg c1] at hr
    cases hr
-- OfficeSheet$Place.<init>(LOfficeSheet$Line;LOfficeSheet$Place;I)V
set_option maxRecDepth 20000 in
def ll_98 (a0 : Option Nat) (a1 : Option Nat) (a2 : Option Nat) (a3 : Int32) (h : pm_H) : tm_L := if Option.isSome a0 = true then (lf_P 81 h a0 [2, 8, 0] (.inr (.inr a1))).bind fun h2 => (lf_P 81 h2 a0 [2, 8, 1] (.inr (.inr a2))).bind fun h3 => (lf_P 81 h3 a0 [0, 8, 2] (.inl a3)).bind fun h4 => some (.inl none, h4) else none
set_option maxRecDepth 20000 in
theorem lq_98 {w : Option Nat} {d : Nat} {a0 : Option Nat} {a1 : Option Nat} {a2 : Option Nat} {a3 : Int32} {h : pm_H} {r : tm_O × pm_H} (hr : ll_98 a0 a1 a2 a3 h = some r) : tm_run pt_P (pt_G (tm_r w)) (d + 0) 98 [.inr (.inr a0), .inr (.inr a1), .inr (.inr a2), .inl a3] h r := by
  unfold ll_98 at hr
  show pm_to pt_P (pt_G (tm_r w)) (d + 0) (pt_g98, []) (tm_m (0, [(0, .inr (.inr a0)), (1, .inr (.inr a1)), (2, .inr (.inr a2)), (3, .inl a3)], [])) h (tm_e r)
  refine tm_n 1 (F' := (1, [(0, .inr (.inr a0)), (1, .inr (.inr a1)), (2, .inr (.inr a2)), (3, .inl a3)], [.inr (.inr a0)])) rfl ?_
  by_cases c1 : Option.isSome a0 = true
  · rw [if_pos c1] at hr
    refine tm_oinit2 rfl c1 rfl ?_
    refine tm_n 2 (F' := (6, [(0, .inr (.inr a0)), (1, .inr (.inr a1)), (2, .inr (.inr a2)), (3, .inl a3)], [.inr (.inr a1), .inr (.inr a0)])) rfl ?_
    obtain ⟨h2, qh2, hr⟩ := Option.bind_eq_some_iff.mp hr
    refine tm_putf rfl qh2 ?_
    refine tm_n 2 (F' := (11, [(0, .inr (.inr a0)), (1, .inr (.inr a1)), (2, .inr (.inr a2)), (3, .inl a3)], [.inr (.inr a2), .inr (.inr a0)])) rfl ?_
    obtain ⟨h3, qh3, hr⟩ := Option.bind_eq_some_iff.mp hr
    refine tm_putf rfl qh3 ?_
    refine tm_n 2 (F' := (16, [(0, .inr (.inr a0)), (1, .inr (.inr a1)), (2, .inr (.inr a2)), (3, .inl a3)], [.inl a3, .inr (.inr a0)])) rfl ?_
    obtain ⟨h4, qh4, hr⟩ := Option.bind_eq_some_iff.mp hr
    refine tm_putf rfl qh4 ?_
    cases hr
    exact tm_retV rfl
  · rw [if_neg c1] at hr
    cases hr
-- OfficeSheet$Act.speakOfLine(LOfficeSheet$Line;LOfficeSheet$Place;LOfficeSheet$Place;)V
set_option maxRecDepth 20000 in
def ll_99 (a0 : Option Nat) (a1 : Option Nat) (a2 : Option Nat) (a3 : Option Nat) (h : pm_H) : tm_L := (lf_P 81 h a0 [2, 7, 5] (.inr (.inr a1))).bind fun h1 => (lf_P 81 h1 a0 [2, 7, 6] (.inr (.inr a2))).bind fun h2 => (lf_P 81 h2 a0 [2, 7, 7] (.inr (.inr a3))).bind fun h3 => some (.inl none, h3)
set_option maxRecDepth 20000 in
theorem lq_99 {w : Option Nat} {d : Nat} {a0 : Option Nat} {a1 : Option Nat} {a2 : Option Nat} {a3 : Option Nat} {h : pm_H} {r : tm_O × pm_H} (hr : ll_99 a0 a1 a2 a3 h = some r) : tm_run pt_P (pt_G (tm_r w)) (d + 0) 99 [.inr (.inr a0), .inr (.inr a1), .inr (.inr a2), .inr (.inr a3)] h r := by
  unfold ll_99 at hr
  show pm_to pt_P (pt_G (tm_r w)) (d + 0) (pt_g99, []) (tm_m (0, [(0, .inr (.inr a0)), (1, .inr (.inr a1)), (2, .inr (.inr a2)), (3, .inr (.inr a3))], [])) h (tm_e r)
  refine tm_n 2 (F' := (2, [(0, .inr (.inr a0)), (1, .inr (.inr a1)), (2, .inr (.inr a2)), (3, .inr (.inr a3))], [.inr (.inr a1), .inr (.inr a0)])) rfl ?_
  obtain ⟨h1, qh1, hr⟩ := Option.bind_eq_some_iff.mp hr
  refine tm_putf rfl qh1 ?_
  refine tm_n 2 (F' := (7, [(0, .inr (.inr a0)), (1, .inr (.inr a1)), (2, .inr (.inr a2)), (3, .inr (.inr a3))], [.inr (.inr a2), .inr (.inr a0)])) rfl ?_
  obtain ⟨h2, qh2, hr⟩ := Option.bind_eq_some_iff.mp hr
  refine tm_putf rfl qh2 ?_
  refine tm_n 2 (F' := (12, [(0, .inr (.inr a0)), (1, .inr (.inr a1)), (2, .inr (.inr a2)), (3, .inr (.inr a3))], [.inr (.inr a3), .inr (.inr a0)])) rfl ?_
  obtain ⟨h3, qh3, hr⟩ := Option.bind_eq_some_iff.mp hr
  refine tm_putf rfl qh3 ?_
  cases hr
  exact tm_retV rfl
-- OfficeSheet$Act.writes(LOfficeSheet$Line;LOfficeSheet$Line;)Z
set_option maxRecDepth 20000 in
def ll_102 (a0 : Option Nat) (a1 : Option Nat) (a2 : Option Nat) (h : pm_H) : tm_L := (lf_R h a0 [7, 0]).bind fun v1 => lb_A (tm_acm v1 (some 6)) ((lf_R h a0 [7, 8]).bind fun v3 => lb_A (tm_acm v3 a1) ((lf_R h a0 [7, 9]).bind fun v5 => lb_A (tm_acm v5 a2) (some (.inl (some (.inl (1 : Int32))), h)) (some (.inl (some (.inl (0 : Int32))), h))) (some (.inl (some (.inl (0 : Int32))), h))) (some (.inl (some (.inl (0 : Int32))), h))
set_option maxRecDepth 20000 in
theorem lq_102 {w : Option Nat} {d : Nat} {a0 : Option Nat} {a1 : Option Nat} {a2 : Option Nat} {h : pm_H} {r : tm_O × pm_H} (hr : ll_102 a0 a1 a2 h = some r) : tm_run pt_P (pt_G (tm_r w)) (d + 0) 102 [.inr (.inr a0), .inr (.inr a1), .inr (.inr a2)] h r := by
  unfold ll_102 at hr
  show pm_to pt_P (pt_G (tm_r w)) (d + 0) (pt_g102, []) (tm_m (0, [(0, .inr (.inr a0)), (1, .inr (.inr a1)), (2, .inr (.inr a2))], [])) h (tm_e r)
  refine tm_n 1 (F' := (1, [(0, .inr (.inr a0)), (1, .inr (.inr a1)), (2, .inr (.inr a2))], [.inr (.inr a0)])) rfl ?_
  obtain ⟨v1, qv1, hr⟩ := Option.bind_eq_some_iff.mp hr
  refine tm_getf rfl (lf_R_V qv1) ?_
  refine tm_n 1 (F' := (7, [(0, .inr (.inr a0)), (1, .inr (.inr a1)), (2, .inr (.inr a2))], [.inr (.inr (some 6)), .inr (.inr v1)])) rfl ?_
  rcases lb_A_s hr with ⟨c2, hr⟩ | ⟨c2, hr⟩
  · refine tm_anF rfl c2 ?_
    refine tm_n 1 (F' := (11, [(0, .inr (.inr a0)), (1, .inr (.inr a1)), (2, .inr (.inr a2))], [.inr (.inr a0)])) rfl ?_
    obtain ⟨v3, qv3, hr⟩ := Option.bind_eq_some_iff.mp hr
    refine tm_getf rfl (lf_R_V qv3) ?_
    refine tm_n 1 (F' := (15, [(0, .inr (.inr a0)), (1, .inr (.inr a1)), (2, .inr (.inr a2))], [.inr (.inr a1), .inr (.inr v3)])) rfl ?_
    rcases lb_A_s hr with ⟨c4, hr⟩ | ⟨c4, hr⟩
    · refine tm_anF rfl c4 ?_
      refine tm_n 1 (F' := (19, [(0, .inr (.inr a0)), (1, .inr (.inr a1)), (2, .inr (.inr a2))], [.inr (.inr a0)])) rfl ?_
      obtain ⟨v5, qv5, hr⟩ := Option.bind_eq_some_iff.mp hr
      refine tm_getf rfl (lf_R_V qv5) ?_
      refine tm_n 1 (F' := (23, [(0, .inr (.inr a0)), (1, .inr (.inr a1)), (2, .inr (.inr a2))], [.inr (.inr a2), .inr (.inr v5)])) rfl ?_
      rcases lb_A_s hr with ⟨c6, hr⟩ | ⟨c6, hr⟩
      · refine tm_anF rfl c6 ?_
        refine tm_n 2 (F' := (31, [(0, .inr (.inr a0)), (1, .inr (.inr a1)), (2, .inr (.inr a2))], [.inl (1 : Int32)])) rfl ?_
        cases hr
        exact tm_retI rfl rfl
      · refine tm_anT rfl c6 ?_
        refine tm_n 1 (F' := (31, [(0, .inr (.inr a0)), (1, .inr (.inr a1)), (2, .inr (.inr a2))], [.inl (0 : Int32)])) rfl ?_
        cases hr
        exact tm_retI rfl rfl
    · refine tm_anT rfl c4 ?_
      refine tm_n 1 (F' := (31, [(0, .inr (.inr a0)), (1, .inr (.inr a1)), (2, .inr (.inr a2))], [.inl (0 : Int32)])) rfl ?_
      cases hr
      exact tm_retI rfl rfl
  · refine tm_anT rfl c2 ?_
    refine tm_n 1 (F' := (31, [(0, .inr (.inr a0)), (1, .inr (.inr a1)), (2, .inr (.inr a2))], [.inl (0 : Int32)])) rfl ?_
    cases hr
    exact tm_retI rfl rfl
-- OfficeSheet$Act.isLaterThan(LOfficeSheet$Act;)Z
set_option maxRecDepth 20000 in
def ll_103 (a0 : Option Nat) (a1 : Option Nat) (h : pm_H) : tm_L := match a1 with | none => (some (.inl (some (.inl (1 : Int32))), h)) | some a1 => ((lf_I h a0 [7, 3]).bind fun v2 => (lf_I h (some a1) [7, 3]).bind fun v3 => if v2 ≤ v3 then some (.inl (some (.inl (0 : Int32))), h) else some (.inl (some (.inl (1 : Int32))), h))
set_option maxRecDepth 20000 in
theorem lq_103 {w : Option Nat} {d : Nat} {a0 : Option Nat} {a1 : Option Nat} {h : pm_H} {r : tm_O × pm_H} (hr : ll_103 a0 a1 h = some r) : tm_run pt_P (pt_G (tm_r w)) (d + 0) 103 [.inr (.inr a0), .inr (.inr a1)] h r := by
  unfold ll_103 at hr
  show pm_to pt_P (pt_G (tm_r w)) (d + 0) (pt_g103, []) (tm_m (0, [(0, .inr (.inr a0)), (1, .inr (.inr a1))], [])) h (tm_e r)
  refine tm_n 1 (F' := (1, [(0, .inr (.inr a0)), (1, .inr (.inr a1))], [.inr (.inr a1)])) rfl ?_
  cases a1 with
  | none =>
    try dsimp only at hr
    refine tm_nuT rfl ?_
    refine tm_n 2 (F' := (20, [(0, .inr (.inr a0)), (1, .inr (.inr none))], [.inl (1 : Int32)])) rfl ?_
    cases hr
    exact tm_retI rfl rfl
  | some a1 =>
    try dsimp only at hr
    refine tm_nuF rfl ?_
    refine tm_n 1 (F' := (5, [(0, .inr (.inr a0)), (1, .inr (.inr (some a1)))], [.inr (.inr a0)])) rfl ?_
    obtain ⟨v2, qv2, hr⟩ := Option.bind_eq_some_iff.mp hr
    refine tm_getf rfl (lf_I_V qv2) ?_
    refine tm_n 1 (F' := (9, [(0, .inr (.inr a0)), (1, .inr (.inr (some a1)))], [.inr (.inr (some a1)), .inl v2])) rfl ?_
    obtain ⟨v3, qv3, hr⟩ := Option.bind_eq_some_iff.mp hr
    refine tm_getf rfl (lf_I_V qv3) ?_
    by_cases c4 : v2 ≤ v3
    · rw [if_pos c4] at hr
      refine tm_icT rfl c4 ?_
      refine tm_n 1 (F' := (20, [(0, .inr (.inr a0)), (1, .inr (.inr (some a1)))], [.inl (0 : Int32)])) rfl ?_
      cases hr
      exact tm_retI rfl rfl
    · rw [if_neg c4] at hr
      refine tm_icF rfl c4 ?_
      refine tm_n 2 (F' := (20, [(0, .inr (.inr a0)), (1, .inr (.inr (some a1)))], [.inl (1 : Int32)])) rfl ?_
      cases hr
      exact tm_retI rfl rfl
-- java/util/ArrayList.set(ILjava/lang/Object;)Ljava/lang/Object;
set_option maxRecDepth 20000 in
def ll_104 (a0 : Option Nat) (a1 : Int32) (a2 : Option Nat) (h : pm_H) : tm_L := (lf_I h a0 [12, 1]).bind fun v1 => lb_I (ll_88 a1 v1 h) (fun v2 h3 => if lc_of h3 a0 = some 12 then lb_R (ll_89 a0 a1 h3) (fun v6 h7 => (lf_R h7 a0 [12, 0]).bind fun v9 => (la_S pt_P h7 .aastore v9 a1 (.inr (.inr a2))).bind fun h10 => some (.inl (some (.inr (.inr v6))), h10)) else none)
set_option maxRecDepth 20000 in
theorem lq_104 {w : Option Nat} {d : Nat} {a0 : Option Nat} {a1 : Int32} {a2 : Option Nat} {h : pm_H} {r : tm_O × pm_H} (hr : ll_104 a0 a1 a2 h = some r) : tm_run pt_P (pt_G (tm_r w)) (d + 2) 104 [.inr (.inr a0), .inl a1, .inr (.inr a2)] h r := by
  unfold ll_104 at hr
  show pm_to pt_P (pt_G (tm_r w)) (d + 2) (pt_g104, []) (tm_m (0, [(0, .inr (.inr a0)), (1, .inl a1), (2, .inr (.inr a2))], [])) h (tm_e r)
  refine tm_n 2 (F' := (2, [(0, .inr (.inr a0)), (1, .inl a1), (2, .inr (.inr a2))], [.inr (.inr a0), .inl a1])) rfl ?_
  obtain ⟨v1, qv1, hr⟩ := Option.bind_eq_some_iff.mp hr
  refine tm_getf rfl (lf_I_V qv1) ?_
  rcases lb_I_s hr with ⟨v2, h3, m4, hr⟩ | ⟨a13, h3, z14, z14l, m4, qz14, rfl⟩
  · try dsimp only at hr
    refine tm_call rfl rfl (tm_callS rfl rfl) (lq_88 m4) ?_
    refine tm_n 3 (F' := (11, [(0, .inr (.inr a0)), (1, .inl a1), (2, .inr (.inr a2))], [.inl a1, .inr (.inr a0)])) rfl ?_
    by_cases c5 : lc_of h3 a0 = some 12
    · rw [if_pos c5] at hr
      rcases lb_R_s hr with ⟨v6, h7, m8, hr⟩ | ⟨a11, h7, z12, z12l, m8, qz12, rfl⟩
      · try dsimp only at hr
        refine tm_call rfl rfl (tm_callV rfl rfl c5 rfl rfl) (lq_89 m8) ?_
        refine tm_n 2 (F' := (16, [(3, .inr (.inr v6)), (0, .inr (.inr a0)), (1, .inl a1), (2, .inr (.inr a2))], [.inr (.inr a0)])) rfl ?_
        obtain ⟨v9, qv9, hr⟩ := Option.bind_eq_some_iff.mp hr
        refine tm_getf rfl (lf_R_V qv9) ?_
        refine tm_n 2 (F' := (21, [(3, .inr (.inr v6)), (0, .inr (.inr a0)), (1, .inl a1), (2, .inr (.inr a2))], [.inr (.inr a2), .inl a1, .inr (.inr v9)])) rfl ?_
        obtain ⟨h10, qh10, hr⟩ := Option.bind_eq_some_iff.mp hr
        refine tm_ast rfl rfl qh10 ?_
        refine tm_n 1 (F' := (23, [(3, .inr (.inr v6)), (0, .inr (.inr a0)), (1, .inl a1), (2, .inr (.inr a2))], [.inr (.inr v6)])) rfl ?_
        cases hr
        exact tm_retR rfl
      · exact tm_callT rfl rfl (tm_callV rfl rfl c5 rfl rfl) (lq_89 m8) qz12 rfl
    · rw [if_neg c5] at hr
      cases hr
  · exact tm_callT rfl rfl (tm_callS rfl rfl) (lq_88 m4) qz14 rfl
-- java/util/Arrays.copyOf([Ljava/lang/Object;ILjava/lang/Class;)[Ljava/lang/Object;
set_option maxRecDepth 20000 in
def ll_110 (a0 : Option Nat) (a1 : Int32) (a2 : Option Nat) (h : pm_H) : tm_L := lb_A (tm_acm a2 (some 79)) ((lf_na h 13 (.null) a1).bind fun h2 => (la_len h2 a0).bind fun v3 => lb_I (ll_27 v3 a1 h2) (fun v4 h5 => (lf_cp pt_P h5 a0 (0 : Int32) (some h.1.length) (0 : Int32) v4).bind fun h7 => some (.inl (some (.inr (.inr (some h.1.length)))), h7))) (none)
set_option maxRecDepth 20000 in
theorem lq_110 {w : Option Nat} {d : Nat} {a0 : Option Nat} {a1 : Int32} {a2 : Option Nat} {h : pm_H} {r : tm_O × pm_H} (hr : ll_110 a0 a1 a2 h = some r) : tm_run pt_P (pt_G (tm_r w)) (d + 1) 110 [.inr (.inr a0), .inl a1, .inr (.inr a2)] h r := by
  unfold ll_110 at hr
  show pm_to pt_P (pt_G (tm_r w)) (d + 1) (pt_g110, []) (tm_m (0, [(0, .inr (.inr a0)), (1, .inl a1), (2, .inr (.inr a2))], [])) h (tm_e r)
  refine tm_n 2 (F' := (3, [(0, .inr (.inr a0)), (1, .inl a1), (2, .inr (.inr a2))], [.inr (.inr (some 79)), .inr (.inr a2)])) rfl ?_
  rcases lb_A_s hr with ⟨c1, hr⟩ | ⟨c1, hr⟩
  · refine tm_anF rfl c1 ?_
    refine tm_n 1 (F' := (7, [(0, .inr (.inr a0)), (1, .inl a1), (2, .inr (.inr a2))], [.inl a1])) rfl ?_
    obtain ⟨h2, qh2, hr⟩ := Option.bind_eq_some_iff.mp hr
    refine tm_anew rfl qh2 ?_
    refine tm_n 7 (F' := (30, [(3, .inr (.inr (some h.1.length))), (0, .inr (.inr a0)), (1, .inl a1), (2, .inr (.inr a2))], [.inr (.inr a0), .inl (0 : Int32), .inr (.inr (some h.1.length)), .inl (0 : Int32), .inr (.inr a0)])) rfl ?_
    obtain ⟨v3, qv3, hr⟩ := Option.bind_eq_some_iff.mp hr
    refine tm_alen rfl qv3 ?_
    refine tm_n 1 (F' := (32, [(3, .inr (.inr (some h.1.length))), (0, .inr (.inr a0)), (1, .inl a1), (2, .inr (.inr a2))], [.inl a1, .inl v3, .inl (0 : Int32), .inr (.inr (some h.1.length)), .inl (0 : Int32), .inr (.inr a0)])) rfl ?_
    rcases lb_I_s hr with ⟨v4, h5, m6, hr⟩ | ⟨a8, h5, z9, z9l, m6, qz9, rfl⟩
    · try dsimp only at hr
      refine tm_call rfl rfl (tm_callS rfl rfl) (lq_27 m6) ?_
      obtain ⟨h7, qh7, hr⟩ := Option.bind_eq_some_iff.mp hr
      refine tm_acp rfl rfl qh7 ?_
      refine tm_n 1 (F' := (39, [(3, .inr (.inr (some h.1.length))), (0, .inr (.inr a0)), (1, .inl a1), (2, .inr (.inr a2))], [.inr (.inr (some h.1.length))])) rfl ?_
      cases hr
      exact tm_retR rfl
    · exact tm_callT rfl rfl (tm_callS rfl rfl) (lq_27 m6) qz9 rfl
  · refine tm_anT rfl c1 ?_
    cases hr
