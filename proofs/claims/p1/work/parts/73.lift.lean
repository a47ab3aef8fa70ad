/-! lifted: 128, 127, 126, 73, 135, 134, 137, 136, 138, 133, 132, 140, 139, 141, 147, 143, 142, 145, 146, 148, 151, 152, 150, 153, 149, 155 -/
-- OfficeSheet$Office.makeBeing(LOfficeSheet$ActKind;LOfficeSheet$Line;)V
set_option maxRecDepth 20000 in
def ll_128 (w : Option Nat) (a0 : Option Nat) (a1 : Option Nat) (a2 : Option Nat) (h : pm_H) : tm_L := lb_h (lf_new h 7 12 [.null, .int 0, .int 0, .int 0, .null, .null, .null, .null, .null, .null, .null, .null]) fun h1 => lb_V (ll_96 (some h.1.length) a1 a0 h1) (fun h3 => if lc_of h3 (some h.1.length) = some 7 then lb_V (ll_99 (some h.1.length) a2 none none h3) (fun h7 => if lc_of h7 a0 = some 4 then lb_V (ll_100 w a0 (some h.1.length) h7) (fun h11 => some (.inl none, h11)) else none) else none)
set_option maxRecDepth 20000 in
theorem lq_128 {w : Option Nat} {d : Nat} {a0 : Option Nat} {a1 : Option Nat} {a2 : Option Nat} {h : pm_H} {r : tm_O × pm_H} (hr : ll_128 w a0 a1 a2 h = some r) : tm_run pt_P (pt_G (tm_r w)) (d + 16) 128 [.inr (.inr a0), .inr (.inr a1), .inr (.inr a2)] h r := by
  unfold ll_128 at hr
  show pm_to pt_P (pt_G (tm_r w)) (d + 16) (pt_g128, []) (tm_m (0, [(0, .inr (.inr a0)), (1, .inr (.inr a1)), (2, .inr (.inr a2))], [])) h (tm_e r)
  obtain ⟨h1, eh1, hr⟩ := lb_h_s hr
  refine tm_new rfl ?_
  rw [← eh1]
  refine tm_n 3 (F' := (6, [(0, .inr (.inr a0)), (1, .inr (.inr a1)), (2, .inr (.inr a2))], [.inr (.inr a0), .inr (.inr a1), .inr (.inr (some h.1.length)), .inr (.inr (some h.1.length))])) rfl ?_
  rcases lb_V_s hr with ⟨h3, m4, hr⟩ | ⟨a17, h3, z18, z18l, m4, qz18, rfl⟩
  · try dsimp only at hr
    refine tm_call rfl rfl (tm_callP rfl rfl rfl) (lq_96 m4) ?_
    refine tm_n 5 (F' := (14, [(3, .inr (.inr (some h.1.length))), (0, .inr (.inr a0)), (1, .inr (.inr a1)), (2, .inr (.inr a2))], [.inr (.inr none), .inr (.inr none), .inr (.inr a2), .inr (.inr (some h.1.length))])) rfl ?_
    by_cases c5 : lc_of h3 (some h.1.length) = some 7
    · rw [if_pos c5] at hr
      rcases lb_V_s hr with ⟨h7, m8, hr⟩ | ⟨a15, h7, z16, z16l, m8, qz16, rfl⟩
      · try dsimp only at hr
        refine tm_call rfl rfl (tm_callV rfl rfl c5 rfl rfl) (lq_99 m8) ?_
        refine tm_n 2 (F' := (19, [(3, .inr (.inr (some h.1.length))), (0, .inr (.inr a0)), (1, .inr (.inr a1)), (2, .inr (.inr a2))], [.inr (.inr (some h.1.length)), .inr (.inr a0)])) rfl ?_
        by_cases c9 : lc_of h7 a0 = some 4
        · rw [if_pos c9] at hr
          rcases lb_V_s hr with ⟨h11, m12, hr⟩ | ⟨a13, h11, z14, z14l, m12, qz14, rfl⟩
          · try dsimp only at hr
            refine tm_call rfl rfl (tm_callV rfl rfl c9 rfl rfl) (lq_100 m12) ?_
            cases hr
            exact tm_retV rfl
          · exact tm_callT rfl rfl (tm_callV rfl rfl c9 rfl rfl) (lq_100 m12) qz14 rfl
        · rw [if_neg c9] at hr
          cases hr
      · exact tm_callT rfl rfl (tm_callV rfl rfl c5 rfl rfl) (lq_99 m8) qz16 rfl
    · rw [if_neg c5] at hr
      cases hr
  · exact tm_callT rfl rfl (tm_callP rfl rfl rfl) (lq_96 m4) qz18 rfl
-- OfficeSheet.remove(III)V
set_option maxRecDepth 20000 in
def ll_127 (w : Option Nat) (a0 : Option Nat) (a1 : Int32) (a2 : Int32) (a3 : Int32) (h : pm_H) : tm_L := if lc_of h a0 = some 0 then lb_R (ll_81 a0 a1 h) (fun v2 h3 => lb_R (ll_82 v2 a2 h3) (fun v5 h6 => lb_R (ll_84 v5 a3 h6) (fun v8 h9 => lb_V (ll_91 v2 h9) (fun h12 => if lc_of h12 v2 = some 4 then lb_V (ll_128 w v2 (some 5) v8 h12) (fun h16 => some (.inl none, h16)) else none)))) else none
set_option maxRecDepth 20000 in
theorem lq_127 {w : Option Nat} {d : Nat} {a0 : Option Nat} {a1 : Int32} {a2 : Int32} {a3 : Int32} {h : pm_H} {r : tm_O × pm_H} (hr : ll_127 w a0 a1 a2 a3 h = some r) : tm_run pt_P (pt_G (tm_r w)) (d + 17) 127 [.inr (.inr a0), .inl a1, .inl a2, .inl a3] h r := by
  unfold ll_127 at hr
  show pm_to pt_P (pt_G (tm_r w)) (d + 17) (pt_g127, []) (tm_m (0, [(0, .inr (.inr a0)), (1, .inl a1), (2, .inl a2), (3, .inl a3)], [])) h (tm_e r)
  refine tm_n 2 (F' := (2, [(0, .inr (.inr a0)), (1, .inl a1), (2, .inl a2), (3, .inl a3)], [.inl a1, .inr (.inr a0)])) rfl ?_
  by_cases c1 : lc_of h a0 = some 0
  · rw [if_pos c1] at hr
    rcases lb_R_s hr with ⟨v2, h3, m4, hr⟩ | ⟨a26, h3, z27, z27l, m4, qz27, rfl⟩
    · try dsimp only at hr
      refine tm_call rfl rfl (tm_callV rfl rfl c1 rfl rfl) (lq_81 m4) ?_
      refine tm_n 3 (F' := (10, [(4, .inr (.inr v2)), (0, .inr (.inr a0)), (1, .inl a1), (2, .inl a2), (3, .inl a3)], [.inl a2, .inr (.inr v2)])) rfl ?_
      rcases lb_R_s hr with ⟨v5, h6, m7, hr⟩ | ⟨a24, h6, z25, z25l, m7, qz25, rfl⟩
      · try dsimp only at hr
        refine tm_call rfl rfl (tm_callS rfl rfl) (lq_82 m7) ?_
        refine tm_n 1 (F' := (14, [(4, .inr (.inr v2)), (0, .inr (.inr a0)), (1, .inl a1), (2, .inl a2), (3, .inl a3)], [.inl a3, .inr (.inr v5)])) rfl ?_
        rcases lb_R_s hr with ⟨v8, h9, m10, hr⟩ | ⟨a22, h9, z23, z23l, m10, qz23, rfl⟩
        · try dsimp only at hr
          refine tm_call rfl rfl (tm_callS rfl rfl) (lq_84 m10) ?_
          refine tm_n 2 (F' := (21, [(5, .inr (.inr v8)), (4, .inr (.inr v2)), (0, .inr (.inr a0)), (1, .inl a1), (2, .inl a2), (3, .inl a3)], [.inr (.inr v2)])) rfl ?_
          rcases lb_V_s hr with ⟨h12, m13, hr⟩ | ⟨a20, h12, z21, z21l, m13, qz21, rfl⟩
          · try dsimp only at hr
            refine tm_call rfl rfl (tm_callS rfl rfl) (lq_91 m13) ?_
            refine tm_n 3 (F' := (31, [(5, .inr (.inr v8)), (4, .inr (.inr v2)), (0, .inr (.inr a0)), (1, .inl a1), (2, .inl a2), (3, .inl a3)], [.inr (.inr v8), .inr (.inr (some 5)), .inr (.inr v2)])) rfl ?_
            by_cases c14 : lc_of h12 v2 = some 4
            · rw [if_pos c14] at hr
              rcases lb_V_s hr with ⟨h16, m17, hr⟩ | ⟨a18, h16, z19, z19l, m17, qz19, rfl⟩
              · try dsimp only at hr
                refine tm_call rfl rfl (tm_callV rfl rfl c14 rfl rfl) (lq_128 m17) ?_
                cases hr
                exact tm_retV rfl
              · exact tm_callT rfl rfl (tm_callV rfl rfl c14 rfl rfl) (lq_128 m17) qz19 rfl
            · rw [if_neg c14] at hr
              cases hr
          · exact tm_callT rfl rfl (tm_callS rfl rfl) (lq_91 m13) qz21 rfl
        · exact tm_callT rfl rfl (tm_callS rfl rfl) (lq_84 m10) qz23 rfl
      · exact tm_callT rfl rfl (tm_callS rfl rfl) (lq_82 m7) qz25 rfl
    · exact tm_callT rfl rfl (tm_callV rfl rfl c1 rfl rfl) (lq_81 m4) qz27 rfl
  · rw [if_neg c1] at hr
    cases hr
-- OfficeSheetLaw.remove(LOfficeSheet;III)I
set_option maxRecDepth 20000 in
def ll_126 (w : Option Nat) (a0 : Option Nat) (a1 : Int32) (a2 : Int32) (a3 : Int32) (h : pm_H) : tm_L := if lc_of h a0 = some 0 then lh_V (ll_127 w a0 a1 a2 a3 h) (fun h3 => some (.inl (some (.inl (0 : Int32))), h3)) (fun a5 z6 h3 => if z6 = 14 then some (.inl (some (.inl (1 : Int32))), h3) else if z6 = 16 then some (.inl (some (.inl (2 : Int32))), h3) else if z6 = 15 then some (.inl (some (.inl (3 : Int32))), h3) else none) else none
set_option maxRecDepth 20000 in
theorem lq_126 {w : Option Nat} {d : Nat} {a0 : Option Nat} {a1 : Int32} {a2 : Int32} {a3 : Int32} {h : pm_H} {r : tm_O × pm_H} (hr : ll_126 w a0 a1 a2 a3 h = some r) : tm_run pt_P (pt_G (tm_r w)) (d + 18) 126 [.inr (.inr a0), .inl a1, .inl a2, .inl a3] h r := by
  unfold ll_126 at hr
  show pm_to pt_P (pt_G (tm_r w)) (d + 18) (pt_g126, [(0, 7, 10, [14]), (0, 7, 14, [16]), (0, 7, 18, [15])]) (tm_m (0, [(0, .inr (.inr a0)), (1, .inl a1), (2, .inl a2), (3, .inl a3)], [])) h (tm_e r)
  refine tm_n 4 (F' := (4, [(0, .inr (.inr a0)), (1, .inl a1), (2, .inl a2), (3, .inl a3)], [.inl a3, .inl a2, .inl a1, .inr (.inr a0)])) rfl ?_
  by_cases c1 : lc_of h a0 = some 0
  · rw [if_pos c1] at hr
    rcases lh_V_s hr with ⟨h3, m4, hr⟩ | ⟨a5, h3, z6, z6l, m4, qz6, hr⟩
    · try dsimp only at hr
      refine tm_call rfl rfl (tm_callV rfl rfl c1 rfl rfl) (lq_127 m4) ?_
      refine tm_n 2 (F' := (23, [(0, .inr (.inr a0)), (1, .inl a1), (2, .inl a2), (3, .inl a3)], [.inl (0 : Int32)])) rfl ?_
      cases hr
      exact tm_retI rfl rfl
    · try dsimp only at hr
      by_cases c7 : z6 = 14
      · rw [if_pos c7] at hr
        subst c7
        refine tm_callC rfl rfl (tm_callV rfl rfl c1 rfl rfl) (lq_127 m4) qz6 rfl ?_
        refine tm_n 2 (F' := (13, [(4, .inr (.inr (some a5))), (0, .inr (.inr a0)), (1, .inl a1), (2, .inl a2), (3, .inl a3)], [.inl (1 : Int32)])) rfl ?_
        cases hr
        exact tm_retI rfl rfl
      · rw [if_neg c7] at hr
        by_cases c8 : z6 = 16
        · rw [if_pos c8] at hr
          subst c8
          refine tm_callC rfl rfl (tm_callV rfl rfl c1 rfl rfl) (lq_127 m4) qz6 rfl ?_
          refine tm_n 2 (F' := (17, [(4, .inr (.inr (some a5))), (0, .inr (.inr a0)), (1, .inl a1), (2, .inl a2), (3, .inl a3)], [.inl (2 : Int32)])) rfl ?_
          cases hr
          exact tm_retI rfl rfl
        · rw [if_neg c8] at hr
          by_cases c9 : z6 = 15
          · rw [if_pos c9] at hr
            subst c9
            refine tm_callC rfl rfl (tm_callV rfl rfl c1 rfl rfl) (lq_127 m4) qz6 rfl ?_
            refine tm_n 2 (F' := (21, [(4, .inr (.inr (some a5))), (0, .inr (.inr a0)), (1, .inl a1), (2, .inl a2), (3, .inl a3)], [.inl (3 : Int32)])) rfl ?_
            cases hr
            exact tm_retI rfl rfl
          · rw [if_neg c9] at hr
            cases hr
  · rw [if_neg c1] at hr
    cases hr
-- java/lang/StringUTF16.getChar([BI)C
set_option maxRecDepth 20000 in
def ll_73 (a0 : Option Nat) (a1 : Int32) (h : pm_H) : tm_L := none
set_option maxRecDepth 20000 in
theorem lq_73 {w : Option Nat} {d : Nat} {a0 : Option Nat} {a1 : Int32} {h : pm_H} {r : tm_O × pm_H} (hr : ll_73 a0 a1 h = some r) : tm_run pt_P (pt_G (tm_r w)) (d + 1) 73 [.inr (.inr a0), .inl a1] h r := by
  unfold ll_73 at hr
  show pm_to pt_P (pt_G (tm_r w)) (d + 1) (pt_g73, []) (tm_m (0, [(0, .inr (.inr a0)), (1, .inl a1)], [])) h (tm_e r)
  cases hr
-- java/lang/AbstractStringBuilder.charAt(I)C
set_option maxRecDepth 20000 in
def ll_135 (w : Option Nat) (a0 : Option Nat) (a1 : Int32) (h : pm_H) : tm_L := (lf_I h a0 [11, 1]).bind fun v1 => (lf_R h a0 [11, 0]).bind fun v2 => (lf_I h a0 [11, 3]).bind fun v3 => (la_len h v2).bind fun v4 => lb_I (ll_27 v3 (v4 >>> (v1 &&& 31)) h) (fun v5 h6 => lb_V (ll_40 w a1 v5 h6) (fun h9 => if v1 = (0 : Int32) then (la_I h9 .baload v2 a1).bind fun v11 => if pm_fit 5 (.int (UInt32.toInt32 (Int32.toUInt32 (v11 &&& (255 : Int32)) % 65536))) = true then some (.inl (some (.inl (UInt32.toInt32 (Int32.toUInt32 (v11 &&& (255 : Int32)) % 65536)))), h9) else none else lb_I (ll_73 v2 a1 h9) (fun v13 h14 => if pm_fit 5 (.int v13) = true then some (.inl (some (.inl v13)), h14) else none)))
set_option maxRecDepth 20000 in
theorem lq_135 {w : Option Nat} {d : Nat} {a0 : Option Nat} {a1 : Int32} {h : pm_H} {r : tm_O × pm_H} (hr : ll_135 w a0 a1 h = some r) : tm_run pt_P (pt_G (tm_r w)) (d + 2) 135 [.inr (.inr a0), .inl a1] h r := by
  unfold ll_135 at hr
  show pm_to pt_P (pt_G (tm_r w)) (d + 2) (pt_g135, []) (tm_m (0, [(0, .inr (.inr a0)), (1, .inl a1)], [])) h (tm_e r)
  refine tm_n 1 (F' := (1, [(0, .inr (.inr a0)), (1, .inl a1)], [.inr (.inr a0)])) rfl ?_
  obtain ⟨v1, qv1, hr⟩ := Option.bind_eq_some_iff.mp hr
  refine tm_getf rfl (lf_I_V qv1) ?_
  refine tm_n 2 (F' := (6, [(2, .inl v1), (0, .inr (.inr a0)), (1, .inl a1)], [.inr (.inr a0)])) rfl ?_
  obtain ⟨v2, qv2, hr⟩ := Option.bind_eq_some_iff.mp hr
  refine tm_getf rfl (lf_R_V qv2) ?_
  refine tm_n 2 (F' := (11, [(3, .inr (.inr v2)), (2, .inl v1), (0, .inr (.inr a0)), (1, .inl a1)], [.inr (.inr a0)])) rfl ?_
  obtain ⟨v3, qv3, hr⟩ := Option.bind_eq_some_iff.mp hr
  refine tm_getf rfl (lf_I_V qv3) ?_
  refine tm_n 1 (F' := (15, [(3, .inr (.inr v2)), (2, .inl v1), (0, .inr (.inr a0)), (1, .inl a1)], [.inr (.inr v2), .inl v3])) rfl ?_
  obtain ⟨v4, qv4, hr⟩ := Option.bind_eq_some_iff.mp hr
  refine tm_alen rfl qv4 ?_
  refine tm_n 2 (F' := (18, [(3, .inr (.inr v2)), (2, .inl v1), (0, .inr (.inr a0)), (1, .inl a1)], [.inl (v4 >>> (v1 &&& 31)), .inl v3])) rfl ?_
  rcases lb_I_s hr with ⟨v5, h6, m7, hr⟩ | ⟨a22, h6, z23, z23l, m7, qz23, rfl⟩
  · try dsimp only at hr
    refine tm_call rfl rfl (tm_callS rfl rfl) (lq_27 m7) ?_
    refine tm_n 3 (F' := (26, [(4, .inl v5), (3, .inr (.inr v2)), (2, .inl v1), (0, .inr (.inr a0)), (1, .inl a1)], [.inl v5, .inl a1])) rfl ?_
    rcases lb_V_s hr with ⟨h9, m10, hr⟩ | ⟨a20, h9, z21, z21l, m10, qz21, rfl⟩
    · try dsimp only at hr
      refine tm_call rfl rfl (tm_callS rfl rfl) (lq_40 m10) ?_
      refine tm_n 1 (F' := (30, [(4, .inl v5), (3, .inr (.inr v2)), (2, .inl v1), (0, .inr (.inr a0)), (1, .inl a1)], [.inl v1])) rfl ?_
      by_cases c19 : v1 = (0 : Int32)
      · rw [if_pos c19] at hr
        refine tm_ifF rfl (fun q => q c19) ?_
        refine tm_n 2 (F' := (35, [(4, .inl v5), (3, .inr (.inr v2)), (2, .inl v1), (0, .inr (.inr a0)), (1, .inl a1)], [.inl a1, .inr (.inr v2)])) rfl ?_
        obtain ⟨v11, qv11, hr⟩ := Option.bind_eq_some_iff.mp hr
        refine tm_ald rfl rfl (la_I_V qv11) ?_
        refine tm_n 3 (F' := (41, [(4, .inl v5), (3, .inr (.inr v2)), (2, .inl v1), (0, .inr (.inr a0)), (1, .inl a1)], [.inl (UInt32.toInt32 (Int32.toUInt32 (v11 &&& (255 : Int32)) % 65536))])) rfl ?_
        by_cases c12 : pm_fit 5 (.int (UInt32.toInt32 (Int32.toUInt32 (v11 &&& (255 : Int32)) % 65536))) = true
        · rw [if_pos c12] at hr
          cases hr
          exact tm_retI rfl c12
        · rw [if_neg c12] at hr
          cases hr
      · rw [if_neg c19] at hr
        refine tm_ifT rfl c19 ?_
        refine tm_n 2 (F' := (44, [(4, .inl v5), (3, .inr (.inr v2)), (2, .inl v1), (0, .inr (.inr a0)), (1, .inl a1)], [.inl a1, .inr (.inr v2)])) rfl ?_
        rcases lb_I_s hr with ⟨v13, h14, m15, hr⟩ | ⟨a17, h14, z18, z18l, m15, qz18, rfl⟩
        · try dsimp only at hr
          refine tm_call rfl rfl (tm_callS rfl rfl) (lq_73 m15) ?_
          by_cases c16 : pm_fit 5 (.int v13) = true
          · rw [if_pos c16] at hr
            cases hr
            exact tm_retI rfl c16
          · rw [if_neg c16] at hr
            cases hr
        · exact tm_callT rfl rfl (tm_callS rfl rfl) (lq_73 m15) qz18 rfl
    · exact tm_callT rfl rfl (tm_callS rfl rfl) (lq_40 m10) qz21 rfl
  · exact tm_callT rfl rfl (tm_callS rfl rfl) (lq_27 m7) qz23 rfl
-- java/lang/StringBuilder.charAt(I)C
set_option maxRecDepth 20000 in
def ll_134 (w : Option Nat) (a0 : Option Nat) (a1 : Int32) (h : pm_H) : tm_L := if lc_of h a0 = some 11 then lb_I (ll_135 w a0 a1 h) (fun v2 h3 => if pm_fit 5 (.int v2) = true then some (.inl (some (.inl v2)), h3) else none) else none
set_option maxRecDepth 20000 in
theorem lq_134 {w : Option Nat} {d : Nat} {a0 : Option Nat} {a1 : Int32} {h : pm_H} {r : tm_O × pm_H} (hr : ll_134 w a0 a1 h = some r) : tm_run pt_P (pt_G (tm_r w)) (d + 3) 134 [.inr (.inr a0), .inl a1] h r := by
  unfold ll_134 at hr
  show pm_to pt_P (pt_G (tm_r w)) (d + 3) (pt_g134, []) (tm_m (0, [(0, .inr (.inr a0)), (1, .inl a1)], [])) h (tm_e r)
  refine tm_n 2 (F' := (2, [(0, .inr (.inr a0)), (1, .inl a1)], [.inl a1, .inr (.inr a0)])) rfl ?_
  by_cases c1 : lc_of h a0 = some 11
  · rw [if_pos c1] at hr
    rcases lb_I_s hr with ⟨v2, h3, m4, hr⟩ | ⟨a6, h3, z7, z7l, m4, qz7, rfl⟩
    · try dsimp only at hr
      refine tm_call rfl rfl (tm_callV rfl rfl c1 rfl rfl) (lq_135 m4) ?_
      by_cases c5 : pm_fit 5 (.int v2) = true
      · rw [if_pos c5] at hr
        cases hr
        exact tm_retI rfl c5
      · rw [if_neg c5] at hr
        cases hr
    · exact tm_callT rfl rfl (tm_callV rfl rfl c1 rfl rfl) (lq_135 m4) qz7 rfl
  · rw [if_neg c1] at hr
    cases hr
-- OfficeSheet$Reader.isDigit(C)Z
set_option maxRecDepth 20000 in
def ll_137 (a0 : Int32) (h : pm_H) : tm_L := if a0 < (48 : Int32) then some (.inl (some (.inl (0 : Int32))), h) else if (57 : Int32) < a0 then some (.inl (some (.inl (0 : Int32))), h) else some (.inl (some (.inl (1 : Int32))), h)
set_option maxRecDepth 20000 in
theorem lq_137 {w : Option Nat} {d : Nat} {a0 : Int32} {h : pm_H} {r : tm_O × pm_H} (hr : ll_137 a0 h = some r) : tm_run pt_P (pt_G (tm_r w)) (d + 0) 137 [.inl a0] h r := by
  unfold ll_137 at hr
  show pm_to pt_P (pt_G (tm_r w)) (d + 0) (pt_g137, []) (tm_m (0, [(0, .inl a0)], [])) h (tm_e r)
  refine tm_n 2 (F' := (3, [(0, .inl a0)], [.inl (48 : Int32), .inl a0])) rfl ?_
  by_cases c2 : a0 < (48 : Int32)
  · rw [if_pos c2] at hr
    refine tm_icT rfl c2 ?_
    refine tm_n 1 (F' := (17, [(0, .inl a0)], [.inl (0 : Int32)])) rfl ?_
    cases hr
    exact tm_retI rfl rfl
  · rw [if_neg c2] at hr
    refine tm_icF rfl c2 ?_
    refine tm_n 2 (F' := (9, [(0, .inl a0)], [.inl (57 : Int32), .inl a0])) rfl ?_
    by_cases c1 : (57 : Int32) < a0
    · rw [if_pos c1] at hr
      refine tm_icT rfl c1 ?_
      refine tm_n 1 (F' := (17, [(0, .inl a0)], [.inl (0 : Int32)])) rfl ?_
      cases hr
      exact tm_retI rfl rfl
    · rw [if_neg c1] at hr
      refine tm_icF rfl c1 ?_
      refine tm_n 2 (F' := (17, [(0, .inl a0)], [.inl (1 : Int32)])) rfl ?_
      cases hr
      exact tm_retI rfl rfl
-- OfficeSheet$Reader.isOfNumber(C)Z
set_option maxRecDepth 20000 in
def ll_136 (a0 : Int32) (h : pm_H) : tm_L := lb_I (ll_137 a0 h) (fun v1 h2 => if v1 = (0 : Int32) then if a0 = (46 : Int32) then some (.inl (some (.inl (1 : Int32))), h2) else some (.inl (some (.inl (0 : Int32))), h2) else some (.inl (some (.inl (1 : Int32))), h2))
set_option maxRecDepth 20000 in
theorem lq_136 {w : Option Nat} {d : Nat} {a0 : Int32} {h : pm_H} {r : tm_O × pm_H} (hr : ll_136 a0 h = some r) : tm_run pt_P (pt_G (tm_r w)) (d + 1) 136 [.inl a0] h r := by
  unfold ll_136 at hr
  show pm_to pt_P (pt_G (tm_r w)) (d + 1) (pt_g136, []) (tm_m (0, [(0, .inl a0)], [])) h (tm_e r)
  refine tm_n 1 (F' := (1, [(0, .inl a0)], [.inl a0])) rfl ?_
  rcases lb_I_s hr with ⟨v1, h2, m3, hr⟩ | ⟨a6, h2, z7, z7l, m3, qz7, rfl⟩
  · try dsimp only at hr
    refine tm_call rfl rfl (tm_callS rfl rfl) (lq_137 m3) ?_
    by_cases c5 : v1 = (0 : Int32)
    · rw [if_pos c5] at hr
      refine tm_ifF rfl (fun q => q c5) ?_
      refine tm_n 2 (F' := (10, [(0, .inl a0)], [.inl (46 : Int32), .inl a0])) rfl ?_
      by_cases c4 : a0 = (46 : Int32)
      · rw [if_pos c4] at hr
        refine tm_icF rfl (fun q => q c4) ?_
        refine tm_n 2 (F' := (18, [(0, .inl a0)], [.inl (1 : Int32)])) rfl ?_
        cases hr
        exact tm_retI rfl rfl
      · rw [if_neg c4] at hr
        refine tm_icT rfl c4 ?_
        refine tm_n 1 (F' := (18, [(0, .inl a0)], [.inl (0 : Int32)])) rfl ?_
        cases hr
        exact tm_retI rfl rfl
    · rw [if_neg c5] at hr
      refine tm_ifT rfl c5 ?_
      refine tm_n 2 (F' := (18, [(0, .inl a0)], [.inl (1 : Int32)])) rfl ?_
      cases hr
      exact tm_retI rfl rfl
  · exact tm_callT rfl rfl (tm_callS rfl rfl) (lq_137 m3) qz7 rfl
-- OfficeSheet$Reader.isCapital(C)Z
set_option maxRecDepth 20000 in
def ll_138 (a0 : Int32) (h : pm_H) : tm_L := if a0 < (65 : Int32) then some (.inl (some (.inl (0 : Int32))), h) else if (90 : Int32) < a0 then some (.inl (some (.inl (0 : Int32))), h) else some (.inl (some (.inl (1 : Int32))), h)
set_option maxRecDepth 20000 in
theorem lq_138 {w : Option Nat} {d : Nat} {a0 : Int32} {h : pm_H} {r : tm_O × pm_H} (hr : ll_138 a0 h = some r) : tm_run pt_P (pt_G (tm_r w)) (d + 0) 138 [.inl a0] h r := by
  unfold ll_138 at hr
  show pm_to pt_P (pt_G (tm_r w)) (d + 0) (pt_g138, []) (tm_m (0, [(0, .inl a0)], [])) h (tm_e r)
  refine tm_n 2 (F' := (3, [(0, .inl a0)], [.inl (65 : Int32), .inl a0])) rfl ?_
  by_cases c2 : a0 < (65 : Int32)
  · rw [if_pos c2] at hr
    refine tm_icT rfl c2 ?_
    refine tm_n 1 (F' := (17, [(0, .inl a0)], [.inl (0 : Int32)])) rfl ?_
    cases hr
    exact tm_retI rfl rfl
  · rw [if_neg c2] at hr
    refine tm_icF rfl c2 ?_
    refine tm_n 2 (F' := (9, [(0, .inl a0)], [.inl (90 : Int32), .inl a0])) rfl ?_
    by_cases c1 : (90 : Int32) < a0
    · rw [if_pos c1] at hr
      refine tm_icT rfl c1 ?_
      refine tm_n 1 (F' := (17, [(0, .inl a0)], [.inl (0 : Int32)])) rfl ?_
      cases hr
      exact tm_retI rfl rfl
    · rw [if_neg c1] at hr
      refine tm_icF rfl c1 ?_
      refine tm_n 2 (F' := (17, [(0, .inl a0)], [.inl (1 : Int32)])) rfl ?_
      cases hr
      exact tm_retI rfl rfl
-- OfficeSheet$Reader.endOfToken(I)I
set_option maxRecDepth 20000 in
def l133_63 (w : Option Nat) : Nat → Option Nat → Int32 → Int32 → pm_H → tm_L
  | 0 => fun _ _ _ _ => none
  | n + 1 => fun x0 x1 x2 h => (lf_R h x0 [1, 0]).bind fun v1 => if lc_of h v1 = some 11 then lb_I (ll_17 v1 h) (fun v3 h4 => if v3 ≤ x2 then some (.inl (some (.inl x2)), h4) else if (x1 + (3 : Int32)) ≤ x2 then some (.inl (some (.inl x2)), h4) else (lf_R h4 x0 [1, 0]).bind fun v6 => if lc_of h4 v6 = some 11 then lb_I (ll_134 w v6 x2 h4) (fun v8 h9 => lb_I (ll_137 v8 h9) (fun v11 h12 => if v11 = (0 : Int32) then some (.inl (some (.inl x2)), h12) else l133_63 w n x0 x1 (x2 + (1 : Int32)) h12)) else none) else none
set_option maxRecDepth 20000 in
theorem l133_63_t {w : Option Nat} {d : Nat} : ∀ (n : Nat) {x0 : Option Nat} {x1 : Int32} {x2 : Int32} {h : pm_H} {r : tm_O × pm_H}, l133_63 w n x0 x1 x2 h = some r → pm_to pt_P (pt_G (tm_r w)) (d + 4) (pt_g133, []) (tm_m (63, [(0, .inr (.inr x0)), (1, .inl x1), (2, .inl x2)], [])) h (tm_e r) := by
  intro n
  induction n with
  | zero => intro x0 x1 x2 h r hr; cases hr
  | succ n ih =>
    intro x0 x1 x2 h r hr
    unfold l133_63 at hr
    refine tm_n 2 (F' := (65, [(0, .inr (.inr x0)), (1, .inl x1), (2, .inl x2)], [.inr (.inr x0), .inl x2])) rfl ?_
    obtain ⟨v1, qv1, hr⟩ := Option.bind_eq_some_iff.mp hr
    refine tm_getf rfl (lf_R_V qv1) ?_
    by_cases c2 : lc_of h v1 = some 11
    · rw [if_pos c2] at hr
      rcases lb_I_s hr with ⟨v3, h4, m5, hr⟩ | ⟨a21, h4, z22, z22l, m5, qz22, rfl⟩
      · try dsimp only at hr
        refine tm_call rfl rfl (tm_callV rfl rfl c2 rfl rfl) (lq_17 m5) ?_
        by_cases c20 : v3 ≤ x2
        · rw [if_pos c20] at hr
          refine tm_icT rfl c20 ?_
          refine tm_n 1 (F' := (102, [(0, .inr (.inr x0)), (1, .inl x1), (2, .inl x2)], [.inl x2])) rfl ?_
          cases hr
          exact tm_retI rfl rfl
        · rw [if_neg c20] at hr
          refine tm_icF rfl c20 ?_
          refine tm_n 4 (F' := (78, [(0, .inr (.inr x0)), (1, .inl x1), (2, .inl x2)], [.inl (x1 + (3 : Int32)), .inl x2])) rfl ?_
          by_cases c19 : (x1 + (3 : Int32)) ≤ x2
          · rw [if_pos c19] at hr
            refine tm_icT rfl c19 ?_
            refine tm_n 1 (F' := (102, [(0, .inr (.inr x0)), (1, .inl x1), (2, .inl x2)], [.inl x2])) rfl ?_
            cases hr
            exact tm_retI rfl rfl
          · rw [if_neg c19] at hr
            refine tm_icF rfl c19 ?_
            refine tm_n 1 (F' := (82, [(0, .inr (.inr x0)), (1, .inl x1), (2, .inl x2)], [.inr (.inr x0)])) rfl ?_
            obtain ⟨v6, qv6, hr⟩ := Option.bind_eq_some_iff.mp hr
            refine tm_getf rfl (lf_R_V qv6) ?_
            refine tm_n 1 (F' := (86, [(0, .inr (.inr x0)), (1, .inl x1), (2, .inl x2)], [.inl x2, .inr (.inr v6)])) rfl ?_
            by_cases c7 : lc_of h4 v6 = some 11
            · rw [if_pos c7] at hr
              rcases lb_I_s hr with ⟨v8, h9, m10, hr⟩ | ⟨a17, h9, z18, z18l, m10, qz18, rfl⟩
              · try dsimp only at hr
                refine tm_call rfl rfl (tm_callV rfl rfl c7 rfl rfl) (lq_134 m10) ?_
                rcases lb_I_s hr with ⟨v11, h12, m13, hr⟩ | ⟨a15, h12, z16, z16l, m13, qz16, rfl⟩
                · try dsimp only at hr
                  refine tm_call rfl rfl (tm_callS rfl rfl) (lq_137 m13) ?_
                  by_cases c14 : v11 = (0 : Int32)
                  · rw [if_pos c14] at hr
                    refine tm_ifT rfl c14 ?_
                    refine tm_n 1 (F' := (102, [(0, .inr (.inr x0)), (1, .inl x1), (2, .inl x2)], [.inl x2])) rfl ?_
                    cases hr
                    exact tm_retI rfl rfl
                  · rw [if_neg c14] at hr
                    refine tm_ifF rfl c14 ?_
                    refine tm_n 2 (F' := (63, [(2, .inl (x2 + (1 : Int32))), (0, .inr (.inr x0)), (1, .inl x1)], [])) rfl ?_
                    refine tm_cut (a := [(0, .inr (.inr x0)), (1, .inl x1), (2, .inl (x2 + (1 : Int32)))]) rfl (tm_sbs [1, 2, 0] rfl) ?_
                    exact ih hr
                · exact tm_callT rfl rfl (tm_callS rfl rfl) (lq_137 m13) qz16 rfl
              · exact tm_callT rfl rfl (tm_callV rfl rfl c7 rfl rfl) (lq_134 m10) qz18 rfl
            · rw [if_neg c7] at hr
              cases hr
      · exact tm_callT rfl rfl (tm_callV rfl rfl c2 rfl rfl) (lq_17 m5) qz22 rfl
    · rw [if_neg c2] at hr
      cases hr
set_option maxRecDepth 20000 in
def l133_18 (w : Option Nat) : Nat → Option Nat → Int32 → pm_H → tm_L
  | 0 => fun _ _ _ => none
  | n + 1 => fun x0 x2 h => (lf_R h x0 [1, 0]).bind fun v1 => if lc_of h v1 = some 11 then lb_I (ll_17 v1 h) (fun v3 h4 => if v3 ≤ x2 then some (.inl (some (.inl x2)), h4) else (lf_R h4 x0 [1, 0]).bind fun v6 => if lc_of h4 v6 = some 11 then lb_I (ll_134 w v6 x2 h4) (fun v8 h9 => lb_I (ll_136 v8 h9) (fun v11 h12 => if v11 = (0 : Int32) then some (.inl (some (.inl x2)), h12) else l133_18 w n x0 (x2 + (1 : Int32)) h12)) else none) else none
set_option maxRecDepth 20000 in
theorem l133_18_t {w : Option Nat} {d : Nat} : ∀ (n : Nat) {x0 : Option Nat} {x2 : Int32} {h : pm_H} {r : tm_O × pm_H}, l133_18 w n x0 x2 h = some r → pm_to pt_P (pt_G (tm_r w)) (d + 4) (pt_g133, []) (tm_m (18, [(0, .inr (.inr x0)), (2, .inl x2)], [])) h (tm_e r) := by
  intro n
  induction n with
  | zero => intro x0 x2 h r hr; cases hr
  | succ n ih =>
    intro x0 x2 h r hr
    unfold l133_18 at hr
    refine tm_n 2 (F' := (20, [(0, .inr (.inr x0)), (2, .inl x2)], [.inr (.inr x0), .inl x2])) rfl ?_
    obtain ⟨v1, qv1, hr⟩ := Option.bind_eq_some_iff.mp hr
    refine tm_getf rfl (lf_R_V qv1) ?_
    by_cases c2 : lc_of h v1 = some 11
    · rw [if_pos c2] at hr
      rcases lb_I_s hr with ⟨v3, h4, m5, hr⟩ | ⟨a20, h4, z21, z21l, m5, qz21, rfl⟩
      · try dsimp only at hr
        refine tm_call rfl rfl (tm_callV rfl rfl c2 rfl rfl) (lq_17 m5) ?_
        by_cases c19 : v3 ≤ x2
        · rw [if_pos c19] at hr
          refine tm_icT rfl c19 ?_
          refine tm_n 1 (F' := (102, [(0, .inr (.inr x0)), (2, .inl x2)], [.inl x2])) rfl ?_
          cases hr
          exact tm_retI rfl rfl
        · rw [if_neg c19] at hr
          refine tm_icF rfl c19 ?_
          refine tm_n 1 (F' := (30, [(0, .inr (.inr x0)), (2, .inl x2)], [.inr (.inr x0)])) rfl ?_
          obtain ⟨v6, qv6, hr⟩ := Option.bind_eq_some_iff.mp hr
          refine tm_getf rfl (lf_R_V qv6) ?_
          refine tm_n 1 (F' := (34, [(0, .inr (.inr x0)), (2, .inl x2)], [.inl x2, .inr (.inr v6)])) rfl ?_
          by_cases c7 : lc_of h4 v6 = some 11
          · rw [if_pos c7] at hr
            rcases lb_I_s hr with ⟨v8, h9, m10, hr⟩ | ⟨a17, h9, z18, z18l, m10, qz18, rfl⟩
            · try dsimp only at hr
              refine tm_call rfl rfl (tm_callV rfl rfl c7 rfl rfl) (lq_134 m10) ?_
              rcases lb_I_s hr with ⟨v11, h12, m13, hr⟩ | ⟨a15, h12, z16, z16l, m13, qz16, rfl⟩
              · try dsimp only at hr
                refine tm_call rfl rfl (tm_callS rfl rfl) (lq_136 m13) ?_
                by_cases c14 : v11 = (0 : Int32)
                · rw [if_pos c14] at hr
                  refine tm_ifT rfl c14 ?_
                  refine tm_n 1 (F' := (102, [(0, .inr (.inr x0)), (2, .inl x2)], [.inl x2])) rfl ?_
                  cases hr
                  exact tm_retI rfl rfl
                · rw [if_neg c14] at hr
                  refine tm_ifF rfl c14 ?_
                  refine tm_n 2 (F' := (18, [(2, .inl (x2 + (1 : Int32))), (0, .inr (.inr x0))], [])) rfl ?_
                  refine tm_cut (a := [(0, .inr (.inr x0)), (2, .inl (x2 + (1 : Int32)))]) rfl (tm_sbs [1, 0] rfl) ?_
                  exact ih hr
              · exact tm_callT rfl rfl (tm_callS rfl rfl) (lq_136 m13) qz16 rfl
            · exact tm_callT rfl rfl (tm_callV rfl rfl c7 rfl rfl) (lq_134 m10) qz18 rfl
          · rw [if_neg c7] at hr
            cases hr
      · exact tm_callT rfl rfl (tm_callV rfl rfl c2 rfl rfl) (lq_17 m5) qz21 rfl
    · rw [if_neg c2] at hr
      cases hr
set_option maxRecDepth 20000 in
def ll_133 (w : Option Nat) (a0 : Option Nat) (a1 : Int32) (h : pm_H) : tm_L := (lf_R h a0 [1, 0]).bind fun v1 => if lc_of h v1 = some 11 then lb_I (ll_134 w v1 a1 h) (fun v3 h4 => lb_I (ll_136 v3 h4) (fun v6 h7 => if v6 = (0 : Int32) then (lf_R h7 a0 [1, 0]).bind fun v9 => if lc_of h7 v9 = some 11 then lb_I (ll_134 w v9 a1 h7) (fun v11 h12 => lb_I (ll_138 v11 h12) (fun v14 h15 => if v14 = (0 : Int32) then some (.inl (some (.inl (a1 + (1 : Int32)))), h15) else l133_63 w lf_N a0 a1 (a1 + (1 : Int32)) h15)) else none else l133_18 w lf_N a0 (a1 + (1 : Int32)) h7)) else none
set_option maxRecDepth 20000 in
theorem lq_133 {w : Option Nat} {d : Nat} {a0 : Option Nat} {a1 : Int32} {h : pm_H} {r : tm_O × pm_H} (hr : ll_133 w a0 a1 h = some r) : tm_run pt_P (pt_G (tm_r w)) (d + 4) 133 [.inr (.inr a0), .inl a1] h r := by
  unfold ll_133 at hr
  show pm_to pt_P (pt_G (tm_r w)) (d + 4) (pt_g133, []) (tm_m (0, [(0, .inr (.inr a0)), (1, .inl a1)], [])) h (tm_e r)
  refine tm_n 5 (F' := (5, [(2, .inl (a1 + (1 : Int32))), (0, .inr (.inr a0)), (1, .inl a1)], [.inr (.inr a0)])) rfl ?_
  obtain ⟨v1, qv1, hr⟩ := Option.bind_eq_some_iff.mp hr
  refine tm_getf rfl (lf_R_V qv1) ?_
  refine tm_n 1 (F' := (9, [(2, .inl (a1 + (1 : Int32))), (0, .inr (.inr a0)), (1, .inl a1)], [.inl a1, .inr (.inr v1)])) rfl ?_
  by_cases c2 : lc_of h v1 = some 11
  · rw [if_pos c2] at hr
    rcases lb_I_s hr with ⟨v3, h4, m5, hr⟩ | ⟨a25, h4, z26, z26l, m5, qz26, rfl⟩
    · try dsimp only at hr
      refine tm_call rfl rfl (tm_callV rfl rfl c2 rfl rfl) (lq_134 m5) ?_
      rcases lb_I_s hr with ⟨v6, h7, m8, hr⟩ | ⟨a23, h7, z24, z24l, m8, qz24, rfl⟩
      · try dsimp only at hr
        refine tm_call rfl rfl (tm_callS rfl rfl) (lq_136 m8) ?_
        by_cases c22 : v6 = (0 : Int32)
        · rw [if_pos c22] at hr
          refine tm_ifT rfl c22 ?_
          refine tm_n 1 (F' := (50, [(2, .inl (a1 + (1 : Int32))), (0, .inr (.inr a0)), (1, .inl a1)], [.inr (.inr a0)])) rfl ?_
          obtain ⟨v9, qv9, hr⟩ := Option.bind_eq_some_iff.mp hr
          refine tm_getf rfl (lf_R_V qv9) ?_
          refine tm_n 1 (F' := (54, [(2, .inl (a1 + (1 : Int32))), (0, .inr (.inr a0)), (1, .inl a1)], [.inl a1, .inr (.inr v9)])) rfl ?_
          by_cases c10 : lc_of h7 v9 = some 11
          · rw [if_pos c10] at hr
            rcases lb_I_s hr with ⟨v11, h12, m13, hr⟩ | ⟨a20, h12, z21, z21l, m13, qz21, rfl⟩
            · try dsimp only at hr
              refine tm_call rfl rfl (tm_callV rfl rfl c10 rfl rfl) (lq_134 m13) ?_
              rcases lb_I_s hr with ⟨v14, h15, m16, hr⟩ | ⟨a18, h15, z19, z19l, m16, qz19, rfl⟩
              · try dsimp only at hr
                refine tm_call rfl rfl (tm_callS rfl rfl) (lq_138 m16) ?_
                by_cases c17 : v14 = (0 : Int32)
                · rw [if_pos c17] at hr
                  refine tm_ifT rfl c17 ?_
                  refine tm_n 1 (F' := (102, [(2, .inl (a1 + (1 : Int32))), (0, .inr (.inr a0)), (1, .inl a1)], [.inl (a1 + (1 : Int32))])) rfl ?_
                  cases hr
                  exact tm_retI rfl rfl
                · rw [if_neg c17] at hr
                  refine tm_ifF rfl c17 ?_
                  refine tm_cut (a := [(0, .inr (.inr a0)), (1, .inl a1), (2, .inl (a1 + (1 : Int32)))]) rfl (tm_sbs [1, 2, 0] rfl) ?_
                  exact l133_63_t lf_N hr
              · exact tm_callT rfl rfl (tm_callS rfl rfl) (lq_138 m16) qz19 rfl
            · exact tm_callT rfl rfl (tm_callV rfl rfl c10 rfl rfl) (lq_134 m13) qz21 rfl
          · rw [if_neg c10] at hr
            cases hr
        · rw [if_neg c22] at hr
          refine tm_ifF rfl c22 ?_
          refine tm_cut (a := [(0, .inr (.inr a0)), (2, .inl (a1 + (1 : Int32)))]) rfl (tm_sbs [1, 0] rfl) ?_
          exact l133_18_t lf_N hr
      · exact tm_callT rfl rfl (tm_callS rfl rfl) (lq_136 m8) qz24 rfl
    · exact tm_callT rfl rfl (tm_callV rfl rfl c2 rfl rfl) (lq_134 m5) qz26 rfl
  · rw [if_neg c2] at hr
    cases hr
-- OfficeSheet$Reader.split()V
set_option maxRecDepth 20000 in
def l132_58 (w : Option Nat) (x0 : Option Nat) (h : pm_H) : tm_L := (lf_R h x0 [1, 1]).bind fun v1 => (lf_I h x0 [1, 2]).bind fun v2 => (lf_R h x0 [1, 0]).bind fun v3 => if lc_of h v3 = some 11 then lb_I (ll_17 v3 h) (fun v5 h6 => (la_S pt_P h6 .iastore v1 v2 (.inl v5)).bind fun h8 => some (.inl none, h8)) else none
set_option maxRecDepth 20000 in
theorem l132_58_t {w : Option Nat} {d : Nat} {x0 : Option Nat} {h : pm_H} {r : tm_O × pm_H} (hr : l132_58 w x0 h = some r) : pm_to pt_P (pt_G (tm_r w)) (d + 5) (pt_g132, []) (tm_m (58, [(0, .inr (.inr x0))], [])) h (tm_e r) := by
  unfold l132_58 at hr
  refine tm_n 1 (F' := (59, [(0, .inr (.inr x0))], [.inr (.inr x0)])) rfl ?_
  obtain ⟨v1, qv1, hr⟩ := Option.bind_eq_some_iff.mp hr
  refine tm_getf rfl (lf_R_V qv1) ?_
  refine tm_n 1 (F' := (63, [(0, .inr (.inr x0))], [.inr (.inr x0), .inr (.inr v1)])) rfl ?_
  obtain ⟨v2, qv2, hr⟩ := Option.bind_eq_some_iff.mp hr
  refine tm_getf rfl (lf_I_V qv2) ?_
  refine tm_n 1 (F' := (67, [(0, .inr (.inr x0))], [.inr (.inr x0), .inl v2, .inr (.inr v1)])) rfl ?_
  obtain ⟨v3, qv3, hr⟩ := Option.bind_eq_some_iff.mp hr
  refine tm_getf rfl (lf_R_V qv3) ?_
  by_cases c4 : lc_of h v3 = some 11
  · rw [if_pos c4] at hr
    rcases lb_I_s hr with ⟨v5, h6, m7, hr⟩ | ⟨a9, h6, z10, z10l, m7, qz10, rfl⟩
    · try dsimp only at hr
      refine tm_call rfl rfl (tm_callV rfl rfl c4 rfl rfl) (lq_17 m7) ?_
      obtain ⟨h8, qh8, hr⟩ := Option.bind_eq_some_iff.mp hr
      refine tm_ast rfl rfl qh8 ?_
      cases hr
      exact tm_retV rfl
    · exact tm_callT rfl rfl (tm_callV rfl rfl c4 rfl rfl) (lq_17 m7) qz10 rfl
  · rw [if_neg c4] at hr
    cases hr
set_option maxRecDepth 20000 in
def l132_9 (w : Option Nat) : Nat → Option Nat → Int32 → Int32 → pm_H → tm_L
  | 0 => fun _ _ _ _ => none
  | n + 1 => fun x0 x1 x2 h => if (20 : Int32) ≤ x2 then l132_58 w x0 h else (lf_R h x0 [1, 0]).bind fun v1 => if lc_of h v1 = some 11 then lb_I (ll_17 v1 h) (fun v3 h4 => if v3 ≤ x1 then l132_58 w x0 h4 else (lf_R h4 x0 [1, 1]).bind fun v6 => (lf_I h4 x0 [1, 2]).bind fun v7 => (la_S pt_P h4 .iastore v6 v7 (.inl x1)).bind fun h8 => (lf_I h8 x0 [1, 2]).bind fun v9 => (lf_P 81 h8 x0 [0, 1, 2] (.inl (v9 + (1 : Int32)))).bind fun h10 => if lc_of h10 x0 = some 1 then lb_I (ll_133 w x0 x1 h10) (fun v12 h13 => l132_9 w n x0 v12 (x2 + (1 : Int32)) h13) else none) else none
set_option maxRecDepth 20000 in
theorem l132_9_t {w : Option Nat} {d : Nat} : ∀ (n : Nat) {x0 : Option Nat} {x1 : Int32} {x2 : Int32} {h : pm_H} {r : tm_O × pm_H}, l132_9 w n x0 x1 x2 h = some r → pm_to pt_P (pt_G (tm_r w)) (d + 5) (pt_g132, []) (tm_m (9, [(0, .inr (.inr x0)), (1, .inl x1), (2, .inl x2)], [])) h (tm_e r) := by
  intro n
  induction n with
  | zero => intro x0 x1 x2 h r hr; cases hr
  | succ n ih =>
    intro x0 x1 x2 h r hr
    unfold l132_9 at hr
    refine tm_n 2 (F' := (12, [(0, .inr (.inr x0)), (1, .inl x1), (2, .inl x2)], [.inl (20 : Int32), .inl x2])) rfl ?_
    by_cases c20 : (20 : Int32) ≤ x2
    · rw [if_pos c20] at hr
      refine tm_icT rfl c20 ?_
      refine tm_cut (a := [(0, .inr (.inr x0))]) rfl (tm_sbs [0] rfl) ?_
      exact l132_58_t hr
    · rw [if_neg c20] at hr
      refine tm_icF rfl c20 ?_
      refine tm_n 2 (F' := (17, [(0, .inr (.inr x0)), (1, .inl x1), (2, .inl x2)], [.inr (.inr x0), .inl x1])) rfl ?_
      obtain ⟨v1, qv1, hr⟩ := Option.bind_eq_some_iff.mp hr
      refine tm_getf rfl (lf_R_V qv1) ?_
      by_cases c2 : lc_of h v1 = some 11
      · rw [if_pos c2] at hr
        rcases lb_I_s hr with ⟨v3, h4, m5, hr⟩ | ⟨a18, h4, z19, z19l, m5, qz19, rfl⟩
        · try dsimp only at hr
          refine tm_call rfl rfl (tm_callV rfl rfl c2 rfl rfl) (lq_17 m5) ?_
          by_cases c17 : v3 ≤ x1
          · rw [if_pos c17] at hr
            refine tm_icT rfl c17 ?_
            refine tm_cut (a := [(0, .inr (.inr x0))]) rfl (tm_sbs [0] rfl) ?_
            exact l132_58_t hr
          · rw [if_neg c17] at hr
            refine tm_icF rfl c17 ?_
            refine tm_n 1 (F' := (27, [(0, .inr (.inr x0)), (1, .inl x1), (2, .inl x2)], [.inr (.inr x0)])) rfl ?_
            obtain ⟨v6, qv6, hr⟩ := Option.bind_eq_some_iff.mp hr
            refine tm_getf rfl (lf_R_V qv6) ?_
            refine tm_n 1 (F' := (31, [(0, .inr (.inr x0)), (1, .inl x1), (2, .inl x2)], [.inr (.inr x0), .inr (.inr v6)])) rfl ?_
            obtain ⟨v7, qv7, hr⟩ := Option.bind_eq_some_iff.mp hr
            refine tm_getf rfl (lf_I_V qv7) ?_
            refine tm_n 1 (F' := (35, [(0, .inr (.inr x0)), (1, .inl x1), (2, .inl x2)], [.inl x1, .inl v7, .inr (.inr v6)])) rfl ?_
            obtain ⟨h8, qh8, hr⟩ := Option.bind_eq_some_iff.mp hr
            refine tm_ast rfl rfl qh8 ?_
            refine tm_n 2 (F' := (38, [(0, .inr (.inr x0)), (1, .inl x1), (2, .inl x2)], [.inr (.inr x0), .inr (.inr x0)])) rfl ?_
            obtain ⟨v9, qv9, hr⟩ := Option.bind_eq_some_iff.mp hr
            refine tm_getf rfl (lf_I_V qv9) ?_
            refine tm_n 2 (F' := (43, [(0, .inr (.inr x0)), (1, .inl x1), (2, .inl x2)], [.inl (v9 + (1 : Int32)), .inr (.inr x0)])) rfl ?_
            obtain ⟨h10, qh10, hr⟩ := Option.bind_eq_some_iff.mp hr
            refine tm_putf rfl qh10 ?_
            refine tm_n 2 (F' := (48, [(0, .inr (.inr x0)), (1, .inl x1), (2, .inl x2)], [.inl x1, .inr (.inr x0)])) rfl ?_
            by_cases c11 : lc_of h10 x0 = some 1
            · rw [if_pos c11] at hr
              rcases lb_I_s hr with ⟨v12, h13, m14, hr⟩ | ⟨a15, h13, z16, z16l, m14, qz16, rfl⟩
              · try dsimp only at hr
                refine tm_call rfl rfl (tm_callV rfl rfl c11 rfl rfl) (lq_133 m14) ?_
                refine tm_n 3 (F' := (9, [(2, .inl (x2 + (1 : Int32))), (1, .inl v12), (0, .inr (.inr x0))], [])) rfl ?_
                refine tm_cut (a := [(0, .inr (.inr x0)), (1, .inl v12), (2, .inl (x2 + (1 : Int32)))]) rfl (tm_sbs [2, 1, 0] rfl) ?_
                exact ih hr
              · exact tm_callT rfl rfl (tm_callV rfl rfl c11 rfl rfl) (lq_133 m14) qz16 rfl
            · rw [if_neg c11] at hr
              cases hr
        · exact tm_callT rfl rfl (tm_callV rfl rfl c2 rfl rfl) (lq_17 m5) qz19 rfl
      · rw [if_neg c2] at hr
        cases hr
set_option maxRecDepth 20000 in
def ll_132 (w : Option Nat) (a0 : Option Nat) (h : pm_H) : tm_L := (lf_P 81 h a0 [0, 1, 2] (.inl (0 : Int32))).bind fun h1 => l132_9 w lf_N a0 (0 : Int32) (0 : Int32) h1
set_option maxRecDepth 20000 in
theorem lq_132 {w : Option Nat} {d : Nat} {a0 : Option Nat} {h : pm_H} {r : tm_O × pm_H} (hr : ll_132 w a0 h = some r) : tm_run pt_P (pt_G (tm_r w)) (d + 5) 132 [.inr (.inr a0)] h r := by
  unfold ll_132 at hr
  show pm_to pt_P (pt_G (tm_r w)) (d + 5) (pt_g132, []) (tm_m (0, [(0, .inr (.inr a0))], [])) h (tm_e r)
  refine tm_n 2 (F' := (2, [(0, .inr (.inr a0))], [.inl (0 : Int32), .inr (.inr a0)])) rfl ?_
  obtain ⟨h1, qh1, hr⟩ := Option.bind_eq_some_iff.mp hr
  refine tm_putf rfl qh1 ?_
  refine tm_n 4 (F' := (9, [(2, .inl (0 : Int32)), (1, .inl (0 : Int32)), (0, .inr (.inr a0))], [])) rfl ?_
  refine tm_cut (a := [(0, .inr (.inr a0)), (1, .inl (0 : Int32)), (2, .inl (0 : Int32))]) rfl (tm_sbs [2, 1, 0] rfl) ?_
  exact l132_9_t lf_N hr
-- OfficeSheet$Reader.charAtHand()C
set_option maxRecDepth 20000 in
def ll_140 (w : Option Nat) (a0 : Option Nat) (h : pm_H) : tm_L := (lf_I h a0 [1, 3]).bind fun v1 => (lf_I h a0 [1, 2]).bind fun v2 => if v2 ≤ v1 then if pm_fit 5 (.int (0 : Int32)) = true then some (.inl (some (.inl (0 : Int32))), h) else none else (lf_R h a0 [1, 0]).bind fun v4 => (lf_R h a0 [1, 1]).bind fun v5 => (lf_I h a0 [1, 3]).bind fun v6 => (la_I h .iaload v5 v6).bind fun v7 => if lc_of h v4 = some 11 then lb_I (ll_134 w v4 v7 h) (fun v9 h10 => if pm_fit 5 (.int v9) = true then some (.inl (some (.inl v9)), h10) else none) else none
set_option maxRecDepth 20000 in
theorem lq_140 {w : Option Nat} {d : Nat} {a0 : Option Nat} {h : pm_H} {r : tm_O × pm_H} (hr : ll_140 w a0 h = some r) : tm_run pt_P (pt_G (tm_r w)) (d + 4) 140 [.inr (.inr a0)] h r := by
  unfold ll_140 at hr
  show pm_to pt_P (pt_G (tm_r w)) (d + 4) (pt_g140, []) (tm_m (0, [(0, .inr (.inr a0))], [])) h (tm_e r)
  refine tm_n 1 (F' := (1, [(0, .inr (.inr a0))], [.inr (.inr a0)])) rfl ?_
  obtain ⟨v1, qv1, hr⟩ := Option.bind_eq_some_iff.mp hr
  refine tm_getf rfl (lf_I_V qv1) ?_
  refine tm_n 1 (F' := (5, [(0, .inr (.inr a0))], [.inr (.inr a0), .inl v1])) rfl ?_
  obtain ⟨v2, qv2, hr⟩ := Option.bind_eq_some_iff.mp hr
  refine tm_getf rfl (lf_I_V qv2) ?_
  by_cases c15 : v2 ≤ v1
  · rw [if_pos c15] at hr
    refine tm_icT rfl c15 ?_
    refine tm_n 1 (F' := (31, [(0, .inr (.inr a0))], [.inl (0 : Int32)])) rfl ?_
    by_cases c3 : pm_fit 5 (.int (0 : Int32)) = true
    · rw [if_pos c3] at hr
      cases hr
      exact tm_retI rfl c3
    · rw [if_neg c3] at hr
      cases hr
  · rw [if_neg c15] at hr
    refine tm_icF rfl c15 ?_
    refine tm_n 1 (F' := (12, [(0, .inr (.inr a0))], [.inr (.inr a0)])) rfl ?_
    obtain ⟨v4, qv4, hr⟩ := Option.bind_eq_some_iff.mp hr
    refine tm_getf rfl (lf_R_V qv4) ?_
    refine tm_n 1 (F' := (16, [(0, .inr (.inr a0))], [.inr (.inr a0), .inr (.inr v4)])) rfl ?_
    obtain ⟨v5, qv5, hr⟩ := Option.bind_eq_some_iff.mp hr
    refine tm_getf rfl (lf_R_V qv5) ?_
    refine tm_n 1 (F' := (20, [(0, .inr (.inr a0))], [.inr (.inr a0), .inr (.inr v5), .inr (.inr v4)])) rfl ?_
    obtain ⟨v6, qv6, hr⟩ := Option.bind_eq_some_iff.mp hr
    refine tm_getf rfl (lf_I_V qv6) ?_
    obtain ⟨v7, qv7, hr⟩ := Option.bind_eq_some_iff.mp hr
    refine tm_ald rfl rfl (la_I_V qv7) ?_
    by_cases c8 : lc_of h v4 = some 11
    · rw [if_pos c8] at hr
      rcases lb_I_s hr with ⟨v9, h10, m11, hr⟩ | ⟨a13, h10, z14, z14l, m11, qz14, rfl⟩
      · try dsimp only at hr
        refine tm_call rfl rfl (tm_callV rfl rfl c8 rfl rfl) (lq_134 m11) ?_
        refine tm_n 1 (F' := (31, [(0, .inr (.inr a0))], [.inl v9])) rfl ?_
        by_cases c12 : pm_fit 5 (.int v9) = true
        · rw [if_pos c12] at hr
          cases hr
          exact tm_retI rfl c12
        · rw [if_neg c12] at hr
          cases hr
      · exact tm_callT rfl rfl (tm_callV rfl rfl c8 rfl rfl) (lq_134 m11) qz14 rfl
    · rw [if_neg c8] at hr
      cases hr
-- OfficeSheet$Reader.isAt(C)Z
set_option maxRecDepth 20000 in
def ll_139 (w : Option Nat) (a0 : Option Nat) (a1 : Int32) (h : pm_H) : tm_L := if lc_of h a0 = some 1 then lb_I (ll_140 w a0 h) (fun v2 h3 => if v2 = a1 then some (.inl (some (.inl (1 : Int32))), h3) else some (.inl (some (.inl (0 : Int32))), h3)) else none
set_option maxRecDepth 20000 in
theorem lq_139 {w : Option Nat} {d : Nat} {a0 : Option Nat} {a1 : Int32} {h : pm_H} {r : tm_O × pm_H} (hr : ll_139 w a0 a1 h = some r) : tm_run pt_P (pt_G (tm_r w)) (d + 5) 139 [.inr (.inr a0), .inl a1] h r := by
  unfold ll_139 at hr
  show pm_to pt_P (pt_G (tm_r w)) (d + 5) (pt_g139, []) (tm_m (0, [(0, .inr (.inr a0)), (1, .inl a1)], [])) h (tm_e r)
  refine tm_n 1 (F' := (1, [(0, .inr (.inr a0)), (1, .inl a1)], [.inr (.inr a0)])) rfl ?_
  by_cases c1 : lc_of h a0 = some 1
  · rw [if_pos c1] at hr
    rcases lb_I_s hr with ⟨v2, h3, m4, hr⟩ | ⟨a6, h3, z7, z7l, m4, qz7, rfl⟩
    · try dsimp only at hr
      refine tm_call rfl rfl (tm_callV rfl rfl c1 rfl rfl) (lq_140 m4) ?_
      refine tm_n 1 (F' := (5, [(0, .inr (.inr a0)), (1, .inl a1)], [.inl a1, .inl v2])) rfl ?_
      by_cases c5 : v2 = a1
      · rw [if_pos c5] at hr
        refine tm_icF rfl (fun q => q c5) ?_
        refine tm_n 2 (F' := (13, [(0, .inr (.inr a0)), (1, .inl a1)], [.inl (1 : Int32)])) rfl ?_
        cases hr
        exact tm_retI rfl rfl
      · rw [if_neg c5] at hr
        refine tm_icT rfl c5 ?_
        refine tm_n 1 (F' := (13, [(0, .inr (.inr a0)), (1, .inl a1)], [.inl (0 : Int32)])) rfl ?_
        cases hr
        exact tm_retI rfl rfl
    · exact tm_callT rfl rfl (tm_callV rfl rfl c1 rfl rfl) (lq_140 m4) qz7 rfl
  · rw [if_neg c1] at hr
    cases hr
-- OfficeSheet$Reader.goOn()V
set_option maxRecDepth 20000 in
def ll_141 (a0 : Option Nat) (h : pm_H) : tm_L := (lf_I h a0 [1, 3]).bind fun v1 => (lf_I h a0 [1, 2]).bind fun v2 => if v2 ≤ v1 then some (.inl none, h) else (lf_I h a0 [1, 3]).bind fun v3 => (lf_P 81 h a0 [0, 1, 3] (.inl (v3 + (1 : Int32)))).bind fun h4 => some (.inl none, h4)
set_option maxRecDepth 20000 in
theorem lq_141 {w : Option Nat} {d : Nat} {a0 : Option Nat} {h : pm_H} {r : tm_O × pm_H} (hr : ll_141 a0 h = some r) : tm_run pt_P (pt_G (tm_r w)) (d + 0) 141 [.inr (.inr a0)] h r := by
  unfold ll_141 at hr
  show pm_to pt_P (pt_G (tm_r w)) (d + 0) (pt_g141, []) (tm_m (0, [(0, .inr (.inr a0))], [])) h (tm_e r)
  refine tm_n 1 (F' := (1, [(0, .inr (.inr a0))], [.inr (.inr a0)])) rfl ?_
  obtain ⟨v1, qv1, hr⟩ := Option.bind_eq_some_iff.mp hr
  refine tm_getf rfl (lf_I_V qv1) ?_
  refine tm_n 1 (F' := (5, [(0, .inr (.inr a0))], [.inr (.inr a0), .inl v1])) rfl ?_
  obtain ⟨v2, qv2, hr⟩ := Option.bind_eq_some_iff.mp hr
  refine tm_getf rfl (lf_I_V qv2) ?_
  by_cases c5 : v2 ≤ v1
  · rw [if_pos c5] at hr
    refine tm_icT rfl c5 ?_
    cases hr
    exact tm_retV rfl
  · rw [if_neg c5] at hr
    refine tm_icF rfl c5 ?_
    refine tm_n 2 (F' := (13, [(0, .inr (.inr a0))], [.inr (.inr a0), .inr (.inr a0)])) rfl ?_
    obtain ⟨v3, qv3, hr⟩ := Option.bind_eq_some_iff.mp hr
    refine tm_getf rfl (lf_I_V qv3) ?_
    refine tm_n 2 (F' := (18, [(0, .inr (.inr a0))], [.inl (v3 + (1 : Int32)), .inr (.inr a0)])) rfl ?_
    obtain ⟨h4, qh4, hr⟩ := Option.bind_eq_some_iff.mp hr
    refine tm_putf rfl qh4 ?_
    cases hr
    exact tm_retV rfl
-- OfficeSheet$Part.<init>(LOfficeSheet$PartKind;LOfficeSheet$Part;LOfficeSheet$Part;)V
set_option maxRecDepth 20000 in
def ll_147 (a0 : Option Nat) (a1 : Option Nat) (a2 : Option Nat) (a3 : Option Nat) (h : pm_H) : tm_L := if Option.isSome a0 = true then (lf_P 81 h a0 [2, 9, 0] (.inr (.inr a1))).bind fun h2 => (lf_P 81 h2 a0 [2, 9, 1] (.inr (.inr a2))).bind fun h3 => (lf_P 81 h3 a0 [2, 9, 2] (.inr (.inr a3))).bind fun h4 => some (.inl none, h4) else none
set_option maxRecDepth 20000 in
theorem lq_147 {w : Option Nat} {d : Nat} {a0 : Option Nat} {a1 : Option Nat} {a2 : Option Nat} {a3 : Option Nat} {h : pm_H} {r : tm_O × pm_H} (hr : ll_147 a0 a1 a2 a3 h = some r) : tm_run pt_P (pt_G (tm_r w)) (d + 0) 147 [.inr (.inr a0), .inr (.inr a1), .inr (.inr a2), .inr (.inr a3)] h r := by
  unfold ll_147 at hr
  show pm_to pt_P (pt_G (tm_r w)) (d + 0) (pt_g147, []) (tm_m (0, [(0, .inr (.inr a0)), (1, .inr (.inr a1)), (2, .inr (.inr a2)), (3, .inr (.inr a3))], [])) h (tm_e r)
  refine tm_n 1 (F' := (1, [(0, .inr (.inr a0)), (1, .inr (.inr a1)), (2, .inr (.inr a2)), (3, .inr (.inr a3))], [.inr (.inr a0)])) rfl ?_
  by_cases c1 : Option.isSome a0 = true
  · rw [if_pos c1] at hr
    refine tm_oinit2 rfl c1 rfl ?_
    refine tm_n 2 (F' := (6, [(0, .inr (.inr a0)), (1, .inr (.inr a1)), (2, .inr (.inr a2)), (3, .inr (.inr a3))], [.inr (.inr a1), .inr (.inr a0)])) rfl ?_
    obtain ⟨h2, qh2, hr⟩ := Option.bind_eq_some_iff.mp hr
    refine tm_putf rfl qh2 ?_
    refine tm_n 2 (F' := (11, [(0, .inr (.inr a0)), (1, .inr (.inr a1)), (2, .inr (.inr a2)), (3, .inr (.inr a3))], [.inr (.inr a2), .inr (.inr a0)])) rfl ?_
    obtain ⟨h3, qh3, hr⟩ := Option.bind_eq_some_iff.mp hr
    refine tm_putf rfl qh3 ?_
    refine tm_n 2 (F' := (16, [(0, .inr (.inr a0)), (1, .inr (.inr a1)), (2, .inr (.inr a2)), (3, .inr (.inr a3))], [.inr (.inr a3), .inr (.inr a0)])) rfl ?_
    obtain ⟨h4, qh4, hr⟩ := Option.bind_eq_some_iff.mp hr
    refine tm_putf rfl qh4 ?_
    cases hr
    exact tm_retV rfl
  · rw [if_neg c1] at hr
    cases hr
-- OfficeSheet$Reader.readTerm(I)LOfficeSheet$Part;
set_option maxRecDepth 20000 in
def l143_58 (w : Option Nat) (X : Option Nat → Int32 → pm_H → tm_L) (K8 : Option Nat → Int32 → Option Nat → Int32 → pm_H → tm_L) (x0 : Option Nat) (x1 : Int32) (x2 : Option Nat) (x3 : Int32) (s0 : Option Nat) (h : pm_H) : tm_L := if lc_of h x0 = some 1 then lb_V (ll_141 x0 h) (fun h3 => lb_h (lf_new h3 9 8 [.null, .null, .null, .long 0, .null, .null, .null, .null]) fun h5 => if lc_of h5 x0 = some 1 then lb_R (X x0 x1 h5) (fun v7 h8 => lb_V (ll_147 (some h3.1.length) s0 x2 v7 h8) (fun h11 => K8 x0 x1 (some h3.1.length) (x3 + (1 : Int32)) h11)) else none) else none
set_option maxRecDepth 20000 in
theorem l143_58_t {w : Option Nat} {d : Nat} {X : Option Nat → Int32 → pm_H → tm_L} (hX : ∀ {b0 : Option Nat} {b1 : Int32} {h : pm_H} {r : tm_O × pm_H}, X b0 b1 h = some r → tm_run pt_P (pt_G (tm_r w)) (d + 20) 144 [.inr (.inr b0), .inl b1] h r) {K8 : Option Nat → Int32 → Option Nat → Int32 → pm_H → tm_L} (hK8 : ∀ {x0 : Option Nat} {x1 : Int32} {x2 : Option Nat} {x3 : Int32}  {h : pm_H} {r : tm_O × pm_H}, K8 x0 x1 x2 x3 h = some r → pm_to pt_P (pt_G (tm_r w)) (d + 21) (pt_g143, []) (tm_m (8, [(0, .inr (.inr x0)), (1, .inl x1), (2, .inr (.inr x2)), (3, .inl x3)], [])) h (tm_e r)) {x0 : Option Nat} {x1 : Int32} {x2 : Option Nat} {x3 : Int32} {s0 : Option Nat} {h : pm_H} {r : tm_O × pm_H} (hr : l143_58 w X K8 x0 x1 x2 x3 s0 h = some r) : pm_to pt_P (pt_G (tm_r w)) (d + 21) (pt_g143, []) (tm_m (58, [(0, .inr (.inr x0)), (1, .inl x1), (2, .inr (.inr x2)), (3, .inl x3)], [.inr (.inr s0)])) h (tm_e r) := by
  unfold l143_58 at hr
  refine tm_n 2 (F' := (61, [(4, .inr (.inr s0)), (0, .inr (.inr x0)), (1, .inl x1), (2, .inr (.inr x2)), (3, .inl x3)], [.inr (.inr x0)])) rfl ?_
  by_cases c1 : lc_of h x0 = some 1
  · rw [if_pos c1] at hr
    rcases lb_V_s hr with ⟨h3, m4, hr⟩ | ⟨a17, h3, z18, z18l, m4, qz18, rfl⟩
    · try dsimp only at hr
      refine tm_call rfl rfl (tm_callV rfl rfl c1 rfl rfl) (lq_141 m4) ?_
      obtain ⟨h5, eh5, hr⟩ := lb_h_s hr
      refine tm_new rfl ?_
      rw [← eh5]
      refine tm_n 5 (F' := (73, [(4, .inr (.inr s0)), (0, .inr (.inr x0)), (1, .inl x1), (2, .inr (.inr x2)), (3, .inl x3)], [.inl x1, .inr (.inr x0), .inr (.inr x2), .inr (.inr s0), .inr (.inr (some h3.1.length)), .inr (.inr (some h3.1.length))])) rfl ?_
      by_cases c6 : lc_of h5 x0 = some 1
      · rw [if_pos c6] at hr
        rcases lb_R_s hr with ⟨v7, h8, m9, hr⟩ | ⟨a15, h8, z16, z16l, m9, qz16, rfl⟩
        · try dsimp only at hr
          refine tm_call rfl rfl (tm_callV rfl rfl c6 rfl rfl) (tm_dp (by omega) <| hX m9) ?_
          rcases lb_V_s hr with ⟨h11, m12, hr⟩ | ⟨a13, h11, z14, z14l, m12, qz14, rfl⟩
          · try dsimp only at hr
            refine tm_call rfl rfl (tm_callP rfl rfl rfl) (lq_147 m12) ?_
            refine tm_n 3 (F' := (8, [(3, .inl (x3 + (1 : Int32))), (2, .inr (.inr (some h3.1.length))), (4, .inr (.inr s0)), (0, .inr (.inr x0)), (1, .inl x1)], [])) rfl ?_
            refine tm_cut (a := [(0, .inr (.inr x0)), (1, .inl x1), (2, .inr (.inr (some h3.1.length))), (3, .inl (x3 + (1 : Int32)))]) rfl (tm_sbs [3, 4, 1, 0] rfl) ?_
            exact hK8 hr
          · exact tm_callT rfl rfl (tm_callP rfl rfl rfl) (lq_147 m12) qz14 rfl
        · exact tm_callT rfl rfl (tm_callV rfl rfl c6 rfl rfl) (tm_dp (by omega) <| hX m9) qz16 rfl
      · rw [if_neg c6] at hr
        cases hr
    · exact tm_callT rfl rfl (tm_callV rfl rfl c1 rfl rfl) (lq_141 m4) qz18 rfl
  · rw [if_neg c1] at hr
    cases hr
set_option maxRecDepth 20000 in
def l143_40 (w : Option Nat) (X : Option Nat → Int32 → pm_H → tm_L) (K8 : Option Nat → Int32 → Option Nat → Int32 → pm_H → tm_L) (x0 : Option Nat) (x1 : Int32) (x2 : Option Nat) (x3 : Int32) (h : pm_H) : tm_L := if lc_of h x0 = some 1 then lb_I (ll_139 w x0 (42 : Int32) h) (fun v2 h3 => if v2 = (0 : Int32) then l143_58 w X K8 x0 x1 x2 x3 (some 14) h3 else l143_58 w X K8 x0 x1 x2 x3 (some 13) h3) else none
set_option maxRecDepth 20000 in
theorem l143_40_t {w : Option Nat} {d : Nat} {X : Option Nat → Int32 → pm_H → tm_L} (hX : ∀ {b0 : Option Nat} {b1 : Int32} {h : pm_H} {r : tm_O × pm_H}, X b0 b1 h = some r → tm_run pt_P (pt_G (tm_r w)) (d + 20) 144 [.inr (.inr b0), .inl b1] h r) {K8 : Option Nat → Int32 → Option Nat → Int32 → pm_H → tm_L} (hK8 : ∀ {x0 : Option Nat} {x1 : Int32} {x2 : Option Nat} {x3 : Int32}  {h : pm_H} {r : tm_O × pm_H}, K8 x0 x1 x2 x3 h = some r → pm_to pt_P (pt_G (tm_r w)) (d + 21) (pt_g143, []) (tm_m (8, [(0, .inr (.inr x0)), (1, .inl x1), (2, .inr (.inr x2)), (3, .inl x3)], [])) h (tm_e r)) {x0 : Option Nat} {x1 : Int32} {x2 : Option Nat} {x3 : Int32} {h : pm_H} {r : tm_O × pm_H} (hr : l143_40 w X K8 x0 x1 x2 x3 h = some r) : pm_to pt_P (pt_G (tm_r w)) (d + 21) (pt_g143, []) (tm_m (40, [(0, .inr (.inr x0)), (1, .inl x1), (2, .inr (.inr x2)), (3, .inl x3)], [])) h (tm_e r) := by
  unfold l143_40 at hr
  refine tm_n 2 (F' := (43, [(0, .inr (.inr x0)), (1, .inl x1), (2, .inr (.inr x2)), (3, .inl x3)], [.inl (42 : Int32), .inr (.inr x0)])) rfl ?_
  by_cases c1 : lc_of h x0 = some 1
  · rw [if_pos c1] at hr
    rcases lb_I_s hr with ⟨v2, h3, m4, hr⟩ | ⟨a6, h3, z7, z7l, m4, qz7, rfl⟩
    · try dsimp only at hr
      refine tm_call rfl rfl (tm_callV rfl rfl c1 rfl rfl) (lq_139 m4) ?_
      by_cases c5 : v2 = (0 : Int32)
      · rw [if_pos c5] at hr
        refine tm_ifT rfl c5 ?_
        refine tm_n 1 (F' := (58, [(0, .inr (.inr x0)), (1, .inl x1), (2, .inr (.inr x2)), (3, .inl x3)], [.inr (.inr (some 14))])) rfl ?_
        refine tm_cut (a := [(0, .inr (.inr x0)), (1, .inl x1), (2, .inr (.inr x2)), (3, .inl x3)]) rfl (tm_sbs [0, 1, 2, 3] rfl) ?_
        exact l143_58_t hX hK8 hr
      · rw [if_neg c5] at hr
        refine tm_ifF rfl c5 ?_
        refine tm_n 2 (F' := (58, [(0, .inr (.inr x0)), (1, .inl x1), (2, .inr (.inr x2)), (3, .inl x3)], [.inr (.inr (some 13))])) rfl ?_
        refine tm_cut (a := [(0, .inr (.inr x0)), (1, .inl x1), (2, .inr (.inr x2)), (3, .inl x3)]) rfl (tm_sbs [0, 1, 2, 3] rfl) ?_
        exact l143_58_t hX hK8 hr
    · exact tm_callT rfl rfl (tm_callV rfl rfl c1 rfl rfl) (lq_139 m4) qz7 rfl
  · rw [if_neg c1] at hr
    cases hr
set_option maxRecDepth 20000 in
def l143_8 (w : Option Nat) (X : Option Nat → Int32 → pm_H → tm_L) : Nat → Option Nat → Int32 → Option Nat → Int32 → pm_H → tm_L
  | 0 => fun _ _ _ _ _ => none
  | n + 1 => fun x0 x1 x2 x3 h => if (20 : Int32) ≤ x3 then some (.inl (some (.inr (.inr x2))), h) else (lf_I h x0 [1, 4]).bind fun v1 => if v1 = (-1 : Int32) then if lc_of h x0 = some 1 then lb_I (ll_139 w x0 (42 : Int32) h) (fun v3 h4 => if v3 = (0 : Int32) then if lc_of h4 x0 = some 1 then lb_I (ll_139 w x0 (47 : Int32) h4) (fun v7 h8 => if v7 = (0 : Int32) then some (.inl (some (.inr (.inr x2))), h8) else l143_40 w X (l143_8 w X n) x0 x1 x2 x3 h8) else none else l143_40 w X (l143_8 w X n) x0 x1 x2 x3 h4) else none else some (.inl (some (.inr (.inr x2))), h)
set_option maxRecDepth 20000 in
theorem l143_8_t {w : Option Nat} {d : Nat} {X : Option Nat → Int32 → pm_H → tm_L} (hX : ∀ {b0 : Option Nat} {b1 : Int32} {h : pm_H} {r : tm_O × pm_H}, X b0 b1 h = some r → tm_run pt_P (pt_G (tm_r w)) (d + 20) 144 [.inr (.inr b0), .inl b1] h r) : ∀ (n : Nat) {x0 : Option Nat} {x1 : Int32} {x2 : Option Nat} {x3 : Int32} {h : pm_H} {r : tm_O × pm_H}, l143_8 w X n x0 x1 x2 x3 h = some r → pm_to pt_P (pt_G (tm_r w)) (d + 21) (pt_g143, []) (tm_m (8, [(0, .inr (.inr x0)), (1, .inl x1), (2, .inr (.inr x2)), (3, .inl x3)], [])) h (tm_e r) := by
  intro n
  induction n with
  | zero => intro x0 x1 x2 x3 h r hr; cases hr
  | succ n ih =>
    intro x0 x1 x2 x3 h r hr
    unfold l143_8 at hr
    refine tm_n 2 (F' := (11, [(0, .inr (.inr x0)), (1, .inl x1), (2, .inr (.inr x2)), (3, .inl x3)], [.inl (20 : Int32), .inl x3])) rfl ?_
    by_cases c17 : (20 : Int32) ≤ x3
    · rw [if_pos c17] at hr
      refine tm_icT rfl c17 ?_
      refine tm_n 1 (F' := (87, [(0, .inr (.inr x0)), (1, .inl x1), (2, .inr (.inr x2)), (3, .inl x3)], [.inr (.inr x2)])) rfl ?_
      cases hr
      exact tm_retR rfl
    · rw [if_neg c17] at hr
      refine tm_icF rfl c17 ?_
      refine tm_n 1 (F' := (15, [(0, .inr (.inr x0)), (1, .inl x1), (2, .inr (.inr x2)), (3, .inl x3)], [.inr (.inr x0)])) rfl ?_
      obtain ⟨v1, qv1, hr⟩ := Option.bind_eq_some_iff.mp hr
      refine tm_getf rfl (lf_I_V qv1) ?_
      refine tm_n 1 (F' := (19, [(0, .inr (.inr x0)), (1, .inl x1), (2, .inr (.inr x2)), (3, .inl x3)], [.inl (-1 : Int32), .inl v1])) rfl ?_
      by_cases c16 : v1 = (-1 : Int32)
      · rw [if_pos c16] at hr
        refine tm_icF rfl (fun q => q c16) ?_
        refine tm_n 2 (F' := (25, [(0, .inr (.inr x0)), (1, .inl x1), (2, .inr (.inr x2)), (3, .inl x3)], [.inl (42 : Int32), .inr (.inr x0)])) rfl ?_
        by_cases c2 : lc_of h x0 = some 1
        · rw [if_pos c2] at hr
          rcases lb_I_s hr with ⟨v3, h4, m5, hr⟩ | ⟨a14, h4, z15, z15l, m5, qz15, rfl⟩
          · try dsimp only at hr
            refine tm_call rfl rfl (tm_callV rfl rfl c2 rfl rfl) (lq_139 m5) ?_
            by_cases c13 : v3 = (0 : Int32)
            · rw [if_pos c13] at hr
              refine tm_ifF rfl (fun q => q c13) ?_
              refine tm_n 2 (F' := (34, [(0, .inr (.inr x0)), (1, .inl x1), (2, .inr (.inr x2)), (3, .inl x3)], [.inl (47 : Int32), .inr (.inr x0)])) rfl ?_
              by_cases c6 : lc_of h4 x0 = some 1
              · rw [if_pos c6] at hr
                rcases lb_I_s hr with ⟨v7, h8, m9, hr⟩ | ⟨a11, h8, z12, z12l, m9, qz12, rfl⟩
                · try dsimp only at hr
                  refine tm_call rfl rfl (tm_callV rfl rfl c6 rfl rfl) (lq_139 m9) ?_
                  by_cases c10 : v7 = (0 : Int32)
                  · rw [if_pos c10] at hr
                    refine tm_ifT rfl c10 ?_
                    refine tm_n 1 (F' := (87, [(0, .inr (.inr x0)), (1, .inl x1), (2, .inr (.inr x2)), (3, .inl x3)], [.inr (.inr x2)])) rfl ?_
                    cases hr
                    exact tm_retR rfl
                  · rw [if_neg c10] at hr
                    refine tm_ifF rfl c10 ?_
                    refine tm_cut (a := [(0, .inr (.inr x0)), (1, .inl x1), (2, .inr (.inr x2)), (3, .inl x3)]) rfl (tm_sbs [0, 1, 2, 3] rfl) ?_
                    exact l143_40_t hX (fun hr => ih hr) hr
                · exact tm_callT rfl rfl (tm_callV rfl rfl c6 rfl rfl) (lq_139 m9) qz12 rfl
              · rw [if_neg c6] at hr
                cases hr
            · rw [if_neg c13] at hr
              refine tm_ifT rfl c13 ?_
              refine tm_cut (a := [(0, .inr (.inr x0)), (1, .inl x1), (2, .inr (.inr x2)), (3, .inl x3)]) rfl (tm_sbs [0, 1, 2, 3] rfl) ?_
              exact l143_40_t hX (fun hr => ih hr) hr
          · exact tm_callT rfl rfl (tm_callV rfl rfl c2 rfl rfl) (lq_139 m5) qz15 rfl
        · rw [if_neg c2] at hr
          cases hr
      · rw [if_neg c16] at hr
        refine tm_icT rfl c16 ?_
        refine tm_n 1 (F' := (87, [(0, .inr (.inr x0)), (1, .inl x1), (2, .inr (.inr x2)), (3, .inl x3)], [.inr (.inr x2)])) rfl ?_
        cases hr
        exact tm_retR rfl
set_option maxRecDepth 20000 in
def ll_143 (w : Option Nat) (X : Option Nat → Int32 → pm_H → tm_L) (a0 : Option Nat) (a1 : Int32) (h : pm_H) : tm_L := if lc_of h a0 = some 1 then lb_R (X a0 a1 h) (fun v2 h3 => l143_8 w X lf_N a0 a1 v2 (0 : Int32) h3) else none
set_option maxRecDepth 20000 in
theorem lq_143 {w : Option Nat} {d : Nat} {X : Option Nat → Int32 → pm_H → tm_L} (hX : ∀ {b0 : Option Nat} {b1 : Int32} {h : pm_H} {r : tm_O × pm_H}, X b0 b1 h = some r → tm_run pt_P (pt_G (tm_r w)) (d + 20) 144 [.inr (.inr b0), .inl b1] h r) {a0 : Option Nat} {a1 : Int32} {h : pm_H} {r : tm_O × pm_H} (hr : ll_143 w X a0 a1 h = some r) : tm_run pt_P (pt_G (tm_r w)) (d + 21) 143 [.inr (.inr a0), .inl a1] h r := by
  unfold ll_143 at hr
  show pm_to pt_P (pt_G (tm_r w)) (d + 21) (pt_g143, []) (tm_m (0, [(0, .inr (.inr a0)), (1, .inl a1)], [])) h (tm_e r)
  refine tm_n 2 (F' := (2, [(0, .inr (.inr a0)), (1, .inl a1)], [.inl a1, .inr (.inr a0)])) rfl ?_
  by_cases c1 : lc_of h a0 = some 1
  · rw [if_pos c1] at hr
    rcases lb_R_s hr with ⟨v2, h3, m4, hr⟩ | ⟨a5, h3, z6, z6l, m4, qz6, rfl⟩
    · try dsimp only at hr
      refine tm_call rfl rfl (tm_callV rfl rfl c1 rfl rfl) (tm_dp (by omega) <| hX m4) ?_
      refine tm_n 3 (F' := (8, [(3, .inl (0 : Int32)), (2, .inr (.inr v2)), (0, .inr (.inr a0)), (1, .inl a1)], [])) rfl ?_
      refine tm_cut (a := [(0, .inr (.inr a0)), (1, .inl a1), (2, .inr (.inr v2)), (3, .inl (0 : Int32))]) rfl (tm_sbs [2, 3, 1, 0] rfl) ?_
      exact l143_8_t hX lf_N hr
    · exact tm_callT rfl rfl (tm_callV rfl rfl c1 rfl rfl) (tm_dp (by omega) <| hX m4) qz6 rfl
  · rw [if_neg c1] at hr
    cases hr
-- OfficeSheet$Reader.readExpression(I)LOfficeSheet$Part;
set_option maxRecDepth 20000 in
def l142_58 (w : Option Nat) (X : Option Nat → Int32 → pm_H → tm_L) (K8 : Option Nat → Int32 → Option Nat → Int32 → pm_H → tm_L) (x0 : Option Nat) (x1 : Int32) (x2 : Option Nat) (x3 : Int32) (s0 : Option Nat) (h : pm_H) : tm_L := if lc_of h x0 = some 1 then lb_V (ll_141 x0 h) (fun h3 => lb_h (lf_new h3 9 8 [.null, .null, .null, .long 0, .null, .null, .null, .null]) fun h5 => if lc_of h5 x0 = some 1 then lb_R (ll_143 w X x0 x1 h5) (fun v7 h8 => lb_V (ll_147 (some h3.1.length) s0 x2 v7 h8) (fun h11 => K8 x0 x1 (some h3.1.length) (x3 + (1 : Int32)) h11)) else none) else none
set_option maxRecDepth 20000 in
theorem l142_58_t {w : Option Nat} {d : Nat} {X : Option Nat → Int32 → pm_H → tm_L} (hX : ∀ {b0 : Option Nat} {b1 : Int32} {h : pm_H} {r : tm_O × pm_H}, X b0 b1 h = some r → tm_run pt_P (pt_G (tm_r w)) (d + 20) 144 [.inr (.inr b0), .inl b1] h r) {K8 : Option Nat → Int32 → Option Nat → Int32 → pm_H → tm_L} (hK8 : ∀ {x0 : Option Nat} {x1 : Int32} {x2 : Option Nat} {x3 : Int32}  {h : pm_H} {r : tm_O × pm_H}, K8 x0 x1 x2 x3 h = some r → pm_to pt_P (pt_G (tm_r w)) (d + 22) (pt_g142, []) (tm_m (8, [(0, .inr (.inr x0)), (1, .inl x1), (2, .inr (.inr x2)), (3, .inl x3)], [])) h (tm_e r)) {x0 : Option Nat} {x1 : Int32} {x2 : Option Nat} {x3 : Int32} {s0 : Option Nat} {h : pm_H} {r : tm_O × pm_H} (hr : l142_58 w X K8 x0 x1 x2 x3 s0 h = some r) : pm_to pt_P (pt_G (tm_r w)) (d + 22) (pt_g142, []) (tm_m (58, [(0, .inr (.inr x0)), (1, .inl x1), (2, .inr (.inr x2)), (3, .inl x3)], [.inr (.inr s0)])) h (tm_e r) := by
  unfold l142_58 at hr
  refine tm_n 2 (F' := (61, [(4, .inr (.inr s0)), (0, .inr (.inr x0)), (1, .inl x1), (2, .inr (.inr x2)), (3, .inl x3)], [.inr (.inr x0)])) rfl ?_
  by_cases c1 : lc_of h x0 = some 1
  · rw [if_pos c1] at hr
    rcases lb_V_s hr with ⟨h3, m4, hr⟩ | ⟨a17, h3, z18, z18l, m4, qz18, rfl⟩
    · try dsimp only at hr
      refine tm_call rfl rfl (tm_callV rfl rfl c1 rfl rfl) (lq_141 m4) ?_
      obtain ⟨h5, eh5, hr⟩ := lb_h_s hr
      refine tm_new rfl ?_
      rw [← eh5]
      refine tm_n 5 (F' := (73, [(4, .inr (.inr s0)), (0, .inr (.inr x0)), (1, .inl x1), (2, .inr (.inr x2)), (3, .inl x3)], [.inl x1, .inr (.inr x0), .inr (.inr x2), .inr (.inr s0), .inr (.inr (some h3.1.length)), .inr (.inr (some h3.1.length))])) rfl ?_
      by_cases c6 : lc_of h5 x0 = some 1
      · rw [if_pos c6] at hr
        rcases lb_R_s hr with ⟨v7, h8, m9, hr⟩ | ⟨a15, h8, z16, z16l, m9, qz16, rfl⟩
        · try dsimp only at hr
          refine tm_call rfl rfl (tm_callV rfl rfl c6 rfl rfl) (lq_143 hX m9) ?_
          rcases lb_V_s hr with ⟨h11, m12, hr⟩ | ⟨a13, h11, z14, z14l, m12, qz14, rfl⟩
          · try dsimp only at hr
            refine tm_call rfl rfl (tm_callP rfl rfl rfl) (lq_147 m12) ?_
            refine tm_n 3 (F' := (8, [(3, .inl (x3 + (1 : Int32))), (2, .inr (.inr (some h3.1.length))), (4, .inr (.inr s0)), (0, .inr (.inr x0)), (1, .inl x1)], [])) rfl ?_
            refine tm_cut (a := [(0, .inr (.inr x0)), (1, .inl x1), (2, .inr (.inr (some h3.1.length))), (3, .inl (x3 + (1 : Int32)))]) rfl (tm_sbs [3, 4, 1, 0] rfl) ?_
            exact hK8 hr
          · exact tm_callT rfl rfl (tm_callP rfl rfl rfl) (lq_147 m12) qz14 rfl
        · exact tm_callT rfl rfl (tm_callV rfl rfl c6 rfl rfl) (lq_143 hX m9) qz16 rfl
      · rw [if_neg c6] at hr
        cases hr
    · exact tm_callT rfl rfl (tm_callV rfl rfl c1 rfl rfl) (lq_141 m4) qz18 rfl
  · rw [if_neg c1] at hr
    cases hr
set_option maxRecDepth 20000 in
def l142_40 (w : Option Nat) (X : Option Nat → Int32 → pm_H → tm_L) (K8 : Option Nat → Int32 → Option Nat → Int32 → pm_H → tm_L) (x0 : Option Nat) (x1 : Int32) (x2 : Option Nat) (x3 : Int32) (h : pm_H) : tm_L := if lc_of h x0 = some 1 then lb_I (ll_139 w x0 (43 : Int32) h) (fun v2 h3 => if v2 = (0 : Int32) then l142_58 w X K8 x0 x1 x2 x3 (some 12) h3 else l142_58 w X K8 x0 x1 x2 x3 (some 11) h3) else none
set_option maxRecDepth 20000 in
theorem l142_40_t {w : Option Nat} {d : Nat} {X : Option Nat → Int32 → pm_H → tm_L} (hX : ∀ {b0 : Option Nat} {b1 : Int32} {h : pm_H} {r : tm_O × pm_H}, X b0 b1 h = some r → tm_run pt_P (pt_G (tm_r w)) (d + 20) 144 [.inr (.inr b0), .inl b1] h r) {K8 : Option Nat → Int32 → Option Nat → Int32 → pm_H → tm_L} (hK8 : ∀ {x0 : Option Nat} {x1 : Int32} {x2 : Option Nat} {x3 : Int32}  {h : pm_H} {r : tm_O × pm_H}, K8 x0 x1 x2 x3 h = some r → pm_to pt_P (pt_G (tm_r w)) (d + 22) (pt_g142, []) (tm_m (8, [(0, .inr (.inr x0)), (1, .inl x1), (2, .inr (.inr x2)), (3, .inl x3)], [])) h (tm_e r)) {x0 : Option Nat} {x1 : Int32} {x2 : Option Nat} {x3 : Int32} {h : pm_H} {r : tm_O × pm_H} (hr : l142_40 w X K8 x0 x1 x2 x3 h = some r) : pm_to pt_P (pt_G (tm_r w)) (d + 22) (pt_g142, []) (tm_m (40, [(0, .inr (.inr x0)), (1, .inl x1), (2, .inr (.inr x2)), (3, .inl x3)], [])) h (tm_e r) := by
  unfold l142_40 at hr
  refine tm_n 2 (F' := (43, [(0, .inr (.inr x0)), (1, .inl x1), (2, .inr (.inr x2)), (3, .inl x3)], [.inl (43 : Int32), .inr (.inr x0)])) rfl ?_
  by_cases c1 : lc_of h x0 = some 1
  · rw [if_pos c1] at hr
    rcases lb_I_s hr with ⟨v2, h3, m4, hr⟩ | ⟨a6, h3, z7, z7l, m4, qz7, rfl⟩
    · try dsimp only at hr
      refine tm_call rfl rfl (tm_callV rfl rfl c1 rfl rfl) (lq_139 m4) ?_
      by_cases c5 : v2 = (0 : Int32)
      · rw [if_pos c5] at hr
        refine tm_ifT rfl c5 ?_
        refine tm_n 1 (F' := (58, [(0, .inr (.inr x0)), (1, .inl x1), (2, .inr (.inr x2)), (3, .inl x3)], [.inr (.inr (some 12))])) rfl ?_
        refine tm_cut (a := [(0, .inr (.inr x0)), (1, .inl x1), (2, .inr (.inr x2)), (3, .inl x3)]) rfl (tm_sbs [0, 1, 2, 3] rfl) ?_
        exact l142_58_t hX hK8 hr
      · rw [if_neg c5] at hr
        refine tm_ifF rfl c5 ?_
        refine tm_n 2 (F' := (58, [(0, .inr (.inr x0)), (1, .inl x1), (2, .inr (.inr x2)), (3, .inl x3)], [.inr (.inr (some 11))])) rfl ?_
        refine tm_cut (a := [(0, .inr (.inr x0)), (1, .inl x1), (2, .inr (.inr x2)), (3, .inl x3)]) rfl (tm_sbs [0, 1, 2, 3] rfl) ?_
        exact l142_58_t hX hK8 hr
    · exact tm_callT rfl rfl (tm_callV rfl rfl c1 rfl rfl) (lq_139 m4) qz7 rfl
  · rw [if_neg c1] at hr
    cases hr
set_option maxRecDepth 20000 in
def l142_8 (w : Option Nat) (X : Option Nat → Int32 → pm_H → tm_L) : Nat → Option Nat → Int32 → Option Nat → Int32 → pm_H → tm_L
  | 0 => fun _ _ _ _ _ => none
  | n + 1 => fun x0 x1 x2 x3 h => if (20 : Int32) ≤ x3 then some (.inl (some (.inr (.inr x2))), h) else (lf_I h x0 [1, 4]).bind fun v1 => if v1 = (-1 : Int32) then if lc_of h x0 = some 1 then lb_I (ll_139 w x0 (43 : Int32) h) (fun v3 h4 => if v3 = (0 : Int32) then if lc_of h4 x0 = some 1 then lb_I (ll_139 w x0 (45 : Int32) h4) (fun v7 h8 => if v7 = (0 : Int32) then some (.inl (some (.inr (.inr x2))), h8) else l142_40 w X (l142_8 w X n) x0 x1 x2 x3 h8) else none else l142_40 w X (l142_8 w X n) x0 x1 x2 x3 h4) else none else some (.inl (some (.inr (.inr x2))), h)
set_option maxRecDepth 20000 in
theorem l142_8_t {w : Option Nat} {d : Nat} {X : Option Nat → Int32 → pm_H → tm_L} (hX : ∀ {b0 : Option Nat} {b1 : Int32} {h : pm_H} {r : tm_O × pm_H}, X b0 b1 h = some r → tm_run pt_P (pt_G (tm_r w)) (d + 20) 144 [.inr (.inr b0), .inl b1] h r) : ∀ (n : Nat) {x0 : Option Nat} {x1 : Int32} {x2 : Option Nat} {x3 : Int32} {h : pm_H} {r : tm_O × pm_H}, l142_8 w X n x0 x1 x2 x3 h = some r → pm_to pt_P (pt_G (tm_r w)) (d + 22) (pt_g142, []) (tm_m (8, [(0, .inr (.inr x0)), (1, .inl x1), (2, .inr (.inr x2)), (3, .inl x3)], [])) h (tm_e r) := by
  intro n
  induction n with
  | zero => intro x0 x1 x2 x3 h r hr; cases hr
  | succ n ih =>
    intro x0 x1 x2 x3 h r hr
    unfold l142_8 at hr
    refine tm_n 2 (F' := (11, [(0, .inr (.inr x0)), (1, .inl x1), (2, .inr (.inr x2)), (3, .inl x3)], [.inl (20 : Int32), .inl x3])) rfl ?_
    by_cases c17 : (20 : Int32) ≤ x3
    · rw [if_pos c17] at hr
      refine tm_icT rfl c17 ?_
      refine tm_n 1 (F' := (87, [(0, .inr (.inr x0)), (1, .inl x1), (2, .inr (.inr x2)), (3, .inl x3)], [.inr (.inr x2)])) rfl ?_
      cases hr
      exact tm_retR rfl
    · rw [if_neg c17] at hr
      refine tm_icF rfl c17 ?_
      refine tm_n 1 (F' := (15, [(0, .inr (.inr x0)), (1, .inl x1), (2, .inr (.inr x2)), (3, .inl x3)], [.inr (.inr x0)])) rfl ?_
      obtain ⟨v1, qv1, hr⟩ := Option.bind_eq_some_iff.mp hr
      refine tm_getf rfl (lf_I_V qv1) ?_
      refine tm_n 1 (F' := (19, [(0, .inr (.inr x0)), (1, .inl x1), (2, .inr (.inr x2)), (3, .inl x3)], [.inl (-1 : Int32), .inl v1])) rfl ?_
      by_cases c16 : v1 = (-1 : Int32)
      · rw [if_pos c16] at hr
        refine tm_icF rfl (fun q => q c16) ?_
        refine tm_n 2 (F' := (25, [(0, .inr (.inr x0)), (1, .inl x1), (2, .inr (.inr x2)), (3, .inl x3)], [.inl (43 : Int32), .inr (.inr x0)])) rfl ?_
        by_cases c2 : lc_of h x0 = some 1
        · rw [if_pos c2] at hr
          rcases lb_I_s hr with ⟨v3, h4, m5, hr⟩ | ⟨a14, h4, z15, z15l, m5, qz15, rfl⟩
          · try dsimp only at hr
            refine tm_call rfl rfl (tm_callV rfl rfl c2 rfl rfl) (lq_139 m5) ?_
            by_cases c13 : v3 = (0 : Int32)
            · rw [if_pos c13] at hr
              refine tm_ifF rfl (fun q => q c13) ?_
              refine tm_n 2 (F' := (34, [(0, .inr (.inr x0)), (1, .inl x1), (2, .inr (.inr x2)), (3, .inl x3)], [.inl (45 : Int32), .inr (.inr x0)])) rfl ?_
              by_cases c6 : lc_of h4 x0 = some 1
              · rw [if_pos c6] at hr
                rcases lb_I_s hr with ⟨v7, h8, m9, hr⟩ | ⟨a11, h8, z12, z12l, m9, qz12, rfl⟩
                · try dsimp only at hr
                  refine tm_call rfl rfl (tm_callV rfl rfl c6 rfl rfl) (lq_139 m9) ?_
                  by_cases c10 : v7 = (0 : Int32)
                  · rw [if_pos c10] at hr
                    refine tm_ifT rfl c10 ?_
                    refine tm_n 1 (F' := (87, [(0, .inr (.inr x0)), (1, .inl x1), (2, .inr (.inr x2)), (3, .inl x3)], [.inr (.inr x2)])) rfl ?_
                    cases hr
                    exact tm_retR rfl
                  · rw [if_neg c10] at hr
                    refine tm_ifF rfl c10 ?_
                    refine tm_cut (a := [(0, .inr (.inr x0)), (1, .inl x1), (2, .inr (.inr x2)), (3, .inl x3)]) rfl (tm_sbs [0, 1, 2, 3] rfl) ?_
                    exact l142_40_t hX (fun hr => ih hr) hr
                · exact tm_callT rfl rfl (tm_callV rfl rfl c6 rfl rfl) (lq_139 m9) qz12 rfl
              · rw [if_neg c6] at hr
                cases hr
            · rw [if_neg c13] at hr
              refine tm_ifT rfl c13 ?_
              refine tm_cut (a := [(0, .inr (.inr x0)), (1, .inl x1), (2, .inr (.inr x2)), (3, .inl x3)]) rfl (tm_sbs [0, 1, 2, 3] rfl) ?_
              exact l142_40_t hX (fun hr => ih hr) hr
          · exact tm_callT rfl rfl (tm_callV rfl rfl c2 rfl rfl) (lq_139 m5) qz15 rfl
        · rw [if_neg c2] at hr
          cases hr
      · rw [if_neg c16] at hr
        refine tm_icT rfl c16 ?_
        refine tm_n 1 (F' := (87, [(0, .inr (.inr x0)), (1, .inl x1), (2, .inr (.inr x2)), (3, .inl x3)], [.inr (.inr x2)])) rfl ?_
        cases hr
        exact tm_retR rfl
set_option maxRecDepth 20000 in
def ll_142 (w : Option Nat) (X : Option Nat → Int32 → pm_H → tm_L) (a0 : Option Nat) (a1 : Int32) (h : pm_H) : tm_L := if lc_of h a0 = some 1 then lb_R (ll_143 w X a0 a1 h) (fun v2 h3 => l142_8 w X lf_N a0 a1 v2 (0 : Int32) h3) else none
set_option maxRecDepth 20000 in
theorem lq_142 {w : Option Nat} {d : Nat} {X : Option Nat → Int32 → pm_H → tm_L} (hX : ∀ {b0 : Option Nat} {b1 : Int32} {h : pm_H} {r : tm_O × pm_H}, X b0 b1 h = some r → tm_run pt_P (pt_G (tm_r w)) (d + 20) 144 [.inr (.inr b0), .inl b1] h r) {a0 : Option Nat} {a1 : Int32} {h : pm_H} {r : tm_O × pm_H} (hr : ll_142 w X a0 a1 h = some r) : tm_run pt_P (pt_G (tm_r w)) (d + 22) 142 [.inr (.inr a0), .inl a1] h r := by
  unfold ll_142 at hr
  show pm_to pt_P (pt_G (tm_r w)) (d + 22) (pt_g142, []) (tm_m (0, [(0, .inr (.inr a0)), (1, .inl a1)], [])) h (tm_e r)
  refine tm_n 2 (F' := (2, [(0, .inr (.inr a0)), (1, .inl a1)], [.inl a1, .inr (.inr a0)])) rfl ?_
  by_cases c1 : lc_of h a0 = some 1
  · rw [if_pos c1] at hr
    rcases lb_R_s hr with ⟨v2, h3, m4, hr⟩ | ⟨a5, h3, z6, z6l, m4, qz6, rfl⟩
    · try dsimp only at hr
      refine tm_call rfl rfl (tm_callV rfl rfl c1 rfl rfl) (lq_143 hX m4) ?_
      refine tm_n 3 (F' := (8, [(3, .inl (0 : Int32)), (2, .inr (.inr v2)), (0, .inr (.inr a0)), (1, .inl a1)], [])) rfl ?_
      refine tm_cut (a := [(0, .inr (.inr a0)), (1, .inl a1), (2, .inr (.inr v2)), (3, .inl (0 : Int32))]) rfl (tm_sbs [2, 3, 1, 0] rfl) ?_
      exact l142_8_t hX lf_N hr
    · exact tm_callT rfl rfl (tm_callV rfl rfl c1 rfl rfl) (lq_143 hX m4) qz6 rfl
  · rw [if_neg c1] at hr
    cases hr
-- OfficeSheet$Reader.fail()V
set_option maxRecDepth 20000 in
def ll_145 (a0 : Option Nat) (h : pm_H) : tm_L := (lf_I h a0 [1, 4]).bind fun v1 => if v1 = (-1 : Int32) then (lf_R h a0 [1, 1]).bind fun v2 => (lf_I h a0 [1, 3]).bind fun v3 => (la_I h .iaload v2 v3).bind fun v4 => (lf_P 81 h a0 [0, 1, 4] (.inl v4)).bind fun h5 => some (.inl none, h5) else some (.inl none, h)
set_option maxRecDepth 20000 in
theorem lq_145 {w : Option Nat} {d : Nat} {a0 : Option Nat} {h : pm_H} {r : tm_O × pm_H} (hr : ll_145 a0 h = some r) : tm_run pt_P (pt_G (tm_r w)) (d + 0) 145 [.inr (.inr a0)] h r := by
  unfold ll_145 at hr
  show pm_to pt_P (pt_G (tm_r w)) (d + 0) (pt_g145, []) (tm_m (0, [(0, .inr (.inr a0))], [])) h (tm_e r)
  refine tm_n 1 (F' := (1, [(0, .inr (.inr a0))], [.inr (.inr a0)])) rfl ?_
  obtain ⟨v1, qv1, hr⟩ := Option.bind_eq_some_iff.mp hr
  refine tm_getf rfl (lf_I_V qv1) ?_
  refine tm_n 1 (F' := (5, [(0, .inr (.inr a0))], [.inl (-1 : Int32), .inl v1])) rfl ?_
  by_cases c6 : v1 = (-1 : Int32)
  · rw [if_pos c6] at hr
    refine tm_icF rfl (fun q => q c6) ?_
    refine tm_n 2 (F' := (10, [(0, .inr (.inr a0))], [.inr (.inr a0), .inr (.inr a0)])) rfl ?_
    obtain ⟨v2, qv2, hr⟩ := Option.bind_eq_some_iff.mp hr
    refine tm_getf rfl (lf_R_V qv2) ?_
    refine tm_n 1 (F' := (14, [(0, .inr (.inr a0))], [.inr (.inr a0), .inr (.inr v2), .inr (.inr a0)])) rfl ?_
    obtain ⟨v3, qv3, hr⟩ := Option.bind_eq_some_iff.mp hr
    refine tm_getf rfl (lf_I_V qv3) ?_
    obtain ⟨v4, qv4, hr⟩ := Option.bind_eq_some_iff.mp hr
    refine tm_ald rfl rfl (la_I_V qv4) ?_
    obtain ⟨h5, qh5, hr⟩ := Option.bind_eq_some_iff.mp hr
    refine tm_putf rfl qh5 ?_
    cases hr
    exact tm_retV rfl
  · rw [if_neg c6] at hr
    refine tm_icT rfl c6 ?_
    cases hr
    exact tm_retV rfl
-- OfficeSheet$Part.ofNumber(J)LOfficeSheet$Part;
set_option maxRecDepth 20000 in
def ll_146 (a0 : Int64) (h : pm_H) : tm_L := lb_h (lf_new h 9 8 [.null, .null, .null, .long 0, .null, .null, .null, .null]) fun h1 => lb_V (ll_147 (some h.1.length) (some 8) none none h1) (fun h3 => (lf_P 81 h3 (some h.1.length) [1, 9, 3] (.inr (.inl a0))).bind fun h5 => some (.inl (some (.inr (.inr (some h.1.length)))), h5))
set_option maxRecDepth 20000 in
theorem lq_146 {w : Option Nat} {d : Nat} {a0 : Int64} {h : pm_H} {r : tm_O × pm_H} (hr : ll_146 a0 h = some r) : tm_run pt_P (pt_G (tm_r w)) (d + 1) 146 [.inr (.inl a0)] h r := by
  unfold ll_146 at hr
  show pm_to pt_P (pt_G (tm_r w)) (d + 1) (pt_g146, []) (tm_m (0, [(0, .inr (.inl a0))], [])) h (tm_e r)
  obtain ⟨h1, eh1, hr⟩ := lb_h_s hr
  refine tm_new rfl ?_
  rw [← eh1]
  refine tm_n 4 (F' := (9, [(0, .inr (.inl a0))], [.inr (.inr none), .inr (.inr none), .inr (.inr (some 8)), .inr (.inr (some h.1.length)), .inr (.inr (some h.1.length))])) rfl ?_
  rcases lb_V_s hr with ⟨h3, m4, hr⟩ | ⟨a6, h3, z7, z7l, m4, qz7, rfl⟩
  · try dsimp only at hr
    refine tm_call rfl rfl (tm_callP rfl rfl rfl) (lq_147 m4) ?_
    refine tm_n 3 (F' := (15, [(2, .inr (.inr (some h.1.length))), (0, .inr (.inl a0))], [.inr (.inl a0), .inr (.inr (some h.1.length))])) rfl ?_
    obtain ⟨h5, qh5, hr⟩ := Option.bind_eq_some_iff.mp hr
    refine tm_putf rfl qh5 ?_
    refine tm_n 1 (F' := (19, [(2, .inr (.inr (some h.1.length))), (0, .inr (.inl a0))], [.inr (.inr (some h.1.length))])) rfl ?_
    cases hr
    exact tm_retR rfl
  · exact tm_callT rfl rfl (tm_callP rfl rfl rfl) (lq_147 m4) qz7 rfl
-- OfficeSheet$Reader.pass(C)V
set_option maxRecDepth 20000 in
def ll_148 (w : Option Nat) (a0 : Option Nat) (a1 : Int32) (h : pm_H) : tm_L := if lc_of h a0 = some 1 then lb_I (ll_140 w a0 h) (fun v2 h3 => if v2 = a1 then if lc_of h3 a0 = some 1 then lb_V (ll_141 a0 h3) (fun h7 => some (.inl none, h7)) else none else if lc_of h3 a0 = some 1 then lb_V (ll_145 a0 h3) (fun h13 => some (.inl none, h13)) else none) else none
set_option maxRecDepth 20000 in
theorem lq_148 {w : Option Nat} {d : Nat} {a0 : Option Nat} {a1 : Int32} {h : pm_H} {r : tm_O × pm_H} (hr : ll_148 w a0 a1 h = some r) : tm_run pt_P (pt_G (tm_r w)) (d + 5) 148 [.inr (.inr a0), .inl a1] h r := by
  unfold ll_148 at hr
  show pm_to pt_P (pt_G (tm_r w)) (d + 5) (pt_g148, []) (tm_m (0, [(0, .inr (.inr a0)), (1, .inl a1)], [])) h (tm_e r)
  refine tm_n 1 (F' := (1, [(0, .inr (.inr a0)), (1, .inl a1)], [.inr (.inr a0)])) rfl ?_
  by_cases c1 : lc_of h a0 = some 1
  · rw [if_pos c1] at hr
    rcases lb_I_s hr with ⟨v2, h3, m4, hr⟩ | ⟨a18, h3, z19, z19l, m4, qz19, rfl⟩
    · try dsimp only at hr
      refine tm_call rfl rfl (tm_callV rfl rfl c1 rfl rfl) (lq_140 m4) ?_
      refine tm_n 1 (F' := (5, [(0, .inr (.inr a0)), (1, .inl a1)], [.inl a1, .inl v2])) rfl ?_
      by_cases c17 : v2 = a1
      · rw [if_pos c17] at hr
        refine tm_icF rfl (fun q => q c17) ?_
        refine tm_n 1 (F' := (9, [(0, .inr (.inr a0)), (1, .inl a1)], [.inr (.inr a0)])) rfl ?_
        by_cases c5 : lc_of h3 a0 = some 1
        · rw [if_pos c5] at hr
          rcases lb_V_s hr with ⟨h7, m8, hr⟩ | ⟨a9, h7, z10, z10l, m8, qz10, rfl⟩
          · try dsimp only at hr
            refine tm_call rfl rfl (tm_callV rfl rfl c5 rfl rfl) (lq_141 m8) ?_
            refine tm_n 1 (F' := (19, [(0, .inr (.inr a0)), (1, .inl a1)], [])) rfl ?_
            cases hr
            exact tm_retV rfl
          · exact tm_callT rfl rfl (tm_callV rfl rfl c5 rfl rfl) (lq_141 m8) qz10 rfl
        · rw [if_neg c5] at hr
          cases hr
      · rw [if_neg c17] at hr
        refine tm_icT rfl c17 ?_
        refine tm_n 1 (F' := (16, [(0, .inr (.inr a0)), (1, .inl a1)], [.inr (.inr a0)])) rfl ?_
        by_cases c11 : lc_of h3 a0 = some 1
        · rw [if_pos c11] at hr
          rcases lb_V_s hr with ⟨h13, m14, hr⟩ | ⟨a15, h13, z16, z16l, m14, qz16, rfl⟩
          · try dsimp only at hr
            refine tm_call rfl rfl (tm_callV rfl rfl c11 rfl rfl) (lq_145 m14) ?_
            cases hr
            exact tm_retV rfl
          · exact tm_callT rfl rfl (tm_callV rfl rfl c11 rfl rfl) (lq_145 m14) qz16 rfl
        · rw [if_neg c11] at hr
          cases hr
    · exact tm_callT rfl rfl (tm_callV rfl rfl c1 rfl rfl) (lq_140 m4) qz19 rfl
  · rw [if_neg c1] at hr
    cases hr
-- OfficeSheet$Reader.rowAtHand()I
set_option maxRecDepth 20000 in
def l151_48 (w : Option Nat) (K14 : Option Nat → Int32 → Int32 → pm_H → tm_L) (x0 : Option Nat) (x1 : Int32) (x2 : Int32) (h : pm_H) : tm_L := (lf_R h x0 [1, 0]).bind fun v1 => if lc_of h v1 = some 11 then lb_I (ll_134 w v1 x2 h) (fun v3 h4 => K14 x0 ((x1 * (10 : Int32)) + (v3 - (48 : Int32))) (x2 + (1 : Int32)) h4) else none
set_option maxRecDepth 20000 in
theorem l151_48_t {w : Option Nat} {d : Nat} {K14 : Option Nat → Int32 → Int32 → pm_H → tm_L} (hK14 : ∀ {x0 : Option Nat} {x1 : Int32} {x2 : Int32}  {h : pm_H} {r : tm_O × pm_H}, K14 x0 x1 x2 h = some r → pm_to pt_P (pt_G (tm_r w)) (d + 4) (pt_g151, []) (tm_m (14, [(0, .inr (.inr x0)), (1, .inl x1), (2, .inl x2)], [])) h (tm_e r)) {x0 : Option Nat} {x1 : Int32} {x2 : Int32} {h : pm_H} {r : tm_O × pm_H} (hr : l151_48 w K14 x0 x1 x2 h = some r) : pm_to pt_P (pt_G (tm_r w)) (d + 4) (pt_g151, []) (tm_m (48, [(0, .inr (.inr x0)), (1, .inl x1), (2, .inl x2)], [])) h (tm_e r) := by
  unfold l151_48 at hr
  refine tm_n 4 (F' := (53, [(0, .inr (.inr x0)), (1, .inl x1), (2, .inl x2)], [.inr (.inr x0), .inl (x1 * (10 : Int32))])) rfl ?_
  obtain ⟨v1, qv1, hr⟩ := Option.bind_eq_some_iff.mp hr
  refine tm_getf rfl (lf_R_V qv1) ?_
  refine tm_n 1 (F' := (57, [(0, .inr (.inr x0)), (1, .inl x1), (2, .inl x2)], [.inl x2, .inr (.inr v1), .inl (x1 * (10 : Int32))])) rfl ?_
  by_cases c2 : lc_of h v1 = some 11
  · rw [if_pos c2] at hr
    rcases lb_I_s hr with ⟨v3, h4, m5, hr⟩ | ⟨a6, h4, z7, z7l, m5, qz7, rfl⟩
    · try dsimp only at hr
      refine tm_call rfl rfl (tm_callV rfl rfl c2 rfl rfl) (lq_134 m5) ?_
      refine tm_n 6 (F' := (14, [(2, .inl (x2 + (1 : Int32))), (1, .inl ((x1 * (10 : Int32)) + (v3 - (48 : Int32)))), (0, .inr (.inr x0))], [])) rfl ?_
      refine tm_cut (a := [(0, .inr (.inr x0)), (1, .inl ((x1 * (10 : Int32)) + (v3 - (48 : Int32)))), (2, .inl (x2 + (1 : Int32)))]) rfl (tm_sbs [2, 1, 0] rfl) ?_
      exact hK14 hr
    · exact tm_callT rfl rfl (tm_callV rfl rfl c2 rfl rfl) (lq_134 m5) qz7 rfl
  · rw [if_neg c2] at hr
    cases hr
set_option maxRecDepth 20000 in
def l151_14 (w : Option Nat) : Nat → Option Nat → Int32 → Int32 → pm_H → tm_L
  | 0 => fun _ _ _ _ => none
  | n + 1 => fun x0 x1 x2 h => (lf_R h x0 [1, 1]).bind fun v1 => (lf_I h x0 [1, 3]).bind fun v2 => (la_I h .iaload v1 (v2 + (1 : Int32))).bind fun v3 => if v3 ≤ x2 then some (.inl (some (.inl (x1 - (1 : Int32)))), h) else if x1 = (0 : Int32) then (lf_R h x0 [1, 0]).bind fun v4 => if lc_of h v4 = some 11 then lb_I (ll_134 w v4 x2 h) (fun v6 h7 => if v6 = (48 : Int32) then some (.inl (some (.inl (-1 : Int32))), h7) else l151_48 w (l151_14 w n) x0 x1 x2 h7) else none else l151_48 w (l151_14 w n) x0 x1 x2 h
set_option maxRecDepth 20000 in
theorem l151_14_t {w : Option Nat} {d : Nat} : ∀ (n : Nat) {x0 : Option Nat} {x1 : Int32} {x2 : Int32} {h : pm_H} {r : tm_O × pm_H}, l151_14 w n x0 x1 x2 h = some r → pm_to pt_P (pt_G (tm_r w)) (d + 4) (pt_g151, []) (tm_m (14, [(0, .inr (.inr x0)), (1, .inl x1), (2, .inl x2)], [])) h (tm_e r) := by
  intro n
  induction n with
  | zero => intro x0 x1 x2 h r hr; cases hr
  | succ n ih =>
    intro x0 x1 x2 h r hr
    unfold l151_14 at hr
    refine tm_n 2 (F' := (16, [(0, .inr (.inr x0)), (1, .inl x1), (2, .inl x2)], [.inr (.inr x0), .inl x2])) rfl ?_
    obtain ⟨v1, qv1, hr⟩ := Option.bind_eq_some_iff.mp hr
    refine tm_getf rfl (lf_R_V qv1) ?_
    refine tm_n 1 (F' := (20, [(0, .inr (.inr x0)), (1, .inl x1), (2, .inl x2)], [.inr (.inr x0), .inr (.inr v1), .inl x2])) rfl ?_
    obtain ⟨v2, qv2, hr⟩ := Option.bind_eq_some_iff.mp hr
    refine tm_getf rfl (lf_I_V qv2) ?_
    refine tm_n 2 (F' := (25, [(0, .inr (.inr x0)), (1, .inl x1), (2, .inl x2)], [.inl (v2 + (1 : Int32)), .inr (.inr v1), .inl x2])) rfl ?_
    obtain ⟨v3, qv3, hr⟩ := Option.bind_eq_some_iff.mp hr
    refine tm_ald rfl rfl (la_I_V qv3) ?_
    by_cases c13 : v3 ≤ x2
    · rw [if_pos c13] at hr
      refine tm_icT rfl c13 ?_
      refine tm_n 3 (F' := (74, [(0, .inr (.inr x0)), (1, .inl x1), (2, .inl x2)], [.inl (x1 - (1 : Int32))])) rfl ?_
      cases hr
      exact tm_retI rfl rfl
    · rw [if_neg c13] at hr
      refine tm_icF rfl c13 ?_
      refine tm_n 1 (F' := (30, [(0, .inr (.inr x0)), (1, .inl x1), (2, .inl x2)], [.inl x1])) rfl ?_
      by_cases c12 : x1 = (0 : Int32)
      · rw [if_pos c12] at hr
        refine tm_ifF rfl (fun q => q c12) ?_
        refine tm_n 1 (F' := (34, [(0, .inr (.inr x0)), (1, .inl x1), (2, .inl x2)], [.inr (.inr x0)])) rfl ?_
        obtain ⟨v4, qv4, hr⟩ := Option.bind_eq_some_iff.mp hr
        refine tm_getf rfl (lf_R_V qv4) ?_
        refine tm_n 1 (F' := (38, [(0, .inr (.inr x0)), (1, .inl x1), (2, .inl x2)], [.inl x2, .inr (.inr v4)])) rfl ?_
        by_cases c5 : lc_of h v4 = some 11
        · rw [if_pos c5] at hr
          rcases lb_I_s hr with ⟨v6, h7, m8, hr⟩ | ⟨a10, h7, z11, z11l, m8, qz11, rfl⟩
          · try dsimp only at hr
            refine tm_call rfl rfl (tm_callV rfl rfl c5 rfl rfl) (lq_134 m8) ?_
            refine tm_n 1 (F' := (43, [(0, .inr (.inr x0)), (1, .inl x1), (2, .inl x2)], [.inl (48 : Int32), .inl v6])) rfl ?_
            by_cases c9 : v6 = (48 : Int32)
            · rw [if_pos c9] at hr
              refine tm_icF rfl (fun q => q c9) ?_
              refine tm_n 1 (F' := (47, [(0, .inr (.inr x0)), (1, .inl x1), (2, .inl x2)], [.inl (-1 : Int32)])) rfl ?_
              cases hr
              exact tm_retI rfl rfl
            · rw [if_neg c9] at hr
              refine tm_icT rfl c9 ?_
              refine tm_cut (a := [(0, .inr (.inr x0)), (1, .inl x1), (2, .inl x2)]) rfl (tm_sbs [0, 1, 2] rfl) ?_
              exact l151_48_t (fun hr => ih hr) hr
          · exact tm_callT rfl rfl (tm_callV rfl rfl c5 rfl rfl) (lq_134 m8) qz11 rfl
        · rw [if_neg c5] at hr
          cases hr
      · rw [if_neg c12] at hr
        refine tm_ifT rfl c12 ?_
        refine tm_cut (a := [(0, .inr (.inr x0)), (1, .inl x1), (2, .inl x2)]) rfl (tm_sbs [0, 1, 2] rfl) ?_
        exact l151_48_t (fun hr => ih hr) hr
set_option maxRecDepth 20000 in
def ll_151 (w : Option Nat) (a0 : Option Nat) (h : pm_H) : tm_L := (lf_R h a0 [1, 1]).bind fun v1 => (lf_I h a0 [1, 3]).bind fun v2 => (la_I h .iaload v1 v2).bind fun v3 => l151_14 w lf_N a0 (0 : Int32) (v3 + (1 : Int32)) h
set_option maxRecDepth 20000 in
theorem lq_151 {w : Option Nat} {d : Nat} {a0 : Option Nat} {h : pm_H} {r : tm_O × pm_H} (hr : ll_151 w a0 h = some r) : tm_run pt_P (pt_G (tm_r w)) (d + 4) 151 [.inr (.inr a0)] h r := by
  unfold ll_151 at hr
  show pm_to pt_P (pt_G (tm_r w)) (d + 4) (pt_g151, []) (tm_m (0, [(0, .inr (.inr a0))], [])) h (tm_e r)
  refine tm_n 3 (F' := (3, [(1, .inl (0 : Int32)), (0, .inr (.inr a0))], [.inr (.inr a0)])) rfl ?_
  obtain ⟨v1, qv1, hr⟩ := Option.bind_eq_some_iff.mp hr
  refine tm_getf rfl (lf_R_V qv1) ?_
  refine tm_n 1 (F' := (7, [(1, .inl (0 : Int32)), (0, .inr (.inr a0))], [.inr (.inr a0), .inr (.inr v1)])) rfl ?_
  obtain ⟨v2, qv2, hr⟩ := Option.bind_eq_some_iff.mp hr
  refine tm_getf rfl (lf_I_V qv2) ?_
  obtain ⟨v3, qv3, hr⟩ := Option.bind_eq_some_iff.mp hr
  refine tm_ald rfl rfl (la_I_V qv3) ?_
  refine tm_n 3 (F' := (14, [(2, .inl (v3 + (1 : Int32))), (1, .inl (0 : Int32)), (0, .inr (.inr a0))], [])) rfl ?_
  refine tm_cut (a := [(0, .inr (.inr a0)), (1, .inl (0 : Int32)), (2, .inl (v3 + (1 : Int32)))]) rfl (tm_sbs [2, 1, 0] rfl) ?_
  exact l151_14_t lf_N hr
-- OfficeSheet$Part.ofReference(LOfficeSheet$Line;LOfficeSheet$Line;)LOfficeSheet$Part;
set_option maxRecDepth 20000 in
def ll_152 (a0 : Option Nat) (a1 : Option Nat) (h : pm_H) : tm_L := lb_h (lf_new h 9 8 [.null, .null, .null, .long 0, .null, .null, .null, .null]) fun h1 => lb_V (ll_147 (some h.1.length) (some 9) none none h1) (fun h3 => (lf_P 81 h3 (some h.1.length) [2, 9, 4] (.inr (.inr a0))).bind fun h5 => (lf_P 81 h5 (some h.1.length) [2, 9, 5] (.inr (.inr a1))).bind fun h6 => some (.inl (some (.inr (.inr (some h.1.length)))), h6))
set_option maxRecDepth 20000 in
theorem lq_152 {w : Option Nat} {d : Nat} {a0 : Option Nat} {a1 : Option Nat} {h : pm_H} {r : tm_O × pm_H} (hr : ll_152 a0 a1 h = some r) : tm_run pt_P (pt_G (tm_r w)) (d + 1) 152 [.inr (.inr a0), .inr (.inr a1)] h r := by
  unfold ll_152 at hr
  show pm_to pt_P (pt_G (tm_r w)) (d + 1) (pt_g152, []) (tm_m (0, [(0, .inr (.inr a0)), (1, .inr (.inr a1))], [])) h (tm_e r)
  obtain ⟨h1, eh1, hr⟩ := lb_h_s hr
  refine tm_new rfl ?_
  rw [← eh1]
  refine tm_n 4 (F' := (9, [(0, .inr (.inr a0)), (1, .inr (.inr a1))], [.inr (.inr none), .inr (.inr none), .inr (.inr (some 9)), .inr (.inr (some h.1.length)), .inr (.inr (some h.1.length))])) rfl ?_
  rcases lb_V_s hr with ⟨h3, m4, hr⟩ | ⟨a7, h3, z8, z8l, m4, qz8, rfl⟩
  · try dsimp only at hr
    refine tm_call rfl rfl (tm_callP rfl rfl rfl) (lq_147 m4) ?_
    refine tm_n 3 (F' := (15, [(2, .inr (.inr (some h.1.length))), (0, .inr (.inr a0)), (1, .inr (.inr a1))], [.inr (.inr a0), .inr (.inr (some h.1.length))])) rfl ?_
    obtain ⟨h5, qh5, hr⟩ := Option.bind_eq_some_iff.mp hr
    refine tm_putf rfl qh5 ?_
    refine tm_n 2 (F' := (20, [(2, .inr (.inr (some h.1.length))), (0, .inr (.inr a0)), (1, .inr (.inr a1))], [.inr (.inr a1), .inr (.inr (some h.1.length))])) rfl ?_
    obtain ⟨h6, qh6, hr⟩ := Option.bind_eq_some_iff.mp hr
    refine tm_putf rfl qh6 ?_
    refine tm_n 1 (F' := (24, [(2, .inr (.inr (some h.1.length))), (0, .inr (.inr a0)), (1, .inr (.inr a1))], [.inr (.inr (some h.1.length))])) rfl ?_
    cases hr
    exact tm_retR rfl
  · exact tm_callT rfl rfl (tm_callP rfl rfl rfl) (lq_147 m4) qz8 rfl
-- OfficeSheet$Reader.readReference()LOfficeSheet$Part;
set_option maxRecDepth 20000 in
def l150_57 (w : Option Nat) (x0 : Option Nat) (h : pm_H) : tm_L := if lc_of h x0 = some 1 then lb_V (ll_145 x0 h) (fun h3 => lb_R (ll_152 none none h3) (fun v5 h6 => some (.inl (some (.inr (.inr v5))), h6))) else none
set_option maxRecDepth 20000 in
theorem l150_57_t {w : Option Nat} {d : Nat} {x0 : Option Nat} {h : pm_H} {r : tm_O × pm_H} (hr : l150_57 w x0 h = some r) : pm_to pt_P (pt_G (tm_r w)) (d + 5) (pt_g150, []) (tm_m (57, [(0, .inr (.inr x0))], [])) h (tm_e r) := by
  unfold l150_57 at hr
  refine tm_n 1 (F' := (58, [(0, .inr (.inr x0))], [.inr (.inr x0)])) rfl ?_
  by_cases c1 : lc_of h x0 = some 1
  · rw [if_pos c1] at hr
    rcases lb_V_s hr with ⟨h3, m4, hr⟩ | ⟨a10, h3, z11, z11l, m4, qz11, rfl⟩
    · try dsimp only at hr
      refine tm_call rfl rfl (tm_callV rfl rfl c1 rfl rfl) (lq_145 m4) ?_
      refine tm_n 2 (F' := (63, [(0, .inr (.inr x0))], [.inr (.inr none), .inr (.inr none)])) rfl ?_
      rcases lb_R_s hr with ⟨v5, h6, m7, hr⟩ | ⟨a8, h6, z9, z9l, m7, qz9, rfl⟩
      · try dsimp only at hr
        refine tm_call rfl rfl (tm_callS rfl rfl) (lq_152 m7) ?_
        cases hr
        exact tm_retR rfl
      · exact tm_callT rfl rfl (tm_callS rfl rfl) (lq_152 m7) qz9 rfl
    · exact tm_callT rfl rfl (tm_callV rfl rfl c1 rfl rfl) (lq_145 m4) qz11 rfl
  · rw [if_neg c1] at hr
    cases hr
set_option maxRecDepth 20000 in
def l150_26 (w : Option Nat) (x0 : Option Nat) (x1 : Int32) (s0 : Int32) (h : pm_H) : tm_L := if s0 < (0 : Int32) then l150_57 w x0 h else (lf_R h x0 [1, 5]).bind fun v1 => if lc_of h v1 = some 5 then lb_I (ll_85 v1 h) (fun v3 h4 => if v3 ≤ s0 then l150_57 w x0 h4 else if x1 < (0 : Int32) then l150_57 w x0 h4 else (lf_R h4 x0 [1, 6]).bind fun v6 => if lc_of h4 v6 = some 5 then lb_I (ll_85 v6 h4) (fun v8 h9 => if x1 < v8 then if lc_of h9 x0 = some 1 then lb_V (ll_141 x0 h9) (fun h13 => (lf_R h13 x0 [1, 5]).bind fun v15 => (lf_R h13 v15 [5, 1]).bind fun v16 => if lc_of h13 v16 = some 12 then lb_R (ll_87 v16 s0 h13) (fun v18 h19 => if lf_cc 81 h19 v18 [6] = true then (lf_R h19 x0 [1, 6]).bind fun v22 => (lf_R h19 v22 [5, 1]).bind fun v23 => if lc_of h19 v23 = some 12 then lb_R (ll_87 v23 x1 h19) (fun v25 h26 => if lf_cc 81 h26 v25 [6] = true then lb_R (ll_152 v18 v25 h26) (fun v29 h30 => some (.inl (some (.inr (.inr v29))), h30)) else none) else none else none) else none) else none else l150_57 w x0 h9) else none) else none
set_option maxRecDepth 20000 in
theorem l150_26_t {w : Option Nat} {d : Nat} {x0 : Option Nat} {x1 : Int32} {s0 : Int32} {h : pm_H} {r : tm_O × pm_H} (hr : l150_26 w x0 x1 s0 h = some r) : pm_to pt_P (pt_G (tm_r w)) (d + 5) (pt_g150, []) (tm_m (26, [(0, .inr (.inr x0)), (1, .inl x1)], [.inl s0])) h (tm_e r) := by
  unfold l150_26 at hr
  refine tm_n 2 (F' := (28, [(2, .inl s0), (0, .inr (.inr x0)), (1, .inl x1)], [.inl s0])) rfl ?_
  by_cases c47 : s0 < (0 : Int32)
  · rw [if_pos c47] at hr
    refine tm_ifT rfl c47 ?_
    refine tm_cut (a := [(0, .inr (.inr x0))]) rfl (tm_sbs [1] rfl) ?_
    exact l150_57_t hr
  · rw [if_neg c47] at hr
    refine tm_ifF rfl c47 ?_
    refine tm_n 2 (F' := (33, [(2, .inl s0), (0, .inr (.inr x0)), (1, .inl x1)], [.inr (.inr x0), .inl s0])) rfl ?_
    obtain ⟨v1, qv1, hr⟩ := Option.bind_eq_some_iff.mp hr
    refine tm_getf rfl (lf_R_V qv1) ?_
    by_cases c2 : lc_of h v1 = some 5
    · rw [if_pos c2] at hr
      rcases lb_I_s hr with ⟨v3, h4, m5, hr⟩ | ⟨a45, h4, z46, z46l, m5, qz46, rfl⟩
      · try dsimp only at hr
        refine tm_call rfl rfl (tm_callV rfl rfl c2 rfl rfl) (lq_85 m5) ?_
        by_cases c44 : v3 ≤ s0
        · rw [if_pos c44] at hr
          refine tm_icT rfl c44 ?_
          refine tm_cut (a := [(0, .inr (.inr x0))]) rfl (tm_sbs [1] rfl) ?_
          exact l150_57_t hr
        · rw [if_neg c44] at hr
          refine tm_icF rfl c44 ?_
          refine tm_n 1 (F' := (43, [(2, .inl s0), (0, .inr (.inr x0)), (1, .inl x1)], [.inl x1])) rfl ?_
          by_cases c43 : x1 < (0 : Int32)
          · rw [if_pos c43] at hr
            refine tm_ifT rfl c43 ?_
            refine tm_cut (a := [(0, .inr (.inr x0))]) rfl (tm_sbs [1] rfl) ?_
            exact l150_57_t hr
          · rw [if_neg c43] at hr
            refine tm_ifF rfl c43 ?_
            refine tm_n 2 (F' := (48, [(2, .inl s0), (0, .inr (.inr x0)), (1, .inl x1)], [.inr (.inr x0), .inl x1])) rfl ?_
            obtain ⟨v6, qv6, hr⟩ := Option.bind_eq_some_iff.mp hr
            refine tm_getf rfl (lf_R_V qv6) ?_
            by_cases c7 : lc_of h4 v6 = some 5
            · rw [if_pos c7] at hr
              rcases lb_I_s hr with ⟨v8, h9, m10, hr⟩ | ⟨a41, h9, z42, z42l, m10, qz42, rfl⟩
              · try dsimp only at hr
                refine tm_call rfl rfl (tm_callV rfl rfl c7 rfl rfl) (lq_85 m10) ?_
                by_cases c40 : x1 < v8
                · rw [if_pos c40] at hr
                  refine tm_icT rfl c40 ?_
                  refine tm_n 1 (F' := (68, [(2, .inl s0), (0, .inr (.inr x0)), (1, .inl x1)], [.inr (.inr x0)])) rfl ?_
                  by_cases c11 : lc_of h9 x0 = some 1
                  · rw [if_pos c11] at hr
                    rcases lb_V_s hr with ⟨h13, m14, hr⟩ | ⟨a38, h13, z39, z39l, m14, qz39, rfl⟩
                    · try dsimp only at hr
                      refine tm_call rfl rfl (tm_callV rfl rfl c11 rfl rfl) (lq_141 m14) ?_
                      refine tm_n 1 (F' := (72, [(2, .inl s0), (0, .inr (.inr x0)), (1, .inl x1)], [.inr (.inr x0)])) rfl ?_
                      obtain ⟨v15, qv15, hr⟩ := Option.bind_eq_some_iff.mp hr
                      refine tm_getf rfl (lf_R_V qv15) ?_
                      obtain ⟨v16, qv16, hr⟩ := Option.bind_eq_some_iff.mp hr
                      refine tm_getf rfl (lf_R_V qv16) ?_
                      refine tm_n 1 (F' := (79, [(2, .inl s0), (0, .inr (.inr x0)), (1, .inl x1)], [.inl s0, .inr (.inr v16)])) rfl ?_
                      by_cases c17 : lc_of h13 v16 = some 12
                      · rw [if_pos c17] at hr
                        rcases lb_R_s hr with ⟨v18, h19, m20, hr⟩ | ⟨a36, h19, z37, z37l, m20, qz37, rfl⟩
                        · try dsimp only at hr
                          refine tm_call rfl rfl (tm_callV rfl rfl c17 rfl rfl) (lq_87 m20) ?_
                          by_cases c21 : lf_cc 81 h19 v18 [6] = true
                          · rw [if_pos c21] at hr
                            refine tm_cc rfl c21 ?_
                            refine tm_n 1 (F' := (86, [(2, .inl s0), (0, .inr (.inr x0)), (1, .inl x1)], [.inr (.inr x0), .inr (.inr v18)])) rfl ?_
                            obtain ⟨v22, qv22, hr⟩ := Option.bind_eq_some_iff.mp hr
                            refine tm_getf rfl (lf_R_V qv22) ?_
                            obtain ⟨v23, qv23, hr⟩ := Option.bind_eq_some_iff.mp hr
                            refine tm_getf rfl (lf_R_V qv23) ?_
                            refine tm_n 1 (F' := (93, [(2, .inl s0), (0, .inr (.inr x0)), (1, .inl x1)], [.inl x1, .inr (.inr v23), .inr (.inr v18)])) rfl ?_
                            by_cases c24 : lc_of h19 v23 = some 12
                            · rw [if_pos c24] at hr
                              rcases lb_R_s hr with ⟨v25, h26, m27, hr⟩ | ⟨a34, h26, z35, z35l, m27, qz35, rfl⟩
                              · try dsimp only at hr
                                refine tm_call rfl rfl (tm_callV rfl rfl c24 rfl rfl) (lq_87 m27) ?_
                                by_cases c28 : lf_cc 81 h26 v25 [6] = true
                                · rw [if_pos c28] at hr
                                  refine tm_cc rfl c28 ?_
                                  rcases lb_R_s hr with ⟨v29, h30, m31, hr⟩ | ⟨a32, h30, z33, z33l, m31, qz33, rfl⟩
                                  · try dsimp only at hr
                                    refine tm_call rfl rfl (tm_callS rfl rfl) (lq_152 m31) ?_
                                    cases hr
                                    exact tm_retR rfl
                                  · exact tm_callT rfl rfl (tm_callS rfl rfl) (lq_152 m31) qz33 rfl
                                · rw [if_neg c28] at hr
                                  cases hr
                              · exact tm_callT rfl rfl (tm_callV rfl rfl c24 rfl rfl) (lq_87 m27) qz35 rfl
                            · rw [if_neg c24] at hr
                              cases hr
                          · rw [if_neg c21] at hr
                            cases hr
                        · exact tm_callT rfl rfl (tm_callV rfl rfl c17 rfl rfl) (lq_87 m20) qz37 rfl
                      · rw [if_neg c17] at hr
                        cases hr
                    · exact tm_callT rfl rfl (tm_callV rfl rfl c11 rfl rfl) (lq_141 m14) qz39 rfl
                  · rw [if_neg c11] at hr
                    cases hr
                · rw [if_neg c40] at hr
                  refine tm_icF rfl c40 ?_
                  refine tm_cut (a := [(0, .inr (.inr x0))]) rfl (tm_sbs [1] rfl) ?_
                  exact l150_57_t hr
              · exact tm_callT rfl rfl (tm_callV rfl rfl c7 rfl rfl) (lq_85 m10) qz42 rfl
            · rw [if_neg c7] at hr
              cases hr
      · exact tm_callT rfl rfl (tm_callV rfl rfl c2 rfl rfl) (lq_85 m5) qz46 rfl
    · rw [if_neg c2] at hr
      cases hr
set_option maxRecDepth 20000 in
def ll_150 (w : Option Nat) (a0 : Option Nat) (h : pm_H) : tm_L := if lc_of h a0 = some 1 then lb_I (ll_140 w a0 h) (fun v2 h3 => if lc_of h3 a0 = some 1 then lb_I (ll_140 w a0 h3) (fun v6 h7 => lb_I (ll_138 v6 h7) (fun v9 h10 => if v9 = (0 : Int32) then l150_26 w a0 (v2 - (65 : Int32)) (-1 : Int32) h10 else if lc_of h10 a0 = some 1 then lb_I (ll_151 w a0 h10) (fun v13 h14 => l150_26 w a0 (v2 - (65 : Int32)) v13 h14) else none)) else none) else none
set_option maxRecDepth 20000 in
theorem lq_150 {w : Option Nat} {d : Nat} {a0 : Option Nat} {h : pm_H} {r : tm_O × pm_H} (hr : ll_150 w a0 h = some r) : tm_run pt_P (pt_G (tm_r w)) (d + 5) 150 [.inr (.inr a0)] h r := by
  unfold ll_150 at hr
  show pm_to pt_P (pt_G (tm_r w)) (d + 5) (pt_g150, []) (tm_m (0, [(0, .inr (.inr a0))], [])) h (tm_e r)
  refine tm_n 1 (F' := (1, [(0, .inr (.inr a0))], [.inr (.inr a0)])) rfl ?_
  by_cases c1 : lc_of h a0 = some 1
  · rw [if_pos c1] at hr
    rcases lb_I_s hr with ⟨v2, h3, m4, hr⟩ | ⟨a23, h3, z24, z24l, m4, qz24, rfl⟩
    · try dsimp only at hr
      refine tm_call rfl rfl (tm_callV rfl rfl c1 rfl rfl) (lq_140 m4) ?_
      refine tm_n 4 (F' := (9, [(1, .inl (v2 - (65 : Int32))), (0, .inr (.inr a0))], [.inr (.inr a0)])) rfl ?_
      by_cases c5 : lc_of h3 a0 = some 1
      · rw [if_pos c5] at hr
        rcases lb_I_s hr with ⟨v6, h7, m8, hr⟩ | ⟨a21, h7, z22, z22l, m8, qz22, rfl⟩
        · try dsimp only at hr
          refine tm_call rfl rfl (tm_callV rfl rfl c5 rfl rfl) (lq_140 m8) ?_
          rcases lb_I_s hr with ⟨v9, h10, m11, hr⟩ | ⟨a19, h10, z20, z20l, m11, qz20, rfl⟩
          · try dsimp only at hr
            refine tm_call rfl rfl (tm_callS rfl rfl) (lq_138 m11) ?_
            by_cases c18 : v9 = (0 : Int32)
            · rw [if_pos c18] at hr
              refine tm_ifT rfl c18 ?_
              refine tm_n 1 (F' := (26, [(1, .inl (v2 - (65 : Int32))), (0, .inr (.inr a0))], [.inl (-1 : Int32)])) rfl ?_
              refine tm_cut (a := [(0, .inr (.inr a0)), (1, .inl (v2 - (65 : Int32)))]) rfl (tm_sbs [1, 0] rfl) ?_
              exact l150_26_t hr
            · rw [if_neg c18] at hr
              refine tm_ifF rfl c18 ?_
              refine tm_n 1 (F' := (19, [(1, .inl (v2 - (65 : Int32))), (0, .inr (.inr a0))], [.inr (.inr a0)])) rfl ?_
              by_cases c12 : lc_of h10 a0 = some 1
              · rw [if_pos c12] at hr
                rcases lb_I_s hr with ⟨v13, h14, m15, hr⟩ | ⟨a16, h14, z17, z17l, m15, qz17, rfl⟩
                · try dsimp only at hr
                  refine tm_call rfl rfl (tm_callV rfl rfl c12 rfl rfl) (lq_151 m15) ?_
                  refine tm_n 1 (F' := (26, [(1, .inl (v2 - (65 : Int32))), (0, .inr (.inr a0))], [.inl v13])) rfl ?_
                  refine tm_cut (a := [(0, .inr (.inr a0)), (1, .inl (v2 - (65 : Int32)))]) rfl (tm_sbs [1, 0] rfl) ?_
                  exact l150_26_t hr
                · exact tm_callT rfl rfl (tm_callV rfl rfl c12 rfl rfl) (lq_151 m15) qz17 rfl
              · rw [if_neg c12] at hr
                cases hr
          · exact tm_callT rfl rfl (tm_callS rfl rfl) (lq_138 m11) qz20 rfl
        · exact tm_callT rfl rfl (tm_callV rfl rfl c5 rfl rfl) (lq_140 m8) qz22 rfl
      · rw [if_neg c5] at hr
        cases hr
    · exact tm_callT rfl rfl (tm_callV rfl rfl c1 rfl rfl) (lq_140 m4) qz24 rfl
  · rw [if_neg c1] at hr
    cases hr
-- OfficeSheet$Part.ofBlock(LOfficeSheet$PartKind;LOfficeSheet$Part;LOfficeSheet$Part;)LOfficeSheet$Part;
set_option maxRecDepth 20000 in
def ll_153 (a0 : Option Nat) (a1 : Option Nat) (a2 : Option Nat) (h : pm_H) : tm_L := lb_h (lf_new h 9 8 [.null, .null, .null, .long 0, .null, .null, .null, .null]) fun h1 => lb_V (ll_147 (some h.1.length) a0 none none h1) (fun h3 => (lf_R h3 a1 [9, 4]).bind fun v5 => (lf_P 81 h3 (some h.1.length) [2, 9, 4] (.inr (.inr v5))).bind fun h6 => (lf_R h6 a1 [9, 5]).bind fun v7 => (lf_P 81 h6 (some h.1.length) [2, 9, 5] (.inr (.inr v7))).bind fun h8 => (lf_R h8 a2 [9, 4]).bind fun v9 => (lf_P 81 h8 (some h.1.length) [2, 9, 6] (.inr (.inr v9))).bind fun h10 => (lf_R h10 a2 [9, 5]).bind fun v11 => (lf_P 81 h10 (some h.1.length) [2, 9, 7] (.inr (.inr v11))).bind fun h12 => some (.inl (some (.inr (.inr (some h.1.length)))), h12))
set_option maxRecDepth 20000 in
theorem lq_153 {w : Option Nat} {d : Nat} {a0 : Option Nat} {a1 : Option Nat} {a2 : Option Nat} {h : pm_H} {r : tm_O × pm_H} (hr : ll_153 a0 a1 a2 h = some r) : tm_run pt_P (pt_G (tm_r w)) (d + 1) 153 [.inr (.inr a0), .inr (.inr a1), .inr (.inr a2)] h r := by
  unfold ll_153 at hr
  show pm_to pt_P (pt_G (tm_r w)) (d + 1) (pt_g153, []) (tm_m (0, [(0, .inr (.inr a0)), (1, .inr (.inr a1)), (2, .inr (.inr a2))], [])) h (tm_e r)
  obtain ⟨h1, eh1, hr⟩ := lb_h_s hr
  refine tm_new rfl ?_
  rw [← eh1]
  refine tm_n 4 (F' := (7, [(0, .inr (.inr a0)), (1, .inr (.inr a1)), (2, .inr (.inr a2))], [.inr (.inr none), .inr (.inr none), .inr (.inr a0), .inr (.inr (some h.1.length)), .inr (.inr (some h.1.length))])) rfl ?_
  rcases lb_V_s hr with ⟨h3, m4, hr⟩ | ⟨a13, h3, z14, z14l, m4, qz14, rfl⟩
  · try dsimp only at hr
    refine tm_call rfl rfl (tm_callP rfl rfl rfl) (lq_147 m4) ?_
    refine tm_n 3 (F' := (13, [(3, .inr (.inr (some h.1.length))), (0, .inr (.inr a0)), (1, .inr (.inr a1)), (2, .inr (.inr a2))], [.inr (.inr a1), .inr (.inr (some h.1.length))])) rfl ?_
    obtain ⟨v5, qv5, hr⟩ := Option.bind_eq_some_iff.mp hr
    refine tm_getf rfl (lf_R_V qv5) ?_
    obtain ⟨h6, qh6, hr⟩ := Option.bind_eq_some_iff.mp hr
    refine tm_putf rfl qh6 ?_
    refine tm_n 2 (F' := (21, [(3, .inr (.inr (some h.1.length))), (0, .inr (.inr a0)), (1, .inr (.inr a1)), (2, .inr (.inr a2))], [.inr (.inr a1), .inr (.inr (some h.1.length))])) rfl ?_
    obtain ⟨v7, qv7, hr⟩ := Option.bind_eq_some_iff.mp hr
    refine tm_getf rfl (lf_R_V qv7) ?_
    obtain ⟨h8, qh8, hr⟩ := Option.bind_eq_some_iff.mp hr
    refine tm_putf rfl qh8 ?_
    refine tm_n 2 (F' := (29, [(3, .inr (.inr (some h.1.length))), (0, .inr (.inr a0)), (1, .inr (.inr a1)), (2, .inr (.inr a2))], [.inr (.inr a2), .inr (.inr (some h.1.length))])) rfl ?_
    obtain ⟨v9, qv9, hr⟩ := Option.bind_eq_some_iff.mp hr
    refine tm_getf rfl (lf_R_V qv9) ?_
    obtain ⟨h10, qh10, hr⟩ := Option.bind_eq_some_iff.mp hr
    refine tm_putf rfl qh10 ?_
    refine tm_n 2 (F' := (37, [(3, .inr (.inr (some h.1.length))), (0, .inr (.inr a0)), (1, .inr (.inr a1)), (2, .inr (.inr a2))], [.inr (.inr a2), .inr (.inr (some h.1.length))])) rfl ?_
    obtain ⟨v11, qv11, hr⟩ := Option.bind_eq_some_iff.mp hr
    refine tm_getf rfl (lf_R_V qv11) ?_
    obtain ⟨h12, qh12, hr⟩ := Option.bind_eq_some_iff.mp hr
    refine tm_putf rfl qh12 ?_
    refine tm_n 1 (F' := (44, [(3, .inr (.inr (some h.1.length))), (0, .inr (.inr a0)), (1, .inr (.inr a1)), (2, .inr (.inr a2))], [.inr (.inr (some h.1.length))])) rfl ?_
    cases hr
    exact tm_retR rfl
  · exact tm_callT rfl rfl (tm_callP rfl rfl rfl) (lq_147 m4) qz14 rfl
-- OfficeSheet$Reader.readBlock(LOfficeSheet$PartKind;)LOfficeSheet$Part;
set_option maxRecDepth 20000 in
def ll_149 (w : Option Nat) (a0 : Option Nat) (a1 : Option Nat) (h : pm_H) : tm_L := if lc_of h a0 = some 1 then lb_V (ll_141 a0 h) (fun h3 => if lc_of h3 a0 = some 1 then lb_V (ll_148 w a0 (40 : Int32) h3) (fun h7 => if lc_of h7 a0 = some 1 then lb_R (ll_150 w a0 h7) (fun v10 h11 => if lc_of h11 a0 = some 1 then lb_V (ll_148 w a0 (58 : Int32) h11) (fun h15 => if lc_of h15 a0 = some 1 then lb_R (ll_150 w a0 h15) (fun v18 h19 => if lc_of h19 a0 = some 1 then lb_V (ll_148 w a0 (41 : Int32) h19) (fun h23 => lb_R (ll_153 a1 v10 v18 h23) (fun v25 h26 => some (.inl (some (.inr (.inr v25))), h26))) else none) else none) else none) else none) else none) else none
set_option maxRecDepth 20000 in
theorem lq_149 {w : Option Nat} {d : Nat} {a0 : Option Nat} {a1 : Option Nat} {h : pm_H} {r : tm_O × pm_H} (hr : ll_149 w a0 a1 h = some r) : tm_run pt_P (pt_G (tm_r w)) (d + 6) 149 [.inr (.inr a0), .inr (.inr a1)] h r := by
  unfold ll_149 at hr
  show pm_to pt_P (pt_G (tm_r w)) (d + 6) (pt_g149, []) (tm_m (0, [(0, .inr (.inr a0)), (1, .inr (.inr a1))], [])) h (tm_e r)
  refine tm_n 1 (F' := (1, [(0, .inr (.inr a0)), (1, .inr (.inr a1))], [.inr (.inr a0)])) rfl ?_
  by_cases c1 : lc_of h a0 = some 1
  · rw [if_pos c1] at hr
    rcases lb_V_s hr with ⟨h3, m4, hr⟩ | ⟨a40, h3, z41, z41l, m4, qz41, rfl⟩
    · try dsimp only at hr
      refine tm_call rfl rfl (tm_callV rfl rfl c1 rfl rfl) (lq_141 m4) ?_
      refine tm_n 2 (F' := (7, [(0, .inr (.inr a0)), (1, .inr (.inr a1))], [.inl (40 : Int32), .inr (.inr a0)])) rfl ?_
      by_cases c5 : lc_of h3 a0 = some 1
      · rw [if_pos c5] at hr
        rcases lb_V_s hr with ⟨h7, m8, hr⟩ | ⟨a38, h7, z39, z39l, m8, qz39, rfl⟩
        · try dsimp only at hr
          refine tm_call rfl rfl (tm_callV rfl rfl c5 rfl rfl) (lq_148 m8) ?_
          refine tm_n 1 (F' := (11, [(0, .inr (.inr a0)), (1, .inr (.inr a1))], [.inr (.inr a0)])) rfl ?_
          by_cases c9 : lc_of h7 a0 = some 1
          · rw [if_pos c9] at hr
            rcases lb_R_s hr with ⟨v10, h11, m12, hr⟩ | ⟨a36, h11, z37, z37l, m12, qz37, rfl⟩
            · try dsimp only at hr
              refine tm_call rfl rfl (tm_callV rfl rfl c9 rfl rfl) (lq_150 m12) ?_
              refine tm_n 3 (F' := (18, [(2, .inr (.inr v10)), (0, .inr (.inr a0)), (1, .inr (.inr a1))], [.inl (58 : Int32), .inr (.inr a0)])) rfl ?_
              by_cases c13 : lc_of h11 a0 = some 1
              · rw [if_pos c13] at hr
                rcases lb_V_s hr with ⟨h15, m16, hr⟩ | ⟨a34, h15, z35, z35l, m16, qz35, rfl⟩
                · try dsimp only at hr
                  refine tm_call rfl rfl (tm_callV rfl rfl c13 rfl rfl) (lq_148 m16) ?_
                  refine tm_n 1 (F' := (22, [(2, .inr (.inr v10)), (0, .inr (.inr a0)), (1, .inr (.inr a1))], [.inr (.inr a0)])) rfl ?_
                  by_cases c17 : lc_of h15 a0 = some 1
                  · rw [if_pos c17] at hr
                    rcases lb_R_s hr with ⟨v18, h19, m20, hr⟩ | ⟨a32, h19, z33, z33l, m20, qz33, rfl⟩
                    · try dsimp only at hr
                      refine tm_call rfl rfl (tm_callV rfl rfl c17 rfl rfl) (lq_150 m20) ?_
                      refine tm_n 3 (F' := (29, [(3, .inr (.inr v18)), (2, .inr (.inr v10)), (0, .inr (.inr a0)), (1, .inr (.inr a1))], [.inl (41 : Int32), .inr (.inr a0)])) rfl ?_
                      by_cases c21 : lc_of h19 a0 = some 1
                      · rw [if_pos c21] at hr
                        rcases lb_V_s hr with ⟨h23, m24, hr⟩ | ⟨a30, h23, z31, z31l, m24, qz31, rfl⟩
                        · try dsimp only at hr
                          refine tm_call rfl rfl (tm_callV rfl rfl c21 rfl rfl) (lq_148 m24) ?_
                          refine tm_n 3 (F' := (35, [(3, .inr (.inr v18)), (2, .inr (.inr v10)), (0, .inr (.inr a0)), (1, .inr (.inr a1))], [.inr (.inr v18), .inr (.inr v10), .inr (.inr a1)])) rfl ?_
                          rcases lb_R_s hr with ⟨v25, h26, m27, hr⟩ | ⟨a28, h26, z29, z29l, m27, qz29, rfl⟩
                          · try dsimp only at hr
                            refine tm_call rfl rfl (tm_callS rfl rfl) (lq_153 m27) ?_
                            cases hr
                            exact tm_retR rfl
                          · exact tm_callT rfl rfl (tm_callS rfl rfl) (lq_153 m27) qz29 rfl
                        · exact tm_callT rfl rfl (tm_callV rfl rfl c21 rfl rfl) (lq_148 m24) qz31 rfl
                      · rw [if_neg c21] at hr
                        cases hr
                    · exact tm_callT rfl rfl (tm_callV rfl rfl c17 rfl rfl) (lq_150 m20) qz33 rfl
                  · rw [if_neg c17] at hr
                    cases hr
                · exact tm_callT rfl rfl (tm_callV rfl rfl c13 rfl rfl) (lq_148 m16) qz35 rfl
              · rw [if_neg c13] at hr
                cases hr
            · exact tm_callT rfl rfl (tm_callV rfl rfl c9 rfl rfl) (lq_150 m12) qz37 rfl
          · rw [if_neg c9] at hr
            cases hr
        · exact tm_callT rfl rfl (tm_callV rfl rfl c5 rfl rfl) (lq_148 m8) qz39 rfl
      · rw [if_neg c5] at hr
        cases hr
    · exact tm_callT rfl rfl (tm_callV rfl rfl c1 rfl rfl) (lq_141 m4) qz41 rfl
  · rw [if_neg c1] at hr
    cases hr
-- OfficeSheet$Reader.numberAtHand()J
set_option maxRecDepth 20000 in
def l155_162 (w : Option Nat) (h : pm_H) : tm_L := some (.inl (some (.inr (.inl (-1 : Int64)))), h)
set_option maxRecDepth 20000 in
theorem l155_162_t {w : Option Nat} {d : Nat} {h : pm_H} {r : tm_O × pm_H} (hr : l155_162 w  h = some r) : pm_to pt_P (pt_G (tm_r w)) (d + 4) (pt_g155, []) (tm_m (162, [], [])) h (tm_e r) := by
  unfold l155_162 at hr
  refine tm_n 1 (F' := (165, [], [.inr (.inl (-1 : Int64))])) rfl ?_
  cases hr
  exact tm_retJ rfl
set_option maxRecDepth 20000 in
def l155_169 (w : Option Nat) : Nat → Int64 → Int32 → pm_H → tm_L
  | 0 => fun _ _ _ => none
  | n + 1 => fun x4 x8 h => if (4 : Int32) ≤ x8 then some (.inl (some (.inr (.inl x4))), h) else l155_169 w n (x4 * (10 : Int64)) (x8 + (1 : Int32)) h
set_option maxRecDepth 20000 in
theorem l155_169_t {w : Option Nat} {d : Nat} : ∀ (n : Nat) {x4 : Int64} {x8 : Int32} {h : pm_H} {r : tm_O × pm_H}, l155_169 w n x4 x8 h = some r → pm_to pt_P (pt_G (tm_r w)) (d + 4) (pt_g155, []) (tm_m (169, [(4, .inr (.inl x4)), (8, .inl x8)], [])) h (tm_e r) := by
  intro n
  induction n with
  | zero => intro x4 x8 h r hr; cases hr
  | succ n ih =>
    intro x4 x8 h r hr
    unfold l155_169 at hr
    refine tm_n 2 (F' := (172, [(4, .inr (.inl x4)), (8, .inl x8)], [.inl (4 : Int32), .inl x8])) rfl ?_
    by_cases c1 : (4 : Int32) ≤ x8
    · rw [if_pos c1] at hr
      refine tm_icT rfl c1 ?_
      refine tm_n 1 (F' := (191, [(4, .inr (.inl x4)), (8, .inl x8)], [.inr (.inl x4)])) rfl ?_
      cases hr
      exact tm_retJ rfl
    · rw [if_neg c1] at hr
      refine tm_icF rfl c1 ?_
      refine tm_n 6 (F' := (169, [(8, .inl (x8 + (1 : Int32))), (4, .inr (.inl (x4 * (10 : Int64))))], [])) rfl ?_
      refine tm_cut (a := [(4, .inr (.inl (x4 * (10 : Int64)))), (8, .inl (x8 + (1 : Int32)))]) rfl (tm_sbs [1, 0] rfl) ?_
      exact ih hr
set_option maxRecDepth 20000 in
def l155_150 (w : Option Nat) (x2 : Int32) (x4 : Int64) (x6 : Int32) (s0 : Int32) (h : pm_H) : tm_L := if x6 = (0 : Int32) then l155_162 w h else if s0 = (0 : Int32) then l155_162 w h else l155_169 w lf_N x4 x2 h
set_option maxRecDepth 20000 in
theorem l155_150_t {w : Option Nat} {d : Nat} {x2 : Int32} {x4 : Int64} {x6 : Int32} {s0 : Int32} {h : pm_H} {r : tm_O × pm_H} (hr : l155_150 w x2 x4 x6 s0 h = some r) : pm_to pt_P (pt_G (tm_r w)) (d + 4) (pt_g155, []) (tm_m (150, [(2, .inl x2), (4, .inr (.inl x4)), (6, .inl x6)], [.inl s0])) h (tm_e r) := by
  unfold l155_150 at hr
  refine tm_n 2 (F' := (154, [(7, .inl s0), (2, .inl x2), (4, .inr (.inl x4)), (6, .inl x6)], [.inl x6])) rfl ?_
  by_cases c2 : x6 = (0 : Int32)
  · rw [if_pos c2] at hr
    refine tm_ifT rfl c2 ?_
    refine tm_cut (a := []) rfl (tm_sbs [] rfl) ?_
    exact l155_162_t hr
  · rw [if_neg c2] at hr
    refine tm_ifF rfl c2 ?_
    refine tm_n 1 (F' := (159, [(7, .inl s0), (2, .inl x2), (4, .inr (.inl x4)), (6, .inl x6)], [.inl s0])) rfl ?_
    by_cases c1 : s0 = (0 : Int32)
    · rw [if_pos c1] at hr
      refine tm_ifF rfl (fun q => q c1) ?_
      refine tm_cut (a := []) rfl (tm_sbs [] rfl) ?_
      exact l155_162_t hr
    · rw [if_neg c1] at hr
      refine tm_ifT rfl c1 ?_
      refine tm_n 2 (F' := (169, [(8, .inl x2), (7, .inl s0), (2, .inl x2), (4, .inr (.inl x4)), (6, .inl x6)], [])) rfl ?_
      refine tm_cut (a := [(4, .inr (.inl x4)), (8, .inl x2)]) rfl (tm_sbs [3, 0] rfl) ?_
      exact l155_169_t lf_N hr
set_option maxRecDepth 20000 in
def l155_145 (w : Option Nat) (x2 : Int32) (x4 : Int64) (x6 : Int32) (h : pm_H) : tm_L := l155_150 w x2 x4 x6 (1 : Int32) h
set_option maxRecDepth 20000 in
theorem l155_145_t {w : Option Nat} {d : Nat} {x2 : Int32} {x4 : Int64} {x6 : Int32} {h : pm_H} {r : tm_O × pm_H} (hr : l155_145 w x2 x4 x6 h = some r) : pm_to pt_P (pt_G (tm_r w)) (d + 4) (pt_g155, []) (tm_m (145, [(2, .inl x2), (4, .inr (.inl x4)), (6, .inl x6)], [])) h (tm_e r) := by
  unfold l155_145 at hr
  refine tm_n 2 (F' := (150, [(2, .inl x2), (4, .inr (.inl x4)), (6, .inl x6)], [.inl (1 : Int32)])) rfl ?_
  refine tm_cut (a := [(2, .inl x2), (4, .inr (.inl x4)), (6, .inl x6)]) rfl (tm_sbs [0, 1, 2] rfl) ?_
  exact l155_150_t hr
set_option maxRecDepth 20000 in
def l155_149 (w : Option Nat) (x2 : Int32) (x4 : Int64) (x6 : Int32) (h : pm_H) : tm_L := l155_150 w x2 x4 x6 (0 : Int32) h
set_option maxRecDepth 20000 in
theorem l155_149_t {w : Option Nat} {d : Nat} {x2 : Int32} {x4 : Int64} {x6 : Int32} {h : pm_H} {r : tm_O × pm_H} (hr : l155_149 w x2 x4 x6 h = some r) : pm_to pt_P (pt_G (tm_r w)) (d + 4) (pt_g155, []) (tm_m (149, [(2, .inl x2), (4, .inr (.inl x4)), (6, .inl x6)], [])) h (tm_e r) := by
  unfold l155_149 at hr
  refine tm_n 1 (F' := (150, [(2, .inl x2), (4, .inr (.inl x4)), (6, .inl x6)], [.inl (0 : Int32)])) rfl ?_
  refine tm_cut (a := [(2, .inl x2), (4, .inr (.inl x4)), (6, .inl x6)]) rfl (tm_sbs [0, 1, 2] rfl) ?_
  exact l155_150_t hr
set_option maxRecDepth 20000 in
def l155_124 (w : Option Nat) (x2 : Int32) (x3 : Int32) (x4 : Int64) (s0 : Int32) (h : pm_H) : tm_L := if x3 = (0 : Int32) then l155_145 w x2 x4 s0 h else if x3 = (1 : Int32) then if x2 < (1 : Int32) then l155_149 w x2 x4 s0 h else if (4 : Int32) < x2 then l155_149 w x2 x4 s0 h else l155_145 w x2 x4 s0 h else l155_149 w x2 x4 s0 h
set_option maxRecDepth 20000 in
theorem l155_124_t {w : Option Nat} {d : Nat} {x2 : Int32} {x3 : Int32} {x4 : Int64} {s0 : Int32} {h : pm_H} {r : tm_O × pm_H} (hr : l155_124 w x2 x3 x4 s0 h = some r) : pm_to pt_P (pt_G (tm_r w)) (d + 4) (pt_g155, []) (tm_m (124, [(2, .inl x2), (3, .inl x3), (4, .inr (.inl x4))], [.inl s0])) h (tm_e r) := by
  unfold l155_124 at hr
  refine tm_n 2 (F' := (127, [(6, .inl s0), (2, .inl x2), (3, .inl x3), (4, .inr (.inl x4))], [.inl x3])) rfl ?_
  by_cases c4 : x3 = (0 : Int32)
  · rw [if_pos c4] at hr
    refine tm_ifT rfl c4 ?_
    refine tm_cut (a := [(2, .inl x2), (4, .inr (.inl x4)), (6, .inl s0)]) rfl (tm_sbs [1, 3, 0] rfl) ?_
    exact l155_145_t hr
  · rw [if_neg c4] at hr
    refine tm_ifF rfl c4 ?_
    refine tm_n 2 (F' := (132, [(6, .inl s0), (2, .inl x2), (3, .inl x3), (4, .inr (.inl x4))], [.inl (1 : Int32), .inl x3])) rfl ?_
    by_cases c3 : x3 = (1 : Int32)
    · rw [if_pos c3] at hr
      refine tm_icF rfl (fun q => q c3) ?_
      refine tm_n 2 (F' := (137, [(6, .inl s0), (2, .inl x2), (3, .inl x3), (4, .inr (.inl x4))], [.inl (1 : Int32), .inl x2])) rfl ?_
      by_cases c2 : x2 < (1 : Int32)
      · rw [if_pos c2] at hr
        refine tm_icT rfl c2 ?_
        refine tm_cut (a := [(2, .inl x2), (4, .inr (.inl x4)), (6, .inl s0)]) rfl (tm_sbs [1, 3, 0] rfl) ?_
        exact l155_149_t hr
      · rw [if_neg c2] at hr
        refine tm_icF rfl c2 ?_
        refine tm_n 2 (F' := (142, [(6, .inl s0), (2, .inl x2), (3, .inl x3), (4, .inr (.inl x4))], [.inl (4 : Int32), .inl x2])) rfl ?_
        by_cases c1 : (4 : Int32) < x2
        · rw [if_pos c1] at hr
          refine tm_icT rfl c1 ?_
          refine tm_cut (a := [(2, .inl x2), (4, .inr (.inl x4)), (6, .inl s0)]) rfl (tm_sbs [1, 3, 0] rfl) ?_
          exact l155_149_t hr
        · rw [if_neg c1] at hr
          refine tm_icF rfl c1 ?_
          refine tm_cut (a := [(2, .inl x2), (4, .inr (.inl x4)), (6, .inl s0)]) rfl (tm_sbs [1, 3, 0] rfl) ?_
          exact l155_145_t hr
    · rw [if_neg c3] at hr
      refine tm_icT rfl c3 ?_
      refine tm_cut (a := [(2, .inl x2), (4, .inr (.inl x4)), (6, .inl s0)]) rfl (tm_sbs [1, 3, 0] rfl) ?_
      exact l155_149_t hr
set_option maxRecDepth 20000 in
def l155_123 (w : Option Nat) (x2 : Int32) (x3 : Int32) (x4 : Int64) (h : pm_H) : tm_L := l155_124 w x2 x3 x4 (0 : Int32) h
set_option maxRecDepth 20000 in
theorem l155_123_t {w : Option Nat} {d : Nat} {x2 : Int32} {x3 : Int32} {x4 : Int64} {h : pm_H} {r : tm_O × pm_H} (hr : l155_123 w x2 x3 x4 h = some r) : pm_to pt_P (pt_G (tm_r w)) (d + 4) (pt_g155, []) (tm_m (123, [(2, .inl x2), (3, .inl x3), (4, .inr (.inl x4))], [])) h (tm_e r) := by
  unfold l155_123 at hr
  refine tm_n 1 (F' := (124, [(2, .inl x2), (3, .inl x3), (4, .inr (.inl x4))], [.inl (0 : Int32)])) rfl ?_
  refine tm_cut (a := [(2, .inl x2), (3, .inl x3), (4, .inr (.inl x4))]) rfl (tm_sbs [0, 1, 2] rfl) ?_
  exact l155_124_t hr
set_option maxRecDepth 20000 in
def l155_102 (w : Option Nat) (K20 : Option Nat → Int32 → Int32 → Int32 → Int64 → Int32 → pm_H → tm_L) (x0 : Option Nat) (x1 : Int32) (x2 : Int32) (x3 : Int32) (x4 : Int64) (x6 : Int32) (h : pm_H) : tm_L := K20 x0 x1 x2 x3 x4 (x6 + (1 : Int32)) h
set_option maxRecDepth 20000 in
theorem l155_102_t {w : Option Nat} {d : Nat} {K20 : Option Nat → Int32 → Int32 → Int32 → Int64 → Int32 → pm_H → tm_L} (hK20 : ∀ {x0 : Option Nat} {x1 : Int32} {x2 : Int32} {x3 : Int32} {x4 : Int64} {x6 : Int32}  {h : pm_H} {r : tm_O × pm_H}, K20 x0 x1 x2 x3 x4 x6 h = some r → pm_to pt_P (pt_G (tm_r w)) (d + 4) (pt_g155, []) (tm_m (20, [(0, .inr (.inr x0)), (1, .inl x1), (2, .inl x2), (3, .inl x3), (4, .inr (.inl x4)), (6, .inl x6)], [])) h (tm_e r)) {x0 : Option Nat} {x1 : Int32} {x2 : Int32} {x3 : Int32} {x4 : Int64} {x6 : Int32} {h : pm_H} {r : tm_O × pm_H} (hr : l155_102 w K20 x0 x1 x2 x3 x4 x6 h = some r) : pm_to pt_P (pt_G (tm_r w)) (d + 4) (pt_g155, []) (tm_m (102, [(0, .inr (.inr x0)), (1, .inl x1), (2, .inl x2), (3, .inl x3), (4, .inr (.inl x4)), (6, .inl x6)], [])) h (tm_e r) := by
  unfold l155_102 at hr
  refine tm_n 2 (F' := (20, [(6, .inl (x6 + (1 : Int32))), (0, .inr (.inr x0)), (1, .inl x1), (2, .inl x2), (3, .inl x3), (4, .inr (.inl x4))], [])) rfl ?_
  refine tm_cut (a := [(0, .inr (.inr x0)), (1, .inl x1), (2, .inl x2), (3, .inl x3), (4, .inr (.inl x4)), (6, .inl (x6 + (1 : Int32)))]) rfl (tm_sbs [1, 2, 3, 4, 5, 0] rfl) ?_
  exact hK20 hr
set_option maxRecDepth 20000 in
def l155_100 (w : Option Nat) (K20 : Option Nat → Int32 → Int32 → Int32 → Int64 → Int32 → pm_H → tm_L) (x0 : Option Nat) (x1 : Int32) (x3 : Int32) (x4 : Int64) (x6 : Int32) (s0 : Int32) (s1 : Int32) (h : pm_H) : tm_L := l155_102 w K20 x0 x1 (s1 + s0) x3 x4 x6 h
set_option maxRecDepth 20000 in
theorem l155_100_t {w : Option Nat} {d : Nat} {K20 : Option Nat → Int32 → Int32 → Int32 → Int64 → Int32 → pm_H → tm_L} (hK20 : ∀ {x0 : Option Nat} {x1 : Int32} {x2 : Int32} {x3 : Int32} {x4 : Int64} {x6 : Int32}  {h : pm_H} {r : tm_O × pm_H}, K20 x0 x1 x2 x3 x4 x6 h = some r → pm_to pt_P (pt_G (tm_r w)) (d + 4) (pt_g155, []) (tm_m (20, [(0, .inr (.inr x0)), (1, .inl x1), (2, .inl x2), (3, .inl x3), (4, .inr (.inl x4)), (6, .inl x6)], [])) h (tm_e r)) {x0 : Option Nat} {x1 : Int32} {x3 : Int32} {x4 : Int64} {x6 : Int32} {s0 : Int32} {s1 : Int32} {h : pm_H} {r : tm_O × pm_H} (hr : l155_100 w K20 x0 x1 x3 x4 x6 s0 s1 h = some r) : pm_to pt_P (pt_G (tm_r w)) (d + 4) (pt_g155, []) (tm_m (100, [(0, .inr (.inr x0)), (1, .inl x1), (3, .inl x3), (4, .inr (.inl x4)), (6, .inl x6)], [.inl s0, .inl s1])) h (tm_e r) := by
  unfold l155_100 at hr
  refine tm_n 2 (F' := (102, [(2, .inl (s1 + s0)), (0, .inr (.inr x0)), (1, .inl x1), (3, .inl x3), (4, .inr (.inl x4)), (6, .inl x6)], [])) rfl ?_
  refine tm_cut (a := [(0, .inr (.inr x0)), (1, .inl x1), (2, .inl (s1 + s0)), (3, .inl x3), (4, .inr (.inl x4)), (6, .inl x6)]) rfl (tm_sbs [1, 2, 0, 3, 4, 5] rfl) ?_
  exact l155_102_t hK20 hr
set_option maxRecDepth 20000 in
def l155_88 (w : Option Nat) (K20 : Option Nat → Int32 → Int32 → Int32 → Int64 → Int32 → pm_H → tm_L) (x0 : Option Nat) (x2 : Int32) (x3 : Int32) (x4 : Int64) (x6 : Int32) (s0 : Int32) (s1 : Int32) (h : pm_H) : tm_L := if x3 = (0 : Int32) then l155_100 w K20 x0 (s1 + s0) x3 x4 x6 (0 : Int32) x2 h else l155_100 w K20 x0 (s1 + s0) x3 x4 x6 (1 : Int32) x2 h
set_option maxRecDepth 20000 in
theorem l155_88_t {w : Option Nat} {d : Nat} {K20 : Option Nat → Int32 → Int32 → Int32 → Int64 → Int32 → pm_H → tm_L} (hK20 : ∀ {x0 : Option Nat} {x1 : Int32} {x2 : Int32} {x3 : Int32} {x4 : Int64} {x6 : Int32}  {h : pm_H} {r : tm_O × pm_H}, K20 x0 x1 x2 x3 x4 x6 h = some r → pm_to pt_P (pt_G (tm_r w)) (d + 4) (pt_g155, []) (tm_m (20, [(0, .inr (.inr x0)), (1, .inl x1), (2, .inl x2), (3, .inl x3), (4, .inr (.inl x4)), (6, .inl x6)], [])) h (tm_e r)) {x0 : Option Nat} {x2 : Int32} {x3 : Int32} {x4 : Int64} {x6 : Int32} {s0 : Int32} {s1 : Int32} {h : pm_H} {r : tm_O × pm_H} (hr : l155_88 w K20 x0 x2 x3 x4 x6 s0 s1 h = some r) : pm_to pt_P (pt_G (tm_r w)) (d + 4) (pt_g155, []) (tm_m (88, [(0, .inr (.inr x0)), (2, .inl x2), (3, .inl x3), (4, .inr (.inl x4)), (6, .inl x6)], [.inl s0, .inl s1])) h (tm_e r) := by
  unfold l155_88 at hr
  refine tm_n 4 (F' := (92, [(1, .inl (s1 + s0)), (0, .inr (.inr x0)), (2, .inl x2), (3, .inl x3), (4, .inr (.inl x4)), (6, .inl x6)], [.inl x3, .inl x2])) rfl ?_
  by_cases c1 : x3 = (0 : Int32)
  · rw [if_pos c1] at hr
    refine tm_ifF rfl (fun q => q c1) ?_
    refine tm_n 2 (F' := (100, [(1, .inl (s1 + s0)), (0, .inr (.inr x0)), (2, .inl x2), (3, .inl x3), (4, .inr (.inl x4)), (6, .inl x6)], [.inl (0 : Int32), .inl x2])) rfl ?_
    refine tm_cut (a := [(0, .inr (.inr x0)), (1, .inl (s1 + s0)), (3, .inl x3), (4, .inr (.inl x4)), (6, .inl x6)]) rfl (tm_sbs [1, 0, 3, 4, 5] rfl) ?_
    exact l155_100_t hK20 hr
  · rw [if_neg c1] at hr
    refine tm_ifT rfl c1 ?_
    refine tm_n 1 (F' := (100, [(1, .inl (s1 + s0)), (0, .inr (.inr x0)), (2, .inl x2), (3, .inl x3), (4, .inr (.inl x4)), (6, .inl x6)], [.inl (1 : Int32), .inl x2])) rfl ?_
    refine tm_cut (a := [(0, .inr (.inr x0)), (1, .inl (s1 + s0)), (3, .inl x3), (4, .inr (.inl x4)), (6, .inl x6)]) rfl (tm_sbs [1, 0, 3, 4, 5] rfl) ?_
    exact l155_100_t hK20 hr
set_option maxRecDepth 20000 in
def l155_20 (w : Option Nat) : Nat → Option Nat → Int32 → Int32 → Int32 → Int64 → Int32 → pm_H → tm_L
  | 0 => fun _ _ _ _ _ _ _ => none
  | n + 1 => fun x0 x1 x2 x3 x4 x6 h => (lf_R h x0 [1, 1]).bind fun v1 => (lf_I h x0 [1, 3]).bind fun v2 => (la_I h .iaload v1 (v2 + (1 : Int32))).bind fun v3 => if v3 ≤ x6 then if x1 < (1 : Int32) then l155_123 w x2 x3 x4 h else if (6 : Int32) < x1 then l155_123 w x2 x3 x4 h else l155_124 w x2 x3 x4 (1 : Int32) h else (lf_R h x0 [1, 0]).bind fun v6 => if lc_of h v6 = some 11 then lb_I (ll_134 w v6 x6 h) (fun v8 h9 => if v8 = (46 : Int32) then l155_102 w (l155_20 w n) x0 x1 x2 (x3 + (1 : Int32)) x4 x6 h9 else (lf_R h9 x0 [1, 0]).bind fun v11 => if lc_of h9 v11 = some 11 then lb_I (ll_134 w v11 x6 h9) (fun v13 h14 => if x3 = (0 : Int32) then l155_88 w (l155_20 w n) x0 x2 x3 ((x4 * (10 : Int64)) + (Int32.toInt64 (v13 - (48 : Int32)))) x6 (1 : Int32) x1 h14 else l155_88 w (l155_20 w n) x0 x2 x3 ((x4 * (10 : Int64)) + (Int32.toInt64 (v13 - (48 : Int32)))) x6 (0 : Int32) x1 h14) else none) else none
set_option maxRecDepth 20000 in
theorem l155_20_t {w : Option Nat} {d : Nat} : ∀ (n : Nat) {x0 : Option Nat} {x1 : Int32} {x2 : Int32} {x3 : Int32} {x4 : Int64} {x6 : Int32} {h : pm_H} {r : tm_O × pm_H}, l155_20 w n x0 x1 x2 x3 x4 x6 h = some r → pm_to pt_P (pt_G (tm_r w)) (d + 4) (pt_g155, []) (tm_m (20, [(0, .inr (.inr x0)), (1, .inl x1), (2, .inl x2), (3, .inl x3), (4, .inr (.inl x4)), (6, .inl x6)], [])) h (tm_e r) := by
  intro n
  induction n with
  | zero => intro x0 x1 x2 x3 x4 x6 h r hr; cases hr
  | succ n ih =>
    intro x0 x1 x2 x3 x4 x6 h r hr
    unfold l155_20 at hr
    refine tm_n 2 (F' := (23, [(0, .inr (.inr x0)), (1, .inl x1), (2, .inl x2), (3, .inl x3), (4, .inr (.inl x4)), (6, .inl x6)], [.inr (.inr x0), .inl x6])) rfl ?_
    obtain ⟨v1, qv1, hr⟩ := Option.bind_eq_some_iff.mp hr
    refine tm_getf rfl (lf_R_V qv1) ?_
    refine tm_n 1 (F' := (27, [(0, .inr (.inr x0)), (1, .inl x1), (2, .inl x2), (3, .inl x3), (4, .inr (.inl x4)), (6, .inl x6)], [.inr (.inr x0), .inr (.inr v1), .inl x6])) rfl ?_
    obtain ⟨v2, qv2, hr⟩ := Option.bind_eq_some_iff.mp hr
    refine tm_getf rfl (lf_I_V qv2) ?_
    refine tm_n 2 (F' := (32, [(0, .inr (.inr x0)), (1, .inl x1), (2, .inl x2), (3, .inl x3), (4, .inr (.inl x4)), (6, .inl x6)], [.inl (v2 + (1 : Int32)), .inr (.inr v1), .inl x6])) rfl ?_
    obtain ⟨v3, qv3, hr⟩ := Option.bind_eq_some_iff.mp hr
    refine tm_ald rfl rfl (la_I_V qv3) ?_
    by_cases c22 : v3 ≤ x6
    · rw [if_pos c22] at hr
      refine tm_icT rfl c22 ?_
      refine tm_n 2 (F' := (110, [(0, .inr (.inr x0)), (1, .inl x1), (2, .inl x2), (3, .inl x3), (4, .inr (.inl x4)), (6, .inl x6)], [.inl (1 : Int32), .inl x1])) rfl ?_
      by_cases c5 : x1 < (1 : Int32)
      · rw [if_pos c5] at hr
        refine tm_icT rfl c5 ?_
        refine tm_cut (a := [(2, .inl x2), (3, .inl x3), (4, .inr (.inl x4))]) rfl (tm_sbs [2, 3, 4] rfl) ?_
        exact l155_123_t hr
      · rw [if_neg c5] at hr
        refine tm_icF rfl c5 ?_
        refine tm_n 2 (F' := (116, [(0, .inr (.inr x0)), (1, .inl x1), (2, .inl x2), (3, .inl x3), (4, .inr (.inl x4)), (6, .inl x6)], [.inl (6 : Int32), .inl x1])) rfl ?_
        by_cases c4 : (6 : Int32) < x1
        · rw [if_pos c4] at hr
          refine tm_icT rfl c4 ?_
          refine tm_cut (a := [(2, .inl x2), (3, .inl x3), (4, .inr (.inl x4))]) rfl (tm_sbs [2, 3, 4] rfl) ?_
          exact l155_123_t hr
        · rw [if_neg c4] at hr
          refine tm_icF rfl c4 ?_
          refine tm_n 2 (F' := (124, [(0, .inr (.inr x0)), (1, .inl x1), (2, .inl x2), (3, .inl x3), (4, .inr (.inl x4)), (6, .inl x6)], [.inl (1 : Int32)])) rfl ?_
          refine tm_cut (a := [(2, .inl x2), (3, .inl x3), (4, .inr (.inl x4))]) rfl (tm_sbs [2, 3, 4] rfl) ?_
          exact l155_124_t hr
    · rw [if_neg c22] at hr
      refine tm_icF rfl c22 ?_
      refine tm_n 1 (F' := (37, [(0, .inr (.inr x0)), (1, .inl x1), (2, .inl x2), (3, .inl x3), (4, .inr (.inl x4)), (6, .inl x6)], [.inr (.inr x0)])) rfl ?_
      obtain ⟨v6, qv6, hr⟩ := Option.bind_eq_some_iff.mp hr
      refine tm_getf rfl (lf_R_V qv6) ?_
      refine tm_n 1 (F' := (42, [(0, .inr (.inr x0)), (1, .inl x1), (2, .inl x2), (3, .inl x3), (4, .inr (.inl x4)), (6, .inl x6)], [.inl x6, .inr (.inr v6)])) rfl ?_
      by_cases c7 : lc_of h v6 = some 11
      · rw [if_pos c7] at hr
        rcases lb_I_s hr with ⟨v8, h9, m10, hr⟩ | ⟨a20, h9, z21, z21l, m10, qz21, rfl⟩
        · try dsimp only at hr
          refine tm_call rfl rfl (tm_callV rfl rfl c7 rfl rfl) (lq_134 m10) ?_
          refine tm_n 1 (F' := (47, [(0, .inr (.inr x0)), (1, .inl x1), (2, .inl x2), (3, .inl x3), (4, .inr (.inl x4)), (6, .inl x6)], [.inl (46 : Int32), .inl v8])) rfl ?_
          by_cases c19 : v8 = (46 : Int32)
          · rw [if_pos c19] at hr
            refine tm_icF rfl (fun q => q c19) ?_
            refine tm_n 2 (F' := (102, [(3, .inl (x3 + (1 : Int32))), (0, .inr (.inr x0)), (1, .inl x1), (2, .inl x2), (4, .inr (.inl x4)), (6, .inl x6)], [])) rfl ?_
            refine tm_cut (a := [(0, .inr (.inr x0)), (1, .inl x1), (2, .inl x2), (3, .inl (x3 + (1 : Int32))), (4, .inr (.inl x4)), (6, .inl x6)]) rfl (tm_sbs [1, 2, 3, 0, 4, 5] rfl) ?_
            exact l155_102_t (fun hr => ih hr) hr
          · rw [if_neg c19] at hr
            refine tm_icT rfl c19 ?_
            refine tm_n 4 (F' := (63, [(0, .inr (.inr x0)), (1, .inl x1), (2, .inl x2), (3, .inl x3), (4, .inr (.inl x4)), (6, .inl x6)], [.inr (.inr x0), .inr (.inl (x4 * (10 : Int64)))])) rfl ?_
            obtain ⟨v11, qv11, hr⟩ := Option.bind_eq_some_iff.mp hr
            refine tm_getf rfl (lf_R_V qv11) ?_
            refine tm_n 1 (F' := (68, [(0, .inr (.inr x0)), (1, .inl x1), (2, .inl x2), (3, .inl x3), (4, .inr (.inl x4)), (6, .inl x6)], [.inl x6, .inr (.inr v11), .inr (.inl (x4 * (10 : Int64)))])) rfl ?_
            by_cases c12 : lc_of h9 v11 = some 11
            · rw [if_pos c12] at hr
              rcases lb_I_s hr with ⟨v13, h14, m15, hr⟩ | ⟨a17, h14, z18, z18l, m15, qz18, rfl⟩
              · try dsimp only at hr
                refine tm_call rfl rfl (tm_callV rfl rfl c12 rfl rfl) (lq_134 m15) ?_
                refine tm_n 7 (F' := (80, [(4, .inr (.inl ((x4 * (10 : Int64)) + (Int32.toInt64 (v13 - (48 : Int32)))))), (0, .inr (.inr x0)), (1, .inl x1), (2, .inl x2), (3, .inl x3), (6, .inl x6)], [.inl x3, .inl x1])) rfl ?_
                by_cases c16 : x3 = (0 : Int32)
                · rw [if_pos c16] at hr
                  refine tm_ifF rfl (fun q => q c16) ?_
                  refine tm_n 2 (F' := (88, [(4, .inr (.inl ((x4 * (10 : Int64)) + (Int32.toInt64 (v13 - (48 : Int32)))))), (0, .inr (.inr x0)), (1, .inl x1), (2, .inl x2), (3, .inl x3), (6, .inl x6)], [.inl (1 : Int32), .inl x1])) rfl ?_
                  refine tm_cut (a := [(0, .inr (.inr x0)), (2, .inl x2), (3, .inl x3), (4, .inr (.inl ((x4 * (10 : Int64)) + (Int32.toInt64 (v13 - (48 : Int32)))))), (6, .inl x6)]) rfl (tm_sbs [1, 3, 4, 0, 5] rfl) ?_
                  exact l155_88_t (fun hr => ih hr) hr
                · rw [if_neg c16] at hr
                  refine tm_ifT rfl c16 ?_
                  refine tm_n 1 (F' := (88, [(4, .inr (.inl ((x4 * (10 : Int64)) + (Int32.toInt64 (v13 - (48 : Int32)))))), (0, .inr (.inr x0)), (1, .inl x1), (2, .inl x2), (3, .inl x3), (6, .inl x6)], [.inl (0 : Int32), .inl x1])) rfl ?_
                  refine tm_cut (a := [(0, .inr (.inr x0)), (2, .inl x2), (3, .inl x3), (4, .inr (.inl ((x4 * (10 : Int64)) + (Int32.toInt64 (v13 - (48 : Int32)))))), (6, .inl x6)]) rfl (tm_sbs [1, 3, 4, 0, 5] rfl) ?_
                  exact l155_88_t (fun hr => ih hr) hr
              · exact tm_callT rfl rfl (tm_callV rfl rfl c12 rfl rfl) (lq_134 m15) qz18 rfl
            · rw [if_neg c12] at hr
              cases hr
        · exact tm_callT rfl rfl (tm_callV rfl rfl c7 rfl rfl) (lq_134 m10) qz21 rfl
      · rw [if_neg c7] at hr
        cases hr
set_option maxRecDepth 20000 in
def ll_155 (w : Option Nat) (a0 : Option Nat) (h : pm_H) : tm_L := (lf_R h a0 [1, 1]).bind fun v1 => (lf_I h a0 [1, 3]).bind fun v2 => (la_I h .iaload v1 v2).bind fun v3 => l155_20 w lf_N a0 (0 : Int32) (0 : Int32) (0 : Int32) (0 : Int64) v3 h
set_option maxRecDepth 20000 in
theorem lq_155 {w : Option Nat} {d : Nat} {a0 : Option Nat} {h : pm_H} {r : tm_O × pm_H} (hr : ll_155 w a0 h = some r) : tm_run pt_P (pt_G (tm_r w)) (d + 4) 155 [.inr (.inr a0)] h r := by
  unfold ll_155 at hr
  show pm_to pt_P (pt_G (tm_r w)) (d + 4) (pt_g155, []) (tm_m (0, [(0, .inr (.inr a0))], [])) h (tm_e r)
  refine tm_n 9 (F' := (10, [(4, .inr (.inl (0 : Int64))), (3, .inl (0 : Int32)), (2, .inl (0 : Int32)), (1, .inl (0 : Int32)), (0, .inr (.inr a0))], [.inr (.inr a0)])) rfl ?_
  obtain ⟨v1, qv1, hr⟩ := Option.bind_eq_some_iff.mp hr
  refine tm_getf rfl (lf_R_V qv1) ?_
  refine tm_n 1 (F' := (14, [(4, .inr (.inl (0 : Int64))), (3, .inl (0 : Int32)), (2, .inl (0 : Int32)), (1, .inl (0 : Int32)), (0, .inr (.inr a0))], [.inr (.inr a0), .inr (.inr v1)])) rfl ?_
  obtain ⟨v2, qv2, hr⟩ := Option.bind_eq_some_iff.mp hr
  refine tm_getf rfl (lf_I_V qv2) ?_
  obtain ⟨v3, qv3, hr⟩ := Option.bind_eq_some_iff.mp hr
  refine tm_ald rfl rfl (la_I_V qv3) ?_
  refine tm_n 1 (F' := (20, [(6, .inl v3), (4, .inr (.inl (0 : Int64))), (3, .inl (0 : Int32)), (2, .inl (0 : Int32)), (1, .inl (0 : Int32)), (0, .inr (.inr a0))], [])) rfl ?_
  refine tm_cut (a := [(0, .inr (.inr a0)), (1, .inl (0 : Int32)), (2, .inl (0 : Int32)), (3, .inl (0 : Int32)), (4, .inr (.inl (0 : Int64))), (6, .inl v3)]) rfl (tm_sbs [5, 4, 3, 2, 1, 0] rfl) ?_
  exact l155_20_t lf_N hr
