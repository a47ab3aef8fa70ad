/-! lifted: 170, 169, 168, 175, 174, 179, 178, 177, 176, 181, 180, 183, 182, 190, 189, 192, 191, 188, 195, 196, 197, 194, 198, 201, 200, 202, 203, 199 -/
-- OfficeSheet$Office.receive(LOfficeSheet$Act;)I
set_option maxRecDepth 20000 in
def ll_170 (w : Option Nat) (a0 : Option Nat) (a1 : Option Nat) (h : pm_H) : tm_L := (lf_I h a1 [7, 1]).bind fun v1 => (lf_I h a1 [7, 2]).bind fun v2 => lb_I (ll_95 v1 v2 h) (fun v3 h4 => (lf_R h4 a0 [4, 2]).bind fun v6 => (la_R h4 .aaload v6 v3).bind fun v7 => match v7 with | none => ((lf_R h4 a0 [4, 2]).bind fun v9 => (la_S pt_P h4 .aastore v9 v3 (.inr (.inr a1))).bind fun h10 => if lc_of h10 a0 = some 4 then lb_I (ll_171 a0 a1 h10) (fun v12 h13 => if v12 = (0 : Int32) then some (.inl (some (.inl (2 : Int32))), h13) else if lc_of h13 a0 = some 4 then lb_V (ll_100 w a0 a1 h13) (fun h17 => if lc_of h17 a0 = some 4 then lb_V (ll_172 w a0 h17) (fun h21 => some (.inl (some (.inl (1 : Int32))), h21)) else none) else none) else none) | some a8 => (some (.inl (some (.inl (0 : Int32))), h4)))
set_option maxRecDepth 20000 in
theorem lq_170 {w : Option Nat} {d : Nat} {a0 : Option Nat} {a1 : Option Nat} {h : pm_H} {r : tm_O × pm_H} (hr : ll_170 w a0 a1 h = some r) : tm_run pt_P (pt_G (tm_r w)) (d + 17) 170 [.inr (.inr a0), .inr (.inr a1)] h r := by
  unfold ll_170 at hr
  show pm_to pt_P (pt_G (tm_r w)) (d + 17) (pt_g170, []) (tm_m (0, [(0, .inr (.inr a0)), (1, .inr (.inr a1))], [])) h (tm_e r)
  refine tm_n 1 (F' := (1, [(0, .inr (.inr a0)), (1, .inr (.inr a1))], [.inr (.inr a1)])) rfl ?_
  obtain ⟨v1, qv1, hr⟩ := Option.bind_eq_some_iff.mp hr
  refine tm_getf rfl (lf_I_V qv1) ?_
  refine tm_n 1 (F' := (5, [(0, .inr (.inr a0)), (1, .inr (.inr a1))], [.inr (.inr a1), .inl v1])) rfl ?_
  obtain ⟨v2, qv2, hr⟩ := Option.bind_eq_some_iff.mp hr
  refine tm_getf rfl (lf_I_V qv2) ?_
  rcases lb_I_s hr with ⟨v3, h4, m5, hr⟩ | ⟨a30, h4, z31, z31l, m5, qz31, rfl⟩
  · try dsimp only at hr
    refine tm_call rfl rfl (tm_callS rfl rfl) (lq_95 m5) ?_
    refine tm_n 2 (F' := (13, [(2, .inl v3), (0, .inr (.inr a0)), (1, .inr (.inr a1))], [.inr (.inr a0)])) rfl ?_
    obtain ⟨v6, qv6, hr⟩ := Option.bind_eq_some_iff.mp hr
    refine tm_getf rfl (lf_R_V qv6) ?_
    refine tm_n 1 (F' := (17, [(2, .inl v3), (0, .inr (.inr a0)), (1, .inr (.inr a1))], [.inl v3, .inr (.inr v6)])) rfl ?_
    obtain ⟨v7, qv7, hr⟩ := Option.bind_eq_some_iff.mp hr
    refine tm_ald rfl rfl (la_R_V qv7) ?_
    cases v7 with
    | none =>
      try dsimp only at hr
      refine tm_nuT rfl ?_
      refine tm_n 1 (F' := (24, [(2, .inl v3), (0, .inr (.inr a0)), (1, .inr (.inr a1))], [.inr (.inr a0)])) rfl ?_
      obtain ⟨v9, qv9, hr⟩ := Option.bind_eq_some_iff.mp hr
      refine tm_getf rfl (lf_R_V qv9) ?_
      refine tm_n 2 (F' := (29, [(2, .inl v3), (0, .inr (.inr a0)), (1, .inr (.inr a1))], [.inr (.inr a1), .inl v3, .inr (.inr v9)])) rfl ?_
      obtain ⟨h10, qh10, hr⟩ := Option.bind_eq_some_iff.mp hr
      refine tm_ast rfl rfl qh10 ?_
      refine tm_n 2 (F' := (32, [(2, .inl v3), (0, .inr (.inr a0)), (1, .inr (.inr a1))], [.inr (.inr a1), .inr (.inr a0)])) rfl ?_
      by_cases c11 : lc_of h10 a0 = some 4
      · rw [if_pos c11] at hr
        rcases lb_I_s hr with ⟨v12, h13, m14, hr⟩ | ⟨a28, h13, z29, z29l, m14, qz29, rfl⟩
        · try dsimp only at hr
          refine tm_call rfl rfl (tm_callV rfl rfl c11 rfl rfl) (lq_171 m14) ?_
          by_cases c27 : v12 = (0 : Int32)
          · rw [if_pos c27] at hr
            refine tm_ifF rfl (fun q => q c27) ?_
            refine tm_n 1 (F' := (39, [(2, .inl v3), (0, .inr (.inr a0)), (1, .inr (.inr a1))], [.inl (2 : Int32)])) rfl ?_
            cases hr
            exact tm_retI rfl rfl
          · rw [if_neg c27] at hr
            refine tm_ifT rfl c27 ?_
            refine tm_n 2 (F' := (42, [(2, .inl v3), (0, .inr (.inr a0)), (1, .inr (.inr a1))], [.inr (.inr a1), .inr (.inr a0)])) rfl ?_
            by_cases c15 : lc_of h13 a0 = some 4
            · rw [if_pos c15] at hr
              rcases lb_V_s hr with ⟨h17, m18, hr⟩ | ⟨a25, h17, z26, z26l, m18, qz26, rfl⟩
              · try dsimp only at hr
                refine tm_call rfl rfl (tm_callV rfl rfl c15 rfl rfl) (lq_100 m18) ?_
                refine tm_n 1 (F' := (46, [(2, .inl v3), (0, .inr (.inr a0)), (1, .inr (.inr a1))], [.inr (.inr a0)])) rfl ?_
                by_cases c19 : lc_of h17 a0 = some 4
                · rw [if_pos c19] at hr
                  rcases lb_V_s hr with ⟨h21, m22, hr⟩ | ⟨a23, h21, z24, z24l, m22, qz24, rfl⟩
                  · try dsimp only at hr
                    refine tm_call rfl rfl (tm_callV rfl rfl c19 rfl rfl) (lq_172 m22) ?_
                    refine tm_n 1 (F' := (50, [(2, .inl v3), (0, .inr (.inr a0)), (1, .inr (.inr a1))], [.inl (1 : Int32)])) rfl ?_
                    cases hr
                    exact tm_retI rfl rfl
                  · exact tm_callT rfl rfl (tm_callV rfl rfl c19 rfl rfl) (lq_172 m22) qz24 rfl
                · rw [if_neg c19] at hr
                  cases hr
              · exact tm_callT rfl rfl (tm_callV rfl rfl c15 rfl rfl) (lq_100 m18) qz26 rfl
            · rw [if_neg c15] at hr
              cases hr
        · exact tm_callT rfl rfl (tm_callV rfl rfl c11 rfl rfl) (lq_171 m14) qz29 rfl
      · rw [if_neg c11] at hr
        cases hr
    | some a8 =>
      try dsimp only at hr
      refine tm_nuF rfl ?_
      refine tm_n 1 (F' := (22, [(2, .inl v3), (0, .inr (.inr a0)), (1, .inr (.inr a1))], [.inl (0 : Int32)])) rfl ?_
      cases hr
      exact tm_retI rfl rfl
  · exact tm_callT rfl rfl (tm_callS rfl rfl) (lq_95 m5) qz31 rfl
-- OfficeSheet.deliver(III)I
set_option maxRecDepth 20000 in
def ll_169 (w : Option Nat) (a0 : Option Nat) (a1 : Int32) (a2 : Int32) (a3 : Int32) (h : pm_H) : tm_L := if lc_of h a0 = some 0 then lb_R (ll_81 a0 a1 h) (fun v2 h3 => if lc_of h3 a0 = some 0 then lb_R (ll_81 a0 a2 h3) (fun v6 h7 => if a1 = a2 then some (.inr h7.1.length, lf_new h7 14 6 []) else if a3 < (1 : Int32) then some (.inr h7.1.length, lf_new h7 14 6 []) else if lc_of h7 v6 = some 4 then lb_I (ll_92 v6 h7) (fun v10 h11 => if a3 ≤ v10 then (lf_R h11 v6 [4, 2]).bind fun v13 => lb_I (ll_95 a2 a3 h11) (fun v14 h15 => (la_R h15 .aaload v13 v14).bind fun v17 => if lc_of h15 v2 = some 4 then lb_I (ll_170 w v2 v17 h15) (fun v19 h20 => some (.inl (some (.inl v19)), h20)) else none) else some (.inr h11.1.length, lf_new h11 14 6 [])) else none) else none) else none
set_option maxRecDepth 20000 in
theorem lq_169 {w : Option Nat} {d : Nat} {a0 : Option Nat} {a1 : Int32} {a2 : Int32} {a3 : Int32} {h : pm_H} {r : tm_O × pm_H} (hr : ll_169 w a0 a1 a2 a3 h = some r) : tm_run pt_P (pt_G (tm_r w)) (d + 18) 169 [.inr (.inr a0), .inl a1, .inl a2, .inl a3] h r := by
  unfold ll_169 at hr
  show pm_to pt_P (pt_G (tm_r w)) (d + 18) (pt_g169, []) (tm_m (0, [(0, .inr (.inr a0)), (1, .inl a1), (2, .inl a2), (3, .inl a3)], [])) h (tm_e r)
  refine tm_n 2 (F' := (2, [(0, .inr (.inr a0)), (1, .inl a1), (2, .inl a2), (3, .inl a3)], [.inl a1, .inr (.inr a0)])) rfl ?_
  by_cases c1 : lc_of h a0 = some 0
  · rw [if_pos c1] at hr
    rcases lb_R_s hr with ⟨v2, h3, m4, hr⟩ | ⟨a33, h3, z34, z34l, m4, qz34, rfl⟩
    · try dsimp only at hr
      refine tm_call rfl rfl (tm_callV rfl rfl c1 rfl rfl) (lq_81 m4) ?_
      refine tm_n 3 (F' := (9, [(4, .inr (.inr v2)), (0, .inr (.inr a0)), (1, .inl a1), (2, .inl a2), (3, .inl a3)], [.inl a2, .inr (.inr a0)])) rfl ?_
      by_cases c5 : lc_of h3 a0 = some 0
      · rw [if_pos c5] at hr
        rcases lb_R_s hr with ⟨v6, h7, m8, hr⟩ | ⟨a31, h7, z32, z32l, m8, qz32, rfl⟩
        · try dsimp only at hr
          refine tm_call rfl rfl (tm_callV rfl rfl c5 rfl rfl) (lq_81 m8) ?_
          refine tm_n 3 (F' := (16, [(5, .inr (.inr v6)), (4, .inr (.inr v2)), (0, .inr (.inr a0)), (1, .inl a1), (2, .inl a2), (3, .inl a3)], [.inl a2, .inl a1])) rfl ?_
          by_cases c30 : a1 = a2
          · rw [if_pos c30] at hr
            refine tm_icT rfl c30 ?_
            cases hr
            exact tm_thr rfl
          · rw [if_neg c30] at hr
            refine tm_icF rfl c30 ?_
            refine tm_n 2 (F' := (21, [(5, .inr (.inr v6)), (4, .inr (.inr v2)), (0, .inr (.inr a0)), (1, .inl a1), (2, .inl a2), (3, .inl a3)], [.inl (1 : Int32), .inl a3])) rfl ?_
            by_cases c29 : a3 < (1 : Int32)
            · rw [if_pos c29] at hr
              refine tm_icT rfl c29 ?_
              cases hr
              exact tm_thr rfl
            · rw [if_neg c29] at hr
              refine tm_icF rfl c29 ?_
              refine tm_n 2 (F' := (27, [(5, .inr (.inr v6)), (4, .inr (.inr v2)), (0, .inr (.inr a0)), (1, .inl a1), (2, .inl a2), (3, .inl a3)], [.inr (.inr v6), .inl a3])) rfl ?_
              by_cases c9 : lc_of h7 v6 = some 4
              · rw [if_pos c9] at hr
                rcases lb_I_s hr with ⟨v10, h11, m12, hr⟩ | ⟨a27, h11, z28, z28l, m12, qz28, rfl⟩
                · try dsimp only at hr
                  refine tm_call rfl rfl (tm_callV rfl rfl c9 rfl rfl) (lq_92 m12) ?_
                  by_cases c26 : a3 ≤ v10
                  · rw [if_pos c26] at hr
                    refine tm_icT rfl c26 ?_
                    refine tm_n 2 (F' := (47, [(5, .inr (.inr v6)), (4, .inr (.inr v2)), (0, .inr (.inr a0)), (1, .inl a1), (2, .inl a2), (3, .inl a3)], [.inr (.inr v6), .inr (.inr v2)])) rfl ?_
                    obtain ⟨v13, qv13, hr⟩ := Option.bind_eq_some_iff.mp hr
                    refine tm_getf rfl (lf_R_V qv13) ?_
                    refine tm_n 2 (F' := (52, [(5, .inr (.inr v6)), (4, .inr (.inr v2)), (0, .inr (.inr a0)), (1, .inl a1), (2, .inl a2), (3, .inl a3)], [.inl a3, .inl a2, .inr (.inr v13), .inr (.inr v2)])) rfl ?_
                    rcases lb_I_s hr with ⟨v14, h15, m16, hr⟩ | ⟨a24, h15, z25, z25l, m16, qz25, rfl⟩
                    · try dsimp only at hr
                      refine tm_call rfl rfl (tm_callS rfl rfl) (lq_95 m16) ?_
                      obtain ⟨v17, qv17, hr⟩ := Option.bind_eq_some_iff.mp hr
                      refine tm_ald rfl rfl (la_R_V qv17) ?_
                      by_cases c18 : lc_of h15 v2 = some 4
                      · rw [if_pos c18] at hr
                        rcases lb_I_s hr with ⟨v19, h20, m21, hr⟩ | ⟨a22, h20, z23, z23l, m21, qz23, rfl⟩
                        · try dsimp only at hr
                          refine tm_call rfl rfl (tm_callV rfl rfl c18 rfl rfl) (lq_170 m21) ?_
                          cases hr
                          exact tm_retI rfl rfl
                        · exact tm_callT rfl rfl (tm_callV rfl rfl c18 rfl rfl) (lq_170 m21) qz23 rfl
                      · rw [if_neg c18] at hr
                        cases hr
                    · exact tm_callT rfl rfl (tm_callS rfl rfl) (lq_95 m16) qz25 rfl
                  · rw [if_neg c26] at hr
                    refine tm_icF rfl c26 ?_
                    cases hr
                    exact tm_thr rfl
                · exact tm_callT rfl rfl (tm_callV rfl rfl c9 rfl rfl) (lq_92 m12) qz28 rfl
              · rw [if_neg c9] at hr
                cases hr
        · exact tm_callT rfl rfl (tm_callV rfl rfl c5 rfl rfl) (lq_81 m8) qz32 rfl
      · rw [if_neg c5] at hr
        cases hr
    · exact tm_callT rfl rfl (tm_callV rfl rfl c1 rfl rfl) (lq_81 m4) qz34 rfl
  · rw [if_neg c1] at hr
    cases hr
-- OfficeSheetLaw.deliver(LOfficeSheet;III[J)I
set_option maxRecDepth 20000 in
def ll_168 (w : Option Nat) (a0 : Option Nat) (a1 : Int32) (a2 : Int32) (a3 : Int32) (a4 : Option Nat) (h : pm_H) : tm_L := if lc_of h a0 = some 0 then lh_I (ll_169 w a0 a1 a2 a3 h) (fun v2 h3 => (la_S pt_P h3 .lastore a4 (0 : Int32) (.inr (.inl (Int32.toInt64 v2)))).bind fun h5 => some (.inl (some (.inl (0 : Int32))), h5)) (fun a6 z7 h3 => if z7 = 14 then some (.inl (some (.inl (1 : Int32))), h3) else none) else none
set_option maxRecDepth 20000 in
theorem lq_168 {w : Option Nat} {d : Nat} {a0 : Option Nat} {a1 : Int32} {a2 : Int32} {a3 : Int32} {a4 : Option Nat} {h : pm_H} {r : tm_O × pm_H} (hr : ll_168 w a0 a1 a2 a3 a4 h = some r) : tm_run pt_P (pt_G (tm_r w)) (d + 19) 168 [.inr (.inr a0), .inl a1, .inl a2, .inl a3, .inr (.inr a4)] h r := by
  unfold ll_168 at hr
  show pm_to pt_P (pt_G (tm_r w)) (d + 19) (pt_g168, [(0, 12, 15, [14])]) (tm_m (0, [(0, .inr (.inr a0)), (1, .inl a1), (2, .inl a2), (3, .inl a3), (4, .inr (.inr a4))], [])) h (tm_e r)
  refine tm_n 6 (F' := (7, [(0, .inr (.inr a0)), (1, .inl a1), (2, .inl a2), (3, .inl a3), (4, .inr (.inr a4))], [.inl a3, .inl a2, .inl a1, .inr (.inr a0), .inl (0 : Int32), .inr (.inr a4)])) rfl ?_
  by_cases c1 : lc_of h a0 = some 0
  · rw [if_pos c1] at hr
    rcases lh_I_s hr with ⟨v2, h3, m4, hr⟩ | ⟨a6, h3, z7, z7l, m4, qz7, hr⟩
    · try dsimp only at hr
      refine tm_call rfl rfl (tm_callV rfl rfl c1 rfl rfl) (lq_169 m4) ?_
      refine tm_n 1 (F' := (11, [(0, .inr (.inr a0)), (1, .inl a1), (2, .inl a2), (3, .inl a3), (4, .inr (.inr a4))], [.inr (.inl (Int32.toInt64 v2)), .inl (0 : Int32), .inr (.inr a4)])) rfl ?_
      obtain ⟨h5, qh5, hr⟩ := Option.bind_eq_some_iff.mp hr
      refine tm_ast rfl rfl qh5 ?_
      refine tm_n 2 (F' := (20, [(0, .inr (.inr a0)), (1, .inl a1), (2, .inl a2), (3, .inl a3), (4, .inr (.inr a4))], [.inl (0 : Int32)])) rfl ?_
      cases hr
      exact tm_retI rfl rfl
    · try dsimp only at hr
      by_cases c8 : z7 = 14
      · rw [if_pos c8] at hr
        subst c8
        refine tm_callC rfl rfl (tm_callV rfl rfl c1 rfl rfl) (lq_169 m4) qz7 rfl ?_
        refine tm_n 2 (F' := (18, [(5, .inr (.inr (some a6))), (0, .inr (.inr a0)), (1, .inl a1), (2, .inl a2), (3, .inl a3), (4, .inr (.inr a4))], [.inl (1 : Int32)])) rfl ?_
        cases hr
        exact tm_retI rfl rfl
      · rw [if_neg c8] at hr
        cases hr
  · rw [if_neg c1] at hr
    cases hr
-- OfficeSheet.known(II)I
set_option maxRecDepth 20000 in
def ll_175 (a0 : Option Nat) (a1 : Int32) (a2 : Int32) (h : pm_H) : tm_L := if lc_of h a0 = some 0 then lb_R (ll_81 a0 a1 h) (fun v2 h3 => (lf_R h3 v2 [4, 1]).bind fun v5 => if lc_of h3 a0 = some 0 then lb_R (ll_81 a0 a2 h3) (fun v7 h8 => (lf_I h8 v7 [4, 0]).bind fun v10 => (la_I h8 .iaload v5 v10).bind fun v11 => some (.inl (some (.inl v11)), h8)) else none) else none
set_option maxRecDepth 20000 in
theorem lq_175 {w : Option Nat} {d : Nat} {a0 : Option Nat} {a1 : Int32} {a2 : Int32} {h : pm_H} {r : tm_O × pm_H} (hr : ll_175 a0 a1 a2 h = some r) : tm_run pt_P (pt_G (tm_r w)) (d + 1) 175 [.inr (.inr a0), .inl a1, .inl a2] h r := by
  unfold ll_175 at hr
  show pm_to pt_P (pt_G (tm_r w)) (d + 1) (pt_g175, []) (tm_m (0, [(0, .inr (.inr a0)), (1, .inl a1), (2, .inl a2)], [])) h (tm_e r)
  refine tm_n 2 (F' := (2, [(0, .inr (.inr a0)), (1, .inl a1), (2, .inl a2)], [.inl a1, .inr (.inr a0)])) rfl ?_
  by_cases c1 : lc_of h a0 = some 0
  · rw [if_pos c1] at hr
    rcases lb_R_s hr with ⟨v2, h3, m4, hr⟩ | ⟨a14, h3, z15, z15l, m4, qz15, rfl⟩
    · try dsimp only at hr
      refine tm_call rfl rfl (tm_callV rfl rfl c1 rfl rfl) (lq_81 m4) ?_
      refine tm_n 2 (F' := (7, [(3, .inr (.inr v2)), (0, .inr (.inr a0)), (1, .inl a1), (2, .inl a2)], [.inr (.inr v2)])) rfl ?_
      obtain ⟨v5, qv5, hr⟩ := Option.bind_eq_some_iff.mp hr
      refine tm_getf rfl (lf_R_V qv5) ?_
      refine tm_n 2 (F' := (12, [(3, .inr (.inr v2)), (0, .inr (.inr a0)), (1, .inl a1), (2, .inl a2)], [.inl a2, .inr (.inr a0), .inr (.inr v5)])) rfl ?_
      by_cases c6 : lc_of h3 a0 = some 0
      · rw [if_pos c6] at hr
        rcases lb_R_s hr with ⟨v7, h8, m9, hr⟩ | ⟨a12, h8, z13, z13l, m9, qz13, rfl⟩
        · try dsimp only at hr
          refine tm_call rfl rfl (tm_callV rfl rfl c6 rfl rfl) (lq_81 m9) ?_
          obtain ⟨v10, qv10, hr⟩ := Option.bind_eq_some_iff.mp hr
          refine tm_getf rfl (lf_I_V qv10) ?_
          obtain ⟨v11, qv11, hr⟩ := Option.bind_eq_some_iff.mp hr
          refine tm_ald rfl rfl (la_I_V qv11) ?_
          cases hr
          exact tm_retI rfl rfl
        · exact tm_callT rfl rfl (tm_callV rfl rfl c6 rfl rfl) (lq_81 m9) qz13 rfl
      · rw [if_neg c6] at hr
        cases hr
    · exact tm_callT rfl rfl (tm_callV rfl rfl c1 rfl rfl) (lq_81 m4) qz15 rfl
  · rw [if_neg c1] at hr
    cases hr
-- OfficeSheetLaw.known(LOfficeSheet;II[J)I
set_option maxRecDepth 20000 in
def ll_174 (a0 : Option Nat) (a1 : Int32) (a2 : Int32) (a3 : Option Nat) (h : pm_H) : tm_L := if lc_of h a0 = some 0 then lh_I (ll_175 a0 a1 a2 h) (fun v2 h3 => (la_S pt_P h3 .lastore a3 (0 : Int32) (.inr (.inl (Int32.toInt64 v2)))).bind fun h5 => some (.inl (some (.inl (0 : Int32))), h5)) (fun a6 z7 h3 => if z7 = 14 then some (.inl (some (.inl (1 : Int32))), h3) else none) else none
set_option maxRecDepth 20000 in
theorem lq_174 {w : Option Nat} {d : Nat} {a0 : Option Nat} {a1 : Int32} {a2 : Int32} {a3 : Option Nat} {h : pm_H} {r : tm_O × pm_H} (hr : ll_174 a0 a1 a2 a3 h = some r) : tm_run pt_P (pt_G (tm_r w)) (d + 2) 174 [.inr (.inr a0), .inl a1, .inl a2, .inr (.inr a3)] h r := by
  unfold ll_174 at hr
  show pm_to pt_P (pt_G (tm_r w)) (d + 2) (pt_g174, [(0, 10, 13, [14])]) (tm_m (0, [(0, .inr (.inr a0)), (1, .inl a1), (2, .inl a2), (3, .inr (.inr a3))], [])) h (tm_e r)
  refine tm_n 5 (F' := (5, [(0, .inr (.inr a0)), (1, .inl a1), (2, .inl a2), (3, .inr (.inr a3))], [.inl a2, .inl a1, .inr (.inr a0), .inl (0 : Int32), .inr (.inr a3)])) rfl ?_
  by_cases c1 : lc_of h a0 = some 0
  · rw [if_pos c1] at hr
    rcases lh_I_s hr with ⟨v2, h3, m4, hr⟩ | ⟨a6, h3, z7, z7l, m4, qz7, hr⟩
    · try dsimp only at hr
      refine tm_call rfl rfl (tm_callV rfl rfl c1 rfl rfl) (lq_175 m4) ?_
      refine tm_n 1 (F' := (9, [(0, .inr (.inr a0)), (1, .inl a1), (2, .inl a2), (3, .inr (.inr a3))], [.inr (.inl (Int32.toInt64 v2)), .inl (0 : Int32), .inr (.inr a3)])) rfl ?_
      obtain ⟨h5, qh5, hr⟩ := Option.bind_eq_some_iff.mp hr
      refine tm_ast rfl rfl qh5 ?_
      refine tm_n 2 (F' := (18, [(0, .inr (.inr a0)), (1, .inl a1), (2, .inl a2), (3, .inr (.inr a3))], [.inl (0 : Int32)])) rfl ?_
      cases hr
      exact tm_retI rfl rfl
    · try dsimp only at hr
      by_cases c8 : z7 = 14
      · rw [if_pos c8] at hr
        subst c8
        refine tm_callC rfl rfl (tm_callV rfl rfl c1 rfl rfl) (lq_175 m4) qz7 rfl ?_
        refine tm_n 2 (F' := (16, [(4, .inr (.inr (some a6))), (0, .inr (.inr a0)), (1, .inl a1), (2, .inl a2), (3, .inr (.inr a3))], [.inl (1 : Int32)])) rfl ?_
        cases hr
        exact tm_retI rfl rfl
      · rw [if_neg c8] at hr
        cases hr
  · rw [if_neg c1] at hr
    cases hr
-- OfficeSheet$Office.isTaken(LOfficeSheet$Act;)Z
set_option maxRecDepth 20000 in
def ll_179 (a0 : Option Nat) (a1 : Option Nat) (h : pm_H) : tm_L := (lf_I h a1 [7, 2]).bind fun v1 => (lf_R h a0 [4, 1]).bind fun v2 => (lf_I h a1 [7, 1]).bind fun v3 => (la_I h .iaload v2 v3).bind fun v4 => if v4 < v1 then some (.inl (some (.inl (0 : Int32))), h) else some (.inl (some (.inl (1 : Int32))), h)
set_option maxRecDepth 20000 in
theorem lq_179 {w : Option Nat} {d : Nat} {a0 : Option Nat} {a1 : Option Nat} {h : pm_H} {r : tm_O × pm_H} (hr : ll_179 a0 a1 h = some r) : tm_run pt_P (pt_G (tm_r w)) (d + 0) 179 [.inr (.inr a0), .inr (.inr a1)] h r := by
  unfold ll_179 at hr
  show pm_to pt_P (pt_G (tm_r w)) (d + 0) (pt_g179, []) (tm_m (0, [(0, .inr (.inr a0)), (1, .inr (.inr a1))], [])) h (tm_e r)
  refine tm_n 1 (F' := (1, [(0, .inr (.inr a0)), (1, .inr (.inr a1))], [.inr (.inr a1)])) rfl ?_
  obtain ⟨v1, qv1, hr⟩ := Option.bind_eq_some_iff.mp hr
  refine tm_getf rfl (lf_I_V qv1) ?_
  refine tm_n 1 (F' := (5, [(0, .inr (.inr a0)), (1, .inr (.inr a1))], [.inr (.inr a0), .inl v1])) rfl ?_
  obtain ⟨v2, qv2, hr⟩ := Option.bind_eq_some_iff.mp hr
  refine tm_getf rfl (lf_R_V qv2) ?_
  refine tm_n 1 (F' := (9, [(0, .inr (.inr a0)), (1, .inr (.inr a1))], [.inr (.inr a1), .inr (.inr v2), .inl v1])) rfl ?_
  obtain ⟨v3, qv3, hr⟩ := Option.bind_eq_some_iff.mp hr
  refine tm_getf rfl (lf_I_V qv3) ?_
  obtain ⟨v4, qv4, hr⟩ := Option.bind_eq_some_iff.mp hr
  refine tm_ald rfl rfl (la_I_V qv4) ?_
  by_cases c5 : v4 < v1
  · rw [if_pos c5] at hr
    refine tm_icT rfl c5 ?_
    refine tm_n 1 (F' := (21, [(0, .inr (.inr a0)), (1, .inr (.inr a1))], [.inl (0 : Int32)])) rfl ?_
    cases hr
    exact tm_retI rfl rfl
  · rw [if_neg c5] at hr
    refine tm_icF rfl c5 ?_
    refine tm_n 2 (F' := (21, [(0, .inr (.inr a0)), (1, .inr (.inr a1))], [.inl (1 : Int32)])) rfl ?_
    cases hr
    exact tm_retI rfl rfl
-- OfficeSheet$Office.countWaiting()I
set_option maxRecDepth 20000 in
def l178_35 (K4 : Option Nat → Int32 → Int32 → pm_H → tm_L) (x0 : Option Nat) (x1 : Int32) (x2 : Int32) (h : pm_H) : tm_L := K4 x0 x1 (x2 + (1 : Int32)) h
set_option maxRecDepth 20000 in
theorem l178_35_t {w : Option Nat} {d : Nat} {K4 : Option Nat → Int32 → Int32 → pm_H → tm_L} (hK4 : ∀ {x0 : Option Nat} {x1 : Int32} {x2 : Int32}  {h : pm_H} {r : tm_O × pm_H}, K4 x0 x1 x2 h = some r → pm_to pt_P (pt_G (tm_r w)) (d + 1) (pt_g178, []) (tm_m (4, [(0, .inr (.inr x0)), (1, .inl x1), (2, .inl x2)], [])) h (tm_e r)) {x0 : Option Nat} {x1 : Int32} {x2 : Int32} {h : pm_H} {r : tm_O × pm_H} (hr : l178_35 K4 x0 x1 x2 h = some r) : pm_to pt_P (pt_G (tm_r w)) (d + 1) (pt_g178, []) (tm_m (35, [(0, .inr (.inr x0)), (1, .inl x1), (2, .inl x2)], [])) h (tm_e r) := by
  unfold l178_35 at hr
  refine tm_n 2 (F' := (4, [(2, .inl (x2 + (1 : Int32))), (0, .inr (.inr x0)), (1, .inl x1)], [])) rfl ?_
  refine tm_cut (a := [(0, .inr (.inr x0)), (1, .inl x1), (2, .inl (x2 + (1 : Int32)))]) rfl (tm_sbs [1, 2, 0] rfl) ?_
  exact hK4 hr
set_option maxRecDepth 20000 in
def l178_4 : Nat → Option Nat → Int32 → Int32 → pm_H → tm_L
  | 0 => fun _ _ _ _ => none
  | n + 1 => fun x0 x1 x2 h => if (120 : Int32) ≤ x2 then some (.inl (some (.inl x1)), h) else (lf_R h x0 [4, 2]).bind fun v1 => (la_R h .aaload v1 x2).bind fun v2 => match v2 with | none => (l178_35 (l178_4 n) x0 x1 x2 h) | some a3 => ((lf_R h x0 [4, 2]).bind fun v4 => (la_R h .aaload v4 x2).bind fun v5 => if lc_of h x0 = some 4 then lb_I (ll_179 x0 v5 h) (fun v7 h8 => if v7 = (0 : Int32) then l178_35 (l178_4 n) x0 (x1 + (1 : Int32)) x2 h8 else l178_35 (l178_4 n) x0 x1 x2 h8) else none)
set_option maxRecDepth 20000 in
theorem l178_4_t {w : Option Nat} {d : Nat} : ∀ (n : Nat) {x0 : Option Nat} {x1 : Int32} {x2 : Int32} {h : pm_H} {r : tm_O × pm_H}, l178_4 n x0 x1 x2 h = some r → pm_to pt_P (pt_G (tm_r w)) (d + 1) (pt_g178, []) (tm_m (4, [(0, .inr (.inr x0)), (1, .inl x1), (2, .inl x2)], [])) h (tm_e r) := by
  intro n
  induction n with
  | zero => intro x0 x1 x2 h r hr; cases hr
  | succ n ih =>
    intro x0 x1 x2 h r hr
    unfold l178_4 at hr
    refine tm_n 2 (F' := (7, [(0, .inr (.inr x0)), (1, .inl x1), (2, .inl x2)], [.inl (120 : Int32), .inl x2])) rfl ?_
    by_cases c13 : (120 : Int32) ≤ x2
    · rw [if_pos c13] at hr
      refine tm_icT rfl c13 ?_
      refine tm_n 1 (F' := (42, [(0, .inr (.inr x0)), (1, .inl x1), (2, .inl x2)], [.inl x1])) rfl ?_
      cases hr
      exact tm_retI rfl rfl
    · rw [if_neg c13] at hr
      refine tm_icF rfl c13 ?_
      refine tm_n 1 (F' := (11, [(0, .inr (.inr x0)), (1, .inl x1), (2, .inl x2)], [.inr (.inr x0)])) rfl ?_
      obtain ⟨v1, qv1, hr⟩ := Option.bind_eq_some_iff.mp hr
      refine tm_getf rfl (lf_R_V qv1) ?_
      refine tm_n 1 (F' := (15, [(0, .inr (.inr x0)), (1, .inl x1), (2, .inl x2)], [.inl x2, .inr (.inr v1)])) rfl ?_
      obtain ⟨v2, qv2, hr⟩ := Option.bind_eq_some_iff.mp hr
      refine tm_ald rfl rfl (la_R_V qv2) ?_
      cases v2 with
      | none =>
        try dsimp only at hr
        refine tm_nuT rfl ?_
        refine tm_cut (a := [(0, .inr (.inr x0)), (1, .inl x1), (2, .inl x2)]) rfl (tm_sbs [0, 1, 2] rfl) ?_
        exact l178_35_t (fun hr => ih hr) hr
      | some a3 =>
        try dsimp only at hr
        refine tm_nuF rfl ?_
        refine tm_n 2 (F' := (21, [(0, .inr (.inr x0)), (1, .inl x1), (2, .inl x2)], [.inr (.inr x0), .inr (.inr x0)])) rfl ?_
        obtain ⟨v4, qv4, hr⟩ := Option.bind_eq_some_iff.mp hr
        refine tm_getf rfl (lf_R_V qv4) ?_
        refine tm_n 1 (F' := (25, [(0, .inr (.inr x0)), (1, .inl x1), (2, .inl x2)], [.inl x2, .inr (.inr v4), .inr (.inr x0)])) rfl ?_
        obtain ⟨v5, qv5, hr⟩ := Option.bind_eq_some_iff.mp hr
        refine tm_ald rfl rfl (la_R_V qv5) ?_
        by_cases c6 : lc_of h x0 = some 4
        · rw [if_pos c6] at hr
          rcases lb_I_s hr with ⟨v7, h8, m9, hr⟩ | ⟨a11, h8, z12, z12l, m9, qz12, rfl⟩
          · try dsimp only at hr
            refine tm_call rfl rfl (tm_callV rfl rfl c6 rfl rfl) (lq_179 m9) ?_
            by_cases c10 : v7 = (0 : Int32)
            · rw [if_pos c10] at hr
              refine tm_ifF rfl (fun q => q c10) ?_
              refine tm_n 1 (F' := (35, [(1, .inl (x1 + (1 : Int32))), (0, .inr (.inr x0)), (2, .inl x2)], [])) rfl ?_
              refine tm_cut (a := [(0, .inr (.inr x0)), (1, .inl (x1 + (1 : Int32))), (2, .inl x2)]) rfl (tm_sbs [1, 0, 2] rfl) ?_
              exact l178_35_t (fun hr => ih hr) hr
            · rw [if_neg c10] at hr
              refine tm_ifT rfl c10 ?_
              refine tm_cut (a := [(0, .inr (.inr x0)), (1, .inl x1), (2, .inl x2)]) rfl (tm_sbs [0, 1, 2] rfl) ?_
              exact l178_35_t (fun hr => ih hr) hr
          · exact tm_callT rfl rfl (tm_callV rfl rfl c6 rfl rfl) (lq_179 m9) qz12 rfl
        · rw [if_neg c6] at hr
          cases hr
set_option maxRecDepth 20000 in
def ll_178 (a0 : Option Nat) (h : pm_H) : tm_L := l178_4 lf_N a0 (0 : Int32) (0 : Int32) h
set_option maxRecDepth 20000 in
theorem lq_178 {w : Option Nat} {d : Nat} {a0 : Option Nat} {h : pm_H} {r : tm_O × pm_H} (hr : ll_178 a0 h = some r) : tm_run pt_P (pt_G (tm_r w)) (d + 1) 178 [.inr (.inr a0)] h r := by
  unfold ll_178 at hr
  show pm_to pt_P (pt_G (tm_r w)) (d + 1) (pt_g178, []) (tm_m (0, [(0, .inr (.inr a0))], [])) h (tm_e r)
  refine tm_n 4 (F' := (4, [(2, .inl (0 : Int32)), (1, .inl (0 : Int32)), (0, .inr (.inr a0))], [])) rfl ?_
  refine tm_cut (a := [(0, .inr (.inr a0)), (1, .inl (0 : Int32)), (2, .inl (0 : Int32))]) rfl (tm_sbs [2, 1, 0] rfl) ?_
  exact l178_4_t lf_N hr
-- OfficeSheet.waiting(I)I
set_option maxRecDepth 20000 in
def ll_177 (a0 : Option Nat) (a1 : Int32) (h : pm_H) : tm_L := if lc_of h a0 = some 0 then lb_R (ll_81 a0 a1 h) (fun v2 h3 => if lc_of h3 v2 = some 4 then lb_I (ll_178 v2 h3) (fun v6 h7 => some (.inl (some (.inl v6)), h7)) else none) else none
set_option maxRecDepth 20000 in
theorem lq_177 {w : Option Nat} {d : Nat} {a0 : Option Nat} {a1 : Int32} {h : pm_H} {r : tm_O × pm_H} (hr : ll_177 a0 a1 h = some r) : tm_run pt_P (pt_G (tm_r w)) (d + 2) 177 [.inr (.inr a0), .inl a1] h r := by
  unfold ll_177 at hr
  show pm_to pt_P (pt_G (tm_r w)) (d + 2) (pt_g177, []) (tm_m (0, [(0, .inr (.inr a0)), (1, .inl a1)], [])) h (tm_e r)
  refine tm_n 2 (F' := (2, [(0, .inr (.inr a0)), (1, .inl a1)], [.inl a1, .inr (.inr a0)])) rfl ?_
  by_cases c1 : lc_of h a0 = some 0
  · rw [if_pos c1] at hr
    rcases lb_R_s hr with ⟨v2, h3, m4, hr⟩ | ⟨a11, h3, z12, z12l, m4, qz12, rfl⟩
    · try dsimp only at hr
      refine tm_call rfl rfl (tm_callV rfl rfl c1 rfl rfl) (lq_81 m4) ?_
      by_cases c5 : lc_of h3 v2 = some 4
      · rw [if_pos c5] at hr
        rcases lb_I_s hr with ⟨v6, h7, m8, hr⟩ | ⟨a9, h7, z10, z10l, m8, qz10, rfl⟩
        · try dsimp only at hr
          refine tm_call rfl rfl (tm_callV rfl rfl c5 rfl rfl) (lq_178 m8) ?_
          cases hr
          exact tm_retI rfl rfl
        · exact tm_callT rfl rfl (tm_callV rfl rfl c5 rfl rfl) (lq_178 m8) qz10 rfl
      · rw [if_neg c5] at hr
        cases hr
    · exact tm_callT rfl rfl (tm_callV rfl rfl c1 rfl rfl) (lq_81 m4) qz12 rfl
  · rw [if_neg c1] at hr
    cases hr
-- OfficeSheetLaw.waiting(LOfficeSheet;I[J)I
set_option maxRecDepth 20000 in
def ll_176 (a0 : Option Nat) (a1 : Int32) (a2 : Option Nat) (h : pm_H) : tm_L := if lc_of h a0 = some 0 then lh_I (ll_177 a0 a1 h) (fun v2 h3 => (la_S pt_P h3 .lastore a2 (0 : Int32) (.inr (.inl (Int32.toInt64 v2)))).bind fun h5 => some (.inl (some (.inl (0 : Int32))), h5)) (fun a6 z7 h3 => if z7 = 14 then some (.inl (some (.inl (1 : Int32))), h3) else none) else none
set_option maxRecDepth 20000 in
theorem lq_176 {w : Option Nat} {d : Nat} {a0 : Option Nat} {a1 : Int32} {a2 : Option Nat} {h : pm_H} {r : tm_O × pm_H} (hr : ll_176 a0 a1 a2 h = some r) : tm_run pt_P (pt_G (tm_r w)) (d + 3) 176 [.inr (.inr a0), .inl a1, .inr (.inr a2)] h r := by
  unfold ll_176 at hr
  show pm_to pt_P (pt_G (tm_r w)) (d + 3) (pt_g176, [(0, 9, 12, [14])]) (tm_m (0, [(0, .inr (.inr a0)), (1, .inl a1), (2, .inr (.inr a2))], [])) h (tm_e r)
  refine tm_n 4 (F' := (4, [(0, .inr (.inr a0)), (1, .inl a1), (2, .inr (.inr a2))], [.inl a1, .inr (.inr a0), .inl (0 : Int32), .inr (.inr a2)])) rfl ?_
  by_cases c1 : lc_of h a0 = some 0
  · rw [if_pos c1] at hr
    rcases lh_I_s hr with ⟨v2, h3, m4, hr⟩ | ⟨a6, h3, z7, z7l, m4, qz7, hr⟩
    · try dsimp only at hr
      refine tm_call rfl rfl (tm_callV rfl rfl c1 rfl rfl) (lq_177 m4) ?_
      refine tm_n 1 (F' := (8, [(0, .inr (.inr a0)), (1, .inl a1), (2, .inr (.inr a2))], [.inr (.inl (Int32.toInt64 v2)), .inl (0 : Int32), .inr (.inr a2)])) rfl ?_
      obtain ⟨h5, qh5, hr⟩ := Option.bind_eq_some_iff.mp hr
      refine tm_ast rfl rfl qh5 ?_
      refine tm_n 2 (F' := (16, [(0, .inr (.inr a0)), (1, .inl a1), (2, .inr (.inr a2))], [.inl (0 : Int32)])) rfl ?_
      cases hr
      exact tm_retI rfl rfl
    · try dsimp only at hr
      by_cases c8 : z7 = 14
      · rw [if_pos c8] at hr
        subst c8
        refine tm_callC rfl rfl (tm_callV rfl rfl c1 rfl rfl) (lq_177 m4) qz7 rfl ?_
        refine tm_n 2 (F' := (14, [(3, .inr (.inr (some a6))), (0, .inr (.inr a0)), (1, .inl a1), (2, .inr (.inr a2))], [.inl (1 : Int32)])) rfl ?_
        cases hr
        exact tm_retI rfl rfl
      · rw [if_neg c8] at hr
        cases hr
  · rw [if_neg c1] at hr
    cases hr
-- OfficeSheet.lines(II)I
set_option maxRecDepth 20000 in
def ll_181 (a0 : Option Nat) (a1 : Int32) (a2 : Int32) (h : pm_H) : tm_L := if lc_of h a0 = some 0 then lb_R (ll_81 a0 a1 h) (fun v2 h3 => lb_R (ll_82 v2 a2 h3) (fun v5 h6 => if lc_of h6 v5 = some 5 then lb_I (ll_85 v5 h6) (fun v9 h10 => some (.inl (some (.inl v9)), h10)) else none)) else none
set_option maxRecDepth 20000 in
theorem lq_181 {w : Option Nat} {d : Nat} {a0 : Option Nat} {a1 : Int32} {a2 : Int32} {h : pm_H} {r : tm_O × pm_H} (hr : ll_181 a0 a1 a2 h = some r) : tm_run pt_P (pt_G (tm_r w)) (d + 2) 181 [.inr (.inr a0), .inl a1, .inl a2] h r := by
  unfold ll_181 at hr
  show pm_to pt_P (pt_G (tm_r w)) (d + 2) (pt_g181, []) (tm_m (0, [(0, .inr (.inr a0)), (1, .inl a1), (2, .inl a2)], [])) h (tm_e r)
  refine tm_n 2 (F' := (2, [(0, .inr (.inr a0)), (1, .inl a1), (2, .inl a2)], [.inl a1, .inr (.inr a0)])) rfl ?_
  by_cases c1 : lc_of h a0 = some 0
  · rw [if_pos c1] at hr
    rcases lb_R_s hr with ⟨v2, h3, m4, hr⟩ | ⟨a16, h3, z17, z17l, m4, qz17, rfl⟩
    · try dsimp only at hr
      refine tm_call rfl rfl (tm_callV rfl rfl c1 rfl rfl) (lq_81 m4) ?_
      refine tm_n 1 (F' := (6, [(0, .inr (.inr a0)), (1, .inl a1), (2, .inl a2)], [.inl a2, .inr (.inr v2)])) rfl ?_
      rcases lb_R_s hr with ⟨v5, h6, m7, hr⟩ | ⟨a14, h6, z15, z15l, m7, qz15, rfl⟩
      · try dsimp only at hr
        refine tm_call rfl rfl (tm_callS rfl rfl) (lq_82 m7) ?_
        by_cases c8 : lc_of h6 v5 = some 5
        · rw [if_pos c8] at hr
          rcases lb_I_s hr with ⟨v9, h10, m11, hr⟩ | ⟨a12, h10, z13, z13l, m11, qz13, rfl⟩
          · try dsimp only at hr
            refine tm_call rfl rfl (tm_callV rfl rfl c8 rfl rfl) (lq_85 m11) ?_
            cases hr
            exact tm_retI rfl rfl
          · exact tm_callT rfl rfl (tm_callV rfl rfl c8 rfl rfl) (lq_85 m11) qz13 rfl
        · rw [if_neg c8] at hr
          cases hr
      · exact tm_callT rfl rfl (tm_callS rfl rfl) (lq_82 m7) qz15 rfl
    · exact tm_callT rfl rfl (tm_callV rfl rfl c1 rfl rfl) (lq_81 m4) qz17 rfl
  · rw [if_neg c1] at hr
    cases hr
-- OfficeSheetLaw.lines(LOfficeSheet;II[J)I
set_option maxRecDepth 20000 in
def ll_180 (a0 : Option Nat) (a1 : Int32) (a2 : Int32) (a3 : Option Nat) (h : pm_H) : tm_L := if lc_of h a0 = some 0 then lh_I (ll_181 a0 a1 a2 h) (fun v2 h3 => (la_S pt_P h3 .lastore a3 (0 : Int32) (.inr (.inl (Int32.toInt64 v2)))).bind fun h5 => some (.inl (some (.inl (0 : Int32))), h5)) (fun a6 z7 h3 => if z7 = 14 then some (.inl (some (.inl (1 : Int32))), h3) else none) else none
set_option maxRecDepth 20000 in
theorem lq_180 {w : Option Nat} {d : Nat} {a0 : Option Nat} {a1 : Int32} {a2 : Int32} {a3 : Option Nat} {h : pm_H} {r : tm_O × pm_H} (hr : ll_180 a0 a1 a2 a3 h = some r) : tm_run pt_P (pt_G (tm_r w)) (d + 3) 180 [.inr (.inr a0), .inl a1, .inl a2, .inr (.inr a3)] h r := by
  unfold ll_180 at hr
  show pm_to pt_P (pt_G (tm_r w)) (d + 3) (pt_g180, [(0, 10, 13, [14])]) (tm_m (0, [(0, .inr (.inr a0)), (1, .inl a1), (2, .inl a2), (3, .inr (.inr a3))], [])) h (tm_e r)
  refine tm_n 5 (F' := (5, [(0, .inr (.inr a0)), (1, .inl a1), (2, .inl a2), (3, .inr (.inr a3))], [.inl a2, .inl a1, .inr (.inr a0), .inl (0 : Int32), .inr (.inr a3)])) rfl ?_
  by_cases c1 : lc_of h a0 = some 0
  · rw [if_pos c1] at hr
    rcases lh_I_s hr with ⟨v2, h3, m4, hr⟩ | ⟨a6, h3, z7, z7l, m4, qz7, hr⟩
    · try dsimp only at hr
      refine tm_call rfl rfl (tm_callV rfl rfl c1 rfl rfl) (lq_181 m4) ?_
      refine tm_n 1 (F' := (9, [(0, .inr (.inr a0)), (1, .inl a1), (2, .inl a2), (3, .inr (.inr a3))], [.inr (.inl (Int32.toInt64 v2)), .inl (0 : Int32), .inr (.inr a3)])) rfl ?_
      obtain ⟨h5, qh5, hr⟩ := Option.bind_eq_some_iff.mp hr
      refine tm_ast rfl rfl qh5 ?_
      refine tm_n 2 (F' := (18, [(0, .inr (.inr a0)), (1, .inl a1), (2, .inl a2), (3, .inr (.inr a3))], [.inl (0 : Int32)])) rfl ?_
      cases hr
      exact tm_retI rfl rfl
    · try dsimp only at hr
      by_cases c8 : z7 = 14
      · rw [if_pos c8] at hr
        subst c8
        refine tm_callC rfl rfl (tm_callV rfl rfl c1 rfl rfl) (lq_181 m4) qz7 rfl ?_
        refine tm_n 2 (F' := (16, [(4, .inr (.inr (some a6))), (0, .inr (.inr a0)), (1, .inl a1), (2, .inl a2), (3, .inr (.inr a3))], [.inl (1 : Int32)])) rfl ?_
        cases hr
        exact tm_retI rfl rfl
      · rw [if_neg c8] at hr
        cases hr
  · rw [if_neg c1] at hr
    cases hr
-- OfficeSheet.line(III)I
set_option maxRecDepth 20000 in
def ll_183 (a0 : Option Nat) (a1 : Int32) (a2 : Int32) (a3 : Int32) (h : pm_H) : tm_L := if lc_of h a0 = some 0 then lb_R (ll_81 a0 a1 h) (fun v2 h3 => lb_R (ll_82 v2 a2 h3) (fun v5 h6 => lb_R (ll_84 v5 a3 h6) (fun v8 h9 => (lf_I h9 v8 [6, 1]).bind fun v11 => some (.inl (some (.inl v11)), h9)))) else none
set_option maxRecDepth 20000 in
theorem lq_183 {w : Option Nat} {d : Nat} {a0 : Option Nat} {a1 : Int32} {a2 : Int32} {a3 : Int32} {h : pm_H} {r : tm_O × pm_H} (hr : ll_183 a0 a1 a2 a3 h = some r) : tm_run pt_P (pt_G (tm_r w)) (d + 4) 183 [.inr (.inr a0), .inl a1, .inl a2, .inl a3] h r := by
  unfold ll_183 at hr
  show pm_to pt_P (pt_G (tm_r w)) (d + 4) (pt_g183, []) (tm_m (0, [(0, .inr (.inr a0)), (1, .inl a1), (2, .inl a2), (3, .inl a3)], [])) h (tm_e r)
  refine tm_n 2 (F' := (2, [(0, .inr (.inr a0)), (1, .inl a1), (2, .inl a2), (3, .inl a3)], [.inl a1, .inr (.inr a0)])) rfl ?_
  by_cases c1 : lc_of h a0 = some 0
  · rw [if_pos c1] at hr
    rcases lb_R_s hr with ⟨v2, h3, m4, hr⟩ | ⟨a16, h3, z17, z17l, m4, qz17, rfl⟩
    · try dsimp only at hr
      refine tm_call rfl rfl (tm_callV rfl rfl c1 rfl rfl) (lq_81 m4) ?_
      refine tm_n 1 (F' := (6, [(0, .inr (.inr a0)), (1, .inl a1), (2, .inl a2), (3, .inl a3)], [.inl a2, .inr (.inr v2)])) rfl ?_
      rcases lb_R_s hr with ⟨v5, h6, m7, hr⟩ | ⟨a14, h6, z15, z15l, m7, qz15, rfl⟩
      · try dsimp only at hr
        refine tm_call rfl rfl (tm_callS rfl rfl) (lq_82 m7) ?_
        refine tm_n 1 (F' := (10, [(0, .inr (.inr a0)), (1, .inl a1), (2, .inl a2), (3, .inl a3)], [.inl a3, .inr (.inr v5)])) rfl ?_
        rcases lb_R_s hr with ⟨v8, h9, m10, hr⟩ | ⟨a12, h9, z13, z13l, m10, qz13, rfl⟩
        · try dsimp only at hr
          refine tm_call rfl rfl (tm_callS rfl rfl) (lq_84 m10) ?_
          obtain ⟨v11, qv11, hr⟩ := Option.bind_eq_some_iff.mp hr
          refine tm_getf rfl (lf_I_V qv11) ?_
          cases hr
          exact tm_retI rfl rfl
        · exact tm_callT rfl rfl (tm_callS rfl rfl) (lq_84 m10) qz13 rfl
      · exact tm_callT rfl rfl (tm_callS rfl rfl) (lq_82 m7) qz15 rfl
    · exact tm_callT rfl rfl (tm_callV rfl rfl c1 rfl rfl) (lq_81 m4) qz17 rfl
  · rw [if_neg c1] at hr
    cases hr
-- OfficeSheetLaw.line(LOfficeSheet;III[J)I
set_option maxRecDepth 20000 in
def ll_182 (a0 : Option Nat) (a1 : Int32) (a2 : Int32) (a3 : Int32) (a4 : Option Nat) (h : pm_H) : tm_L := if lc_of h a0 = some 0 then lh_I (ll_183 a0 a1 a2 a3 h) (fun v2 h3 => (la_S pt_P h3 .lastore a4 (0 : Int32) (.inr (.inl (Int32.toInt64 v2)))).bind fun h5 => some (.inl (some (.inl (0 : Int32))), h5)) (fun a6 z7 h3 => if z7 = 14 then some (.inl (some (.inl (1 : Int32))), h3) else if z7 = 16 then some (.inl (some (.inl (2 : Int32))), h3) else none) else none
set_option maxRecDepth 20000 in
theorem lq_182 {w : Option Nat} {d : Nat} {a0 : Option Nat} {a1 : Int32} {a2 : Int32} {a3 : Int32} {a4 : Option Nat} {h : pm_H} {r : tm_O × pm_H} (hr : ll_182 a0 a1 a2 a3 a4 h = some r) : tm_run pt_P (pt_G (tm_r w)) (d + 5) 182 [.inr (.inr a0), .inl a1, .inl a2, .inl a3, .inr (.inr a4)] h r := by
  unfold ll_182 at hr
  show pm_to pt_P (pt_G (tm_r w)) (d + 5) (pt_g182, [(0, 12, 15, [14]), (0, 12, 19, [16])]) (tm_m (0, [(0, .inr (.inr a0)), (1, .inl a1), (2, .inl a2), (3, .inl a3), (4, .inr (.inr a4))], [])) h (tm_e r)
  refine tm_n 6 (F' := (7, [(0, .inr (.inr a0)), (1, .inl a1), (2, .inl a2), (3, .inl a3), (4, .inr (.inr a4))], [.inl a3, .inl a2, .inl a1, .inr (.inr a0), .inl (0 : Int32), .inr (.inr a4)])) rfl ?_
  by_cases c1 : lc_of h a0 = some 0
  · rw [if_pos c1] at hr
    rcases lh_I_s hr with ⟨v2, h3, m4, hr⟩ | ⟨a6, h3, z7, z7l, m4, qz7, hr⟩
    · try dsimp only at hr
      refine tm_call rfl rfl (tm_callV rfl rfl c1 rfl rfl) (lq_183 m4) ?_
      refine tm_n 1 (F' := (11, [(0, .inr (.inr a0)), (1, .inl a1), (2, .inl a2), (3, .inl a3), (4, .inr (.inr a4))], [.inr (.inl (Int32.toInt64 v2)), .inl (0 : Int32), .inr (.inr a4)])) rfl ?_
      obtain ⟨h5, qh5, hr⟩ := Option.bind_eq_some_iff.mp hr
      refine tm_ast rfl rfl qh5 ?_
      refine tm_n 2 (F' := (24, [(0, .inr (.inr a0)), (1, .inl a1), (2, .inl a2), (3, .inl a3), (4, .inr (.inr a4))], [.inl (0 : Int32)])) rfl ?_
      cases hr
      exact tm_retI rfl rfl
    · try dsimp only at hr
      by_cases c8 : z7 = 14
      · rw [if_pos c8] at hr
        subst c8
        refine tm_callC rfl rfl (tm_callV rfl rfl c1 rfl rfl) (lq_183 m4) qz7 rfl ?_
        refine tm_n 2 (F' := (18, [(5, .inr (.inr (some a6))), (0, .inr (.inr a0)), (1, .inl a1), (2, .inl a2), (3, .inl a3), (4, .inr (.inr a4))], [.inl (1 : Int32)])) rfl ?_
        cases hr
        exact tm_retI rfl rfl
      · rw [if_neg c8] at hr
        by_cases c9 : z7 = 16
        · rw [if_pos c9] at hr
          subst c9
          refine tm_callC rfl rfl (tm_callV rfl rfl c1 rfl rfl) (lq_183 m4) qz7 rfl ?_
          refine tm_n 2 (F' := (22, [(5, .inr (.inr (some a6))), (0, .inr (.inr a0)), (1, .inl a1), (2, .inl a2), (3, .inl a3), (4, .inr (.inr a4))], [.inl (2 : Int32)])) rfl ?_
          cases hr
          exact tm_retI rfl rfl
        · rw [if_neg c9] at hr
          cases hr
  · rw [if_neg c1] at hr
    cases hr
-- OfficeSheet$Axis.positionOf(LOfficeSheet$Line;)I
set_option maxRecDepth 20000 in
def ll_190 (a0 : Option Nat) (a1 : Option Nat) (h : pm_H) : tm_L := match a1 with | none => (some (.inl (some (.inl (-1 : Int32))), h)) | some a1 => ((lf_R h a0 [5, 4]).bind fun v2 => (lf_I h (some a1) [6, 2]).bind fun v3 => (la_I h .iaload v2 v3).bind fun v4 => some (.inl (some (.inl v4)), h))
set_option maxRecDepth 20000 in
theorem lq_190 {w : Option Nat} {d : Nat} {a0 : Option Nat} {a1 : Option Nat} {h : pm_H} {r : tm_O × pm_H} (hr : ll_190 a0 a1 h = some r) : tm_run pt_P (pt_G (tm_r w)) (d + 0) 190 [.inr (.inr a0), .inr (.inr a1)] h r := by
  unfold ll_190 at hr
  show pm_to pt_P (pt_G (tm_r w)) (d + 0) (pt_g190, []) (tm_m (0, [(0, .inr (.inr a0)), (1, .inr (.inr a1))], [])) h (tm_e r)
  refine tm_n 1 (F' := (1, [(0, .inr (.inr a0)), (1, .inr (.inr a1))], [.inr (.inr a1)])) rfl ?_
  cases a1 with
  | none =>
    try dsimp only at hr
    refine tm_nnF rfl ?_
    refine tm_n 2 (F' := (17, [(0, .inr (.inr a0)), (1, .inr (.inr none))], [.inl (-1 : Int32)])) rfl ?_
    cases hr
    exact tm_retI rfl rfl
  | some a1 =>
    try dsimp only at hr
    refine tm_nnT rfl ?_
    refine tm_n 1 (F' := (9, [(0, .inr (.inr a0)), (1, .inr (.inr (some a1)))], [.inr (.inr a0)])) rfl ?_
    obtain ⟨v2, qv2, hr⟩ := Option.bind_eq_some_iff.mp hr
    refine tm_getf rfl (lf_R_V qv2) ?_
    refine tm_n 1 (F' := (13, [(0, .inr (.inr a0)), (1, .inr (.inr (some a1)))], [.inr (.inr (some a1)), .inr (.inr v2)])) rfl ?_
    obtain ⟨v3, qv3, hr⟩ := Option.bind_eq_some_iff.mp hr
    refine tm_getf rfl (lf_I_V qv3) ?_
    obtain ⟨v4, qv4, hr⟩ := Option.bind_eq_some_iff.mp hr
    refine tm_ald rfl rfl (la_I_V qv4) ?_
    cases hr
    exact tm_retI rfl rfl
-- OfficeSheet$Calculator.isShown(LOfficeSheet$Line;LOfficeSheet$Line;)Z
set_option maxRecDepth 20000 in
def ll_189 (a0 : Option Nat) (a1 : Option Nat) (a2 : Option Nat) (h : pm_H) : tm_L := (lf_R h a0 [2, 4]).bind fun v1 => if lc_of h v1 = some 5 then lb_I (ll_190 v1 a1 h) (fun v3 h4 => if v3 = (-1 : Int32) then some (.inl (some (.inl (0 : Int32))), h4) else (lf_R h4 a0 [2, 5]).bind fun v6 => if lc_of h4 v6 = some 5 then lb_I (ll_190 v6 a2 h4) (fun v8 h9 => if v8 = (-1 : Int32) then some (.inl (some (.inl (0 : Int32))), h9) else some (.inl (some (.inl (1 : Int32))), h9)) else none) else none
set_option maxRecDepth 20000 in
theorem lq_189 {w : Option Nat} {d : Nat} {a0 : Option Nat} {a1 : Option Nat} {a2 : Option Nat} {h : pm_H} {r : tm_O × pm_H} (hr : ll_189 a0 a1 a2 h = some r) : tm_run pt_P (pt_G (tm_r w)) (d + 1) 189 [.inr (.inr a0), .inr (.inr a1), .inr (.inr a2)] h r := by
  unfold ll_189 at hr
  show pm_to pt_P (pt_G (tm_r w)) (d + 1) (pt_g189, []) (tm_m (0, [(0, .inr (.inr a0)), (1, .inr (.inr a1)), (2, .inr (.inr a2))], [])) h (tm_e r)
  refine tm_n 1 (F' := (1, [(0, .inr (.inr a0)), (1, .inr (.inr a1)), (2, .inr (.inr a2))], [.inr (.inr a0)])) rfl ?_
  obtain ⟨v1, qv1, hr⟩ := Option.bind_eq_some_iff.mp hr
  refine tm_getf rfl (lf_R_V qv1) ?_
  refine tm_n 1 (F' := (5, [(0, .inr (.inr a0)), (1, .inr (.inr a1)), (2, .inr (.inr a2))], [.inr (.inr a1), .inr (.inr v1)])) rfl ?_
  by_cases c2 : lc_of h v1 = some 5
  · rw [if_pos c2] at hr
    rcases lb_I_s hr with ⟨v3, h4, m5, hr⟩ | ⟨a15, h4, z16, z16l, m5, qz16, rfl⟩
    · try dsimp only at hr
      refine tm_call rfl rfl (tm_callV rfl rfl c2 rfl rfl) (lq_190 m5) ?_
      refine tm_n 1 (F' := (9, [(0, .inr (.inr a0)), (1, .inr (.inr a1)), (2, .inr (.inr a2))], [.inl (-1 : Int32), .inl v3])) rfl ?_
      by_cases c14 : v3 = (-1 : Int32)
      · rw [if_pos c14] at hr
        refine tm_icT rfl c14 ?_
        refine tm_n 1 (F' := (29, [(0, .inr (.inr a0)), (1, .inr (.inr a1)), (2, .inr (.inr a2))], [.inl (0 : Int32)])) rfl ?_
        cases hr
        exact tm_retI rfl rfl
      · rw [if_neg c14] at hr
        refine tm_icF rfl c14 ?_
        refine tm_n 1 (F' := (13, [(0, .inr (.inr a0)), (1, .inr (.inr a1)), (2, .inr (.inr a2))], [.inr (.inr a0)])) rfl ?_
        obtain ⟨v6, qv6, hr⟩ := Option.bind_eq_some_iff.mp hr
        refine tm_getf rfl (lf_R_V qv6) ?_
        refine tm_n 1 (F' := (17, [(0, .inr (.inr a0)), (1, .inr (.inr a1)), (2, .inr (.inr a2))], [.inr (.inr a2), .inr (.inr v6)])) rfl ?_
        by_cases c7 : lc_of h4 v6 = some 5
        · rw [if_pos c7] at hr
          rcases lb_I_s hr with ⟨v8, h9, m10, hr⟩ | ⟨a12, h9, z13, z13l, m10, qz13, rfl⟩
          · try dsimp only at hr
            refine tm_call rfl rfl (tm_callV rfl rfl c7 rfl rfl) (lq_190 m10) ?_
            refine tm_n 1 (F' := (21, [(0, .inr (.inr a0)), (1, .inr (.inr a1)), (2, .inr (.inr a2))], [.inl (-1 : Int32), .inl v8])) rfl ?_
            by_cases c11 : v8 = (-1 : Int32)
            · rw [if_pos c11] at hr
              refine tm_icT rfl c11 ?_
              refine tm_n 1 (F' := (29, [(0, .inr (.inr a0)), (1, .inr (.inr a1)), (2, .inr (.inr a2))], [.inl (0 : Int32)])) rfl ?_
              cases hr
              exact tm_retI rfl rfl
            · rw [if_neg c11] at hr
              refine tm_icF rfl c11 ?_
              refine tm_n 2 (F' := (29, [(0, .inr (.inr a0)), (1, .inr (.inr a1)), (2, .inr (.inr a2))], [.inl (1 : Int32)])) rfl ?_
              cases hr
              exact tm_retI rfl rfl
          · exact tm_callT rfl rfl (tm_callV rfl rfl c7 rfl rfl) (lq_190 m10) qz13 rfl
        · rw [if_neg c7] at hr
          cases hr
    · exact tm_callT rfl rfl (tm_callV rfl rfl c2 rfl rfl) (lq_190 m5) qz16 rfl
  · rw [if_neg c2] at hr
    cases hr
-- OfficeSheet$Calculator.standsBefore(LOfficeSheet$Act;LOfficeSheet$Act;)Z
set_option maxRecDepth 20000 in
def ll_192 (a0 : Option Nat) (a1 : Option Nat) (a2 : Option Nat) (h : pm_H) : tm_L := (lf_R h a0 [2, 4]).bind fun v1 => (lf_R h a1 [7, 8]).bind fun v2 => if lc_of h v1 = some 5 then lb_I (ll_190 v1 v2 h) (fun v4 h5 => (lf_R h5 a0 [2, 4]).bind fun v7 => (lf_R h5 a2 [7, 8]).bind fun v8 => if lc_of h5 v7 = some 5 then lb_I (ll_190 v7 v8 h5) (fun v10 h11 => if (v4 - v10) < (0 : Int32) then some (.inl (some (.inl (1 : Int32))), h11) else if (v4 - v10) = (0 : Int32) then (lf_R h11 a0 [2, 5]).bind fun v13 => (lf_R h11 a1 [7, 9]).bind fun v14 => if lc_of h11 v13 = some 5 then lb_I (ll_190 v13 v14 h11) (fun v16 h17 => (lf_R h17 a0 [2, 5]).bind fun v19 => (lf_R h17 a2 [7, 9]).bind fun v20 => if lc_of h17 v19 = some 5 then lb_I (ll_190 v19 v20 h17) (fun v22 h23 => if v22 ≤ v16 then some (.inl (some (.inl (0 : Int32))), h23) else some (.inl (some (.inl (1 : Int32))), h23)) else none) else none else some (.inl (some (.inl (0 : Int32))), h11)) else none) else none
set_option maxRecDepth 20000 in
theorem lq_192 {w : Option Nat} {d : Nat} {a0 : Option Nat} {a1 : Option Nat} {a2 : Option Nat} {h : pm_H} {r : tm_O × pm_H} (hr : ll_192 a0 a1 a2 h = some r) : tm_run pt_P (pt_G (tm_r w)) (d + 1) 192 [.inr (.inr a0), .inr (.inr a1), .inr (.inr a2)] h r := by
  unfold ll_192 at hr
  show pm_to pt_P (pt_G (tm_r w)) (d + 1) (pt_g192, []) (tm_m (0, [(0, .inr (.inr a0)), (1, .inr (.inr a1)), (2, .inr (.inr a2))], [])) h (tm_e r)
  refine tm_n 1 (F' := (1, [(0, .inr (.inr a0)), (1, .inr (.inr a1)), (2, .inr (.inr a2))], [.inr (.inr a0)])) rfl ?_
  obtain ⟨v1, qv1, hr⟩ := Option.bind_eq_some_iff.mp hr
  refine tm_getf rfl (lf_R_V qv1) ?_
  refine tm_n 1 (F' := (5, [(0, .inr (.inr a0)), (1, .inr (.inr a1)), (2, .inr (.inr a2))], [.inr (.inr a1), .inr (.inr v1)])) rfl ?_
  obtain ⟨v2, qv2, hr⟩ := Option.bind_eq_some_iff.mp hr
  refine tm_getf rfl (lf_R_V qv2) ?_
  by_cases c3 : lc_of h v1 = some 5
  · rw [if_pos c3] at hr
    rcases lb_I_s hr with ⟨v4, h5, m6, hr⟩ | ⟨a34, h5, z35, z35l, m6, qz35, rfl⟩
    · try dsimp only at hr
      refine tm_call rfl rfl (tm_callV rfl rfl c3 rfl rfl) (lq_190 m6) ?_
      refine tm_n 1 (F' := (12, [(0, .inr (.inr a0)), (1, .inr (.inr a1)), (2, .inr (.inr a2))], [.inr (.inr a0), .inl v4])) rfl ?_
      obtain ⟨v7, qv7, hr⟩ := Option.bind_eq_some_iff.mp hr
      refine tm_getf rfl (lf_R_V qv7) ?_
      refine tm_n 1 (F' := (16, [(0, .inr (.inr a0)), (1, .inr (.inr a1)), (2, .inr (.inr a2))], [.inr (.inr a2), .inr (.inr v7), .inl v4])) rfl ?_
      obtain ⟨v8, qv8, hr⟩ := Option.bind_eq_some_iff.mp hr
      refine tm_getf rfl (lf_R_V qv8) ?_
      by_cases c9 : lc_of h5 v7 = some 5
      · rw [if_pos c9] at hr
        rcases lb_I_s hr with ⟨v10, h11, m12, hr⟩ | ⟨a32, h11, z33, z33l, m12, qz33, rfl⟩
        · try dsimp only at hr
          refine tm_call rfl rfl (tm_callV rfl rfl c9 rfl rfl) (lq_190 m12) ?_
          refine tm_n 3 (F' := (25, [(3, .inl (v4 - v10)), (0, .inr (.inr a0)), (1, .inr (.inr a1)), (2, .inr (.inr a2))], [.inl (v4 - v10)])) rfl ?_
          by_cases c31 : (v4 - v10) < (0 : Int32)
          · rw [if_pos c31] at hr
            refine tm_ifT rfl c31 ?_
            refine tm_n 2 (F' := (62, [(3, .inl (v4 - v10)), (0, .inr (.inr a0)), (1, .inr (.inr a1)), (2, .inr (.inr a2))], [.inl (1 : Int32)])) rfl ?_
            cases hr
            exact tm_retI rfl rfl
          · rw [if_neg c31] at hr
            refine tm_ifF rfl c31 ?_
            refine tm_n 1 (F' := (29, [(3, .inl (v4 - v10)), (0, .inr (.inr a0)), (1, .inr (.inr a1)), (2, .inr (.inr a2))], [.inl (v4 - v10)])) rfl ?_
            by_cases c30 : (v4 - v10) = (0 : Int32)
            · rw [if_pos c30] at hr
              refine tm_ifF rfl (fun q => q c30) ?_
              refine tm_n 1 (F' := (33, [(3, .inl (v4 - v10)), (0, .inr (.inr a0)), (1, .inr (.inr a1)), (2, .inr (.inr a2))], [.inr (.inr a0)])) rfl ?_
              obtain ⟨v13, qv13, hr⟩ := Option.bind_eq_some_iff.mp hr
              refine tm_getf rfl (lf_R_V qv13) ?_
              refine tm_n 1 (F' := (37, [(3, .inl (v4 - v10)), (0, .inr (.inr a0)), (1, .inr (.inr a1)), (2, .inr (.inr a2))], [.inr (.inr a1), .inr (.inr v13)])) rfl ?_
              obtain ⟨v14, qv14, hr⟩ := Option.bind_eq_some_iff.mp hr
              refine tm_getf rfl (lf_R_V qv14) ?_
              by_cases c15 : lc_of h11 v13 = some 5
              · rw [if_pos c15] at hr
                rcases lb_I_s hr with ⟨v16, h17, m18, hr⟩ | ⟨a28, h17, z29, z29l, m18, qz29, rfl⟩
                · try dsimp only at hr
                  refine tm_call rfl rfl (tm_callV rfl rfl c15 rfl rfl) (lq_190 m18) ?_
                  refine tm_n 1 (F' := (44, [(3, .inl (v4 - v10)), (0, .inr (.inr a0)), (1, .inr (.inr a1)), (2, .inr (.inr a2))], [.inr (.inr a0), .inl v16])) rfl ?_
                  obtain ⟨v19, qv19, hr⟩ := Option.bind_eq_some_iff.mp hr
                  refine tm_getf rfl (lf_R_V qv19) ?_
                  refine tm_n 1 (F' := (48, [(3, .inl (v4 - v10)), (0, .inr (.inr a0)), (1, .inr (.inr a1)), (2, .inr (.inr a2))], [.inr (.inr a2), .inr (.inr v19), .inl v16])) rfl ?_
                  obtain ⟨v20, qv20, hr⟩ := Option.bind_eq_some_iff.mp hr
                  refine tm_getf rfl (lf_R_V qv20) ?_
                  by_cases c21 : lc_of h17 v19 = some 5
                  · rw [if_pos c21] at hr
                    rcases lb_I_s hr with ⟨v22, h23, m24, hr⟩ | ⟨a26, h23, z27, z27l, m24, qz27, rfl⟩
                    · try dsimp only at hr
                      refine tm_call rfl rfl (tm_callV rfl rfl c21 rfl rfl) (lq_190 m24) ?_
                      by_cases c25 : v22 ≤ v16
                      · rw [if_pos c25] at hr
                        refine tm_icT rfl c25 ?_
                        refine tm_n 1 (F' := (62, [(3, .inl (v4 - v10)), (0, .inr (.inr a0)), (1, .inr (.inr a1)), (2, .inr (.inr a2))], [.inl (0 : Int32)])) rfl ?_
                        cases hr
                        exact tm_retI rfl rfl
                      · rw [if_neg c25] at hr
                        refine tm_icF rfl c25 ?_
                        refine tm_n 2 (F' := (62, [(3, .inl (v4 - v10)), (0, .inr (.inr a0)), (1, .inr (.inr a1)), (2, .inr (.inr a2))], [.inl (1 : Int32)])) rfl ?_
                        cases hr
                        exact tm_retI rfl rfl
                    · exact tm_callT rfl rfl (tm_callV rfl rfl c21 rfl rfl) (lq_190 m24) qz27 rfl
                  · rw [if_neg c21] at hr
                    cases hr
                · exact tm_callT rfl rfl (tm_callV rfl rfl c15 rfl rfl) (lq_190 m18) qz29 rfl
              · rw [if_neg c15] at hr
                cases hr
            · rw [if_neg c30] at hr
              refine tm_ifT rfl c30 ?_
              refine tm_n 1 (F' := (62, [(3, .inl (v4 - v10)), (0, .inr (.inr a0)), (1, .inr (.inr a1)), (2, .inr (.inr a2))], [.inl (0 : Int32)])) rfl ?_
              cases hr
              exact tm_retI rfl rfl
        · exact tm_callT rfl rfl (tm_callV rfl rfl c9 rfl rfl) (lq_190 m12) qz33 rfl
      · rw [if_neg c9] at hr
        cases hr
    · exact tm_callT rfl rfl (tm_callV rfl rfl c3 rfl rfl) (lq_190 m6) qz35 rfl
  · rw [if_neg c3] at hr
    cases hr
-- OfficeSheet$Calculator.add(LOfficeSheet$Act;)V
set_option maxRecDepth 20000 in
def l191_45 (x0 : Option Nat) (x1 : Option Nat) (x2 : Int32) (h : pm_H) : tm_L := (lf_R h x0 [2, 0]).bind fun v1 => (la_S pt_P h .aastore v1 x2 (.inr (.inr x1))).bind fun h2 => (lf_R h2 x0 [2, 1]).bind fun v3 => (lf_I h2 x0 [2, 3]).bind fun v4 => (la_S pt_P h2 .lastore v3 v4 (.inr (.inl (0 : Int64)))).bind fun h5 => (lf_R h5 x0 [2, 2]).bind fun v6 => (lf_I h5 x0 [2, 3]).bind fun v7 => (la_S pt_P h5 .bastore v6 v7 (.inl (0 : Int32))).bind fun h8 => (lf_I h8 x0 [2, 3]).bind fun v9 => (lf_P 81 h8 x0 [0, 2, 3] (.inl (v9 + (1 : Int32)))).bind fun h10 => some (.inl none, h10)
set_option maxRecDepth 20000 in
theorem l191_45_t {w : Option Nat} {d : Nat} {x0 : Option Nat} {x1 : Option Nat} {x2 : Int32} {h : pm_H} {r : tm_O × pm_H} (hr : l191_45 x0 x1 x2 h = some r) : pm_to pt_P (pt_G (tm_r w)) (d + 2) (pt_g191, []) (tm_m (45, [(0, .inr (.inr x0)), (1, .inr (.inr x1)), (2, .inl x2)], [])) h (tm_e r) := by
  unfold l191_45 at hr
  refine tm_n 1 (F' := (46, [(0, .inr (.inr x0)), (1, .inr (.inr x1)), (2, .inl x2)], [.inr (.inr x0)])) rfl ?_
  obtain ⟨v1, qv1, hr⟩ := Option.bind_eq_some_iff.mp hr
  refine tm_getf rfl (lf_R_V qv1) ?_
  refine tm_n 2 (F' := (51, [(0, .inr (.inr x0)), (1, .inr (.inr x1)), (2, .inl x2)], [.inr (.inr x1), .inl x2, .inr (.inr v1)])) rfl ?_
  obtain ⟨h2, qh2, hr⟩ := Option.bind_eq_some_iff.mp hr
  refine tm_ast rfl rfl qh2 ?_
  refine tm_n 1 (F' := (53, [(0, .inr (.inr x0)), (1, .inr (.inr x1)), (2, .inl x2)], [.inr (.inr x0)])) rfl ?_
  obtain ⟨v3, qv3, hr⟩ := Option.bind_eq_some_iff.mp hr
  refine tm_getf rfl (lf_R_V qv3) ?_
  refine tm_n 1 (F' := (57, [(0, .inr (.inr x0)), (1, .inr (.inr x1)), (2, .inl x2)], [.inr (.inr x0), .inr (.inr v3)])) rfl ?_
  obtain ⟨v4, qv4, hr⟩ := Option.bind_eq_some_iff.mp hr
  refine tm_getf rfl (lf_I_V qv4) ?_
  refine tm_n 1 (F' := (61, [(0, .inr (.inr x0)), (1, .inr (.inr x1)), (2, .inl x2)], [.inr (.inl (0 : Int64)), .inl v4, .inr (.inr v3)])) rfl ?_
  obtain ⟨h5, qh5, hr⟩ := Option.bind_eq_some_iff.mp hr
  refine tm_ast rfl rfl qh5 ?_
  refine tm_n 1 (F' := (63, [(0, .inr (.inr x0)), (1, .inr (.inr x1)), (2, .inl x2)], [.inr (.inr x0)])) rfl ?_
  obtain ⟨v6, qv6, hr⟩ := Option.bind_eq_some_iff.mp hr
  refine tm_getf rfl (lf_R_V qv6) ?_
  refine tm_n 1 (F' := (67, [(0, .inr (.inr x0)), (1, .inr (.inr x1)), (2, .inl x2)], [.inr (.inr x0), .inr (.inr v6)])) rfl ?_
  obtain ⟨v7, qv7, hr⟩ := Option.bind_eq_some_iff.mp hr
  refine tm_getf rfl (lf_I_V qv7) ?_
  refine tm_n 1 (F' := (71, [(0, .inr (.inr x0)), (1, .inr (.inr x1)), (2, .inl x2)], [.inl (0 : Int32), .inl v7, .inr (.inr v6)])) rfl ?_
  obtain ⟨h8, qh8, hr⟩ := Option.bind_eq_some_iff.mp hr
  refine tm_ast rfl rfl qh8 ?_
  refine tm_n 2 (F' := (74, [(0, .inr (.inr x0)), (1, .inr (.inr x1)), (2, .inl x2)], [.inr (.inr x0), .inr (.inr x0)])) rfl ?_
  obtain ⟨v9, qv9, hr⟩ := Option.bind_eq_some_iff.mp hr
  refine tm_getf rfl (lf_I_V qv9) ?_
  refine tm_n 2 (F' := (79, [(0, .inr (.inr x0)), (1, .inr (.inr x1)), (2, .inl x2)], [.inl (v9 + (1 : Int32)), .inr (.inr x0)])) rfl ?_
  obtain ⟨h10, qh10, hr⟩ := Option.bind_eq_some_iff.mp hr
  refine tm_putf rfl qh10 ?_
  cases hr
  exact tm_retV rfl
set_option maxRecDepth 20000 in
def l191_5 : Nat → Option Nat → Option Nat → Int32 → pm_H → tm_L
  | 0 => fun _ _ _ _ => none
  | n + 1 => fun x0 x1 x2 h => if x2 ≤ (0 : Int32) then l191_45 x0 x1 x2 h else (lf_R h x0 [2, 0]).bind fun v1 => (la_R h .aaload v1 (x2 - (1 : Int32))).bind fun v2 => if lc_of h x0 = some 2 then lb_I (ll_192 x0 x1 v2 h) (fun v4 h5 => if v4 = (0 : Int32) then l191_45 x0 x1 x2 h5 else (lf_R h5 x0 [2, 0]).bind fun v7 => (lf_R h5 x0 [2, 0]).bind fun v8 => (la_R h5 .aaload v8 (x2 - (1 : Int32))).bind fun v9 => (la_S pt_P h5 .aastore v7 x2 (.inr (.inr v9))).bind fun h10 => l191_5 n x0 x1 (x2 + (-1 : Int32)) h10) else none
set_option maxRecDepth 20000 in
theorem l191_5_t {w : Option Nat} {d : Nat} : ∀ (n : Nat) {x0 : Option Nat} {x1 : Option Nat} {x2 : Int32} {h : pm_H} {r : tm_O × pm_H}, l191_5 n x0 x1 x2 h = some r → pm_to pt_P (pt_G (tm_r w)) (d + 2) (pt_g191, []) (tm_m (5, [(0, .inr (.inr x0)), (1, .inr (.inr x1)), (2, .inl x2)], [])) h (tm_e r) := by
  intro n
  induction n with
  | zero => intro x0 x1 x2 h r hr; cases hr
  | succ n ih =>
    intro x0 x1 x2 h r hr
    unfold l191_5 at hr
    refine tm_n 1 (F' := (6, [(0, .inr (.inr x0)), (1, .inr (.inr x1)), (2, .inl x2)], [.inl x2])) rfl ?_
    by_cases c14 : x2 ≤ (0 : Int32)
    · rw [if_pos c14] at hr
      refine tm_ifT rfl c14 ?_
      refine tm_cut (a := [(0, .inr (.inr x0)), (1, .inr (.inr x1)), (2, .inl x2)]) rfl (tm_sbs [0, 1, 2] rfl) ?_
      exact l191_45_t hr
    · rw [if_neg c14] at hr
      refine tm_ifF rfl c14 ?_
      refine tm_n 3 (F' := (12, [(0, .inr (.inr x0)), (1, .inr (.inr x1)), (2, .inl x2)], [.inr (.inr x0), .inr (.inr x1), .inr (.inr x0)])) rfl ?_
      obtain ⟨v1, qv1, hr⟩ := Option.bind_eq_some_iff.mp hr
      refine tm_getf rfl (lf_R_V qv1) ?_
      refine tm_n 3 (F' := (18, [(0, .inr (.inr x0)), (1, .inr (.inr x1)), (2, .inl x2)], [.inl (x2 - (1 : Int32)), .inr (.inr v1), .inr (.inr x1), .inr (.inr x0)])) rfl ?_
      obtain ⟨v2, qv2, hr⟩ := Option.bind_eq_some_iff.mp hr
      refine tm_ald rfl rfl (la_R_V qv2) ?_
      by_cases c3 : lc_of h x0 = some 2
      · rw [if_pos c3] at hr
        rcases lb_I_s hr with ⟨v4, h5, m6, hr⟩ | ⟨a12, h5, z13, z13l, m6, qz13, rfl⟩
        · try dsimp only at hr
          refine tm_call rfl rfl (tm_callV rfl rfl c3 rfl rfl) (lq_192 m6) ?_
          by_cases c11 : v4 = (0 : Int32)
          · rw [if_pos c11] at hr
            refine tm_ifT rfl c11 ?_
            refine tm_cut (a := [(0, .inr (.inr x0)), (1, .inr (.inr x1)), (2, .inl x2)]) rfl (tm_sbs [0, 1, 2] rfl) ?_
            exact l191_45_t hr
          · rw [if_neg c11] at hr
            refine tm_ifF rfl c11 ?_
            refine tm_n 1 (F' := (26, [(0, .inr (.inr x0)), (1, .inr (.inr x1)), (2, .inl x2)], [.inr (.inr x0)])) rfl ?_
            obtain ⟨v7, qv7, hr⟩ := Option.bind_eq_some_iff.mp hr
            refine tm_getf rfl (lf_R_V qv7) ?_
            refine tm_n 2 (F' := (31, [(0, .inr (.inr x0)), (1, .inr (.inr x1)), (2, .inl x2)], [.inr (.inr x0), .inl x2, .inr (.inr v7)])) rfl ?_
            obtain ⟨v8, qv8, hr⟩ := Option.bind_eq_some_iff.mp hr
            refine tm_getf rfl (lf_R_V qv8) ?_
            refine tm_n 3 (F' := (37, [(0, .inr (.inr x0)), (1, .inr (.inr x1)), (2, .inl x2)], [.inl (x2 - (1 : Int32)), .inr (.inr v8), .inl x2, .inr (.inr v7)])) rfl ?_
            obtain ⟨v9, qv9, hr⟩ := Option.bind_eq_some_iff.mp hr
            refine tm_ald rfl rfl (la_R_V qv9) ?_
            obtain ⟨h10, qh10, hr⟩ := Option.bind_eq_some_iff.mp hr
            refine tm_ast rfl rfl qh10 ?_
            refine tm_n 2 (F' := (5, [(2, .inl (x2 + (-1 : Int32))), (0, .inr (.inr x0)), (1, .inr (.inr x1))], [])) rfl ?_
            refine tm_cut (a := [(0, .inr (.inr x0)), (1, .inr (.inr x1)), (2, .inl (x2 + (-1 : Int32)))]) rfl (tm_sbs [1, 2, 0] rfl) ?_
            exact ih hr
        · exact tm_callT rfl rfl (tm_callV rfl rfl c3 rfl rfl) (lq_192 m6) qz13 rfl
      · rw [if_neg c3] at hr
        cases hr
set_option maxRecDepth 20000 in
def ll_191 (a0 : Option Nat) (a1 : Option Nat) (h : pm_H) : tm_L := (lf_I h a0 [2, 3]).bind fun v1 => l191_5 lf_N a0 a1 v1 h
set_option maxRecDepth 20000 in
theorem lq_191 {w : Option Nat} {d : Nat} {a0 : Option Nat} {a1 : Option Nat} {h : pm_H} {r : tm_O × pm_H} (hr : ll_191 a0 a1 h = some r) : tm_run pt_P (pt_G (tm_r w)) (d + 2) 191 [.inr (.inr a0), .inr (.inr a1)] h r := by
  unfold ll_191 at hr
  show pm_to pt_P (pt_G (tm_r w)) (d + 2) (pt_g191, []) (tm_m (0, [(0, .inr (.inr a0)), (1, .inr (.inr a1))], [])) h (tm_e r)
  refine tm_n 1 (F' := (1, [(0, .inr (.inr a0)), (1, .inr (.inr a1))], [.inr (.inr a0)])) rfl ?_
  obtain ⟨v1, qv1, hr⟩ := Option.bind_eq_some_iff.mp hr
  refine tm_getf rfl (lf_I_V qv1) ?_
  refine tm_n 1 (F' := (5, [(2, .inl v1), (0, .inr (.inr a0)), (1, .inr (.inr a1))], [])) rfl ?_
  refine tm_cut (a := [(0, .inr (.inr a0)), (1, .inr (.inr a1)), (2, .inl v1)]) rfl (tm_sbs [1, 2, 0] rfl) ?_
  exact l191_5_t lf_N hr
-- OfficeSheet$Calculator.layOut(LOfficeSheet$Office;)V
set_option maxRecDepth 20000 in
def l188_77 (K27 : Option Nat → Option Nat → Int32 → pm_H → tm_L) (x0 : Option Nat) (x1 : Option Nat) (x2 : Int32) (h : pm_H) : tm_L := K27 x0 x1 (x2 + (1 : Int32)) h
set_option maxRecDepth 20000 in
theorem l188_77_t {w : Option Nat} {d : Nat} {K27 : Option Nat → Option Nat → Int32 → pm_H → tm_L} (hK27 : ∀ {x0 : Option Nat} {x1 : Option Nat} {x2 : Int32}  {h : pm_H} {r : tm_O × pm_H}, K27 x0 x1 x2 h = some r → pm_to pt_P (pt_G (tm_r w)) (d + 3) (pt_g188, []) (tm_m (27, [(0, .inr (.inr x0)), (1, .inr (.inr x1)), (2, .inl x2)], [])) h (tm_e r)) {x0 : Option Nat} {x1 : Option Nat} {x2 : Int32} {h : pm_H} {r : tm_O × pm_H} (hr : l188_77 K27 x0 x1 x2 h = some r) : pm_to pt_P (pt_G (tm_r w)) (d + 3) (pt_g188, []) (tm_m (77, [(0, .inr (.inr x0)), (1, .inr (.inr x1)), (2, .inl x2)], [])) h (tm_e r) := by
  unfold l188_77 at hr
  refine tm_n 2 (F' := (27, [(2, .inl (x2 + (1 : Int32))), (0, .inr (.inr x0)), (1, .inr (.inr x1))], [])) rfl ?_
  refine tm_cut (a := [(0, .inr (.inr x0)), (1, .inr (.inr x1)), (2, .inl (x2 + (1 : Int32)))]) rfl (tm_sbs [1, 2, 0] rfl) ?_
  exact hK27 hr
set_option maxRecDepth 20000 in
def l188_27 : Nat → Option Nat → Option Nat → Int32 → pm_H → tm_L
  | 0 => fun _ _ _ _ => none
  | n + 1 => fun x0 x1 x2 h => (lf_R h x1 [4, 4]).bind fun v1 => if lc_of h v1 = some 12 then lb_I (ll_86 v1 h) (fun v3 h4 => if v3 ≤ x2 then some (.inl none, h4) else (lf_R h4 x1 [4, 4]).bind fun v6 => if lc_of h4 v6 = some 12 then lb_R (ll_87 v6 x2 h4) (fun v8 h9 => if lf_cc 81 h9 v8 [7] = true then (lf_R h9 v8 [7, 10]).bind fun v12 => match v12 with | none => (l188_77 (l188_27 n) x0 x1 x2 h9) | some a13 => ((lf_R h9 v8 [7, 8]).bind fun v14 => (lf_R h9 v8 [7, 9]).bind fun v15 => if lc_of h9 x0 = some 2 then lb_I (ll_189 x0 v14 v15 h9) (fun v17 h18 => if v17 = (0 : Int32) then l188_77 (l188_27 n) x0 x1 x2 h18 else if lc_of h18 x0 = some 2 then lb_V (ll_191 x0 v8 h18) (fun h22 => l188_77 (l188_27 n) x0 x1 x2 h22) else none) else none) else none) else none) else none
set_option maxRecDepth 20000 in
theorem l188_27_t {w : Option Nat} {d : Nat} : ∀ (n : Nat) {x0 : Option Nat} {x1 : Option Nat} {x2 : Int32} {h : pm_H} {r : tm_O × pm_H}, l188_27 n x0 x1 x2 h = some r → pm_to pt_P (pt_G (tm_r w)) (d + 3) (pt_g188, []) (tm_m (27, [(0, .inr (.inr x0)), (1, .inr (.inr x1)), (2, .inl x2)], [])) h (tm_e r) := by
  intro n
  induction n with
  | zero => intro x0 x1 x2 h r hr; cases hr
  | succ n ih =>
    intro x0 x1 x2 h r hr
    unfold l188_27 at hr
    refine tm_n 2 (F' := (29, [(0, .inr (.inr x0)), (1, .inr (.inr x1)), (2, .inl x2)], [.inr (.inr x1), .inl x2])) rfl ?_
    obtain ⟨v1, qv1, hr⟩ := Option.bind_eq_some_iff.mp hr
    refine tm_getf rfl (lf_R_V qv1) ?_
    by_cases c2 : lc_of h v1 = some 12
    · rw [if_pos c2] at hr
      rcases lb_I_s hr with ⟨v3, h4, m5, hr⟩ | ⟨a32, h4, z33, z33l, m5, qz33, rfl⟩
      · try dsimp only at hr
        refine tm_call rfl rfl (tm_callV rfl rfl c2 rfl rfl) (lq_86 m5) ?_
        by_cases c31 : v3 ≤ x2
        · rw [if_pos c31] at hr
          refine tm_icT rfl c31 ?_
          cases hr
          exact tm_retV rfl
        · rw [if_neg c31] at hr
          refine tm_icF rfl c31 ?_
          refine tm_n 1 (F' := (39, [(0, .inr (.inr x0)), (1, .inr (.inr x1)), (2, .inl x2)], [.inr (.inr x1)])) rfl ?_
          obtain ⟨v6, qv6, hr⟩ := Option.bind_eq_some_iff.mp hr
          refine tm_getf rfl (lf_R_V qv6) ?_
          refine tm_n 1 (F' := (43, [(0, .inr (.inr x0)), (1, .inr (.inr x1)), (2, .inl x2)], [.inl x2, .inr (.inr v6)])) rfl ?_
          by_cases c7 : lc_of h4 v6 = some 12
          · rw [if_pos c7] at hr
            rcases lb_R_s hr with ⟨v8, h9, m10, hr⟩ | ⟨a29, h9, z30, z30l, m10, qz30, rfl⟩
            · try dsimp only at hr
              refine tm_call rfl rfl (tm_callV rfl rfl c7 rfl rfl) (lq_87 m10) ?_
              by_cases c11 : lf_cc 81 h9 v8 [7] = true
              · rw [if_pos c11] at hr
                refine tm_cc rfl c11 ?_
                refine tm_n 2 (F' := (51, [(3, .inr (.inr v8)), (0, .inr (.inr x0)), (1, .inr (.inr x1)), (2, .inl x2)], [.inr (.inr v8)])) rfl ?_
                obtain ⟨v12, qv12, hr⟩ := Option.bind_eq_some_iff.mp hr
                refine tm_getf rfl (lf_R_V qv12) ?_
                cases v12 with
                | none =>
                  try dsimp only at hr
                  refine tm_nuT rfl ?_
                  refine tm_cut (a := [(0, .inr (.inr x0)), (1, .inr (.inr x1)), (2, .inl x2)]) rfl (tm_sbs [1, 2, 3] rfl) ?_
                  exact l188_77_t (fun hr => ih hr) hr
                | some a13 =>
                  try dsimp only at hr
                  refine tm_nuF rfl ?_
                  refine tm_n 2 (F' := (59, [(3, .inr (.inr v8)), (0, .inr (.inr x0)), (1, .inr (.inr x1)), (2, .inl x2)], [.inr (.inr v8), .inr (.inr x0)])) rfl ?_
                  obtain ⟨v14, qv14, hr⟩ := Option.bind_eq_some_iff.mp hr
                  refine tm_getf rfl (lf_R_V qv14) ?_
                  refine tm_n 1 (F' := (63, [(3, .inr (.inr v8)), (0, .inr (.inr x0)), (1, .inr (.inr x1)), (2, .inl x2)], [.inr (.inr v8), .inr (.inr v14), .inr (.inr x0)])) rfl ?_
                  obtain ⟨v15, qv15, hr⟩ := Option.bind_eq_some_iff.mp hr
                  refine tm_getf rfl (lf_R_V qv15) ?_
                  by_cases c16 : lc_of h9 x0 = some 2
                  · rw [if_pos c16] at hr
                    rcases lb_I_s hr with ⟨v17, h18, m19, hr⟩ | ⟨a27, h18, z28, z28l, m19, qz28, rfl⟩
                    · try dsimp only at hr
                      refine tm_call rfl rfl (tm_callV rfl rfl c16 rfl rfl) (lq_189 m19) ?_
                      by_cases c26 : v17 = (0 : Int32)
                      · rw [if_pos c26] at hr
                        refine tm_ifT rfl c26 ?_
                        refine tm_cut (a := [(0, .inr (.inr x0)), (1, .inr (.inr x1)), (2, .inl x2)]) rfl (tm_sbs [1, 2, 3] rfl) ?_
                        exact l188_77_t (fun hr => ih hr) hr
                      · rw [if_neg c26] at hr
                        refine tm_ifF rfl c26 ?_
                        refine tm_n 2 (F' := (74, [(3, .inr (.inr v8)), (0, .inr (.inr x0)), (1, .inr (.inr x1)), (2, .inl x2)], [.inr (.inr v8), .inr (.inr x0)])) rfl ?_
                        by_cases c20 : lc_of h18 x0 = some 2
                        · rw [if_pos c20] at hr
                          rcases lb_V_s hr with ⟨h22, m23, hr⟩ | ⟨a24, h22, z25, z25l, m23, qz25, rfl⟩
                          · try dsimp only at hr
                            refine tm_call rfl rfl (tm_callV rfl rfl c20 rfl rfl) (lq_191 m23) ?_
                            refine tm_cut (a := [(0, .inr (.inr x0)), (1, .inr (.inr x1)), (2, .inl x2)]) rfl (tm_sbs [1, 2, 3] rfl) ?_
                            exact l188_77_t (fun hr => ih hr) hr
                          · exact tm_callT rfl rfl (tm_callV rfl rfl c20 rfl rfl) (lq_191 m23) qz25 rfl
                        · rw [if_neg c20] at hr
                          cases hr
                    · exact tm_callT rfl rfl (tm_callV rfl rfl c16 rfl rfl) (lq_189 m19) qz28 rfl
                  · rw [if_neg c16] at hr
                    cases hr
              · rw [if_neg c11] at hr
                cases hr
            · exact tm_callT rfl rfl (tm_callV rfl rfl c7 rfl rfl) (lq_87 m10) qz30 rfl
          · rw [if_neg c7] at hr
            cases hr
      · exact tm_callT rfl rfl (tm_callV rfl rfl c2 rfl rfl) (lq_86 m5) qz33 rfl
    · rw [if_neg c2] at hr
      cases hr
set_option maxRecDepth 20000 in
def ll_188 (a0 : Option Nat) (a1 : Option Nat) (h : pm_H) : tm_L := (lf_R h a1 [4, 3]).bind fun v1 => (la_R h .aaload v1 (0 : Int32)).bind fun v2 => (lf_P 81 h a0 [2, 2, 4] (.inr (.inr v2))).bind fun h3 => (lf_R h3 a1 [4, 3]).bind fun v4 => (la_R h3 .aaload v4 (1 : Int32)).bind fun v5 => (lf_P 81 h3 a0 [2, 2, 5] (.inr (.inr v5))).bind fun h6 => (lf_P 81 h6 a0 [0, 2, 3] (.inl (0 : Int32))).bind fun h7 => l188_27 lf_N a0 a1 (0 : Int32) h7
set_option maxRecDepth 20000 in
theorem lq_188 {w : Option Nat} {d : Nat} {a0 : Option Nat} {a1 : Option Nat} {h : pm_H} {r : tm_O × pm_H} (hr : ll_188 a0 a1 h = some r) : tm_run pt_P (pt_G (tm_r w)) (d + 3) 188 [.inr (.inr a0), .inr (.inr a1)] h r := by
  unfold ll_188 at hr
  show pm_to pt_P (pt_G (tm_r w)) (d + 3) (pt_g188, []) (tm_m (0, [(0, .inr (.inr a0)), (1, .inr (.inr a1))], [])) h (tm_e r)
  refine tm_n 2 (F' := (2, [(0, .inr (.inr a0)), (1, .inr (.inr a1))], [.inr (.inr a1), .inr (.inr a0)])) rfl ?_
  obtain ⟨v1, qv1, hr⟩ := Option.bind_eq_some_iff.mp hr
  refine tm_getf rfl (lf_R_V qv1) ?_
  refine tm_n 1 (F' := (6, [(0, .inr (.inr a0)), (1, .inr (.inr a1))], [.inl (0 : Int32), .inr (.inr v1), .inr (.inr a0)])) rfl ?_
  obtain ⟨v2, qv2, hr⟩ := Option.bind_eq_some_iff.mp hr
  refine tm_ald rfl rfl (la_R_V qv2) ?_
  obtain ⟨h3, qh3, hr⟩ := Option.bind_eq_some_iff.mp hr
  refine tm_putf rfl qh3 ?_
  refine tm_n 2 (F' := (12, [(0, .inr (.inr a0)), (1, .inr (.inr a1))], [.inr (.inr a1), .inr (.inr a0)])) rfl ?_
  obtain ⟨v4, qv4, hr⟩ := Option.bind_eq_some_iff.mp hr
  refine tm_getf rfl (lf_R_V qv4) ?_
  refine tm_n 1 (F' := (16, [(0, .inr (.inr a0)), (1, .inr (.inr a1))], [.inl (1 : Int32), .inr (.inr v4), .inr (.inr a0)])) rfl ?_
  obtain ⟨v5, qv5, hr⟩ := Option.bind_eq_some_iff.mp hr
  refine tm_ald rfl rfl (la_R_V qv5) ?_
  obtain ⟨h6, qh6, hr⟩ := Option.bind_eq_some_iff.mp hr
  refine tm_putf rfl qh6 ?_
  refine tm_n 2 (F' := (22, [(0, .inr (.inr a0)), (1, .inr (.inr a1))], [.inl (0 : Int32), .inr (.inr a0)])) rfl ?_
  obtain ⟨h7, qh7, hr⟩ := Option.bind_eq_some_iff.mp hr
  refine tm_putf rfl qh7 ?_
  refine tm_n 2 (F' := (27, [(2, .inl (0 : Int32)), (0, .inr (.inr a0)), (1, .inr (.inr a1))], [])) rfl ?_
  refine tm_cut (a := [(0, .inr (.inr a0)), (1, .inr (.inr a1)), (2, .inl (0 : Int32))]) rfl (tm_sbs [1, 2, 0] rfl) ?_
  exact l188_27_t lf_N hr
-- OfficeSheet$Calculator.ofError(I)J
set_option maxRecDepth 20000 in
def ll_195 (a0 : Int32) (h : pm_H) : tm_L := some (.inl (some (.inr (.inl ((1000000000 : Int64) + (Int32.toInt64 a0))))), h)
set_option maxRecDepth 20000 in
theorem lq_195 {w : Option Nat} {d : Nat} {a0 : Int32} {h : pm_H} {r : tm_O × pm_H} (hr : ll_195 a0 h = some r) : tm_run pt_P (pt_G (tm_r w)) (d + 0) 195 [.inl a0] h r := by
  unfold ll_195 at hr
  show pm_to pt_P (pt_G (tm_r w)) (d + 0) (pt_g195, []) (tm_m (0, [(0, .inl a0)], [])) h (tm_e r)
  refine tm_n 4 (F' := (6, [(0, .inl a0)], [.inr (.inl ((1000000000 : Int64) + (Int32.toInt64 a0)))])) rfl ?_
  cases hr
  exact tm_retJ rfl
-- OfficeSheet$Calculator.cellOf(LOfficeSheet$Line;LOfficeSheet$Line;)I
set_option maxRecDepth 20000 in
def l196_2 : Nat → Option Nat → Option Nat → Option Nat → Int32 → pm_H → tm_L
  | 0 => fun _ _ _ _ _ => none
  | n + 1 => fun x0 x1 x2 x3 h => (lf_I h x0 [2, 3]).bind fun v1 => if v1 ≤ x3 then some (.inl (some (.inl (-1 : Int32))), h) else (lf_R h x0 [2, 0]).bind fun v2 => (la_R h .aaload v2 x3).bind fun v3 => if lc_of h v3 = some 7 then lb_I (ll_102 v3 x1 x2 h) (fun v5 h6 => if v5 = (0 : Int32) then l196_2 n x0 x1 x2 (x3 + (1 : Int32)) h6 else some (.inl (some (.inl x3)), h6)) else none
set_option maxRecDepth 20000 in
theorem l196_2_t {w : Option Nat} {d : Nat} : ∀ (n : Nat) {x0 : Option Nat} {x1 : Option Nat} {x2 : Option Nat} {x3 : Int32} {h : pm_H} {r : tm_O × pm_H}, l196_2 n x0 x1 x2 x3 h = some r → pm_to pt_P (pt_G (tm_r w)) (d + 1) (pt_g196, []) (tm_m (2, [(0, .inr (.inr x0)), (1, .inr (.inr x1)), (2, .inr (.inr x2)), (3, .inl x3)], [])) h (tm_e r) := by
  intro n
  induction n with
  | zero => intro x0 x1 x2 x3 h r hr; cases hr
  | succ n ih =>
    intro x0 x1 x2 x3 h r hr
    unfold l196_2 at hr
    refine tm_n 2 (F' := (4, [(0, .inr (.inr x0)), (1, .inr (.inr x1)), (2, .inr (.inr x2)), (3, .inl x3)], [.inr (.inr x0), .inl x3])) rfl ?_
    obtain ⟨v1, qv1, hr⟩ := Option.bind_eq_some_iff.mp hr
    refine tm_getf rfl (lf_I_V qv1) ?_
    by_cases c11 : v1 ≤ x3
    · rw [if_pos c11] at hr
      refine tm_icT rfl c11 ?_
      refine tm_n 1 (F' := (33, [(0, .inr (.inr x0)), (1, .inr (.inr x1)), (2, .inr (.inr x2)), (3, .inl x3)], [.inl (-1 : Int32)])) rfl ?_
      cases hr
      exact tm_retI rfl rfl
    · rw [if_neg c11] at hr
      refine tm_icF rfl c11 ?_
      refine tm_n 1 (F' := (11, [(0, .inr (.inr x0)), (1, .inr (.inr x1)), (2, .inr (.inr x2)), (3, .inl x3)], [.inr (.inr x0)])) rfl ?_
      obtain ⟨v2, qv2, hr⟩ := Option.bind_eq_some_iff.mp hr
      refine tm_getf rfl (lf_R_V qv2) ?_
      refine tm_n 1 (F' := (15, [(0, .inr (.inr x0)), (1, .inr (.inr x1)), (2, .inr (.inr x2)), (3, .inl x3)], [.inl x3, .inr (.inr v2)])) rfl ?_
      obtain ⟨v3, qv3, hr⟩ := Option.bind_eq_some_iff.mp hr
      refine tm_ald rfl rfl (la_R_V qv3) ?_
      refine tm_n 2 (F' := (18, [(0, .inr (.inr x0)), (1, .inr (.inr x1)), (2, .inr (.inr x2)), (3, .inl x3)], [.inr (.inr x2), .inr (.inr x1), .inr (.inr v3)])) rfl ?_
      by_cases c4 : lc_of h v3 = some 7
      · rw [if_pos c4] at hr
        rcases lb_I_s hr with ⟨v5, h6, m7, hr⟩ | ⟨a9, h6, z10, z10l, m7, qz10, rfl⟩
        · try dsimp only at hr
          refine tm_call rfl rfl (tm_callV rfl rfl c4 rfl rfl) (lq_102 m7) ?_
          by_cases c8 : v5 = (0 : Int32)
          · rw [if_pos c8] at hr
            refine tm_ifT rfl c8 ?_
            refine tm_n 2 (F' := (2, [(3, .inl (x3 + (1 : Int32))), (0, .inr (.inr x0)), (1, .inr (.inr x1)), (2, .inr (.inr x2))], [])) rfl ?_
            refine tm_cut (a := [(0, .inr (.inr x0)), (1, .inr (.inr x1)), (2, .inr (.inr x2)), (3, .inl (x3 + (1 : Int32)))]) rfl (tm_sbs [1, 2, 3, 0] rfl) ?_
            exact ih hr
          · rw [if_neg c8] at hr
            refine tm_ifF rfl c8 ?_
            refine tm_n 1 (F' := (25, [(0, .inr (.inr x0)), (1, .inr (.inr x1)), (2, .inr (.inr x2)), (3, .inl x3)], [.inl x3])) rfl ?_
            cases hr
            exact tm_retI rfl rfl
        · exact tm_callT rfl rfl (tm_callV rfl rfl c4 rfl rfl) (lq_102 m7) qz10 rfl
      · rw [if_neg c4] at hr
        cases hr
set_option maxRecDepth 20000 in
def ll_196 (a0 : Option Nat) (a1 : Option Nat) (a2 : Option Nat) (h : pm_H) : tm_L := l196_2 lf_N a0 a1 a2 (0 : Int32) h
set_option maxRecDepth 20000 in
theorem lq_196 {w : Option Nat} {d : Nat} {a0 : Option Nat} {a1 : Option Nat} {a2 : Option Nat} {h : pm_H} {r : tm_O × pm_H} (hr : ll_196 a0 a1 a2 h = some r) : tm_run pt_P (pt_G (tm_r w)) (d + 1) 196 [.inr (.inr a0), .inr (.inr a1), .inr (.inr a2)] h r := by
  unfold ll_196 at hr
  show pm_to pt_P (pt_G (tm_r w)) (d + 1) (pt_g196, []) (tm_m (0, [(0, .inr (.inr a0)), (1, .inr (.inr a1)), (2, .inr (.inr a2))], [])) h (tm_e r)
  refine tm_n 2 (F' := (2, [(3, .inl (0 : Int32)), (0, .inr (.inr a0)), (1, .inr (.inr a1)), (2, .inr (.inr a2))], [])) rfl ?_
  refine tm_cut (a := [(0, .inr (.inr a0)), (1, .inr (.inr a1)), (2, .inr (.inr a2)), (3, .inl (0 : Int32))]) rfl (tm_sbs [1, 2, 3, 0] rfl) ?_
  exact l196_2_t lf_N hr
-- OfficeSheet$Calculator.lookAt(I)J
set_option maxRecDepth 20000 in
def l197_22 (x0 : Option Nat) (x1 : Int32) (s0 : Int32) (s1 : Option Nat) (h : pm_H) : tm_L := (lf_P 81 h s1 [3, 2, 6] (.inl s0)).bind fun h1 => (lf_R h1 x0 [2, 1]).bind fun v2 => (la_J h1 .laload v2 x1).bind fun v3 => some (.inl (some (.inr (.inl v3))), h1)
set_option maxRecDepth 20000 in
theorem l197_22_t {w : Option Nat} {d : Nat} {x0 : Option Nat} {x1 : Int32} {s0 : Int32} {s1 : Option Nat} {h : pm_H} {r : tm_O × pm_H} (hr : l197_22 x0 x1 s0 s1 h = some r) : pm_to pt_P (pt_G (tm_r w)) (d + 0) (pt_g197, []) (tm_m (22, [(0, .inr (.inr x0)), (1, .inl x1)], [.inl s0, .inr (.inr s1)])) h (tm_e r) := by
  unfold l197_22 at hr
  obtain ⟨h1, qh1, hr⟩ := Option.bind_eq_some_iff.mp hr
  refine tm_putf rfl qh1 ?_
  refine tm_n 1 (F' := (26, [(0, .inr (.inr x0)), (1, .inl x1)], [.inr (.inr x0)])) rfl ?_
  obtain ⟨v2, qv2, hr⟩ := Option.bind_eq_some_iff.mp hr
  refine tm_getf rfl (lf_R_V qv2) ?_
  refine tm_n 1 (F' := (30, [(0, .inr (.inr x0)), (1, .inl x1)], [.inl x1, .inr (.inr v2)])) rfl ?_
  obtain ⟨v3, qv3, hr⟩ := Option.bind_eq_some_iff.mp hr
  refine tm_ald rfl rfl (la_J_V qv3) ?_
  cases hr
  exact tm_retJ rfl
set_option maxRecDepth 20000 in
def l197_17 (x0 : Option Nat) (x1 : Int32) (s0 : Option Nat) (h : pm_H) : tm_L := l197_22 x0 x1 (1 : Int32) s0 h
set_option maxRecDepth 20000 in
theorem l197_17_t {w : Option Nat} {d : Nat} {x0 : Option Nat} {x1 : Int32} {s0 : Option Nat} {h : pm_H} {r : tm_O × pm_H} (hr : l197_17 x0 x1 s0 h = some r) : pm_to pt_P (pt_G (tm_r w)) (d + 0) (pt_g197, []) (tm_m (17, [(0, .inr (.inr x0)), (1, .inl x1)], [.inr (.inr s0)])) h (tm_e r) := by
  unfold l197_17 at hr
  refine tm_n 2 (F' := (22, [(0, .inr (.inr x0)), (1, .inl x1)], [.inl (1 : Int32), .inr (.inr s0)])) rfl ?_
  refine tm_cut (a := [(0, .inr (.inr x0)), (1, .inl x1)]) rfl (tm_sbs [0, 1] rfl) ?_
  exact l197_22_t hr
set_option maxRecDepth 20000 in
def ll_197 (a0 : Option Nat) (a1 : Int32) (h : pm_H) : tm_L := (lf_I h a0 [2, 6]).bind fun v1 => if v1 = (0 : Int32) then (lf_R h a0 [2, 2]).bind fun v2 => (la_I h .baload v2 a1).bind fun v3 => if v3 = (0 : Int32) then l197_17 a0 a1 a0 h else l197_22 a0 a1 (0 : Int32) a0 h else l197_17 a0 a1 a0 h
set_option maxRecDepth 20000 in
theorem lq_197 {w : Option Nat} {d : Nat} {a0 : Option Nat} {a1 : Int32} {h : pm_H} {r : tm_O × pm_H} (hr : ll_197 a0 a1 h = some r) : tm_run pt_P (pt_G (tm_r w)) (d + 0) 197 [.inr (.inr a0), .inl a1] h r := by
  unfold ll_197 at hr
  show pm_to pt_P (pt_G (tm_r w)) (d + 0) (pt_g197, []) (tm_m (0, [(0, .inr (.inr a0)), (1, .inl a1)], [])) h (tm_e r)
  refine tm_n 2 (F' := (2, [(0, .inr (.inr a0)), (1, .inl a1)], [.inr (.inr a0), .inr (.inr a0)])) rfl ?_
  obtain ⟨v1, qv1, hr⟩ := Option.bind_eq_some_iff.mp hr
  refine tm_getf rfl (lf_I_V qv1) ?_
  by_cases c5 : v1 = (0 : Int32)
  · rw [if_pos c5] at hr
    refine tm_ifF rfl (fun q => q c5) ?_
    refine tm_n 1 (F' := (9, [(0, .inr (.inr a0)), (1, .inl a1)], [.inr (.inr a0), .inr (.inr a0)])) rfl ?_
    obtain ⟨v2, qv2, hr⟩ := Option.bind_eq_some_iff.mp hr
    refine tm_getf rfl (lf_R_V qv2) ?_
    refine tm_n 1 (F' := (13, [(0, .inr (.inr a0)), (1, .inl a1)], [.inl a1, .inr (.inr v2), .inr (.inr a0)])) rfl ?_
    obtain ⟨v3, qv3, hr⟩ := Option.bind_eq_some_iff.mp hr
    refine tm_ald rfl rfl (la_I_V qv3) ?_
    by_cases c4 : v3 = (0 : Int32)
    · rw [if_pos c4] at hr
      refine tm_ifF rfl (fun q => q c4) ?_
      refine tm_cut (a := [(0, .inr (.inr a0)), (1, .inl a1)]) rfl (tm_sbs [0, 1] rfl) ?_
      exact l197_17_t hr
    · rw [if_neg c4] at hr
      refine tm_ifT rfl c4 ?_
      refine tm_n 1 (F' := (22, [(0, .inr (.inr a0)), (1, .inl a1)], [.inl (0 : Int32), .inr (.inr a0)])) rfl ?_
      refine tm_cut (a := [(0, .inr (.inr a0)), (1, .inl a1)]) rfl (tm_sbs [0, 1] rfl) ?_
      exact l197_22_t hr
  · rw [if_neg c5] at hr
    refine tm_ifT rfl c5 ?_
    refine tm_cut (a := [(0, .inr (.inr a0)), (1, .inl a1)]) rfl (tm_sbs [0, 1] rfl) ?_
    exact l197_17_t hr
-- OfficeSheet$Calculator.ofReference(LOfficeSheet$Part;)J
set_option maxRecDepth 20000 in
def ll_194 (a0 : Option Nat) (a1 : Option Nat) (h : pm_H) : tm_L := (lf_R h a1 [9, 4]).bind fun v1 => (lf_R h a1 [9, 5]).bind fun v2 => if lc_of h a0 = some 2 then lb_I (ll_189 a0 v1 v2 h) (fun v4 h5 => if v4 = (0 : Int32) then lb_J (ll_195 (2 : Int32) h5) (fun v7 h8 => some (.inl (some (.inr (.inl v7))), h8)) else (lf_R h5 a1 [9, 4]).bind fun v12 => (lf_R h5 a1 [9, 5]).bind fun v13 => if lc_of h5 a0 = some 2 then lb_I (ll_196 a0 v12 v13 h5) (fun v15 h16 => if v15 = (-1 : Int32) then some (.inl (some (.inr (.inl (0 : Int64)))), h16) else if lc_of h16 a0 = some 2 then lb_J (ll_197 a0 v15 h16) (fun v19 h20 => some (.inl (some (.inr (.inl v19))), h20)) else none) else none) else none
set_option maxRecDepth 20000 in
theorem lq_194 {w : Option Nat} {d : Nat} {a0 : Option Nat} {a1 : Option Nat} {h : pm_H} {r : tm_O × pm_H} (hr : ll_194 a0 a1 h = some r) : tm_run pt_P (pt_G (tm_r w)) (d + 2) 194 [.inr (.inr a0), .inr (.inr a1)] h r := by
  unfold ll_194 at hr
  show pm_to pt_P (pt_G (tm_r w)) (d + 2) (pt_g194, []) (tm_m (0, [(0, .inr (.inr a0)), (1, .inr (.inr a1))], [])) h (tm_e r)
  refine tm_n 2 (F' := (2, [(0, .inr (.inr a0)), (1, .inr (.inr a1))], [.inr (.inr a1), .inr (.inr a0)])) rfl ?_
  obtain ⟨v1, qv1, hr⟩ := Option.bind_eq_some_iff.mp hr
  refine tm_getf rfl (lf_R_V qv1) ?_
  refine tm_n 1 (F' := (6, [(0, .inr (.inr a0)), (1, .inr (.inr a1))], [.inr (.inr a1), .inr (.inr v1), .inr (.inr a0)])) rfl ?_
  obtain ⟨v2, qv2, hr⟩ := Option.bind_eq_some_iff.mp hr
  refine tm_getf rfl (lf_R_V qv2) ?_
  by_cases c3 : lc_of h a0 = some 2
  · rw [if_pos c3] at hr
    rcases lb_I_s hr with ⟨v4, h5, m6, hr⟩ | ⟨a28, h5, z29, z29l, m6, qz29, rfl⟩
    · try dsimp only at hr
      refine tm_call rfl rfl (tm_callV rfl rfl c3 rfl rfl) (lq_189 m6) ?_
      by_cases c27 : v4 = (0 : Int32)
      · rw [if_pos c27] at hr
        refine tm_ifF rfl (fun q => q c27) ?_
        refine tm_n 1 (F' := (16, [(0, .inr (.inr a0)), (1, .inr (.inr a1))], [.inl (2 : Int32)])) rfl ?_
        rcases lb_J_s hr with ⟨v7, h8, m9, hr⟩ | ⟨a10, h8, z11, z11l, m9, qz11, rfl⟩
        · try dsimp only at hr
          refine tm_call rfl rfl (tm_callS rfl rfl) (lq_195 m9) ?_
          cases hr
          exact tm_retJ rfl
        · exact tm_callT rfl rfl (tm_callS rfl rfl) (lq_195 m9) qz11 rfl
      · rw [if_neg c27] at hr
        refine tm_ifT rfl c27 ?_
        refine tm_n 2 (F' := (22, [(0, .inr (.inr a0)), (1, .inr (.inr a1))], [.inr (.inr a1), .inr (.inr a0)])) rfl ?_
        obtain ⟨v12, qv12, hr⟩ := Option.bind_eq_some_iff.mp hr
        refine tm_getf rfl (lf_R_V qv12) ?_
        refine tm_n 1 (F' := (26, [(0, .inr (.inr a0)), (1, .inr (.inr a1))], [.inr (.inr a1), .inr (.inr v12), .inr (.inr a0)])) rfl ?_
        obtain ⟨v13, qv13, hr⟩ := Option.bind_eq_some_iff.mp hr
        refine tm_getf rfl (lf_R_V qv13) ?_
        by_cases c14 : lc_of h5 a0 = some 2
        · rw [if_pos c14] at hr
          rcases lb_I_s hr with ⟨v15, h16, m17, hr⟩ | ⟨a25, h16, z26, z26l, m17, qz26, rfl⟩
          · try dsimp only at hr
            refine tm_call rfl rfl (tm_callV rfl rfl c14 rfl rfl) (lq_196 m17) ?_
            refine tm_n 3 (F' := (35, [(2, .inl v15), (0, .inr (.inr a0)), (1, .inr (.inr a1))], [.inl (-1 : Int32), .inl v15])) rfl ?_
            by_cases c24 : v15 = (-1 : Int32)
            · rw [if_pos c24] at hr
              refine tm_icF rfl (fun q => q c24) ?_
              refine tm_n 2 (F' := (47, [(2, .inl v15), (0, .inr (.inr a0)), (1, .inr (.inr a1))], [.inr (.inl (0 : Int64))])) rfl ?_
              cases hr
              exact tm_retJ rfl
            · rw [if_neg c24] at hr
              refine tm_icT rfl c24 ?_
              refine tm_n 2 (F' := (44, [(2, .inl v15), (0, .inr (.inr a0)), (1, .inr (.inr a1))], [.inl v15, .inr (.inr a0)])) rfl ?_
              by_cases c18 : lc_of h16 a0 = some 2
              · rw [if_pos c18] at hr
                rcases lb_J_s hr with ⟨v19, h20, m21, hr⟩ | ⟨a22, h20, z23, z23l, m21, qz23, rfl⟩
                · try dsimp only at hr
                  refine tm_call rfl rfl (tm_callV rfl rfl c18 rfl rfl) (lq_197 m21) ?_
                  cases hr
                  exact tm_retJ rfl
                · exact tm_callT rfl rfl (tm_callV rfl rfl c18 rfl rfl) (lq_197 m21) qz23 rfl
              · rw [if_neg c18] at hr
                cases hr
          · exact tm_callT rfl rfl (tm_callV rfl rfl c14 rfl rfl) (lq_196 m17) qz26 rfl
        · rw [if_neg c14] at hr
          cases hr
    · exact tm_callT rfl rfl (tm_callV rfl rfl c3 rfl rfl) (lq_189 m6) qz29 rfl
  · rw [if_neg c3] at hr
    cases hr
-- OfficeSheet$Calculator.isError(J)Z
set_option maxRecDepth 20000 in
def ll_198 (a0 : Int64) (h : pm_H) : tm_L := if (lg_cmp a0 (1000000000 : Int64)) ≤ (0 : Int32) then some (.inl (some (.inl (0 : Int32))), h) else some (.inl (some (.inl (1 : Int32))), h)
set_option maxRecDepth 20000 in
theorem lq_198 {w : Option Nat} {d : Nat} {a0 : Int64} {h : pm_H} {r : tm_O × pm_H} (hr : ll_198 a0 h = some r) : tm_run pt_P (pt_G (tm_r w)) (d + 0) 198 [.inr (.inl a0)] h r := by
  unfold ll_198 at hr
  show pm_to pt_P (pt_G (tm_r w)) (d + 0) (pt_g198, []) (tm_m (0, [(0, .inr (.inl a0))], [])) h (tm_e r)
  refine tm_n 3 (F' := (5, [(0, .inr (.inl a0))], [.inl (lg_cmp a0 (1000000000 : Int64))])) rfl ?_
  by_cases c1 : (lg_cmp a0 (1000000000 : Int64)) ≤ (0 : Int32)
  · rw [if_pos c1] at hr
    refine tm_ifT rfl c1 ?_
    refine tm_n 1 (F' := (13, [(0, .inr (.inl a0))], [.inl (0 : Int32)])) rfl ?_
    cases hr
    exact tm_retI rfl rfl
  · rw [if_neg c1] at hr
    refine tm_ifF rfl c1 ?_
    refine tm_n 2 (F' := (13, [(0, .inr (.inl a0))], [.inl (1 : Int32)])) rfl ?_
    cases hr
    exact tm_retI rfl rfl
-- OfficeSheet$Axis.standsWithin(LOfficeSheet$Line;LOfficeSheet$Line;LOfficeSheet$Line;)Z
set_option maxRecDepth 20000 in
def ll_201 (a0 : Option Nat) (a1 : Option Nat) (a2 : Option Nat) (a3 : Option Nat) (h : pm_H) : tm_L := if lc_of h a0 = some 5 then lb_I (ll_190 a0 a2 h) (fun v2 h3 => if lc_of h3 a0 = some 5 then lb_I (ll_190 a0 a3 h3) (fun v6 h7 => if lc_of h7 a0 = some 5 then lb_I (ll_190 a0 a1 h7) (fun v10 h11 => lb_I (ll_27 v2 v6 h11) (fun v13 h14 => if v10 < v13 then some (.inl (some (.inl (0 : Int32))), h14) else lb_I (ll_24 v2 v6 h14) (fun v16 h17 => if v16 < v10 then some (.inl (some (.inl (0 : Int32))), h17) else some (.inl (some (.inl (1 : Int32))), h17)))) else none) else none) else none
set_option maxRecDepth 20000 in
theorem lq_201 {w : Option Nat} {d : Nat} {a0 : Option Nat} {a1 : Option Nat} {a2 : Option Nat} {a3 : Option Nat} {h : pm_H} {r : tm_O × pm_H} (hr : ll_201 a0 a1 a2 a3 h = some r) : tm_run pt_P (pt_G (tm_r w)) (d + 1) 201 [.inr (.inr a0), .inr (.inr a1), .inr (.inr a2), .inr (.inr a3)] h r := by
  unfold ll_201 at hr
  show pm_to pt_P (pt_G (tm_r w)) (d + 1) (pt_g201, []) (tm_m (0, [(0, .inr (.inr a0)), (1, .inr (.inr a1)), (2, .inr (.inr a2)), (3, .inr (.inr a3))], [])) h (tm_e r)
  refine tm_n 2 (F' := (2, [(0, .inr (.inr a0)), (1, .inr (.inr a1)), (2, .inr (.inr a2)), (3, .inr (.inr a3))], [.inr (.inr a2), .inr (.inr a0)])) rfl ?_
  by_cases c1 : lc_of h a0 = some 5
  · rw [if_pos c1] at hr
    rcases lb_I_s hr with ⟨v2, h3, m4, hr⟩ | ⟨a29, h3, z30, z30l, m4, qz30, rfl⟩
    · try dsimp only at hr
      refine tm_call rfl rfl (tm_callV rfl rfl c1 rfl rfl) (lq_190 m4) ?_
      refine tm_n 3 (F' := (9, [(4, .inl v2), (0, .inr (.inr a0)), (1, .inr (.inr a1)), (2, .inr (.inr a2)), (3, .inr (.inr a3))], [.inr (.inr a3), .inr (.inr a0)])) rfl ?_
      by_cases c5 : lc_of h3 a0 = some 5
      · rw [if_pos c5] at hr
        rcases lb_I_s hr with ⟨v6, h7, m8, hr⟩ | ⟨a27, h7, z28, z28l, m8, qz28, rfl⟩
        · try dsimp only at hr
          refine tm_call rfl rfl (tm_callV rfl rfl c5 rfl rfl) (lq_190 m8) ?_
          refine tm_n 3 (F' := (16, [(5, .inl v6), (4, .inl v2), (0, .inr (.inr a0)), (1, .inr (.inr a1)), (2, .inr (.inr a2)), (3, .inr (.inr a3))], [.inr (.inr a1), .inr (.inr a0)])) rfl ?_
          by_cases c9 : lc_of h7 a0 = some 5
          · rw [if_pos c9] at hr
            rcases lb_I_s hr with ⟨v10, h11, m12, hr⟩ | ⟨a25, h11, z26, z26l, m12, qz26, rfl⟩
            · try dsimp only at hr
              refine tm_call rfl rfl (tm_callV rfl rfl c9 rfl rfl) (lq_190 m12) ?_
              refine tm_n 4 (F' := (27, [(6, .inl v10), (5, .inl v6), (4, .inl v2), (0, .inr (.inr a0)), (1, .inr (.inr a1)), (2, .inr (.inr a2)), (3, .inr (.inr a3))], [.inl v6, .inl v2, .inl v10])) rfl ?_
              rcases lb_I_s hr with ⟨v13, h14, m15, hr⟩ | ⟨a23, h14, z24, z24l, m15, qz24, rfl⟩
              · try dsimp only at hr
                refine tm_call rfl rfl (tm_callS rfl rfl) (lq_27 m15) ?_
                by_cases c22 : v10 < v13
                · rw [if_pos c22] at hr
                  refine tm_icT rfl c22 ?_
                  refine tm_n 1 (F' := (50, [(6, .inl v10), (5, .inl v6), (4, .inl v2), (0, .inr (.inr a0)), (1, .inr (.inr a1)), (2, .inr (.inr a2)), (3, .inr (.inr a3))], [.inl (0 : Int32)])) rfl ?_
                  cases hr
                  exact tm_retI rfl rfl
                · rw [if_neg c22] at hr
                  refine tm_icF rfl c22 ?_
                  refine tm_n 3 (F' := (39, [(6, .inl v10), (5, .inl v6), (4, .inl v2), (0, .inr (.inr a0)), (1, .inr (.inr a1)), (2, .inr (.inr a2)), (3, .inr (.inr a3))], [.inl v6, .inl v2, .inl v10])) rfl ?_
                  rcases lb_I_s hr with ⟨v16, h17, m18, hr⟩ | ⟨a20, h17, z21, z21l, m18, qz21, rfl⟩
                  · try dsimp only at hr
                    refine tm_call rfl rfl (tm_callS rfl rfl) (lq_24 m18) ?_
                    by_cases c19 : v16 < v10
                    · rw [if_pos c19] at hr
                      refine tm_icT rfl c19 ?_
                      refine tm_n 1 (F' := (50, [(6, .inl v10), (5, .inl v6), (4, .inl v2), (0, .inr (.inr a0)), (1, .inr (.inr a1)), (2, .inr (.inr a2)), (3, .inr (.inr a3))], [.inl (0 : Int32)])) rfl ?_
                      cases hr
                      exact tm_retI rfl rfl
                    · rw [if_neg c19] at hr
                      refine tm_icF rfl c19 ?_
                      refine tm_n 2 (F' := (50, [(6, .inl v10), (5, .inl v6), (4, .inl v2), (0, .inr (.inr a0)), (1, .inr (.inr a1)), (2, .inr (.inr a2)), (3, .inr (.inr a3))], [.inl (1 : Int32)])) rfl ?_
                      cases hr
                      exact tm_retI rfl rfl
                  · exact tm_callT rfl rfl (tm_callS rfl rfl) (lq_24 m18) qz21 rfl
              · exact tm_callT rfl rfl (tm_callS rfl rfl) (lq_27 m15) qz24 rfl
            · exact tm_callT rfl rfl (tm_callV rfl rfl c9 rfl rfl) (lq_190 m12) qz26 rfl
          · rw [if_neg c9] at hr
            cases hr
        · exact tm_callT rfl rfl (tm_callV rfl rfl c5 rfl rfl) (lq_190 m8) qz28 rfl
      · rw [if_neg c5] at hr
        cases hr
    · exact tm_callT rfl rfl (tm_callV rfl rfl c1 rfl rfl) (lq_190 m4) qz30 rfl
  · rw [if_neg c1] at hr
    cases hr
-- OfficeSheet$Calculator.isWithin(LOfficeSheet$Part;LOfficeSheet$Act;)Z
set_option maxRecDepth 20000 in
def ll_200 (a0 : Option Nat) (a1 : Option Nat) (a2 : Option Nat) (h : pm_H) : tm_L := (lf_R h a0 [2, 4]).bind fun v1 => (lf_R h a2 [7, 8]).bind fun v2 => (lf_R h a1 [9, 4]).bind fun v3 => (lf_R h a1 [9, 6]).bind fun v4 => if lc_of h v1 = some 5 then lb_I (ll_201 v1 v2 v3 v4 h) (fun v6 h7 => if v6 = (0 : Int32) then some (.inl (some (.inl (0 : Int32))), h7) else (lf_R h7 a0 [2, 5]).bind fun v9 => (lf_R h7 a2 [7, 9]).bind fun v10 => (lf_R h7 a1 [9, 5]).bind fun v11 => (lf_R h7 a1 [9, 7]).bind fun v12 => if lc_of h7 v9 = some 5 then lb_I (ll_201 v9 v10 v11 v12 h7) (fun v14 h15 => if v14 = (0 : Int32) then some (.inl (some (.inl (0 : Int32))), h15) else some (.inl (some (.inl (1 : Int32))), h15)) else none) else none
set_option maxRecDepth 20000 in
theorem lq_200 {w : Option Nat} {d : Nat} {a0 : Option Nat} {a1 : Option Nat} {a2 : Option Nat} {h : pm_H} {r : tm_O × pm_H} (hr : ll_200 a0 a1 a2 h = some r) : tm_run pt_P (pt_G (tm_r w)) (d + 2) 200 [.inr (.inr a0), .inr (.inr a1), .inr (.inr a2)] h r := by
  unfold ll_200 at hr
  show pm_to pt_P (pt_G (tm_r w)) (d + 2) (pt_g200, []) (tm_m (0, [(0, .inr (.inr a0)), (1, .inr (.inr a1)), (2, .inr (.inr a2))], [])) h (tm_e r)
  refine tm_n 1 (F' := (1, [(0, .inr (.inr a0)), (1, .inr (.inr a1)), (2, .inr (.inr a2))], [.inr (.inr a0)])) rfl ?_
  obtain ⟨v1, qv1, hr⟩ := Option.bind_eq_some_iff.mp hr
  refine tm_getf rfl (lf_R_V qv1) ?_
  refine tm_n 1 (F' := (5, [(0, .inr (.inr a0)), (1, .inr (.inr a1)), (2, .inr (.inr a2))], [.inr (.inr a2), .inr (.inr v1)])) rfl ?_
  obtain ⟨v2, qv2, hr⟩ := Option.bind_eq_some_iff.mp hr
  refine tm_getf rfl (lf_R_V qv2) ?_
  refine tm_n 1 (F' := (9, [(0, .inr (.inr a0)), (1, .inr (.inr a1)), (2, .inr (.inr a2))], [.inr (.inr a1), .inr (.inr v2), .inr (.inr v1)])) rfl ?_
  obtain ⟨v3, qv3, hr⟩ := Option.bind_eq_some_iff.mp hr
  refine tm_getf rfl (lf_R_V qv3) ?_
  refine tm_n 1 (F' := (13, [(0, .inr (.inr a0)), (1, .inr (.inr a1)), (2, .inr (.inr a2))], [.inr (.inr a1), .inr (.inr v3), .inr (.inr v2), .inr (.inr v1)])) rfl ?_
  obtain ⟨v4, qv4, hr⟩ := Option.bind_eq_some_iff.mp hr
  refine tm_getf rfl (lf_R_V qv4) ?_
  by_cases c5 : lc_of h v1 = some 5
  · rw [if_pos c5] at hr
    rcases lb_I_s hr with ⟨v6, h7, m8, hr⟩ | ⟨a21, h7, z22, z22l, m8, qz22, rfl⟩
    · try dsimp only at hr
      refine tm_call rfl rfl (tm_callV rfl rfl c5 rfl rfl) (lq_201 m8) ?_
      by_cases c20 : v6 = (0 : Int32)
      · rw [if_pos c20] at hr
        refine tm_ifT rfl c20 ?_
        refine tm_n 1 (F' := (49, [(0, .inr (.inr a0)), (1, .inr (.inr a1)), (2, .inr (.inr a2))], [.inl (0 : Int32)])) rfl ?_
        cases hr
        exact tm_retI rfl rfl
      · rw [if_neg c20] at hr
        refine tm_ifF rfl c20 ?_
        refine tm_n 1 (F' := (23, [(0, .inr (.inr a0)), (1, .inr (.inr a1)), (2, .inr (.inr a2))], [.inr (.inr a0)])) rfl ?_
        obtain ⟨v9, qv9, hr⟩ := Option.bind_eq_some_iff.mp hr
        refine tm_getf rfl (lf_R_V qv9) ?_
        refine tm_n 1 (F' := (27, [(0, .inr (.inr a0)), (1, .inr (.inr a1)), (2, .inr (.inr a2))], [.inr (.inr a2), .inr (.inr v9)])) rfl ?_
        obtain ⟨v10, qv10, hr⟩ := Option.bind_eq_some_iff.mp hr
        refine tm_getf rfl (lf_R_V qv10) ?_
        refine tm_n 1 (F' := (31, [(0, .inr (.inr a0)), (1, .inr (.inr a1)), (2, .inr (.inr a2))], [.inr (.inr a1), .inr (.inr v10), .inr (.inr v9)])) rfl ?_
        obtain ⟨v11, qv11, hr⟩ := Option.bind_eq_some_iff.mp hr
        refine tm_getf rfl (lf_R_V qv11) ?_
        refine tm_n 1 (F' := (35, [(0, .inr (.inr a0)), (1, .inr (.inr a1)), (2, .inr (.inr a2))], [.inr (.inr a1), .inr (.inr v11), .inr (.inr v10), .inr (.inr v9)])) rfl ?_
        obtain ⟨v12, qv12, hr⟩ := Option.bind_eq_some_iff.mp hr
        refine tm_getf rfl (lf_R_V qv12) ?_
        by_cases c13 : lc_of h7 v9 = some 5
        · rw [if_pos c13] at hr
          rcases lb_I_s hr with ⟨v14, h15, m16, hr⟩ | ⟨a18, h15, z19, z19l, m16, qz19, rfl⟩
          · try dsimp only at hr
            refine tm_call rfl rfl (tm_callV rfl rfl c13 rfl rfl) (lq_201 m16) ?_
            by_cases c17 : v14 = (0 : Int32)
            · rw [if_pos c17] at hr
              refine tm_ifT rfl c17 ?_
              refine tm_n 1 (F' := (49, [(0, .inr (.inr a0)), (1, .inr (.inr a1)), (2, .inr (.inr a2))], [.inl (0 : Int32)])) rfl ?_
              cases hr
              exact tm_retI rfl rfl
            · rw [if_neg c17] at hr
              refine tm_ifF rfl c17 ?_
              refine tm_n 2 (F' := (49, [(0, .inr (.inr a0)), (1, .inr (.inr a1)), (2, .inr (.inr a2))], [.inl (1 : Int32)])) rfl ?_
              cases hr
              exact tm_retI rfl rfl
          · exact tm_callT rfl rfl (tm_callV rfl rfl c13 rfl rfl) (lq_201 m16) qz19 rfl
        · rw [if_neg c13] at hr
          cases hr
    · exact tm_callT rfl rfl (tm_callV rfl rfl c5 rfl rfl) (lq_201 m8) qz22 rfl
  · rw [if_neg c5] at hr
    cases hr
-- OfficeSheet$Calculator.ofNumber(J)J
set_option maxRecDepth 20000 in
def l202_16 (h : pm_H) : tm_L := lb_J (ll_195 (4 : Int32) h) (fun v1 h2 => some (.inl (some (.inr (.inl v1))), h2))
set_option maxRecDepth 20000 in
theorem l202_16_t {w : Option Nat} {d : Nat} {h : pm_H} {r : tm_O × pm_H} (hr : l202_16  h = some r) : pm_to pt_P (pt_G (tm_r w)) (d + 1) (pt_g202, []) (tm_m (16, [], [])) h (tm_e r) := by
  unfold l202_16 at hr
  refine tm_n 1 (F' := (17, [], [.inl (4 : Int32)])) rfl ?_
  rcases lb_J_s hr with ⟨v1, h2, m3, hr⟩ | ⟨a4, h2, z5, z5l, m3, qz5, rfl⟩
  · try dsimp only at hr
    refine tm_call rfl rfl (tm_callS rfl rfl) (lq_195 m3) ?_
    refine tm_n 1 (F' := (24, [], [.inr (.inl v1)])) rfl ?_
    cases hr
    exact tm_retJ rfl
  · exact tm_callT rfl rfl (tm_callS rfl rfl) (lq_195 m3) qz5 rfl
set_option maxRecDepth 20000 in
def ll_202 (a0 : Int64) (h : pm_H) : tm_L := if (lg_cmp a0 (-1000000000 : Int64)) < (0 : Int32) then l202_16 h else if (lg_cmp a0 (1000000000 : Int64)) ≤ (0 : Int32) then some (.inl (some (.inr (.inl a0))), h) else l202_16 h
set_option maxRecDepth 20000 in
theorem lq_202 {w : Option Nat} {d : Nat} {a0 : Int64} {h : pm_H} {r : tm_O × pm_H} (hr : ll_202 a0 h = some r) : tm_run pt_P (pt_G (tm_r w)) (d + 1) 202 [.inr (.inl a0)] h r := by
  unfold ll_202 at hr
  show pm_to pt_P (pt_G (tm_r w)) (d + 1) (pt_g202, []) (tm_m (0, [(0, .inr (.inl a0))], [])) h (tm_e r)
  refine tm_n 3 (F' := (5, [(0, .inr (.inl a0))], [.inl (lg_cmp a0 (-1000000000 : Int64))])) rfl ?_
  by_cases c2 : (lg_cmp a0 (-1000000000 : Int64)) < (0 : Int32)
  · rw [if_pos c2] at hr
    refine tm_ifT rfl c2 ?_
    refine tm_cut (a := []) rfl (tm_sbs [] rfl) ?_
    exact l202_16_t hr
  · rw [if_neg c2] at hr
    refine tm_ifF rfl c2 ?_
    refine tm_n 3 (F' := (13, [(0, .inr (.inl a0))], [.inl (lg_cmp a0 (1000000000 : Int64))])) rfl ?_
    by_cases c1 : (lg_cmp a0 (1000000000 : Int64)) ≤ (0 : Int32)
    · rw [if_pos c1] at hr
      refine tm_ifT rfl c1 ?_
      refine tm_n 1 (F' := (24, [(0, .inr (.inl a0))], [.inr (.inl a0)])) rfl ?_
      cases hr
      exact tm_retJ rfl
    · rw [if_neg c1] at hr
      refine tm_ifF rfl c1 ?_
      refine tm_cut (a := []) rfl (tm_sbs [] rfl) ?_
      exact l202_16_t hr
-- java/lang/Math.max(JJ)J
set_option maxRecDepth 20000 in
def ll_203 (a0 : Int64) (a1 : Int64) (h : pm_H) : tm_L := if (lg_cmp a0 a1) < (0 : Int32) then some (.inl (some (.inr (.inl a1))), h) else some (.inl (some (.inr (.inl a0))), h)
set_option maxRecDepth 20000 in
theorem lq_203 {w : Option Nat} {d : Nat} {a0 : Int64} {a1 : Int64} {h : pm_H} {r : tm_O × pm_H} (hr : ll_203 a0 a1 h = some r) : tm_run pt_P (pt_G (tm_r w)) (d + 0) 203 [.inr (.inl a0), .inr (.inl a1)] h r := by
  unfold ll_203 at hr
  show pm_to pt_P (pt_G (tm_r w)) (d + 0) (pt_g203, []) (tm_m (0, [(0, .inr (.inl a0)), (2, .inr (.inl a1))], [])) h (tm_e r)
  refine tm_n 3 (F' := (3, [(0, .inr (.inl a0)), (2, .inr (.inl a1))], [.inl (lg_cmp a0 a1)])) rfl ?_
  by_cases c1 : (lg_cmp a0 a1) < (0 : Int32)
  · rw [if_pos c1] at hr
    refine tm_ifT rfl c1 ?_
    refine tm_n 1 (F' := (11, [(0, .inr (.inl a0)), (2, .inr (.inl a1))], [.inr (.inl a1)])) rfl ?_
    cases hr
    exact tm_retJ rfl
  · rw [if_neg c1] at hr
    refine tm_ifF rfl c1 ?_
    refine tm_n 2 (F' := (11, [(0, .inr (.inl a0)), (2, .inr (.inl a1))], [.inr (.inl a0)])) rfl ?_
    cases hr
    exact tm_retJ rfl
-- OfficeSheet$Calculator.ofBlock(LOfficeSheet$Part;)J
set_option maxRecDepth 20000 in
def l199_30 (h : pm_H) : tm_L := lb_J (ll_195 (2 : Int32) h) (fun v1 h2 => some (.inl (some (.inr (.inl v1))), h2))
set_option maxRecDepth 20000 in
theorem l199_30_t {w : Option Nat} {d : Nat} {h : pm_H} {r : tm_O × pm_H} (hr : l199_30  h = some r) : pm_to pt_P (pt_G (tm_r w)) (d + 3) (pt_g199, []) (tm_m (30, [], [])) h (tm_e r) := by
  unfold l199_30 at hr
  refine tm_n 1 (F' := (31, [], [.inl (2 : Int32)])) rfl ?_
  rcases lb_J_s hr with ⟨v1, h2, m3, hr⟩ | ⟨a4, h2, z5, z5l, m3, qz5, rfl⟩
  · try dsimp only at hr
    refine tm_call rfl rfl (tm_callS rfl rfl) (lq_195 m3) ?_
    cases hr
    exact tm_retJ rfl
  · exact tm_callT rfl rfl (tm_callS rfl rfl) (lq_195 m3) qz5 rfl
set_option maxRecDepth 20000 in
def l199_158 (K49 : Option Nat → Option Nat → Int64 → Int64 → Int64 → Int64 → Int32 → pm_H → tm_L) (x0 : Option Nat) (x1 : Option Nat) (x2 : Int64) (x4 : Int64) (x6 : Int64) (x8 : Int64) (x10 : Int32) (h : pm_H) : tm_L := K49 x0 x1 x2 x4 x6 x8 (x10 + (1 : Int32)) h
set_option maxRecDepth 20000 in
theorem l199_158_t {w : Option Nat} {d : Nat} {K49 : Option Nat → Option Nat → Int64 → Int64 → Int64 → Int64 → Int32 → pm_H → tm_L} (hK49 : ∀ {x0 : Option Nat} {x1 : Option Nat} {x2 : Int64} {x4 : Int64} {x6 : Int64} {x8 : Int64} {x10 : Int32}  {h : pm_H} {r : tm_O × pm_H}, K49 x0 x1 x2 x4 x6 x8 x10 h = some r → pm_to pt_P (pt_G (tm_r w)) (d + 3) (pt_g199, []) (tm_m (49, [(0, .inr (.inr x0)), (1, .inr (.inr x1)), (2, .inr (.inl x2)), (4, .inr (.inl x4)), (6, .inr (.inl x6)), (8, .inr (.inl x8)), (10, .inl x10)], [])) h (tm_e r)) {x0 : Option Nat} {x1 : Option Nat} {x2 : Int64} {x4 : Int64} {x6 : Int64} {x8 : Int64} {x10 : Int32} {h : pm_H} {r : tm_O × pm_H} (hr : l199_158 K49 x0 x1 x2 x4 x6 x8 x10 h = some r) : pm_to pt_P (pt_G (tm_r w)) (d + 3) (pt_g199, []) (tm_m (158, [(0, .inr (.inr x0)), (1, .inr (.inr x1)), (2, .inr (.inl x2)), (4, .inr (.inl x4)), (6, .inr (.inl x6)), (8, .inr (.inl x8)), (10, .inl x10)], [])) h (tm_e r) := by
  unfold l199_158 at hr
  refine tm_n 2 (F' := (49, [(10, .inl (x10 + (1 : Int32))), (0, .inr (.inr x0)), (1, .inr (.inr x1)), (2, .inr (.inl x2)), (4, .inr (.inl x4)), (6, .inr (.inl x6)), (8, .inr (.inl x8))], [])) rfl ?_
  refine tm_cut (a := [(0, .inr (.inr x0)), (1, .inr (.inr x1)), (2, .inr (.inl x2)), (4, .inr (.inl x4)), (6, .inr (.inl x6)), (8, .inr (.inl x8)), (10, .inl (x10 + (1 : Int32)))]) rfl (tm_sbs [1, 2, 3, 4, 5, 6, 0] rfl) ?_
  exact hK49 hr
set_option maxRecDepth 20000 in
def l199_156 (K49 : Option Nat → Option Nat → Int64 → Int64 → Int64 → Int64 → Int32 → pm_H → tm_L) (x0 : Option Nat) (x1 : Option Nat) (x2 : Int64) (x4 : Int64) (x6 : Int64) (x10 : Int32) (s0 : Int64) (h : pm_H) : tm_L := l199_158 K49 x0 x1 x2 x4 x6 s0 x10 h
set_option maxRecDepth 20000 in
theorem l199_156_t {w : Option Nat} {d : Nat} {K49 : Option Nat → Option Nat → Int64 → Int64 → Int64 → Int64 → Int32 → pm_H → tm_L} (hK49 : ∀ {x0 : Option Nat} {x1 : Option Nat} {x2 : Int64} {x4 : Int64} {x6 : Int64} {x8 : Int64} {x10 : Int32}  {h : pm_H} {r : tm_O × pm_H}, K49 x0 x1 x2 x4 x6 x8 x10 h = some r → pm_to pt_P (pt_G (tm_r w)) (d + 3) (pt_g199, []) (tm_m (49, [(0, .inr (.inr x0)), (1, .inr (.inr x1)), (2, .inr (.inl x2)), (4, .inr (.inl x4)), (6, .inr (.inl x6)), (8, .inr (.inl x8)), (10, .inl x10)], [])) h (tm_e r)) {x0 : Option Nat} {x1 : Option Nat} {x2 : Int64} {x4 : Int64} {x6 : Int64} {x10 : Int32} {s0 : Int64} {h : pm_H} {r : tm_O × pm_H} (hr : l199_156 K49 x0 x1 x2 x4 x6 x10 s0 h = some r) : pm_to pt_P (pt_G (tm_r w)) (d + 3) (pt_g199, []) (tm_m (156, [(0, .inr (.inr x0)), (1, .inr (.inr x1)), (2, .inr (.inl x2)), (4, .inr (.inl x4)), (6, .inr (.inl x6)), (10, .inl x10)], [.inr (.inl s0)])) h (tm_e r) := by
  unfold l199_156 at hr
  refine tm_n 1 (F' := (158, [(8, .inr (.inl s0)), (0, .inr (.inr x0)), (1, .inr (.inr x1)), (2, .inr (.inl x2)), (4, .inr (.inl x4)), (6, .inr (.inl x6)), (10, .inl x10)], [])) rfl ?_
  refine tm_cut (a := [(0, .inr (.inr x0)), (1, .inr (.inr x1)), (2, .inr (.inl x2)), (4, .inr (.inl x4)), (6, .inr (.inl x6)), (8, .inr (.inl s0)), (10, .inl x10)]) rfl (tm_sbs [1, 2, 3, 4, 5, 0, 6] rfl) ?_
  exact l199_158_t hK49 hr
set_option maxRecDepth 20000 in
def l199_136 (K49 : Option Nat → Option Nat → Int64 → Int64 → Int64 → Int64 → Int32 → pm_H → tm_L) (x0 : Option Nat) (x1 : Option Nat) (x2 : Int64) (x4 : Int64) (x8 : Int64) (x10 : Int32) (x11 : Int64) (s0 : Int64) (h : pm_H) : tm_L := if (lg_cmp x2 (1 : Int64)) = (0 : Int32) then l199_156 K49 x0 x1 x2 x4 s0 x10 x11 h else lb_J (ll_203 x8 x11 h) (fun v1 h2 => l199_156 K49 x0 x1 x2 x4 s0 x10 v1 h2)
set_option maxRecDepth 20000 in
theorem l199_136_t {w : Option Nat} {d : Nat} {K49 : Option Nat → Option Nat → Int64 → Int64 → Int64 → Int64 → Int32 → pm_H → tm_L} (hK49 : ∀ {x0 : Option Nat} {x1 : Option Nat} {x2 : Int64} {x4 : Int64} {x6 : Int64} {x8 : Int64} {x10 : Int32}  {h : pm_H} {r : tm_O × pm_H}, K49 x0 x1 x2 x4 x6 x8 x10 h = some r → pm_to pt_P (pt_G (tm_r w)) (d + 3) (pt_g199, []) (tm_m (49, [(0, .inr (.inr x0)), (1, .inr (.inr x1)), (2, .inr (.inl x2)), (4, .inr (.inl x4)), (6, .inr (.inl x6)), (8, .inr (.inl x8)), (10, .inl x10)], [])) h (tm_e r)) {x0 : Option Nat} {x1 : Option Nat} {x2 : Int64} {x4 : Int64} {x8 : Int64} {x10 : Int32} {x11 : Int64} {s0 : Int64} {h : pm_H} {r : tm_O × pm_H} (hr : l199_136 K49 x0 x1 x2 x4 x8 x10 x11 s0 h = some r) : pm_to pt_P (pt_G (tm_r w)) (d + 3) (pt_g199, []) (tm_m (136, [(0, .inr (.inr x0)), (1, .inr (.inr x1)), (2, .inr (.inl x2)), (4, .inr (.inl x4)), (8, .inr (.inl x8)), (10, .inl x10), (11, .inr (.inl x11))], [.inr (.inl s0)])) h (tm_e r) := by
  unfold l199_136 at hr
  refine tm_n 4 (F' := (141, [(6, .inr (.inl s0)), (0, .inr (.inr x0)), (1, .inr (.inr x1)), (2, .inr (.inl x2)), (4, .inr (.inl x4)), (8, .inr (.inl x8)), (10, .inl x10), (11, .inr (.inl x11))], [.inl (lg_cmp x2 (1 : Int64))])) rfl ?_
  by_cases c6 : (lg_cmp x2 (1 : Int64)) = (0 : Int32)
  · rw [if_pos c6] at hr
    refine tm_ifF rfl (fun q => q c6) ?_
    refine tm_n 2 (F' := (156, [(6, .inr (.inl s0)), (0, .inr (.inr x0)), (1, .inr (.inr x1)), (2, .inr (.inl x2)), (4, .inr (.inl x4)), (8, .inr (.inl x8)), (10, .inl x10), (11, .inr (.inl x11))], [.inr (.inl x11)])) rfl ?_
    refine tm_cut (a := [(0, .inr (.inr x0)), (1, .inr (.inr x1)), (2, .inr (.inl x2)), (4, .inr (.inl x4)), (6, .inr (.inl s0)), (10, .inl x10)]) rfl (tm_sbs [1, 2, 3, 4, 0, 6] rfl) ?_
    exact l199_156_t hK49 hr
  · rw [if_neg c6] at hr
    refine tm_ifT rfl c6 ?_
    refine tm_n 2 (F' := (153, [(6, .inr (.inl s0)), (0, .inr (.inr x0)), (1, .inr (.inr x1)), (2, .inr (.inl x2)), (4, .inr (.inl x4)), (8, .inr (.inl x8)), (10, .inl x10), (11, .inr (.inl x11))], [.inr (.inl x11), .inr (.inl x8)])) rfl ?_
    rcases lb_J_s hr with ⟨v1, h2, m3, hr⟩ | ⟨a4, h2, z5, z5l, m3, qz5, rfl⟩
    · try dsimp only at hr
      refine tm_call rfl rfl (tm_callS rfl rfl) (lq_203 m3) ?_
      refine tm_cut (a := [(0, .inr (.inr x0)), (1, .inr (.inr x1)), (2, .inr (.inl x2)), (4, .inr (.inl x4)), (6, .inr (.inl s0)), (10, .inl x10)]) rfl (tm_sbs [1, 2, 3, 4, 0, 6] rfl) ?_
      exact l199_156_t hK49 hr
    · exact tm_callT rfl rfl (tm_callS rfl rfl) (lq_203 m3) qz5 rfl
set_option maxRecDepth 20000 in
def l199_110 (K49 : Option Nat → Option Nat → Int64 → Int64 → Int64 → Int64 → Int32 → pm_H → tm_L) (x0 : Option Nat) (x1 : Option Nat) (x2 : Int64) (x6 : Int64) (x8 : Int64) (x10 : Int32) (s0 : Int64) (h : pm_H) : tm_L := l199_158 K49 x0 x1 x2 s0 x6 x8 x10 h
set_option maxRecDepth 20000 in
theorem l199_110_t {w : Option Nat} {d : Nat} {K49 : Option Nat → Option Nat → Int64 → Int64 → Int64 → Int64 → Int32 → pm_H → tm_L} (hK49 : ∀ {x0 : Option Nat} {x1 : Option Nat} {x2 : Int64} {x4 : Int64} {x6 : Int64} {x8 : Int64} {x10 : Int32}  {h : pm_H} {r : tm_O × pm_H}, K49 x0 x1 x2 x4 x6 x8 x10 h = some r → pm_to pt_P (pt_G (tm_r w)) (d + 3) (pt_g199, []) (tm_m (49, [(0, .inr (.inr x0)), (1, .inr (.inr x1)), (2, .inr (.inl x2)), (4, .inr (.inl x4)), (6, .inr (.inl x6)), (8, .inr (.inl x8)), (10, .inl x10)], [])) h (tm_e r)) {x0 : Option Nat} {x1 : Option Nat} {x2 : Int64} {x6 : Int64} {x8 : Int64} {x10 : Int32} {s0 : Int64} {h : pm_H} {r : tm_O × pm_H} (hr : l199_110 K49 x0 x1 x2 x6 x8 x10 s0 h = some r) : pm_to pt_P (pt_G (tm_r w)) (d + 3) (pt_g199, []) (tm_m (110, [(0, .inr (.inr x0)), (1, .inr (.inr x1)), (2, .inr (.inl x2)), (6, .inr (.inl x6)), (8, .inr (.inl x8)), (10, .inl x10)], [.inr (.inl s0)])) h (tm_e r) := by
  unfold l199_110 at hr
  refine tm_n 2 (F' := (158, [(4, .inr (.inl s0)), (0, .inr (.inr x0)), (1, .inr (.inr x1)), (2, .inr (.inl x2)), (6, .inr (.inl x6)), (8, .inr (.inl x8)), (10, .inl x10)], [])) rfl ?_
  refine tm_cut (a := [(0, .inr (.inr x0)), (1, .inr (.inr x1)), (2, .inr (.inl x2)), (4, .inr (.inl s0)), (6, .inr (.inl x6)), (8, .inr (.inl x8)), (10, .inl x10)]) rfl (tm_sbs [1, 2, 3, 0, 4, 5, 6] rfl) ?_
  exact l199_158_t hK49 hr
set_option maxRecDepth 20000 in
def l199_49 : Nat → Option Nat → Option Nat → Int64 → Int64 → Int64 → Int64 → Int32 → pm_H → tm_L
  | 0 => fun _ _ _ _ _ _ _ _ => none
  | n + 1 => fun x0 x1 x2 x4 x6 x8 x10 h => (lf_I h x0 [2, 3]).bind fun v1 => if v1 ≤ x10 then (lf_R h x1 [9, 0]).bind fun v2 => lb_A (tm_acm v2 (some 16)) (some (.inl (some (.inr (.inl (x2 * (10000 : Int64))))), h)) (if (lg_cmp x4 (0 : Int64)) = (0 : Int32) then (lf_R h x1 [9, 0]).bind fun v4 => lb_A (tm_acm v4 (some 15)) (some (.inl (some (.inr (.inl x6))), h)) (some (.inl (some (.inr (.inl x8))), h)) else some (.inl (some (.inr (.inl x4))), h)) else (lf_R h x0 [2, 0]).bind fun v7 => (la_R h .aaload v7 x10).bind fun v8 => if lc_of h x0 = some 2 then lb_I (ll_200 x0 x1 v8 h) (fun v10 h11 => if v10 = (0 : Int32) then l199_158 (l199_49 n) x0 x1 x2 x4 x6 x8 x10 h11 else if lc_of h11 x0 = some 2 then lb_J (ll_197 x0 x10 h11) (fun v14 h15 => lb_I (ll_198 v14 h15) (fun v17 h18 => if v17 = (0 : Int32) then lb_I (ll_198 x6 h18) (fun v20 h21 => if v20 = (0 : Int32) then lb_J (ll_202 (x6 + v14) h21) (fun v23 h24 => l199_136 (l199_49 n) x0 x1 (x2 + (1 : Int64)) x4 x8 x10 v14 v23 h24) else l199_136 (l199_49 n) x0 x1 (x2 + (1 : Int64)) x4 x8 x10 v14 x6 h21) else if (lg_cmp x4 (0 : Int64)) = (0 : Int32) then l199_110 (l199_49 n) x0 x1 (x2 + (1 : Int64)) x6 x8 x10 v14 h18 else l199_110 (l199_49 n) x0 x1 (x2 + (1 : Int64)) x6 x8 x10 x4 h18)) else none) else none
set_option maxRecDepth 20000 in
theorem l199_49_t {w : Option Nat} {d : Nat} : ∀ (n : Nat) {x0 : Option Nat} {x1 : Option Nat} {x2 : Int64} {x4 : Int64} {x6 : Int64} {x8 : Int64} {x10 : Int32} {h : pm_H} {r : tm_O × pm_H}, l199_49 n x0 x1 x2 x4 x6 x8 x10 h = some r → pm_to pt_P (pt_G (tm_r w)) (d + 3) (pt_g199, []) (tm_m (49, [(0, .inr (.inr x0)), (1, .inr (.inr x1)), (2, .inr (.inl x2)), (4, .inr (.inl x4)), (6, .inr (.inl x6)), (8, .inr (.inl x8)), (10, .inl x10)], [])) h (tm_e r) := by
  intro n
  induction n with
  | zero => intro x0 x1 x2 x4 x6 x8 x10 h r hr; cases hr
  | succ n ih =>
    intro x0 x1 x2 x4 x6 x8 x10 h r hr
    unfold l199_49 at hr
    refine tm_n 2 (F' := (52, [(0, .inr (.inr x0)), (1, .inr (.inr x1)), (2, .inr (.inl x2)), (4, .inr (.inl x4)), (6, .inr (.inl x6)), (8, .inr (.inl x8)), (10, .inl x10)], [.inr (.inr x0), .inl x10])) rfl ?_
    obtain ⟨v1, qv1, hr⟩ := Option.bind_eq_some_iff.mp hr
    refine tm_getf rfl (lf_I_V qv1) ?_
    by_cases c40 : v1 ≤ x10
    · rw [if_pos c40] at hr
      refine tm_icT rfl c40 ?_
      refine tm_n 1 (F' := (165, [(0, .inr (.inr x0)), (1, .inr (.inr x1)), (2, .inr (.inl x2)), (4, .inr (.inl x4)), (6, .inr (.inl x6)), (8, .inr (.inl x8)), (10, .inl x10)], [.inr (.inr x1)])) rfl ?_
      obtain ⟨v2, qv2, hr⟩ := Option.bind_eq_some_iff.mp hr
      refine tm_getf rfl (lf_R_V qv2) ?_
      refine tm_n 1 (F' := (171, [(0, .inr (.inr x0)), (1, .inr (.inr x1)), (2, .inr (.inl x2)), (4, .inr (.inl x4)), (6, .inr (.inl x6)), (8, .inr (.inl x8)), (10, .inl x10)], [.inr (.inr (some 16)), .inr (.inr v2)])) rfl ?_
      rcases lb_A_s hr with ⟨c3, hr⟩ | ⟨c3, hr⟩
      · refine tm_anF rfl c3 ?_
        refine tm_n 3 (F' := (179, [(0, .inr (.inr x0)), (1, .inr (.inr x1)), (2, .inr (.inl x2)), (4, .inr (.inl x4)), (6, .inr (.inl x6)), (8, .inr (.inl x8)), (10, .inl x10)], [.inr (.inl (x2 * (10000 : Int64)))])) rfl ?_
        cases hr
        exact tm_retJ rfl
      · refine tm_anT rfl c3 ?_
        refine tm_n 3 (F' := (184, [(0, .inr (.inr x0)), (1, .inr (.inr x1)), (2, .inr (.inl x2)), (4, .inr (.inl x4)), (6, .inr (.inl x6)), (8, .inr (.inl x8)), (10, .inl x10)], [.inl (lg_cmp x4 (0 : Int64))])) rfl ?_
        by_cases c6 : (lg_cmp x4 (0 : Int64)) = (0 : Int32)
        · rw [if_pos c6] at hr
          refine tm_ifT rfl c6 ?_
          refine tm_n 1 (F' := (191, [(0, .inr (.inr x0)), (1, .inr (.inr x1)), (2, .inr (.inl x2)), (4, .inr (.inl x4)), (6, .inr (.inl x6)), (8, .inr (.inl x8)), (10, .inl x10)], [.inr (.inr x1)])) rfl ?_
          obtain ⟨v4, qv4, hr⟩ := Option.bind_eq_some_iff.mp hr
          refine tm_getf rfl (lf_R_V qv4) ?_
          refine tm_n 1 (F' := (197, [(0, .inr (.inr x0)), (1, .inr (.inr x1)), (2, .inr (.inl x2)), (4, .inr (.inl x4)), (6, .inr (.inl x6)), (8, .inr (.inl x8)), (10, .inl x10)], [.inr (.inr (some 15)), .inr (.inr v4)])) rfl ?_
          rcases lb_A_s hr with ⟨c5, hr⟩ | ⟨c5, hr⟩
          · refine tm_anF rfl c5 ?_
            refine tm_n 2 (F' := (207, [(0, .inr (.inr x0)), (1, .inr (.inr x1)), (2, .inr (.inl x2)), (4, .inr (.inl x4)), (6, .inr (.inl x6)), (8, .inr (.inl x8)), (10, .inl x10)], [.inr (.inl x6)])) rfl ?_
            cases hr
            exact tm_retJ rfl
          · refine tm_anT rfl c5 ?_
            refine tm_n 1 (F' := (207, [(0, .inr (.inr x0)), (1, .inr (.inr x1)), (2, .inr (.inl x2)), (4, .inr (.inl x4)), (6, .inr (.inl x6)), (8, .inr (.inl x8)), (10, .inl x10)], [.inr (.inl x8)])) rfl ?_
            cases hr
            exact tm_retJ rfl
        · rw [if_neg c6] at hr
          refine tm_ifF rfl c6 ?_
          refine tm_n 1 (F' := (189, [(0, .inr (.inr x0)), (1, .inr (.inr x1)), (2, .inr (.inl x2)), (4, .inr (.inl x4)), (6, .inr (.inl x6)), (8, .inr (.inl x8)), (10, .inl x10)], [.inr (.inl x4)])) rfl ?_
          cases hr
          exact tm_retJ rfl
    · rw [if_neg c40] at hr
      refine tm_icF rfl c40 ?_
      refine tm_n 3 (F' := (61, [(0, .inr (.inr x0)), (1, .inr (.inr x1)), (2, .inr (.inl x2)), (4, .inr (.inl x4)), (6, .inr (.inl x6)), (8, .inr (.inl x8)), (10, .inl x10)], [.inr (.inr x0), .inr (.inr x1), .inr (.inr x0)])) rfl ?_
      obtain ⟨v7, qv7, hr⟩ := Option.bind_eq_some_iff.mp hr
      refine tm_getf rfl (lf_R_V qv7) ?_
      refine tm_n 1 (F' := (66, [(0, .inr (.inr x0)), (1, .inr (.inr x1)), (2, .inr (.inl x2)), (4, .inr (.inl x4)), (6, .inr (.inl x6)), (8, .inr (.inl x8)), (10, .inl x10)], [.inl x10, .inr (.inr v7), .inr (.inr x1), .inr (.inr x0)])) rfl ?_
      obtain ⟨v8, qv8, hr⟩ := Option.bind_eq_some_iff.mp hr
      refine tm_ald rfl rfl (la_R_V qv8) ?_
      by_cases c9 : lc_of h x0 = some 2
      · rw [if_pos c9] at hr
        rcases lb_I_s hr with ⟨v10, h11, m12, hr⟩ | ⟨a38, h11, z39, z39l, m12, qz39, rfl⟩
        · try dsimp only at hr
          refine tm_call rfl rfl (tm_callV rfl rfl c9 rfl rfl) (lq_200 m12) ?_
          by_cases c37 : v10 = (0 : Int32)
          · rw [if_pos c37] at hr
            refine tm_ifF rfl (fun q => q c37) ?_
            refine tm_n 1 (F' := (158, [(0, .inr (.inr x0)), (1, .inr (.inr x1)), (2, .inr (.inl x2)), (4, .inr (.inl x4)), (6, .inr (.inl x6)), (8, .inr (.inl x8)), (10, .inl x10)], [])) rfl ?_
            refine tm_cut (a := [(0, .inr (.inr x0)), (1, .inr (.inr x1)), (2, .inr (.inl x2)), (4, .inr (.inl x4)), (6, .inr (.inl x6)), (8, .inr (.inl x8)), (10, .inl x10)]) rfl (tm_sbs [0, 1, 2, 3, 4, 5, 6] rfl) ?_
            exact l199_158_t (fun hr => ih hr) hr
          · rw [if_neg c37] at hr
            refine tm_ifT rfl c37 ?_
            refine tm_n 2 (F' := (79, [(0, .inr (.inr x0)), (1, .inr (.inr x1)), (2, .inr (.inl x2)), (4, .inr (.inl x4)), (6, .inr (.inl x6)), (8, .inr (.inl x8)), (10, .inl x10)], [.inl x10, .inr (.inr x0)])) rfl ?_
            by_cases c13 : lc_of h11 x0 = some 2
            · rw [if_pos c13] at hr
              rcases lb_J_s hr with ⟨v14, h15, m16, hr⟩ | ⟨a35, h15, z36, z36l, m16, qz36, rfl⟩
              · try dsimp only at hr
                refine tm_call rfl rfl (tm_callV rfl rfl c13 rfl rfl) (lq_197 m16) ?_
                refine tm_n 6 (F' := (90, [(2, .inr (.inl (x2 + (1 : Int64)))), (11, .inr (.inl v14)), (0, .inr (.inr x0)), (1, .inr (.inr x1)), (4, .inr (.inl x4)), (6, .inr (.inl x6)), (8, .inr (.inl x8)), (10, .inl x10)], [.inr (.inl v14)])) rfl ?_
                rcases lb_I_s hr with ⟨v17, h18, m19, hr⟩ | ⟨a33, h18, z34, z34l, m19, qz34, rfl⟩
                · try dsimp only at hr
                  refine tm_call rfl rfl (tm_callS rfl rfl) (lq_198 m19) ?_
                  by_cases c32 : v17 = (0 : Int32)
                  · rw [if_pos c32] at hr
                    refine tm_ifT rfl c32 ?_
                    refine tm_n 1 (F' := (117, [(2, .inr (.inl (x2 + (1 : Int64)))), (11, .inr (.inl v14)), (0, .inr (.inr x0)), (1, .inr (.inr x1)), (4, .inr (.inl x4)), (6, .inr (.inl x6)), (8, .inr (.inl x8)), (10, .inl x10)], [.inr (.inl x6)])) rfl ?_
                    rcases lb_I_s hr with ⟨v20, h21, m22, hr⟩ | ⟨a29, h21, z30, z30l, m22, qz30, rfl⟩
                    · try dsimp only at hr
                      refine tm_call rfl rfl (tm_callS rfl rfl) (lq_198 m22) ?_
                      by_cases c28 : v20 = (0 : Int32)
                      · rw [if_pos c28] at hr
                        refine tm_ifT rfl c28 ?_
                        refine tm_n 3 (F' := (133, [(2, .inr (.inl (x2 + (1 : Int64)))), (11, .inr (.inl v14)), (0, .inr (.inr x0)), (1, .inr (.inr x1)), (4, .inr (.inl x4)), (6, .inr (.inl x6)), (8, .inr (.inl x8)), (10, .inl x10)], [.inr (.inl (x6 + v14))])) rfl ?_
                        rcases lb_J_s hr with ⟨v23, h24, m25, hr⟩ | ⟨a26, h24, z27, z27l, m25, qz27, rfl⟩
                        · try dsimp only at hr
                          refine tm_call rfl rfl (tm_callS rfl rfl) (lq_202 m25) ?_
                          refine tm_cut (a := [(0, .inr (.inr x0)), (1, .inr (.inr x1)), (2, .inr (.inl (x2 + (1 : Int64)))), (4, .inr (.inl x4)), (8, .inr (.inl x8)), (10, .inl x10), (11, .inr (.inl v14))]) rfl (tm_sbs [2, 3, 0, 4, 6, 7, 1] rfl) ?_
                          exact l199_136_t (fun hr => ih hr) hr
                        · exact tm_callT rfl rfl (tm_callS rfl rfl) (lq_202 m25) qz27 rfl
                      · rw [if_neg c28] at hr
                        refine tm_ifF rfl c28 ?_
                        refine tm_n 2 (F' := (136, [(2, .inr (.inl (x2 + (1 : Int64)))), (11, .inr (.inl v14)), (0, .inr (.inr x0)), (1, .inr (.inr x1)), (4, .inr (.inl x4)), (6, .inr (.inl x6)), (8, .inr (.inl x8)), (10, .inl x10)], [.inr (.inl x6)])) rfl ?_
                        refine tm_cut (a := [(0, .inr (.inr x0)), (1, .inr (.inr x1)), (2, .inr (.inl (x2 + (1 : Int64)))), (4, .inr (.inl x4)), (8, .inr (.inl x8)), (10, .inl x10), (11, .inr (.inl v14))]) rfl (tm_sbs [2, 3, 0, 4, 6, 7, 1] rfl) ?_
                        exact l199_136_t (fun hr => ih hr) hr
                    · exact tm_callT rfl rfl (tm_callS rfl rfl) (lq_198 m22) qz30 rfl
                  · rw [if_neg c32] at hr
                    refine tm_ifF rfl c32 ?_
                    refine tm_n 3 (F' := (100, [(2, .inr (.inl (x2 + (1 : Int64)))), (11, .inr (.inl v14)), (0, .inr (.inr x0)), (1, .inr (.inr x1)), (4, .inr (.inl x4)), (6, .inr (.inl x6)), (8, .inr (.inl x8)), (10, .inl x10)], [.inl (lg_cmp x4 (0 : Int64))])) rfl ?_
                    by_cases c31 : (lg_cmp x4 (0 : Int64)) = (0 : Int32)
                    · rw [if_pos c31] at hr
                      refine tm_ifF rfl (fun q => q c31) ?_
                      refine tm_n 2 (F' := (110, [(2, .inr (.inl (x2 + (1 : Int64)))), (11, .inr (.inl v14)), (0, .inr (.inr x0)), (1, .inr (.inr x1)), (4, .inr (.inl x4)), (6, .inr (.inl x6)), (8, .inr (.inl x8)), (10, .inl x10)], [.inr (.inl v14)])) rfl ?_
                      refine tm_cut (a := [(0, .inr (.inr x0)), (1, .inr (.inr x1)), (2, .inr (.inl (x2 + (1 : Int64)))), (6, .inr (.inl x6)), (8, .inr (.inl x8)), (10, .inl x10)]) rfl (tm_sbs [2, 3, 0, 5, 6, 7] rfl) ?_
                      exact l199_110_t (fun hr => ih hr) hr
                    · rw [if_neg c31] at hr
                      refine tm_ifT rfl c31 ?_
                      refine tm_n 1 (F' := (110, [(2, .inr (.inl (x2 + (1 : Int64)))), (11, .inr (.inl v14)), (0, .inr (.inr x0)), (1, .inr (.inr x1)), (4, .inr (.inl x4)), (6, .inr (.inl x6)), (8, .inr (.inl x8)), (10, .inl x10)], [.inr (.inl x4)])) rfl ?_
                      refine tm_cut (a := [(0, .inr (.inr x0)), (1, .inr (.inr x1)), (2, .inr (.inl (x2 + (1 : Int64)))), (6, .inr (.inl x6)), (8, .inr (.inl x8)), (10, .inl x10)]) rfl (tm_sbs [2, 3, 0, 5, 6, 7] rfl) ?_
                      exact l199_110_t (fun hr => ih hr) hr
                · exact tm_callT rfl rfl (tm_callS rfl rfl) (lq_198 m19) qz34 rfl
              · exact tm_callT rfl rfl (tm_callV rfl rfl c13 rfl rfl) (lq_197 m16) qz36 rfl
            · rw [if_neg c13] at hr
              cases hr
        · exact tm_callT rfl rfl (tm_callV rfl rfl c9 rfl rfl) (lq_200 m12) qz39 rfl
      · rw [if_neg c9] at hr
        cases hr
set_option maxRecDepth 20000 in
def ll_199 (a0 : Option Nat) (a1 : Option Nat) (h : pm_H) : tm_L := (lf_R h a1 [9, 4]).bind fun v1 => (lf_R h a1 [9, 5]).bind fun v2 => if lc_of h a0 = some 2 then lb_I (ll_189 a0 v1 v2 h) (fun v4 h5 => if v4 = (0 : Int32) then l199_30 h5 else (lf_R h5 a1 [9, 6]).bind fun v7 => (lf_R h5 a1 [9, 7]).bind fun v8 => if lc_of h5 a0 = some 2 then lb_I (ll_189 a0 v7 v8 h5) (fun v10 h11 => if v10 = (0 : Int32) then l199_30 h11 else l199_49 lf_N a0 a1 (0 : Int64) (0 : Int64) (0 : Int64) (0 : Int64) (0 : Int32) h11) else none) else none
set_option maxRecDepth 20000 in
theorem lq_199 {w : Option Nat} {d : Nat} {a0 : Option Nat} {a1 : Option Nat} {h : pm_H} {r : tm_O × pm_H} (hr : ll_199 a0 a1 h = some r) : tm_run pt_P (pt_G (tm_r w)) (d + 3) 199 [.inr (.inr a0), .inr (.inr a1)] h r := by
  unfold ll_199 at hr
  show pm_to pt_P (pt_G (tm_r w)) (d + 3) (pt_g199, []) (tm_m (0, [(0, .inr (.inr a0)), (1, .inr (.inr a1))], [])) h (tm_e r)
  refine tm_n 2 (F' := (2, [(0, .inr (.inr a0)), (1, .inr (.inr a1))], [.inr (.inr a1), .inr (.inr a0)])) rfl ?_
  obtain ⟨v1, qv1, hr⟩ := Option.bind_eq_some_iff.mp hr
  refine tm_getf rfl (lf_R_V qv1) ?_
  refine tm_n 1 (F' := (6, [(0, .inr (.inr a0)), (1, .inr (.inr a1))], [.inr (.inr a1), .inr (.inr v1), .inr (.inr a0)])) rfl ?_
  obtain ⟨v2, qv2, hr⟩ := Option.bind_eq_some_iff.mp hr
  refine tm_getf rfl (lf_R_V qv2) ?_
  by_cases c3 : lc_of h a0 = some 2
  · rw [if_pos c3] at hr
    rcases lb_I_s hr with ⟨v4, h5, m6, hr⟩ | ⟨a17, h5, z18, z18l, m6, qz18, rfl⟩
    · try dsimp only at hr
      refine tm_call rfl rfl (tm_callV rfl rfl c3 rfl rfl) (lq_189 m6) ?_
      by_cases c16 : v4 = (0 : Int32)
      · rw [if_pos c16] at hr
        refine tm_ifT rfl c16 ?_
        refine tm_cut (a := []) rfl (tm_sbs [] rfl) ?_
        exact l199_30_t hr
      · rw [if_neg c16] at hr
        refine tm_ifF rfl c16 ?_
        refine tm_n 2 (F' := (17, [(0, .inr (.inr a0)), (1, .inr (.inr a1))], [.inr (.inr a1), .inr (.inr a0)])) rfl ?_
        obtain ⟨v7, qv7, hr⟩ := Option.bind_eq_some_iff.mp hr
        refine tm_getf rfl (lf_R_V qv7) ?_
        refine tm_n 1 (F' := (21, [(0, .inr (.inr a0)), (1, .inr (.inr a1))], [.inr (.inr a1), .inr (.inr v7), .inr (.inr a0)])) rfl ?_
        obtain ⟨v8, qv8, hr⟩ := Option.bind_eq_some_iff.mp hr
        refine tm_getf rfl (lf_R_V qv8) ?_
        by_cases c9 : lc_of h5 a0 = some 2
        · rw [if_pos c9] at hr
          rcases lb_I_s hr with ⟨v10, h11, m12, hr⟩ | ⟨a14, h11, z15, z15l, m12, qz15, rfl⟩
          · try dsimp only at hr
            refine tm_call rfl rfl (tm_callV rfl rfl c9 rfl rfl) (lq_189 m12) ?_
            by_cases c13 : v10 = (0 : Int32)
            · rw [if_pos c13] at hr
              refine tm_ifF rfl (fun q => q c13) ?_
              refine tm_cut (a := []) rfl (tm_sbs [] rfl) ?_
              exact l199_30_t hr
            · rw [if_neg c13] at hr
              refine tm_ifT rfl c13 ?_
              refine tm_n 10 (F' := (49, [(10, .inl (0 : Int32)), (8, .inr (.inl (0 : Int64))), (6, .inr (.inl (0 : Int64))), (4, .inr (.inl (0 : Int64))), (2, .inr (.inl (0 : Int64))), (0, .inr (.inr a0)), (1, .inr (.inr a1))], [])) rfl ?_
              refine tm_cut (a := [(0, .inr (.inr a0)), (1, .inr (.inr a1)), (2, .inr (.inl (0 : Int64))), (4, .inr (.inl (0 : Int64))), (6, .inr (.inl (0 : Int64))), (8, .inr (.inl (0 : Int64))), (10, .inl (0 : Int32))]) rfl (tm_sbs [5, 6, 4, 3, 2, 1, 0] rfl) ?_
              exact l199_49_t lf_N hr
          · exact tm_callT rfl rfl (tm_callV rfl rfl c9 rfl rfl) (lq_189 m12) qz15 rfl
        · rw [if_neg c9] at hr
          cases hr
    · exact tm_callT rfl rfl (tm_callV rfl rfl c3 rfl rfl) (lq_189 m6) qz18 rfl
  · rw [if_neg c3] at hr
    cases hr
