/-! lifted: 266, 273, 275, 274, 277, 276, 272, 278, 271, 265, 264, 283, 282 -/
-- OfficeSheetModel.next(I)V
set_option maxRecDepth 20000 in
def l266_92 (x0 : Option Nat) (h : pm_H) : tm_L := (lf_R h x0 [10, 21]).bind fun v1 => (lf_I h x0 [10, 23]).bind fun v2 => (la_I h .iaload v1 v2).bind fun v3 => (lf_P 81 h x0 [0, 10, 25] (.inl v3)).bind fun h4 => (lf_I h4 x0 [10, 23]).bind fun v5 => (lf_P 81 h4 x0 [0, 10, 23] (.inl (v5 + (1 : Int32)))).bind fun h6 => some (.inl none, h6)
set_option maxRecDepth 20000 in
theorem l266_92_t {w : Option Nat} {d : Nat} {x0 : Option Nat} {h : pm_H} {r : tm_O × pm_H} (hr : l266_92 x0 h = some r) : pm_to pt_P (pt_G (tm_r w)) (d + 2) (pt_g266, []) (tm_m (92, [(0, .inr (.inr x0))], [])) h (tm_e r) := by
  unfold l266_92 at hr
  refine tm_n 2 (F' := (94, [(0, .inr (.inr x0))], [.inr (.inr x0), .inr (.inr x0)])) rfl ?_
  obtain ⟨v1, qv1, hr⟩ := Option.bind_eq_some_iff.mp hr
  refine tm_getf rfl (lf_R_V qv1) ?_
  refine tm_n 1 (F' := (98, [(0, .inr (.inr x0))], [.inr (.inr x0), .inr (.inr v1), .inr (.inr x0)])) rfl ?_
  obtain ⟨v2, qv2, hr⟩ := Option.bind_eq_some_iff.mp hr
  refine tm_getf rfl (lf_I_V qv2) ?_
  obtain ⟨v3, qv3, hr⟩ := Option.bind_eq_some_iff.mp hr
  refine tm_ald rfl rfl (la_I_V qv3) ?_
  obtain ⟨h4, qh4, hr⟩ := Option.bind_eq_some_iff.mp hr
  refine tm_putf rfl qh4 ?_
  refine tm_n 2 (F' := (107, [(0, .inr (.inr x0))], [.inr (.inr x0), .inr (.inr x0)])) rfl ?_
  obtain ⟨v5, qv5, hr⟩ := Option.bind_eq_some_iff.mp hr
  refine tm_getf rfl (lf_I_V qv5) ?_
  refine tm_n 2 (F' := (112, [(0, .inr (.inr x0))], [.inl (v5 + (1 : Int32)), .inr (.inr x0)])) rfl ?_
  obtain ⟨h6, qh6, hr⟩ := Option.bind_eq_some_iff.mp hr
  refine tm_putf rfl qh6 ?_
  cases hr
  exact tm_retV rfl
set_option maxRecDepth 20000 in
def l266_49 (x0 : Option Nat) (h : pm_H) : tm_L := if lc_of h x0 = some 10 then lb_V (ll_269 x0 h) (fun h3 => some (.inl none, h3)) else none
set_option maxRecDepth 20000 in
theorem l266_49_t {w : Option Nat} {d : Nat} {x0 : Option Nat} {h : pm_H} {r : tm_O × pm_H} (hr : l266_49 x0 h = some r) : pm_to pt_P (pt_G (tm_r w)) (d + 2) (pt_g266, []) (tm_m (49, [(0, .inr (.inr x0))], [])) h (tm_e r) := by
  unfold l266_49 at hr
  refine tm_n 1 (F' := (50, [(0, .inr (.inr x0))], [.inr (.inr x0)])) rfl ?_
  by_cases c1 : lc_of h x0 = some 10
  · rw [if_pos c1] at hr
    rcases lb_V_s hr with ⟨h3, m4, hr⟩ | ⟨a5, h3, z6, z6l, m4, qz6, rfl⟩
    · try dsimp only at hr
      refine tm_call rfl rfl (tm_callV rfl rfl c1 rfl rfl) (lq_269 m4) ?_
      refine tm_n 1 (F' := (115, [(0, .inr (.inr x0))], [])) rfl ?_
      cases hr
      exact tm_retV rfl
    · exact tm_callT rfl rfl (tm_callV rfl rfl c1 rfl rfl) (lq_269 m4) qz6 rfl
  · rw [if_neg c1] at hr
    cases hr
set_option maxRecDepth 20000 in
def ll_266 (a0 : Option Nat) (a1 : Int32) (h : pm_H) : tm_L := (lf_I h a0 [10, 23]).bind fun v1 => (lf_P 81 h a0 [0, 10, 24] (.inl v1)).bind fun h2 => (lf_I h2 a0 [10, 23]).bind fun v3 => (lf_I h2 a0 [10, 22]).bind fun v4 => if v3 = v4 then (lf_P 81 h2 a0 [0, 10, 25] (.inl (-1 : Int32))).bind fun h5 => some (.inl none, h5) else (lf_I h2 a0 [10, 23]).bind fun v6 => if lc_of h2 a0 = some 10 then lb_I (ll_267 a0 v6 h2) (fun v8 h9 => if v8 = (0 : Int32) then (lf_I h9 a0 [10, 23]).bind fun v11 => if lc_of h9 a0 = some 10 then lb_I (ll_268 a0 v11 h9) (fun v13 h14 => if v13 = (0 : Int32) then (lf_R h14 a0 [10, 21]).bind fun v16 => (lf_I h14 a0 [10, 23]).bind fun v17 => (la_I h14 .iaload v16 v17).bind fun v18 => if v18 < (65 : Int32) then l266_92 a0 h14 else (lf_R h14 a0 [10, 21]).bind fun v19 => (lf_I h14 a0 [10, 23]).bind fun v20 => (la_I h14 .iaload v19 v20).bind fun v21 => if (90 : Int32) < v21 then l266_92 a0 h14 else if lc_of h14 a0 = some 10 then lb_V (ll_270 a0 a1 h14) (fun h24 => some (.inl none, h24)) else none else l266_49 a0 h14) else none else l266_49 a0 h9) else none
set_option maxRecDepth 20000 in
theorem lq_266 {w : Option Nat} {d : Nat} {a0 : Option Nat} {a1 : Int32} {h : pm_H} {r : tm_O × pm_H} (hr : ll_266 a0 a1 h = some r) : tm_run pt_P (pt_G (tm_r w)) (d + 2) 266 [.inr (.inr a0), .inl a1] h r := by
  unfold ll_266 at hr
  show pm_to pt_P (pt_G (tm_r w)) (d + 2) (pt_g266, []) (tm_m (0, [(0, .inr (.inr a0)), (1, .inl a1)], [])) h (tm_e r)
  refine tm_n 2 (F' := (2, [(0, .inr (.inr a0)), (1, .inl a1)], [.inr (.inr a0), .inr (.inr a0)])) rfl ?_
  obtain ⟨v1, qv1, hr⟩ := Option.bind_eq_some_iff.mp hr
  refine tm_getf rfl (lf_I_V qv1) ?_
  obtain ⟨h2, qh2, hr⟩ := Option.bind_eq_some_iff.mp hr
  refine tm_putf rfl qh2 ?_
  refine tm_n 1 (F' := (9, [(0, .inr (.inr a0)), (1, .inl a1)], [.inr (.inr a0)])) rfl ?_
  obtain ⟨v3, qv3, hr⟩ := Option.bind_eq_some_iff.mp hr
  refine tm_getf rfl (lf_I_V qv3) ?_
  refine tm_n 1 (F' := (13, [(0, .inr (.inr a0)), (1, .inl a1)], [.inr (.inr a0), .inl v3])) rfl ?_
  obtain ⟨v4, qv4, hr⟩ := Option.bind_eq_some_iff.mp hr
  refine tm_getf rfl (lf_I_V qv4) ?_
  by_cases c36 : v3 = v4
  · rw [if_pos c36] at hr
    refine tm_icF rfl (fun q => q c36) ?_
    refine tm_n 2 (F' := (21, [(0, .inr (.inr a0)), (1, .inl a1)], [.inl (-1 : Int32), .inr (.inr a0)])) rfl ?_
    obtain ⟨h5, qh5, hr⟩ := Option.bind_eq_some_iff.mp hr
    refine tm_putf rfl qh5 ?_
    refine tm_n 1 (F' := (115, [(0, .inr (.inr a0)), (1, .inl a1)], [])) rfl ?_
    cases hr
    exact tm_retV rfl
  · rw [if_neg c36] at hr
    refine tm_icT rfl c36 ?_
    refine tm_n 2 (F' := (29, [(0, .inr (.inr a0)), (1, .inl a1)], [.inr (.inr a0), .inr (.inr a0)])) rfl ?_
    obtain ⟨v6, qv6, hr⟩ := Option.bind_eq_some_iff.mp hr
    refine tm_getf rfl (lf_I_V qv6) ?_
    by_cases c7 : lc_of h2 a0 = some 10
    · rw [if_pos c7] at hr
      rcases lb_I_s hr with ⟨v8, h9, m10, hr⟩ | ⟨a34, h9, z35, z35l, m10, qz35, rfl⟩
      · try dsimp only at hr
        refine tm_call rfl rfl (tm_callV rfl rfl c7 rfl rfl) (lq_267 m10) ?_
        by_cases c33 : v8 = (0 : Int32)
        · rw [if_pos c33] at hr
          refine tm_ifF rfl (fun q => q c33) ?_
          refine tm_n 2 (F' := (40, [(0, .inr (.inr a0)), (1, .inl a1)], [.inr (.inr a0), .inr (.inr a0)])) rfl ?_
          obtain ⟨v11, qv11, hr⟩ := Option.bind_eq_some_iff.mp hr
          refine tm_getf rfl (lf_I_V qv11) ?_
          by_cases c12 : lc_of h9 a0 = some 10
          · rw [if_pos c12] at hr
            rcases lb_I_s hr with ⟨v13, h14, m15, hr⟩ | ⟨a31, h14, z32, z32l, m15, qz32, rfl⟩
            · try dsimp only at hr
              refine tm_call rfl rfl (tm_callV rfl rfl c12 rfl rfl) (lq_268 m15) ?_
              by_cases c30 : v13 = (0 : Int32)
              · rw [if_pos c30] at hr
                refine tm_ifT rfl c30 ?_
                refine tm_n 1 (F' := (57, [(0, .inr (.inr a0)), (1, .inl a1)], [.inr (.inr a0)])) rfl ?_
                obtain ⟨v16, qv16, hr⟩ := Option.bind_eq_some_iff.mp hr
                refine tm_getf rfl (lf_R_V qv16) ?_
                refine tm_n 1 (F' := (61, [(0, .inr (.inr a0)), (1, .inl a1)], [.inr (.inr a0), .inr (.inr v16)])) rfl ?_
                obtain ⟨v17, qv17, hr⟩ := Option.bind_eq_some_iff.mp hr
                refine tm_getf rfl (lf_I_V qv17) ?_
                obtain ⟨v18, qv18, hr⟩ := Option.bind_eq_some_iff.mp hr
                refine tm_ald rfl rfl (la_I_V qv18) ?_
                refine tm_n 1 (F' := (67, [(0, .inr (.inr a0)), (1, .inl a1)], [.inl (65 : Int32), .inl v18])) rfl ?_
                by_cases c29 : v18 < (65 : Int32)
                · rw [if_pos c29] at hr
                  refine tm_icT rfl c29 ?_
                  refine tm_cut (a := [(0, .inr (.inr a0))]) rfl (tm_sbs [0] rfl) ?_
                  exact l266_92_t hr
                · rw [if_neg c29] at hr
                  refine tm_icF rfl c29 ?_
                  refine tm_n 1 (F' := (71, [(0, .inr (.inr a0)), (1, .inl a1)], [.inr (.inr a0)])) rfl ?_
                  obtain ⟨v19, qv19, hr⟩ := Option.bind_eq_some_iff.mp hr
                  refine tm_getf rfl (lf_R_V qv19) ?_
                  refine tm_n 1 (F' := (75, [(0, .inr (.inr a0)), (1, .inl a1)], [.inr (.inr a0), .inr (.inr v19)])) rfl ?_
                  obtain ⟨v20, qv20, hr⟩ := Option.bind_eq_some_iff.mp hr
                  refine tm_getf rfl (lf_I_V qv20) ?_
                  obtain ⟨v21, qv21, hr⟩ := Option.bind_eq_some_iff.mp hr
                  refine tm_ald rfl rfl (la_I_V qv21) ?_
                  refine tm_n 1 (F' := (81, [(0, .inr (.inr a0)), (1, .inl a1)], [.inl (90 : Int32), .inl v21])) rfl ?_
                  by_cases c28 : (90 : Int32) < v21
                  · rw [if_pos c28] at hr
                    refine tm_icT rfl c28 ?_
                    refine tm_cut (a := [(0, .inr (.inr a0))]) rfl (tm_sbs [0] rfl) ?_
                    exact l266_92_t hr
                  · rw [if_neg c28] at hr
                    refine tm_icF rfl c28 ?_
                    refine tm_n 2 (F' := (86, [(0, .inr (.inr a0)), (1, .inl a1)], [.inl a1, .inr (.inr a0)])) rfl ?_
                    by_cases c22 : lc_of h14 a0 = some 10
                    · rw [if_pos c22] at hr
                      rcases lb_V_s hr with ⟨h24, m25, hr⟩ | ⟨a26, h24, z27, z27l, m25, qz27, rfl⟩
                      · try dsimp only at hr
                        refine tm_call rfl rfl (tm_callV rfl rfl c22 rfl rfl) (lq_270 m25) ?_
                        refine tm_n 1 (F' := (115, [(0, .inr (.inr a0)), (1, .inl a1)], [])) rfl ?_
                        cases hr
                        exact tm_retV rfl
                      · exact tm_callT rfl rfl (tm_callV rfl rfl c22 rfl rfl) (lq_270 m25) qz27 rfl
                    · rw [if_neg c22] at hr
                      cases hr
              · rw [if_neg c30] at hr
                refine tm_ifF rfl c30 ?_
                refine tm_cut (a := [(0, .inr (.inr a0))]) rfl (tm_sbs [0] rfl) ?_
                exact l266_49_t hr
            · exact tm_callT rfl rfl (tm_callV rfl rfl c12 rfl rfl) (lq_268 m15) qz32 rfl
          · rw [if_neg c12] at hr
            cases hr
        · rw [if_neg c33] at hr
          refine tm_ifT rfl c33 ?_
          refine tm_cut (a := [(0, .inr (.inr a0))]) rfl (tm_sbs [0] rfl) ?_
          exact l266_49_t hr
      · exact tm_callT rfl rfl (tm_callV rfl rfl c7 rfl rfl) (lq_267 m10) qz35 rfl
    · rw [if_neg c7] at hr
      cases hr
-- OfficeSheetModel.push(I)V
set_option maxRecDepth 20000 in
def ll_273 (a0 : Option Nat) (a1 : Int32) (h : pm_H) : tm_L := (lf_R h a0 [10, 28]).bind fun v1 => (lf_I h a0 [10, 29]).bind fun v2 => (la_S pt_P h .iastore v1 v2 (.inl a1)).bind fun h3 => (lf_I h3 a0 [10, 29]).bind fun v4 => (lf_P 81 h3 a0 [0, 10, 29] (.inl (v4 + (1 : Int32)))).bind fun h5 => some (.inl none, h5)
set_option maxRecDepth 20000 in
theorem lq_273 {w : Option Nat} {d : Nat} {a0 : Option Nat} {a1 : Int32} {h : pm_H} {r : tm_O × pm_H} (hr : ll_273 a0 a1 h = some r) : tm_run pt_P (pt_G (tm_r w)) (d + 0) 273 [.inr (.inr a0), .inl a1] h r := by
  unfold ll_273 at hr
  show pm_to pt_P (pt_G (tm_r w)) (d + 0) (pt_g273, []) (tm_m (0, [(0, .inr (.inr a0)), (1, .inl a1)], [])) h (tm_e r)
  refine tm_n 1 (F' := (1, [(0, .inr (.inr a0)), (1, .inl a1)], [.inr (.inr a0)])) rfl ?_
  obtain ⟨v1, qv1, hr⟩ := Option.bind_eq_some_iff.mp hr
  refine tm_getf rfl (lf_R_V qv1) ?_
  refine tm_n 1 (F' := (5, [(0, .inr (.inr a0)), (1, .inl a1)], [.inr (.inr a0), .inr (.inr v1)])) rfl ?_
  obtain ⟨v2, qv2, hr⟩ := Option.bind_eq_some_iff.mp hr
  refine tm_getf rfl (lf_I_V qv2) ?_
  refine tm_n 1 (F' := (9, [(0, .inr (.inr a0)), (1, .inl a1)], [.inl a1, .inl v2, .inr (.inr v1)])) rfl ?_
  obtain ⟨h3, qh3, hr⟩ := Option.bind_eq_some_iff.mp hr
  refine tm_ast rfl rfl qh3 ?_
  refine tm_n 2 (F' := (12, [(0, .inr (.inr a0)), (1, .inl a1)], [.inr (.inr a0), .inr (.inr a0)])) rfl ?_
  obtain ⟨v4, qv4, hr⟩ := Option.bind_eq_some_iff.mp hr
  refine tm_getf rfl (lf_I_V qv4) ?_
  refine tm_n 2 (F' := (17, [(0, .inr (.inr a0)), (1, .inl a1)], [.inl (v4 + (1 : Int32)), .inr (.inr a0)])) rfl ?_
  obtain ⟨h5, qh5, hr⟩ := Option.bind_eq_some_iff.mp hr
  refine tm_putf rfl qh5 ?_
  cases hr
  exact tm_retV rfl
-- OfficeSheetModel.emit(III)V
set_option maxRecDepth 20000 in
def ll_275 (a0 : Option Nat) (a1 : Int32) (a2 : Int32) (a3 : Int32) (h : pm_H) : tm_L := (lf_R h a0 [10, 14]).bind fun v1 => (lf_R h a0 [10, 13]).bind fun v2 => (la_I h .iaload v2 a1).bind fun v3 => (la_S pt_P h .iastore v1 (((20 : Int32) * a1) + v3) (.inl a2)).bind fun h4 => (lf_R h4 a0 [10, 15]).bind fun v5 => (lf_R h4 a0 [10, 13]).bind fun v6 => (la_I h4 .iaload v6 a1).bind fun v7 => (la_S pt_P h4 .iastore v5 (((20 : Int32) * a1) + v7) (.inl a3)).bind fun h8 => (lf_R h8 a0 [10, 13]).bind fun v9 => (la_I h8 .iaload v9 a1).bind fun v10 => (la_S pt_P h8 .iastore v9 a1 (.inl (v10 + (1 : Int32)))).bind fun h11 => some (.inl none, h11)
set_option maxRecDepth 20000 in
theorem lq_275 {w : Option Nat} {d : Nat} {a0 : Option Nat} {a1 : Int32} {a2 : Int32} {a3 : Int32} {h : pm_H} {r : tm_O × pm_H} (hr : ll_275 a0 a1 a2 a3 h = some r) : tm_run pt_P (pt_G (tm_r w)) (d + 0) 275 [.inr (.inr a0), .inl a1, .inl a2, .inl a3] h r := by
  unfold ll_275 at hr
  show pm_to pt_P (pt_G (tm_r w)) (d + 0) (pt_g275, []) (tm_m (0, [(0, .inr (.inr a0)), (1, .inl a1), (2, .inl a2), (3, .inl a3)], [])) h (tm_e r)
  refine tm_n 1 (F' := (1, [(0, .inr (.inr a0)), (1, .inl a1), (2, .inl a2), (3, .inl a3)], [.inr (.inr a0)])) rfl ?_
  obtain ⟨v1, qv1, hr⟩ := Option.bind_eq_some_iff.mp hr
  refine tm_getf rfl (lf_R_V qv1) ?_
  refine tm_n 4 (F' := (9, [(0, .inr (.inr a0)), (1, .inl a1), (2, .inl a2), (3, .inl a3)], [.inr (.inr a0), .inl ((20 : Int32) * a1), .inr (.inr v1)])) rfl ?_
  obtain ⟨v2, qv2, hr⟩ := Option.bind_eq_some_iff.mp hr
  refine tm_getf rfl (lf_R_V qv2) ?_
  refine tm_n 1 (F' := (13, [(0, .inr (.inr a0)), (1, .inl a1), (2, .inl a2), (3, .inl a3)], [.inl a1, .inr (.inr v2), .inl ((20 : Int32) * a1), .inr (.inr v1)])) rfl ?_
  obtain ⟨v3, qv3, hr⟩ := Option.bind_eq_some_iff.mp hr
  refine tm_ald rfl rfl (la_I_V qv3) ?_
  refine tm_n 2 (F' := (16, [(0, .inr (.inr a0)), (1, .inl a1), (2, .inl a2), (3, .inl a3)], [.inl a2, .inl (((20 : Int32) * a1) + v3), .inr (.inr v1)])) rfl ?_
  obtain ⟨h4, qh4, hr⟩ := Option.bind_eq_some_iff.mp hr
  refine tm_ast rfl rfl qh4 ?_
  refine tm_n 1 (F' := (18, [(0, .inr (.inr a0)), (1, .inl a1), (2, .inl a2), (3, .inl a3)], [.inr (.inr a0)])) rfl ?_
  obtain ⟨v5, qv5, hr⟩ := Option.bind_eq_some_iff.mp hr
  refine tm_getf rfl (lf_R_V qv5) ?_
  refine tm_n 4 (F' := (26, [(0, .inr (.inr a0)), (1, .inl a1), (2, .inl a2), (3, .inl a3)], [.inr (.inr a0), .inl ((20 : Int32) * a1), .inr (.inr v5)])) rfl ?_
  obtain ⟨v6, qv6, hr⟩ := Option.bind_eq_some_iff.mp hr
  refine tm_getf rfl (lf_R_V qv6) ?_
  refine tm_n 1 (F' := (30, [(0, .inr (.inr a0)), (1, .inl a1), (2, .inl a2), (3, .inl a3)], [.inl a1, .inr (.inr v6), .inl ((20 : Int32) * a1), .inr (.inr v5)])) rfl ?_
  obtain ⟨v7, qv7, hr⟩ := Option.bind_eq_some_iff.mp hr
  refine tm_ald rfl rfl (la_I_V qv7) ?_
  refine tm_n 2 (F' := (33, [(0, .inr (.inr a0)), (1, .inl a1), (2, .inl a2), (3, .inl a3)], [.inl a3, .inl (((20 : Int32) * a1) + v7), .inr (.inr v5)])) rfl ?_
  obtain ⟨h8, qh8, hr⟩ := Option.bind_eq_some_iff.mp hr
  refine tm_ast rfl rfl qh8 ?_
  refine tm_n 1 (F' := (35, [(0, .inr (.inr a0)), (1, .inl a1), (2, .inl a2), (3, .inl a3)], [.inr (.inr a0)])) rfl ?_
  obtain ⟨v9, qv9, hr⟩ := Option.bind_eq_some_iff.mp hr
  refine tm_getf rfl (lf_R_V qv9) ?_
  refine tm_n 2 (F' := (40, [(0, .inr (.inr a0)), (1, .inl a1), (2, .inl a2), (3, .inl a3)], [.inl a1, .inr (.inr v9), .inl a1, .inr (.inr v9)])) rfl ?_
  obtain ⟨v10, qv10, hr⟩ := Option.bind_eq_some_iff.mp hr
  refine tm_ald rfl rfl (la_I_V qv10) ?_
  refine tm_n 2 (F' := (43, [(0, .inr (.inr a0)), (1, .inl a1), (2, .inl a2), (3, .inl a3)], [.inl (v10 + (1 : Int32)), .inl a1, .inr (.inr v9)])) rfl ?_
  obtain ⟨h11, qh11, hr⟩ := Option.bind_eq_some_iff.mp hr
  refine tm_ast rfl rfl qh11 ?_
  cases hr
  exact tm_retV rfl
-- OfficeSheetModel.block(II)Z
set_option maxRecDepth 20000 in
def ll_274 (a0 : Option Nat) (a1 : Int32) (a2 : Int32) (h : pm_H) : tm_L := (lf_I h a0 [10, 25]).bind fun v1 => if lc_of h a0 = some 10 then lb_V (ll_266 a0 a1 h) (fun h4 => (lf_I h4 a0 [10, 25]).bind fun v6 => if v6 = (40 : Int32) then if lc_of h4 a0 = some 10 then lb_V (ll_266 a0 a1 h4) (fun h9 => (lf_I h9 a0 [10, 27]).bind fun v11 => (lf_I h9 a0 [10, 25]).bind fun v12 => if v12 = (-3 : Int32) then if lc_of h9 a0 = some 10 then lb_V (ll_266 a0 a1 h9) (fun h15 => (lf_I h15 a0 [10, 25]).bind fun v17 => if v17 = (58 : Int32) then if lc_of h15 a0 = some 10 then lb_V (ll_266 a0 a1 h15) (fun h20 => (lf_I h20 a0 [10, 27]).bind fun v22 => (lf_I h20 a0 [10, 25]).bind fun v23 => if v23 = (-3 : Int32) then if lc_of h20 a0 = some 10 then lb_V (ll_266 a0 a1 h20) (fun h26 => (lf_I h26 a0 [10, 25]).bind fun v28 => if v28 = (41 : Int32) then if lc_of h26 a0 = some 10 then lb_V (ll_275 a0 a2 v1 (v11 + ((16384 : Int32) * v22)) h26) (fun h31 => if lc_of h31 a0 = some 10 then lb_V (ll_266 a0 a1 h31) (fun h35 => some (.inl (some (.inl (1 : Int32))), h35)) else none) else none else some (.inl (some (.inl (0 : Int32))), h26)) else none else some (.inl (some (.inl (0 : Int32))), h20)) else none else some (.inl (some (.inl (0 : Int32))), h15)) else none else some (.inl (some (.inl (0 : Int32))), h9)) else none else some (.inl (some (.inl (0 : Int32))), h4)) else none
set_option maxRecDepth 20000 in
theorem lq_274 {w : Option Nat} {d : Nat} {a0 : Option Nat} {a1 : Int32} {a2 : Int32} {h : pm_H} {r : tm_O × pm_H} (hr : ll_274 a0 a1 a2 h = some r) : tm_run pt_P (pt_G (tm_r w)) (d + 3) 274 [.inr (.inr a0), .inl a1, .inl a2] h r := by
  unfold ll_274 at hr
  show pm_to pt_P (pt_G (tm_r w)) (d + 3) (pt_g274, []) (tm_m (0, [(0, .inr (.inr a0)), (1, .inl a1), (2, .inl a2)], [])) h (tm_e r)
  refine tm_n 1 (F' := (1, [(0, .inr (.inr a0)), (1, .inl a1), (2, .inl a2)], [.inr (.inr a0)])) rfl ?_
  obtain ⟨v1, qv1, hr⟩ := Option.bind_eq_some_iff.mp hr
  refine tm_getf rfl (lf_I_V qv1) ?_
  refine tm_n 3 (F' := (7, [(3, .inl v1), (0, .inr (.inr a0)), (1, .inl a1), (2, .inl a2)], [.inl a1, .inr (.inr a0)])) rfl ?_
  by_cases c2 : lc_of h a0 = some 10
  · rw [if_pos c2] at hr
    rcases lb_V_s hr with ⟨h4, m5, hr⟩ | ⟨a54, h4, z55, z55l, m5, qz55, rfl⟩
    · try dsimp only at hr
      refine tm_call rfl rfl (tm_callV rfl rfl c2 rfl rfl) (lq_266 m5) ?_
      refine tm_n 1 (F' := (11, [(3, .inl v1), (0, .inr (.inr a0)), (1, .inl a1), (2, .inl a2)], [.inr (.inr a0)])) rfl ?_
      obtain ⟨v6, qv6, hr⟩ := Option.bind_eq_some_iff.mp hr
      refine tm_getf rfl (lf_I_V qv6) ?_
      refine tm_n 1 (F' := (16, [(3, .inl v1), (0, .inr (.inr a0)), (1, .inl a1), (2, .inl a2)], [.inl (40 : Int32), .inl v6])) rfl ?_
      by_cases c53 : v6 = (40 : Int32)
      · rw [if_pos c53] at hr
        refine tm_icT rfl c53 ?_
        refine tm_n 2 (F' := (23, [(3, .inl v1), (0, .inr (.inr a0)), (1, .inl a1), (2, .inl a2)], [.inl a1, .inr (.inr a0)])) rfl ?_
        by_cases c7 : lc_of h4 a0 = some 10
        · rw [if_pos c7] at hr
          rcases lb_V_s hr with ⟨h9, m10, hr⟩ | ⟨a51, h9, z52, z52l, m10, qz52, rfl⟩
          · try dsimp only at hr
            refine tm_call rfl rfl (tm_callV rfl rfl c7 rfl rfl) (lq_266 m10) ?_
            refine tm_n 1 (F' := (27, [(3, .inl v1), (0, .inr (.inr a0)), (1, .inl a1), (2, .inl a2)], [.inr (.inr a0)])) rfl ?_
            obtain ⟨v11, qv11, hr⟩ := Option.bind_eq_some_iff.mp hr
            refine tm_getf rfl (lf_I_V qv11) ?_
            refine tm_n 2 (F' := (33, [(4, .inl v11), (3, .inl v1), (0, .inr (.inr a0)), (1, .inl a1), (2, .inl a2)], [.inr (.inr a0)])) rfl ?_
            obtain ⟨v12, qv12, hr⟩ := Option.bind_eq_some_iff.mp hr
            refine tm_getf rfl (lf_I_V qv12) ?_
            refine tm_n 1 (F' := (38, [(4, .inl v11), (3, .inl v1), (0, .inr (.inr a0)), (1, .inl a1), (2, .inl a2)], [.inl (-3 : Int32), .inl v12])) rfl ?_
            by_cases c50 : v12 = (-3 : Int32)
            · rw [if_pos c50] at hr
              refine tm_icT rfl c50 ?_
              refine tm_n 2 (F' := (45, [(4, .inl v11), (3, .inl v1), (0, .inr (.inr a0)), (1, .inl a1), (2, .inl a2)], [.inl a1, .inr (.inr a0)])) rfl ?_
              by_cases c13 : lc_of h9 a0 = some 10
              · rw [if_pos c13] at hr
                rcases lb_V_s hr with ⟨h15, m16, hr⟩ | ⟨a48, h15, z49, z49l, m16, qz49, rfl⟩
                · try dsimp only at hr
                  refine tm_call rfl rfl (tm_callV rfl rfl c13 rfl rfl) (lq_266 m16) ?_
                  refine tm_n 1 (F' := (49, [(4, .inl v11), (3, .inl v1), (0, .inr (.inr a0)), (1, .inl a1), (2, .inl a2)], [.inr (.inr a0)])) rfl ?_
                  obtain ⟨v17, qv17, hr⟩ := Option.bind_eq_some_iff.mp hr
                  refine tm_getf rfl (lf_I_V qv17) ?_
                  refine tm_n 1 (F' := (54, [(4, .inl v11), (3, .inl v1), (0, .inr (.inr a0)), (1, .inl a1), (2, .inl a2)], [.inl (58 : Int32), .inl v17])) rfl ?_
                  by_cases c47 : v17 = (58 : Int32)
                  · rw [if_pos c47] at hr
                    refine tm_icT rfl c47 ?_
                    refine tm_n 2 (F' := (61, [(4, .inl v11), (3, .inl v1), (0, .inr (.inr a0)), (1, .inl a1), (2, .inl a2)], [.inl a1, .inr (.inr a0)])) rfl ?_
                    by_cases c18 : lc_of h15 a0 = some 10
                    · rw [if_pos c18] at hr
                      rcases lb_V_s hr with ⟨h20, m21, hr⟩ | ⟨a45, h20, z46, z46l, m21, qz46, rfl⟩
                      · try dsimp only at hr
                        refine tm_call rfl rfl (tm_callV rfl rfl c18 rfl rfl) (lq_266 m21) ?_
                        refine tm_n 1 (F' := (65, [(4, .inl v11), (3, .inl v1), (0, .inr (.inr a0)), (1, .inl a1), (2, .inl a2)], [.inr (.inr a0)])) rfl ?_
                        obtain ⟨v22, qv22, hr⟩ := Option.bind_eq_some_iff.mp hr
                        refine tm_getf rfl (lf_I_V qv22) ?_
                        refine tm_n 2 (F' := (71, [(5, .inl v22), (4, .inl v11), (3, .inl v1), (0, .inr (.inr a0)), (1, .inl a1), (2, .inl a2)], [.inr (.inr a0)])) rfl ?_
                        obtain ⟨v23, qv23, hr⟩ := Option.bind_eq_some_iff.mp hr
                        refine tm_getf rfl (lf_I_V qv23) ?_
                        refine tm_n 1 (F' := (76, [(5, .inl v22), (4, .inl v11), (3, .inl v1), (0, .inr (.inr a0)), (1, .inl a1), (2, .inl a2)], [.inl (-3 : Int32), .inl v23])) rfl ?_
                        by_cases c44 : v23 = (-3 : Int32)
                        · rw [if_pos c44] at hr
                          refine tm_icT rfl c44 ?_
                          refine tm_n 2 (F' := (83, [(5, .inl v22), (4, .inl v11), (3, .inl v1), (0, .inr (.inr a0)), (1, .inl a1), (2, .inl a2)], [.inl a1, .inr (.inr a0)])) rfl ?_
                          by_cases c24 : lc_of h20 a0 = some 10
                          · rw [if_pos c24] at hr
                            rcases lb_V_s hr with ⟨h26, m27, hr⟩ | ⟨a42, h26, z43, z43l, m27, qz43, rfl⟩
                            · try dsimp only at hr
                              refine tm_call rfl rfl (tm_callV rfl rfl c24 rfl rfl) (lq_266 m27) ?_
                              refine tm_n 1 (F' := (87, [(5, .inl v22), (4, .inl v11), (3, .inl v1), (0, .inr (.inr a0)), (1, .inl a1), (2, .inl a2)], [.inr (.inr a0)])) rfl ?_
                              obtain ⟨v28, qv28, hr⟩ := Option.bind_eq_some_iff.mp hr
                              refine tm_getf rfl (lf_I_V qv28) ?_
                              refine tm_n 1 (F' := (92, [(5, .inl v22), (4, .inl v11), (3, .inl v1), (0, .inr (.inr a0)), (1, .inl a1), (2, .inl a2)], [.inl (41 : Int32), .inl v28])) rfl ?_
                              by_cases c41 : v28 = (41 : Int32)
                              · rw [if_pos c41] at hr
                                refine tm_icT rfl c41 ?_
                                refine tm_n 8 (F' := (109, [(5, .inl v22), (4, .inl v11), (3, .inl v1), (0, .inr (.inr a0)), (1, .inl a1), (2, .inl a2)], [.inl (v11 + ((16384 : Int32) * v22)), .inl v1, .inl a2, .inr (.inr a0)])) rfl ?_
                                by_cases c29 : lc_of h26 a0 = some 10
                                · rw [if_pos c29] at hr
                                  rcases lb_V_s hr with ⟨h31, m32, hr⟩ | ⟨a39, h31, z40, z40l, m32, qz40, rfl⟩
                                  · try dsimp only at hr
                                    refine tm_call rfl rfl (tm_callV rfl rfl c29 rfl rfl) (lq_275 m32) ?_
                                    refine tm_n 2 (F' := (114, [(5, .inl v22), (4, .inl v11), (3, .inl v1), (0, .inr (.inr a0)), (1, .inl a1), (2, .inl a2)], [.inl a1, .inr (.inr a0)])) rfl ?_
                                    by_cases c33 : lc_of h31 a0 = some 10
                                    · rw [if_pos c33] at hr
                                      rcases lb_V_s hr with ⟨h35, m36, hr⟩ | ⟨a37, h35, z38, z38l, m36, qz38, rfl⟩
                                      · try dsimp only at hr
                                        refine tm_call rfl rfl (tm_callV rfl rfl c33 rfl rfl) (lq_266 m36) ?_
                                        refine tm_n 1 (F' := (118, [(5, .inl v22), (4, .inl v11), (3, .inl v1), (0, .inr (.inr a0)), (1, .inl a1), (2, .inl a2)], [.inl (1 : Int32)])) rfl ?_
                                        cases hr
                                        exact tm_retI rfl rfl
                                      · exact tm_callT rfl rfl (tm_callV rfl rfl c33 rfl rfl) (lq_266 m36) qz38 rfl
                                    · rw [if_neg c33] at hr
                                      cases hr
                                  · exact tm_callT rfl rfl (tm_callV rfl rfl c29 rfl rfl) (lq_275 m32) qz40 rfl
                                · rw [if_neg c29] at hr
                                  cases hr
                              · rw [if_neg c41] at hr
                                refine tm_icF rfl c41 ?_
                                refine tm_n 1 (F' := (96, [(5, .inl v22), (4, .inl v11), (3, .inl v1), (0, .inr (.inr a0)), (1, .inl a1), (2, .inl a2)], [.inl (0 : Int32)])) rfl ?_
                                cases hr
                                exact tm_retI rfl rfl
                            · exact tm_callT rfl rfl (tm_callV rfl rfl c24 rfl rfl) (lq_266 m27) qz43 rfl
                          · rw [if_neg c24] at hr
                            cases hr
                        · rw [if_neg c44] at hr
                          refine tm_icF rfl c44 ?_
                          refine tm_n 1 (F' := (80, [(5, .inl v22), (4, .inl v11), (3, .inl v1), (0, .inr (.inr a0)), (1, .inl a1), (2, .inl a2)], [.inl (0 : Int32)])) rfl ?_
                          cases hr
                          exact tm_retI rfl rfl
                      · exact tm_callT rfl rfl (tm_callV rfl rfl c18 rfl rfl) (lq_266 m21) qz46 rfl
                    · rw [if_neg c18] at hr
                      cases hr
                  · rw [if_neg c47] at hr
                    refine tm_icF rfl c47 ?_
                    refine tm_n 1 (F' := (58, [(4, .inl v11), (3, .inl v1), (0, .inr (.inr a0)), (1, .inl a1), (2, .inl a2)], [.inl (0 : Int32)])) rfl ?_
                    cases hr
                    exact tm_retI rfl rfl
                · exact tm_callT rfl rfl (tm_callV rfl rfl c13 rfl rfl) (lq_266 m16) qz49 rfl
              · rw [if_neg c13] at hr
                cases hr
            · rw [if_neg c50] at hr
              refine tm_icF rfl c50 ?_
              refine tm_n 1 (F' := (42, [(4, .inl v11), (3, .inl v1), (0, .inr (.inr a0)), (1, .inl a1), (2, .inl a2)], [.inl (0 : Int32)])) rfl ?_
              cases hr
              exact tm_retI rfl rfl
          · exact tm_callT rfl rfl (tm_callV rfl rfl c7 rfl rfl) (lq_266 m10) qz52 rfl
        · rw [if_neg c7] at hr
          cases hr
      · rw [if_neg c53] at hr
        refine tm_icF rfl c53 ?_
        refine tm_n 1 (F' := (20, [(3, .inl v1), (0, .inr (.inr a0)), (1, .inl a1), (2, .inl a2)], [.inl (0 : Int32)])) rfl ?_
        cases hr
        exact tm_retI rfl rfl
    · exact tm_callT rfl rfl (tm_callV rfl rfl c2 rfl rfl) (lq_266 m5) qz55 rfl
  · rw [if_neg c2] at hr
    cases hr
-- OfficeSheetModel.strength(I)I
set_option maxRecDepth 20000 in
def ll_277 (a0 : Int32) (h : pm_H) : tm_L := if a0 = (43 : Int32) then some (.inl (some (.inl (1 : Int32))), h) else if a0 = (45 : Int32) then some (.inl (some (.inl (1 : Int32))), h) else if a0 = (42 : Int32) then some (.inl (some (.inl (2 : Int32))), h) else if a0 = (47 : Int32) then some (.inl (some (.inl (2 : Int32))), h) else if a0 = (126 : Int32) then some (.inl (some (.inl (3 : Int32))), h) else some (.inl (some (.inl (0 : Int32))), h)
set_option maxRecDepth 20000 in
theorem lq_277 {w : Option Nat} {d : Nat} {a0 : Int32} {h : pm_H} {r : tm_O × pm_H} (hr : ll_277 a0 h = some r) : tm_run pt_P (pt_G (tm_r w)) (d + 0) 277 [.inl a0] h r := by
  unfold ll_277 at hr
  show pm_to pt_P (pt_G (tm_r w)) (d + 0) (pt_g277, []) (tm_m (0, [(0, .inl a0)], [])) h (tm_e r)
  refine tm_n 2 (F' := (3, [(0, .inl a0)], [.inl (43 : Int32), .inl a0])) rfl ?_
  by_cases c5 : a0 = (43 : Int32)
  · rw [if_pos c5] at hr
    refine tm_icT rfl c5 ?_
    refine tm_n 2 (F' := (43, [(0, .inl a0)], [.inl (1 : Int32)])) rfl ?_
    cases hr
    exact tm_retI rfl rfl
  · rw [if_neg c5] at hr
    refine tm_icF rfl c5 ?_
    refine tm_n 2 (F' := (9, [(0, .inl a0)], [.inl (45 : Int32), .inl a0])) rfl ?_
    by_cases c4 : a0 = (45 : Int32)
    · rw [if_pos c4] at hr
      refine tm_icF rfl (fun q => q c4) ?_
      refine tm_n 2 (F' := (43, [(0, .inl a0)], [.inl (1 : Int32)])) rfl ?_
      cases hr
      exact tm_retI rfl rfl
    · rw [if_neg c4] at hr
      refine tm_icT rfl c4 ?_
      refine tm_n 2 (F' := (19, [(0, .inl a0)], [.inl (42 : Int32), .inl a0])) rfl ?_
      by_cases c3 : a0 = (42 : Int32)
      · rw [if_pos c3] at hr
        refine tm_icT rfl c3 ?_
        refine tm_n 2 (F' := (43, [(0, .inl a0)], [.inl (2 : Int32)])) rfl ?_
        cases hr
        exact tm_retI rfl rfl
      · rw [if_neg c3] at hr
        refine tm_icF rfl c3 ?_
        refine tm_n 2 (F' := (25, [(0, .inl a0)], [.inl (47 : Int32), .inl a0])) rfl ?_
        by_cases c2 : a0 = (47 : Int32)
        · rw [if_pos c2] at hr
          refine tm_icF rfl (fun q => q c2) ?_
          refine tm_n 2 (F' := (43, [(0, .inl a0)], [.inl (2 : Int32)])) rfl ?_
          cases hr
          exact tm_retI rfl rfl
        · rw [if_neg c2] at hr
          refine tm_icT rfl c2 ?_
          refine tm_n 2 (F' := (35, [(0, .inl a0)], [.inl (126 : Int32), .inl a0])) rfl ?_
          by_cases c1 : a0 = (126 : Int32)
          · rw [if_pos c1] at hr
            refine tm_icF rfl (fun q => q c1) ?_
            refine tm_n 2 (F' := (43, [(0, .inl a0)], [.inl (3 : Int32)])) rfl ?_
            cases hr
            exact tm_retI rfl rfl
          · rw [if_neg c1] at hr
            refine tm_icT rfl c1 ?_
            refine tm_n 1 (F' := (43, [(0, .inl a0)], [.inl (0 : Int32)])) rfl ?_
            cases hr
            exact tm_retI rfl rfl
-- OfficeSheetModel.settle(II)V
set_option maxRecDepth 20000 in
def l276_0 : Nat → Option Nat → Int32 → Int32 → pm_H → tm_L
  | 0 => fun _ _ _ _ => none
  | n + 1 => fun x0 x1 x2 h => (lf_I h x0 [10, 29]).bind fun v1 => if v1 ≤ (0 : Int32) then some (.inl none, h) else (lf_R h x0 [10, 28]).bind fun v2 => (lf_I h x0 [10, 29]).bind fun v3 => (la_I h .iaload v2 (v3 - (1 : Int32))).bind fun v4 => lb_I (ll_277 v4 h) (fun v5 h6 => if v5 < x2 then some (.inl none, h6) else (lf_I h6 x0 [10, 29]).bind fun v8 => (lf_P 81 h6 x0 [0, 10, 29] (.inl (v8 - (1 : Int32)))).bind fun h9 => (lf_R h9 x0 [10, 28]).bind fun v10 => (lf_I h9 x0 [10, 29]).bind fun v11 => (la_I h9 .iaload v10 v11).bind fun v12 => if lc_of h9 x0 = some 10 then lb_V (ll_275 x0 x1 v12 (0 : Int32) h9) (fun h15 => l276_0 n x0 x1 x2 h15) else none)
set_option maxRecDepth 20000 in
theorem l276_0_t {w : Option Nat} {d : Nat} : ∀ (n : Nat) {x0 : Option Nat} {x1 : Int32} {x2 : Int32} {h : pm_H} {r : tm_O × pm_H}, l276_0 n x0 x1 x2 h = some r → pm_to pt_P (pt_G (tm_r w)) (d + 1) (pt_g276, []) (tm_m (0, [(0, .inr (.inr x0)), (1, .inl x1), (2, .inl x2)], [])) h (tm_e r) := by
  intro n
  induction n with
  | zero => intro x0 x1 x2 h r hr; cases hr
  | succ n ih =>
    intro x0 x1 x2 h r hr
    unfold l276_0 at hr
    refine tm_n 1 (F' := (1, [(0, .inr (.inr x0)), (1, .inl x1), (2, .inl x2)], [.inr (.inr x0)])) rfl ?_
    obtain ⟨v1, qv1, hr⟩ := Option.bind_eq_some_iff.mp hr
    refine tm_getf rfl (lf_I_V qv1) ?_
    by_cases c22 : v1 ≤ (0 : Int32)
    · rw [if_pos c22] at hr
      refine tm_ifT rfl c22 ?_
      cases hr
      exact tm_retV rfl
    · rw [if_neg c22] at hr
      refine tm_ifF rfl c22 ?_
      refine tm_n 1 (F' := (8, [(0, .inr (.inr x0)), (1, .inl x1), (2, .inl x2)], [.inr (.inr x0)])) rfl ?_
      obtain ⟨v2, qv2, hr⟩ := Option.bind_eq_some_iff.mp hr
      refine tm_getf rfl (lf_R_V qv2) ?_
      refine tm_n 1 (F' := (12, [(0, .inr (.inr x0)), (1, .inl x1), (2, .inl x2)], [.inr (.inr x0), .inr (.inr v2)])) rfl ?_
      obtain ⟨v3, qv3, hr⟩ := Option.bind_eq_some_iff.mp hr
      refine tm_getf rfl (lf_I_V qv3) ?_
      refine tm_n 2 (F' := (17, [(0, .inr (.inr x0)), (1, .inl x1), (2, .inl x2)], [.inl (v3 - (1 : Int32)), .inr (.inr v2)])) rfl ?_
      obtain ⟨v4, qv4, hr⟩ := Option.bind_eq_some_iff.mp hr
      refine tm_ald rfl rfl (la_I_V qv4) ?_
      rcases lb_I_s hr with ⟨v5, h6, m7, hr⟩ | ⟨a20, h6, z21, z21l, m7, qz21, rfl⟩
      · try dsimp only at hr
        refine tm_call rfl rfl (tm_callS rfl rfl) (lq_277 m7) ?_
        refine tm_n 1 (F' := (22, [(0, .inr (.inr x0)), (1, .inl x1), (2, .inl x2)], [.inl x2, .inl v5])) rfl ?_
        by_cases c19 : v5 < x2
        · rw [if_pos c19] at hr
          refine tm_icT rfl c19 ?_
          cases hr
          exact tm_retV rfl
        · rw [if_neg c19] at hr
          refine tm_icF rfl c19 ?_
          refine tm_n 2 (F' := (27, [(0, .inr (.inr x0)), (1, .inl x1), (2, .inl x2)], [.inr (.inr x0), .inr (.inr x0)])) rfl ?_
          obtain ⟨v8, qv8, hr⟩ := Option.bind_eq_some_iff.mp hr
          refine tm_getf rfl (lf_I_V qv8) ?_
          refine tm_n 2 (F' := (32, [(0, .inr (.inr x0)), (1, .inl x1), (2, .inl x2)], [.inl (v8 - (1 : Int32)), .inr (.inr x0)])) rfl ?_
          obtain ⟨h9, qh9, hr⟩ := Option.bind_eq_some_iff.mp hr
          refine tm_putf rfl qh9 ?_
          refine tm_n 3 (F' := (38, [(0, .inr (.inr x0)), (1, .inl x1), (2, .inl x2)], [.inr (.inr x0), .inl x1, .inr (.inr x0)])) rfl ?_
          obtain ⟨v10, qv10, hr⟩ := Option.bind_eq_some_iff.mp hr
          refine tm_getf rfl (lf_R_V qv10) ?_
          refine tm_n 1 (F' := (42, [(0, .inr (.inr x0)), (1, .inl x1), (2, .inl x2)], [.inr (.inr x0), .inr (.inr v10), .inl x1, .inr (.inr x0)])) rfl ?_
          obtain ⟨v11, qv11, hr⟩ := Option.bind_eq_some_iff.mp hr
          refine tm_getf rfl (lf_I_V qv11) ?_
          obtain ⟨v12, qv12, hr⟩ := Option.bind_eq_some_iff.mp hr
          refine tm_ald rfl rfl (la_I_V qv12) ?_
          refine tm_n 1 (F' := (47, [(0, .inr (.inr x0)), (1, .inl x1), (2, .inl x2)], [.inl (0 : Int32), .inl v12, .inl x1, .inr (.inr x0)])) rfl ?_
          by_cases c13 : lc_of h9 x0 = some 10
          · rw [if_pos c13] at hr
            rcases lb_V_s hr with ⟨h15, m16, hr⟩ | ⟨a17, h15, z18, z18l, m16, qz18, rfl⟩
            · try dsimp only at hr
              refine tm_call rfl rfl (tm_callV rfl rfl c13 rfl rfl) (lq_275 m16) ?_
              refine tm_n 1 (F' := (0, [(0, .inr (.inr x0)), (1, .inl x1), (2, .inl x2)], [])) rfl ?_
              refine tm_cut (a := [(0, .inr (.inr x0)), (1, .inl x1), (2, .inl x2)]) rfl (tm_sbs [0, 1, 2] rfl) ?_
              exact ih hr
            · exact tm_callT rfl rfl (tm_callV rfl rfl c13 rfl rfl) (lq_275 m16) qz18 rfl
          · rw [if_neg c13] at hr
            cases hr
      · exact tm_callT rfl rfl (tm_callS rfl rfl) (lq_277 m7) qz21 rfl
set_option maxRecDepth 20000 in
def ll_276 (a0 : Option Nat) (a1 : Int32) (a2 : Int32) (h : pm_H) : tm_L := l276_0 lf_N a0 a1 a2 h
set_option maxRecDepth 20000 in
theorem lq_276 {w : Option Nat} {d : Nat} {a0 : Option Nat} {a1 : Int32} {a2 : Int32} {h : pm_H} {r : tm_O × pm_H} (hr : ll_276 a0 a1 a2 h = some r) : tm_run pt_P (pt_G (tm_r w)) (d + 1) 276 [.inr (.inr a0), .inl a1, .inl a2] h r := by
  unfold ll_276 at hr
  show pm_to pt_P (pt_G (tm_r w)) (d + 1) (pt_g276, []) (tm_m (0, [(0, .inr (.inr a0)), (1, .inl a1), (2, .inl a2)], [])) h (tm_e r)
  refine tm_cut (a := [(0, .inr (.inr a0)), (1, .inl a1), (2, .inl a2)]) rfl (tm_sbs [0, 1, 2] rfl) ?_
  exact l276_0_t lf_N hr
-- OfficeSheetModel.operand(II)I
set_option maxRecDepth 20000 in
def l272_53 (x0 : Option Nat) (x1 : Int32) (s0 : Int32) (s1 : Option Nat) (h : pm_H) : tm_L := (lf_P 81 h s1 [0, 10, 30] (.inl s0)).bind fun h1 => if lc_of h1 x0 = some 10 then lb_V (ll_266 x0 x1 h1) (fun h4 => some (.inl (some (.inl (0 : Int32))), h4)) else none
set_option maxRecDepth 20000 in
theorem l272_53_t {w : Option Nat} {d : Nat} {x0 : Option Nat} {x1 : Int32} {s0 : Int32} {s1 : Option Nat} {h : pm_H} {r : tm_O × pm_H} (hr : l272_53 x0 x1 s0 s1 h = some r) : pm_to pt_P (pt_G (tm_r w)) (d + 4) (pt_g272, []) (tm_m (53, [(0, .inr (.inr x0)), (1, .inl x1)], [.inl s0, .inr (.inr s1)])) h (tm_e r) := by
  unfold l272_53 at hr
  obtain ⟨h1, qh1, hr⟩ := Option.bind_eq_some_iff.mp hr
  refine tm_putf rfl qh1 ?_
  refine tm_n 2 (F' := (58, [(0, .inr (.inr x0)), (1, .inl x1)], [.inl x1, .inr (.inr x0)])) rfl ?_
  by_cases c2 : lc_of h1 x0 = some 10
  · rw [if_pos c2] at hr
    rcases lb_V_s hr with ⟨h4, m5, hr⟩ | ⟨a6, h4, z7, z7l, m5, qz7, rfl⟩
    · try dsimp only at hr
      refine tm_call rfl rfl (tm_callV rfl rfl c2 rfl rfl) (lq_266 m5) ?_
      refine tm_n 1 (F' := (62, [(0, .inr (.inr x0)), (1, .inl x1)], [.inl (0 : Int32)])) rfl ?_
      cases hr
      exact tm_retI rfl rfl
    · exact tm_callT rfl rfl (tm_callV rfl rfl c2 rfl rfl) (lq_266 m5) qz7 rfl
  · rw [if_neg c2] at hr
    cases hr
set_option maxRecDepth 20000 in
def l272_30 (x0 : Option Nat) (x1 : Int32) (x3 : Int32) (s0 : Int32) (s1 : Option Nat) (h : pm_H) : tm_L := if lc_of h s1 = some 10 then lb_V (ll_273 s1 s0 h) (fun h3 => if x3 = (40 : Int32) then (lf_I h3 x0 [10, 30]).bind fun v5 => l272_53 x0 x1 (v5 + (1 : Int32)) x0 h3 else (lf_I h3 x0 [10, 30]).bind fun v6 => l272_53 x0 x1 v6 x0 h3) else none
set_option maxRecDepth 20000 in
theorem l272_30_t {w : Option Nat} {d : Nat} {x0 : Option Nat} {x1 : Int32} {x3 : Int32} {s0 : Int32} {s1 : Option Nat} {h : pm_H} {r : tm_O × pm_H} (hr : l272_30 x0 x1 x3 s0 s1 h = some r) : pm_to pt_P (pt_G (tm_r w)) (d + 4) (pt_g272, []) (tm_m (30, [(0, .inr (.inr x0)), (1, .inl x1), (3, .inl x3)], [.inl s0, .inr (.inr s1)])) h (tm_e r) := by
  unfold l272_30 at hr
  by_cases c1 : lc_of h s1 = some 10
  · rw [if_pos c1] at hr
    rcases lb_V_s hr with ⟨h3, m4, hr⟩ | ⟨a8, h3, z9, z9l, m4, qz9, rfl⟩
    · try dsimp only at hr
      refine tm_call rfl rfl (tm_callV rfl rfl c1 rfl rfl) (lq_273 m4) ?_
      refine tm_n 3 (F' := (37, [(0, .inr (.inr x0)), (1, .inl x1), (3, .inl x3)], [.inl (40 : Int32), .inl x3, .inr (.inr x0)])) rfl ?_
      by_cases c7 : x3 = (40 : Int32)
      · rw [if_pos c7] at hr
        refine tm_icF rfl (fun q => q c7) ?_
        refine tm_n 1 (F' := (41, [(0, .inr (.inr x0)), (1, .inl x1), (3, .inl x3)], [.inr (.inr x0), .inr (.inr x0)])) rfl ?_
        obtain ⟨v5, qv5, hr⟩ := Option.bind_eq_some_iff.mp hr
        refine tm_getf rfl (lf_I_V qv5) ?_
        refine tm_n 3 (F' := (53, [(0, .inr (.inr x0)), (1, .inl x1), (3, .inl x3)], [.inl (v5 + (1 : Int32)), .inr (.inr x0)])) rfl ?_
        refine tm_cut (a := [(0, .inr (.inr x0)), (1, .inl x1)]) rfl (tm_sbs [0, 1] rfl) ?_
        exact l272_53_t hr
      · rw [if_neg c7] at hr
        refine tm_icT rfl c7 ?_
        refine tm_n 1 (F' := (50, [(0, .inr (.inr x0)), (1, .inl x1), (3, .inl x3)], [.inr (.inr x0), .inr (.inr x0)])) rfl ?_
        obtain ⟨v6, qv6, hr⟩ := Option.bind_eq_some_iff.mp hr
        refine tm_getf rfl (lf_I_V qv6) ?_
        refine tm_cut (a := [(0, .inr (.inr x0)), (1, .inl x1)]) rfl (tm_sbs [0, 1] rfl) ?_
        exact l272_53_t hr
    · exact tm_callT rfl rfl (tm_callV rfl rfl c1 rfl rfl) (lq_273 m4) qz9 rfl
  · rw [if_neg c1] at hr
    cases hr
set_option maxRecDepth 20000 in
def l272_17 (x0 : Option Nat) (x1 : Int32) (x3 : Int32) (h : pm_H) : tm_L := if x3 = (45 : Int32) then l272_30 x0 x1 x3 (126 : Int32) x0 h else l272_30 x0 x1 x3 x3 x0 h
set_option maxRecDepth 20000 in
theorem l272_17_t {w : Option Nat} {d : Nat} {x0 : Option Nat} {x1 : Int32} {x3 : Int32} {h : pm_H} {r : tm_O × pm_H} (hr : l272_17 x0 x1 x3 h = some r) : pm_to pt_P (pt_G (tm_r w)) (d + 4) (pt_g272, []) (tm_m (17, [(0, .inr (.inr x0)), (1, .inl x1), (3, .inl x3)], [])) h (tm_e r) := by
  unfold l272_17 at hr
  refine tm_n 3 (F' := (21, [(0, .inr (.inr x0)), (1, .inl x1), (3, .inl x3)], [.inl (45 : Int32), .inl x3, .inr (.inr x0)])) rfl ?_
  by_cases c1 : x3 = (45 : Int32)
  · rw [if_pos c1] at hr
    refine tm_icF rfl (fun q => q c1) ?_
    refine tm_n 2 (F' := (30, [(0, .inr (.inr x0)), (1, .inl x1), (3, .inl x3)], [.inl (126 : Int32), .inr (.inr x0)])) rfl ?_
    refine tm_cut (a := [(0, .inr (.inr x0)), (1, .inl x1), (3, .inl x3)]) rfl (tm_sbs [0, 1, 2] rfl) ?_
    exact l272_30_t hr
  · rw [if_neg c1] at hr
    refine tm_icT rfl c1 ?_
    refine tm_n 1 (F' := (30, [(0, .inr (.inr x0)), (1, .inl x1), (3, .inl x3)], [.inl x3, .inr (.inr x0)])) rfl ?_
    refine tm_cut (a := [(0, .inr (.inr x0)), (1, .inl x1), (3, .inl x3)]) rfl (tm_sbs [0, 1, 2] rfl) ?_
    exact l272_30_t hr
set_option maxRecDepth 20000 in
def l272_146 (x0 : Option Nat) (x2 : Int32) (h : pm_H) : tm_L := if lc_of h x0 = some 10 then lb_V (ll_276 x0 x2 (3 : Int32) h) (fun h3 => some (.inl (some (.inl (1 : Int32))), h3)) else none
set_option maxRecDepth 20000 in
theorem l272_146_t {w : Option Nat} {d : Nat} {x0 : Option Nat} {x2 : Int32} {h : pm_H} {r : tm_O × pm_H} (hr : l272_146 x0 x2 h = some r) : pm_to pt_P (pt_G (tm_r w)) (d + 4) (pt_g272, []) (tm_m (146, [(0, .inr (.inr x0)), (2, .inl x2)], [])) h (tm_e r) := by
  unfold l272_146 at hr
  refine tm_n 3 (F' := (149, [(0, .inr (.inr x0)), (2, .inl x2)], [.inl (3 : Int32), .inl x2, .inr (.inr x0)])) rfl ?_
  by_cases c1 : lc_of h x0 = some 10
  · rw [if_pos c1] at hr
    rcases lb_V_s hr with ⟨h3, m4, hr⟩ | ⟨a5, h3, z6, z6l, m4, qz6, rfl⟩
    · try dsimp only at hr
      refine tm_call rfl rfl (tm_callV rfl rfl c1 rfl rfl) (lq_276 m4) ?_
      refine tm_n 1 (F' := (153, [(0, .inr (.inr x0)), (2, .inl x2)], [.inl (1 : Int32)])) rfl ?_
      cases hr
      exact tm_retI rfl rfl
    · exact tm_callT rfl rfl (tm_callV rfl rfl c1 rfl rfl) (lq_276 m4) qz6 rfl
  · rw [if_neg c1] at hr
    cases hr
set_option maxRecDepth 20000 in
def l272_81 (x0 : Option Nat) (x1 : Int32) (x2 : Int32) (h : pm_H) : tm_L := if lc_of h x0 = some 10 then lb_I (ll_274 x0 x1 x2 h) (fun v2 h3 => if v2 = (0 : Int32) then some (.inl (some (.inl (-1 : Int32))), h3) else l272_146 x0 x2 h3) else none
set_option maxRecDepth 20000 in
theorem l272_81_t {w : Option Nat} {d : Nat} {x0 : Option Nat} {x1 : Int32} {x2 : Int32} {h : pm_H} {r : tm_O × pm_H} (hr : l272_81 x0 x1 x2 h = some r) : pm_to pt_P (pt_G (tm_r w)) (d + 4) (pt_g272, []) (tm_m (81, [(0, .inr (.inr x0)), (1, .inl x1), (2, .inl x2)], [])) h (tm_e r) := by
  unfold l272_81 at hr
  refine tm_n 3 (F' := (84, [(0, .inr (.inr x0)), (1, .inl x1), (2, .inl x2)], [.inl x2, .inl x1, .inr (.inr x0)])) rfl ?_
  by_cases c1 : lc_of h x0 = some 10
  · rw [if_pos c1] at hr
    rcases lb_I_s hr with ⟨v2, h3, m4, hr⟩ | ⟨a6, h3, z7, z7l, m4, qz7, rfl⟩
    · try dsimp only at hr
      refine tm_call rfl rfl (tm_callV rfl rfl c1 rfl rfl) (lq_274 m4) ?_
      by_cases c5 : v2 = (0 : Int32)
      · rw [if_pos c5] at hr
        refine tm_ifF rfl (fun q => q c5) ?_
        refine tm_n 1 (F' := (91, [(0, .inr (.inr x0)), (1, .inl x1), (2, .inl x2)], [.inl (-1 : Int32)])) rfl ?_
        cases hr
        exact tm_retI rfl rfl
      · rw [if_neg c5] at hr
        refine tm_ifT rfl c5 ?_
        refine tm_cut (a := [(0, .inr (.inr x0)), (2, .inl x2)]) rfl (tm_sbs [0, 2] rfl) ?_
        exact l272_146_t hr
    · exact tm_callT rfl rfl (tm_callV rfl rfl c1 rfl rfl) (lq_274 m4) qz7 rfl
  · rw [if_neg c1] at hr
    cases hr
set_option maxRecDepth 20000 in
def l272_138 (x0 : Option Nat) (x1 : Int32) (x2 : Int32) (s0 : Int32) (s1 : Int32) (s2 : Int32) (s3 : Option Nat) (h : pm_H) : tm_L := if lc_of h s3 = some 10 then lb_V (ll_275 s3 s2 s1 s0 h) (fun h3 => if lc_of h3 x0 = some 10 then lb_V (ll_266 x0 x1 h3) (fun h7 => l272_146 x0 x2 h7) else none) else none
set_option maxRecDepth 20000 in
theorem l272_138_t {w : Option Nat} {d : Nat} {x0 : Option Nat} {x1 : Int32} {x2 : Int32} {s0 : Int32} {s1 : Int32} {s2 : Int32} {s3 : Option Nat} {h : pm_H} {r : tm_O × pm_H} (hr : l272_138 x0 x1 x2 s0 s1 s2 s3 h = some r) : pm_to pt_P (pt_G (tm_r w)) (d + 4) (pt_g272, []) (tm_m (138, [(0, .inr (.inr x0)), (1, .inl x1), (2, .inl x2)], [.inl s0, .inl s1, .inl s2, .inr (.inr s3)])) h (tm_e r) := by
  unfold l272_138 at hr
  by_cases c1 : lc_of h s3 = some 10
  · rw [if_pos c1] at hr
    rcases lb_V_s hr with ⟨h3, m4, hr⟩ | ⟨a11, h3, z12, z12l, m4, qz12, rfl⟩
    · try dsimp only at hr
      refine tm_call rfl rfl (tm_callV rfl rfl c1 rfl rfl) (lq_275 m4) ?_
      refine tm_n 2 (F' := (143, [(0, .inr (.inr x0)), (1, .inl x1), (2, .inl x2)], [.inl x1, .inr (.inr x0)])) rfl ?_
      by_cases c5 : lc_of h3 x0 = some 10
      · rw [if_pos c5] at hr
        rcases lb_V_s hr with ⟨h7, m8, hr⟩ | ⟨a9, h7, z10, z10l, m8, qz10, rfl⟩
        · try dsimp only at hr
          refine tm_call rfl rfl (tm_callV rfl rfl c5 rfl rfl) (lq_266 m8) ?_
          refine tm_cut (a := [(0, .inr (.inr x0)), (2, .inl x2)]) rfl (tm_sbs [0, 2] rfl) ?_
          exact l272_146_t hr
        · exact tm_callT rfl rfl (tm_callV rfl rfl c5 rfl rfl) (lq_266 m8) qz10 rfl
      · rw [if_neg c5] at hr
        cases hr
    · exact tm_callT rfl rfl (tm_callV rfl rfl c1 rfl rfl) (lq_275 m4) qz12 rfl
  · rw [if_neg c1] at hr
    cases hr
set_option maxRecDepth 20000 in
def l272_121 (x0 : Option Nat) (x1 : Int32) (x2 : Int32) (x3 : Int32) (s0 : Int32) (s1 : Int32) (s2 : Option Nat) (h : pm_H) : tm_L := if x3 = (-2 : Int32) then (lf_I h x0 [10, 26]).bind fun v1 => l272_138 x0 x1 x2 v1 s0 s1 s2 h else (lf_I h x0 [10, 27]).bind fun v2 => l272_138 x0 x1 x2 v2 s0 s1 s2 h
set_option maxRecDepth 20000 in
theorem l272_121_t {w : Option Nat} {d : Nat} {x0 : Option Nat} {x1 : Int32} {x2 : Int32} {x3 : Int32} {s0 : Int32} {s1 : Int32} {s2 : Option Nat} {h : pm_H} {r : tm_O × pm_H} (hr : l272_121 x0 x1 x2 x3 s0 s1 s2 h = some r) : pm_to pt_P (pt_G (tm_r w)) (d + 4) (pt_g272, []) (tm_m (121, [(0, .inr (.inr x0)), (1, .inl x1), (2, .inl x2), (3, .inl x3)], [.inl s0, .inl s1, .inr (.inr s2)])) h (tm_e r) := by
  unfold l272_121 at hr
  refine tm_n 2 (F' := (124, [(0, .inr (.inr x0)), (1, .inl x1), (2, .inl x2), (3, .inl x3)], [.inl (-2 : Int32), .inl x3, .inl s0, .inl s1, .inr (.inr s2)])) rfl ?_
  by_cases c3 : x3 = (-2 : Int32)
  · rw [if_pos c3] at hr
    refine tm_icF rfl (fun q => q c3) ?_
    refine tm_n 1 (F' := (128, [(0, .inr (.inr x0)), (1, .inl x1), (2, .inl x2), (3, .inl x3)], [.inr (.inr x0), .inl s0, .inl s1, .inr (.inr s2)])) rfl ?_
    obtain ⟨v1, qv1, hr⟩ := Option.bind_eq_some_iff.mp hr
    refine tm_getf rfl (lf_I_V qv1) ?_
    refine tm_n 1 (F' := (138, [(0, .inr (.inr x0)), (1, .inl x1), (2, .inl x2), (3, .inl x3)], [.inl v1, .inl s0, .inl s1, .inr (.inr s2)])) rfl ?_
    refine tm_cut (a := [(0, .inr (.inr x0)), (1, .inl x1), (2, .inl x2)]) rfl (tm_sbs [0, 1, 2] rfl) ?_
    exact l272_138_t hr
  · rw [if_neg c3] at hr
    refine tm_icT rfl c3 ?_
    refine tm_n 1 (F' := (135, [(0, .inr (.inr x0)), (1, .inl x1), (2, .inl x2), (3, .inl x3)], [.inr (.inr x0), .inl s0, .inl s1, .inr (.inr s2)])) rfl ?_
    obtain ⟨v2, qv2, hr⟩ := Option.bind_eq_some_iff.mp hr
    refine tm_getf rfl (lf_I_V qv2) ?_
    refine tm_cut (a := [(0, .inr (.inr x0)), (1, .inl x1), (2, .inl x2)]) rfl (tm_sbs [0, 1, 2] rfl) ?_
    exact l272_138_t hr
set_option maxRecDepth 20000 in
def l272_106 (x0 : Option Nat) (x1 : Int32) (x2 : Int32) (x3 : Int32) (h : pm_H) : tm_L := if x3 = (-2 : Int32) then l272_121 x0 x1 x2 x3 (97 : Int32) x2 x0 h else l272_121 x0 x1 x2 x3 (114 : Int32) x2 x0 h
set_option maxRecDepth 20000 in
theorem l272_106_t {w : Option Nat} {d : Nat} {x0 : Option Nat} {x1 : Int32} {x2 : Int32} {x3 : Int32} {h : pm_H} {r : tm_O × pm_H} (hr : l272_106 x0 x1 x2 x3 h = some r) : pm_to pt_P (pt_G (tm_r w)) (d + 4) (pt_g272, []) (tm_m (106, [(0, .inr (.inr x0)), (1, .inl x1), (2, .inl x2), (3, .inl x3)], [])) h (tm_e r) := by
  unfold l272_106 at hr
  refine tm_n 4 (F' := (111, [(0, .inr (.inr x0)), (1, .inl x1), (2, .inl x2), (3, .inl x3)], [.inl (-2 : Int32), .inl x3, .inl x2, .inr (.inr x0)])) rfl ?_
  by_cases c1 : x3 = (-2 : Int32)
  · rw [if_pos c1] at hr
    refine tm_icF rfl (fun q => q c1) ?_
    refine tm_n 2 (F' := (121, [(0, .inr (.inr x0)), (1, .inl x1), (2, .inl x2), (3, .inl x3)], [.inl (97 : Int32), .inl x2, .inr (.inr x0)])) rfl ?_
    refine tm_cut (a := [(0, .inr (.inr x0)), (1, .inl x1), (2, .inl x2), (3, .inl x3)]) rfl (tm_sbs [0, 1, 2, 3] rfl) ?_
    exact l272_121_t hr
  · rw [if_neg c1] at hr
    refine tm_icT rfl c1 ?_
    refine tm_n 1 (F' := (121, [(0, .inr (.inr x0)), (1, .inl x1), (2, .inl x2), (3, .inl x3)], [.inl (114 : Int32), .inl x2, .inr (.inr x0)])) rfl ?_
    refine tm_cut (a := [(0, .inr (.inr x0)), (1, .inl x1), (2, .inl x2), (3, .inl x3)]) rfl (tm_sbs [0, 1, 2, 3] rfl) ?_
    exact l272_121_t hr
set_option maxRecDepth 20000 in
def ll_272 (a0 : Option Nat) (a1 : Int32) (a2 : Int32) (h : pm_H) : tm_L := (lf_I h a0 [10, 25]).bind fun v1 => if v1 = (40 : Int32) then l272_17 a0 a1 v1 h else if v1 = (45 : Int32) then l272_17 a0 a1 v1 h else if v1 = (115 : Int32) then l272_81 a0 a1 a2 h else if v1 = (110 : Int32) then l272_81 a0 a1 a2 h else if v1 = (109 : Int32) then l272_81 a0 a1 a2 h else if v1 = (-2 : Int32) then l272_106 a0 a1 a2 v1 h else if v1 = (-3 : Int32) then l272_106 a0 a1 a2 v1 h else some (.inl (some (.inl (-1 : Int32))), h)
set_option maxRecDepth 20000 in
theorem lq_272 {w : Option Nat} {d : Nat} {a0 : Option Nat} {a1 : Int32} {a2 : Int32} {h : pm_H} {r : tm_O × pm_H} (hr : ll_272 a0 a1 a2 h = some r) : tm_run pt_P (pt_G (tm_r w)) (d + 4) 272 [.inr (.inr a0), .inl a1, .inl a2] h r := by
  unfold ll_272 at hr
  show pm_to pt_P (pt_G (tm_r w)) (d + 4) (pt_g272, []) (tm_m (0, [(0, .inr (.inr a0)), (1, .inl a1), (2, .inl a2)], [])) h (tm_e r)
  refine tm_n 1 (F' := (1, [(0, .inr (.inr a0)), (1, .inl a1), (2, .inl a2)], [.inr (.inr a0)])) rfl ?_
  obtain ⟨v1, qv1, hr⟩ := Option.bind_eq_some_iff.mp hr
  refine tm_getf rfl (lf_I_V qv1) ?_
  refine tm_n 3 (F' := (8, [(3, .inl v1), (0, .inr (.inr a0)), (1, .inl a1), (2, .inl a2)], [.inl (40 : Int32), .inl v1])) rfl ?_
  by_cases c8 : v1 = (40 : Int32)
  · rw [if_pos c8] at hr
    refine tm_icT rfl c8 ?_
    refine tm_cut (a := [(0, .inr (.inr a0)), (1, .inl a1), (3, .inl v1)]) rfl (tm_sbs [1, 2, 0] rfl) ?_
    exact l272_17_t hr
  · rw [if_neg c8] at hr
    refine tm_icF rfl c8 ?_
    refine tm_n 2 (F' := (14, [(3, .inl v1), (0, .inr (.inr a0)), (1, .inl a1), (2, .inl a2)], [.inl (45 : Int32), .inl v1])) rfl ?_
    by_cases c7 : v1 = (45 : Int32)
    · rw [if_pos c7] at hr
      refine tm_icF rfl (fun q => q c7) ?_
      refine tm_cut (a := [(0, .inr (.inr a0)), (1, .inl a1), (3, .inl v1)]) rfl (tm_sbs [1, 2, 0] rfl) ?_
      exact l272_17_t hr
    · rw [if_neg c7] at hr
      refine tm_icT rfl c7 ?_
      refine tm_n 2 (F' := (66, [(3, .inl v1), (0, .inr (.inr a0)), (1, .inl a1), (2, .inl a2)], [.inl (115 : Int32), .inl v1])) rfl ?_
      by_cases c6 : v1 = (115 : Int32)
      · rw [if_pos c6] at hr
        refine tm_icT rfl c6 ?_
        refine tm_cut (a := [(0, .inr (.inr a0)), (1, .inl a1), (2, .inl a2)]) rfl (tm_sbs [1, 2, 3] rfl) ?_
        exact l272_81_t hr
      · rw [if_neg c6] at hr
        refine tm_icF rfl c6 ?_
        refine tm_n 2 (F' := (72, [(3, .inl v1), (0, .inr (.inr a0)), (1, .inl a1), (2, .inl a2)], [.inl (110 : Int32), .inl v1])) rfl ?_
        by_cases c5 : v1 = (110 : Int32)
        · rw [if_pos c5] at hr
          refine tm_icT rfl c5 ?_
          refine tm_cut (a := [(0, .inr (.inr a0)), (1, .inl a1), (2, .inl a2)]) rfl (tm_sbs [1, 2, 3] rfl) ?_
          exact l272_81_t hr
        · rw [if_neg c5] at hr
          refine tm_icF rfl c5 ?_
          refine tm_n 2 (F' := (78, [(3, .inl v1), (0, .inr (.inr a0)), (1, .inl a1), (2, .inl a2)], [.inl (109 : Int32), .inl v1])) rfl ?_
          by_cases c4 : v1 = (109 : Int32)
          · rw [if_pos c4] at hr
            refine tm_icF rfl (fun q => q c4) ?_
            refine tm_cut (a := [(0, .inr (.inr a0)), (1, .inl a1), (2, .inl a2)]) rfl (tm_sbs [1, 2, 3] rfl) ?_
            exact l272_81_t hr
          · rw [if_neg c4] at hr
            refine tm_icT rfl c4 ?_
            refine tm_n 2 (F' := (95, [(3, .inl v1), (0, .inr (.inr a0)), (1, .inl a1), (2, .inl a2)], [.inl (-2 : Int32), .inl v1])) rfl ?_
            by_cases c3 : v1 = (-2 : Int32)
            · rw [if_pos c3] at hr
              refine tm_icT rfl c3 ?_
              refine tm_cut (a := [(0, .inr (.inr a0)), (1, .inl a1), (2, .inl a2), (3, .inl v1)]) rfl (tm_sbs [1, 2, 3, 0] rfl) ?_
              exact l272_106_t hr
            · rw [if_neg c3] at hr
              refine tm_icF rfl c3 ?_
              refine tm_n 2 (F' := (101, [(3, .inl v1), (0, .inr (.inr a0)), (1, .inl a1), (2, .inl a2)], [.inl (-3 : Int32), .inl v1])) rfl ?_
              by_cases c2 : v1 = (-3 : Int32)
              · rw [if_pos c2] at hr
                refine tm_icT rfl c2 ?_
                refine tm_cut (a := [(0, .inr (.inr a0)), (1, .inl a1), (2, .inl a2), (3, .inl v1)]) rfl (tm_sbs [1, 2, 3, 0] rfl) ?_
                exact l272_106_t hr
              · rw [if_neg c2] at hr
                refine tm_icF rfl c2 ?_
                refine tm_n 1 (F' := (105, [(3, .inl v1), (0, .inr (.inr a0)), (1, .inl a1), (2, .inl a2)], [.inl (-1 : Int32)])) rfl ?_
                cases hr
                exact tm_retI rfl rfl
-- OfficeSheetModel.behind(II)I
set_option maxRecDepth 20000 in
def l278_39 (x0 : Option Nat) (x1 : Int32) (x2 : Int32) (x3 : Int32) (h : pm_H) : tm_L := if x3 = (41 : Int32) then (lf_I h x0 [10, 30]).bind fun v1 => if v1 = (0 : Int32) then some (.inl (some (.inl (-1 : Int32))), h) else if lc_of h x0 = some 10 then lb_V (ll_276 x0 x2 (1 : Int32) h) (fun h4 => (lf_I h4 x0 [10, 29]).bind fun v6 => (lf_P 81 h4 x0 [0, 10, 29] (.inl (v6 - (1 : Int32)))).bind fun h7 => (lf_I h7 x0 [10, 30]).bind fun v8 => (lf_P 81 h7 x0 [0, 10, 30] (.inl (v8 - (1 : Int32)))).bind fun h9 => if lc_of h9 x0 = some 10 then lb_V (ll_266 x0 x1 h9) (fun h12 => if lc_of h12 x0 = some 10 then lb_V (ll_276 x0 x2 (3 : Int32) h12) (fun h16 => some (.inl (some (.inl (1 : Int32))), h16)) else none) else none) else none else some (.inl (some (.inl (-1 : Int32))), h)
set_option maxRecDepth 20000 in
theorem l278_39_t {w : Option Nat} {d : Nat} {x0 : Option Nat} {x1 : Int32} {x2 : Int32} {x3 : Int32} {h : pm_H} {r : tm_O × pm_H} (hr : l278_39 x0 x1 x2 x3 h = some r) : pm_to pt_P (pt_G (tm_r w)) (d + 3) (pt_g278, []) (tm_m (39, [(0, .inr (.inr x0)), (1, .inl x1), (2, .inl x2), (3, .inl x3)], [])) h (tm_e r) := by
  unfold l278_39 at hr
  refine tm_n 2 (F' := (42, [(0, .inr (.inr x0)), (1, .inl x1), (2, .inl x2), (3, .inl x3)], [.inl (41 : Int32), .inl x3])) rfl ?_
  by_cases c25 : x3 = (41 : Int32)
  · rw [if_pos c25] at hr
    refine tm_icF rfl (fun q => q c25) ?_
    refine tm_n 1 (F' := (46, [(0, .inr (.inr x0)), (1, .inl x1), (2, .inl x2), (3, .inl x3)], [.inr (.inr x0)])) rfl ?_
    obtain ⟨v1, qv1, hr⟩ := Option.bind_eq_some_iff.mp hr
    refine tm_getf rfl (lf_I_V qv1) ?_
    by_cases c24 : v1 = (0 : Int32)
    · rw [if_pos c24] at hr
      refine tm_ifF rfl (fun q => q c24) ?_
      refine tm_n 1 (F' := (53, [(0, .inr (.inr x0)), (1, .inl x1), (2, .inl x2), (3, .inl x3)], [.inl (-1 : Int32)])) rfl ?_
      cases hr
      exact tm_retI rfl rfl
    · rw [if_neg c24] at hr
      refine tm_ifT rfl c24 ?_
      refine tm_n 3 (F' := (57, [(0, .inr (.inr x0)), (1, .inl x1), (2, .inl x2), (3, .inl x3)], [.inl (1 : Int32), .inl x2, .inr (.inr x0)])) rfl ?_
      by_cases c2 : lc_of h x0 = some 10
      · rw [if_pos c2] at hr
        rcases lb_V_s hr with ⟨h4, m5, hr⟩ | ⟨a22, h4, z23, z23l, m5, qz23, rfl⟩
        · try dsimp only at hr
          refine tm_call rfl rfl (tm_callV rfl rfl c2 rfl rfl) (lq_276 m5) ?_
          refine tm_n 2 (F' := (62, [(0, .inr (.inr x0)), (1, .inl x1), (2, .inl x2), (3, .inl x3)], [.inr (.inr x0), .inr (.inr x0)])) rfl ?_
          obtain ⟨v6, qv6, hr⟩ := Option.bind_eq_some_iff.mp hr
          refine tm_getf rfl (lf_I_V qv6) ?_
          refine tm_n 2 (F' := (67, [(0, .inr (.inr x0)), (1, .inl x1), (2, .inl x2), (3, .inl x3)], [.inl (v6 - (1 : Int32)), .inr (.inr x0)])) rfl ?_
          obtain ⟨h7, qh7, hr⟩ := Option.bind_eq_some_iff.mp hr
          refine tm_putf rfl qh7 ?_
          refine tm_n 2 (F' := (72, [(0, .inr (.inr x0)), (1, .inl x1), (2, .inl x2), (3, .inl x3)], [.inr (.inr x0), .inr (.inr x0)])) rfl ?_
          obtain ⟨v8, qv8, hr⟩ := Option.bind_eq_some_iff.mp hr
          refine tm_getf rfl (lf_I_V qv8) ?_
          refine tm_n 2 (F' := (77, [(0, .inr (.inr x0)), (1, .inl x1), (2, .inl x2), (3, .inl x3)], [.inl (v8 - (1 : Int32)), .inr (.inr x0)])) rfl ?_
          obtain ⟨h9, qh9, hr⟩ := Option.bind_eq_some_iff.mp hr
          refine tm_putf rfl qh9 ?_
          refine tm_n 2 (F' := (82, [(0, .inr (.inr x0)), (1, .inl x1), (2, .inl x2), (3, .inl x3)], [.inl x1, .inr (.inr x0)])) rfl ?_
          by_cases c10 : lc_of h9 x0 = some 10
          · rw [if_pos c10] at hr
            rcases lb_V_s hr with ⟨h12, m13, hr⟩ | ⟨a20, h12, z21, z21l, m13, qz21, rfl⟩
            · try dsimp only at hr
              refine tm_call rfl rfl (tm_callV rfl rfl c10 rfl rfl) (lq_266 m13) ?_
              refine tm_n 3 (F' := (88, [(0, .inr (.inr x0)), (1, .inl x1), (2, .inl x2), (3, .inl x3)], [.inl (3 : Int32), .inl x2, .inr (.inr x0)])) rfl ?_
              by_cases c14 : lc_of h12 x0 = some 10
              · rw [if_pos c14] at hr
                rcases lb_V_s hr with ⟨h16, m17, hr⟩ | ⟨a18, h16, z19, z19l, m17, qz19, rfl⟩
                · try dsimp only at hr
                  refine tm_call rfl rfl (tm_callV rfl rfl c14 rfl rfl) (lq_276 m17) ?_
                  refine tm_n 1 (F' := (92, [(0, .inr (.inr x0)), (1, .inl x1), (2, .inl x2), (3, .inl x3)], [.inl (1 : Int32)])) rfl ?_
                  cases hr
                  exact tm_retI rfl rfl
                · exact tm_callT rfl rfl (tm_callV rfl rfl c14 rfl rfl) (lq_276 m17) qz19 rfl
              · rw [if_neg c14] at hr
                cases hr
            · exact tm_callT rfl rfl (tm_callV rfl rfl c10 rfl rfl) (lq_266 m13) qz21 rfl
          · rw [if_neg c10] at hr
            cases hr
        · exact tm_callT rfl rfl (tm_callV rfl rfl c2 rfl rfl) (lq_276 m5) qz23 rfl
      · rw [if_neg c2] at hr
        cases hr
  · rw [if_neg c25] at hr
    refine tm_icT rfl c25 ?_
    refine tm_n 1 (F' := (53, [(0, .inr (.inr x0)), (1, .inl x1), (2, .inl x2), (3, .inl x3)], [.inl (-1 : Int32)])) rfl ?_
    cases hr
    exact tm_retI rfl rfl
set_option maxRecDepth 20000 in
def ll_278 (a0 : Option Nat) (a1 : Int32) (a2 : Int32) (h : pm_H) : tm_L := (lf_I h a0 [10, 25]).bind fun v1 => lb_I (ll_277 v1 h) (fun v2 h3 => if v2 ≤ (0 : Int32) then l278_39 a0 a1 a2 v1 h3 else if v1 = (126 : Int32) then l278_39 a0 a1 a2 v1 h3 else lb_I (ll_277 v1 h3) (fun v5 h6 => if lc_of h6 a0 = some 10 then lb_V (ll_276 a0 a2 v5 h6) (fun h10 => if lc_of h10 a0 = some 10 then lb_V (ll_273 a0 v1 h10) (fun h14 => if lc_of h14 a0 = some 10 then lb_V (ll_266 a0 a1 h14) (fun h18 => some (.inl (some (.inl (0 : Int32))), h18)) else none) else none) else none))
set_option maxRecDepth 20000 in
theorem lq_278 {w : Option Nat} {d : Nat} {a0 : Option Nat} {a1 : Int32} {a2 : Int32} {h : pm_H} {r : tm_O × pm_H} (hr : ll_278 a0 a1 a2 h = some r) : tm_run pt_P (pt_G (tm_r w)) (d + 3) 278 [.inr (.inr a0), .inl a1, .inl a2] h r := by
  unfold ll_278 at hr
  show pm_to pt_P (pt_G (tm_r w)) (d + 3) (pt_g278, []) (tm_m (0, [(0, .inr (.inr a0)), (1, .inl a1), (2, .inl a2)], [])) h (tm_e r)
  refine tm_n 1 (F' := (1, [(0, .inr (.inr a0)), (1, .inl a1), (2, .inl a2)], [.inr (.inr a0)])) rfl ?_
  obtain ⟨v1, qv1, hr⟩ := Option.bind_eq_some_iff.mp hr
  refine tm_getf rfl (lf_I_V qv1) ?_
  refine tm_n 2 (F' := (6, [(3, .inl v1), (0, .inr (.inr a0)), (1, .inl a1), (2, .inl a2)], [.inl v1])) rfl ?_
  rcases lb_I_s hr with ⟨v2, h3, m4, hr⟩ | ⟨a30, h3, z31, z31l, m4, qz31, rfl⟩
  · try dsimp only at hr
    refine tm_call rfl rfl (tm_callS rfl rfl) (lq_277 m4) ?_
    by_cases c29 : v2 ≤ (0 : Int32)
    · rw [if_pos c29] at hr
      refine tm_ifT rfl c29 ?_
      refine tm_cut (a := [(0, .inr (.inr a0)), (1, .inl a1), (2, .inl a2), (3, .inl v1)]) rfl (tm_sbs [1, 2, 3, 0] rfl) ?_
      exact l278_39_t hr
    · rw [if_neg c29] at hr
      refine tm_ifF rfl c29 ?_
      refine tm_n 2 (F' := (15, [(3, .inl v1), (0, .inr (.inr a0)), (1, .inl a1), (2, .inl a2)], [.inl (126 : Int32), .inl v1])) rfl ?_
      by_cases c28 : v1 = (126 : Int32)
      · rw [if_pos c28] at hr
        refine tm_icT rfl c28 ?_
        refine tm_cut (a := [(0, .inr (.inr a0)), (1, .inl a1), (2, .inl a2), (3, .inl v1)]) rfl (tm_sbs [1, 2, 3, 0] rfl) ?_
        exact l278_39_t hr
      · rw [if_neg c28] at hr
        refine tm_icF rfl c28 ?_
        refine tm_n 3 (F' := (21, [(3, .inl v1), (0, .inr (.inr a0)), (1, .inl a1), (2, .inl a2)], [.inl v1, .inl a2, .inr (.inr a0)])) rfl ?_
        rcases lb_I_s hr with ⟨v5, h6, m7, hr⟩ | ⟨a26, h6, z27, z27l, m7, qz27, rfl⟩
        · try dsimp only at hr
          refine tm_call rfl rfl (tm_callS rfl rfl) (lq_277 m7) ?_
          by_cases c8 : lc_of h6 a0 = some 10
          · rw [if_pos c8] at hr
            rcases lb_V_s hr with ⟨h10, m11, hr⟩ | ⟨a24, h10, z25, z25l, m11, qz25, rfl⟩
            · try dsimp only at hr
              refine tm_call rfl rfl (tm_callV rfl rfl c8 rfl rfl) (lq_276 m11) ?_
              refine tm_n 2 (F' := (29, [(3, .inl v1), (0, .inr (.inr a0)), (1, .inl a1), (2, .inl a2)], [.inl v1, .inr (.inr a0)])) rfl ?_
              by_cases c12 : lc_of h10 a0 = some 10
              · rw [if_pos c12] at hr
                rcases lb_V_s hr with ⟨h14, m15, hr⟩ | ⟨a22, h14, z23, z23l, m15, qz23, rfl⟩
                · try dsimp only at hr
                  refine tm_call rfl rfl (tm_callV rfl rfl c12 rfl rfl) (lq_273 m15) ?_
                  refine tm_n 2 (F' := (34, [(3, .inl v1), (0, .inr (.inr a0)), (1, .inl a1), (2, .inl a2)], [.inl a1, .inr (.inr a0)])) rfl ?_
                  by_cases c16 : lc_of h14 a0 = some 10
                  · rw [if_pos c16] at hr
                    rcases lb_V_s hr with ⟨h18, m19, hr⟩ | ⟨a20, h18, z21, z21l, m19, qz21, rfl⟩
                    · try dsimp only at hr
                      refine tm_call rfl rfl (tm_callV rfl rfl c16 rfl rfl) (lq_266 m19) ?_
                      refine tm_n 1 (F' := (38, [(3, .inl v1), (0, .inr (.inr a0)), (1, .inl a1), (2, .inl a2)], [.inl (0 : Int32)])) rfl ?_
                      cases hr
                      exact tm_retI rfl rfl
                    · exact tm_callT rfl rfl (tm_callV rfl rfl c16 rfl rfl) (lq_266 m19) qz21 rfl
                  · rw [if_neg c16] at hr
                    cases hr
                · exact tm_callT rfl rfl (tm_callV rfl rfl c12 rfl rfl) (lq_273 m15) qz23 rfl
              · rw [if_neg c12] at hr
                cases hr
            · exact tm_callT rfl rfl (tm_callV rfl rfl c8 rfl rfl) (lq_276 m11) qz25 rfl
          · rw [if_neg c8] at hr
            cases hr
        · exact tm_callT rfl rfl (tm_callS rfl rfl) (lq_277 m7) qz27 rfl
  · exact tm_callT rfl rfl (tm_callS rfl rfl) (lq_277 m4) qz31 rfl
-- OfficeSheetModel.expression(II)Z
set_option maxRecDepth 20000 in
def l271_51 (x0 : Option Nat) (x2 : Int32) (x3 : Int32) (h : pm_H) : tm_L := if x3 < (0 : Int32) then some (.inl (some (.inl (0 : Int32))), h) else (lf_I h x0 [10, 30]).bind fun v1 => if v1 ≤ (0 : Int32) then if lc_of h x0 = some 10 then lb_V (ll_276 x0 x2 (1 : Int32) h) (fun h4 => some (.inl (some (.inl (1 : Int32))), h4)) else none else some (.inl (some (.inl (0 : Int32))), h)
set_option maxRecDepth 20000 in
theorem l271_51_t {w : Option Nat} {d : Nat} {x0 : Option Nat} {x2 : Int32} {x3 : Int32} {h : pm_H} {r : tm_O × pm_H} (hr : l271_51 x0 x2 x3 h = some r) : pm_to pt_P (pt_G (tm_r w)) (d + 5) (pt_g271, []) (tm_m (51, [(0, .inr (.inr x0)), (2, .inl x2), (3, .inl x3)], [])) h (tm_e r) := by
  unfold l271_51 at hr
  refine tm_n 1 (F' := (52, [(0, .inr (.inr x0)), (2, .inl x2), (3, .inl x3)], [.inl x3])) rfl ?_
  by_cases c9 : x3 < (0 : Int32)
  · rw [if_pos c9] at hr
    refine tm_ifT rfl c9 ?_
    refine tm_n 1 (F' := (63, [(0, .inr (.inr x0)), (2, .inl x2), (3, .inl x3)], [.inl (0 : Int32)])) rfl ?_
    cases hr
    exact tm_retI rfl rfl
  · rw [if_neg c9] at hr
    refine tm_ifF rfl c9 ?_
    refine tm_n 1 (F' := (56, [(0, .inr (.inr x0)), (2, .inl x2), (3, .inl x3)], [.inr (.inr x0)])) rfl ?_
    obtain ⟨v1, qv1, hr⟩ := Option.bind_eq_some_iff.mp hr
    refine tm_getf rfl (lf_I_V qv1) ?_
    by_cases c8 : v1 ≤ (0 : Int32)
    · rw [if_pos c8] at hr
      refine tm_ifT rfl c8 ?_
      refine tm_n 3 (F' := (67, [(0, .inr (.inr x0)), (2, .inl x2), (3, .inl x3)], [.inl (1 : Int32), .inl x2, .inr (.inr x0)])) rfl ?_
      by_cases c2 : lc_of h x0 = some 10
      · rw [if_pos c2] at hr
        rcases lb_V_s hr with ⟨h4, m5, hr⟩ | ⟨a6, h4, z7, z7l, m5, qz7, rfl⟩
        · try dsimp only at hr
          refine tm_call rfl rfl (tm_callV rfl rfl c2 rfl rfl) (lq_276 m5) ?_
          refine tm_n 1 (F' := (71, [(0, .inr (.inr x0)), (2, .inl x2), (3, .inl x3)], [.inl (1 : Int32)])) rfl ?_
          cases hr
          exact tm_retI rfl rfl
        · exact tm_callT rfl rfl (tm_callV rfl rfl c2 rfl rfl) (lq_276 m5) qz7 rfl
      · rw [if_neg c2] at hr
        cases hr
    · rw [if_neg c8] at hr
      refine tm_ifF rfl c8 ?_
      refine tm_n 1 (F' := (63, [(0, .inr (.inr x0)), (2, .inl x2), (3, .inl x3)], [.inl (0 : Int32)])) rfl ?_
      cases hr
      exact tm_retI rfl rfl
set_option maxRecDepth 20000 in
def l271_47 (K12 : Option Nat → Int32 → Int32 → Int32 → pm_H → tm_L) (x0 : Option Nat) (x1 : Int32) (x2 : Int32) (s0 : Int32) (h : pm_H) : tm_L := K12 x0 x1 x2 s0 h
set_option maxRecDepth 20000 in
theorem l271_47_t {w : Option Nat} {d : Nat} {K12 : Option Nat → Int32 → Int32 → Int32 → pm_H → tm_L} (hK12 : ∀ {x0 : Option Nat} {x1 : Int32} {x2 : Int32} {x3 : Int32}  {h : pm_H} {r : tm_O × pm_H}, K12 x0 x1 x2 x3 h = some r → pm_to pt_P (pt_G (tm_r w)) (d + 5) (pt_g271, []) (tm_m (12, [(0, .inr (.inr x0)), (1, .inl x1), (2, .inl x2), (3, .inl x3)], [])) h (tm_e r)) {x0 : Option Nat} {x1 : Int32} {x2 : Int32} {s0 : Int32} {h : pm_H} {r : tm_O × pm_H} (hr : l271_47 K12 x0 x1 x2 s0 h = some r) : pm_to pt_P (pt_G (tm_r w)) (d + 5) (pt_g271, []) (tm_m (47, [(0, .inr (.inr x0)), (1, .inl x1), (2, .inl x2)], [.inl s0])) h (tm_e r) := by
  unfold l271_47 at hr
  refine tm_n 2 (F' := (12, [(3, .inl s0), (0, .inr (.inr x0)), (1, .inl x1), (2, .inl x2)], [])) rfl ?_
  refine tm_cut (a := [(0, .inr (.inr x0)), (1, .inl x1), (2, .inl x2), (3, .inl s0)]) rfl (tm_sbs [1, 2, 3, 0] rfl) ?_
  exact hK12 hr
set_option maxRecDepth 20000 in
def l271_28 (K12 : Option Nat → Int32 → Int32 → Int32 → pm_H → tm_L) (x0 : Option Nat) (x1 : Int32) (x2 : Int32) (x3 : Int32) (h : pm_H) : tm_L := if x3 = (0 : Int32) then if lc_of h x0 = some 10 then lb_I (ll_272 x0 x1 x2 h) (fun v2 h3 => l271_47 K12 x0 x1 x2 v2 h3) else none else if lc_of h x0 = some 10 then lb_I (ll_278 x0 x1 x2 h) (fun v8 h9 => l271_47 K12 x0 x1 x2 v8 h9) else none
set_option maxRecDepth 20000 in
theorem l271_28_t {w : Option Nat} {d : Nat} {K12 : Option Nat → Int32 → Int32 → Int32 → pm_H → tm_L} (hK12 : ∀ {x0 : Option Nat} {x1 : Int32} {x2 : Int32} {x3 : Int32}  {h : pm_H} {r : tm_O × pm_H}, K12 x0 x1 x2 x3 h = some r → pm_to pt_P (pt_G (tm_r w)) (d + 5) (pt_g271, []) (tm_m (12, [(0, .inr (.inr x0)), (1, .inl x1), (2, .inl x2), (3, .inl x3)], [])) h (tm_e r)) {x0 : Option Nat} {x1 : Int32} {x2 : Int32} {x3 : Int32} {h : pm_H} {r : tm_O × pm_H} (hr : l271_28 K12 x0 x1 x2 x3 h = some r) : pm_to pt_P (pt_G (tm_r w)) (d + 5) (pt_g271, []) (tm_m (28, [(0, .inr (.inr x0)), (1, .inl x1), (2, .inl x2), (3, .inl x3)], [])) h (tm_e r) := by
  unfold l271_28 at hr
  refine tm_n 1 (F' := (29, [(0, .inr (.inr x0)), (1, .inl x1), (2, .inl x2), (3, .inl x3)], [.inl x3])) rfl ?_
  by_cases c13 : x3 = (0 : Int32)
  · rw [if_pos c13] at hr
    refine tm_ifF rfl (fun q => q c13) ?_
    refine tm_n 3 (F' := (35, [(0, .inr (.inr x0)), (1, .inl x1), (2, .inl x2), (3, .inl x3)], [.inl x2, .inl x1, .inr (.inr x0)])) rfl ?_
    by_cases c1 : lc_of h x0 = some 10
    · rw [if_pos c1] at hr
      rcases lb_I_s hr with ⟨v2, h3, m4, hr⟩ | ⟨a5, h3, z6, z6l, m4, qz6, rfl⟩
      · try dsimp only at hr
        refine tm_call rfl rfl (tm_callV rfl rfl c1 rfl rfl) (lq_272 m4) ?_
        refine tm_n 1 (F' := (47, [(0, .inr (.inr x0)), (1, .inl x1), (2, .inl x2), (3, .inl x3)], [.inl v2])) rfl ?_
        refine tm_cut (a := [(0, .inr (.inr x0)), (1, .inl x1), (2, .inl x2)]) rfl (tm_sbs [0, 1, 2] rfl) ?_
        exact l271_47_t hK12 hr
      · exact tm_callT rfl rfl (tm_callV rfl rfl c1 rfl rfl) (lq_272 m4) qz6 rfl
    · rw [if_neg c1] at hr
      cases hr
  · rw [if_neg c13] at hr
    refine tm_ifT rfl c13 ?_
    refine tm_n 3 (F' := (44, [(0, .inr (.inr x0)), (1, .inl x1), (2, .inl x2), (3, .inl x3)], [.inl x2, .inl x1, .inr (.inr x0)])) rfl ?_
    by_cases c7 : lc_of h x0 = some 10
    · rw [if_pos c7] at hr
      rcases lb_I_s hr with ⟨v8, h9, m10, hr⟩ | ⟨a11, h9, z12, z12l, m10, qz12, rfl⟩
      · try dsimp only at hr
        refine tm_call rfl rfl (tm_callV rfl rfl c7 rfl rfl) (lq_278 m10) ?_
        refine tm_cut (a := [(0, .inr (.inr x0)), (1, .inl x1), (2, .inl x2)]) rfl (tm_sbs [0, 1, 2] rfl) ?_
        exact l271_47_t hK12 hr
      · exact tm_callT rfl rfl (tm_callV rfl rfl c7 rfl rfl) (lq_278 m10) qz12 rfl
    · rw [if_neg c7] at hr
      cases hr
set_option maxRecDepth 20000 in
def l271_12 : Nat → Option Nat → Int32 → Int32 → Int32 → pm_H → tm_L
  | 0 => fun _ _ _ _ _ => none
  | n + 1 => fun x0 x1 x2 x3 h => if x3 < (0 : Int32) then l271_51 x0 x2 x3 h else if x3 = (0 : Int32) then l271_28 (l271_12 n) x0 x1 x2 x3 h else (lf_I h x0 [10, 25]).bind fun v1 => if v1 = (-1 : Int32) then l271_51 x0 x2 x3 h else l271_28 (l271_12 n) x0 x1 x2 x3 h
set_option maxRecDepth 20000 in
theorem l271_12_t {w : Option Nat} {d : Nat} : ∀ (n : Nat) {x0 : Option Nat} {x1 : Int32} {x2 : Int32} {x3 : Int32} {h : pm_H} {r : tm_O × pm_H}, l271_12 n x0 x1 x2 x3 h = some r → pm_to pt_P (pt_G (tm_r w)) (d + 5) (pt_g271, []) (tm_m (12, [(0, .inr (.inr x0)), (1, .inl x1), (2, .inl x2), (3, .inl x3)], [])) h (tm_e r) := by
  intro n
  induction n with
  | zero => intro x0 x1 x2 x3 h r hr; cases hr
  | succ n ih =>
    intro x0 x1 x2 x3 h r hr
    unfold l271_12 at hr
    refine tm_n 1 (F' := (13, [(0, .inr (.inr x0)), (1, .inl x1), (2, .inl x2), (3, .inl x3)], [.inl x3])) rfl ?_
    by_cases c4 : x3 < (0 : Int32)
    · rw [if_pos c4] at hr
      refine tm_ifT rfl c4 ?_
      refine tm_cut (a := [(0, .inr (.inr x0)), (2, .inl x2), (3, .inl x3)]) rfl (tm_sbs [0, 2, 3] rfl) ?_
      exact l271_51_t hr
    · rw [if_neg c4] at hr
      refine tm_ifF rfl c4 ?_
      refine tm_n 1 (F' := (17, [(0, .inr (.inr x0)), (1, .inl x1), (2, .inl x2), (3, .inl x3)], [.inl x3])) rfl ?_
      by_cases c3 : x3 = (0 : Int32)
      · rw [if_pos c3] at hr
        refine tm_ifT rfl c3 ?_
        refine tm_cut (a := [(0, .inr (.inr x0)), (1, .inl x1), (2, .inl x2), (3, .inl x3)]) rfl (tm_sbs [0, 1, 2, 3] rfl) ?_
        exact l271_28_t (fun hr => ih hr) hr
      · rw [if_neg c3] at hr
        refine tm_ifF rfl c3 ?_
        refine tm_n 1 (F' := (21, [(0, .inr (.inr x0)), (1, .inl x1), (2, .inl x2), (3, .inl x3)], [.inr (.inr x0)])) rfl ?_
        obtain ⟨v1, qv1, hr⟩ := Option.bind_eq_some_iff.mp hr
        refine tm_getf rfl (lf_I_V qv1) ?_
        refine tm_n 1 (F' := (25, [(0, .inr (.inr x0)), (1, .inl x1), (2, .inl x2), (3, .inl x3)], [.inl (-1 : Int32), .inl v1])) rfl ?_
        by_cases c2 : v1 = (-1 : Int32)
        · rw [if_pos c2] at hr
          refine tm_icT rfl c2 ?_
          refine tm_cut (a := [(0, .inr (.inr x0)), (2, .inl x2), (3, .inl x3)]) rfl (tm_sbs [0, 2, 3] rfl) ?_
          exact l271_51_t hr
        · rw [if_neg c2] at hr
          refine tm_icF rfl c2 ?_
          refine tm_cut (a := [(0, .inr (.inr x0)), (1, .inl x1), (2, .inl x2), (3, .inl x3)]) rfl (tm_sbs [0, 1, 2, 3] rfl) ?_
          exact l271_28_t (fun hr => ih hr) hr
set_option maxRecDepth 20000 in
def ll_271 (a0 : Option Nat) (a1 : Int32) (a2 : Int32) (h : pm_H) : tm_L := (lf_P 81 h a0 [0, 10, 29] (.inl (0 : Int32))).bind fun h1 => (lf_P 81 h1 a0 [0, 10, 30] (.inl (0 : Int32))).bind fun h2 => l271_12 lf_N a0 a1 a2 (0 : Int32) h2
set_option maxRecDepth 20000 in
theorem lq_271 {w : Option Nat} {d : Nat} {a0 : Option Nat} {a1 : Int32} {a2 : Int32} {h : pm_H} {r : tm_O × pm_H} (hr : ll_271 a0 a1 a2 h = some r) : tm_run pt_P (pt_G (tm_r w)) (d + 5) 271 [.inr (.inr a0), .inl a1, .inl a2] h r := by
  unfold ll_271 at hr
  show pm_to pt_P (pt_G (tm_r w)) (d + 5) (pt_g271, []) (tm_m (0, [(0, .inr (.inr a0)), (1, .inl a1), (2, .inl a2)], [])) h (tm_e r)
  refine tm_n 2 (F' := (2, [(0, .inr (.inr a0)), (1, .inl a1), (2, .inl a2)], [.inl (0 : Int32), .inr (.inr a0)])) rfl ?_
  obtain ⟨h1, qh1, hr⟩ := Option.bind_eq_some_iff.mp hr
  refine tm_putf rfl qh1 ?_
  refine tm_n 2 (F' := (7, [(0, .inr (.inr a0)), (1, .inl a1), (2, .inl a2)], [.inl (0 : Int32), .inr (.inr a0)])) rfl ?_
  obtain ⟨h2, qh2, hr⟩ := Option.bind_eq_some_iff.mp hr
  refine tm_putf rfl qh2 ?_
  refine tm_n 2 (F' := (12, [(3, .inl (0 : Int32)), (0, .inr (.inr a0)), (1, .inl a1), (2, .inl a2)], [])) rfl ?_
  refine tm_cut (a := [(0, .inr (.inr a0)), (1, .inl a1), (2, .inl a2), (3, .inl (0 : Int32))]) rfl (tm_sbs [1, 2, 3, 0] rfl) ?_
  exact l271_12_t lf_N hr
-- OfficeSheetModel.read(II)Z
set_option maxRecDepth 20000 in
def l265_117 (x0 : Option Nat) (x1 : Int32) (s0 : Int32) (s1 : Int32) (s2 : Int32) (s3 : Option Nat) (h : pm_H) : tm_L := if lc_of h s3 = some 10 then lb_V (ll_275 s3 s2 s1 s0 h) (fun h3 => if lc_of h3 x0 = some 10 then lb_V (ll_266 x0 x1 h3) (fun h7 => (lf_I h7 x0 [10, 25]).bind fun v9 => if v9 = (-1 : Int32) then some (.inl (some (.inl (1 : Int32))), h7) else some (.inl (some (.inl (0 : Int32))), h7)) else none) else none
set_option maxRecDepth 20000 in
theorem l265_117_t {w : Option Nat} {d : Nat} {x0 : Option Nat} {x1 : Int32} {s0 : Int32} {s1 : Int32} {s2 : Int32} {s3 : Option Nat} {h : pm_H} {r : tm_O × pm_H} (hr : l265_117 x0 x1 s0 s1 s2 s3 h = some r) : pm_to pt_P (pt_G (tm_r w)) (d + 6) (pt_g265, []) (tm_m (117, [(0, .inr (.inr x0)), (1, .inl x1)], [.inl s0, .inl s1, .inl s2, .inr (.inr s3)])) h (tm_e r) := by
  unfold l265_117 at hr
  by_cases c1 : lc_of h s3 = some 10
  · rw [if_pos c1] at hr
    rcases lb_V_s hr with ⟨h3, m4, hr⟩ | ⟨a13, h3, z14, z14l, m4, qz14, rfl⟩
    · try dsimp only at hr
      refine tm_call rfl rfl (tm_callV rfl rfl c1 rfl rfl) (lq_275 m4) ?_
      refine tm_n 2 (F' := (122, [(0, .inr (.inr x0)), (1, .inl x1)], [.inl x1, .inr (.inr x0)])) rfl ?_
      by_cases c5 : lc_of h3 x0 = some 10
      · rw [if_pos c5] at hr
        rcases lb_V_s hr with ⟨h7, m8, hr⟩ | ⟨a11, h7, z12, z12l, m8, qz12, rfl⟩
        · try dsimp only at hr
          refine tm_call rfl rfl (tm_callV rfl rfl c5 rfl rfl) (lq_266 m8) ?_
          refine tm_n 1 (F' := (126, [(0, .inr (.inr x0)), (1, .inl x1)], [.inr (.inr x0)])) rfl ?_
          obtain ⟨v9, qv9, hr⟩ := Option.bind_eq_some_iff.mp hr
          refine tm_getf rfl (lf_I_V qv9) ?_
          refine tm_n 1 (F' := (130, [(0, .inr (.inr x0)), (1, .inl x1)], [.inl (-1 : Int32), .inl v9])) rfl ?_
          by_cases c10 : v9 = (-1 : Int32)
          · rw [if_pos c10] at hr
            refine tm_icF rfl (fun q => q c10) ?_
            refine tm_n 2 (F' := (138, [(0, .inr (.inr x0)), (1, .inl x1)], [.inl (1 : Int32)])) rfl ?_
            cases hr
            exact tm_retI rfl rfl
          · rw [if_neg c10] at hr
            refine tm_icT rfl c10 ?_
            refine tm_n 1 (F' := (138, [(0, .inr (.inr x0)), (1, .inl x1)], [.inl (0 : Int32)])) rfl ?_
            cases hr
            exact tm_retI rfl rfl
        · exact tm_callT rfl rfl (tm_callV rfl rfl c5 rfl rfl) (lq_266 m8) qz12 rfl
      · rw [if_neg c5] at hr
        cases hr
    · exact tm_callT rfl rfl (tm_callV rfl rfl c1 rfl rfl) (lq_275 m4) qz14 rfl
  · rw [if_neg c1] at hr
    cases hr
set_option maxRecDepth 20000 in
def l265_70 (x0 : Option Nat) (x1 : Int32) (x2 : Int32) (x3 : Int32) (h : pm_H) : tm_L := (lf_R h x0 [10, 12]).bind fun v1 => (la_I h .baload v1 x2).bind fun v2 => if v2 = (0 : Int32) then (lf_I h x0 [10, 25]).bind fun v3 => if v3 = (-2 : Int32) then if x3 = (0 : Int32) then (lf_I h x0 [10, 26]).bind fun v4 => l265_117 x0 x1 v4 (97 : Int32) x2 x0 h else (lf_I h x0 [10, 26]).bind fun v5 => l265_117 x0 x1 (-v5) (97 : Int32) x2 x0 h else some (.inl (some (.inl (0 : Int32))), h) else if lc_of h x0 = some 10 then lb_I (ll_271 x0 x1 x2 h) (fun v9 h10 => if pm_fit 3 (.int v9) = true then some (.inl (some (.inl v9)), h10) else none) else none
set_option maxRecDepth 20000 in
theorem l265_70_t {w : Option Nat} {d : Nat} {x0 : Option Nat} {x1 : Int32} {x2 : Int32} {x3 : Int32} {h : pm_H} {r : tm_O × pm_H} (hr : l265_70 x0 x1 x2 x3 h = some r) : pm_to pt_P (pt_G (tm_r w)) (d + 6) (pt_g265, []) (tm_m (70, [(0, .inr (.inr x0)), (1, .inl x1), (2, .inl x2), (3, .inl x3)], [])) h (tm_e r) := by
  unfold l265_70 at hr
  refine tm_n 1 (F' := (71, [(0, .inr (.inr x0)), (1, .inl x1), (2, .inl x2), (3, .inl x3)], [.inr (.inr x0)])) rfl ?_
  obtain ⟨v1, qv1, hr⟩ := Option.bind_eq_some_iff.mp hr
  refine tm_getf rfl (lf_R_V qv1) ?_
  refine tm_n 1 (F' := (75, [(0, .inr (.inr x0)), (1, .inl x1), (2, .inl x2), (3, .inl x3)], [.inl x2, .inr (.inr v1)])) rfl ?_
  obtain ⟨v2, qv2, hr⟩ := Option.bind_eq_some_iff.mp hr
  refine tm_ald rfl rfl (la_I_V qv2) ?_
  by_cases c15 : v2 = (0 : Int32)
  · rw [if_pos c15] at hr
    refine tm_ifT rfl c15 ?_
    refine tm_n 1 (F' := (87, [(0, .inr (.inr x0)), (1, .inl x1), (2, .inl x2), (3, .inl x3)], [.inr (.inr x0)])) rfl ?_
    obtain ⟨v3, qv3, hr⟩ := Option.bind_eq_some_iff.mp hr
    refine tm_getf rfl (lf_I_V qv3) ?_
    refine tm_n 1 (F' := (92, [(0, .inr (.inr x0)), (1, .inl x1), (2, .inl x2), (3, .inl x3)], [.inl (-2 : Int32), .inl v3])) rfl ?_
    by_cases c7 : v3 = (-2 : Int32)
    · rw [if_pos c7] at hr
      refine tm_icT rfl c7 ?_
      refine tm_n 4 (F' := (102, [(0, .inr (.inr x0)), (1, .inl x1), (2, .inl x2), (3, .inl x3)], [.inl x3, .inl (97 : Int32), .inl x2, .inr (.inr x0)])) rfl ?_
      by_cases c6 : x3 = (0 : Int32)
      · rw [if_pos c6] at hr
        refine tm_ifT rfl c6 ?_
        refine tm_n 1 (F' := (114, [(0, .inr (.inr x0)), (1, .inl x1), (2, .inl x2), (3, .inl x3)], [.inr (.inr x0), .inl (97 : Int32), .inl x2, .inr (.inr x0)])) rfl ?_
        obtain ⟨v4, qv4, hr⟩ := Option.bind_eq_some_iff.mp hr
        refine tm_getf rfl (lf_I_V qv4) ?_
        refine tm_cut (a := [(0, .inr (.inr x0)), (1, .inl x1)]) rfl (tm_sbs [0, 1] rfl) ?_
        exact l265_117_t hr
      · rw [if_neg c6] at hr
        refine tm_ifF rfl c6 ?_
        refine tm_n 1 (F' := (106, [(0, .inr (.inr x0)), (1, .inl x1), (2, .inl x2), (3, .inl x3)], [.inr (.inr x0), .inl (97 : Int32), .inl x2, .inr (.inr x0)])) rfl ?_
        obtain ⟨v5, qv5, hr⟩ := Option.bind_eq_some_iff.mp hr
        refine tm_getf rfl (lf_I_V qv5) ?_
        refine tm_n 2 (F' := (117, [(0, .inr (.inr x0)), (1, .inl x1), (2, .inl x2), (3, .inl x3)], [.inl (-v5), .inl (97 : Int32), .inl x2, .inr (.inr x0)])) rfl ?_
        refine tm_cut (a := [(0, .inr (.inr x0)), (1, .inl x1)]) rfl (tm_sbs [0, 1] rfl) ?_
        exact l265_117_t hr
    · rw [if_neg c7] at hr
      refine tm_icF rfl c7 ?_
      refine tm_n 1 (F' := (96, [(0, .inr (.inr x0)), (1, .inl x1), (2, .inl x2), (3, .inl x3)], [.inl (0 : Int32)])) rfl ?_
      cases hr
      exact tm_retI rfl rfl
  · rw [if_neg c15] at hr
    refine tm_ifF rfl c15 ?_
    refine tm_n 3 (F' := (82, [(0, .inr (.inr x0)), (1, .inl x1), (2, .inl x2), (3, .inl x3)], [.inl x2, .inl x1, .inr (.inr x0)])) rfl ?_
    by_cases c8 : lc_of h x0 = some 10
    · rw [if_pos c8] at hr
      rcases lb_I_s hr with ⟨v9, h10, m11, hr⟩ | ⟨a13, h10, z14, z14l, m11, qz14, rfl⟩
      · try dsimp only at hr
        refine tm_call rfl rfl (tm_callV rfl rfl c8 rfl rfl) (lq_271 m11) ?_
        by_cases c12 : pm_fit 3 (.int v9) = true
        · rw [if_pos c12] at hr
          cases hr
          exact tm_retI rfl c12
        · rw [if_neg c12] at hr
          cases hr
      · exact tm_callT rfl rfl (tm_callV rfl rfl c8 rfl rfl) (lq_271 m11) qz14 rfl
    · rw [if_neg c8] at hr
      cases hr
set_option maxRecDepth 20000 in
def l265_65 (x0 : Option Nat) (x1 : Int32) (x2 : Int32) (x3 : Int32) (h : pm_H) : tm_L := if lc_of h x0 = some 10 then lb_V (ll_266 x0 x1 h) (fun h3 => l265_70 x0 x1 x2 x3 h3) else none
set_option maxRecDepth 20000 in
theorem l265_65_t {w : Option Nat} {d : Nat} {x0 : Option Nat} {x1 : Int32} {x2 : Int32} {x3 : Int32} {h : pm_H} {r : tm_O × pm_H} (hr : l265_65 x0 x1 x2 x3 h = some r) : pm_to pt_P (pt_G (tm_r w)) (d + 6) (pt_g265, []) (tm_m (65, [(0, .inr (.inr x0)), (1, .inl x1), (2, .inl x2), (3, .inl x3)], [])) h (tm_e r) := by
  unfold l265_65 at hr
  refine tm_n 2 (F' := (67, [(0, .inr (.inr x0)), (1, .inl x1), (2, .inl x2), (3, .inl x3)], [.inl x1, .inr (.inr x0)])) rfl ?_
  by_cases c1 : lc_of h x0 = some 10
  · rw [if_pos c1] at hr
    rcases lb_V_s hr with ⟨h3, m4, hr⟩ | ⟨a5, h3, z6, z6l, m4, qz6, rfl⟩
    · try dsimp only at hr
      refine tm_call rfl rfl (tm_callV rfl rfl c1 rfl rfl) (lq_266 m4) ?_
      refine tm_cut (a := [(0, .inr (.inr x0)), (1, .inl x1), (2, .inl x2), (3, .inl x3)]) rfl (tm_sbs [0, 1, 2, 3] rfl) ?_
      exact l265_70_t hr
    · exact tm_callT rfl rfl (tm_callV rfl rfl c1 rfl rfl) (lq_266 m4) qz6 rfl
  · rw [if_neg c1] at hr
    cases hr
set_option maxRecDepth 20000 in
def l265_51 (x0 : Option Nat) (x1 : Int32) (x2 : Int32) (s0 : Int32) (h : pm_H) : tm_L := (lf_R h x0 [10, 12]).bind fun v1 => (la_I h .baload v1 x2).bind fun v2 => if v2 = (0 : Int32) then if s0 = (0 : Int32) then l265_70 x0 x1 x2 s0 h else l265_65 x0 x1 x2 s0 h else l265_65 x0 x1 x2 s0 h
set_option maxRecDepth 20000 in
theorem l265_51_t {w : Option Nat} {d : Nat} {x0 : Option Nat} {x1 : Int32} {x2 : Int32} {s0 : Int32} {h : pm_H} {r : tm_O × pm_H} (hr : l265_51 x0 x1 x2 s0 h = some r) : pm_to pt_P (pt_G (tm_r w)) (d + 6) (pt_g265, []) (tm_m (51, [(0, .inr (.inr x0)), (1, .inl x1), (2, .inl x2)], [.inl s0])) h (tm_e r) := by
  unfold l265_51 at hr
  refine tm_n 2 (F' := (53, [(3, .inl s0), (0, .inr (.inr x0)), (1, .inl x1), (2, .inl x2)], [.inr (.inr x0)])) rfl ?_
  obtain ⟨v1, qv1, hr⟩ := Option.bind_eq_some_iff.mp hr
  refine tm_getf rfl (lf_R_V qv1) ?_
  refine tm_n 1 (F' := (57, [(3, .inl s0), (0, .inr (.inr x0)), (1, .inl x1), (2, .inl x2)], [.inl x2, .inr (.inr v1)])) rfl ?_
  obtain ⟨v2, qv2, hr⟩ := Option.bind_eq_some_iff.mp hr
  refine tm_ald rfl rfl (la_I_V qv2) ?_
  by_cases c4 : v2 = (0 : Int32)
  · rw [if_pos c4] at hr
    refine tm_ifF rfl (fun q => q c4) ?_
    refine tm_n 1 (F' := (62, [(3, .inl s0), (0, .inr (.inr x0)), (1, .inl x1), (2, .inl x2)], [.inl s0])) rfl ?_
    by_cases c3 : s0 = (0 : Int32)
    · rw [if_pos c3] at hr
      refine tm_ifT rfl c3 ?_
      refine tm_cut (a := [(0, .inr (.inr x0)), (1, .inl x1), (2, .inl x2), (3, .inl s0)]) rfl (tm_sbs [1, 2, 3, 0] rfl) ?_
      exact l265_70_t hr
    · rw [if_neg c3] at hr
      refine tm_ifF rfl c3 ?_
      refine tm_cut (a := [(0, .inr (.inr x0)), (1, .inl x1), (2, .inl x2), (3, .inl s0)]) rfl (tm_sbs [1, 2, 3, 0] rfl) ?_
      exact l265_65_t hr
  · rw [if_neg c4] at hr
    refine tm_ifT rfl c4 ?_
    refine tm_cut (a := [(0, .inr (.inr x0)), (1, .inl x1), (2, .inl x2), (3, .inl s0)]) rfl (tm_sbs [1, 2, 3, 0] rfl) ?_
    exact l265_65_t hr
set_option maxRecDepth 20000 in
def l265_36 (x0 : Option Nat) (x1 : Int32) (x2 : Int32) (s0 : Int32) (s1 : Int32) (s2 : Option Nat) (h : pm_H) : tm_L := (la_S pt_P h .bastore s2 s1 (.inl s0)).bind fun h1 => (lf_I h1 x0 [10, 25]).bind fun v2 => if v2 = (45 : Int32) then l265_51 x0 x1 x2 (1 : Int32) h1 else l265_51 x0 x1 x2 (0 : Int32) h1
set_option maxRecDepth 20000 in
theorem l265_36_t {w : Option Nat} {d : Nat} {x0 : Option Nat} {x1 : Int32} {x2 : Int32} {s0 : Int32} {s1 : Int32} {s2 : Option Nat} {h : pm_H} {r : tm_O × pm_H} (hr : l265_36 x0 x1 x2 s0 s1 s2 h = some r) : pm_to pt_P (pt_G (tm_r w)) (d + 6) (pt_g265, []) (tm_m (36, [(0, .inr (.inr x0)), (1, .inl x1), (2, .inl x2)], [.inl s0, .inl s1, .inr (.inr s2)])) h (tm_e r) := by
  unfold l265_36 at hr
  obtain ⟨h1, qh1, hr⟩ := Option.bind_eq_some_iff.mp hr
  refine tm_ast rfl rfl qh1 ?_
  refine tm_n 1 (F' := (38, [(0, .inr (.inr x0)), (1, .inl x1), (2, .inl x2)], [.inr (.inr x0)])) rfl ?_
  obtain ⟨v2, qv2, hr⟩ := Option.bind_eq_some_iff.mp hr
  refine tm_getf rfl (lf_I_V qv2) ?_
  refine tm_n 1 (F' := (43, [(0, .inr (.inr x0)), (1, .inl x1), (2, .inl x2)], [.inl (45 : Int32), .inl v2])) rfl ?_
  by_cases c3 : v2 = (45 : Int32)
  · rw [if_pos c3] at hr
    refine tm_icF rfl (fun q => q c3) ?_
    refine tm_n 2 (F' := (51, [(0, .inr (.inr x0)), (1, .inl x1), (2, .inl x2)], [.inl (1 : Int32)])) rfl ?_
    refine tm_cut (a := [(0, .inr (.inr x0)), (1, .inl x1), (2, .inl x2)]) rfl (tm_sbs [0, 1, 2] rfl) ?_
    exact l265_51_t hr
  · rw [if_neg c3] at hr
    refine tm_icT rfl c3 ?_
    refine tm_n 1 (F' := (51, [(0, .inr (.inr x0)), (1, .inl x1), (2, .inl x2)], [.inl (0 : Int32)])) rfl ?_
    refine tm_cut (a := [(0, .inr (.inr x0)), (1, .inl x1), (2, .inl x2)]) rfl (tm_sbs [0, 1, 2] rfl) ?_
    exact l265_51_t hr
set_option maxRecDepth 20000 in
def ll_265 (a0 : Option Nat) (a1 : Int32) (a2 : Int32) (h : pm_H) : tm_L := (lf_P 81 h a0 [0, 10, 23] (.inl (0 : Int32))).bind fun h1 => (lf_R h1 a0 [10, 13]).bind fun v2 => (la_S pt_P h1 .iastore v2 a2 (.inl (0 : Int32))).bind fun h3 => if lc_of h3 a0 = some 10 then lb_V (ll_266 a0 a1 h3) (fun h6 => (lf_R h6 a0 [10, 12]).bind fun v8 => (lf_I h6 a0 [10, 25]).bind fun v9 => if v9 = (61 : Int32) then l265_36 a0 a1 a2 (1 : Int32) a2 v8 h6 else l265_36 a0 a1 a2 (0 : Int32) a2 v8 h6) else none
set_option maxRecDepth 20000 in
theorem lq_265 {w : Option Nat} {d : Nat} {a0 : Option Nat} {a1 : Int32} {a2 : Int32} {h : pm_H} {r : tm_O × pm_H} (hr : ll_265 a0 a1 a2 h = some r) : tm_run pt_P (pt_G (tm_r w)) (d + 6) 265 [.inr (.inr a0), .inl a1, .inl a2] h r := by
  unfold ll_265 at hr
  show pm_to pt_P (pt_G (tm_r w)) (d + 6) (pt_g265, []) (tm_m (0, [(0, .inr (.inr a0)), (1, .inl a1), (2, .inl a2)], [])) h (tm_e r)
  refine tm_n 2 (F' := (2, [(0, .inr (.inr a0)), (1, .inl a1), (2, .inl a2)], [.inl (0 : Int32), .inr (.inr a0)])) rfl ?_
  obtain ⟨h1, qh1, hr⟩ := Option.bind_eq_some_iff.mp hr
  refine tm_putf rfl qh1 ?_
  refine tm_n 1 (F' := (6, [(0, .inr (.inr a0)), (1, .inl a1), (2, .inl a2)], [.inr (.inr a0)])) rfl ?_
  obtain ⟨v2, qv2, hr⟩ := Option.bind_eq_some_iff.mp hr
  refine tm_getf rfl (lf_R_V qv2) ?_
  refine tm_n 2 (F' := (11, [(0, .inr (.inr a0)), (1, .inl a1), (2, .inl a2)], [.inl (0 : Int32), .inl a2, .inr (.inr v2)])) rfl ?_
  obtain ⟨h3, qh3, hr⟩ := Option.bind_eq_some_iff.mp hr
  refine tm_ast rfl rfl qh3 ?_
  refine tm_n 2 (F' := (14, [(0, .inr (.inr a0)), (1, .inl a1), (2, .inl a2)], [.inl a1, .inr (.inr a0)])) rfl ?_
  by_cases c4 : lc_of h3 a0 = some 10
  · rw [if_pos c4] at hr
    rcases lb_V_s hr with ⟨h6, m7, hr⟩ | ⟨a11, h6, z12, z12l, m7, qz12, rfl⟩
    · try dsimp only at hr
      refine tm_call rfl rfl (tm_callV rfl rfl c4 rfl rfl) (lq_266 m7) ?_
      refine tm_n 1 (F' := (18, [(0, .inr (.inr a0)), (1, .inl a1), (2, .inl a2)], [.inr (.inr a0)])) rfl ?_
      obtain ⟨v8, qv8, hr⟩ := Option.bind_eq_some_iff.mp hr
      refine tm_getf rfl (lf_R_V qv8) ?_
      refine tm_n 2 (F' := (23, [(0, .inr (.inr a0)), (1, .inl a1), (2, .inl a2)], [.inr (.inr a0), .inl a2, .inr (.inr v8)])) rfl ?_
      obtain ⟨v9, qv9, hr⟩ := Option.bind_eq_some_iff.mp hr
      refine tm_getf rfl (lf_I_V qv9) ?_
      refine tm_n 1 (F' := (28, [(0, .inr (.inr a0)), (1, .inl a1), (2, .inl a2)], [.inl (61 : Int32), .inl v9, .inl a2, .inr (.inr v8)])) rfl ?_
      by_cases c10 : v9 = (61 : Int32)
      · rw [if_pos c10] at hr
        refine tm_icF rfl (fun q => q c10) ?_
        refine tm_n 2 (F' := (36, [(0, .inr (.inr a0)), (1, .inl a1), (2, .inl a2)], [.inl (1 : Int32), .inl a2, .inr (.inr v8)])) rfl ?_
        refine tm_cut (a := [(0, .inr (.inr a0)), (1, .inl a1), (2, .inl a2)]) rfl (tm_sbs [0, 1, 2] rfl) ?_
        exact l265_36_t hr
      · rw [if_neg c10] at hr
        refine tm_icT rfl c10 ?_
        refine tm_n 1 (F' := (36, [(0, .inr (.inr a0)), (1, .inl a1), (2, .inl a2)], [.inl (0 : Int32), .inl a2, .inr (.inr v8)])) rfl ?_
        refine tm_cut (a := [(0, .inr (.inr a0)), (1, .inl a1), (2, .inl a2)]) rfl (tm_sbs [0, 1, 2] rfl) ?_
        exact l265_36_t hr
    · exact tm_callT rfl rfl (tm_callV rfl rfl c4 rfl rfl) (lq_266 m7) qz12 rfl
  · rw [if_neg c4] at hr
    cases hr
-- OfficeSheetModel.enter(III)I
set_option maxRecDepth 20000 in
def l264_194 (x0 : Option Nat) (x1 : Int32) (x9 : Int32) (s0 : Int32) (s1 : Int32) (s2 : Option Nat) (h : pm_H) : tm_L := (la_S pt_P h .iastore s2 s1 (.inl s0)).bind fun h1 => if lc_of h1 x0 = some 10 then lb_V (ll_247 x0 x1 x9 h1) (fun h4 => some (.inl (some (.inl (-1 : Int32))), h4)) else none
set_option maxRecDepth 20000 in
theorem l264_194_t {w : Option Nat} {d : Nat} {x0 : Option Nat} {x1 : Int32} {x9 : Int32} {s0 : Int32} {s1 : Int32} {s2 : Option Nat} {h : pm_H} {r : tm_O × pm_H} (hr : l264_194 x0 x1 x9 s0 s1 s2 h = some r) : pm_to pt_P (pt_G (tm_r w)) (d + 7) (pt_g264, []) (tm_m (194, [(0, .inr (.inr x0)), (1, .inl x1), (9, .inl x9)], [.inl s0, .inl s1, .inr (.inr s2)])) h (tm_e r) := by
  unfold l264_194 at hr
  obtain ⟨h1, qh1, hr⟩ := Option.bind_eq_some_iff.mp hr
  refine tm_ast rfl rfl qh1 ?_
  refine tm_n 3 (F' := (199, [(0, .inr (.inr x0)), (1, .inl x1), (9, .inl x9)], [.inl x9, .inl x1, .inr (.inr x0)])) rfl ?_
  by_cases c2 : lc_of h1 x0 = some 10
  · rw [if_pos c2] at hr
    rcases lb_V_s hr with ⟨h4, m5, hr⟩ | ⟨a6, h4, z7, z7l, m5, qz7, rfl⟩
    · try dsimp only at hr
      refine tm_call rfl rfl (tm_callV rfl rfl c2 rfl rfl) (lq_247 m5) ?_
      refine tm_n 1 (F' := (203, [(0, .inr (.inr x0)), (1, .inl x1), (9, .inl x9)], [.inl (-1 : Int32)])) rfl ?_
      cases hr
      exact tm_retI rfl rfl
    · exact tm_callT rfl rfl (tm_callV rfl rfl c2 rfl rfl) (lq_247 m5) qz7 rfl
  · rw [if_neg c2] at hr
    cases hr
set_option maxRecDepth 20000 in
def l264_171 (x0 : Option Nat) (x1 : Int32) (x8 : Int32) (x9 : Int32) (s0 : Int32) (s1 : Int32) (s2 : Option Nat) (h : pm_H) : tm_L := (la_S pt_P h .iastore s2 s1 (.inl s0)).bind fun h1 => (lf_R h1 x0 [10, 11]).bind fun v2 => if (0 : Int32) ≤ x8 then (lf_R h1 x0 [10, 10]).bind fun v3 => (la_I h1 .iaload v3 x8).bind fun v4 => l264_194 x0 x1 x9 v4 x9 v2 h1 else l264_194 x0 x1 x9 (-1 : Int32) x9 v2 h1
set_option maxRecDepth 20000 in
theorem l264_171_t {w : Option Nat} {d : Nat} {x0 : Option Nat} {x1 : Int32} {x8 : Int32} {x9 : Int32} {s0 : Int32} {s1 : Int32} {s2 : Option Nat} {h : pm_H} {r : tm_O × pm_H} (hr : l264_171 x0 x1 x8 x9 s0 s1 s2 h = some r) : pm_to pt_P (pt_G (tm_r w)) (d + 7) (pt_g264, []) (tm_m (171, [(0, .inr (.inr x0)), (1, .inl x1), (8, .inl x8), (9, .inl x9)], [.inl s0, .inl s1, .inr (.inr s2)])) h (tm_e r) := by
  unfold l264_171 at hr
  obtain ⟨h1, qh1, hr⟩ := Option.bind_eq_some_iff.mp hr
  refine tm_ast rfl rfl qh1 ?_
  refine tm_n 1 (F' := (173, [(0, .inr (.inr x0)), (1, .inl x1), (8, .inl x8), (9, .inl x9)], [.inr (.inr x0)])) rfl ?_
  obtain ⟨v2, qv2, hr⟩ := Option.bind_eq_some_iff.mp hr
  refine tm_getf rfl (lf_R_V qv2) ?_
  refine tm_n 2 (F' := (180, [(0, .inr (.inr x0)), (1, .inl x1), (8, .inl x8), (9, .inl x9)], [.inl x8, .inl x9, .inr (.inr v2)])) rfl ?_
  by_cases c5 : (0 : Int32) ≤ x8
  · rw [if_pos c5] at hr
    refine tm_ifT rfl c5 ?_
    refine tm_n 1 (F' := (188, [(0, .inr (.inr x0)), (1, .inl x1), (8, .inl x8), (9, .inl x9)], [.inr (.inr x0), .inl x9, .inr (.inr v2)])) rfl ?_
    obtain ⟨v3, qv3, hr⟩ := Option.bind_eq_some_iff.mp hr
    refine tm_getf rfl (lf_R_V qv3) ?_
    refine tm_n 1 (F' := (193, [(0, .inr (.inr x0)), (1, .inl x1), (8, .inl x8), (9, .inl x9)], [.inl x8, .inr (.inr v3), .inl x9, .inr (.inr v2)])) rfl ?_
    obtain ⟨v4, qv4, hr⟩ := Option.bind_eq_some_iff.mp hr
    refine tm_ald rfl rfl (la_I_V qv4) ?_
    refine tm_cut (a := [(0, .inr (.inr x0)), (1, .inl x1), (9, .inl x9)]) rfl (tm_sbs [0, 1, 3] rfl) ?_
    exact l264_194_t hr
  · rw [if_neg c5] at hr
    refine tm_ifF rfl c5 ?_
    refine tm_n 2 (F' := (194, [(0, .inr (.inr x0)), (1, .inl x1), (8, .inl x8), (9, .inl x9)], [.inl (-1 : Int32), .inl x9, .inr (.inr v2)])) rfl ?_
    refine tm_cut (a := [(0, .inr (.inr x0)), (1, .inl x1), (9, .inl x9)]) rfl (tm_sbs [0, 1, 3] rfl) ?_
    exact l264_194_t hr
set_option maxRecDepth 20000 in
def l264_102 (x0 : Option Nat) (x1 : Int32) (x2 : Int32) (x3 : Int32) (x5 : Int32) (h : pm_H) : tm_L := if lc_of h x0 = some 10 then lb_I (ll_242 x0 x1 (0 : Int32) x2 h) (fun v2 h3 => if lc_of h3 x0 = some 10 then lb_I (ll_242 x0 x1 (1 : Int32) x3 h3) (fun v6 h7 => if lc_of h7 x0 = some 10 then lb_I (ll_255 x0 x1 v2 v6 h7) (fun v10 h11 => if lc_of h11 x0 = some 10 then lb_I (ll_246 x0 x1 (6 : Int32) (0 : Int32) v2 h11) (fun v14 h15 => (lf_R h15 x0 [10, 6]).bind fun v17 => (la_S pt_P h15 .iastore v17 v14 (.inl v6)).bind fun h18 => (lf_R h18 x0 [10, 10]).bind fun v19 => (lf_I h18 x0 [10, 22]).bind fun v20 => if v20 ≤ (0 : Int32) then l264_171 x0 x1 v10 v14 (-1 : Int32) v14 v19 h18 else l264_171 x0 x1 v10 v14 x5 v14 v19 h18) else none) else none) else none) else none
set_option maxRecDepth 20000 in
theorem l264_102_t {w : Option Nat} {d : Nat} {x0 : Option Nat} {x1 : Int32} {x2 : Int32} {x3 : Int32} {x5 : Int32} {h : pm_H} {r : tm_O × pm_H} (hr : l264_102 x0 x1 x2 x3 x5 h = some r) : pm_to pt_P (pt_G (tm_r w)) (d + 7) (pt_g264, []) (tm_m (102, [(0, .inr (.inr x0)), (1, .inl x1), (2, .inl x2), (3, .inl x3), (5, .inl x5)], [])) h (tm_e r) := by
  unfold l264_102 at hr
  refine tm_n 4 (F' := (106, [(0, .inr (.inr x0)), (1, .inl x1), (2, .inl x2), (3, .inl x3), (5, .inl x5)], [.inl x2, .inl (0 : Int32), .inl x1, .inr (.inr x0)])) rfl ?_
  by_cases c1 : lc_of h x0 = some 10
  · rw [if_pos c1] at hr
    rcases lb_I_s hr with ⟨v2, h3, m4, hr⟩ | ⟨a28, h3, z29, z29l, m4, qz29, rfl⟩
    · try dsimp only at hr
      refine tm_call rfl rfl (tm_callV rfl rfl c1 rfl rfl) (lq_242 m4) ?_
      refine tm_n 5 (F' := (115, [(6, .inl v2), (0, .inr (.inr x0)), (1, .inl x1), (2, .inl x2), (3, .inl x3), (5, .inl x5)], [.inl x3, .inl (1 : Int32), .inl x1, .inr (.inr x0)])) rfl ?_
      by_cases c5 : lc_of h3 x0 = some 10
      · rw [if_pos c5] at hr
        rcases lb_I_s hr with ⟨v6, h7, m8, hr⟩ | ⟨a26, h7, z27, z27l, m8, qz27, rfl⟩
        · try dsimp only at hr
          refine tm_call rfl rfl (tm_callV rfl rfl c5 rfl rfl) (lq_242 m8) ?_
          refine tm_n 5 (F' := (126, [(7, .inl v6), (6, .inl v2), (0, .inr (.inr x0)), (1, .inl x1), (2, .inl x2), (3, .inl x3), (5, .inl x5)], [.inl v6, .inl v2, .inl x1, .inr (.inr x0)])) rfl ?_
          by_cases c9 : lc_of h7 x0 = some 10
          · rw [if_pos c9] at hr
            rcases lb_I_s hr with ⟨v10, h11, m12, hr⟩ | ⟨a24, h11, z25, z25l, m12, qz25, rfl⟩
            · try dsimp only at hr
              refine tm_call rfl rfl (tm_callV rfl rfl c9 rfl rfl) (lq_255 m12) ?_
              refine tm_n 6 (F' := (138, [(8, .inl v10), (7, .inl v6), (6, .inl v2), (0, .inr (.inr x0)), (1, .inl x1), (2, .inl x2), (3, .inl x3), (5, .inl x5)], [.inl v2, .inl (0 : Int32), .inl (6 : Int32), .inl x1, .inr (.inr x0)])) rfl ?_
              by_cases c13 : lc_of h11 x0 = some 10
              · rw [if_pos c13] at hr
                rcases lb_I_s hr with ⟨v14, h15, m16, hr⟩ | ⟨a22, h15, z23, z23l, m16, qz23, rfl⟩
                · try dsimp only at hr
                  refine tm_call rfl rfl (tm_callV rfl rfl c13 rfl rfl) (lq_246 m16) ?_
                  refine tm_n 2 (F' := (144, [(9, .inl v14), (8, .inl v10), (7, .inl v6), (6, .inl v2), (0, .inr (.inr x0)), (1, .inl x1), (2, .inl x2), (3, .inl x3), (5, .inl x5)], [.inr (.inr x0)])) rfl ?_
                  obtain ⟨v17, qv17, hr⟩ := Option.bind_eq_some_iff.mp hr
                  refine tm_getf rfl (lf_R_V qv17) ?_
                  refine tm_n 2 (F' := (151, [(9, .inl v14), (8, .inl v10), (7, .inl v6), (6, .inl v2), (0, .inr (.inr x0)), (1, .inl x1), (2, .inl x2), (3, .inl x3), (5, .inl x5)], [.inl v6, .inl v14, .inr (.inr v17)])) rfl ?_
                  obtain ⟨h18, qh18, hr⟩ := Option.bind_eq_some_iff.mp hr
                  refine tm_ast rfl rfl qh18 ?_
                  refine tm_n 1 (F' := (153, [(9, .inl v14), (8, .inl v10), (7, .inl v6), (6, .inl v2), (0, .inr (.inr x0)), (1, .inl x1), (2, .inl x2), (3, .inl x3), (5, .inl x5)], [.inr (.inr x0)])) rfl ?_
                  obtain ⟨v19, qv19, hr⟩ := Option.bind_eq_some_iff.mp hr
                  refine tm_getf rfl (lf_R_V qv19) ?_
                  refine tm_n 2 (F' := (159, [(9, .inl v14), (8, .inl v10), (7, .inl v6), (6, .inl v2), (0, .inr (.inr x0)), (1, .inl x1), (2, .inl x2), (3, .inl x3), (5, .inl x5)], [.inr (.inr x0), .inl v14, .inr (.inr v19)])) rfl ?_
                  obtain ⟨v20, qv20, hr⟩ := Option.bind_eq_some_iff.mp hr
                  refine tm_getf rfl (lf_I_V qv20) ?_
                  by_cases c21 : v20 ≤ (0 : Int32)
                  · rw [if_pos c21] at hr
                    refine tm_ifT rfl c21 ?_
                    refine tm_n 1 (F' := (171, [(9, .inl v14), (8, .inl v10), (7, .inl v6), (6, .inl v2), (0, .inr (.inr x0)), (1, .inl x1), (2, .inl x2), (3, .inl x3), (5, .inl x5)], [.inl (-1 : Int32), .inl v14, .inr (.inr v19)])) rfl ?_
                    refine tm_cut (a := [(0, .inr (.inr x0)), (1, .inl x1), (8, .inl v10), (9, .inl v14)]) rfl (tm_sbs [4, 5, 1, 0] rfl) ?_
                    exact l264_171_t hr
                  · rw [if_neg c21] at hr
                    refine tm_ifF rfl c21 ?_
                    refine tm_n 2 (F' := (171, [(9, .inl v14), (8, .inl v10), (7, .inl v6), (6, .inl v2), (0, .inr (.inr x0)), (1, .inl x1), (2, .inl x2), (3, .inl x3), (5, .inl x5)], [.inl x5, .inl v14, .inr (.inr v19)])) rfl ?_
                    refine tm_cut (a := [(0, .inr (.inr x0)), (1, .inl x1), (8, .inl v10), (9, .inl v14)]) rfl (tm_sbs [4, 5, 1, 0] rfl) ?_
                    exact l264_171_t hr
                · exact tm_callT rfl rfl (tm_callV rfl rfl c13 rfl rfl) (lq_246 m16) qz23 rfl
              · rw [if_neg c13] at hr
                cases hr
            · exact tm_callT rfl rfl (tm_callV rfl rfl c9 rfl rfl) (lq_255 m12) qz25 rfl
          · rw [if_neg c9] at hr
            cases hr
        · exact tm_callT rfl rfl (tm_callV rfl rfl c5 rfl rfl) (lq_242 m8) qz27 rfl
      · rw [if_neg c5] at hr
        cases hr
    · exact tm_callT rfl rfl (tm_callV rfl rfl c1 rfl rfl) (lq_242 m4) qz29 rfl
  · rw [if_neg c1] at hr
    cases hr
set_option maxRecDepth 20000 in
def l264_53 (x0 : Option Nat) (x1 : Int32) (x2 : Int32) (x3 : Int32) (s0 : Int32) (s1 : Option Nat) (h : pm_H) : tm_L := (lf_P 81 h s1 [0, 10, 0] (.inl s0)).bind fun h1 => (lf_I h1 x0 [10, 0]).bind fun v2 => if v2 ≤ (0 : Int32) then (lf_R h1 x0 [10, 16]).bind fun v3 => (la_I h1 .iaload v3 ((4 : Int32) * x1)).bind fun v4 => (lf_I h1 x0 [10, 22]).bind fun v5 => if v5 ≤ (0 : Int32) then l264_102 x0 x1 x2 x3 (((40 : Int32) * x1) + v4) h1 else if lc_of h1 x0 = some 10 then lb_I (ll_265 x0 x1 (((40 : Int32) * x1) + v4) h1) (fun v7 h8 => if v7 = (0 : Int32) then (lf_I h8 x0 [10, 24]).bind fun v10 => some (.inl (some (.inl v10)), h8) else l264_102 x0 x1 x2 x3 (((40 : Int32) * x1) + v4) h8) else none else some (.inl (some (.inl (0 : Int32))), h1)
set_option maxRecDepth 20000 in
theorem l264_53_t {w : Option Nat} {d : Nat} {x0 : Option Nat} {x1 : Int32} {x2 : Int32} {x3 : Int32} {s0 : Int32} {s1 : Option Nat} {h : pm_H} {r : tm_O × pm_H} (hr : l264_53 x0 x1 x2 x3 s0 s1 h = some r) : pm_to pt_P (pt_G (tm_r w)) (d + 7) (pt_g264, []) (tm_m (53, [(0, .inr (.inr x0)), (1, .inl x1), (2, .inl x2), (3, .inl x3)], [.inl s0, .inr (.inr s1)])) h (tm_e r) := by
  unfold l264_53 at hr
  obtain ⟨h1, qh1, hr⟩ := Option.bind_eq_some_iff.mp hr
  refine tm_putf rfl qh1 ?_
  refine tm_n 1 (F' := (57, [(0, .inr (.inr x0)), (1, .inl x1), (2, .inl x2), (3, .inl x3)], [.inr (.inr x0)])) rfl ?_
  obtain ⟨v2, qv2, hr⟩ := Option.bind_eq_some_iff.mp hr
  refine tm_getf rfl (lf_I_V qv2) ?_
  by_cases c15 : v2 ≤ (0 : Int32)
  · rw [if_pos c15] at hr
    refine tm_ifT rfl c15 ?_
    refine tm_n 4 (F' := (70, [(0, .inr (.inr x0)), (1, .inl x1), (2, .inl x2), (3, .inl x3)], [.inr (.inr x0), .inl ((40 : Int32) * x1)])) rfl ?_
    obtain ⟨v3, qv3, hr⟩ := Option.bind_eq_some_iff.mp hr
    refine tm_getf rfl (lf_R_V qv3) ?_
    refine tm_n 3 (F' := (76, [(0, .inr (.inr x0)), (1, .inl x1), (2, .inl x2), (3, .inl x3)], [.inl ((4 : Int32) * x1), .inr (.inr v3), .inl ((40 : Int32) * x1)])) rfl ?_
    obtain ⟨v4, qv4, hr⟩ := Option.bind_eq_some_iff.mp hr
    refine tm_ald rfl rfl (la_I_V qv4) ?_
    refine tm_n 3 (F' := (81, [(5, .inl (((40 : Int32) * x1) + v4)), (0, .inr (.inr x0)), (1, .inl x1), (2, .inl x2), (3, .inl x3)], [.inr (.inr x0)])) rfl ?_
    obtain ⟨v5, qv5, hr⟩ := Option.bind_eq_some_iff.mp hr
    refine tm_getf rfl (lf_I_V qv5) ?_
    by_cases c14 : v5 ≤ (0 : Int32)
    · rw [if_pos c14] at hr
      refine tm_ifT rfl c14 ?_
      refine tm_cut (a := [(0, .inr (.inr x0)), (1, .inl x1), (2, .inl x2), (3, .inl x3), (5, .inl (((40 : Int32) * x1) + v4))]) rfl (tm_sbs [1, 2, 3, 4, 0] rfl) ?_
      exact l264_102_t hr
    · rw [if_neg c14] at hr
      refine tm_ifF rfl c14 ?_
      refine tm_n 3 (F' := (91, [(5, .inl (((40 : Int32) * x1) + v4)), (0, .inr (.inr x0)), (1, .inl x1), (2, .inl x2), (3, .inl x3)], [.inl (((40 : Int32) * x1) + v4), .inl x1, .inr (.inr x0)])) rfl ?_
      by_cases c6 : lc_of h1 x0 = some 10
      · rw [if_pos c6] at hr
        rcases lb_I_s hr with ⟨v7, h8, m9, hr⟩ | ⟨a12, h8, z13, z13l, m9, qz13, rfl⟩
        · try dsimp only at hr
          refine tm_call rfl rfl (tm_callV rfl rfl c6 rfl rfl) (lq_265 m9) ?_
          by_cases c11 : v7 = (0 : Int32)
          · rw [if_pos c11] at hr
            refine tm_ifF rfl (fun q => q c11) ?_
            refine tm_n 1 (F' := (98, [(5, .inl (((40 : Int32) * x1) + v4)), (0, .inr (.inr x0)), (1, .inl x1), (2, .inl x2), (3, .inl x3)], [.inr (.inr x0)])) rfl ?_
            obtain ⟨v10, qv10, hr⟩ := Option.bind_eq_some_iff.mp hr
            refine tm_getf rfl (lf_I_V qv10) ?_
            cases hr
            exact tm_retI rfl rfl
          · rw [if_neg c11] at hr
            refine tm_ifT rfl c11 ?_
            refine tm_cut (a := [(0, .inr (.inr x0)), (1, .inl x1), (2, .inl x2), (3, .inl x3), (5, .inl (((40 : Int32) * x1) + v4))]) rfl (tm_sbs [1, 2, 3, 4, 0] rfl) ?_
            exact l264_102_t hr
        · exact tm_callT rfl rfl (tm_callV rfl rfl c6 rfl rfl) (lq_265 m9) qz13 rfl
      · rw [if_neg c6] at hr
        cases hr
  · rw [if_neg c15] at hr
    refine tm_ifF rfl c15 ?_
    refine tm_n 1 (F' := (64, [(0, .inr (.inr x0)), (1, .inl x1), (2, .inl x2), (3, .inl x3)], [.inl (0 : Int32)])) rfl ?_
    cases hr
    exact tm_retI rfl rfl
set_option maxRecDepth 20000 in
def l264_36 (x0 : Option Nat) (x1 : Int32) (x2 : Int32) (x3 : Int32) (s0 : Option Nat) (h : pm_H) : tm_L := l264_53 x0 x1 x2 x3 (2 : Int32) s0 h
set_option maxRecDepth 20000 in
theorem l264_36_t {w : Option Nat} {d : Nat} {x0 : Option Nat} {x1 : Int32} {x2 : Int32} {x3 : Int32} {s0 : Option Nat} {h : pm_H} {r : tm_O × pm_H} (hr : l264_36 x0 x1 x2 x3 s0 h = some r) : pm_to pt_P (pt_G (tm_r w)) (d + 7) (pt_g264, []) (tm_m (36, [(0, .inr (.inr x0)), (1, .inl x1), (2, .inl x2), (3, .inl x3)], [.inr (.inr s0)])) h (tm_e r) := by
  unfold l264_36 at hr
  refine tm_n 2 (F' := (53, [(0, .inr (.inr x0)), (1, .inl x1), (2, .inl x2), (3, .inl x3)], [.inl (2 : Int32), .inr (.inr s0)])) rfl ?_
  refine tm_cut (a := [(0, .inr (.inr x0)), (1, .inl x1), (2, .inl x2), (3, .inl x3)]) rfl (tm_sbs [0, 1, 2, 3] rfl) ?_
  exact l264_53_t hr
set_option maxRecDepth 20000 in
def ll_264 (a0 : Option Nat) (a1 : Int32) (a2 : Int32) (a3 : Int32) (h : pm_H) : tm_L := lb_I (ll_237 a1 h) (fun v1 h2 => if v1 = (0 : Int32) then l264_53 a0 a1 a2 a3 (1 : Int32) a0 h2 else if lc_of h2 a0 = some 10 then lb_I (ll_239 a0 a1 (0 : Int32) a2 h2) (fun v5 h6 => if v5 = (0 : Int32) then l264_36 a0 a1 a2 a3 a0 h6 else if lc_of h6 a0 = some 10 then lb_I (ll_239 a0 a1 (1 : Int32) a3 h6) (fun v9 h10 => if v9 = (0 : Int32) then l264_36 a0 a1 a2 a3 a0 h10 else if lc_of h10 a0 = some 10 then lb_I (ll_240 a0 a1 h10) (fun v13 h14 => if v13 = (0 : Int32) then l264_53 a0 a1 a2 a3 (0 : Int32) a0 h14 else l264_53 a0 a1 a2 a3 (3 : Int32) a0 h14) else none) else none) else none)
set_option maxRecDepth 20000 in
theorem lq_264 {w : Option Nat} {d : Nat} {a0 : Option Nat} {a1 : Int32} {a2 : Int32} {a3 : Int32} {h : pm_H} {r : tm_O × pm_H} (hr : ll_264 a0 a1 a2 a3 h = some r) : tm_run pt_P (pt_G (tm_r w)) (d + 7) 264 [.inr (.inr a0), .inl a1, .inl a2, .inl a3] h r := by
  unfold ll_264 at hr
  show pm_to pt_P (pt_G (tm_r w)) (d + 7) (pt_g264, []) (tm_m (0, [(0, .inr (.inr a0)), (1, .inl a1), (2, .inl a2), (3, .inl a3)], [])) h (tm_e r)
  refine tm_n 1 (F' := (1, [(0, .inr (.inr a0)), (1, .inl a1), (2, .inl a2), (3, .inl a3)], [.inl a1])) rfl ?_
  rcases lb_I_s hr with ⟨v1, h2, m3, hr⟩ | ⟨a26, h2, z27, z27l, m3, qz27, rfl⟩
  · try dsimp only at hr
    refine tm_call rfl rfl (tm_callS rfl rfl) (lq_237 m3) ?_
    refine tm_n 3 (F' := (9, [(4, .inl v1), (0, .inr (.inr a0)), (1, .inl a1), (2, .inl a2), (3, .inl a3)], [.inl v1, .inr (.inr a0)])) rfl ?_
    by_cases c25 : v1 = (0 : Int32)
    · rw [if_pos c25] at hr
      refine tm_ifF rfl (fun q => q c25) ?_
      refine tm_n 2 (F' := (53, [(4, .inl v1), (0, .inr (.inr a0)), (1, .inl a1), (2, .inl a2), (3, .inl a3)], [.inl (1 : Int32), .inr (.inr a0)])) rfl ?_
      refine tm_cut (a := [(0, .inr (.inr a0)), (1, .inl a1), (2, .inl a2), (3, .inl a3)]) rfl (tm_sbs [1, 2, 3, 4] rfl) ?_
      exact l264_53_t hr
    · rw [if_neg c25] at hr
      refine tm_ifT rfl c25 ?_
      refine tm_n 4 (F' := (20, [(4, .inl v1), (0, .inr (.inr a0)), (1, .inl a1), (2, .inl a2), (3, .inl a3)], [.inl a2, .inl (0 : Int32), .inl a1, .inr (.inr a0), .inr (.inr a0)])) rfl ?_
      by_cases c4 : lc_of h2 a0 = some 10
      · rw [if_pos c4] at hr
        rcases lb_I_s hr with ⟨v5, h6, m7, hr⟩ | ⟨a23, h6, z24, z24l, m7, qz24, rfl⟩
        · try dsimp only at hr
          refine tm_call rfl rfl (tm_callV rfl rfl c4 rfl rfl) (lq_239 m7) ?_
          by_cases c22 : v5 = (0 : Int32)
          · rw [if_pos c22] at hr
            refine tm_ifT rfl c22 ?_
            refine tm_cut (a := [(0, .inr (.inr a0)), (1, .inl a1), (2, .inl a2), (3, .inl a3)]) rfl (tm_sbs [1, 2, 3, 4] rfl) ?_
            exact l264_36_t hr
          · rw [if_neg c22] at hr
            refine tm_ifF rfl c22 ?_
            refine tm_n 4 (F' := (30, [(4, .inl v1), (0, .inr (.inr a0)), (1, .inl a1), (2, .inl a2), (3, .inl a3)], [.inl a3, .inl (1 : Int32), .inl a1, .inr (.inr a0), .inr (.inr a0)])) rfl ?_
            by_cases c8 : lc_of h6 a0 = some 10
            · rw [if_pos c8] at hr
              rcases lb_I_s hr with ⟨v9, h10, m11, hr⟩ | ⟨a20, h10, z21, z21l, m11, qz21, rfl⟩
              · try dsimp only at hr
                refine tm_call rfl rfl (tm_callV rfl rfl c8 rfl rfl) (lq_239 m11) ?_
                by_cases c19 : v9 = (0 : Int32)
                · rw [if_pos c19] at hr
                  refine tm_ifF rfl (fun q => q c19) ?_
                  refine tm_cut (a := [(0, .inr (.inr a0)), (1, .inl a1), (2, .inl a2), (3, .inl a3)]) rfl (tm_sbs [1, 2, 3, 4] rfl) ?_
                  exact l264_36_t hr
                · rw [if_neg c19] at hr
                  refine tm_ifT rfl c19 ?_
                  refine tm_n 2 (F' := (42, [(4, .inl v1), (0, .inr (.inr a0)), (1, .inl a1), (2, .inl a2), (3, .inl a3)], [.inl a1, .inr (.inr a0), .inr (.inr a0)])) rfl ?_
                  by_cases c12 : lc_of h10 a0 = some 10
                  · rw [if_pos c12] at hr
                    rcases lb_I_s hr with ⟨v13, h14, m15, hr⟩ | ⟨a17, h14, z18, z18l, m15, qz18, rfl⟩
                    · try dsimp only at hr
                      refine tm_call rfl rfl (tm_callV rfl rfl c12 rfl rfl) (lq_240 m15) ?_
                      by_cases c16 : v13 = (0 : Int32)
                      · rw [if_pos c16] at hr
                        refine tm_ifT rfl c16 ?_
                        refine tm_n 1 (F' := (53, [(4, .inl v1), (0, .inr (.inr a0)), (1, .inl a1), (2, .inl a2), (3, .inl a3)], [.inl (0 : Int32), .inr (.inr a0)])) rfl ?_
                        refine tm_cut (a := [(0, .inr (.inr a0)), (1, .inl a1), (2, .inl a2), (3, .inl a3)]) rfl (tm_sbs [1, 2, 3, 4] rfl) ?_
                        exact l264_53_t hr
                      · rw [if_neg c16] at hr
                        refine tm_ifF rfl c16 ?_
                        refine tm_n 2 (F' := (53, [(4, .inl v1), (0, .inr (.inr a0)), (1, .inl a1), (2, .inl a2), (3, .inl a3)], [.inl (3 : Int32), .inr (.inr a0)])) rfl ?_
                        refine tm_cut (a := [(0, .inr (.inr a0)), (1, .inl a1), (2, .inl a2), (3, .inl a3)]) rfl (tm_sbs [1, 2, 3, 4] rfl) ?_
                        exact l264_53_t hr
                    · exact tm_callT rfl rfl (tm_callV rfl rfl c12 rfl rfl) (lq_240 m15) qz18 rfl
                  · rw [if_neg c12] at hr
                    cases hr
              · exact tm_callT rfl rfl (tm_callV rfl rfl c8 rfl rfl) (lq_239 m11) qz21 rfl
            · rw [if_neg c8] at hr
              cases hr
        · exact tm_callT rfl rfl (tm_callV rfl rfl c4 rfl rfl) (lq_239 m7) qz24 rfl
      · rw [if_neg c4] at hr
        cases hr
  · exact tm_callT rfl rfl (tm_callS rfl rfl) (lq_237 m3) qz27 rfl
-- OfficeSheetModel.cellOf(II)I
set_option maxRecDepth 20000 in
def l283_32 (K2 : Option Nat → Int32 → Int32 → Int32 → pm_H → tm_L) (x0 : Option Nat) (x1 : Int32) (x2 : Int32) (x3 : Int32) (h : pm_H) : tm_L := K2 x0 x1 x2 (x3 + (1 : Int32)) h
set_option maxRecDepth 20000 in
theorem l283_32_t {w : Option Nat} {d : Nat} {K2 : Option Nat → Int32 → Int32 → Int32 → pm_H → tm_L} (hK2 : ∀ {x0 : Option Nat} {x1 : Int32} {x2 : Int32} {x3 : Int32}  {h : pm_H} {r : tm_O × pm_H}, K2 x0 x1 x2 x3 h = some r → pm_to pt_P (pt_G (tm_r w)) (d + 0) (pt_g283, []) (tm_m (2, [(0, .inr (.inr x0)), (1, .inl x1), (2, .inl x2), (3, .inl x3)], [])) h (tm_e r)) {x0 : Option Nat} {x1 : Int32} {x2 : Int32} {x3 : Int32} {h : pm_H} {r : tm_O × pm_H} (hr : l283_32 K2 x0 x1 x2 x3 h = some r) : pm_to pt_P (pt_G (tm_r w)) (d + 0) (pt_g283, []) (tm_m (32, [(0, .inr (.inr x0)), (1, .inl x1), (2, .inl x2), (3, .inl x3)], [])) h (tm_e r) := by
  unfold l283_32 at hr
  refine tm_n 2 (F' := (2, [(3, .inl (x3 + (1 : Int32))), (0, .inr (.inr x0)), (1, .inl x1), (2, .inl x2)], [])) rfl ?_
  refine tm_cut (a := [(0, .inr (.inr x0)), (1, .inl x1), (2, .inl x2), (3, .inl (x3 + (1 : Int32)))]) rfl (tm_sbs [1, 2, 3, 0] rfl) ?_
  exact hK2 hr
set_option maxRecDepth 20000 in
def l283_2 : Nat → Option Nat → Int32 → Int32 → Int32 → pm_H → tm_L
  | 0 => fun _ _ _ _ _ => none
  | n + 1 => fun x0 x1 x2 x3 h => (lf_I h x0 [10, 32]).bind fun v1 => if v1 ≤ x3 then some (.inl (some (.inl (-1 : Int32))), h) else (lf_R h x0 [10, 33]).bind fun v2 => (la_I h .iaload v2 x3).bind fun v3 => if v3 = x1 then (lf_R h x0 [10, 34]).bind fun v4 => (la_I h .iaload v4 x3).bind fun v5 => if v5 = x2 then some (.inl (some (.inl x3)), h) else l283_32 (l283_2 n) x0 x1 x2 x3 h else l283_32 (l283_2 n) x0 x1 x2 x3 h
set_option maxRecDepth 20000 in
theorem l283_2_t {w : Option Nat} {d : Nat} : ∀ (n : Nat) {x0 : Option Nat} {x1 : Int32} {x2 : Int32} {x3 : Int32} {h : pm_H} {r : tm_O × pm_H}, l283_2 n x0 x1 x2 x3 h = some r → pm_to pt_P (pt_G (tm_r w)) (d + 0) (pt_g283, []) (tm_m (2, [(0, .inr (.inr x0)), (1, .inl x1), (2, .inl x2), (3, .inl x3)], [])) h (tm_e r) := by
  intro n
  induction n with
  | zero => intro x0 x1 x2 x3 h r hr; cases hr
  | succ n ih =>
    intro x0 x1 x2 x3 h r hr
    unfold l283_2 at hr
    refine tm_n 2 (F' := (4, [(0, .inr (.inr x0)), (1, .inl x1), (2, .inl x2), (3, .inl x3)], [.inr (.inr x0), .inl x3])) rfl ?_
    obtain ⟨v1, qv1, hr⟩ := Option.bind_eq_some_iff.mp hr
    refine tm_getf rfl (lf_I_V qv1) ?_
    by_cases c8 : v1 ≤ x3
    · rw [if_pos c8] at hr
      refine tm_icT rfl c8 ?_
      refine tm_n 1 (F' := (39, [(0, .inr (.inr x0)), (1, .inl x1), (2, .inl x2), (3, .inl x3)], [.inl (-1 : Int32)])) rfl ?_
      cases hr
      exact tm_retI rfl rfl
    · rw [if_neg c8] at hr
      refine tm_icF rfl c8 ?_
      refine tm_n 1 (F' := (11, [(0, .inr (.inr x0)), (1, .inl x1), (2, .inl x2), (3, .inl x3)], [.inr (.inr x0)])) rfl ?_
      obtain ⟨v2, qv2, hr⟩ := Option.bind_eq_some_iff.mp hr
      refine tm_getf rfl (lf_R_V qv2) ?_
      refine tm_n 1 (F' := (15, [(0, .inr (.inr x0)), (1, .inl x1), (2, .inl x2), (3, .inl x3)], [.inl x3, .inr (.inr v2)])) rfl ?_
      obtain ⟨v3, qv3, hr⟩ := Option.bind_eq_some_iff.mp hr
      refine tm_ald rfl rfl (la_I_V qv3) ?_
      refine tm_n 1 (F' := (17, [(0, .inr (.inr x0)), (1, .inl x1), (2, .inl x2), (3, .inl x3)], [.inl x1, .inl v3])) rfl ?_
      by_cases c7 : v3 = x1
      · rw [if_pos c7] at hr
        refine tm_icF rfl (fun q => q c7) ?_
        refine tm_n 1 (F' := (21, [(0, .inr (.inr x0)), (1, .inl x1), (2, .inl x2), (3, .inl x3)], [.inr (.inr x0)])) rfl ?_
        obtain ⟨v4, qv4, hr⟩ := Option.bind_eq_some_iff.mp hr
        refine tm_getf rfl (lf_R_V qv4) ?_
        refine tm_n 1 (F' := (25, [(0, .inr (.inr x0)), (1, .inl x1), (2, .inl x2), (3, .inl x3)], [.inl x3, .inr (.inr v4)])) rfl ?_
        obtain ⟨v5, qv5, hr⟩ := Option.bind_eq_some_iff.mp hr
        refine tm_ald rfl rfl (la_I_V qv5) ?_
        refine tm_n 1 (F' := (27, [(0, .inr (.inr x0)), (1, .inl x1), (2, .inl x2), (3, .inl x3)], [.inl x2, .inl v5])) rfl ?_
        by_cases c6 : v5 = x2
        · rw [if_pos c6] at hr
          refine tm_icF rfl (fun q => q c6) ?_
          refine tm_n 1 (F' := (31, [(0, .inr (.inr x0)), (1, .inl x1), (2, .inl x2), (3, .inl x3)], [.inl x3])) rfl ?_
          cases hr
          exact tm_retI rfl rfl
        · rw [if_neg c6] at hr
          refine tm_icT rfl c6 ?_
          refine tm_cut (a := [(0, .inr (.inr x0)), (1, .inl x1), (2, .inl x2), (3, .inl x3)]) rfl (tm_sbs [0, 1, 2, 3] rfl) ?_
          exact l283_32_t (fun hr => ih hr) hr
      · rw [if_neg c7] at hr
        refine tm_icT rfl c7 ?_
        refine tm_cut (a := [(0, .inr (.inr x0)), (1, .inl x1), (2, .inl x2), (3, .inl x3)]) rfl (tm_sbs [0, 1, 2, 3] rfl) ?_
        exact l283_32_t (fun hr => ih hr) hr
set_option maxRecDepth 20000 in
def ll_283 (a0 : Option Nat) (a1 : Int32) (a2 : Int32) (h : pm_H) : tm_L := l283_2 lf_N a0 a1 a2 (0 : Int32) h
set_option maxRecDepth 20000 in
theorem lq_283 {w : Option Nat} {d : Nat} {a0 : Option Nat} {a1 : Int32} {a2 : Int32} {h : pm_H} {r : tm_O × pm_H} (hr : ll_283 a0 a1 a2 h = some r) : tm_run pt_P (pt_G (tm_r w)) (d + 0) 283 [.inr (.inr a0), .inl a1, .inl a2] h r := by
  unfold ll_283 at hr
  show pm_to pt_P (pt_G (tm_r w)) (d + 0) (pt_g283, []) (tm_m (0, [(0, .inr (.inr a0)), (1, .inl a1), (2, .inl a2)], [])) h (tm_e r)
  refine tm_n 2 (F' := (2, [(3, .inl (0 : Int32)), (0, .inr (.inr a0)), (1, .inl a1), (2, .inl a2)], [])) rfl ?_
  refine tm_cut (a := [(0, .inr (.inr a0)), (1, .inl a1), (2, .inl a2), (3, .inl (0 : Int32))]) rfl (tm_sbs [1, 2, 3, 0] rfl) ?_
  exact l283_2_t lf_N hr
-- OfficeSheetModel.gather(I)V
set_option maxRecDepth 20000 in
def l282_138 (K7 : Option Nat → Int32 → Int32 → pm_H → tm_L) (x0 : Option Nat) (x1 : Int32) (x2 : Int32) (h : pm_H) : tm_L := K7 x0 x1 (x2 + (1 : Int32)) h
set_option maxRecDepth 20000 in
theorem l282_138_t {w : Option Nat} {d : Nat} {K7 : Option Nat → Int32 → Int32 → pm_H → tm_L} (hK7 : ∀ {x0 : Option Nat} {x1 : Int32} {x2 : Int32}  {h : pm_H} {r : tm_O × pm_H}, K7 x0 x1 x2 h = some r → pm_to pt_P (pt_G (tm_r w)) (d + 2) (pt_g282, []) (tm_m (7, [(0, .inr (.inr x0)), (1, .inl x1), (2, .inl x2)], [])) h (tm_e r)) {x0 : Option Nat} {x1 : Int32} {x2 : Int32} {h : pm_H} {r : tm_O × pm_H} (hr : l282_138 K7 x0 x1 x2 h = some r) : pm_to pt_P (pt_G (tm_r w)) (d + 2) (pt_g282, []) (tm_m (138, [(0, .inr (.inr x0)), (1, .inl x1), (2, .inl x2)], [])) h (tm_e r) := by
  unfold l282_138 at hr
  refine tm_n 2 (F' := (7, [(2, .inl (x2 + (1 : Int32))), (0, .inr (.inr x0)), (1, .inl x1)], [])) rfl ?_
  refine tm_cut (a := [(0, .inr (.inr x0)), (1, .inl x1), (2, .inl (x2 + (1 : Int32)))]) rfl (tm_sbs [1, 2, 0] rfl) ?_
  exact hK7 hr
set_option maxRecDepth 20000 in
def l282_7 : Nat → Option Nat → Int32 → Int32 → pm_H → tm_L
  | 0 => fun _ _ _ _ => none
  | n + 1 => fun x0 x1 x2 h => if (120 : Int32) ≤ x2 then some (.inl none, h) else (lf_R h x0 [10, 1]).bind fun v1 => (la_I h .iaload v1 x2).bind fun v2 => if v2 = (6 : Int32) then if lc_of h x0 = some 10 then lb_I (ll_244 x0 x1 x2 h) (fun v4 h5 => if v4 = (0 : Int32) then l282_138 (l282_7 n) x0 x1 x2 h5 else (lf_R h5 x0 [10, 5]).bind fun v7 => (la_I h5 .iaload v7 x2).bind fun v8 => (lf_R h5 x0 [10, 6]).bind fun v9 => (la_I h5 .iaload v9 x2).bind fun v10 => if lc_of h5 x0 = some 10 then lb_I (ll_283 x0 v8 v10 h5) (fun v12 h13 => if (0 : Int32) ≤ v12 then l282_138 (l282_7 n) x0 x1 x2 h13 else (lf_R h13 x0 [10, 33]).bind fun v15 => (lf_I h13 x0 [10, 32]).bind fun v16 => (lf_R h13 x0 [10, 5]).bind fun v17 => (la_I h13 .iaload v17 x2).bind fun v18 => (la_S pt_P h13 .iastore v15 v16 (.inl v18)).bind fun h19 => (lf_R h19 x0 [10, 34]).bind fun v20 => (lf_I h19 x0 [10, 32]).bind fun v21 => (lf_R h19 x0 [10, 6]).bind fun v22 => (la_I h19 .iaload v22 x2).bind fun v23 => (la_S pt_P h19 .iastore v20 v21 (.inl v23)).bind fun h24 => (lf_R h24 x0 [10, 35]).bind fun v25 => (lf_I h24 x0 [10, 32]).bind fun v26 => (lf_R h24 x0 [10, 5]).bind fun v27 => (la_I h24 .iaload v27 x2).bind fun v28 => (lf_R h24 x0 [10, 6]).bind fun v29 => (la_I h24 .iaload v29 x2).bind fun v30 => if lc_of h24 x0 = some 10 then lb_I (ll_255 x0 x1 v28 v30 h24) (fun v32 h33 => (la_S pt_P h33 .iastore v25 v26 (.inl v32)).bind fun h35 => (lf_R h35 x0 [10, 36]).bind fun v36 => (lf_I h35 x0 [10, 32]).bind fun v37 => (la_S pt_P h35 .iastore v36 v37 (.inl (0 : Int32))).bind fun h38 => (lf_R h38 x0 [10, 37]).bind fun v39 => (lf_I h38 x0 [10, 32]).bind fun v40 => (la_S pt_P h38 .lastore v39 v40 (.inr (.inl (0 : Int64)))).bind fun h41 => (lf_I h41 x0 [10, 32]).bind fun v42 => (lf_P 81 h41 x0 [0, 10, 32] (.inl (v42 + (1 : Int32)))).bind fun h43 => l282_138 (l282_7 n) x0 x1 x2 h43) else none) else none) else none else l282_138 (l282_7 n) x0 x1 x2 h
set_option maxRecDepth 20000 in
theorem l282_7_t {w : Option Nat} {d : Nat} : ∀ (n : Nat) {x0 : Option Nat} {x1 : Int32} {x2 : Int32} {h : pm_H} {r : tm_O × pm_H}, l282_7 n x0 x1 x2 h = some r → pm_to pt_P (pt_G (tm_r w)) (d + 2) (pt_g282, []) (tm_m (7, [(0, .inr (.inr x0)), (1, .inl x1), (2, .inl x2)], [])) h (tm_e r) := by
  intro n
  induction n with
  | zero => intro x0 x1 x2 h r hr; cases hr
  | succ n ih =>
    intro x0 x1 x2 h r hr
    unfold l282_7 at hr
    refine tm_n 2 (F' := (10, [(0, .inr (.inr x0)), (1, .inl x1), (2, .inl x2)], [.inl (120 : Int32), .inl x2])) rfl ?_
    by_cases c53 : (120 : Int32) ≤ x2
    · rw [if_pos c53] at hr
      refine tm_icT rfl c53 ?_
      cases hr
      exact tm_retV rfl
    · rw [if_neg c53] at hr
      refine tm_icF rfl c53 ?_
      refine tm_n 1 (F' := (14, [(0, .inr (.inr x0)), (1, .inl x1), (2, .inl x2)], [.inr (.inr x0)])) rfl ?_
      obtain ⟨v1, qv1, hr⟩ := Option.bind_eq_some_iff.mp hr
      refine tm_getf rfl (lf_R_V qv1) ?_
      refine tm_n 1 (F' := (18, [(0, .inr (.inr x0)), (1, .inl x1), (2, .inl x2)], [.inl x2, .inr (.inr v1)])) rfl ?_
      obtain ⟨v2, qv2, hr⟩ := Option.bind_eq_some_iff.mp hr
      refine tm_ald rfl rfl (la_I_V qv2) ?_
      refine tm_n 1 (F' := (21, [(0, .inr (.inr x0)), (1, .inl x1), (2, .inl x2)], [.inl (6 : Int32), .inl v2])) rfl ?_
      by_cases c52 : v2 = (6 : Int32)
      · rw [if_pos c52] at hr
        refine tm_icF rfl (fun q => q c52) ?_
        refine tm_n 3 (F' := (27, [(0, .inr (.inr x0)), (1, .inl x1), (2, .inl x2)], [.inl x2, .inl x1, .inr (.inr x0)])) rfl ?_
        by_cases c3 : lc_of h x0 = some 10
        · rw [if_pos c3] at hr
          rcases lb_I_s hr with ⟨v4, h5, m6, hr⟩ | ⟨a50, h5, z51, z51l, m6, qz51, rfl⟩
          · try dsimp only at hr
            refine tm_call rfl rfl (tm_callV rfl rfl c3 rfl rfl) (lq_244 m6) ?_
            by_cases c49 : v4 = (0 : Int32)
            · rw [if_pos c49] at hr
              refine tm_ifT rfl c49 ?_
              refine tm_cut (a := [(0, .inr (.inr x0)), (1, .inl x1), (2, .inl x2)]) rfl (tm_sbs [0, 1, 2] rfl) ?_
              exact l282_138_t (fun hr => ih hr) hr
            · rw [if_neg c49] at hr
              refine tm_ifF rfl c49 ?_
              refine tm_n 2 (F' := (35, [(0, .inr (.inr x0)), (1, .inl x1), (2, .inl x2)], [.inr (.inr x0), .inr (.inr x0)])) rfl ?_
              obtain ⟨v7, qv7, hr⟩ := Option.bind_eq_some_iff.mp hr
              refine tm_getf rfl (lf_R_V qv7) ?_
              refine tm_n 1 (F' := (39, [(0, .inr (.inr x0)), (1, .inl x1), (2, .inl x2)], [.inl x2, .inr (.inr v7), .inr (.inr x0)])) rfl ?_
              obtain ⟨v8, qv8, hr⟩ := Option.bind_eq_some_iff.mp hr
              refine tm_ald rfl rfl (la_I_V qv8) ?_
              refine tm_n 1 (F' := (41, [(0, .inr (.inr x0)), (1, .inl x1), (2, .inl x2)], [.inr (.inr x0), .inl v8, .inr (.inr x0)])) rfl ?_
              obtain ⟨v9, qv9, hr⟩ := Option.bind_eq_some_iff.mp hr
              refine tm_getf rfl (lf_R_V qv9) ?_
              refine tm_n 1 (F' := (45, [(0, .inr (.inr x0)), (1, .inl x1), (2, .inl x2)], [.inl x2, .inr (.inr v9), .inl v8, .inr (.inr x0)])) rfl ?_
              obtain ⟨v10, qv10, hr⟩ := Option.bind_eq_some_iff.mp hr
              refine tm_ald rfl rfl (la_I_V qv10) ?_
              by_cases c11 : lc_of h5 x0 = some 10
              · rw [if_pos c11] at hr
                rcases lb_I_s hr with ⟨v12, h13, m14, hr⟩ | ⟨a47, h13, z48, z48l, m14, qz48, rfl⟩
                · try dsimp only at hr
                  refine tm_call rfl rfl (tm_callV rfl rfl c11 rfl rfl) (lq_283 m14) ?_
                  by_cases c46 : (0 : Int32) ≤ v12
                  · rw [if_pos c46] at hr
                    refine tm_ifT rfl c46 ?_
                    refine tm_cut (a := [(0, .inr (.inr x0)), (1, .inl x1), (2, .inl x2)]) rfl (tm_sbs [0, 1, 2] rfl) ?_
                    exact l282_138_t (fun hr => ih hr) hr
                  · rw [if_neg c46] at hr
                    refine tm_ifF rfl c46 ?_
                    refine tm_n 1 (F' := (53, [(0, .inr (.inr x0)), (1, .inl x1), (2, .inl x2)], [.inr (.inr x0)])) rfl ?_
                    obtain ⟨v15, qv15, hr⟩ := Option.bind_eq_some_iff.mp hr
                    refine tm_getf rfl (lf_R_V qv15) ?_
                    refine tm_n 1 (F' := (57, [(0, .inr (.inr x0)), (1, .inl x1), (2, .inl x2)], [.inr (.inr x0), .inr (.inr v15)])) rfl ?_
                    obtain ⟨v16, qv16, hr⟩ := Option.bind_eq_some_iff.mp hr
                    refine tm_getf rfl (lf_I_V qv16) ?_
                    refine tm_n 1 (F' := (61, [(0, .inr (.inr x0)), (1, .inl x1), (2, .inl x2)], [.inr (.inr x0), .inl v16, .inr (.inr v15)])) rfl ?_
                    obtain ⟨v17, qv17, hr⟩ := Option.bind_eq_some_iff.mp hr
                    refine tm_getf rfl (lf_R_V qv17) ?_
                    refine tm_n 1 (F' := (65, [(0, .inr (.inr x0)), (1, .inl x1), (2, .inl x2)], [.inl x2, .inr (.inr v17), .inl v16, .inr (.inr v15)])) rfl ?_
                    obtain ⟨v18, qv18, hr⟩ := Option.bind_eq_some_iff.mp hr
                    refine tm_ald rfl rfl (la_I_V qv18) ?_
                    obtain ⟨h19, qh19, hr⟩ := Option.bind_eq_some_iff.mp hr
                    refine tm_ast rfl rfl qh19 ?_
                    refine tm_n 1 (F' := (68, [(0, .inr (.inr x0)), (1, .inl x1), (2, .inl x2)], [.inr (.inr x0)])) rfl ?_
                    obtain ⟨v20, qv20, hr⟩ := Option.bind_eq_some_iff.mp hr
                    refine tm_getf rfl (lf_R_V qv20) ?_
                    refine tm_n 1 (F' := (72, [(0, .inr (.inr x0)), (1, .inl x1), (2, .inl x2)], [.inr (.inr x0), .inr (.inr v20)])) rfl ?_
                    obtain ⟨v21, qv21, hr⟩ := Option.bind_eq_some_iff.mp hr
                    refine tm_getf rfl (lf_I_V qv21) ?_
                    refine tm_n 1 (F' := (76, [(0, .inr (.inr x0)), (1, .inl x1), (2, .inl x2)], [.inr (.inr x0), .inl v21, .inr (.inr v20)])) rfl ?_
                    obtain ⟨v22, qv22, hr⟩ := Option.bind_eq_some_iff.mp hr
                    refine tm_getf rfl (lf_R_V qv22) ?_
                    refine tm_n 1 (F' := (80, [(0, .inr (.inr x0)), (1, .inl x1), (2, .inl x2)], [.inl x2, .inr (.inr v22), .inl v21, .inr (.inr v20)])) rfl ?_
                    obtain ⟨v23, qv23, hr⟩ := Option.bind_eq_some_iff.mp hr
                    refine tm_ald rfl rfl (la_I_V qv23) ?_
                    obtain ⟨h24, qh24, hr⟩ := Option.bind_eq_some_iff.mp hr
                    refine tm_ast rfl rfl qh24 ?_
                    refine tm_n 1 (F' := (83, [(0, .inr (.inr x0)), (1, .inl x1), (2, .inl x2)], [.inr (.inr x0)])) rfl ?_
                    obtain ⟨v25, qv25, hr⟩ := Option.bind_eq_some_iff.mp hr
                    refine tm_getf rfl (lf_R_V qv25) ?_
                    refine tm_n 1 (F' := (87, [(0, .inr (.inr x0)), (1, .inl x1), (2, .inl x2)], [.inr (.inr x0), .inr (.inr v25)])) rfl ?_
                    obtain ⟨v26, qv26, hr⟩ := Option.bind_eq_some_iff.mp hr
                    refine tm_getf rfl (lf_I_V qv26) ?_
                    refine tm_n 3 (F' := (93, [(0, .inr (.inr x0)), (1, .inl x1), (2, .inl x2)], [.inr (.inr x0), .inl x1, .inr (.inr x0), .inl v26, .inr (.inr v25)])) rfl ?_
                    obtain ⟨v27, qv27, hr⟩ := Option.bind_eq_some_iff.mp hr
                    refine tm_getf rfl (lf_R_V qv27) ?_
                    refine tm_n 1 (F' := (97, [(0, .inr (.inr x0)), (1, .inl x1), (2, .inl x2)], [.inl x2, .inr (.inr v27), .inl x1, .inr (.inr x0), .inl v26, .inr (.inr v25)])) rfl ?_
                    obtain ⟨v28, qv28, hr⟩ := Option.bind_eq_some_iff.mp hr
                    refine tm_ald rfl rfl (la_I_V qv28) ?_
                    refine tm_n 1 (F' := (99, [(0, .inr (.inr x0)), (1, .inl x1), (2, .inl x2)], [.inr (.inr x0), .inl v28, .inl x1, .inr (.inr x0), .inl v26, .inr (.inr v25)])) rfl ?_
                    obtain ⟨v29, qv29, hr⟩ := Option.bind_eq_some_iff.mp hr
                    refine tm_getf rfl (lf_R_V qv29) ?_
                    refine tm_n 1 (F' := (103, [(0, .inr (.inr x0)), (1, .inl x1), (2, .inl x2)], [.inl x2, .inr (.inr v29), .inl v28, .inl x1, .inr (.inr x0), .inl v26, .inr (.inr v25)])) rfl ?_
                    obtain ⟨v30, qv30, hr⟩ := Option.bind_eq_some_iff.mp hr
                    refine tm_ald rfl rfl (la_I_V qv30) ?_
                    by_cases c31 : lc_of h24 x0 = some 10
                    · rw [if_pos c31] at hr
                      rcases lb_I_s hr with ⟨v32, h33, m34, hr⟩ | ⟨a44, h33, z45, z45l, m34, qz45, rfl⟩
                      · try dsimp only at hr
                        refine tm_call rfl rfl (tm_callV rfl rfl c31 rfl rfl) (lq_255 m34) ?_
                        obtain ⟨h35, qh35, hr⟩ := Option.bind_eq_some_iff.mp hr
                        refine tm_ast rfl rfl qh35 ?_
                        refine tm_n 1 (F' := (109, [(0, .inr (.inr x0)), (1, .inl x1), (2, .inl x2)], [.inr (.inr x0)])) rfl ?_
                        obtain ⟨v36, qv36, hr⟩ := Option.bind_eq_some_iff.mp hr
                        refine tm_getf rfl (lf_R_V qv36) ?_
                        refine tm_n 1 (F' := (113, [(0, .inr (.inr x0)), (1, .inl x1), (2, .inl x2)], [.inr (.inr x0), .inr (.inr v36)])) rfl ?_
                        obtain ⟨v37, qv37, hr⟩ := Option.bind_eq_some_iff.mp hr
                        refine tm_getf rfl (lf_I_V qv37) ?_
                        refine tm_n 1 (F' := (117, [(0, .inr (.inr x0)), (1, .inl x1), (2, .inl x2)], [.inl (0 : Int32), .inl v37, .inr (.inr v36)])) rfl ?_
                        obtain ⟨h38, qh38, hr⟩ := Option.bind_eq_some_iff.mp hr
                        refine tm_ast rfl rfl qh38 ?_
                        refine tm_n 1 (F' := (119, [(0, .inr (.inr x0)), (1, .inl x1), (2, .inl x2)], [.inr (.inr x0)])) rfl ?_
                        obtain ⟨v39, qv39, hr⟩ := Option.bind_eq_some_iff.mp hr
                        refine tm_getf rfl (lf_R_V qv39) ?_
                        refine tm_n 1 (F' := (123, [(0, .inr (.inr x0)), (1, .inl x1), (2, .inl x2)], [.inr (.inr x0), .inr (.inr v39)])) rfl ?_
                        obtain ⟨v40, qv40, hr⟩ := Option.bind_eq_some_iff.mp hr
                        refine tm_getf rfl (lf_I_V qv40) ?_
                        refine tm_n 1 (F' := (127, [(0, .inr (.inr x0)), (1, .inl x1), (2, .inl x2)], [.inr (.inl (0 : Int64)), .inl v40, .inr (.inr v39)])) rfl ?_
                        obtain ⟨h41, qh41, hr⟩ := Option.bind_eq_some_iff.mp hr
                        refine tm_ast rfl rfl qh41 ?_
                        refine tm_n 2 (F' := (130, [(0, .inr (.inr x0)), (1, .inl x1), (2, .inl x2)], [.inr (.inr x0), .inr (.inr x0)])) rfl ?_
                        obtain ⟨v42, qv42, hr⟩ := Option.bind_eq_some_iff.mp hr
                        refine tm_getf rfl (lf_I_V qv42) ?_
                        refine tm_n 2 (F' := (135, [(0, .inr (.inr x0)), (1, .inl x1), (2, .inl x2)], [.inl (v42 + (1 : Int32)), .inr (.inr x0)])) rfl ?_
                        obtain ⟨h43, qh43, hr⟩ := Option.bind_eq_some_iff.mp hr
                        refine tm_putf rfl qh43 ?_
                        refine tm_cut (a := [(0, .inr (.inr x0)), (1, .inl x1), (2, .inl x2)]) rfl (tm_sbs [0, 1, 2] rfl) ?_
                        exact l282_138_t (fun hr => ih hr) hr
                      · exact tm_callT rfl rfl (tm_callV rfl rfl c31 rfl rfl) (lq_255 m34) qz45 rfl
                    · rw [if_neg c31] at hr
                      cases hr
                · exact tm_callT rfl rfl (tm_callV rfl rfl c11 rfl rfl) (lq_283 m14) qz48 rfl
              · rw [if_neg c11] at hr
                cases hr
          · exact tm_callT rfl rfl (tm_callV rfl rfl c3 rfl rfl) (lq_244 m6) qz51 rfl
        · rw [if_neg c3] at hr
          cases hr
      · rw [if_neg c52] at hr
        refine tm_icT rfl c52 ?_
        refine tm_cut (a := [(0, .inr (.inr x0)), (1, .inl x1), (2, .inl x2)]) rfl (tm_sbs [0, 1, 2] rfl) ?_
        exact l282_138_t (fun hr => ih hr) hr
set_option maxRecDepth 20000 in
def ll_282 (a0 : Option Nat) (a1 : Int32) (h : pm_H) : tm_L := (lf_P 81 h a0 [0, 10, 32] (.inl (0 : Int32))).bind fun h1 => l282_7 lf_N a0 a1 (0 : Int32) h1
set_option maxRecDepth 20000 in
theorem lq_282 {w : Option Nat} {d : Nat} {a0 : Option Nat} {a1 : Int32} {h : pm_H} {r : tm_O × pm_H} (hr : ll_282 a0 a1 h = some r) : tm_run pt_P (pt_G (tm_r w)) (d + 2) 282 [.inr (.inr a0), .inl a1] h r := by
  unfold ll_282 at hr
  show pm_to pt_P (pt_G (tm_r w)) (d + 2) (pt_g282, []) (tm_m (0, [(0, .inr (.inr a0)), (1, .inl a1)], [])) h (tm_e r)
  refine tm_n 2 (F' := (2, [(0, .inr (.inr a0)), (1, .inl a1)], [.inl (0 : Int32), .inr (.inr a0)])) rfl ?_
  obtain ⟨h1, qh1, hr⟩ := Option.bind_eq_some_iff.mp hr
  refine tm_putf rfl qh1 ?_
  refine tm_n 2 (F' := (7, [(2, .inl (0 : Int32)), (0, .inr (.inr a0)), (1, .inl a1)], [])) rfl ?_
  refine tm_cut (a := [(0, .inr (.inr a0)), (1, .inl a1), (2, .inl (0 : Int32))]) rfl (tm_sbs [1, 2, 0] rfl) ?_
  exact l282_7_t lf_N hr
