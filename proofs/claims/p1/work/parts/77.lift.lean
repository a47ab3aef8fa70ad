/-! lifted: 224, 226, 228, 227, 229, 225, 231, 230, 219, 218, 217, 216, 233, 232, 234, 235, 237, 238, 239, 240, 242, 244, 245, 243 -/
-- OfficeSheet$Writer.writeBlock(LOfficeSheet$Part;)V
set_option maxRecDepth 20000 in
def l224_102 (w : Option Nat) (x0 : Option Nat) (h : pm_H) : tm_L := (lf_R h x0 [3, 0]).bind fun v1 => if lc_of h v1 = some 11 then lb_R (ll_19 w v1 (41 : Int32) h) (fun v3 h4 => some (.inl none, h4)) else none
set_option maxRecDepth 20000 in
theorem l224_102_t {w : Option Nat} {d : Nat} {x0 : Option Nat} {h : pm_H} {r : tm_O × pm_H} (hr : l224_102 w x0 h = some r) : pm_to pt_P (pt_G (tm_r w)) (d + 10) (pt_g224, []) (tm_m (102, [(0, .inr (.inr x0))], [])) h (tm_e r) := by
  unfold l224_102 at hr
  refine tm_n 1 (F' := (103, [(0, .inr (.inr x0))], [.inr (.inr x0)])) rfl ?_
  obtain ⟨v1, qv1, hr⟩ := Option.bind_eq_some_iff.mp hr
  refine tm_getf rfl (lf_R_V qv1) ?_
  refine tm_n 1 (F' := (108, [(0, .inr (.inr x0))], [.inl (41 : Int32), .inr (.inr v1)])) rfl ?_
  by_cases c2 : lc_of h v1 = some 11
  · rw [if_pos c2] at hr
    rcases lb_R_s hr with ⟨v3, h4, m5, hr⟩ | ⟨a6, h4, z7, z7l, m5, qz7, rfl⟩
    · try dsimp only at hr
      refine tm_call rfl rfl (tm_callV rfl rfl c2 rfl rfl) (lq_19 m5) ?_
      refine tm_n 1 (F' := (112, [(0, .inr (.inr x0))], [])) rfl ?_
      cases hr
      exact tm_retV rfl
    · exact tm_callT rfl rfl (tm_callV rfl rfl c2 rfl rfl) (lq_19 m5) qz7 rfl
  · rw [if_neg c2] at hr
    cases hr
set_option maxRecDepth 20000 in
def l224_92 (w : Option Nat) (x0 : Option Nat) (h : pm_H) : tm_L := (lf_R h x0 [3, 0]).bind fun v1 => if lc_of h v1 = some 11 then lb_R (ll_19 w v1 (35 : Int32) h) (fun v3 h4 => l224_102 w x0 h4) else none
set_option maxRecDepth 20000 in
theorem l224_92_t {w : Option Nat} {d : Nat} {x0 : Option Nat} {h : pm_H} {r : tm_O × pm_H} (hr : l224_92 w x0 h = some r) : pm_to pt_P (pt_G (tm_r w)) (d + 10) (pt_g224, []) (tm_m (92, [(0, .inr (.inr x0))], [])) h (tm_e r) := by
  unfold l224_92 at hr
  refine tm_n 1 (F' := (93, [(0, .inr (.inr x0))], [.inr (.inr x0)])) rfl ?_
  obtain ⟨v1, qv1, hr⟩ := Option.bind_eq_some_iff.mp hr
  refine tm_getf rfl (lf_R_V qv1) ?_
  refine tm_n 1 (F' := (98, [(0, .inr (.inr x0))], [.inl (35 : Int32), .inr (.inr v1)])) rfl ?_
  by_cases c2 : lc_of h v1 = some 11
  · rw [if_pos c2] at hr
    rcases lb_R_s hr with ⟨v3, h4, m5, hr⟩ | ⟨a6, h4, z7, z7l, m5, qz7, rfl⟩
    · try dsimp only at hr
      refine tm_call rfl rfl (tm_callV rfl rfl c2 rfl rfl) (lq_19 m5) ?_
      refine tm_n 1 (F' := (102, [(0, .inr (.inr x0))], [])) rfl ?_
      refine tm_cut (a := [(0, .inr (.inr x0))]) rfl (tm_sbs [0] rfl) ?_
      exact l224_102_t hr
    · exact tm_callT rfl rfl (tm_callV rfl rfl c2 rfl rfl) (lq_19 m5) qz7 rfl
  · rw [if_neg c2] at hr
    cases hr
set_option maxRecDepth 20000 in
def ll_224 (w : Option Nat) (a0 : Option Nat) (a1 : Option Nat) (h : pm_H) : tm_L := (lf_R h a0 [3, 0]).bind fun v1 => (lf_R h a1 [9, 0]).bind fun v2 => (lf_R h v2 [19, 1]).bind fun v3 => if lc_of h v1 = some 11 then lb_R (ll_46 w v1 v3 h) (fun v5 h6 => (lf_R h6 a0 [3, 0]).bind fun v8 => if lc_of h6 v8 = some 11 then lb_R (ll_19 w v8 (40 : Int32) h6) (fun v10 h11 => (lf_R h11 a1 [9, 4]).bind fun v13 => (lf_R h11 a1 [9, 5]).bind fun v14 => if lc_of h11 a0 = some 3 then lb_I (ll_222 a0 v13 v14 h11) (fun v16 h17 => if v16 = (0 : Int32) then l224_92 w a0 h17 else (lf_R h17 a1 [9, 6]).bind fun v19 => (lf_R h17 a1 [9, 7]).bind fun v20 => if lc_of h17 a0 = some 3 then lb_I (ll_222 a0 v19 v20 h17) (fun v22 h23 => if v22 = (0 : Int32) then l224_92 w a0 h23 else (lf_R h23 a1 [9, 4]).bind fun v25 => (lf_R h23 a1 [9, 5]).bind fun v26 => if lc_of h23 a0 = some 3 then lb_V (ll_223 w a0 v25 v26 h23) (fun h29 => (lf_R h29 a0 [3, 0]).bind fun v31 => if lc_of h29 v31 = some 11 then lb_R (ll_19 w v31 (58 : Int32) h29) (fun v33 h34 => (lf_R h34 a1 [9, 6]).bind fun v36 => (lf_R h34 a1 [9, 7]).bind fun v37 => if lc_of h34 a0 = some 3 then lb_V (ll_223 w a0 v36 v37 h34) (fun h40 => l224_102 w a0 h40) else none) else none) else none) else none) else none) else none) else none
set_option maxRecDepth 20000 in
theorem lq_224 {w : Option Nat} {d : Nat} {a0 : Option Nat} {a1 : Option Nat} {h : pm_H} {r : tm_O × pm_H} (hr : ll_224 w a0 a1 h = some r) : tm_run pt_P (pt_G (tm_r w)) (d + 10) 224 [.inr (.inr a0), .inr (.inr a1)] h r := by
  unfold ll_224 at hr
  show pm_to pt_P (pt_G (tm_r w)) (d + 10) (pt_g224, []) (tm_m (0, [(0, .inr (.inr a0)), (1, .inr (.inr a1))], [])) h (tm_e r)
  refine tm_n 1 (F' := (1, [(0, .inr (.inr a0)), (1, .inr (.inr a1))], [.inr (.inr a0)])) rfl ?_
  obtain ⟨v1, qv1, hr⟩ := Option.bind_eq_some_iff.mp hr
  refine tm_getf rfl (lf_R_V qv1) ?_
  refine tm_n 1 (F' := (5, [(0, .inr (.inr a0)), (1, .inr (.inr a1))], [.inr (.inr a1), .inr (.inr v1)])) rfl ?_
  obtain ⟨v2, qv2, hr⟩ := Option.bind_eq_some_iff.mp hr
  refine tm_getf rfl (lf_R_V qv2) ?_
  obtain ⟨v3, qv3, hr⟩ := Option.bind_eq_some_iff.mp hr
  refine tm_getf rfl (lf_R_V qv3) ?_
  by_cases c4 : lc_of h v1 = some 11
  · rw [if_pos c4] at hr
    rcases lb_R_s hr with ⟨v5, h6, m7, hr⟩ | ⟨a56, h6, z57, z57l, m7, qz57, rfl⟩
    · try dsimp only at hr
      refine tm_call rfl rfl (tm_callV rfl rfl c4 rfl rfl) (lq_46 m7) ?_
      refine tm_n 2 (F' := (16, [(0, .inr (.inr a0)), (1, .inr (.inr a1))], [.inr (.inr a0)])) rfl ?_
      obtain ⟨v8, qv8, hr⟩ := Option.bind_eq_some_iff.mp hr
      refine tm_getf rfl (lf_R_V qv8) ?_
      refine tm_n 1 (F' := (21, [(0, .inr (.inr a0)), (1, .inr (.inr a1))], [.inl (40 : Int32), .inr (.inr v8)])) rfl ?_
      by_cases c9 : lc_of h6 v8 = some 11
      · rw [if_pos c9] at hr
        rcases lb_R_s hr with ⟨v10, h11, m12, hr⟩ | ⟨a54, h11, z55, z55l, m12, qz55, rfl⟩
        · try dsimp only at hr
          refine tm_call rfl rfl (tm_callV rfl rfl c9 rfl rfl) (lq_19 m12) ?_
          refine tm_n 3 (F' := (27, [(0, .inr (.inr a0)), (1, .inr (.inr a1))], [.inr (.inr a1), .inr (.inr a0)])) rfl ?_
          obtain ⟨v13, qv13, hr⟩ := Option.bind_eq_some_iff.mp hr
          refine tm_getf rfl (lf_R_V qv13) ?_
          refine tm_n 1 (F' := (31, [(0, .inr (.inr a0)), (1, .inr (.inr a1))], [.inr (.inr a1), .inr (.inr v13), .inr (.inr a0)])) rfl ?_
          obtain ⟨v14, qv14, hr⟩ := Option.bind_eq_some_iff.mp hr
          refine tm_getf rfl (lf_R_V qv14) ?_
          by_cases c15 : lc_of h11 a0 = some 3
          · rw [if_pos c15] at hr
            rcases lb_I_s hr with ⟨v16, h17, m18, hr⟩ | ⟨a52, h17, z53, z53l, m18, qz53, rfl⟩
            · try dsimp only at hr
              refine tm_call rfl rfl (tm_callV rfl rfl c15 rfl rfl) (lq_222 m18) ?_
              by_cases c51 : v16 = (0 : Int32)
              · rw [if_pos c51] at hr
                refine tm_ifT rfl c51 ?_
                refine tm_cut (a := [(0, .inr (.inr a0))]) rfl (tm_sbs [0] rfl) ?_
                exact l224_92_t hr
              · rw [if_neg c51] at hr
                refine tm_ifF rfl c51 ?_
                refine tm_n 2 (F' := (42, [(0, .inr (.inr a0)), (1, .inr (.inr a1))], [.inr (.inr a1), .inr (.inr a0)])) rfl ?_
                obtain ⟨v19, qv19, hr⟩ := Option.bind_eq_some_iff.mp hr
                refine tm_getf rfl (lf_R_V qv19) ?_
                refine tm_n 1 (F' := (46, [(0, .inr (.inr a0)), (1, .inr (.inr a1))], [.inr (.inr a1), .inr (.inr v19), .inr (.inr a0)])) rfl ?_
                obtain ⟨v20, qv20, hr⟩ := Option.bind_eq_some_iff.mp hr
                refine tm_getf rfl (lf_R_V qv20) ?_
                by_cases c21 : lc_of h17 a0 = some 3
                · rw [if_pos c21] at hr
                  rcases lb_I_s hr with ⟨v22, h23, m24, hr⟩ | ⟨a49, h23, z50, z50l, m24, qz50, rfl⟩
                  · try dsimp only at hr
                    refine tm_call rfl rfl (tm_callV rfl rfl c21 rfl rfl) (lq_222 m24) ?_
                    by_cases c48 : v22 = (0 : Int32)
                    · rw [if_pos c48] at hr
                      refine tm_ifT rfl c48 ?_
                      refine tm_cut (a := [(0, .inr (.inr a0))]) rfl (tm_sbs [0] rfl) ?_
                      exact l224_92_t hr
                    · rw [if_neg c48] at hr
                      refine tm_ifF rfl c48 ?_
                      refine tm_n 2 (F' := (57, [(0, .inr (.inr a0)), (1, .inr (.inr a1))], [.inr (.inr a1), .inr (.inr a0)])) rfl ?_
                      obtain ⟨v25, qv25, hr⟩ := Option.bind_eq_some_iff.mp hr
                      refine tm_getf rfl (lf_R_V qv25) ?_
                      refine tm_n 1 (F' := (61, [(0, .inr (.inr a0)), (1, .inr (.inr a1))], [.inr (.inr a1), .inr (.inr v25), .inr (.inr a0)])) rfl ?_
                      obtain ⟨v26, qv26, hr⟩ := Option.bind_eq_some_iff.mp hr
                      refine tm_getf rfl (lf_R_V qv26) ?_
                      by_cases c27 : lc_of h23 a0 = some 3
                      · rw [if_pos c27] at hr
                        rcases lb_V_s hr with ⟨h29, m30, hr⟩ | ⟨a46, h29, z47, z47l, m30, qz47, rfl⟩
                        · try dsimp only at hr
                          refine tm_call rfl rfl (tm_callV rfl rfl c27 rfl rfl) (lq_223 m30) ?_
                          refine tm_n 1 (F' := (68, [(0, .inr (.inr a0)), (1, .inr (.inr a1))], [.inr (.inr a0)])) rfl ?_
                          obtain ⟨v31, qv31, hr⟩ := Option.bind_eq_some_iff.mp hr
                          refine tm_getf rfl (lf_R_V qv31) ?_
                          refine tm_n 1 (F' := (73, [(0, .inr (.inr a0)), (1, .inr (.inr a1))], [.inl (58 : Int32), .inr (.inr v31)])) rfl ?_
                          by_cases c32 : lc_of h29 v31 = some 11
                          · rw [if_pos c32] at hr
                            rcases lb_R_s hr with ⟨v33, h34, m35, hr⟩ | ⟨a44, h34, z45, z45l, m35, qz45, rfl⟩
                            · try dsimp only at hr
                              refine tm_call rfl rfl (tm_callV rfl rfl c32 rfl rfl) (lq_19 m35) ?_
                              refine tm_n 3 (F' := (79, [(0, .inr (.inr a0)), (1, .inr (.inr a1))], [.inr (.inr a1), .inr (.inr a0)])) rfl ?_
                              obtain ⟨v36, qv36, hr⟩ := Option.bind_eq_some_iff.mp hr
                              refine tm_getf rfl (lf_R_V qv36) ?_
                              refine tm_n 1 (F' := (83, [(0, .inr (.inr a0)), (1, .inr (.inr a1))], [.inr (.inr a1), .inr (.inr v36), .inr (.inr a0)])) rfl ?_
                              obtain ⟨v37, qv37, hr⟩ := Option.bind_eq_some_iff.mp hr
                              refine tm_getf rfl (lf_R_V qv37) ?_
                              by_cases c38 : lc_of h34 a0 = some 3
                              · rw [if_pos c38] at hr
                                rcases lb_V_s hr with ⟨h40, m41, hr⟩ | ⟨a42, h40, z43, z43l, m41, qz43, rfl⟩
                                · try dsimp only at hr
                                  refine tm_call rfl rfl (tm_callV rfl rfl c38 rfl rfl) (lq_223 m41) ?_
                                  refine tm_n 1 (F' := (102, [(0, .inr (.inr a0)), (1, .inr (.inr a1))], [])) rfl ?_
                                  refine tm_cut (a := [(0, .inr (.inr a0))]) rfl (tm_sbs [0] rfl) ?_
                                  exact l224_102_t hr
                                · exact tm_callT rfl rfl (tm_callV rfl rfl c38 rfl rfl) (lq_223 m41) qz43 rfl
                              · rw [if_neg c38] at hr
                                cases hr
                            · exact tm_callT rfl rfl (tm_callV rfl rfl c32 rfl rfl) (lq_19 m35) qz45 rfl
                          · rw [if_neg c32] at hr
                            cases hr
                        · exact tm_callT rfl rfl (tm_callV rfl rfl c27 rfl rfl) (lq_223 m30) qz47 rfl
                      · rw [if_neg c27] at hr
                        cases hr
                  · exact tm_callT rfl rfl (tm_callV rfl rfl c21 rfl rfl) (lq_222 m24) qz50 rfl
                · rw [if_neg c21] at hr
                  cases hr
            · exact tm_callT rfl rfl (tm_callV rfl rfl c15 rfl rfl) (lq_222 m18) qz53 rfl
          · rw [if_neg c15] at hr
            cases hr
        · exact tm_callT rfl rfl (tm_callV rfl rfl c9 rfl rfl) (lq_19 m12) qz55 rfl
      · rw [if_neg c9] at hr
        cases hr
    · exact tm_callT rfl rfl (tm_callV rfl rfl c4 rfl rfl) (lq_46 m7) qz57 rfl
  · rw [if_neg c4] at hr
    cases hr
-- OfficeSheet$PartKind.isProduct()Z
set_option maxRecDepth 20000 in
def ll_226 (a0 : Option Nat) (h : pm_H) : tm_L := lb_A (tm_acm a0 (some 13)) (some (.inl (some (.inl (1 : Int32))), h)) (lb_A (tm_acm a0 (some 14)) (some (.inl (some (.inl (1 : Int32))), h)) (some (.inl (some (.inl (0 : Int32))), h)))
set_option maxRecDepth 20000 in
theorem lq_226 {w : Option Nat} {d : Nat} {a0 : Option Nat} {h : pm_H} {r : tm_O × pm_H} (hr : ll_226 a0 h = some r) : tm_run pt_P (pt_G (tm_r w)) (d + 0) 226 [.inr (.inr a0)] h r := by
  unfold ll_226 at hr
  show pm_to pt_P (pt_G (tm_r w)) (d + 0) (pt_g226, []) (tm_m (0, [(0, .inr (.inr a0))], [])) h (tm_e r)
  refine tm_n 2 (F' := (4, [(0, .inr (.inr a0))], [.inr (.inr (some 13)), .inr (.inr a0)])) rfl ?_
  rcases lb_A_s hr with ⟨c1, hr⟩ | ⟨c1, hr⟩
  · refine tm_aeT rfl c1 ?_
    refine tm_n 2 (F' := (19, [(0, .inr (.inr a0))], [.inl (1 : Int32)])) rfl ?_
    cases hr
    exact tm_retI rfl rfl
  · refine tm_aeF rfl c1 ?_
    refine tm_n 2 (F' := (11, [(0, .inr (.inr a0))], [.inr (.inr (some 14)), .inr (.inr a0)])) rfl ?_
    rcases lb_A_s hr with ⟨c2, hr⟩ | ⟨c2, hr⟩
    · refine tm_anF rfl c2 ?_
      refine tm_n 2 (F' := (19, [(0, .inr (.inr a0))], [.inl (1 : Int32)])) rfl ?_
      cases hr
      exact tm_retI rfl rfl
    · refine tm_anT rfl c2 ?_
      refine tm_n 1 (F' := (19, [(0, .inr (.inr a0))], [.inl (0 : Int32)])) rfl ?_
      cases hr
      exact tm_retI rfl rfl
-- OfficeSheet$PartKind.isSum()Z
set_option maxRecDepth 20000 in
def ll_228 (a0 : Option Nat) (h : pm_H) : tm_L := lb_A (tm_acm a0 (some 11)) (some (.inl (some (.inl (1 : Int32))), h)) (lb_A (tm_acm a0 (some 12)) (some (.inl (some (.inl (1 : Int32))), h)) (some (.inl (some (.inl (0 : Int32))), h)))
set_option maxRecDepth 20000 in
theorem lq_228 {w : Option Nat} {d : Nat} {a0 : Option Nat} {h : pm_H} {r : tm_O × pm_H} (hr : ll_228 a0 h = some r) : tm_run pt_P (pt_G (tm_r w)) (d + 0) 228 [.inr (.inr a0)] h r := by
  unfold ll_228 at hr
  show pm_to pt_P (pt_G (tm_r w)) (d + 0) (pt_g228, []) (tm_m (0, [(0, .inr (.inr a0))], [])) h (tm_e r)
  refine tm_n 2 (F' := (4, [(0, .inr (.inr a0))], [.inr (.inr (some 11)), .inr (.inr a0)])) rfl ?_
  rcases lb_A_s hr with ⟨c1, hr⟩ | ⟨c1, hr⟩
  · refine tm_aeT rfl c1 ?_
    refine tm_n 2 (F' := (19, [(0, .inr (.inr a0))], [.inl (1 : Int32)])) rfl ?_
    cases hr
    exact tm_retI rfl rfl
  · refine tm_aeF rfl c1 ?_
    refine tm_n 2 (F' := (11, [(0, .inr (.inr a0))], [.inr (.inr (some 12)), .inr (.inr a0)])) rfl ?_
    rcases lb_A_s hr with ⟨c2, hr⟩ | ⟨c2, hr⟩
    · refine tm_anF rfl c2 ?_
      refine tm_n 2 (F' := (19, [(0, .inr (.inr a0))], [.inl (1 : Int32)])) rfl ?_
      cases hr
      exact tm_retI rfl rfl
    · refine tm_anT rfl c2 ?_
      refine tm_n 1 (F' := (19, [(0, .inr (.inr a0))], [.inl (0 : Int32)])) rfl ?_
      cases hr
      exact tm_retI rfl rfl
-- OfficeSheet$Writer.isSum(LOfficeSheet$Part;)Z
set_option maxRecDepth 20000 in
def ll_227 (a0 : Option Nat) (h : pm_H) : tm_L := match a0 with | none => (some (.inl (some (.inl (0 : Int32))), h)) | some a1 => ((lf_R h (some a1) [9, 0]).bind fun v2 => if lc_of h v2 = some 19 then lb_I (ll_228 v2 h) (fun v4 h5 => if v4 = (0 : Int32) then some (.inl (some (.inl (0 : Int32))), h5) else some (.inl (some (.inl (1 : Int32))), h5)) else none)
set_option maxRecDepth 20000 in
theorem lq_227 {w : Option Nat} {d : Nat} {a0 : Option Nat} {h : pm_H} {r : tm_O × pm_H} (hr : ll_227 a0 h = some r) : tm_run pt_P (pt_G (tm_r w)) (d + 1) 227 [.inr (.inr a0)] h r := by
  unfold ll_227 at hr
  show pm_to pt_P (pt_G (tm_r w)) (d + 1) (pt_g227, []) (tm_m (0, [(0, .inr (.inr a0))], [])) h (tm_e r)
  refine tm_n 1 (F' := (1, [(0, .inr (.inr a0))], [.inr (.inr a0)])) rfl ?_
  cases a0 with
  | none =>
    try dsimp only at hr
    refine tm_nuT rfl ?_
    refine tm_n 1 (F' := (19, [(0, .inr (.inr none))], [.inl (0 : Int32)])) rfl ?_
    cases hr
    exact tm_retI rfl rfl
  | some a1 =>
    try dsimp only at hr
    refine tm_nuF rfl ?_
    refine tm_n 1 (F' := (5, [(0, .inr (.inr (some a1)))], [.inr (.inr (some a1))])) rfl ?_
    obtain ⟨v2, qv2, hr⟩ := Option.bind_eq_some_iff.mp hr
    refine tm_getf rfl (lf_R_V qv2) ?_
    by_cases c3 : lc_of h v2 = some 19
    · rw [if_pos c3] at hr
      rcases lb_I_s hr with ⟨v4, h5, m6, hr⟩ | ⟨a8, h5, z9, z9l, m6, qz9, rfl⟩
      · try dsimp only at hr
        refine tm_call rfl rfl (tm_callV rfl rfl c3 rfl rfl) (lq_228 m6) ?_
        by_cases c7 : v4 = (0 : Int32)
        · rw [if_pos c7] at hr
          refine tm_ifT rfl c7 ?_
          refine tm_n 1 (F' := (19, [(0, .inr (.inr (some a1)))], [.inl (0 : Int32)])) rfl ?_
          cases hr
          exact tm_retI rfl rfl
        · rw [if_neg c7] at hr
          refine tm_ifF rfl c7 ?_
          refine tm_n 2 (F' := (19, [(0, .inr (.inr (some a1)))], [.inl (1 : Int32)])) rfl ?_
          cases hr
          exact tm_retI rfl rfl
      · exact tm_callT rfl rfl (tm_callV rfl rfl c3 rfl rfl) (lq_228 m6) qz9 rfl
    · rw [if_neg c3] at hr
      cases hr
-- OfficeSheet$Writer.writeBracketed(LOfficeSheet$Part;ZI)V
set_option maxRecDepth 20000 in
def l229_14 (w : Option Nat) (X : Option Nat → Option Nat → Int32 → pm_H → tm_L) (x0 : Option Nat) (x1 : Option Nat) (x2 : Int32) (x3 : Int32) (h : pm_H) : tm_L := if lc_of h x0 = some 3 then lb_V (X x0 x1 x3 h) (fun h3 => if x2 = (0 : Int32) then some (.inl none, h3) else (lf_R h3 x0 [3, 0]).bind fun v5 => if lc_of h3 v5 = some 11 then lb_R (ll_19 w v5 (41 : Int32) h3) (fun v7 h8 => some (.inl none, h8)) else none) else none
set_option maxRecDepth 20000 in
theorem l229_14_t {w : Option Nat} {d : Nat} {X : Option Nat → Option Nat → Int32 → pm_H → tm_L} (hX : ∀ {b0 : Option Nat} {b1 : Option Nat} {b2 : Int32} {h : pm_H} {r : tm_O × pm_H}, X b0 b1 b2 h = some r → tm_run pt_P (pt_G (tm_r w)) (d + 20) 219 [.inr (.inr b0), .inr (.inr b1), .inl b2] h r) {x0 : Option Nat} {x1 : Option Nat} {x2 : Int32} {x3 : Int32} {h : pm_H} {r : tm_O × pm_H} (hr : l229_14 w X x0 x1 x2 x3 h = some r) : pm_to pt_P (pt_G (tm_r w)) (d + 21) (pt_g229, []) (tm_m (14, [(0, .inr (.inr x0)), (1, .inr (.inr x1)), (2, .inl x2), (3, .inl x3)], [])) h (tm_e r) := by
  unfold l229_14 at hr
  refine tm_n 3 (F' := (17, [(0, .inr (.inr x0)), (1, .inr (.inr x1)), (2, .inl x2), (3, .inl x3)], [.inl x3, .inr (.inr x1), .inr (.inr x0)])) rfl ?_
  by_cases c1 : lc_of h x0 = some 3
  · rw [if_pos c1] at hr
    rcases lb_V_s hr with ⟨h3, m4, hr⟩ | ⟨a13, h3, z14, z14l, m4, qz14, rfl⟩
    · try dsimp only at hr
      refine tm_call rfl rfl (tm_callV rfl rfl c1 rfl rfl) (tm_dp (by omega) <| hX m4) ?_
      refine tm_n 1 (F' := (21, [(0, .inr (.inr x0)), (1, .inr (.inr x1)), (2, .inl x2), (3, .inl x3)], [.inl x2])) rfl ?_
      by_cases c12 : x2 = (0 : Int32)
      · rw [if_pos c12] at hr
        refine tm_ifT rfl c12 ?_
        cases hr
        exact tm_retV rfl
      · rw [if_neg c12] at hr
        refine tm_ifF rfl c12 ?_
        refine tm_n 1 (F' := (25, [(0, .inr (.inr x0)), (1, .inr (.inr x1)), (2, .inl x2), (3, .inl x3)], [.inr (.inr x0)])) rfl ?_
        obtain ⟨v5, qv5, hr⟩ := Option.bind_eq_some_iff.mp hr
        refine tm_getf rfl (lf_R_V qv5) ?_
        refine tm_n 1 (F' := (30, [(0, .inr (.inr x0)), (1, .inr (.inr x1)), (2, .inl x2), (3, .inl x3)], [.inl (41 : Int32), .inr (.inr v5)])) rfl ?_
        by_cases c6 : lc_of h3 v5 = some 11
        · rw [if_pos c6] at hr
          rcases lb_R_s hr with ⟨v7, h8, m9, hr⟩ | ⟨a10, h8, z11, z11l, m9, qz11, rfl⟩
          · try dsimp only at hr
            refine tm_call rfl rfl (tm_callV rfl rfl c6 rfl rfl) (lq_19 m9) ?_
            refine tm_n 1 (F' := (34, [(0, .inr (.inr x0)), (1, .inr (.inr x1)), (2, .inl x2), (3, .inl x3)], [])) rfl ?_
            cases hr
            exact tm_retV rfl
          · exact tm_callT rfl rfl (tm_callV rfl rfl c6 rfl rfl) (lq_19 m9) qz11 rfl
        · rw [if_neg c6] at hr
          cases hr
    · exact tm_callT rfl rfl (tm_callV rfl rfl c1 rfl rfl) (tm_dp (by omega) <| hX m4) qz14 rfl
  · rw [if_neg c1] at hr
    cases hr
set_option maxRecDepth 20000 in
def ll_229 (w : Option Nat) (X : Option Nat → Option Nat → Int32 → pm_H → tm_L) (a0 : Option Nat) (a1 : Option Nat) (a2 : Int32) (a3 : Int32) (h : pm_H) : tm_L := if a2 = (0 : Int32) then l229_14 w X a0 a1 a2 a3 h else (lf_R h a0 [3, 0]).bind fun v1 => if lc_of h v1 = some 11 then lb_R (ll_19 w v1 (40 : Int32) h) (fun v3 h4 => l229_14 w X a0 a1 a2 a3 h4) else none
set_option maxRecDepth 20000 in
theorem lq_229 {w : Option Nat} {d : Nat} {X : Option Nat → Option Nat → Int32 → pm_H → tm_L} (hX : ∀ {b0 : Option Nat} {b1 : Option Nat} {b2 : Int32} {h : pm_H} {r : tm_O × pm_H}, X b0 b1 b2 h = some r → tm_run pt_P (pt_G (tm_r w)) (d + 20) 219 [.inr (.inr b0), .inr (.inr b1), .inl b2] h r) {a0 : Option Nat} {a1 : Option Nat} {a2 : Int32} {a3 : Int32} {h : pm_H} {r : tm_O × pm_H} (hr : ll_229 w X a0 a1 a2 a3 h = some r) : tm_run pt_P (pt_G (tm_r w)) (d + 21) 229 [.inr (.inr a0), .inr (.inr a1), .inl a2, .inl a3] h r := by
  unfold ll_229 at hr
  show pm_to pt_P (pt_G (tm_r w)) (d + 21) (pt_g229, []) (tm_m (0, [(0, .inr (.inr a0)), (1, .inr (.inr a1)), (2, .inl a2), (3, .inl a3)], [])) h (tm_e r)
  refine tm_n 1 (F' := (1, [(0, .inr (.inr a0)), (1, .inr (.inr a1)), (2, .inl a2), (3, .inl a3)], [.inl a2])) rfl ?_
  by_cases c8 : a2 = (0 : Int32)
  · rw [if_pos c8] at hr
    refine tm_ifT rfl c8 ?_
    refine tm_cut (a := [(0, .inr (.inr a0)), (1, .inr (.inr a1)), (2, .inl a2), (3, .inl a3)]) rfl (tm_sbs [0, 1, 2, 3] rfl) ?_
    exact l229_14_t hX hr
  · rw [if_neg c8] at hr
    refine tm_ifF rfl c8 ?_
    refine tm_n 1 (F' := (5, [(0, .inr (.inr a0)), (1, .inr (.inr a1)), (2, .inl a2), (3, .inl a3)], [.inr (.inr a0)])) rfl ?_
    obtain ⟨v1, qv1, hr⟩ := Option.bind_eq_some_iff.mp hr
    refine tm_getf rfl (lf_R_V qv1) ?_
    refine tm_n 1 (F' := (10, [(0, .inr (.inr a0)), (1, .inr (.inr a1)), (2, .inl a2), (3, .inl a3)], [.inl (40 : Int32), .inr (.inr v1)])) rfl ?_
    by_cases c2 : lc_of h v1 = some 11
    · rw [if_pos c2] at hr
      rcases lb_R_s hr with ⟨v3, h4, m5, hr⟩ | ⟨a6, h4, z7, z7l, m5, qz7, rfl⟩
      · try dsimp only at hr
        refine tm_call rfl rfl (tm_callV rfl rfl c2 rfl rfl) (lq_19 m5) ?_
        refine tm_n 1 (F' := (14, [(0, .inr (.inr a0)), (1, .inr (.inr a1)), (2, .inl a2), (3, .inl a3)], [])) rfl ?_
        refine tm_cut (a := [(0, .inr (.inr a0)), (1, .inr (.inr a1)), (2, .inl a2), (3, .inl a3)]) rfl (tm_sbs [0, 1, 2, 3] rfl) ?_
        exact l229_14_t hX hr
      · exact tm_callT rfl rfl (tm_callV rfl rfl c2 rfl rfl) (lq_19 m5) qz7 rfl
    · rw [if_neg c2] at hr
      cases hr
-- OfficeSheet$Writer.writeLeft(LOfficeSheet$Part;I)V
set_option maxRecDepth 20000 in
def l225_30 (w : Option Nat) (X : Option Nat → Option Nat → Int32 → pm_H → tm_L) (x2 : Int32) (s0 : Int32) (s1 : Option Nat) (s2 : Option Nat) (h : pm_H) : tm_L := if lc_of h s2 = some 3 then lb_V (ll_229 w X s2 s1 s0 (x2 + (1 : Int32)) h) (fun h3 => some (.inl none, h3)) else none
set_option maxRecDepth 20000 in
theorem l225_30_t {w : Option Nat} {d : Nat} {X : Option Nat → Option Nat → Int32 → pm_H → tm_L} (hX : ∀ {b0 : Option Nat} {b1 : Option Nat} {b2 : Int32} {h : pm_H} {r : tm_O × pm_H}, X b0 b1 b2 h = some r → tm_run pt_P (pt_G (tm_r w)) (d + 20) 219 [.inr (.inr b0), .inr (.inr b1), .inl b2] h r) {x2 : Int32} {s0 : Int32} {s1 : Option Nat} {s2 : Option Nat} {h : pm_H} {r : tm_O × pm_H} (hr : l225_30 w X x2 s0 s1 s2 h = some r) : pm_to pt_P (pt_G (tm_r w)) (d + 22) (pt_g225, []) (tm_m (30, [(2, .inl x2)], [.inl s0, .inr (.inr s1), .inr (.inr s2)])) h (tm_e r) := by
  unfold l225_30 at hr
  refine tm_n 3 (F' := (33, [(2, .inl x2)], [.inl (x2 + (1 : Int32)), .inl s0, .inr (.inr s1), .inr (.inr s2)])) rfl ?_
  by_cases c1 : lc_of h s2 = some 3
  · rw [if_pos c1] at hr
    rcases lb_V_s hr with ⟨h3, m4, hr⟩ | ⟨a5, h3, z6, z6l, m4, qz6, rfl⟩
    · try dsimp only at hr
      refine tm_call rfl rfl (tm_callV rfl rfl c1 rfl rfl) (lq_229 hX m4) ?_
      cases hr
      exact tm_retV rfl
    · exact tm_callT rfl rfl (tm_callV rfl rfl c1 rfl rfl) (lq_229 hX m4) qz6 rfl
  · rw [if_neg c1] at hr
    cases hr
set_option maxRecDepth 20000 in
def l225_29 (w : Option Nat) (X : Option Nat → Option Nat → Int32 → pm_H → tm_L) (x2 : Int32) (s0 : Option Nat) (s1 : Option Nat) (h : pm_H) : tm_L := l225_30 w X x2 (0 : Int32) s0 s1 h
set_option maxRecDepth 20000 in
theorem l225_29_t {w : Option Nat} {d : Nat} {X : Option Nat → Option Nat → Int32 → pm_H → tm_L} (hX : ∀ {b0 : Option Nat} {b1 : Option Nat} {b2 : Int32} {h : pm_H} {r : tm_O × pm_H}, X b0 b1 b2 h = some r → tm_run pt_P (pt_G (tm_r w)) (d + 20) 219 [.inr (.inr b0), .inr (.inr b1), .inl b2] h r) {x2 : Int32} {s0 : Option Nat} {s1 : Option Nat} {h : pm_H} {r : tm_O × pm_H} (hr : l225_29 w X x2 s0 s1 h = some r) : pm_to pt_P (pt_G (tm_r w)) (d + 22) (pt_g225, []) (tm_m (29, [(2, .inl x2)], [.inr (.inr s0), .inr (.inr s1)])) h (tm_e r) := by
  unfold l225_29 at hr
  refine tm_n 1 (F' := (30, [(2, .inl x2)], [.inl (0 : Int32), .inr (.inr s0), .inr (.inr s1)])) rfl ?_
  refine tm_cut (a := [(2, .inl x2)]) rfl (tm_sbs [0] rfl) ?_
  exact l225_30_t hX hr
set_option maxRecDepth 20000 in
def ll_225 (w : Option Nat) (X : Option Nat → Option Nat → Int32 → pm_H → tm_L) (a0 : Option Nat) (a1 : Option Nat) (a2 : Int32) (h : pm_H) : tm_L := (lf_R h a1 [9, 1]).bind fun v1 => (lf_R h a1 [9, 0]).bind fun v2 => if lc_of h v2 = some 19 then lb_I (ll_226 v2 h) (fun v4 h5 => if v4 = (0 : Int32) then l225_29 w X a2 v1 a0 h5 else (lf_R h5 a1 [9, 1]).bind fun v7 => lb_I (ll_227 v7 h5) (fun v8 h9 => if v8 = (0 : Int32) then l225_29 w X a2 v1 a0 h9 else l225_30 w X a2 (1 : Int32) v1 a0 h9)) else none
set_option maxRecDepth 20000 in
theorem lq_225 {w : Option Nat} {d : Nat} {X : Option Nat → Option Nat → Int32 → pm_H → tm_L} (hX : ∀ {b0 : Option Nat} {b1 : Option Nat} {b2 : Int32} {h : pm_H} {r : tm_O × pm_H}, X b0 b1 b2 h = some r → tm_run pt_P (pt_G (tm_r w)) (d + 20) 219 [.inr (.inr b0), .inr (.inr b1), .inl b2] h r) {a0 : Option Nat} {a1 : Option Nat} {a2 : Int32} {h : pm_H} {r : tm_O × pm_H} (hr : ll_225 w X a0 a1 a2 h = some r) : tm_run pt_P (pt_G (tm_r w)) (d + 22) 225 [.inr (.inr a0), .inr (.inr a1), .inl a2] h r := by
  unfold ll_225 at hr
  show pm_to pt_P (pt_G (tm_r w)) (d + 22) (pt_g225, []) (tm_m (0, [(0, .inr (.inr a0)), (1, .inr (.inr a1)), (2, .inl a2)], [])) h (tm_e r)
  refine tm_n 2 (F' := (2, [(0, .inr (.inr a0)), (1, .inr (.inr a1)), (2, .inl a2)], [.inr (.inr a1), .inr (.inr a0)])) rfl ?_
  obtain ⟨v1, qv1, hr⟩ := Option.bind_eq_some_iff.mp hr
  refine tm_getf rfl (lf_R_V qv1) ?_
  refine tm_n 1 (F' := (6, [(0, .inr (.inr a0)), (1, .inr (.inr a1)), (2, .inl a2)], [.inr (.inr a1), .inr (.inr v1), .inr (.inr a0)])) rfl ?_
  obtain ⟨v2, qv2, hr⟩ := Option.bind_eq_some_iff.mp hr
  refine tm_getf rfl (lf_R_V qv2) ?_
  by_cases c3 : lc_of h v2 = some 19
  · rw [if_pos c3] at hr
    rcases lb_I_s hr with ⟨v4, h5, m6, hr⟩ | ⟨a15, h5, z16, z16l, m6, qz16, rfl⟩
    · try dsimp only at hr
      refine tm_call rfl rfl (tm_callV rfl rfl c3 rfl rfl) (lq_226 m6) ?_
      by_cases c14 : v4 = (0 : Int32)
      · rw [if_pos c14] at hr
        refine tm_ifT rfl c14 ?_
        refine tm_cut (a := [(2, .inl a2)]) rfl (tm_sbs [2] rfl) ?_
        exact l225_29_t hX hr
      · rw [if_neg c14] at hr
        refine tm_ifF rfl c14 ?_
        refine tm_n 1 (F' := (16, [(0, .inr (.inr a0)), (1, .inr (.inr a1)), (2, .inl a2)], [.inr (.inr a1), .inr (.inr v1), .inr (.inr a0)])) rfl ?_
        obtain ⟨v7, qv7, hr⟩ := Option.bind_eq_some_iff.mp hr
        refine tm_getf rfl (lf_R_V qv7) ?_
        rcases lb_I_s hr with ⟨v8, h9, m10, hr⟩ | ⟨a12, h9, z13, z13l, m10, qz13, rfl⟩
        · try dsimp only at hr
          refine tm_call rfl rfl (tm_callS rfl rfl) (lq_227 m10) ?_
          by_cases c11 : v8 = (0 : Int32)
          · rw [if_pos c11] at hr
            refine tm_ifT rfl c11 ?_
            refine tm_cut (a := [(2, .inl a2)]) rfl (tm_sbs [2] rfl) ?_
            exact l225_29_t hX hr
          · rw [if_neg c11] at hr
            refine tm_ifF rfl c11 ?_
            refine tm_n 2 (F' := (30, [(0, .inr (.inr a0)), (1, .inr (.inr a1)), (2, .inl a2)], [.inl (1 : Int32), .inr (.inr v1), .inr (.inr a0)])) rfl ?_
            refine tm_cut (a := [(2, .inl a2)]) rfl (tm_sbs [2] rfl) ?_
            exact l225_30_t hX hr
        · exact tm_callT rfl rfl (tm_callS rfl rfl) (lq_227 m10) qz13 rfl
    · exact tm_callT rfl rfl (tm_callV rfl rfl c3 rfl rfl) (lq_226 m6) qz16 rfl
  · rw [if_neg c3] at hr
    cases hr
-- OfficeSheet$Writer.isProduct(LOfficeSheet$Part;)Z
set_option maxRecDepth 20000 in
def ll_231 (a0 : Option Nat) (h : pm_H) : tm_L := match a0 with | none => (some (.inl (some (.inl (0 : Int32))), h)) | some a1 => ((lf_R h (some a1) [9, 0]).bind fun v2 => if lc_of h v2 = some 19 then lb_I (ll_226 v2 h) (fun v4 h5 => if v4 = (0 : Int32) then some (.inl (some (.inl (0 : Int32))), h5) else some (.inl (some (.inl (1 : Int32))), h5)) else none)
set_option maxRecDepth 20000 in
theorem lq_231 {w : Option Nat} {d : Nat} {a0 : Option Nat} {h : pm_H} {r : tm_O × pm_H} (hr : ll_231 a0 h = some r) : tm_run pt_P (pt_G (tm_r w)) (d + 1) 231 [.inr (.inr a0)] h r := by
  unfold ll_231 at hr
  show pm_to pt_P (pt_G (tm_r w)) (d + 1) (pt_g231, []) (tm_m (0, [(0, .inr (.inr a0))], [])) h (tm_e r)
  refine tm_n 1 (F' := (1, [(0, .inr (.inr a0))], [.inr (.inr a0)])) rfl ?_
  cases a0 with
  | none =>
    try dsimp only at hr
    refine tm_nuT rfl ?_
    refine tm_n 1 (F' := (19, [(0, .inr (.inr none))], [.inl (0 : Int32)])) rfl ?_
    cases hr
    exact tm_retI rfl rfl
  | some a1 =>
    try dsimp only at hr
    refine tm_nuF rfl ?_
    refine tm_n 1 (F' := (5, [(0, .inr (.inr (some a1)))], [.inr (.inr (some a1))])) rfl ?_
    obtain ⟨v2, qv2, hr⟩ := Option.bind_eq_some_iff.mp hr
    refine tm_getf rfl (lf_R_V qv2) ?_
    by_cases c3 : lc_of h v2 = some 19
    · rw [if_pos c3] at hr
      rcases lb_I_s hr with ⟨v4, h5, m6, hr⟩ | ⟨a8, h5, z9, z9l, m6, qz9, rfl⟩
      · try dsimp only at hr
        refine tm_call rfl rfl (tm_callV rfl rfl c3 rfl rfl) (lq_226 m6) ?_
        by_cases c7 : v4 = (0 : Int32)
        · rw [if_pos c7] at hr
          refine tm_ifT rfl c7 ?_
          refine tm_n 1 (F' := (19, [(0, .inr (.inr (some a1)))], [.inl (0 : Int32)])) rfl ?_
          cases hr
          exact tm_retI rfl rfl
        · rw [if_neg c7] at hr
          refine tm_ifF rfl c7 ?_
          refine tm_n 2 (F' := (19, [(0, .inr (.inr (some a1)))], [.inl (1 : Int32)])) rfl ?_
          cases hr
          exact tm_retI rfl rfl
      · exact tm_callT rfl rfl (tm_callV rfl rfl c3 rfl rfl) (lq_226 m6) qz9 rfl
    · rw [if_neg c3] at hr
      cases hr
-- OfficeSheet$Writer.writeRight(LOfficeSheet$Part;I)V
set_option maxRecDepth 20000 in
def l230_55 (w : Option Nat) (X : Option Nat → Option Nat → Int32 → pm_H → tm_L) (x0 : Option Nat) (x1 : Option Nat) (x2 : Int32) (s0 : Int32) (h : pm_H) : tm_L := (lf_R h x1 [9, 2]).bind fun v1 => if lc_of h x0 = some 3 then lb_V (ll_229 w X x0 v1 s0 (x2 + (1 : Int32)) h) (fun h4 => some (.inl none, h4)) else none
set_option maxRecDepth 20000 in
theorem l230_55_t {w : Option Nat} {d : Nat} {X : Option Nat → Option Nat → Int32 → pm_H → tm_L} (hX : ∀ {b0 : Option Nat} {b1 : Option Nat} {b2 : Int32} {h : pm_H} {r : tm_O × pm_H}, X b0 b1 b2 h = some r → tm_run pt_P (pt_G (tm_r w)) (d + 20) 219 [.inr (.inr b0), .inr (.inr b1), .inl b2] h r) {x0 : Option Nat} {x1 : Option Nat} {x2 : Int32} {s0 : Int32} {h : pm_H} {r : tm_O × pm_H} (hr : l230_55 w X x0 x1 x2 s0 h = some r) : pm_to pt_P (pt_G (tm_r w)) (d + 22) (pt_g230, []) (tm_m (55, [(0, .inr (.inr x0)), (1, .inr (.inr x1)), (2, .inl x2)], [.inl s0])) h (tm_e r) := by
  unfold l230_55 at hr
  refine tm_n 3 (F' := (58, [(3, .inl s0), (0, .inr (.inr x0)), (1, .inr (.inr x1)), (2, .inl x2)], [.inr (.inr x1), .inr (.inr x0)])) rfl ?_
  obtain ⟨v1, qv1, hr⟩ := Option.bind_eq_some_iff.mp hr
  refine tm_getf rfl (lf_R_V qv1) ?_
  refine tm_n 4 (F' := (65, [(3, .inl s0), (0, .inr (.inr x0)), (1, .inr (.inr x1)), (2, .inl x2)], [.inl (x2 + (1 : Int32)), .inl s0, .inr (.inr v1), .inr (.inr x0)])) rfl ?_
  by_cases c2 : lc_of h x0 = some 3
  · rw [if_pos c2] at hr
    rcases lb_V_s hr with ⟨h4, m5, hr⟩ | ⟨a6, h4, z7, z7l, m5, qz7, rfl⟩
    · try dsimp only at hr
      refine tm_call rfl rfl (tm_callV rfl rfl c2 rfl rfl) (lq_229 hX m5) ?_
      cases hr
      exact tm_retV rfl
    · exact tm_callT rfl rfl (tm_callV rfl rfl c2 rfl rfl) (lq_229 hX m5) qz7 rfl
  · rw [if_neg c2] at hr
    cases hr
set_option maxRecDepth 20000 in
def l230_54 (w : Option Nat) (X : Option Nat → Option Nat → Int32 → pm_H → tm_L) (x0 : Option Nat) (x1 : Option Nat) (x2 : Int32) (h : pm_H) : tm_L := l230_55 w X x0 x1 x2 (0 : Int32) h
set_option maxRecDepth 20000 in
theorem l230_54_t {w : Option Nat} {d : Nat} {X : Option Nat → Option Nat → Int32 → pm_H → tm_L} (hX : ∀ {b0 : Option Nat} {b1 : Option Nat} {b2 : Int32} {h : pm_H} {r : tm_O × pm_H}, X b0 b1 b2 h = some r → tm_run pt_P (pt_G (tm_r w)) (d + 20) 219 [.inr (.inr b0), .inr (.inr b1), .inl b2] h r) {x0 : Option Nat} {x1 : Option Nat} {x2 : Int32} {h : pm_H} {r : tm_O × pm_H} (hr : l230_54 w X x0 x1 x2 h = some r) : pm_to pt_P (pt_G (tm_r w)) (d + 22) (pt_g230, []) (tm_m (54, [(0, .inr (.inr x0)), (1, .inr (.inr x1)), (2, .inl x2)], [])) h (tm_e r) := by
  unfold l230_54 at hr
  refine tm_n 1 (F' := (55, [(0, .inr (.inr x0)), (1, .inr (.inr x1)), (2, .inl x2)], [.inl (0 : Int32)])) rfl ?_
  refine tm_cut (a := [(0, .inr (.inr x0)), (1, .inr (.inr x1)), (2, .inl x2)]) rfl (tm_sbs [0, 1, 2] rfl) ?_
  exact l230_55_t hX hr
set_option maxRecDepth 20000 in
def l230_50 (w : Option Nat) (X : Option Nat → Option Nat → Int32 → pm_H → tm_L) (x0 : Option Nat) (x1 : Option Nat) (x2 : Int32) (h : pm_H) : tm_L := l230_55 w X x0 x1 x2 (1 : Int32) h
set_option maxRecDepth 20000 in
theorem l230_50_t {w : Option Nat} {d : Nat} {X : Option Nat → Option Nat → Int32 → pm_H → tm_L} (hX : ∀ {b0 : Option Nat} {b1 : Option Nat} {b2 : Int32} {h : pm_H} {r : tm_O × pm_H}, X b0 b1 b2 h = some r → tm_run pt_P (pt_G (tm_r w)) (d + 20) 219 [.inr (.inr b0), .inr (.inr b1), .inl b2] h r) {x0 : Option Nat} {x1 : Option Nat} {x2 : Int32} {h : pm_H} {r : tm_O × pm_H} (hr : l230_50 w X x0 x1 x2 h = some r) : pm_to pt_P (pt_G (tm_r w)) (d + 22) (pt_g230, []) (tm_m (50, [(0, .inr (.inr x0)), (1, .inr (.inr x1)), (2, .inl x2)], [])) h (tm_e r) := by
  unfold l230_50 at hr
  refine tm_n 2 (F' := (55, [(0, .inr (.inr x0)), (1, .inr (.inr x1)), (2, .inl x2)], [.inl (1 : Int32)])) rfl ?_
  refine tm_cut (a := [(0, .inr (.inr x0)), (1, .inr (.inr x1)), (2, .inl x2)]) rfl (tm_sbs [0, 1, 2] rfl) ?_
  exact l230_55_t hX hr
set_option maxRecDepth 20000 in
def l230_20 (w : Option Nat) (X : Option Nat → Option Nat → Int32 → pm_H → tm_L) (x0 : Option Nat) (x1 : Option Nat) (x2 : Int32) (h : pm_H) : tm_L := (lf_R h x1 [9, 2]).bind fun v1 => lb_I (ll_231 v1 h) (fun v2 h3 => if v2 = (0 : Int32) then l230_54 w X x0 x1 x2 h3 else (lf_R h3 x1 [9, 0]).bind fun v5 => if lc_of h3 v5 = some 19 then lb_I (ll_226 v5 h3) (fun v7 h8 => if v7 = (0 : Int32) then (lf_R h8 x1 [9, 0]).bind fun v10 => lb_A (tm_acm v10 (some 10)) (l230_50 w X x0 x1 x2 h8) (l230_54 w X x0 x1 x2 h8) else l230_50 w X x0 x1 x2 h8) else none)
set_option maxRecDepth 20000 in
theorem l230_20_t {w : Option Nat} {d : Nat} {X : Option Nat → Option Nat → Int32 → pm_H → tm_L} (hX : ∀ {b0 : Option Nat} {b1 : Option Nat} {b2 : Int32} {h : pm_H} {r : tm_O × pm_H}, X b0 b1 b2 h = some r → tm_run pt_P (pt_G (tm_r w)) (d + 20) 219 [.inr (.inr b0), .inr (.inr b1), .inl b2] h r) {x0 : Option Nat} {x1 : Option Nat} {x2 : Int32} {h : pm_H} {r : tm_O × pm_H} (hr : l230_20 w X x0 x1 x2 h = some r) : pm_to pt_P (pt_G (tm_r w)) (d + 22) (pt_g230, []) (tm_m (20, [(0, .inr (.inr x0)), (1, .inr (.inr x1)), (2, .inl x2)], [])) h (tm_e r) := by
  unfold l230_20 at hr
  refine tm_n 1 (F' := (21, [(0, .inr (.inr x0)), (1, .inr (.inr x1)), (2, .inl x2)], [.inr (.inr x1)])) rfl ?_
  obtain ⟨v1, qv1, hr⟩ := Option.bind_eq_some_iff.mp hr
  refine tm_getf rfl (lf_R_V qv1) ?_
  rcases lb_I_s hr with ⟨v2, h3, m4, hr⟩ | ⟨a16, h3, z17, z17l, m4, qz17, rfl⟩
  · try dsimp only at hr
    refine tm_call rfl rfl (tm_callS rfl rfl) (lq_231 m4) ?_
    by_cases c15 : v2 = (0 : Int32)
    · rw [if_pos c15] at hr
      refine tm_ifT rfl c15 ?_
      refine tm_cut (a := [(0, .inr (.inr x0)), (1, .inr (.inr x1)), (2, .inl x2)]) rfl (tm_sbs [0, 1, 2] rfl) ?_
      exact l230_54_t hX hr
    · rw [if_neg c15] at hr
      refine tm_ifF rfl c15 ?_
      refine tm_n 1 (F' := (31, [(0, .inr (.inr x0)), (1, .inr (.inr x1)), (2, .inl x2)], [.inr (.inr x1)])) rfl ?_
      obtain ⟨v5, qv5, hr⟩ := Option.bind_eq_some_iff.mp hr
      refine tm_getf rfl (lf_R_V qv5) ?_
      by_cases c6 : lc_of h3 v5 = some 19
      · rw [if_pos c6] at hr
        rcases lb_I_s hr with ⟨v7, h8, m9, hr⟩ | ⟨a13, h8, z14, z14l, m9, qz14, rfl⟩
        · try dsimp only at hr
          refine tm_call rfl rfl (tm_callV rfl rfl c6 rfl rfl) (lq_226 m9) ?_
          by_cases c12 : v7 = (0 : Int32)
          · rw [if_pos c12] at hr
            refine tm_ifF rfl (fun q => q c12) ?_
            refine tm_n 1 (F' := (41, [(0, .inr (.inr x0)), (1, .inr (.inr x1)), (2, .inl x2)], [.inr (.inr x1)])) rfl ?_
            obtain ⟨v10, qv10, hr⟩ := Option.bind_eq_some_iff.mp hr
            refine tm_getf rfl (lf_R_V qv10) ?_
            refine tm_n 1 (F' := (47, [(0, .inr (.inr x0)), (1, .inr (.inr x1)), (2, .inl x2)], [.inr (.inr (some 10)), .inr (.inr v10)])) rfl ?_
            rcases lb_A_s hr with ⟨c11, hr⟩ | ⟨c11, hr⟩
            · refine tm_anF rfl c11 ?_
              refine tm_cut (a := [(0, .inr (.inr x0)), (1, .inr (.inr x1)), (2, .inl x2)]) rfl (tm_sbs [0, 1, 2] rfl) ?_
              exact l230_50_t hX hr
            · refine tm_anT rfl c11 ?_
              refine tm_cut (a := [(0, .inr (.inr x0)), (1, .inr (.inr x1)), (2, .inl x2)]) rfl (tm_sbs [0, 1, 2] rfl) ?_
              exact l230_54_t hX hr
          · rw [if_neg c12] at hr
            refine tm_ifT rfl c12 ?_
            refine tm_cut (a := [(0, .inr (.inr x0)), (1, .inr (.inr x1)), (2, .inl x2)]) rfl (tm_sbs [0, 1, 2] rfl) ?_
            exact l230_50_t hX hr
        · exact tm_callT rfl rfl (tm_callV rfl rfl c6 rfl rfl) (lq_226 m9) qz14 rfl
      · rw [if_neg c6] at hr
        cases hr
  · exact tm_callT rfl rfl (tm_callS rfl rfl) (lq_231 m4) qz17 rfl
set_option maxRecDepth 20000 in
def ll_230 (w : Option Nat) (X : Option Nat → Option Nat → Int32 → pm_H → tm_L) (a0 : Option Nat) (a1 : Option Nat) (a2 : Int32) (h : pm_H) : tm_L := (lf_R h a1 [9, 2]).bind fun v1 => lb_I (ll_227 v1 h) (fun v2 h3 => if v2 = (0 : Int32) then l230_20 w X a0 a1 a2 h3 else (lf_R h3 a1 [9, 0]).bind fun v5 => lb_A (tm_acm v5 (some 7)) (l230_20 w X a0 a1 a2 h3) (l230_50 w X a0 a1 a2 h3))
set_option maxRecDepth 20000 in
theorem lq_230 {w : Option Nat} {d : Nat} {X : Option Nat → Option Nat → Int32 → pm_H → tm_L} (hX : ∀ {b0 : Option Nat} {b1 : Option Nat} {b2 : Int32} {h : pm_H} {r : tm_O × pm_H}, X b0 b1 b2 h = some r → tm_run pt_P (pt_G (tm_r w)) (d + 20) 219 [.inr (.inr b0), .inr (.inr b1), .inl b2] h r) {a0 : Option Nat} {a1 : Option Nat} {a2 : Int32} {h : pm_H} {r : tm_O × pm_H} (hr : ll_230 w X a0 a1 a2 h = some r) : tm_run pt_P (pt_G (tm_r w)) (d + 22) 230 [.inr (.inr a0), .inr (.inr a1), .inl a2] h r := by
  unfold ll_230 at hr
  show pm_to pt_P (pt_G (tm_r w)) (d + 22) (pt_g230, []) (tm_m (0, [(0, .inr (.inr a0)), (1, .inr (.inr a1)), (2, .inl a2)], [])) h (tm_e r)
  refine tm_n 1 (F' := (1, [(0, .inr (.inr a0)), (1, .inr (.inr a1)), (2, .inl a2)], [.inr (.inr a1)])) rfl ?_
  obtain ⟨v1, qv1, hr⟩ := Option.bind_eq_some_iff.mp hr
  refine tm_getf rfl (lf_R_V qv1) ?_
  rcases lb_I_s hr with ⟨v2, h3, m4, hr⟩ | ⟨a8, h3, z9, z9l, m4, qz9, rfl⟩
  · try dsimp only at hr
    refine tm_call rfl rfl (tm_callS rfl rfl) (lq_227 m4) ?_
    by_cases c7 : v2 = (0 : Int32)
    · rw [if_pos c7] at hr
      refine tm_ifT rfl c7 ?_
      refine tm_cut (a := [(0, .inr (.inr a0)), (1, .inr (.inr a1)), (2, .inl a2)]) rfl (tm_sbs [0, 1, 2] rfl) ?_
      exact l230_20_t hX hr
    · rw [if_neg c7] at hr
      refine tm_ifF rfl c7 ?_
      refine tm_n 1 (F' := (11, [(0, .inr (.inr a0)), (1, .inr (.inr a1)), (2, .inl a2)], [.inr (.inr a1)])) rfl ?_
      obtain ⟨v5, qv5, hr⟩ := Option.bind_eq_some_iff.mp hr
      refine tm_getf rfl (lf_R_V qv5) ?_
      refine tm_n 1 (F' := (17, [(0, .inr (.inr a0)), (1, .inr (.inr a1)), (2, .inl a2)], [.inr (.inr (some 7)), .inr (.inr v5)])) rfl ?_
      rcases lb_A_s hr with ⟨c6, hr⟩ | ⟨c6, hr⟩
      · refine tm_anF rfl c6 ?_
        refine tm_cut (a := [(0, .inr (.inr a0)), (1, .inr (.inr a1)), (2, .inl a2)]) rfl (tm_sbs [0, 1, 2] rfl) ?_
        exact l230_20_t hX hr
      · refine tm_anT rfl c6 ?_
        refine tm_cut (a := [(0, .inr (.inr a0)), (1, .inr (.inr a1)), (2, .inl a2)]) rfl (tm_sbs [0, 1, 2] rfl) ?_
        exact l230_50_t hX hr
  · exact tm_callT rfl rfl (tm_callS rfl rfl) (lq_227 m4) qz9 rfl
-- OfficeSheet$Writer.writePart(LOfficeSheet$Part;I)V
set_option maxRecDepth 20000 in
def lm_219 (w : Option Nat) (X : Option Nat → Option Nat → Int32 → pm_H → tm_L) (a0 : Option Nat) (a1 : Option Nat) (a2 : Int32) (h : pm_H) : tm_L := match a1 with | none => (some (.inl none, h)) | some a1 => (if a2 ≤ (22 : Int32) then (lf_R h (some a1) [9, 0]).bind fun v2 => if lc_of h v2 = some 19 then lb_I (ll_166 v2 h) (fun v4 h5 => (la_I h5 .iaload (some 19) v4).bind fun v7 => if v7 = (2 : Int32) then (lf_J h5 (some a1) [9, 3]).bind fun v9 => if lc_of h5 a0 = some 3 then lb_V (ll_220 w a0 v9 h5) (fun h12 => some (.inl none, h12)) else none else if v7 = (3 : Int32) then if lc_of h5 a0 = some 3 then lb_V (ll_221 w a0 (some a1) h5) (fun h19 => some (.inl none, h19)) else none else if v7 = (4 : Int32) then if lc_of h5 a0 = some 3 then lb_V (ll_225 w X a0 (some a1) a2 h5) (fun h26 => (lf_R h26 a0 [3, 0]).bind fun v28 => (lf_R h26 (some a1) [9, 0]).bind fun v29 => (lf_R h26 v29 [19, 1]).bind fun v30 => if lc_of h26 v28 = some 11 then lb_R (ll_46 w v28 v30 h26) (fun v32 h33 => if lc_of h33 a0 = some 3 then lb_V (ll_230 w X a0 (some a1) a2 h33) (fun h37 => some (.inl none, h37)) else none) else none) else none else if v7 = (5 : Int32) then if lc_of h5 a0 = some 3 then lb_V (ll_224 w a0 (some a1) h5) (fun h48 => some (.inl none, h48)) else none else if v7 = (6 : Int32) then if lc_of h5 a0 = some 3 then lb_V (ll_224 w a0 (some a1) h5) (fun h55 => some (.inl none, h55)) else none else if v7 = (7 : Int32) then if lc_of h5 a0 = some 3 then lb_V (ll_224 w a0 (some a1) h5) (fun h62 => some (.inl none, h62)) else none else if lc_of h5 a0 = some 3 then lb_V (ll_225 w X a0 (some a1) a2 h5) (fun h68 => (lf_R h68 a0 [3, 0]).bind fun v70 => (lf_R h68 (some a1) [9, 0]).bind fun v71 => (lf_R h68 v71 [19, 1]).bind fun v72 => if lc_of h68 v70 = some 11 then lb_R (ll_46 w v70 v72 h68) (fun v74 h75 => if lc_of h75 a0 = some 3 then lb_V (ll_230 w X a0 (some a1) a2 h75) (fun h79 => some (.inl none, h79)) else none) else none) else none) else none else some (.inl none, h))
set_option maxRecDepth 20000 in
theorem lmt_219 {w : Option Nat} {d : Nat} {X : Option Nat → Option Nat → Int32 → pm_H → tm_L} (hX : ∀ {b0 : Option Nat} {b1 : Option Nat} {b2 : Int32} {h : pm_H} {r : tm_O × pm_H}, X b0 b1 b2 h = some r → tm_run pt_P (pt_G (tm_r w)) (d + 20) 219 [.inr (.inr b0), .inr (.inr b1), .inl b2] h r) {a0 : Option Nat} {a1 : Option Nat} {a2 : Int32} {h : pm_H} {r : tm_O × pm_H} (hr : lm_219 w X a0 a1 a2 h = some r) : tm_run pt_P (pt_G (tm_r w)) (d + 23) 219 [.inr (.inr a0), .inr (.inr a1), .inl a2] h r := by
  unfold lm_219 at hr
  show pm_to pt_P (pt_G (tm_r w)) (d + 23) (pt_g219, []) (tm_m (0, [(0, .inr (.inr a0)), (1, .inr (.inr a1)), (2, .inl a2)], [])) h (tm_e r)
  refine tm_n 1 (F' := (1, [(0, .inr (.inr a0)), (1, .inr (.inr a1)), (2, .inl a2)], [.inr (.inr a1)])) rfl ?_
  cases a1 with
  | none =>
    try dsimp only at hr
    refine tm_nuT rfl ?_
    cases hr
    exact tm_retV rfl
  | some a1 =>
    try dsimp only at hr
    refine tm_nuF rfl ?_
    refine tm_n 2 (F' := (7, [(0, .inr (.inr a0)), (1, .inr (.inr (some a1))), (2, .inl a2)], [.inl (22 : Int32), .inl a2])) rfl ?_
    by_cases c89 : a2 ≤ (22 : Int32)
    · rw [if_pos c89] at hr
      refine tm_icT rfl c89 ?_
      refine tm_n 2 (F' := (15, [(0, .inr (.inr a0)), (1, .inr (.inr (some a1))), (2, .inl a2)], [.inr (.inr (some a1)), .inr (.inr (some 19))])) rfl ?_
      obtain ⟨v2, qv2, hr⟩ := Option.bind_eq_some_iff.mp hr
      refine tm_getf rfl (lf_R_V qv2) ?_
      by_cases c3 : lc_of h v2 = some 19
      · rw [if_pos c3] at hr
        rcases lb_I_s hr with ⟨v4, h5, m6, hr⟩ | ⟨a87, h5, z88, z88l, m6, qz88, rfl⟩
        · try dsimp only at hr
          refine tm_call rfl rfl (tm_callV rfl rfl c3 rfl rfl) (lq_166 m6) ?_
          obtain ⟨v7, qv7, hr⟩ := Option.bind_eq_some_iff.mp hr
          refine tm_ald rfl rfl (la_I_V qv7) ?_
          by_cases c8 : v7 = (2 : Int32)
          · rw [if_pos c8] at hr
            refine tm_swt (t := 60) rfl (by simp only [pm_sw, if_pos c8]) ?_
            refine tm_n 2 (F' := (62, [(0, .inr (.inr a0)), (1, .inr (.inr (some a1))), (2, .inl a2)], [.inr (.inr (some a1)), .inr (.inr a0)])) rfl ?_
            obtain ⟨v9, qv9, hr⟩ := Option.bind_eq_some_iff.mp hr
            refine tm_getf rfl (lf_J_V qv9) ?_
            by_cases c10 : lc_of h5 a0 = some 3
            · rw [if_pos c10] at hr
              rcases lb_V_s hr with ⟨h12, m13, hr⟩ | ⟨a14, h12, z15, z15l, m13, qz15, rfl⟩
              · try dsimp only at hr
                refine tm_call rfl rfl (tm_callV rfl rfl c10 rfl rfl) (lq_220 m13) ?_
                refine tm_n 1 (F' := (114, [(0, .inr (.inr a0)), (1, .inr (.inr (some a1))), (2, .inl a2)], [])) rfl ?_
                cases hr
                exact tm_retV rfl
              · exact tm_callT rfl rfl (tm_callV rfl rfl c10 rfl rfl) (lq_220 m13) qz15 rfl
            · rw [if_neg c10] at hr
              cases hr
          · rw [if_neg c8] at hr
            by_cases c16 : v7 = (3 : Int32)
            · rw [if_pos c16] at hr
              refine tm_swt (t := 71) rfl (by simp only [pm_sw, if_neg c8, if_pos c16]) ?_
              refine tm_n 2 (F' := (73, [(0, .inr (.inr a0)), (1, .inr (.inr (some a1))), (2, .inl a2)], [.inr (.inr (some a1)), .inr (.inr a0)])) rfl ?_
              by_cases c17 : lc_of h5 a0 = some 3
              · rw [if_pos c17] at hr
                rcases lb_V_s hr with ⟨h19, m20, hr⟩ | ⟨a21, h19, z22, z22l, m20, qz22, rfl⟩
                · try dsimp only at hr
                  refine tm_call rfl rfl (tm_callV rfl rfl c17 rfl rfl) (lq_221 m20) ?_
                  refine tm_n 1 (F' := (114, [(0, .inr (.inr a0)), (1, .inr (.inr (some a1))), (2, .inl a2)], [])) rfl ?_
                  cases hr
                  exact tm_retV rfl
                · exact tm_callT rfl rfl (tm_callV rfl rfl c17 rfl rfl) (lq_221 m20) qz22 rfl
              · rw [if_neg c17] at hr
                cases hr
            · rw [if_neg c16] at hr
              by_cases c23 : v7 = (4 : Int32)
              · rw [if_pos c23] at hr
                refine tm_swt (t := 87) rfl (by simp only [pm_sw, if_neg c8, if_neg c16, if_pos c23]) ?_
                refine tm_n 3 (F' := (90, [(0, .inr (.inr a0)), (1, .inr (.inr (some a1))), (2, .inl a2)], [.inl a2, .inr (.inr (some a1)), .inr (.inr a0)])) rfl ?_
                by_cases c24 : lc_of h5 a0 = some 3
                · rw [if_pos c24] at hr
                  rcases lb_V_s hr with ⟨h26, m27, hr⟩ | ⟨a43, h26, z44, z44l, m27, qz44, rfl⟩
                  · try dsimp only at hr
                    refine tm_call rfl rfl (tm_callV rfl rfl c24 rfl rfl) (lq_225 hX m27) ?_
                    refine tm_n 1 (F' := (94, [(0, .inr (.inr a0)), (1, .inr (.inr (some a1))), (2, .inl a2)], [.inr (.inr a0)])) rfl ?_
                    obtain ⟨v28, qv28, hr⟩ := Option.bind_eq_some_iff.mp hr
                    refine tm_getf rfl (lf_R_V qv28) ?_
                    refine tm_n 1 (F' := (98, [(0, .inr (.inr a0)), (1, .inr (.inr (some a1))), (2, .inl a2)], [.inr (.inr (some a1)), .inr (.inr v28)])) rfl ?_
                    obtain ⟨v29, qv29, hr⟩ := Option.bind_eq_some_iff.mp hr
                    refine tm_getf rfl (lf_R_V qv29) ?_
                    obtain ⟨v30, qv30, hr⟩ := Option.bind_eq_some_iff.mp hr
                    refine tm_getf rfl (lf_R_V qv30) ?_
                    by_cases c31 : lc_of h26 v28 = some 11
                    · rw [if_pos c31] at hr
                      rcases lb_R_s hr with ⟨v32, h33, m34, hr⟩ | ⟨a41, h33, z42, z42l, m34, qz42, rfl⟩
                      · try dsimp only at hr
                        refine tm_call rfl rfl (tm_callV rfl rfl c31 rfl rfl) (lq_46 m34) ?_
                        refine tm_n 4 (F' := (111, [(0, .inr (.inr a0)), (1, .inr (.inr (some a1))), (2, .inl a2)], [.inl a2, .inr (.inr (some a1)), .inr (.inr a0)])) rfl ?_
                        by_cases c35 : lc_of h33 a0 = some 3
                        · rw [if_pos c35] at hr
                          rcases lb_V_s hr with ⟨h37, m38, hr⟩ | ⟨a39, h37, z40, z40l, m38, qz40, rfl⟩
                          · try dsimp only at hr
                            refine tm_call rfl rfl (tm_callV rfl rfl c35 rfl rfl) (lq_230 hX m38) ?_
                            cases hr
                            exact tm_retV rfl
                          · exact tm_callT rfl rfl (tm_callV rfl rfl c35 rfl rfl) (lq_230 hX m38) qz40 rfl
                        · rw [if_neg c35] at hr
                          cases hr
                      · exact tm_callT rfl rfl (tm_callV rfl rfl c31 rfl rfl) (lq_46 m34) qz42 rfl
                    · rw [if_neg c31] at hr
                      cases hr
                  · exact tm_callT rfl rfl (tm_callV rfl rfl c24 rfl rfl) (lq_225 hX m27) qz44 rfl
                · rw [if_neg c24] at hr
                  cases hr
              · rw [if_neg c23] at hr
                by_cases c45 : v7 = (5 : Int32)
                · rw [if_pos c45] at hr
                  refine tm_swt (t := 79) rfl (by simp only [pm_sw, if_neg c8, if_neg c16, if_neg c23, if_pos c45]) ?_
                  refine tm_n 2 (F' := (81, [(0, .inr (.inr a0)), (1, .inr (.inr (some a1))), (2, .inl a2)], [.inr (.inr (some a1)), .inr (.inr a0)])) rfl ?_
                  by_cases c46 : lc_of h5 a0 = some 3
                  · rw [if_pos c46] at hr
                    rcases lb_V_s hr with ⟨h48, m49, hr⟩ | ⟨a50, h48, z51, z51l, m49, qz51, rfl⟩
                    · try dsimp only at hr
                      refine tm_call rfl rfl (tm_callV rfl rfl c46 rfl rfl) (lq_224 m49) ?_
                      refine tm_n 1 (F' := (114, [(0, .inr (.inr a0)), (1, .inr (.inr (some a1))), (2, .inl a2)], [])) rfl ?_
                      cases hr
                      exact tm_retV rfl
                    · exact tm_callT rfl rfl (tm_callV rfl rfl c46 rfl rfl) (lq_224 m49) qz51 rfl
                  · rw [if_neg c46] at hr
                    cases hr
                · rw [if_neg c45] at hr
                  by_cases c52 : v7 = (6 : Int32)
                  · rw [if_pos c52] at hr
                    refine tm_swt (t := 79) rfl (by simp only [pm_sw, if_neg c8, if_neg c16, if_neg c23, if_neg c45, if_pos c52]) ?_
                    refine tm_n 2 (F' := (81, [(0, .inr (.inr a0)), (1, .inr (.inr (some a1))), (2, .inl a2)], [.inr (.inr (some a1)), .inr (.inr a0)])) rfl ?_
                    by_cases c53 : lc_of h5 a0 = some 3
                    · rw [if_pos c53] at hr
                      rcases lb_V_s hr with ⟨h55, m56, hr⟩ | ⟨a57, h55, z58, z58l, m56, qz58, rfl⟩
                      · try dsimp only at hr
                        refine tm_call rfl rfl (tm_callV rfl rfl c53 rfl rfl) (lq_224 m56) ?_
                        refine tm_n 1 (F' := (114, [(0, .inr (.inr a0)), (1, .inr (.inr (some a1))), (2, .inl a2)], [])) rfl ?_
                        cases hr
                        exact tm_retV rfl
                      · exact tm_callT rfl rfl (tm_callV rfl rfl c53 rfl rfl) (lq_224 m56) qz58 rfl
                    · rw [if_neg c53] at hr
                      cases hr
                  · rw [if_neg c52] at hr
                    by_cases c59 : v7 = (7 : Int32)
                    · rw [if_pos c59] at hr
                      refine tm_swt (t := 79) rfl (by simp only [pm_sw, if_neg c8, if_neg c16, if_neg c23, if_neg c45, if_neg c52, if_pos c59]) ?_
                      refine tm_n 2 (F' := (81, [(0, .inr (.inr a0)), (1, .inr (.inr (some a1))), (2, .inl a2)], [.inr (.inr (some a1)), .inr (.inr a0)])) rfl ?_
                      by_cases c60 : lc_of h5 a0 = some 3
                      · rw [if_pos c60] at hr
                        rcases lb_V_s hr with ⟨h62, m63, hr⟩ | ⟨a64, h62, z65, z65l, m63, qz65, rfl⟩
                        · try dsimp only at hr
                          refine tm_call rfl rfl (tm_callV rfl rfl c60 rfl rfl) (lq_224 m63) ?_
                          refine tm_n 1 (F' := (114, [(0, .inr (.inr a0)), (1, .inr (.inr (some a1))), (2, .inl a2)], [])) rfl ?_
                          cases hr
                          exact tm_retV rfl
                        · exact tm_callT rfl rfl (tm_callV rfl rfl c60 rfl rfl) (lq_224 m63) qz65 rfl
                      · rw [if_neg c60] at hr
                        cases hr
                    · rw [if_neg c59] at hr
                      refine tm_swt (t := 87) rfl (by simp only [pm_sw, if_neg c8, if_neg c16, if_neg c23, if_neg c45, if_neg c52, if_neg c59]) ?_
                      refine tm_n 3 (F' := (90, [(0, .inr (.inr a0)), (1, .inr (.inr (some a1))), (2, .inl a2)], [.inl a2, .inr (.inr (some a1)), .inr (.inr a0)])) rfl ?_
                      by_cases c66 : lc_of h5 a0 = some 3
                      · rw [if_pos c66] at hr
                        rcases lb_V_s hr with ⟨h68, m69, hr⟩ | ⟨a85, h68, z86, z86l, m69, qz86, rfl⟩
                        · try dsimp only at hr
                          refine tm_call rfl rfl (tm_callV rfl rfl c66 rfl rfl) (lq_225 hX m69) ?_
                          refine tm_n 1 (F' := (94, [(0, .inr (.inr a0)), (1, .inr (.inr (some a1))), (2, .inl a2)], [.inr (.inr a0)])) rfl ?_
                          obtain ⟨v70, qv70, hr⟩ := Option.bind_eq_some_iff.mp hr
                          refine tm_getf rfl (lf_R_V qv70) ?_
                          refine tm_n 1 (F' := (98, [(0, .inr (.inr a0)), (1, .inr (.inr (some a1))), (2, .inl a2)], [.inr (.inr (some a1)), .inr (.inr v70)])) rfl ?_
                          obtain ⟨v71, qv71, hr⟩ := Option.bind_eq_some_iff.mp hr
                          refine tm_getf rfl (lf_R_V qv71) ?_
                          obtain ⟨v72, qv72, hr⟩ := Option.bind_eq_some_iff.mp hr
                          refine tm_getf rfl (lf_R_V qv72) ?_
                          by_cases c73 : lc_of h68 v70 = some 11
                          · rw [if_pos c73] at hr
                            rcases lb_R_s hr with ⟨v74, h75, m76, hr⟩ | ⟨a83, h75, z84, z84l, m76, qz84, rfl⟩
                            · try dsimp only at hr
                              refine tm_call rfl rfl (tm_callV rfl rfl c73 rfl rfl) (lq_46 m76) ?_
                              refine tm_n 4 (F' := (111, [(0, .inr (.inr a0)), (1, .inr (.inr (some a1))), (2, .inl a2)], [.inl a2, .inr (.inr (some a1)), .inr (.inr a0)])) rfl ?_
                              by_cases c77 : lc_of h75 a0 = some 3
                              · rw [if_pos c77] at hr
                                rcases lb_V_s hr with ⟨h79, m80, hr⟩ | ⟨a81, h79, z82, z82l, m80, qz82, rfl⟩
                                · try dsimp only at hr
                                  refine tm_call rfl rfl (tm_callV rfl rfl c77 rfl rfl) (lq_230 hX m80) ?_
                                  cases hr
                                  exact tm_retV rfl
                                · exact tm_callT rfl rfl (tm_callV rfl rfl c77 rfl rfl) (lq_230 hX m80) qz82 rfl
                              · rw [if_neg c77] at hr
                                cases hr
                            · exact tm_callT rfl rfl (tm_callV rfl rfl c73 rfl rfl) (lq_46 m76) qz84 rfl
                          · rw [if_neg c73] at hr
                            cases hr
                        · exact tm_callT rfl rfl (tm_callV rfl rfl c66 rfl rfl) (lq_225 hX m69) qz86 rfl
                      · rw [if_neg c66] at hr
                        cases hr
        · exact tm_callT rfl rfl (tm_callV rfl rfl c3 rfl rfl) (lq_166 m6) qz88 rfl
      · rw [if_neg c3] at hr
        cases hr
    · rw [if_neg c89] at hr
      refine tm_icF rfl c89 ?_
      cases hr
      exact tm_retV rfl
set_option maxRecDepth 20000 in
def ll_219 (w : Option Nat) : Nat → Option Nat → Option Nat → Int32 → pm_H → tm_L
  | 0 => fun _ _ _ _ => none
  | n + 1 => lm_219 w (ll_219 w n)
set_option maxRecDepth 20000 in
theorem lq_219 {w : Option Nat} {d : Nat} : ∀ (n : Nat) {a0 : Option Nat} {a1 : Option Nat} {a2 : Int32} {h : pm_H} {r : tm_O × pm_H}, ll_219 w n a0 a1 a2 h = some r → tm_run pt_P (pt_G (tm_r w)) (d + 3 * n + 20) 219 [.inr (.inr a0), .inr (.inr a1), .inl a2] h r := by
  intro n
  induction n with
  | zero => intro a0 a1 a2 h r hr; cases hr
  | succ n ih =>
    intro a0 a1 a2 h r hr
    exact lmt_219 (d := d + 3 * n) (fun hr => ih hr) hr
set_option maxRecDepth 20000 in
theorem lq_219f {w : Option Nat} {d : Nat} {a0 : Option Nat} {a1 : Option Nat} {a2 : Int32} {h : pm_H} {r : tm_O × pm_H} (hr : ll_219 w 40 a0 a1 a2 h = some r) : tm_run pt_P (pt_G (tm_r w)) (d + 120 + 20) 219 [.inr (.inr a0), .inr (.inr a1), .inl a2] h r := lq_219 (d := d) 40 hr
-- OfficeSheet$Writer.write(LOfficeSheet$Part;LOfficeSheet$Axis;LOfficeSheet$Axis;)V
set_option maxRecDepth 20000 in
def ll_218 (w : Option Nat) (a0 : Option Nat) (a1 : Option Nat) (a2 : Option Nat) (a3 : Option Nat) (h : pm_H) : tm_L := (lf_P 81 h a0 [2, 3, 1] (.inr (.inr a2))).bind fun h1 => (lf_P 81 h1 a0 [2, 3, 2] (.inr (.inr a3))).bind fun h2 => (lf_R h2 a0 [3, 0]).bind fun v3 => if lc_of h2 v3 = some 11 then lb_V (ll_44 w v3 (0 : Int32) h2) (fun h6 => if lc_of h6 a0 = some 3 then lb_V (ll_219 w 40 a0 a1 (0 : Int32) h6) (fun h10 => some (.inl none, h10)) else none) else none
set_option maxRecDepth 20000 in
theorem lq_218 {w : Option Nat} {d : Nat} {a0 : Option Nat} {a1 : Option Nat} {a2 : Option Nat} {a3 : Option Nat} {h : pm_H} {r : tm_O × pm_H} (hr : ll_218 w a0 a1 a2 a3 h = some r) : tm_run pt_P (pt_G (tm_r w)) (d + 141) 218 [.inr (.inr a0), .inr (.inr a1), .inr (.inr a2), .inr (.inr a3)] h r := by
  unfold ll_218 at hr
  show pm_to pt_P (pt_G (tm_r w)) (d + 141) (pt_g218, []) (tm_m (0, [(0, .inr (.inr a0)), (1, .inr (.inr a1)), (2, .inr (.inr a2)), (3, .inr (.inr a3))], [])) h (tm_e r)
  refine tm_n 2 (F' := (2, [(0, .inr (.inr a0)), (1, .inr (.inr a1)), (2, .inr (.inr a2)), (3, .inr (.inr a3))], [.inr (.inr a2), .inr (.inr a0)])) rfl ?_
  obtain ⟨h1, qh1, hr⟩ := Option.bind_eq_some_iff.mp hr
  refine tm_putf rfl qh1 ?_
  refine tm_n 2 (F' := (7, [(0, .inr (.inr a0)), (1, .inr (.inr a1)), (2, .inr (.inr a2)), (3, .inr (.inr a3))], [.inr (.inr a3), .inr (.inr a0)])) rfl ?_
  obtain ⟨h2, qh2, hr⟩ := Option.bind_eq_some_iff.mp hr
  refine tm_putf rfl qh2 ?_
  refine tm_n 1 (F' := (11, [(0, .inr (.inr a0)), (1, .inr (.inr a1)), (2, .inr (.inr a2)), (3, .inr (.inr a3))], [.inr (.inr a0)])) rfl ?_
  obtain ⟨v3, qv3, hr⟩ := Option.bind_eq_some_iff.mp hr
  refine tm_getf rfl (lf_R_V qv3) ?_
  refine tm_n 1 (F' := (15, [(0, .inr (.inr a0)), (1, .inr (.inr a1)), (2, .inr (.inr a2)), (3, .inr (.inr a3))], [.inl (0 : Int32), .inr (.inr v3)])) rfl ?_
  by_cases c4 : lc_of h2 v3 = some 11
  · rw [if_pos c4] at hr
    rcases lb_V_s hr with ⟨h6, m7, hr⟩ | ⟨a14, h6, z15, z15l, m7, qz15, rfl⟩
    · try dsimp only at hr
      refine tm_call rfl rfl (tm_callV rfl rfl c4 rfl rfl) (lq_44 m7) ?_
      refine tm_n 3 (F' := (21, [(0, .inr (.inr a0)), (1, .inr (.inr a1)), (2, .inr (.inr a2)), (3, .inr (.inr a3))], [.inl (0 : Int32), .inr (.inr a1), .inr (.inr a0)])) rfl ?_
      by_cases c8 : lc_of h6 a0 = some 3
      · rw [if_pos c8] at hr
        rcases lb_V_s hr with ⟨h10, m11, hr⟩ | ⟨a12, h10, z13, z13l, m11, qz13, rfl⟩
        · try dsimp only at hr
          refine tm_call rfl rfl (tm_callV rfl rfl c8 rfl rfl) (lq_219f m11) ?_
          cases hr
          exact tm_retV rfl
        · exact tm_callT rfl rfl (tm_callV rfl rfl c8 rfl rfl) (lq_219f m11) qz13 rfl
      · rw [if_neg c8] at hr
        cases hr
    · exact tm_callT rfl rfl (tm_callV rfl rfl c4 rfl rfl) (lq_44 m7) qz15 rfl
  · rw [if_neg c4] at hr
    cases hr
-- OfficeSheet.print(III)I
set_option maxRecDepth 20000 in
def ll_217 (w : Option Nat) (a0 : Option Nat) (a1 : Int32) (a2 : Int32) (a3 : Int32) (h : pm_H) : tm_L := if lc_of h a0 = some 0 then lb_R (ll_81 a0 a1 h) (fun v2 h3 => (lf_R h3 v2 [4, 3]).bind fun v5 => (la_R h3 .aaload v5 (0 : Int32)).bind fun v6 => lb_R (ll_84 v6 a2 h3) (fun v7 h8 => (lf_R h8 v2 [4, 3]).bind fun v10 => (la_R h8 .aaload v10 (1 : Int32)).bind fun v11 => lb_R (ll_84 v11 a3 h8) (fun v12 h13 => (lf_R h13 a0 [0, 3]).bind fun v15 => if lc_of h13 v2 = some 4 then lb_R (ll_158 v2 v7 v12 h13) (fun v17 h18 => (lf_R h18 v2 [4, 3]).bind fun v20 => (la_R h18 .aaload v20 (0 : Int32)).bind fun v21 => (lf_R h18 v2 [4, 3]).bind fun v22 => (la_R h18 .aaload v22 (1 : Int32)).bind fun v23 => if lc_of h18 v15 = some 3 then lb_V (ll_218 w v15 v17 v21 v23 h18) (fun h26 => (lf_R h26 a0 [0, 3]).bind fun v28 => (lf_R h26 v28 [3, 0]).bind fun v29 => if lc_of h26 v29 = some 11 then lb_I (ll_17 v29 h26) (fun v31 h32 => some (.inl (some (.inl v31)), h32)) else none) else none) else none))) else none
set_option maxRecDepth 20000 in
theorem lq_217 {w : Option Nat} {d : Nat} {a0 : Option Nat} {a1 : Int32} {a2 : Int32} {a3 : Int32} {h : pm_H} {r : tm_O × pm_H} (hr : ll_217 w a0 a1 a2 a3 h = some r) : tm_run pt_P (pt_G (tm_r w)) (d + 142) 217 [.inr (.inr a0), .inl a1, .inl a2, .inl a3] h r := by
  unfold ll_217 at hr
  show pm_to pt_P (pt_G (tm_r w)) (d + 142) (pt_g217, []) (tm_m (0, [(0, .inr (.inr a0)), (1, .inl a1), (2, .inl a2), (3, .inl a3)], [])) h (tm_e r)
  refine tm_n 2 (F' := (2, [(0, .inr (.inr a0)), (1, .inl a1), (2, .inl a2), (3, .inl a3)], [.inl a1, .inr (.inr a0)])) rfl ?_
  by_cases c1 : lc_of h a0 = some 0
  · rw [if_pos c1] at hr
    rcases lb_R_s hr with ⟨v2, h3, m4, hr⟩ | ⟨a44, h3, z45, z45l, m4, qz45, rfl⟩
    · try dsimp only at hr
      refine tm_call rfl rfl (tm_callV rfl rfl c1 rfl rfl) (lq_81 m4) ?_
      refine tm_n 2 (F' := (9, [(4, .inr (.inr v2)), (0, .inr (.inr a0)), (1, .inl a1), (2, .inl a2), (3, .inl a3)], [.inr (.inr v2)])) rfl ?_
      obtain ⟨v5, qv5, hr⟩ := Option.bind_eq_some_iff.mp hr
      refine tm_getf rfl (lf_R_V qv5) ?_
      refine tm_n 1 (F' := (13, [(4, .inr (.inr v2)), (0, .inr (.inr a0)), (1, .inl a1), (2, .inl a2), (3, .inl a3)], [.inl (0 : Int32), .inr (.inr v5)])) rfl ?_
      obtain ⟨v6, qv6, hr⟩ := Option.bind_eq_some_iff.mp hr
      refine tm_ald rfl rfl (la_R_V qv6) ?_
      refine tm_n 1 (F' := (15, [(4, .inr (.inr v2)), (0, .inr (.inr a0)), (1, .inl a1), (2, .inl a2), (3, .inl a3)], [.inl a2, .inr (.inr v6)])) rfl ?_
      rcases lb_R_s hr with ⟨v7, h8, m9, hr⟩ | ⟨a42, h8, z43, z43l, m9, qz43, rfl⟩
      · try dsimp only at hr
        refine tm_call rfl rfl (tm_callS rfl rfl) (lq_84 m9) ?_
        refine tm_n 2 (F' := (22, [(5, .inr (.inr v7)), (4, .inr (.inr v2)), (0, .inr (.inr a0)), (1, .inl a1), (2, .inl a2), (3, .inl a3)], [.inr (.inr v2)])) rfl ?_
        obtain ⟨v10, qv10, hr⟩ := Option.bind_eq_some_iff.mp hr
        refine tm_getf rfl (lf_R_V qv10) ?_
        refine tm_n 1 (F' := (26, [(5, .inr (.inr v7)), (4, .inr (.inr v2)), (0, .inr (.inr a0)), (1, .inl a1), (2, .inl a2), (3, .inl a3)], [.inl (1 : Int32), .inr (.inr v10)])) rfl ?_
        obtain ⟨v11, qv11, hr⟩ := Option.bind_eq_some_iff.mp hr
        refine tm_ald rfl rfl (la_R_V qv11) ?_
        refine tm_n 1 (F' := (28, [(5, .inr (.inr v7)), (4, .inr (.inr v2)), (0, .inr (.inr a0)), (1, .inl a1), (2, .inl a2), (3, .inl a3)], [.inl a3, .inr (.inr v11)])) rfl ?_
        rcases lb_R_s hr with ⟨v12, h13, m14, hr⟩ | ⟨a40, h13, z41, z41l, m14, qz41, rfl⟩
        · try dsimp only at hr
          refine tm_call rfl rfl (tm_callS rfl rfl) (lq_84 m14) ?_
          refine tm_n 2 (F' := (34, [(6, .inr (.inr v12)), (5, .inr (.inr v7)), (4, .inr (.inr v2)), (0, .inr (.inr a0)), (1, .inl a1), (2, .inl a2), (3, .inl a3)], [.inr (.inr a0)])) rfl ?_
          obtain ⟨v15, qv15, hr⟩ := Option.bind_eq_some_iff.mp hr
          refine tm_getf rfl (lf_R_V qv15) ?_
          refine tm_n 3 (F' := (43, [(6, .inr (.inr v12)), (5, .inr (.inr v7)), (4, .inr (.inr v2)), (0, .inr (.inr a0)), (1, .inl a1), (2, .inl a2), (3, .inl a3)], [.inr (.inr v12), .inr (.inr v7), .inr (.inr v2), .inr (.inr v15)])) rfl ?_
          by_cases c16 : lc_of h13 v2 = some 4
          · rw [if_pos c16] at hr
            rcases lb_R_s hr with ⟨v17, h18, m19, hr⟩ | ⟨a38, h18, z39, z39l, m19, qz39, rfl⟩
            · try dsimp only at hr
              refine tm_call rfl rfl (tm_callV rfl rfl c16 rfl rfl) (lq_158 m19) ?_
              refine tm_n 1 (F' := (48, [(6, .inr (.inr v12)), (5, .inr (.inr v7)), (4, .inr (.inr v2)), (0, .inr (.inr a0)), (1, .inl a1), (2, .inl a2), (3, .inl a3)], [.inr (.inr v2), .inr (.inr v17), .inr (.inr v15)])) rfl ?_
              obtain ⟨v20, qv20, hr⟩ := Option.bind_eq_some_iff.mp hr
              refine tm_getf rfl (lf_R_V qv20) ?_
              refine tm_n 1 (F' := (52, [(6, .inr (.inr v12)), (5, .inr (.inr v7)), (4, .inr (.inr v2)), (0, .inr (.inr a0)), (1, .inl a1), (2, .inl a2), (3, .inl a3)], [.inl (0 : Int32), .inr (.inr v20), .inr (.inr v17), .inr (.inr v15)])) rfl ?_
              obtain ⟨v21, qv21, hr⟩ := Option.bind_eq_some_iff.mp hr
              refine tm_ald rfl rfl (la_R_V qv21) ?_
              refine tm_n 1 (F' := (55, [(6, .inr (.inr v12)), (5, .inr (.inr v7)), (4, .inr (.inr v2)), (0, .inr (.inr a0)), (1, .inl a1), (2, .inl a2), (3, .inl a3)], [.inr (.inr v2), .inr (.inr v21), .inr (.inr v17), .inr (.inr v15)])) rfl ?_
              obtain ⟨v22, qv22, hr⟩ := Option.bind_eq_some_iff.mp hr
              refine tm_getf rfl (lf_R_V qv22) ?_
              refine tm_n 1 (F' := (59, [(6, .inr (.inr v12)), (5, .inr (.inr v7)), (4, .inr (.inr v2)), (0, .inr (.inr a0)), (1, .inl a1), (2, .inl a2), (3, .inl a3)], [.inl (1 : Int32), .inr (.inr v22), .inr (.inr v21), .inr (.inr v17), .inr (.inr v15)])) rfl ?_
              obtain ⟨v23, qv23, hr⟩ := Option.bind_eq_some_iff.mp hr
              refine tm_ald rfl rfl (la_R_V qv23) ?_
              by_cases c24 : lc_of h18 v15 = some 3
              · rw [if_pos c24] at hr
                rcases lb_V_s hr with ⟨h26, m27, hr⟩ | ⟨a36, h26, z37, z37l, m27, qz37, rfl⟩
                · try dsimp only at hr
                  refine tm_call rfl rfl (tm_callV rfl rfl c24 rfl rfl) (lq_218 m27) ?_
                  refine tm_n 1 (F' := (64, [(6, .inr (.inr v12)), (5, .inr (.inr v7)), (4, .inr (.inr v2)), (0, .inr (.inr a0)), (1, .inl a1), (2, .inl a2), (3, .inl a3)], [.inr (.inr a0)])) rfl ?_
                  obtain ⟨v28, qv28, hr⟩ := Option.bind_eq_some_iff.mp hr
                  refine tm_getf rfl (lf_R_V qv28) ?_
                  obtain ⟨v29, qv29, hr⟩ := Option.bind_eq_some_iff.mp hr
                  refine tm_getf rfl (lf_R_V qv29) ?_
                  by_cases c30 : lc_of h26 v29 = some 11
                  · rw [if_pos c30] at hr
                    rcases lb_I_s hr with ⟨v31, h32, m33, hr⟩ | ⟨a34, h32, z35, z35l, m33, qz35, rfl⟩
                    · try dsimp only at hr
                      refine tm_call rfl rfl (tm_callV rfl rfl c30 rfl rfl) (lq_17 m33) ?_
                      cases hr
                      exact tm_retI rfl rfl
                    · exact tm_callT rfl rfl (tm_callV rfl rfl c30 rfl rfl) (lq_17 m33) qz35 rfl
                  · rw [if_neg c30] at hr
                    cases hr
                · exact tm_callT rfl rfl (tm_callV rfl rfl c24 rfl rfl) (lq_218 m27) qz37 rfl
              · rw [if_neg c24] at hr
                cases hr
            · exact tm_callT rfl rfl (tm_callV rfl rfl c16 rfl rfl) (lq_158 m19) qz39 rfl
          · rw [if_neg c16] at hr
            cases hr
        · exact tm_callT rfl rfl (tm_callS rfl rfl) (lq_84 m14) qz41 rfl
      · exact tm_callT rfl rfl (tm_callS rfl rfl) (lq_84 m9) qz43 rfl
    · exact tm_callT rfl rfl (tm_callV rfl rfl c1 rfl rfl) (lq_81 m4) qz45 rfl
  · rw [if_neg c1] at hr
    cases hr
-- OfficeSheetLaw.print(LOfficeSheet;III[J)I
set_option maxRecDepth 20000 in
def ll_216 (w : Option Nat) (a0 : Option Nat) (a1 : Int32) (a2 : Int32) (a3 : Int32) (a4 : Option Nat) (h : pm_H) : tm_L := if lc_of h a0 = some 0 then lh_I (ll_217 w a0 a1 a2 a3 h) (fun v2 h3 => (la_S pt_P h3 .lastore a4 (0 : Int32) (.inr (.inl (Int32.toInt64 v2)))).bind fun h5 => some (.inl (some (.inl (0 : Int32))), h5)) (fun a6 z7 h3 => if z7 = 14 then some (.inl (some (.inl (1 : Int32))), h3) else if z7 = 16 then some (.inl (some (.inl (2 : Int32))), h3) else none) else none
set_option maxRecDepth 20000 in
theorem lq_216 {w : Option Nat} {d : Nat} {a0 : Option Nat} {a1 : Int32} {a2 : Int32} {a3 : Int32} {a4 : Option Nat} {h : pm_H} {r : tm_O × pm_H} (hr : ll_216 w a0 a1 a2 a3 a4 h = some r) : tm_run pt_P (pt_G (tm_r w)) (d + 143) 216 [.inr (.inr a0), .inl a1, .inl a2, .inl a3, .inr (.inr a4)] h r := by
  unfold ll_216 at hr
  show pm_to pt_P (pt_G (tm_r w)) (d + 143) (pt_g216, [(0, 12, 15, [14]), (0, 12, 19, [16])]) (tm_m (0, [(0, .inr (.inr a0)), (1, .inl a1), (2, .inl a2), (3, .inl a3), (4, .inr (.inr a4))], [])) h (tm_e r)
  refine tm_n 6 (F' := (7, [(0, .inr (.inr a0)), (1, .inl a1), (2, .inl a2), (3, .inl a3), (4, .inr (.inr a4))], [.inl a3, .inl a2, .inl a1, .inr (.inr a0), .inl (0 : Int32), .inr (.inr a4)])) rfl ?_
  by_cases c1 : lc_of h a0 = some 0
  · rw [if_pos c1] at hr
    rcases lh_I_s hr with ⟨v2, h3, m4, hr⟩ | ⟨a6, h3, z7, z7l, m4, qz7, hr⟩
    · try dsimp only at hr
      refine tm_call rfl rfl (tm_callV rfl rfl c1 rfl rfl) (lq_217 m4) ?_
      refine tm_n 1 (F' := (11, [(0, .inr (.inr a0)), (1, .inl a1), (2, .inl a2), (3, .inl a3), (4, .inr (.inr a4))], [.inr (.inl (Int32.toInt64 v2)), .inl (0 : Int32), .inr (.inr a4)])) rfl ?_
      obtain ⟨h5, qh5, hr⟩ := Option.bind_eq_some_iff.mp hr
      refine tm_ast rfl rfl qh5 ?_
      refine tm_n 2 (F' := (24, [(0, .inr (.inr a0)), (1, .inl a1), (2, .inl a2), (3, .inl a3), (4, .inr (.inr a4))], [.inl (0 : Int32)])) rfl ?_
      cases hr
      exact tm_retI rfl rfl
    · try dsimp only at hr
      by_cases c8 : z7 = 14
      · rw [if_pos c8] at hr
        subst c8
        refine tm_callC rfl rfl (tm_callV rfl rfl c1 rfl rfl) (lq_217 m4) qz7 rfl ?_
        refine tm_n 2 (F' := (18, [(5, .inr (.inr (some a6))), (0, .inr (.inr a0)), (1, .inl a1), (2, .inl a2), (3, .inl a3), (4, .inr (.inr a4))], [.inl (1 : Int32)])) rfl ?_
        cases hr
        exact tm_retI rfl rfl
      · rw [if_neg c8] at hr
        by_cases c9 : z7 = 16
        · rw [if_pos c9] at hr
          subst c9
          refine tm_callC rfl rfl (tm_callV rfl rfl c1 rfl rfl) (lq_217 m4) qz7 rfl ?_
          refine tm_n 2 (F' := (22, [(5, .inr (.inr (some a6))), (0, .inr (.inr a0)), (1, .inl a1), (2, .inl a2), (3, .inl a3), (4, .inr (.inr a4))], [.inl (2 : Int32)])) rfl ?_
          cases hr
          exact tm_retI rfl rfl
        · rw [if_neg c9] at hr
          cases hr
  · rw [if_neg c1] at hr
    cases hr
-- OfficeSheet.out(I)I
set_option maxRecDepth 20000 in
def ll_233 (w : Option Nat) (a0 : Option Nat) (a1 : Int32) (h : pm_H) : tm_L := if a1 < (0 : Int32) then some (.inr h.1.length, lf_new h 16 6 []) else (lf_R h a0 [0, 3]).bind fun v1 => (lf_R h v1 [3, 0]).bind fun v2 => if lc_of h v2 = some 11 then lb_I (ll_17 v2 h) (fun v4 h5 => if a1 < v4 then (lf_R h5 a0 [0, 3]).bind fun v7 => (lf_R h5 v7 [3, 0]).bind fun v8 => if lc_of h5 v8 = some 11 then lb_I (ll_134 w v8 a1 h5) (fun v10 h11 => some (.inl (some (.inl v10)), h11)) else none else some (.inr h5.1.length, lf_new h5 16 6 [])) else none
set_option maxRecDepth 20000 in
theorem lq_233 {w : Option Nat} {d : Nat} {a0 : Option Nat} {a1 : Int32} {h : pm_H} {r : tm_O × pm_H} (hr : ll_233 w a0 a1 h = some r) : tm_run pt_P (pt_G (tm_r w)) (d + 4) 233 [.inr (.inr a0), .inl a1] h r := by
  unfold ll_233 at hr
  show pm_to pt_P (pt_G (tm_r w)) (d + 4) (pt_g233, []) (tm_m (0, [(0, .inr (.inr a0)), (1, .inl a1)], [])) h (tm_e r)
  refine tm_n 1 (F' := (1, [(0, .inr (.inr a0)), (1, .inl a1)], [.inl a1])) rfl ?_
  by_cases c18 : a1 < (0 : Int32)
  · rw [if_pos c18] at hr
    refine tm_ifT rfl c18 ?_
    cases hr
    exact tm_thr rfl
  · rw [if_neg c18] at hr
    refine tm_ifF rfl c18 ?_
    refine tm_n 2 (F' := (6, [(0, .inr (.inr a0)), (1, .inl a1)], [.inr (.inr a0), .inl a1])) rfl ?_
    obtain ⟨v1, qv1, hr⟩ := Option.bind_eq_some_iff.mp hr
    refine tm_getf rfl (lf_R_V qv1) ?_
    obtain ⟨v2, qv2, hr⟩ := Option.bind_eq_some_iff.mp hr
    refine tm_getf rfl (lf_R_V qv2) ?_
    by_cases c3 : lc_of h v2 = some 11
    · rw [if_pos c3] at hr
      rcases lb_I_s hr with ⟨v4, h5, m6, hr⟩ | ⟨a16, h5, z17, z17l, m6, qz17, rfl⟩
      · try dsimp only at hr
        refine tm_call rfl rfl (tm_callV rfl rfl c3 rfl rfl) (lq_17 m6) ?_
        by_cases c15 : a1 < v4
        · rw [if_pos c15] at hr
          refine tm_icT rfl c15 ?_
          refine tm_n 1 (F' := (29, [(0, .inr (.inr a0)), (1, .inl a1)], [.inr (.inr a0)])) rfl ?_
          obtain ⟨v7, qv7, hr⟩ := Option.bind_eq_some_iff.mp hr
          refine tm_getf rfl (lf_R_V qv7) ?_
          obtain ⟨v8, qv8, hr⟩ := Option.bind_eq_some_iff.mp hr
          refine tm_getf rfl (lf_R_V qv8) ?_
          refine tm_n 1 (F' := (36, [(0, .inr (.inr a0)), (1, .inl a1)], [.inl a1, .inr (.inr v8)])) rfl ?_
          by_cases c9 : lc_of h5 v8 = some 11
          · rw [if_pos c9] at hr
            rcases lb_I_s hr with ⟨v10, h11, m12, hr⟩ | ⟨a13, h11, z14, z14l, m12, qz14, rfl⟩
            · try dsimp only at hr
              refine tm_call rfl rfl (tm_callV rfl rfl c9 rfl rfl) (lq_134 m12) ?_
              cases hr
              exact tm_retI rfl rfl
            · exact tm_callT rfl rfl (tm_callV rfl rfl c9 rfl rfl) (lq_134 m12) qz14 rfl
          · rw [if_neg c9] at hr
            cases hr
        · rw [if_neg c15] at hr
          refine tm_icF rfl c15 ?_
          cases hr
          exact tm_thr rfl
      · exact tm_callT rfl rfl (tm_callV rfl rfl c3 rfl rfl) (lq_17 m6) qz17 rfl
    · rw [if_neg c3] at hr
      cases hr
-- OfficeSheetLaw.out(LOfficeSheet;I[J)I
set_option maxRecDepth 20000 in
def ll_232 (w : Option Nat) (a0 : Option Nat) (a1 : Int32) (a2 : Option Nat) (h : pm_H) : tm_L := if lc_of h a0 = some 0 then lh_I (ll_233 w a0 a1 h) (fun v2 h3 => (la_S pt_P h3 .lastore a2 (0 : Int32) (.inr (.inl (Int32.toInt64 v2)))).bind fun h5 => some (.inl (some (.inl (0 : Int32))), h5)) (fun a6 z7 h3 => if z7 = 16 then some (.inl (some (.inl (1 : Int32))), h3) else none) else none
set_option maxRecDepth 20000 in
theorem lq_232 {w : Option Nat} {d : Nat} {a0 : Option Nat} {a1 : Int32} {a2 : Option Nat} {h : pm_H} {r : tm_O × pm_H} (hr : ll_232 w a0 a1 a2 h = some r) : tm_run pt_P (pt_G (tm_r w)) (d + 5) 232 [.inr (.inr a0), .inl a1, .inr (.inr a2)] h r := by
  unfold ll_232 at hr
  show pm_to pt_P (pt_G (tm_r w)) (d + 5) (pt_g232, [(0, 9, 12, [16])]) (tm_m (0, [(0, .inr (.inr a0)), (1, .inl a1), (2, .inr (.inr a2))], [])) h (tm_e r)
  refine tm_n 4 (F' := (4, [(0, .inr (.inr a0)), (1, .inl a1), (2, .inr (.inr a2))], [.inl a1, .inr (.inr a0), .inl (0 : Int32), .inr (.inr a2)])) rfl ?_
  by_cases c1 : lc_of h a0 = some 0
  · rw [if_pos c1] at hr
    rcases lh_I_s hr with ⟨v2, h3, m4, hr⟩ | ⟨a6, h3, z7, z7l, m4, qz7, hr⟩
    · try dsimp only at hr
      refine tm_call rfl rfl (tm_callV rfl rfl c1 rfl rfl) (lq_233 m4) ?_
      refine tm_n 1 (F' := (8, [(0, .inr (.inr a0)), (1, .inl a1), (2, .inr (.inr a2))], [.inr (.inl (Int32.toInt64 v2)), .inl (0 : Int32), .inr (.inr a2)])) rfl ?_
      obtain ⟨h5, qh5, hr⟩ := Option.bind_eq_some_iff.mp hr
      refine tm_ast rfl rfl qh5 ?_
      refine tm_n 2 (F' := (16, [(0, .inr (.inr a0)), (1, .inl a1), (2, .inr (.inr a2))], [.inl (0 : Int32)])) rfl ?_
      cases hr
      exact tm_retI rfl rfl
    · try dsimp only at hr
      by_cases c8 : z7 = 16
      · rw [if_pos c8] at hr
        subst c8
        refine tm_callC rfl rfl (tm_callV rfl rfl c1 rfl rfl) (lq_233 m4) qz7 rfl ?_
        refine tm_n 2 (F' := (14, [(3, .inr (.inr (some a6))), (0, .inr (.inr a0)), (1, .inl a1), (2, .inr (.inr a2))], [.inl (1 : Int32)])) rfl ?_
        cases hr
        exact tm_retI rfl rfl
      · rw [if_neg c8] at hr
        cases hr
  · rw [if_neg c1] at hr
    cases hr
-- OfficeSheetModel.<init>()V
set_option maxRecDepth 20000 in
def ll_234 (a0 : Option Nat) (h : pm_H) : tm_L := if Option.isSome a0 = true then (lf_na h 0 (.int 0) (120 : Int32)).bind fun h2 => (lf_P 81 h2 a0 [2, 10, 1] (.inr (.inr (some h.1.length)))).bind fun h3 => (lf_na h3 0 (.int 0) (120 : Int32)).bind fun h4 => (lf_P 81 h4 a0 [2, 10, 2] (.inr (.inr (some h3.1.length)))).bind fun h5 => (lf_na h5 0 (.int 0) (120 : Int32)).bind fun h6 => (lf_P 81 h6 a0 [2, 10, 3] (.inr (.inr (some h5.1.length)))).bind fun h7 => (lf_na h7 0 (.int 0) (360 : Int32)).bind fun h8 => (lf_P 81 h8 a0 [2, 10, 4] (.inr (.inr (some h7.1.length)))).bind fun h9 => (lf_na h9 0 (.int 0) (120 : Int32)).bind fun h10 => (lf_P 81 h10 a0 [2, 10, 5] (.inr (.inr (some h9.1.length)))).bind fun h11 => (lf_na h11 0 (.int 0) (120 : Int32)).bind fun h12 => (lf_P 81 h12 a0 [2, 10, 6] (.inr (.inr (some h11.1.length)))).bind fun h13 => (lf_na h13 0 (.int 0) (120 : Int32)).bind fun h14 => (lf_P 81 h14 a0 [2, 10, 7] (.inr (.inr (some h13.1.length)))).bind fun h15 => (lf_na h15 0 (.int 0) (120 : Int32)).bind fun h16 => (lf_P 81 h16 a0 [2, 10, 8] (.inr (.inr (some h15.1.length)))).bind fun h17 => (lf_na h17 0 (.int 0) (120 : Int32)).bind fun h18 => (lf_P 81 h18 a0 [2, 10, 9] (.inr (.inr (some h17.1.length)))).bind fun h19 => (lf_na h19 0 (.int 0) (120 : Int32)).bind fun h20 => (lf_P 81 h20 a0 [2, 10, 10] (.inr (.inr (some h19.1.length)))).bind fun h21 => (lf_na h21 0 (.int 0) (120 : Int32)).bind fun h22 => (lf_P 81 h22 a0 [2, 10, 11] (.inr (.inr (some h21.1.length)))).bind fun h23 => (lf_na h23 3 (.int 0) (120 : Int32)).bind fun h24 => (lf_P 81 h24 a0 [2, 10, 12] (.inr (.inr (some h23.1.length)))).bind fun h25 => (lf_na h25 0 (.int 0) (120 : Int32)).bind fun h26 => (lf_P 81 h26 a0 [2, 10, 13] (.inr (.inr (some h25.1.length)))).bind fun h27 => (lf_na h27 0 (.int 0) (2400 : Int32)).bind fun h28 => (lf_P 81 h28 a0 [2, 10, 14] (.inr (.inr (some h27.1.length)))).bind fun h29 => (lf_na h29 0 (.int 0) (2400 : Int32)).bind fun h30 => (lf_P 81 h30 a0 [2, 10, 15] (.inr (.inr (some h29.1.length)))).bind fun h31 => (lf_na h31 0 (.int 0) (9 : Int32)).bind fun h32 => (lf_P 81 h32 a0 [2, 10, 16] (.inr (.inr (some h31.1.length)))).bind fun h33 => (lf_na h33 0 (.int 0) (3 : Int32)).bind fun h34 => (lf_P 81 h34 a0 [2, 10, 17] (.inr (.inr (some h33.1.length)))).bind fun h35 => (lf_na h35 3 (.int 0) (360 : Int32)).bind fun h36 => (lf_P 81 h36 a0 [2, 10, 18] (.inr (.inr (some h35.1.length)))).bind fun h37 => (lf_na h37 0 (.int 0) (720 : Int32)).bind fun h38 => (lf_P 81 h38 a0 [2, 10, 19] (.inr (.inr (some h37.1.length)))).bind fun h39 => (lf_na h39 0 (.int 0) (6 : Int32)).bind fun h40 => (lf_P 81 h40 a0 [2, 10, 20] (.inr (.inr (some h39.1.length)))).bind fun h41 => (lf_na h41 0 (.int 0) (20 : Int32)).bind fun h42 => (lf_P 81 h42 a0 [2, 10, 21] (.inr (.inr (some h41.1.length)))).bind fun h43 => (lf_na h43 0 (.int 0) (24 : Int32)).bind fun h44 => (lf_P 81 h44 a0 [2, 10, 28] (.inr (.inr (some h43.1.length)))).bind fun h45 => (lf_P 81 h45 a0 [0, 10, 31] (.inl (-1 : Int32))).bind fun h46 => (lf_na h46 0 (.int 0) (120 : Int32)).bind fun h47 => (lf_P 81 h47 a0 [2, 10, 33] (.inr (.inr (some h46.1.length)))).bind fun h48 => (lf_na h48 0 (.int 0) (120 : Int32)).bind fun h49 => (lf_P 81 h49 a0 [2, 10, 34] (.inr (.inr (some h48.1.length)))).bind fun h50 => (lf_na h50 0 (.int 0) (120 : Int32)).bind fun h51 => (lf_P 81 h51 a0 [2, 10, 35] (.inr (.inr (some h50.1.length)))).bind fun h52 => (lf_na h52 0 (.int 0) (120 : Int32)).bind fun h53 => (lf_P 81 h53 a0 [2, 10, 36] (.inr (.inr (some h52.1.length)))).bind fun h54 => (lf_na h54 1 (.long 0) (120 : Int32)).bind fun h55 => (lf_P 81 h55 a0 [2, 10, 37] (.inr (.inr (some h54.1.length)))).bind fun h56 => (lf_na h56 1 (.long 0) (24 : Int32)).bind fun h57 => (lf_P 81 h57 a0 [2, 10, 38] (.inr (.inr (some h56.1.length)))).bind fun h58 => (lf_na h58 0 (.int 0) (120 : Int32)).bind fun h59 => (lf_P 81 h59 a0 [2, 10, 40] (.inr (.inr (some h58.1.length)))).bind fun h60 => (lf_na h60 0 (.int 0) (20 : Int32)).bind fun h61 => (lf_P 81 h61 a0 [2, 10, 41] (.inr (.inr (some h60.1.length)))).bind fun h62 => (lf_na h62 0 (.int 0) (80 : Int32)).bind fun h63 => (lf_P 81 h63 a0 [2, 10, 42] (.inr (.inr (some h62.1.length)))).bind fun h64 => some (.inl none, h64) else none
set_option maxRecDepth 20000 in
theorem lq_234 {w : Option Nat} {d : Nat} {a0 : Option Nat} {h : pm_H} {r : tm_O × pm_H} (hr : ll_234 a0 h = some r) : tm_run pt_P (pt_G (tm_r w)) (d + 0) 234 [.inr (.inr a0)] h r := by
  unfold ll_234 at hr
  show pm_to pt_P (pt_G (tm_r w)) (d + 0) (pt_g234, []) (tm_m (0, [(0, .inr (.inr a0))], [])) h (tm_e r)
  refine tm_n 1 (F' := (1, [(0, .inr (.inr a0))], [.inr (.inr a0)])) rfl ?_
  by_cases c1 : Option.isSome a0 = true
  · rw [if_pos c1] at hr
    refine tm_oinit2 rfl c1 rfl ?_
    refine tm_n 2 (F' := (7, [(0, .inr (.inr a0))], [.inl (120 : Int32), .inr (.inr a0)])) rfl ?_
    obtain ⟨h2, qh2, hr⟩ := Option.bind_eq_some_iff.mp hr
    refine tm_newarr rfl qh2 ?_
    obtain ⟨h3, qh3, hr⟩ := Option.bind_eq_some_iff.mp hr
    refine tm_putf rfl qh3 ?_
    refine tm_n 2 (F' := (15, [(0, .inr (.inr a0))], [.inl (120 : Int32), .inr (.inr a0)])) rfl ?_
    obtain ⟨h4, qh4, hr⟩ := Option.bind_eq_some_iff.mp hr
    refine tm_newarr rfl qh4 ?_
    obtain ⟨h5, qh5, hr⟩ := Option.bind_eq_some_iff.mp hr
    refine tm_putf rfl qh5 ?_
    refine tm_n 2 (F' := (23, [(0, .inr (.inr a0))], [.inl (120 : Int32), .inr (.inr a0)])) rfl ?_
    obtain ⟨h6, qh6, hr⟩ := Option.bind_eq_some_iff.mp hr
    refine tm_newarr rfl qh6 ?_
    obtain ⟨h7, qh7, hr⟩ := Option.bind_eq_some_iff.mp hr
    refine tm_putf rfl qh7 ?_
    refine tm_n 2 (F' := (32, [(0, .inr (.inr a0))], [.inl (360 : Int32), .inr (.inr a0)])) rfl ?_
    obtain ⟨h8, qh8, hr⟩ := Option.bind_eq_some_iff.mp hr
    refine tm_newarr rfl qh8 ?_
    obtain ⟨h9, qh9, hr⟩ := Option.bind_eq_some_iff.mp hr
    refine tm_putf rfl qh9 ?_
    refine tm_n 2 (F' := (40, [(0, .inr (.inr a0))], [.inl (120 : Int32), .inr (.inr a0)])) rfl ?_
    obtain ⟨h10, qh10, hr⟩ := Option.bind_eq_some_iff.mp hr
    refine tm_newarr rfl qh10 ?_
    obtain ⟨h11, qh11, hr⟩ := Option.bind_eq_some_iff.mp hr
    refine tm_putf rfl qh11 ?_
    refine tm_n 2 (F' := (48, [(0, .inr (.inr a0))], [.inl (120 : Int32), .inr (.inr a0)])) rfl ?_
    obtain ⟨h12, qh12, hr⟩ := Option.bind_eq_some_iff.mp hr
    refine tm_newarr rfl qh12 ?_
    obtain ⟨h13, qh13, hr⟩ := Option.bind_eq_some_iff.mp hr
    refine tm_putf rfl qh13 ?_
    refine tm_n 2 (F' := (56, [(0, .inr (.inr a0))], [.inl (120 : Int32), .inr (.inr a0)])) rfl ?_
    obtain ⟨h14, qh14, hr⟩ := Option.bind_eq_some_iff.mp hr
    refine tm_newarr rfl qh14 ?_
    obtain ⟨h15, qh15, hr⟩ := Option.bind_eq_some_iff.mp hr
    refine tm_putf rfl qh15 ?_
    refine tm_n 2 (F' := (64, [(0, .inr (.inr a0))], [.inl (120 : Int32), .inr (.inr a0)])) rfl ?_
    obtain ⟨h16, qh16, hr⟩ := Option.bind_eq_some_iff.mp hr
    refine tm_newarr rfl qh16 ?_
    obtain ⟨h17, qh17, hr⟩ := Option.bind_eq_some_iff.mp hr
    refine tm_putf rfl qh17 ?_
    refine tm_n 2 (F' := (72, [(0, .inr (.inr a0))], [.inl (120 : Int32), .inr (.inr a0)])) rfl ?_
    obtain ⟨h18, qh18, hr⟩ := Option.bind_eq_some_iff.mp hr
    refine tm_newarr rfl qh18 ?_
    obtain ⟨h19, qh19, hr⟩ := Option.bind_eq_some_iff.mp hr
    refine tm_putf rfl qh19 ?_
    refine tm_n 2 (F' := (80, [(0, .inr (.inr a0))], [.inl (120 : Int32), .inr (.inr a0)])) rfl ?_
    obtain ⟨h20, qh20, hr⟩ := Option.bind_eq_some_iff.mp hr
    refine tm_newarr rfl qh20 ?_
    obtain ⟨h21, qh21, hr⟩ := Option.bind_eq_some_iff.mp hr
    refine tm_putf rfl qh21 ?_
    refine tm_n 2 (F' := (88, [(0, .inr (.inr a0))], [.inl (120 : Int32), .inr (.inr a0)])) rfl ?_
    obtain ⟨h22, qh22, hr⟩ := Option.bind_eq_some_iff.mp hr
    refine tm_newarr rfl qh22 ?_
    obtain ⟨h23, qh23, hr⟩ := Option.bind_eq_some_iff.mp hr
    refine tm_putf rfl qh23 ?_
    refine tm_n 2 (F' := (96, [(0, .inr (.inr a0))], [.inl (120 : Int32), .inr (.inr a0)])) rfl ?_
    obtain ⟨h24, qh24, hr⟩ := Option.bind_eq_some_iff.mp hr
    refine tm_newarr rfl qh24 ?_
    obtain ⟨h25, qh25, hr⟩ := Option.bind_eq_some_iff.mp hr
    refine tm_putf rfl qh25 ?_
    refine tm_n 2 (F' := (104, [(0, .inr (.inr a0))], [.inl (120 : Int32), .inr (.inr a0)])) rfl ?_
    obtain ⟨h26, qh26, hr⟩ := Option.bind_eq_some_iff.mp hr
    refine tm_newarr rfl qh26 ?_
    obtain ⟨h27, qh27, hr⟩ := Option.bind_eq_some_iff.mp hr
    refine tm_putf rfl qh27 ?_
    refine tm_n 2 (F' := (113, [(0, .inr (.inr a0))], [.inl (2400 : Int32), .inr (.inr a0)])) rfl ?_
    obtain ⟨h28, qh28, hr⟩ := Option.bind_eq_some_iff.mp hr
    refine tm_newarr rfl qh28 ?_
    obtain ⟨h29, qh29, hr⟩ := Option.bind_eq_some_iff.mp hr
    refine tm_putf rfl qh29 ?_
    refine tm_n 2 (F' := (122, [(0, .inr (.inr a0))], [.inl (2400 : Int32), .inr (.inr a0)])) rfl ?_
    obtain ⟨h30, qh30, hr⟩ := Option.bind_eq_some_iff.mp hr
    refine tm_newarr rfl qh30 ?_
    obtain ⟨h31, qh31, hr⟩ := Option.bind_eq_some_iff.mp hr
    refine tm_putf rfl qh31 ?_
    refine tm_n 2 (F' := (130, [(0, .inr (.inr a0))], [.inl (9 : Int32), .inr (.inr a0)])) rfl ?_
    obtain ⟨h32, qh32, hr⟩ := Option.bind_eq_some_iff.mp hr
    refine tm_newarr rfl qh32 ?_
    obtain ⟨h33, qh33, hr⟩ := Option.bind_eq_some_iff.mp hr
    refine tm_putf rfl qh33 ?_
    refine tm_n 2 (F' := (137, [(0, .inr (.inr a0))], [.inl (3 : Int32), .inr (.inr a0)])) rfl ?_
    obtain ⟨h34, qh34, hr⟩ := Option.bind_eq_some_iff.mp hr
    refine tm_newarr rfl qh34 ?_
    obtain ⟨h35, qh35, hr⟩ := Option.bind_eq_some_iff.mp hr
    refine tm_putf rfl qh35 ?_
    refine tm_n 2 (F' := (146, [(0, .inr (.inr a0))], [.inl (360 : Int32), .inr (.inr a0)])) rfl ?_
    obtain ⟨h36, qh36, hr⟩ := Option.bind_eq_some_iff.mp hr
    refine tm_newarr rfl qh36 ?_
    obtain ⟨h37, qh37, hr⟩ := Option.bind_eq_some_iff.mp hr
    refine tm_putf rfl qh37 ?_
    refine tm_n 2 (F' := (155, [(0, .inr (.inr a0))], [.inl (720 : Int32), .inr (.inr a0)])) rfl ?_
    obtain ⟨h38, qh38, hr⟩ := Option.bind_eq_some_iff.mp hr
    refine tm_newarr rfl qh38 ?_
    obtain ⟨h39, qh39, hr⟩ := Option.bind_eq_some_iff.mp hr
    refine tm_putf rfl qh39 ?_
    refine tm_n 2 (F' := (163, [(0, .inr (.inr a0))], [.inl (6 : Int32), .inr (.inr a0)])) rfl ?_
    obtain ⟨h40, qh40, hr⟩ := Option.bind_eq_some_iff.mp hr
    refine tm_newarr rfl qh40 ?_
    obtain ⟨h41, qh41, hr⟩ := Option.bind_eq_some_iff.mp hr
    refine tm_putf rfl qh41 ?_
    refine tm_n 2 (F' := (171, [(0, .inr (.inr a0))], [.inl (20 : Int32), .inr (.inr a0)])) rfl ?_
    obtain ⟨h42, qh42, hr⟩ := Option.bind_eq_some_iff.mp hr
    refine tm_newarr rfl qh42 ?_
    obtain ⟨h43, qh43, hr⟩ := Option.bind_eq_some_iff.mp hr
    refine tm_putf rfl qh43 ?_
    refine tm_n 2 (F' := (179, [(0, .inr (.inr a0))], [.inl (24 : Int32), .inr (.inr a0)])) rfl ?_
    obtain ⟨h44, qh44, hr⟩ := Option.bind_eq_some_iff.mp hr
    refine tm_newarr rfl qh44 ?_
    obtain ⟨h45, qh45, hr⟩ := Option.bind_eq_some_iff.mp hr
    refine tm_putf rfl qh45 ?_
    refine tm_n 2 (F' := (186, [(0, .inr (.inr a0))], [.inl (-1 : Int32), .inr (.inr a0)])) rfl ?_
    obtain ⟨h46, qh46, hr⟩ := Option.bind_eq_some_iff.mp hr
    refine tm_putf rfl qh46 ?_
    refine tm_n 2 (F' := (192, [(0, .inr (.inr a0))], [.inl (120 : Int32), .inr (.inr a0)])) rfl ?_
    obtain ⟨h47, qh47, hr⟩ := Option.bind_eq_some_iff.mp hr
    refine tm_newarr rfl qh47 ?_
    obtain ⟨h48, qh48, hr⟩ := Option.bind_eq_some_iff.mp hr
    refine tm_putf rfl qh48 ?_
    refine tm_n 2 (F' := (200, [(0, .inr (.inr a0))], [.inl (120 : Int32), .inr (.inr a0)])) rfl ?_
    obtain ⟨h49, qh49, hr⟩ := Option.bind_eq_some_iff.mp hr
    refine tm_newarr rfl qh49 ?_
    obtain ⟨h50, qh50, hr⟩ := Option.bind_eq_some_iff.mp hr
    refine tm_putf rfl qh50 ?_
    refine tm_n 2 (F' := (208, [(0, .inr (.inr a0))], [.inl (120 : Int32), .inr (.inr a0)])) rfl ?_
    obtain ⟨h51, qh51, hr⟩ := Option.bind_eq_some_iff.mp hr
    refine tm_newarr rfl qh51 ?_
    obtain ⟨h52, qh52, hr⟩ := Option.bind_eq_some_iff.mp hr
    refine tm_putf rfl qh52 ?_
    refine tm_n 2 (F' := (216, [(0, .inr (.inr a0))], [.inl (120 : Int32), .inr (.inr a0)])) rfl ?_
    obtain ⟨h53, qh53, hr⟩ := Option.bind_eq_some_iff.mp hr
    refine tm_newarr rfl qh53 ?_
    obtain ⟨h54, qh54, hr⟩ := Option.bind_eq_some_iff.mp hr
    refine tm_putf rfl qh54 ?_
    refine tm_n 2 (F' := (224, [(0, .inr (.inr a0))], [.inl (120 : Int32), .inr (.inr a0)])) rfl ?_
    obtain ⟨h55, qh55, hr⟩ := Option.bind_eq_some_iff.mp hr
    refine tm_newarr rfl qh55 ?_
    obtain ⟨h56, qh56, hr⟩ := Option.bind_eq_some_iff.mp hr
    refine tm_putf rfl qh56 ?_
    refine tm_n 2 (F' := (232, [(0, .inr (.inr a0))], [.inl (24 : Int32), .inr (.inr a0)])) rfl ?_
    obtain ⟨h57, qh57, hr⟩ := Option.bind_eq_some_iff.mp hr
    refine tm_newarr rfl qh57 ?_
    obtain ⟨h58, qh58, hr⟩ := Option.bind_eq_some_iff.mp hr
    refine tm_putf rfl qh58 ?_
    refine tm_n 2 (F' := (240, [(0, .inr (.inr a0))], [.inl (120 : Int32), .inr (.inr a0)])) rfl ?_
    obtain ⟨h59, qh59, hr⟩ := Option.bind_eq_some_iff.mp hr
    refine tm_newarr rfl qh59 ?_
    obtain ⟨h60, qh60, hr⟩ := Option.bind_eq_some_iff.mp hr
    refine tm_putf rfl qh60 ?_
    refine tm_n 2 (F' := (248, [(0, .inr (.inr a0))], [.inl (20 : Int32), .inr (.inr a0)])) rfl ?_
    obtain ⟨h61, qh61, hr⟩ := Option.bind_eq_some_iff.mp hr
    refine tm_newarr rfl qh61 ?_
    obtain ⟨h62, qh62, hr⟩ := Option.bind_eq_some_iff.mp hr
    refine tm_putf rfl qh62 ?_
    refine tm_n 2 (F' := (256, [(0, .inr (.inr a0))], [.inl (80 : Int32), .inr (.inr a0)])) rfl ?_
    obtain ⟨h63, qh63, hr⟩ := Option.bind_eq_some_iff.mp hr
    refine tm_newarr rfl qh63 ?_
    obtain ⟨h64, qh64, hr⟩ := Option.bind_eq_some_iff.mp hr
    refine tm_putf rfl qh64 ?_
    cases hr
    exact tm_retV rfl
  · rw [if_neg c1] at hr
    cases hr
-- OfficeSheetModel.thrown()I
set_option maxRecDepth 20000 in
def ll_235 (a0 : Option Nat) (h : pm_H) : tm_L := (lf_I h a0 [10, 0]).bind fun v1 => some (.inl (some (.inl v1)), h)
set_option maxRecDepth 20000 in
theorem lq_235 {w : Option Nat} {d : Nat} {a0 : Option Nat} {h : pm_H} {r : tm_O × pm_H} (hr : ll_235 a0 h = some r) : tm_run pt_P (pt_G (tm_r w)) (d + 0) 235 [.inr (.inr a0)] h r := by
  unfold ll_235 at hr
  show pm_to pt_P (pt_G (tm_r w)) (d + 0) (pt_g235, []) (tm_m (0, [(0, .inr (.inr a0))], [])) h (tm_e r)
  refine tm_n 1 (F' := (1, [(0, .inr (.inr a0))], [.inr (.inr a0)])) rfl ?_
  obtain ⟨v1, qv1, hr⟩ := Option.bind_eq_some_iff.mp hr
  refine tm_getf rfl (lf_I_V qv1) ?_
  cases hr
  exact tm_retI rfl rfl
-- OfficeSheetModel.isOffice(I)Z
set_option maxRecDepth 20000 in
def ll_237 (a0 : Int32) (h : pm_H) : tm_L := if a0 < (0 : Int32) then some (.inl (some (.inl (0 : Int32))), h) else if (3 : Int32) ≤ a0 then some (.inl (some (.inl (0 : Int32))), h) else some (.inl (some (.inl (1 : Int32))), h)
set_option maxRecDepth 20000 in
theorem lq_237 {w : Option Nat} {d : Nat} {a0 : Int32} {h : pm_H} {r : tm_O × pm_H} (hr : ll_237 a0 h = some r) : tm_run pt_P (pt_G (tm_r w)) (d + 0) 237 [.inl a0] h r := by
  unfold ll_237 at hr
  show pm_to pt_P (pt_G (tm_r w)) (d + 0) (pt_g237, []) (tm_m (0, [(0, .inl a0)], [])) h (tm_e r)
  refine tm_n 1 (F' := (1, [(0, .inl a0)], [.inl a0])) rfl ?_
  by_cases c2 : a0 < (0 : Int32)
  · rw [if_pos c2] at hr
    refine tm_ifT rfl c2 ?_
    refine tm_n 1 (F' := (14, [(0, .inl a0)], [.inl (0 : Int32)])) rfl ?_
    cases hr
    exact tm_retI rfl rfl
  · rw [if_neg c2] at hr
    refine tm_ifF rfl c2 ?_
    refine tm_n 2 (F' := (6, [(0, .inl a0)], [.inl (3 : Int32), .inl a0])) rfl ?_
    by_cases c1 : (3 : Int32) ≤ a0
    · rw [if_pos c1] at hr
      refine tm_icT rfl c1 ?_
      refine tm_n 1 (F' := (14, [(0, .inl a0)], [.inl (0 : Int32)])) rfl ?_
      cases hr
      exact tm_retI rfl rfl
    · rw [if_neg c1] at hr
      refine tm_icF rfl c1 ?_
      refine tm_n 2 (F' := (14, [(0, .inl a0)], [.inl (1 : Int32)])) rfl ?_
      cases hr
      exact tm_retI rfl rfl
-- OfficeSheetModel.isKind(I)Z
set_option maxRecDepth 20000 in
def ll_238 (a0 : Int32) (h : pm_H) : tm_L := if a0 = (0 : Int32) then some (.inl (some (.inl (1 : Int32))), h) else if a0 = (1 : Int32) then some (.inl (some (.inl (1 : Int32))), h) else some (.inl (some (.inl (0 : Int32))), h)
set_option maxRecDepth 20000 in
theorem lq_238 {w : Option Nat} {d : Nat} {a0 : Int32} {h : pm_H} {r : tm_O × pm_H} (hr : ll_238 a0 h = some r) : tm_run pt_P (pt_G (tm_r w)) (d + 0) 238 [.inl a0] h r := by
  unfold ll_238 at hr
  show pm_to pt_P (pt_G (tm_r w)) (d + 0) (pt_g238, []) (tm_m (0, [(0, .inl a0)], [])) h (tm_e r)
  refine tm_n 1 (F' := (1, [(0, .inl a0)], [.inl a0])) rfl ?_
  by_cases c2 : a0 = (0 : Int32)
  · rw [if_pos c2] at hr
    refine tm_ifT rfl c2 ?_
    refine tm_n 2 (F' := (14, [(0, .inl a0)], [.inl (1 : Int32)])) rfl ?_
    cases hr
    exact tm_retI rfl rfl
  · rw [if_neg c2] at hr
    refine tm_ifF rfl c2 ?_
    refine tm_n 2 (F' := (6, [(0, .inl a0)], [.inl (1 : Int32), .inl a0])) rfl ?_
    by_cases c1 : a0 = (1 : Int32)
    · rw [if_pos c1] at hr
      refine tm_icF rfl (fun q => q c1) ?_
      refine tm_n 2 (F' := (14, [(0, .inl a0)], [.inl (1 : Int32)])) rfl ?_
      cases hr
      exact tm_retI rfl rfl
    · rw [if_neg c1] at hr
      refine tm_icT rfl c1 ?_
      refine tm_n 1 (F' := (14, [(0, .inl a0)], [.inl (0 : Int32)])) rfl ?_
      cases hr
      exact tm_retI rfl rfl
-- OfficeSheetModel.isShown(III)Z
set_option maxRecDepth 20000 in
def ll_239 (a0 : Option Nat) (a1 : Int32) (a2 : Int32) (a3 : Int32) (h : pm_H) : tm_L := if a3 < (0 : Int32) then some (.inl (some (.inl (0 : Int32))), h) else (lf_R h a0 [10, 20]).bind fun v1 => (la_I h .iaload v1 (((2 : Int32) * a1) + a2)).bind fun v2 => if v2 ≤ a3 then some (.inl (some (.inl (0 : Int32))), h) else some (.inl (some (.inl (1 : Int32))), h)
set_option maxRecDepth 20000 in
theorem lq_239 {w : Option Nat} {d : Nat} {a0 : Option Nat} {a1 : Int32} {a2 : Int32} {a3 : Int32} {h : pm_H} {r : tm_O × pm_H} (hr : ll_239 a0 a1 a2 a3 h = some r) : tm_run pt_P (pt_G (tm_r w)) (d + 0) 239 [.inr (.inr a0), .inl a1, .inl a2, .inl a3] h r := by
  unfold ll_239 at hr
  show pm_to pt_P (pt_G (tm_r w)) (d + 0) (pt_g239, []) (tm_m (0, [(0, .inr (.inr a0)), (1, .inl a1), (2, .inl a2), (3, .inl a3)], [])) h (tm_e r)
  refine tm_n 1 (F' := (1, [(0, .inr (.inr a0)), (1, .inl a1), (2, .inl a2), (3, .inl a3)], [.inl a3])) rfl ?_
  by_cases c4 : a3 < (0 : Int32)
  · rw [if_pos c4] at hr
    refine tm_ifT rfl c4 ?_
    refine tm_n 1 (F' := (23, [(0, .inr (.inr a0)), (1, .inl a1), (2, .inl a2), (3, .inl a3)], [.inl (0 : Int32)])) rfl ?_
    cases hr
    exact tm_retI rfl rfl
  · rw [if_neg c4] at hr
    refine tm_ifF rfl c4 ?_
    refine tm_n 2 (F' := (6, [(0, .inr (.inr a0)), (1, .inl a1), (2, .inl a2), (3, .inl a3)], [.inr (.inr a0), .inl a3])) rfl ?_
    obtain ⟨v1, qv1, hr⟩ := Option.bind_eq_some_iff.mp hr
    refine tm_getf rfl (lf_R_V qv1) ?_
    refine tm_n 5 (F' := (14, [(0, .inr (.inr a0)), (1, .inl a1), (2, .inl a2), (3, .inl a3)], [.inl (((2 : Int32) * a1) + a2), .inr (.inr v1), .inl a3])) rfl ?_
    obtain ⟨v2, qv2, hr⟩ := Option.bind_eq_some_iff.mp hr
    refine tm_ald rfl rfl (la_I_V qv2) ?_
    by_cases c3 : v2 ≤ a3
    · rw [if_pos c3] at hr
      refine tm_icT rfl c3 ?_
      refine tm_n 1 (F' := (23, [(0, .inr (.inr a0)), (1, .inl a1), (2, .inl a2), (3, .inl a3)], [.inl (0 : Int32)])) rfl ?_
      cases hr
      exact tm_retI rfl rfl
    · rw [if_neg c3] at hr
      refine tm_icF rfl c3 ?_
      refine tm_n 2 (F' := (23, [(0, .inr (.inr a0)), (1, .inl a1), (2, .inl a2), (3, .inl a3)], [.inl (1 : Int32)])) rfl ?_
      cases hr
      exact tm_retI rfl rfl
-- OfficeSheetModel.isFull(I)Z
set_option maxRecDepth 20000 in
def ll_240 (a0 : Option Nat) (a1 : Int32) (h : pm_H) : tm_L := (lf_R h a0 [10, 16]).bind fun v1 => (la_I h .iaload v1 ((4 : Int32) * a1)).bind fun v2 => if v2 = (40 : Int32) then some (.inl (some (.inl (1 : Int32))), h) else some (.inl (some (.inl (0 : Int32))), h)
set_option maxRecDepth 20000 in
theorem lq_240 {w : Option Nat} {d : Nat} {a0 : Option Nat} {a1 : Int32} {h : pm_H} {r : tm_O × pm_H} (hr : ll_240 a0 a1 h = some r) : tm_run pt_P (pt_G (tm_r w)) (d + 0) 240 [.inr (.inr a0), .inl a1] h r := by
  unfold ll_240 at hr
  show pm_to pt_P (pt_G (tm_r w)) (d + 0) (pt_g240, []) (tm_m (0, [(0, .inr (.inr a0)), (1, .inl a1)], [])) h (tm_e r)
  refine tm_n 1 (F' := (1, [(0, .inr (.inr a0)), (1, .inl a1)], [.inr (.inr a0)])) rfl ?_
  obtain ⟨v1, qv1, hr⟩ := Option.bind_eq_some_iff.mp hr
  refine tm_getf rfl (lf_R_V qv1) ?_
  refine tm_n 3 (F' := (7, [(0, .inr (.inr a0)), (1, .inl a1)], [.inl ((4 : Int32) * a1), .inr (.inr v1)])) rfl ?_
  obtain ⟨v2, qv2, hr⟩ := Option.bind_eq_some_iff.mp hr
  refine tm_ald rfl rfl (la_I_V qv2) ?_
  refine tm_n 1 (F' := (10, [(0, .inr (.inr a0)), (1, .inl a1)], [.inl (40 : Int32), .inl v2])) rfl ?_
  by_cases c3 : v2 = (40 : Int32)
  · rw [if_pos c3] at hr
    refine tm_icF rfl (fun q => q c3) ?_
    refine tm_n 2 (F' := (18, [(0, .inr (.inr a0)), (1, .inl a1)], [.inl (1 : Int32)])) rfl ?_
    cases hr
    exact tm_retI rfl rfl
  · rw [if_neg c3] at hr
    refine tm_icT rfl c3 ?_
    refine tm_n 1 (F' := (18, [(0, .inr (.inr a0)), (1, .inl a1)], [.inl (0 : Int32)])) rfl ?_
    cases hr
    exact tm_retI rfl rfl
-- OfficeSheetModel.shownAt(III)I
set_option maxRecDepth 20000 in
def ll_242 (a0 : Option Nat) (a1 : Int32) (a2 : Int32) (a3 : Int32) (h : pm_H) : tm_L := (lf_R h a0 [10, 19]).bind fun v1 => (la_I h .iaload v1 ((((240 : Int32) * a1) + ((120 : Int32) * a2)) + a3)).bind fun v2 => some (.inl (some (.inl v2)), h)
set_option maxRecDepth 20000 in
theorem lq_242 {w : Option Nat} {d : Nat} {a0 : Option Nat} {a1 : Int32} {a2 : Int32} {a3 : Int32} {h : pm_H} {r : tm_O × pm_H} (hr : ll_242 a0 a1 a2 a3 h = some r) : tm_run pt_P (pt_G (tm_r w)) (d + 0) 242 [.inr (.inr a0), .inl a1, .inl a2, .inl a3] h r := by
  unfold ll_242 at hr
  show pm_to pt_P (pt_G (tm_r w)) (d + 0) (pt_g242, []) (tm_m (0, [(0, .inr (.inr a0)), (1, .inl a1), (2, .inl a2), (3, .inl a3)], [])) h (tm_e r)
  refine tm_n 1 (F' := (1, [(0, .inr (.inr a0)), (1, .inl a1), (2, .inl a2), (3, .inl a3)], [.inr (.inr a0)])) rfl ?_
  obtain ⟨v1, qv1, hr⟩ := Option.bind_eq_some_iff.mp hr
  refine tm_getf rfl (lf_R_V qv1) ?_
  refine tm_n 9 (F' := (16, [(0, .inr (.inr a0)), (1, .inl a1), (2, .inl a2), (3, .inl a3)], [.inl ((((240 : Int32) * a1) + ((120 : Int32) * a2)) + a3), .inr (.inr v1)])) rfl ?_
  obtain ⟨v2, qv2, hr⟩ := Option.bind_eq_some_iff.mp hr
  refine tm_ald rfl rfl (la_I_V qv2) ?_
  cases hr
  exact tm_retI rfl rfl
-- OfficeSheetModel.has(II)Z
set_option maxRecDepth 20000 in
def ll_244 (a0 : Option Nat) (a1 : Int32) (a2 : Int32) (h : pm_H) : tm_L := (lf_R h a0 [10, 16]).bind fun v1 => (la_I h .iaload v1 (((3 : Int32) * a1) + (a2 / (40 : Int32)))).bind fun v2 => if v2 ≤ (a2 - a2 / (40 : Int32) * (40 : Int32)) then some (.inl (some (.inl (0 : Int32))), h) else some (.inl (some (.inl (1 : Int32))), h)
set_option maxRecDepth 20000 in
theorem lq_244 {w : Option Nat} {d : Nat} {a0 : Option Nat} {a1 : Int32} {a2 : Int32} {h : pm_H} {r : tm_O × pm_H} (hr : ll_244 a0 a1 a2 h = some r) : tm_run pt_P (pt_G (tm_r w)) (d + 0) 244 [.inr (.inr a0), .inl a1, .inl a2] h r := by
  unfold ll_244 at hr
  show pm_to pt_P (pt_G (tm_r w)) (d + 0) (pt_g244, []) (tm_m (0, [(0, .inr (.inr a0)), (1, .inl a1), (2, .inl a2)], [])) h (tm_e r)
  refine tm_n 4 (F' := (5, [(0, .inr (.inr a0)), (1, .inl a1), (2, .inl a2)], [.inr (.inr a0), .inl (a2 - a2 / (40 : Int32) * (40 : Int32))])) rfl ?_
  obtain ⟨v1, qv1, hr⟩ := Option.bind_eq_some_iff.mp hr
  refine tm_getf rfl (lf_R_V qv1) ?_
  refine tm_n 7 (F' := (16, [(0, .inr (.inr a0)), (1, .inl a1), (2, .inl a2)], [.inl (((3 : Int32) * a1) + (a2 / (40 : Int32))), .inr (.inr v1), .inl (a2 - a2 / (40 : Int32) * (40 : Int32))])) rfl ?_
  obtain ⟨v2, qv2, hr⟩ := Option.bind_eq_some_iff.mp hr
  refine tm_ald rfl rfl (la_I_V qv2) ?_
  by_cases c3 : v2 ≤ (a2 - a2 / (40 : Int32) * (40 : Int32))
  · rw [if_pos c3] at hr
    refine tm_icT rfl c3 ?_
    refine tm_n 1 (F' := (25, [(0, .inr (.inr a0)), (1, .inl a1), (2, .inl a2)], [.inl (0 : Int32)])) rfl ?_
    cases hr
    exact tm_retI rfl rfl
  · rw [if_neg c3] at hr
    refine tm_icF rfl c3 ?_
    refine tm_n 2 (F' := (25, [(0, .inr (.inr a0)), (1, .inl a1), (2, .inl a2)], [.inl (1 : Int32)])) rfl ?_
    cases hr
    exact tm_retI rfl rfl
-- OfficeSheetModel.key(I)I
set_option maxRecDepth 20000 in
def ll_245 (a0 : Option Nat) (a1 : Int32) (h : pm_H) : tm_L := (lf_R h a0 [10, 3]).bind fun v1 => (la_I h .iaload v1 a1).bind fun v2 => some (.inl (some (.inl (((4 : Int32) * v2) + (a1 / (40 : Int32))))), h)
set_option maxRecDepth 20000 in
theorem lq_245 {w : Option Nat} {d : Nat} {a0 : Option Nat} {a1 : Int32} {h : pm_H} {r : tm_O × pm_H} (hr : ll_245 a0 a1 h = some r) : tm_run pt_P (pt_G (tm_r w)) (d + 0) 245 [.inr (.inr a0), .inl a1] h r := by
  unfold ll_245 at hr
  show pm_to pt_P (pt_G (tm_r w)) (d + 0) (pt_g245, []) (tm_m (0, [(0, .inr (.inr a0)), (1, .inl a1)], [])) h (tm_e r)
  refine tm_n 2 (F' := (2, [(0, .inr (.inr a0)), (1, .inl a1)], [.inr (.inr a0), .inl (4 : Int32)])) rfl ?_
  obtain ⟨v1, qv1, hr⟩ := Option.bind_eq_some_iff.mp hr
  refine tm_getf rfl (lf_R_V qv1) ?_
  refine tm_n 1 (F' := (6, [(0, .inr (.inr a0)), (1, .inl a1)], [.inl a1, .inr (.inr v1), .inl (4 : Int32)])) rfl ?_
  obtain ⟨v2, qv2, hr⟩ := Option.bind_eq_some_iff.mp hr
  refine tm_ald rfl rfl (la_I_V qv2) ?_
  refine tm_n 5 (F' := (13, [(0, .inr (.inr a0)), (1, .inl a1)], [.inl (((4 : Int32) * v2) + (a1 / (40 : Int32)))])) rfl ?_
  cases hr
  exact tm_retI rfl rfl
-- OfficeSheetModel.latest(IIZ)I
set_option maxRecDepth 20000 in
def l243_116 (K6 : Option Nat → Int32 → Int32 → Int32 → Int32 → Int32 → pm_H → tm_L) (x0 : Option Nat) (x1 : Int32) (x2 : Int32) (x3 : Int32) (x4 : Int32) (x5 : Int32) (h : pm_H) : tm_L := K6 x0 x1 x2 x3 x4 (x5 + (1 : Int32)) h
set_option maxRecDepth 20000 in
theorem l243_116_t {w : Option Nat} {d : Nat} {K6 : Option Nat → Int32 → Int32 → Int32 → Int32 → Int32 → pm_H → tm_L} (hK6 : ∀ {x0 : Option Nat} {x1 : Int32} {x2 : Int32} {x3 : Int32} {x4 : Int32} {x5 : Int32}  {h : pm_H} {r : tm_O × pm_H}, K6 x0 x1 x2 x3 x4 x5 h = some r → pm_to pt_P (pt_G (tm_r w)) (d + 1) (pt_g243, []) (tm_m (6, [(0, .inr (.inr x0)), (1, .inl x1), (2, .inl x2), (3, .inl x3), (4, .inl x4), (5, .inl x5)], [])) h (tm_e r)) {x0 : Option Nat} {x1 : Int32} {x2 : Int32} {x3 : Int32} {x4 : Int32} {x5 : Int32} {h : pm_H} {r : tm_O × pm_H} (hr : l243_116 K6 x0 x1 x2 x3 x4 x5 h = some r) : pm_to pt_P (pt_G (tm_r w)) (d + 1) (pt_g243, []) (tm_m (116, [(0, .inr (.inr x0)), (1, .inl x1), (2, .inl x2), (3, .inl x3), (4, .inl x4), (5, .inl x5)], [])) h (tm_e r) := by
  unfold l243_116 at hr
  refine tm_n 2 (F' := (6, [(5, .inl (x5 + (1 : Int32))), (0, .inr (.inr x0)), (1, .inl x1), (2, .inl x2), (3, .inl x3), (4, .inl x4)], [])) rfl ?_
  refine tm_cut (a := [(0, .inr (.inr x0)), (1, .inl x1), (2, .inl x2), (3, .inl x3), (4, .inl x4), (5, .inl (x5 + (1 : Int32)))]) rfl (tm_sbs [1, 2, 3, 4, 5, 0] rfl) ?_
  exact hK6 hr
set_option maxRecDepth 20000 in
def l243_112 (K6 : Option Nat → Int32 → Int32 → Int32 → Int32 → Int32 → pm_H → tm_L) (x0 : Option Nat) (x1 : Int32) (x2 : Int32) (x3 : Int32) (x5 : Int32) (h : pm_H) : tm_L := l243_116 K6 x0 x1 x2 x3 x5 x5 h
set_option maxRecDepth 20000 in
theorem l243_112_t {w : Option Nat} {d : Nat} {K6 : Option Nat → Int32 → Int32 → Int32 → Int32 → Int32 → pm_H → tm_L} (hK6 : ∀ {x0 : Option Nat} {x1 : Int32} {x2 : Int32} {x3 : Int32} {x4 : Int32} {x5 : Int32}  {h : pm_H} {r : tm_O × pm_H}, K6 x0 x1 x2 x3 x4 x5 h = some r → pm_to pt_P (pt_G (tm_r w)) (d + 1) (pt_g243, []) (tm_m (6, [(0, .inr (.inr x0)), (1, .inl x1), (2, .inl x2), (3, .inl x3), (4, .inl x4), (5, .inl x5)], [])) h (tm_e r)) {x0 : Option Nat} {x1 : Int32} {x2 : Int32} {x3 : Int32} {x5 : Int32} {h : pm_H} {r : tm_O × pm_H} (hr : l243_112 K6 x0 x1 x2 x3 x5 h = some r) : pm_to pt_P (pt_G (tm_r w)) (d + 1) (pt_g243, []) (tm_m (112, [(0, .inr (.inr x0)), (1, .inl x1), (2, .inl x2), (3, .inl x3), (5, .inl x5)], [])) h (tm_e r) := by
  unfold l243_112 at hr
  refine tm_n 2 (F' := (116, [(4, .inl x5), (0, .inr (.inr x0)), (1, .inl x1), (2, .inl x2), (3, .inl x3), (5, .inl x5)], [])) rfl ?_
  refine tm_cut (a := [(0, .inr (.inr x0)), (1, .inl x1), (2, .inl x2), (3, .inl x3), (4, .inl x5), (5, .inl x5)]) rfl (tm_sbs [1, 2, 3, 4, 0, 5] rfl) ?_
  exact l243_116_t hK6 hr
set_option maxRecDepth 20000 in
def l243_64 (K6 : Option Nat → Int32 → Int32 → Int32 → Int32 → Int32 → pm_H → tm_L) (x0 : Option Nat) (x1 : Int32) (x2 : Int32) (x3 : Int32) (x4 : Int32) (x5 : Int32) (s0 : Int32) (h : pm_H) : tm_L := if s0 = (0 : Int32) then l243_116 K6 x0 x1 x2 x3 x4 x5 h else if lc_of h x0 = some 10 then lb_I (ll_244 x0 x1 x5 h) (fun v2 h3 => if v2 = (0 : Int32) then l243_116 K6 x0 x1 x2 x3 x4 x5 h3 else (lf_R h3 x0 [10, 5]).bind fun v5 => (la_I h3 .iaload v5 x5).bind fun v6 => if v6 = x2 then if x4 < (0 : Int32) then l243_112 K6 x0 x1 x2 x3 x5 h3 else if lc_of h3 x0 = some 10 then lb_I (ll_245 x0 x5 h3) (fun v8 h9 => if lc_of h9 x0 = some 10 then lb_I (ll_245 x0 x4 h9) (fun v12 h13 => if v8 ≤ v12 then l243_116 K6 x0 x1 x2 x3 x4 x5 h13 else l243_112 K6 x0 x1 x2 x3 x5 h13) else none) else none else l243_116 K6 x0 x1 x2 x3 x4 x5 h3) else none
set_option maxRecDepth 20000 in
theorem l243_64_t {w : Option Nat} {d : Nat} {K6 : Option Nat → Int32 → Int32 → Int32 → Int32 → Int32 → pm_H → tm_L} (hK6 : ∀ {x0 : Option Nat} {x1 : Int32} {x2 : Int32} {x3 : Int32} {x4 : Int32} {x5 : Int32}  {h : pm_H} {r : tm_O × pm_H}, K6 x0 x1 x2 x3 x4 x5 h = some r → pm_to pt_P (pt_G (tm_r w)) (d + 1) (pt_g243, []) (tm_m (6, [(0, .inr (.inr x0)), (1, .inl x1), (2, .inl x2), (3, .inl x3), (4, .inl x4), (5, .inl x5)], [])) h (tm_e r)) {x0 : Option Nat} {x1 : Int32} {x2 : Int32} {x3 : Int32} {x4 : Int32} {x5 : Int32} {s0 : Int32} {h : pm_H} {r : tm_O × pm_H} (hr : l243_64 K6 x0 x1 x2 x3 x4 x5 s0 h = some r) : pm_to pt_P (pt_G (tm_r w)) (d + 1) (pt_g243, []) (tm_m (64, [(0, .inr (.inr x0)), (1, .inl x1), (2, .inl x2), (3, .inl x3), (4, .inl x4), (5, .inl x5)], [.inl s0])) h (tm_e r) := by
  unfold l243_64 at hr
  refine tm_n 2 (F' := (68, [(7, .inl s0), (0, .inr (.inr x0)), (1, .inl x1), (2, .inl x2), (3, .inl x3), (4, .inl x4), (5, .inl x5)], [.inl s0])) rfl ?_
  by_cases c25 : s0 = (0 : Int32)
  · rw [if_pos c25] at hr
    refine tm_ifT rfl c25 ?_
    refine tm_cut (a := [(0, .inr (.inr x0)), (1, .inl x1), (2, .inl x2), (3, .inl x3), (4, .inl x4), (5, .inl x5)]) rfl (tm_sbs [1, 2, 3, 4, 5, 6] rfl) ?_
    exact l243_116_t hK6 hr
  · rw [if_neg c25] at hr
    refine tm_ifF rfl c25 ?_
    refine tm_n 3 (F' := (75, [(7, .inl s0), (0, .inr (.inr x0)), (1, .inl x1), (2, .inl x2), (3, .inl x3), (4, .inl x4), (5, .inl x5)], [.inl x5, .inl x1, .inr (.inr x0)])) rfl ?_
    by_cases c1 : lc_of h x0 = some 10
    · rw [if_pos c1] at hr
      rcases lb_I_s hr with ⟨v2, h3, m4, hr⟩ | ⟨a23, h3, z24, z24l, m4, qz24, rfl⟩
      · try dsimp only at hr
        refine tm_call rfl rfl (tm_callV rfl rfl c1 rfl rfl) (lq_244 m4) ?_
        by_cases c22 : v2 = (0 : Int32)
        · rw [if_pos c22] at hr
          refine tm_ifT rfl c22 ?_
          refine tm_cut (a := [(0, .inr (.inr x0)), (1, .inl x1), (2, .inl x2), (3, .inl x3), (4, .inl x4), (5, .inl x5)]) rfl (tm_sbs [1, 2, 3, 4, 5, 6] rfl) ?_
          exact l243_116_t hK6 hr
        · rw [if_neg c22] at hr
          refine tm_ifF rfl c22 ?_
          refine tm_n 1 (F' := (82, [(7, .inl s0), (0, .inr (.inr x0)), (1, .inl x1), (2, .inl x2), (3, .inl x3), (4, .inl x4), (5, .inl x5)], [.inr (.inr x0)])) rfl ?_
          obtain ⟨v5, qv5, hr⟩ := Option.bind_eq_some_iff.mp hr
          refine tm_getf rfl (lf_R_V qv5) ?_
          refine tm_n 1 (F' := (87, [(7, .inl s0), (0, .inr (.inr x0)), (1, .inl x1), (2, .inl x2), (3, .inl x3), (4, .inl x4), (5, .inl x5)], [.inl x5, .inr (.inr v5)])) rfl ?_
          obtain ⟨v6, qv6, hr⟩ := Option.bind_eq_some_iff.mp hr
          refine tm_ald rfl rfl (la_I_V qv6) ?_
          refine tm_n 1 (F' := (89, [(7, .inl s0), (0, .inr (.inr x0)), (1, .inl x1), (2, .inl x2), (3, .inl x3), (4, .inl x4), (5, .inl x5)], [.inl x2, .inl v6])) rfl ?_
          by_cases c21 : v6 = x2
          · rw [if_pos c21] at hr
            refine tm_icF rfl (fun q => q c21) ?_
            refine tm_n 1 (F' := (94, [(7, .inl s0), (0, .inr (.inr x0)), (1, .inl x1), (2, .inl x2), (3, .inl x3), (4, .inl x4), (5, .inl x5)], [.inl x4])) rfl ?_
            by_cases c20 : x4 < (0 : Int32)
            · rw [if_pos c20] at hr
              refine tm_ifT rfl c20 ?_
              refine tm_cut (a := [(0, .inr (.inr x0)), (1, .inl x1), (2, .inl x2), (3, .inl x3), (5, .inl x5)]) rfl (tm_sbs [1, 2, 3, 4, 6] rfl) ?_
              exact l243_112_t hK6 hr
            · rw [if_neg c20] at hr
              refine tm_ifF rfl c20 ?_
              refine tm_n 2 (F' := (100, [(7, .inl s0), (0, .inr (.inr x0)), (1, .inl x1), (2, .inl x2), (3, .inl x3), (4, .inl x4), (5, .inl x5)], [.inl x5, .inr (.inr x0)])) rfl ?_
              by_cases c7 : lc_of h3 x0 = some 10
              · rw [if_pos c7] at hr
                rcases lb_I_s hr with ⟨v8, h9, m10, hr⟩ | ⟨a18, h9, z19, z19l, m10, qz19, rfl⟩
                · try dsimp only at hr
                  refine tm_call rfl rfl (tm_callV rfl rfl c7 rfl rfl) (lq_245 m10) ?_
                  refine tm_n 2 (F' := (106, [(7, .inl s0), (0, .inr (.inr x0)), (1, .inl x1), (2, .inl x2), (3, .inl x3), (4, .inl x4), (5, .inl x5)], [.inl x4, .inr (.inr x0), .inl v8])) rfl ?_
                  by_cases c11 : lc_of h9 x0 = some 10
                  · rw [if_pos c11] at hr
                    rcases lb_I_s hr with ⟨v12, h13, m14, hr⟩ | ⟨a16, h13, z17, z17l, m14, qz17, rfl⟩
                    · try dsimp only at hr
                      refine tm_call rfl rfl (tm_callV rfl rfl c11 rfl rfl) (lq_245 m14) ?_
                      by_cases c15 : v8 ≤ v12
                      · rw [if_pos c15] at hr
                        refine tm_icT rfl c15 ?_
                        refine tm_cut (a := [(0, .inr (.inr x0)), (1, .inl x1), (2, .inl x2), (3, .inl x3), (4, .inl x4), (5, .inl x5)]) rfl (tm_sbs [1, 2, 3, 4, 5, 6] rfl) ?_
                        exact l243_116_t hK6 hr
                      · rw [if_neg c15] at hr
                        refine tm_icF rfl c15 ?_
                        refine tm_cut (a := [(0, .inr (.inr x0)), (1, .inl x1), (2, .inl x2), (3, .inl x3), (5, .inl x5)]) rfl (tm_sbs [1, 2, 3, 4, 6] rfl) ?_
                        exact l243_112_t hK6 hr
                    · exact tm_callT rfl rfl (tm_callV rfl rfl c11 rfl rfl) (lq_245 m14) qz17 rfl
                  · rw [if_neg c11] at hr
                    cases hr
                · exact tm_callT rfl rfl (tm_callV rfl rfl c7 rfl rfl) (lq_245 m10) qz19 rfl
              · rw [if_neg c7] at hr
                cases hr
          · rw [if_neg c21] at hr
            refine tm_icT rfl c21 ?_
            refine tm_cut (a := [(0, .inr (.inr x0)), (1, .inl x1), (2, .inl x2), (3, .inl x3), (4, .inl x4), (5, .inl x5)]) rfl (tm_sbs [1, 2, 3, 4, 5, 6] rfl) ?_
            exact l243_116_t hK6 hr
      · exact tm_callT rfl rfl (tm_callV rfl rfl c1 rfl rfl) (lq_244 m4) qz24 rfl
    · rw [if_neg c1] at hr
      cases hr
set_option maxRecDepth 20000 in
def l243_59 (K6 : Option Nat → Int32 → Int32 → Int32 → Int32 → Int32 → pm_H → tm_L) (x0 : Option Nat) (x1 : Int32) (x2 : Int32) (x3 : Int32) (x4 : Int32) (x5 : Int32) (h : pm_H) : tm_L := l243_64 K6 x0 x1 x2 x3 x4 x5 (1 : Int32) h
set_option maxRecDepth 20000 in
theorem l243_59_t {w : Option Nat} {d : Nat} {K6 : Option Nat → Int32 → Int32 → Int32 → Int32 → Int32 → pm_H → tm_L} (hK6 : ∀ {x0 : Option Nat} {x1 : Int32} {x2 : Int32} {x3 : Int32} {x4 : Int32} {x5 : Int32}  {h : pm_H} {r : tm_O × pm_H}, K6 x0 x1 x2 x3 x4 x5 h = some r → pm_to pt_P (pt_G (tm_r w)) (d + 1) (pt_g243, []) (tm_m (6, [(0, .inr (.inr x0)), (1, .inl x1), (2, .inl x2), (3, .inl x3), (4, .inl x4), (5, .inl x5)], [])) h (tm_e r)) {x0 : Option Nat} {x1 : Int32} {x2 : Int32} {x3 : Int32} {x4 : Int32} {x5 : Int32} {h : pm_H} {r : tm_O × pm_H} (hr : l243_59 K6 x0 x1 x2 x3 x4 x5 h = some r) : pm_to pt_P (pt_G (tm_r w)) (d + 1) (pt_g243, []) (tm_m (59, [(0, .inr (.inr x0)), (1, .inl x1), (2, .inl x2), (3, .inl x3), (4, .inl x4), (5, .inl x5)], [])) h (tm_e r) := by
  unfold l243_59 at hr
  refine tm_n 2 (F' := (64, [(0, .inr (.inr x0)), (1, .inl x1), (2, .inl x2), (3, .inl x3), (4, .inl x4), (5, .inl x5)], [.inl (1 : Int32)])) rfl ?_
  refine tm_cut (a := [(0, .inr (.inr x0)), (1, .inl x1), (2, .inl x2), (3, .inl x3), (4, .inl x4), (5, .inl x5)]) rfl (tm_sbs [0, 1, 2, 3, 4, 5] rfl) ?_
  exact l243_64_t hK6 hr
set_option maxRecDepth 20000 in
def l243_63 (K6 : Option Nat → Int32 → Int32 → Int32 → Int32 → Int32 → pm_H → tm_L) (x0 : Option Nat) (x1 : Int32) (x2 : Int32) (x3 : Int32) (x4 : Int32) (x5 : Int32) (h : pm_H) : tm_L := l243_64 K6 x0 x1 x2 x3 x4 x5 (0 : Int32) h
set_option maxRecDepth 20000 in
theorem l243_63_t {w : Option Nat} {d : Nat} {K6 : Option Nat → Int32 → Int32 → Int32 → Int32 → Int32 → pm_H → tm_L} (hK6 : ∀ {x0 : Option Nat} {x1 : Int32} {x2 : Int32} {x3 : Int32} {x4 : Int32} {x5 : Int32}  {h : pm_H} {r : tm_O × pm_H}, K6 x0 x1 x2 x3 x4 x5 h = some r → pm_to pt_P (pt_G (tm_r w)) (d + 1) (pt_g243, []) (tm_m (6, [(0, .inr (.inr x0)), (1, .inl x1), (2, .inl x2), (3, .inl x3), (4, .inl x4), (5, .inl x5)], [])) h (tm_e r)) {x0 : Option Nat} {x1 : Int32} {x2 : Int32} {x3 : Int32} {x4 : Int32} {x5 : Int32} {h : pm_H} {r : tm_O × pm_H} (hr : l243_63 K6 x0 x1 x2 x3 x4 x5 h = some r) : pm_to pt_P (pt_G (tm_r w)) (d + 1) (pt_g243, []) (tm_m (63, [(0, .inr (.inr x0)), (1, .inl x1), (2, .inl x2), (3, .inl x3), (4, .inl x4), (5, .inl x5)], [])) h (tm_e r) := by
  unfold l243_63 at hr
  refine tm_n 1 (F' := (64, [(0, .inr (.inr x0)), (1, .inl x1), (2, .inl x2), (3, .inl x3), (4, .inl x4), (5, .inl x5)], [.inl (0 : Int32)])) rfl ?_
  refine tm_cut (a := [(0, .inr (.inr x0)), (1, .inl x1), (2, .inl x2), (3, .inl x3), (4, .inl x4), (5, .inl x5)]) rfl (tm_sbs [0, 1, 2, 3, 4, 5] rfl) ?_
  exact l243_64_t hK6 hr
set_option maxRecDepth 20000 in
def l243_6 : Nat → Option Nat → Int32 → Int32 → Int32 → Int32 → Int32 → pm_H → tm_L
  | 0 => fun _ _ _ _ _ _ _ => none
  | n + 1 => fun x0 x1 x2 x3 x4 x5 h => if (120 : Int32) ≤ x5 then some (.inl (some (.inl x4)), h) else (lf_R h x0 [10, 1]).bind fun v1 => (la_I h .iaload v1 x5).bind fun v2 => if v2 = (1 : Int32) then l243_59 (l243_6 n) x0 x1 x2 x3 x4 x5 h else if x3 = (0 : Int32) then if v2 = (4 : Int32) then l243_59 (l243_6 n) x0 x1 x2 x3 x4 x5 h else if v2 = (5 : Int32) then l243_59 (l243_6 n) x0 x1 x2 x3 x4 x5 h else l243_63 (l243_6 n) x0 x1 x2 x3 x4 x5 h else if v2 = (2 : Int32) then l243_59 (l243_6 n) x0 x1 x2 x3 x4 x5 h else if v2 = (3 : Int32) then l243_59 (l243_6 n) x0 x1 x2 x3 x4 x5 h else l243_63 (l243_6 n) x0 x1 x2 x3 x4 x5 h
set_option maxRecDepth 20000 in
theorem l243_6_t {w : Option Nat} {d : Nat} : ∀ (n : Nat) {x0 : Option Nat} {x1 : Int32} {x2 : Int32} {x3 : Int32} {x4 : Int32} {x5 : Int32} {h : pm_H} {r : tm_O × pm_H}, l243_6 n x0 x1 x2 x3 x4 x5 h = some r → pm_to pt_P (pt_G (tm_r w)) (d + 1) (pt_g243, []) (tm_m (6, [(0, .inr (.inr x0)), (1, .inl x1), (2, .inl x2), (3, .inl x3), (4, .inl x4), (5, .inl x5)], [])) h (tm_e r) := by
  intro n
  induction n with
  | zero => intro x0 x1 x2 x3 x4 x5 h r hr; cases hr
  | succ n ih =>
    intro x0 x1 x2 x3 x4 x5 h r hr
    unfold l243_6 at hr
    refine tm_n 2 (F' := (10, [(0, .inr (.inr x0)), (1, .inl x1), (2, .inl x2), (3, .inl x3), (4, .inl x4), (5, .inl x5)], [.inl (120 : Int32), .inl x5])) rfl ?_
    by_cases c9 : (120 : Int32) ≤ x5
    · rw [if_pos c9] at hr
      refine tm_icT rfl c9 ?_
      refine tm_n 1 (F' := (124, [(0, .inr (.inr x0)), (1, .inl x1), (2, .inl x2), (3, .inl x3), (4, .inl x4), (5, .inl x5)], [.inl x4])) rfl ?_
      cases hr
      exact tm_retI rfl rfl
    · rw [if_neg c9] at hr
      refine tm_icF rfl c9 ?_
      refine tm_n 1 (F' := (14, [(0, .inr (.inr x0)), (1, .inl x1), (2, .inl x2), (3, .inl x3), (4, .inl x4), (5, .inl x5)], [.inr (.inr x0)])) rfl ?_
      obtain ⟨v1, qv1, hr⟩ := Option.bind_eq_some_iff.mp hr
      refine tm_getf rfl (lf_R_V qv1) ?_
      refine tm_n 1 (F' := (19, [(0, .inr (.inr x0)), (1, .inl x1), (2, .inl x2), (3, .inl x3), (4, .inl x4), (5, .inl x5)], [.inl x5, .inr (.inr v1)])) rfl ?_
      obtain ⟨v2, qv2, hr⟩ := Option.bind_eq_some_iff.mp hr
      refine tm_ald rfl rfl (la_I_V qv2) ?_
      refine tm_n 3 (F' := (25, [(6, .inl v2), (0, .inr (.inr x0)), (1, .inl x1), (2, .inl x2), (3, .inl x3), (4, .inl x4), (5, .inl x5)], [.inl (1 : Int32), .inl v2])) rfl ?_
      by_cases c8 : v2 = (1 : Int32)
      · rw [if_pos c8] at hr
        refine tm_icT rfl c8 ?_
        refine tm_cut (a := [(0, .inr (.inr x0)), (1, .inl x1), (2, .inl x2), (3, .inl x3), (4, .inl x4), (5, .inl x5)]) rfl (tm_sbs [1, 2, 3, 4, 5, 6] rfl) ?_
        exact l243_59_t (fun hr => ih hr) hr
      · rw [if_neg c8] at hr
        refine tm_icF rfl c8 ?_
        refine tm_n 1 (F' := (29, [(6, .inl v2), (0, .inr (.inr x0)), (1, .inl x1), (2, .inl x2), (3, .inl x3), (4, .inl x4), (5, .inl x5)], [.inl x3])) rfl ?_
        by_cases c7 : x3 = (0 : Int32)
        · rw [if_pos c7] at hr
          refine tm_ifT rfl c7 ?_
          refine tm_n 2 (F' := (50, [(6, .inl v2), (0, .inr (.inr x0)), (1, .inl x1), (2, .inl x2), (3, .inl x3), (4, .inl x4), (5, .inl x5)], [.inl (4 : Int32), .inl v2])) rfl ?_
          by_cases c4 : v2 = (4 : Int32)
          · rw [if_pos c4] at hr
            refine tm_icT rfl c4 ?_
            refine tm_cut (a := [(0, .inr (.inr x0)), (1, .inl x1), (2, .inl x2), (3, .inl x3), (4, .inl x4), (5, .inl x5)]) rfl (tm_sbs [1, 2, 3, 4, 5, 6] rfl) ?_
            exact l243_59_t (fun hr => ih hr) hr
          · rw [if_neg c4] at hr
            refine tm_icF rfl c4 ?_
            refine tm_n 2 (F' := (56, [(6, .inl v2), (0, .inr (.inr x0)), (1, .inl x1), (2, .inl x2), (3, .inl x3), (4, .inl x4), (5, .inl x5)], [.inl (5 : Int32), .inl v2])) rfl ?_
            by_cases c3 : v2 = (5 : Int32)
            · rw [if_pos c3] at hr
              refine tm_icF rfl (fun q => q c3) ?_
              refine tm_cut (a := [(0, .inr (.inr x0)), (1, .inl x1), (2, .inl x2), (3, .inl x3), (4, .inl x4), (5, .inl x5)]) rfl (tm_sbs [1, 2, 3, 4, 5, 6] rfl) ?_
              exact l243_59_t (fun hr => ih hr) hr
            · rw [if_neg c3] at hr
              refine tm_icT rfl c3 ?_
              refine tm_cut (a := [(0, .inr (.inr x0)), (1, .inl x1), (2, .inl x2), (3, .inl x3), (4, .inl x4), (5, .inl x5)]) rfl (tm_sbs [1, 2, 3, 4, 5, 6] rfl) ?_
              exact l243_63_t (fun hr => ih hr) hr
        · rw [if_neg c7] at hr
          refine tm_ifF rfl c7 ?_
          refine tm_n 2 (F' := (35, [(6, .inl v2), (0, .inr (.inr x0)), (1, .inl x1), (2, .inl x2), (3, .inl x3), (4, .inl x4), (5, .inl x5)], [.inl (2 : Int32), .inl v2])) rfl ?_
          by_cases c6 : v2 = (2 : Int32)
          · rw [if_pos c6] at hr
            refine tm_icT rfl c6 ?_
            refine tm_cut (a := [(0, .inr (.inr x0)), (1, .inl x1), (2, .inl x2), (3, .inl x3), (4, .inl x4), (5, .inl x5)]) rfl (tm_sbs [1, 2, 3, 4, 5, 6] rfl) ?_
            exact l243_59_t (fun hr => ih hr) hr
          · rw [if_neg c6] at hr
            refine tm_icF rfl c6 ?_
            refine tm_n 2 (F' := (41, [(6, .inl v2), (0, .inr (.inr x0)), (1, .inl x1), (2, .inl x2), (3, .inl x3), (4, .inl x4), (5, .inl x5)], [.inl (3 : Int32), .inl v2])) rfl ?_
            by_cases c5 : v2 = (3 : Int32)
            · rw [if_pos c5] at hr
              refine tm_icF rfl (fun q => q c5) ?_
              refine tm_n 1 (F' := (59, [(6, .inl v2), (0, .inr (.inr x0)), (1, .inl x1), (2, .inl x2), (3, .inl x3), (4, .inl x4), (5, .inl x5)], [])) rfl ?_
              refine tm_cut (a := [(0, .inr (.inr x0)), (1, .inl x1), (2, .inl x2), (3, .inl x3), (4, .inl x4), (5, .inl x5)]) rfl (tm_sbs [1, 2, 3, 4, 5, 6] rfl) ?_
              exact l243_59_t (fun hr => ih hr) hr
            · rw [if_neg c5] at hr
              refine tm_icT rfl c5 ?_
              refine tm_cut (a := [(0, .inr (.inr x0)), (1, .inl x1), (2, .inl x2), (3, .inl x3), (4, .inl x4), (5, .inl x5)]) rfl (tm_sbs [1, 2, 3, 4, 5, 6] rfl) ?_
              exact l243_63_t (fun hr => ih hr) hr
set_option maxRecDepth 20000 in
def ll_243 (a0 : Option Nat) (a1 : Int32) (a2 : Int32) (a3 : Int32) (h : pm_H) : tm_L := l243_6 lf_N a0 a1 a2 a3 (-1 : Int32) (0 : Int32) h
set_option maxRecDepth 20000 in
theorem lq_243 {w : Option Nat} {d : Nat} {a0 : Option Nat} {a1 : Int32} {a2 : Int32} {a3 : Int32} {h : pm_H} {r : tm_O × pm_H} (hr : ll_243 a0 a1 a2 a3 h = some r) : tm_run pt_P (pt_G (tm_r w)) (d + 1) 243 [.inr (.inr a0), .inl a1, .inl a2, .inl a3] h r := by
  unfold ll_243 at hr
  show pm_to pt_P (pt_G (tm_r w)) (d + 1) (pt_g243, []) (tm_m (0, [(0, .inr (.inr a0)), (1, .inl a1), (2, .inl a2), (3, .inl a3)], [])) h (tm_e r)
  refine tm_n 4 (F' := (6, [(5, .inl (0 : Int32)), (4, .inl (-1 : Int32)), (0, .inr (.inr a0)), (1, .inl a1), (2, .inl a2), (3, .inl a3)], [])) rfl ?_
  refine tm_cut (a := [(0, .inr (.inr a0)), (1, .inl a1), (2, .inl a2), (3, .inl a3), (4, .inl (-1 : Int32)), (5, .inl (0 : Int32))]) rfl (tm_sbs [2, 3, 4, 5, 1, 0] rfl) ?_
  exact l243_6_t lf_N hr
