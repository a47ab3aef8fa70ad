/-! lifted: 253, 257, 256, 258, 259, 260, 261, 262, 263, 267, 268, 269, 270 -/
-- OfficeSheetModel.undo(I)Z
set_option maxRecDepth 20000 in
def l253_40 (x0 : Option Nat) (x1 : Int32) (s0 : Int32) (s1 : Option Nat) (h : pm_H) : tm_L := (lf_P 81 h s1 [0, 10, 0] (.inl s0)).bind fun h1 => (lf_I h1 x0 [10, 0]).bind fun v2 => if v2 = (0 : Int32) then (lf_R h1 x0 [10, 16]).bind fun v3 => (la_I h1 .iaload v3 ((4 : Int32) * x1)).bind fun v4 => if lc_of h1 x0 = some 10 then lb_I (ll_254 x0 x1 ((((40 : Int32) * x1) + v4) - (1 : Int32)) h1) (fun v6 h7 => if v6 = (0 : Int32) then some (.inl (some (.inl (0 : Int32))), h7) else some (.inl (some (.inl (1 : Int32))), h7)) else none else some (.inl (some (.inl (0 : Int32))), h1)
set_option maxRecDepth 20000 in
theorem l253_40_t {w : Option Nat} {d : Nat} {x0 : Option Nat} {x1 : Int32} {s0 : Int32} {s1 : Option Nat} {h : pm_H} {r : tm_O × pm_H} (hr : l253_40 x0 x1 s0 s1 h = some r) : pm_to pt_P (pt_G (tm_r w)) (d + 6) (pt_g253, []) (tm_m (40, [(0, .inr (.inr x0)), (1, .inl x1)], [.inl s0, .inr (.inr s1)])) h (tm_e r) := by
  unfold l253_40 at hr
  obtain ⟨h1, qh1, hr⟩ := Option.bind_eq_some_iff.mp hr
  refine tm_putf rfl qh1 ?_
  refine tm_n 1 (F' := (44, [(0, .inr (.inr x0)), (1, .inl x1)], [.inr (.inr x0)])) rfl ?_
  obtain ⟨v2, qv2, hr⟩ := Option.bind_eq_some_iff.mp hr
  refine tm_getf rfl (lf_I_V qv2) ?_
  by_cases c12 : v2 = (0 : Int32)
  · rw [if_pos c12] at hr
    refine tm_ifF rfl (fun q => q c12) ?_
    refine tm_n 6 (F' := (57, [(0, .inr (.inr x0)), (1, .inl x1)], [.inr (.inr x0), .inl ((40 : Int32) * x1), .inl x1, .inr (.inr x0)])) rfl ?_
    obtain ⟨v3, qv3, hr⟩ := Option.bind_eq_some_iff.mp hr
    refine tm_getf rfl (lf_R_V qv3) ?_
    refine tm_n 3 (F' := (63, [(0, .inr (.inr x0)), (1, .inl x1)], [.inl ((4 : Int32) * x1), .inr (.inr v3), .inl ((40 : Int32) * x1), .inl x1, .inr (.inr x0)])) rfl ?_
    obtain ⟨v4, qv4, hr⟩ := Option.bind_eq_some_iff.mp hr
    refine tm_ald rfl rfl (la_I_V qv4) ?_
    refine tm_n 3 (F' := (67, [(0, .inr (.inr x0)), (1, .inl x1)], [.inl ((((40 : Int32) * x1) + v4) - (1 : Int32)), .inl x1, .inr (.inr x0)])) rfl ?_
    by_cases c5 : lc_of h1 x0 = some 10
    · rw [if_pos c5] at hr
      rcases lb_I_s hr with ⟨v6, h7, m8, hr⟩ | ⟨a10, h7, z11, z11l, m8, qz11, rfl⟩
      · try dsimp only at hr
        refine tm_call rfl rfl (tm_callV rfl rfl c5 rfl rfl) (lq_254 m8) ?_
        by_cases c9 : v6 = (0 : Int32)
        · rw [if_pos c9] at hr
          refine tm_ifT rfl c9 ?_
          refine tm_n 1 (F' := (78, [(0, .inr (.inr x0)), (1, .inl x1)], [.inl (0 : Int32)])) rfl ?_
          cases hr
          exact tm_retI rfl rfl
        · rw [if_neg c9] at hr
          refine tm_ifF rfl c9 ?_
          refine tm_n 2 (F' := (78, [(0, .inr (.inr x0)), (1, .inl x1)], [.inl (1 : Int32)])) rfl ?_
          cases hr
          exact tm_retI rfl rfl
      · exact tm_callT rfl rfl (tm_callV rfl rfl c5 rfl rfl) (lq_254 m8) qz11 rfl
    · rw [if_neg c5] at hr
      cases hr
  · rw [if_neg c12] at hr
    refine tm_ifT rfl c12 ?_
    refine tm_n 1 (F' := (78, [(0, .inr (.inr x0)), (1, .inl x1)], [.inl (0 : Int32)])) rfl ?_
    cases hr
    exact tm_retI rfl rfl
set_option maxRecDepth 20000 in
def ll_253 (a0 : Option Nat) (a1 : Int32) (h : pm_H) : tm_L := lb_I (ll_237 a1 h) (fun v1 h2 => if v1 = (0 : Int32) then l253_40 a0 a1 (1 : Int32) a0 h2 else (lf_R h2 a0 [10, 16]).bind fun v4 => (la_I h2 .iaload v4 ((4 : Int32) * a1)).bind fun v5 => if v5 = (0 : Int32) then l253_40 a0 a1 (2 : Int32) a0 h2 else if lc_of h2 a0 = some 10 then lb_I (ll_240 a0 a1 h2) (fun v7 h8 => if v7 = (0 : Int32) then l253_40 a0 a1 (0 : Int32) a0 h8 else l253_40 a0 a1 (3 : Int32) a0 h8) else none)
set_option maxRecDepth 20000 in
theorem lq_253 {w : Option Nat} {d : Nat} {a0 : Option Nat} {a1 : Int32} {h : pm_H} {r : tm_O × pm_H} (hr : ll_253 a0 a1 h = some r) : tm_run pt_P (pt_G (tm_r w)) (d + 6) 253 [.inr (.inr a0), .inl a1] h r := by
  unfold ll_253 at hr
  show pm_to pt_P (pt_G (tm_r w)) (d + 6) (pt_g253, []) (tm_m (0, [(0, .inr (.inr a0)), (1, .inl a1)], [])) h (tm_e r)
  refine tm_n 2 (F' := (2, [(0, .inr (.inr a0)), (1, .inl a1)], [.inl a1, .inr (.inr a0)])) rfl ?_
  rcases lb_I_s hr with ⟨v1, h2, m3, hr⟩ | ⟨a15, h2, z16, z16l, m3, qz16, rfl⟩
  · try dsimp only at hr
    refine tm_call rfl rfl (tm_callS rfl rfl) (lq_237 m3) ?_
    by_cases c14 : v1 = (0 : Int32)
    · rw [if_pos c14] at hr
      refine tm_ifF rfl (fun q => q c14) ?_
      refine tm_n 2 (F' := (40, [(0, .inr (.inr a0)), (1, .inl a1)], [.inl (1 : Int32), .inr (.inr a0)])) rfl ?_
      refine tm_cut (a := [(0, .inr (.inr a0)), (1, .inl a1)]) rfl (tm_sbs [0, 1] rfl) ?_
      exact l253_40_t hr
    · rw [if_neg c14] at hr
      refine tm_ifT rfl c14 ?_
      refine tm_n 1 (F' := (13, [(0, .inr (.inr a0)), (1, .inl a1)], [.inr (.inr a0), .inr (.inr a0)])) rfl ?_
      obtain ⟨v4, qv4, hr⟩ := Option.bind_eq_some_iff.mp hr
      refine tm_getf rfl (lf_R_V qv4) ?_
      refine tm_n 3 (F' := (19, [(0, .inr (.inr a0)), (1, .inl a1)], [.inl ((4 : Int32) * a1), .inr (.inr v4), .inr (.inr a0)])) rfl ?_
      obtain ⟨v5, qv5, hr⟩ := Option.bind_eq_some_iff.mp hr
      refine tm_ald rfl rfl (la_I_V qv5) ?_
      by_cases c13 : v5 = (0 : Int32)
      · rw [if_pos c13] at hr
        refine tm_ifF rfl (fun q => q c13) ?_
        refine tm_n 2 (F' := (40, [(0, .inr (.inr a0)), (1, .inl a1)], [.inl (2 : Int32), .inr (.inr a0)])) rfl ?_
        refine tm_cut (a := [(0, .inr (.inr a0)), (1, .inl a1)]) rfl (tm_sbs [0, 1] rfl) ?_
        exact l253_40_t hr
      · rw [if_neg c13] at hr
        refine tm_ifT rfl c13 ?_
        refine tm_n 2 (F' := (29, [(0, .inr (.inr a0)), (1, .inl a1)], [.inl a1, .inr (.inr a0), .inr (.inr a0)])) rfl ?_
        by_cases c6 : lc_of h2 a0 = some 10
        · rw [if_pos c6] at hr
          rcases lb_I_s hr with ⟨v7, h8, m9, hr⟩ | ⟨a11, h8, z12, z12l, m9, qz12, rfl⟩
          · try dsimp only at hr
            refine tm_call rfl rfl (tm_callV rfl rfl c6 rfl rfl) (lq_240 m9) ?_
            by_cases c10 : v7 = (0 : Int32)
            · rw [if_pos c10] at hr
              refine tm_ifT rfl c10 ?_
              refine tm_n 1 (F' := (40, [(0, .inr (.inr a0)), (1, .inl a1)], [.inl (0 : Int32), .inr (.inr a0)])) rfl ?_
              refine tm_cut (a := [(0, .inr (.inr a0)), (1, .inl a1)]) rfl (tm_sbs [0, 1] rfl) ?_
              exact l253_40_t hr
            · rw [if_neg c10] at hr
              refine tm_ifF rfl c10 ?_
              refine tm_n 2 (F' := (40, [(0, .inr (.inr a0)), (1, .inl a1)], [.inl (3 : Int32), .inr (.inr a0)])) rfl ?_
              refine tm_cut (a := [(0, .inr (.inr a0)), (1, .inl a1)]) rfl (tm_sbs [0, 1] rfl) ?_
              exact l253_40_t hr
          · exact tm_callT rfl rfl (tm_callV rfl rfl c6 rfl rfl) (lq_240 m9) qz12 rfl
        · rw [if_neg c6] at hr
          cases hr
  · exact tm_callT rfl rfl (tm_callS rfl rfl) (lq_237 m3) qz16 rfl
-- OfficeSheetModel.isReady(II)Z
set_option maxRecDepth 20000 in
def ll_257 (a0 : Option Nat) (a1 : Int32) (a2 : Int32) (h : pm_H) : tm_L := (lf_R h a0 [10, 16]).bind fun v1 => (la_I h .iaload v1 (((3 : Int32) * a1) + a2)).bind fun v2 => (lf_R h a0 [10, 16]).bind fun v3 => (la_I h .iaload v3 (((3 : Int32) * a1) + a2)).bind fun v4 => if v4 = (40 : Int32) then some (.inl (some (.inl (0 : Int32))), h) else (lf_R h a0 [10, 18]).bind fun v5 => (la_I h .baload v5 (((120 : Int32) * a1) + (((40 : Int32) * a2) + v2))).bind fun v6 => if v6 = (0 : Int32) then some (.inl (some (.inl (0 : Int32))), h) else (lf_R h a0 [10, 4]).bind fun v7 => (la_I h .iaload v7 ((3 : Int32) * (((40 : Int32) * a2) + v2))).bind fun v8 => (lf_R h a0 [10, 16]).bind fun v9 => (la_I h .iaload v9 ((3 : Int32) * a1)).bind fun v10 => if v10 < v8 then some (.inl (some (.inl (0 : Int32))), h) else (lf_R h a0 [10, 4]).bind fun v11 => (la_I h .iaload v11 (((3 : Int32) * (((40 : Int32) * a2) + v2)) + (1 : Int32))).bind fun v12 => (lf_R h a0 [10, 16]).bind fun v13 => (la_I h .iaload v13 (((3 : Int32) * a1) + (1 : Int32))).bind fun v14 => if v14 < v12 then some (.inl (some (.inl (0 : Int32))), h) else (lf_R h a0 [10, 4]).bind fun v15 => (la_I h .iaload v15 (((3 : Int32) * (((40 : Int32) * a2) + v2)) + (2 : Int32))).bind fun v16 => (lf_R h a0 [10, 16]).bind fun v17 => (la_I h .iaload v17 (((3 : Int32) * a1) + (2 : Int32))).bind fun v18 => if v18 < v16 then some (.inl (some (.inl (0 : Int32))), h) else some (.inl (some (.inl (1 : Int32))), h)
set_option maxRecDepth 20000 in
theorem lq_257 {w : Option Nat} {d : Nat} {a0 : Option Nat} {a1 : Int32} {a2 : Int32} {h : pm_H} {r : tm_O × pm_H} (hr : ll_257 a0 a1 a2 h = some r) : tm_run pt_P (pt_G (tm_r w)) (d + 0) 257 [.inr (.inr a0), .inl a1, .inl a2] h r := by
  unfold ll_257 at hr
  show pm_to pt_P (pt_G (tm_r w)) (d + 0) (pt_g257, []) (tm_m (0, [(0, .inr (.inr a0)), (1, .inl a1), (2, .inl a2)], [])) h (tm_e r)
  refine tm_n 4 (F' := (5, [(0, .inr (.inr a0)), (1, .inl a1), (2, .inl a2)], [.inr (.inr a0), .inl ((40 : Int32) * a2)])) rfl ?_
  obtain ⟨v1, qv1, hr⟩ := Option.bind_eq_some_iff.mp hr
  refine tm_getf rfl (lf_R_V qv1) ?_
  refine tm_n 5 (F' := (13, [(0, .inr (.inr a0)), (1, .inl a1), (2, .inl a2)], [.inl (((3 : Int32) * a1) + a2), .inr (.inr v1), .inl ((40 : Int32) * a2)])) rfl ?_
  obtain ⟨v2, qv2, hr⟩ := Option.bind_eq_some_iff.mp hr
  refine tm_ald rfl rfl (la_I_V qv2) ?_
  refine tm_n 3 (F' := (17, [(3, .inl (((40 : Int32) * a2) + v2)), (0, .inr (.inr a0)), (1, .inl a1), (2, .inl a2)], [.inr (.inr a0)])) rfl ?_
  obtain ⟨v3, qv3, hr⟩ := Option.bind_eq_some_iff.mp hr
  refine tm_getf rfl (lf_R_V qv3) ?_
  refine tm_n 5 (F' := (25, [(3, .inl (((40 : Int32) * a2) + v2)), (0, .inr (.inr a0)), (1, .inl a1), (2, .inl a2)], [.inl (((3 : Int32) * a1) + a2), .inr (.inr v3)])) rfl ?_
  obtain ⟨v4, qv4, hr⟩ := Option.bind_eq_some_iff.mp hr
  refine tm_ald rfl rfl (la_I_V qv4) ?_
  refine tm_n 1 (F' := (28, [(3, .inl (((40 : Int32) * a2) + v2)), (0, .inr (.inr a0)), (1, .inl a1), (2, .inl a2)], [.inl (40 : Int32), .inl v4])) rfl ?_
  by_cases c23 : v4 = (40 : Int32)
  · rw [if_pos c23] at hr
    refine tm_icT rfl c23 ?_
    refine tm_n 1 (F' := (46, [(3, .inl (((40 : Int32) * a2) + v2)), (0, .inr (.inr a0)), (1, .inl a1), (2, .inl a2)], [.inl (0 : Int32)])) rfl ?_
    cases hr
    exact tm_retI rfl rfl
  · rw [if_neg c23] at hr
    refine tm_icF rfl c23 ?_
    refine tm_n 1 (F' := (32, [(3, .inl (((40 : Int32) * a2) + v2)), (0, .inr (.inr a0)), (1, .inl a1), (2, .inl a2)], [.inr (.inr a0)])) rfl ?_
    obtain ⟨v5, qv5, hr⟩ := Option.bind_eq_some_iff.mp hr
    refine tm_getf rfl (lf_R_V qv5) ?_
    refine tm_n 5 (F' := (41, [(3, .inl (((40 : Int32) * a2) + v2)), (0, .inr (.inr a0)), (1, .inl a1), (2, .inl a2)], [.inl (((120 : Int32) * a1) + (((40 : Int32) * a2) + v2)), .inr (.inr v5)])) rfl ?_
    obtain ⟨v6, qv6, hr⟩ := Option.bind_eq_some_iff.mp hr
    refine tm_ald rfl rfl (la_I_V qv6) ?_
    by_cases c22 : v6 = (0 : Int32)
    · rw [if_pos c22] at hr
      refine tm_ifF rfl (fun q => q c22) ?_
      refine tm_n 1 (F' := (46, [(3, .inl (((40 : Int32) * a2) + v2)), (0, .inr (.inr a0)), (1, .inl a1), (2, .inl a2)], [.inl (0 : Int32)])) rfl ?_
      cases hr
      exact tm_retI rfl rfl
    · rw [if_neg c22] at hr
      refine tm_ifT rfl c22 ?_
      refine tm_n 1 (F' := (48, [(3, .inl (((40 : Int32) * a2) + v2)), (0, .inr (.inr a0)), (1, .inl a1), (2, .inl a2)], [.inr (.inr a0)])) rfl ?_
      obtain ⟨v7, qv7, hr⟩ := Option.bind_eq_some_iff.mp hr
      refine tm_getf rfl (lf_R_V qv7) ?_
      refine tm_n 3 (F' := (54, [(3, .inl (((40 : Int32) * a2) + v2)), (0, .inr (.inr a0)), (1, .inl a1), (2, .inl a2)], [.inl ((3 : Int32) * (((40 : Int32) * a2) + v2)), .inr (.inr v7)])) rfl ?_
      obtain ⟨v8, qv8, hr⟩ := Option.bind_eq_some_iff.mp hr
      refine tm_ald rfl rfl (la_I_V qv8) ?_
      refine tm_n 1 (F' := (56, [(3, .inl (((40 : Int32) * a2) + v2)), (0, .inr (.inr a0)), (1, .inl a1), (2, .inl a2)], [.inr (.inr a0), .inl v8])) rfl ?_
      obtain ⟨v9, qv9, hr⟩ := Option.bind_eq_some_iff.mp hr
      refine tm_getf rfl (lf_R_V qv9) ?_
      refine tm_n 3 (F' := (62, [(3, .inl (((40 : Int32) * a2) + v2)), (0, .inr (.inr a0)), (1, .inl a1), (2, .inl a2)], [.inl ((3 : Int32) * a1), .inr (.inr v9), .inl v8])) rfl ?_
      obtain ⟨v10, qv10, hr⟩ := Option.bind_eq_some_iff.mp hr
      refine tm_ald rfl rfl (la_I_V qv10) ?_
      by_cases c21 : v10 < v8
      · rw [if_pos c21] at hr
        refine tm_icT rfl c21 ?_
        refine tm_n 1 (F' := (117, [(3, .inl (((40 : Int32) * a2) + v2)), (0, .inr (.inr a0)), (1, .inl a1), (2, .inl a2)], [.inl (0 : Int32)])) rfl ?_
        cases hr
        exact tm_retI rfl rfl
      · rw [if_neg c21] at hr
        refine tm_icF rfl c21 ?_
        refine tm_n 1 (F' := (67, [(3, .inl (((40 : Int32) * a2) + v2)), (0, .inr (.inr a0)), (1, .inl a1), (2, .inl a2)], [.inr (.inr a0)])) rfl ?_
        obtain ⟨v11, qv11, hr⟩ := Option.bind_eq_some_iff.mp hr
        refine tm_getf rfl (lf_R_V qv11) ?_
        refine tm_n 5 (F' := (75, [(3, .inl (((40 : Int32) * a2) + v2)), (0, .inr (.inr a0)), (1, .inl a1), (2, .inl a2)], [.inl (((3 : Int32) * (((40 : Int32) * a2) + v2)) + (1 : Int32)), .inr (.inr v11)])) rfl ?_
        obtain ⟨v12, qv12, hr⟩ := Option.bind_eq_some_iff.mp hr
        refine tm_ald rfl rfl (la_I_V qv12) ?_
        refine tm_n 1 (F' := (77, [(3, .inl (((40 : Int32) * a2) + v2)), (0, .inr (.inr a0)), (1, .inl a1), (2, .inl a2)], [.inr (.inr a0), .inl v12])) rfl ?_
        obtain ⟨v13, qv13, hr⟩ := Option.bind_eq_some_iff.mp hr
        refine tm_getf rfl (lf_R_V qv13) ?_
        refine tm_n 5 (F' := (85, [(3, .inl (((40 : Int32) * a2) + v2)), (0, .inr (.inr a0)), (1, .inl a1), (2, .inl a2)], [.inl (((3 : Int32) * a1) + (1 : Int32)), .inr (.inr v13), .inl v12])) rfl ?_
        obtain ⟨v14, qv14, hr⟩ := Option.bind_eq_some_iff.mp hr
        refine tm_ald rfl rfl (la_I_V qv14) ?_
        by_cases c20 : v14 < v12
        · rw [if_pos c20] at hr
          refine tm_icT rfl c20 ?_
          refine tm_n 1 (F' := (117, [(3, .inl (((40 : Int32) * a2) + v2)), (0, .inr (.inr a0)), (1, .inl a1), (2, .inl a2)], [.inl (0 : Int32)])) rfl ?_
          cases hr
          exact tm_retI rfl rfl
        · rw [if_neg c20] at hr
          refine tm_icF rfl c20 ?_
          refine tm_n 1 (F' := (90, [(3, .inl (((40 : Int32) * a2) + v2)), (0, .inr (.inr a0)), (1, .inl a1), (2, .inl a2)], [.inr (.inr a0)])) rfl ?_
          obtain ⟨v15, qv15, hr⟩ := Option.bind_eq_some_iff.mp hr
          refine tm_getf rfl (lf_R_V qv15) ?_
          refine tm_n 5 (F' := (98, [(3, .inl (((40 : Int32) * a2) + v2)), (0, .inr (.inr a0)), (1, .inl a1), (2, .inl a2)], [.inl (((3 : Int32) * (((40 : Int32) * a2) + v2)) + (2 : Int32)), .inr (.inr v15)])) rfl ?_
          obtain ⟨v16, qv16, hr⟩ := Option.bind_eq_some_iff.mp hr
          refine tm_ald rfl rfl (la_I_V qv16) ?_
          refine tm_n 1 (F' := (100, [(3, .inl (((40 : Int32) * a2) + v2)), (0, .inr (.inr a0)), (1, .inl a1), (2, .inl a2)], [.inr (.inr a0), .inl v16])) rfl ?_
          obtain ⟨v17, qv17, hr⟩ := Option.bind_eq_some_iff.mp hr
          refine tm_getf rfl (lf_R_V qv17) ?_
          refine tm_n 5 (F' := (108, [(3, .inl (((40 : Int32) * a2) + v2)), (0, .inr (.inr a0)), (1, .inl a1), (2, .inl a2)], [.inl (((3 : Int32) * a1) + (2 : Int32)), .inr (.inr v17), .inl v16])) rfl ?_
          obtain ⟨v18, qv18, hr⟩ := Option.bind_eq_some_iff.mp hr
          refine tm_ald rfl rfl (la_I_V qv18) ?_
          by_cases c19 : v18 < v16
          · rw [if_pos c19] at hr
            refine tm_icT rfl c19 ?_
            refine tm_n 1 (F' := (117, [(3, .inl (((40 : Int32) * a2) + v2)), (0, .inr (.inr a0)), (1, .inl a1), (2, .inl a2)], [.inl (0 : Int32)])) rfl ?_
            cases hr
            exact tm_retI rfl rfl
          · rw [if_neg c19] at hr
            refine tm_icF rfl c19 ?_
            refine tm_n 2 (F' := (117, [(3, .inl (((40 : Int32) * a2) + v2)), (0, .inr (.inr a0)), (1, .inl a1), (2, .inl a2)], [.inl (1 : Int32)])) rfl ?_
            cases hr
            exact tm_retI rfl rfl
-- OfficeSheetModel.deliver(III)I
set_option maxRecDepth 20000 in
def l256_164 (K119 : Option Nat → Int32 → Int32 → Int32 → pm_H → tm_L) (x0 : Option Nat) (x1 : Int32) (x5 : Int32) (s0 : Int32) (h : pm_H) : tm_L := if s0 < (0 : Int32) then K119 x0 x1 x5 s0 h else (lf_R h x0 [10, 16]).bind fun v1 => (la_I h .iaload v1 (((3 : Int32) * x1) + s0)).bind fun v2 => (lf_R h x0 [10, 18]).bind fun v3 => (la_S pt_P h .bastore v3 (((120 : Int32) * x1) + (((40 : Int32) * s0) + v2)) (.inl (0 : Int32))).bind fun h4 => if lc_of h4 x0 = some 10 then lb_V (ll_247 x0 x1 (((40 : Int32) * s0) + v2) h4) (fun h7 => K119 x0 x1 x5 s0 h7) else none
set_option maxRecDepth 20000 in
theorem l256_164_t {w : Option Nat} {d : Nat} {K119 : Option Nat → Int32 → Int32 → Int32 → pm_H → tm_L} (hK119 : ∀ {x0 : Option Nat} {x1 : Int32} {x5 : Int32} {x6 : Int32}  {h : pm_H} {r : tm_O × pm_H}, K119 x0 x1 x5 x6 h = some r → pm_to pt_P (pt_G (tm_r w)) (d + 5) (pt_g256, []) (tm_m (119, [(0, .inr (.inr x0)), (1, .inl x1), (5, .inl x5), (6, .inl x6)], [])) h (tm_e r)) {x0 : Option Nat} {x1 : Int32} {x5 : Int32} {s0 : Int32} {h : pm_H} {r : tm_O × pm_H} (hr : l256_164 K119 x0 x1 x5 s0 h = some r) : pm_to pt_P (pt_G (tm_r w)) (d + 5) (pt_g256, []) (tm_m (164, [(0, .inr (.inr x0)), (1, .inl x1), (5, .inl x5)], [.inl s0])) h (tm_e r) := by
  unfold l256_164 at hr
  refine tm_n 2 (F' := (168, [(6, .inl s0), (0, .inr (.inr x0)), (1, .inl x1), (5, .inl x5)], [.inl s0])) rfl ?_
  by_cases c11 : s0 < (0 : Int32)
  · rw [if_pos c11] at hr
    refine tm_ifT rfl c11 ?_
    refine tm_cut (a := [(0, .inr (.inr x0)), (1, .inl x1), (5, .inl x5), (6, .inl s0)]) rfl (tm_sbs [1, 2, 3, 0] rfl) ?_
    exact hK119 hr
  · rw [if_neg c11] at hr
    refine tm_ifF rfl c11 ?_
    refine tm_n 4 (F' := (177, [(6, .inl s0), (0, .inr (.inr x0)), (1, .inl x1), (5, .inl x5)], [.inr (.inr x0), .inl ((40 : Int32) * s0)])) rfl ?_
    obtain ⟨v1, qv1, hr⟩ := Option.bind_eq_some_iff.mp hr
    refine tm_getf rfl (lf_R_V qv1) ?_
    refine tm_n 5 (F' := (186, [(6, .inl s0), (0, .inr (.inr x0)), (1, .inl x1), (5, .inl x5)], [.inl (((3 : Int32) * x1) + s0), .inr (.inr v1), .inl ((40 : Int32) * s0)])) rfl ?_
    obtain ⟨v2, qv2, hr⟩ := Option.bind_eq_some_iff.mp hr
    refine tm_ald rfl rfl (la_I_V qv2) ?_
    refine tm_n 3 (F' := (191, [(7, .inl (((40 : Int32) * s0) + v2)), (6, .inl s0), (0, .inr (.inr x0)), (1, .inl x1), (5, .inl x5)], [.inr (.inr x0)])) rfl ?_
    obtain ⟨v3, qv3, hr⟩ := Option.bind_eq_some_iff.mp hr
    refine tm_getf rfl (lf_R_V qv3) ?_
    refine tm_n 6 (F' := (202, [(7, .inl (((40 : Int32) * s0) + v2)), (6, .inl s0), (0, .inr (.inr x0)), (1, .inl x1), (5, .inl x5)], [.inl (0 : Int32), .inl (((120 : Int32) * x1) + (((40 : Int32) * s0) + v2)), .inr (.inr v3)])) rfl ?_
    obtain ⟨h4, qh4, hr⟩ := Option.bind_eq_some_iff.mp hr
    refine tm_ast rfl rfl qh4 ?_
    refine tm_n 3 (F' := (207, [(7, .inl (((40 : Int32) * s0) + v2)), (6, .inl s0), (0, .inr (.inr x0)), (1, .inl x1), (5, .inl x5)], [.inl (((40 : Int32) * s0) + v2), .inl x1, .inr (.inr x0)])) rfl ?_
    by_cases c5 : lc_of h4 x0 = some 10
    · rw [if_pos c5] at hr
      rcases lb_V_s hr with ⟨h7, m8, hr⟩ | ⟨a9, h7, z10, z10l, m8, qz10, rfl⟩
      · try dsimp only at hr
        refine tm_call rfl rfl (tm_callV rfl rfl c5 rfl rfl) (lq_247 m8) ?_
        refine tm_n 1 (F' := (119, [(7, .inl (((40 : Int32) * s0) + v2)), (6, .inl s0), (0, .inr (.inr x0)), (1, .inl x1), (5, .inl x5)], [])) rfl ?_
        refine tm_cut (a := [(0, .inr (.inr x0)), (1, .inl x1), (5, .inl x5), (6, .inl s0)]) rfl (tm_sbs [2, 3, 4, 1] rfl) ?_
        exact hK119 hr
      · exact tm_callT rfl rfl (tm_callV rfl rfl c5 rfl rfl) (lq_247 m8) qz10 rfl
    · rw [if_neg c5] at hr
      cases hr
set_option maxRecDepth 20000 in
def l256_119 : Nat → Option Nat → Int32 → Int32 → Int32 → pm_H → tm_L
  | 0 => fun _ _ _ _ _ => none
  | n + 1 => fun x0 x1 x5 x6 h => if x6 < (0 : Int32) then if lc_of h x0 = some 10 then lb_I (ll_244 x0 x1 x5 h) (fun v2 h3 => if v2 = (0 : Int32) then some (.inl (some (.inl (2 : Int32))), h3) else some (.inl (some (.inl (1 : Int32))), h3)) else none else if lc_of h x0 = some 10 then lb_I (ll_257 x0 x1 (0 : Int32) h) (fun v9 h10 => if v9 = (0 : Int32) then if lc_of h10 x0 = some 10 then lb_I (ll_257 x0 x1 (1 : Int32) h10) (fun v13 h14 => if v13 = (0 : Int32) then if lc_of h14 x0 = some 10 then lb_I (ll_257 x0 x1 (2 : Int32) h14) (fun v17 h18 => if v17 = (0 : Int32) then l256_164 (l256_119 n) x0 x1 x5 (-1 : Int32) h18 else l256_164 (l256_119 n) x0 x1 x5 (2 : Int32) h18) else none else l256_164 (l256_119 n) x0 x1 x5 (1 : Int32) h14) else none else l256_164 (l256_119 n) x0 x1 x5 (0 : Int32) h10) else none
set_option maxRecDepth 20000 in
theorem l256_119_t {w : Option Nat} {d : Nat} : ∀ (n : Nat) {x0 : Option Nat} {x1 : Int32} {x5 : Int32} {x6 : Int32} {h : pm_H} {r : tm_O × pm_H}, l256_119 n x0 x1 x5 x6 h = some r → pm_to pt_P (pt_G (tm_r w)) (d + 5) (pt_g256, []) (tm_m (119, [(0, .inr (.inr x0)), (1, .inl x1), (5, .inl x5), (6, .inl x6)], [])) h (tm_e r) := by
  intro n
  induction n with
  | zero => intro x0 x1 x5 x6 h r hr; cases hr
  | succ n ih =>
    intro x0 x1 x5 x6 h r hr
    unfold l256_119 at hr
    refine tm_n 1 (F' := (121, [(0, .inr (.inr x0)), (1, .inl x1), (5, .inl x5), (6, .inl x6)], [.inl x6])) rfl ?_
    by_cases c29 : x6 < (0 : Int32)
    · rw [if_pos c29] at hr
      refine tm_ifT rfl c29 ?_
      refine tm_n 3 (F' := (217, [(0, .inr (.inr x0)), (1, .inl x1), (5, .inl x5), (6, .inl x6)], [.inl x5, .inl x1, .inr (.inr x0)])) rfl ?_
      by_cases c1 : lc_of h x0 = some 10
      · rw [if_pos c1] at hr
        rcases lb_I_s hr with ⟨v2, h3, m4, hr⟩ | ⟨a6, h3, z7, z7l, m4, qz7, rfl⟩
        · try dsimp only at hr
          refine tm_call rfl rfl (tm_callV rfl rfl c1 rfl rfl) (lq_244 m4) ?_
          by_cases c5 : v2 = (0 : Int32)
          · rw [if_pos c5] at hr
            refine tm_ifT rfl c5 ?_
            refine tm_n 1 (F' := (228, [(0, .inr (.inr x0)), (1, .inl x1), (5, .inl x5), (6, .inl x6)], [.inl (2 : Int32)])) rfl ?_
            cases hr
            exact tm_retI rfl rfl
          · rw [if_neg c5] at hr
            refine tm_ifF rfl c5 ?_
            refine tm_n 2 (F' := (228, [(0, .inr (.inr x0)), (1, .inl x1), (5, .inl x5), (6, .inl x6)], [.inl (1 : Int32)])) rfl ?_
            cases hr
            exact tm_retI rfl rfl
        · exact tm_callT rfl rfl (tm_callV rfl rfl c1 rfl rfl) (lq_244 m4) qz7 rfl
      · rw [if_neg c1] at hr
        cases hr
    · rw [if_neg c29] at hr
      refine tm_ifF rfl c29 ?_
      refine tm_n 3 (F' := (127, [(0, .inr (.inr x0)), (1, .inl x1), (5, .inl x5), (6, .inl x6)], [.inl (0 : Int32), .inl x1, .inr (.inr x0)])) rfl ?_
      by_cases c8 : lc_of h x0 = some 10
      · rw [if_pos c8] at hr
        rcases lb_I_s hr with ⟨v9, h10, m11, hr⟩ | ⟨a27, h10, z28, z28l, m11, qz28, rfl⟩
        · try dsimp only at hr
          refine tm_call rfl rfl (tm_callV rfl rfl c8 rfl rfl) (lq_257 m11) ?_
          by_cases c26 : v9 = (0 : Int32)
          · rw [if_pos c26] at hr
            refine tm_ifT rfl c26 ?_
            refine tm_n 3 (F' := (140, [(0, .inr (.inr x0)), (1, .inl x1), (5, .inl x5), (6, .inl x6)], [.inl (1 : Int32), .inl x1, .inr (.inr x0)])) rfl ?_
            by_cases c12 : lc_of h10 x0 = some 10
            · rw [if_pos c12] at hr
              rcases lb_I_s hr with ⟨v13, h14, m15, hr⟩ | ⟨a24, h14, z25, z25l, m15, qz25, rfl⟩
              · try dsimp only at hr
                refine tm_call rfl rfl (tm_callV rfl rfl c12 rfl rfl) (lq_257 m15) ?_
                by_cases c23 : v13 = (0 : Int32)
                · rw [if_pos c23] at hr
                  refine tm_ifT rfl c23 ?_
                  refine tm_n 3 (F' := (153, [(0, .inr (.inr x0)), (1, .inl x1), (5, .inl x5), (6, .inl x6)], [.inl (2 : Int32), .inl x1, .inr (.inr x0)])) rfl ?_
                  by_cases c16 : lc_of h14 x0 = some 10
                  · rw [if_pos c16] at hr
                    rcases lb_I_s hr with ⟨v17, h18, m19, hr⟩ | ⟨a21, h18, z22, z22l, m19, qz22, rfl⟩
                    · try dsimp only at hr
                      refine tm_call rfl rfl (tm_callV rfl rfl c16 rfl rfl) (lq_257 m19) ?_
                      by_cases c20 : v17 = (0 : Int32)
                      · rw [if_pos c20] at hr
                        refine tm_ifT rfl c20 ?_
                        refine tm_n 1 (F' := (164, [(0, .inr (.inr x0)), (1, .inl x1), (5, .inl x5), (6, .inl x6)], [.inl (-1 : Int32)])) rfl ?_
                        refine tm_cut (a := [(0, .inr (.inr x0)), (1, .inl x1), (5, .inl x5)]) rfl (tm_sbs [0, 1, 2] rfl) ?_
                        exact l256_164_t (fun hr => ih hr) hr
                      · rw [if_neg c20] at hr
                        refine tm_ifF rfl c20 ?_
                        refine tm_n 2 (F' := (164, [(0, .inr (.inr x0)), (1, .inl x1), (5, .inl x5), (6, .inl x6)], [.inl (2 : Int32)])) rfl ?_
                        refine tm_cut (a := [(0, .inr (.inr x0)), (1, .inl x1), (5, .inl x5)]) rfl (tm_sbs [0, 1, 2] rfl) ?_
                        exact l256_164_t (fun hr => ih hr) hr
                    · exact tm_callT rfl rfl (tm_callV rfl rfl c16 rfl rfl) (lq_257 m19) qz22 rfl
                  · rw [if_neg c16] at hr
                    cases hr
                · rw [if_neg c23] at hr
                  refine tm_ifF rfl c23 ?_
                  refine tm_n 2 (F' := (164, [(0, .inr (.inr x0)), (1, .inl x1), (5, .inl x5), (6, .inl x6)], [.inl (1 : Int32)])) rfl ?_
                  refine tm_cut (a := [(0, .inr (.inr x0)), (1, .inl x1), (5, .inl x5)]) rfl (tm_sbs [0, 1, 2] rfl) ?_
                  exact l256_164_t (fun hr => ih hr) hr
              · exact tm_callT rfl rfl (tm_callV rfl rfl c12 rfl rfl) (lq_257 m15) qz25 rfl
            · rw [if_neg c12] at hr
              cases hr
          · rw [if_neg c26] at hr
            refine tm_ifF rfl c26 ?_
            refine tm_n 2 (F' := (164, [(0, .inr (.inr x0)), (1, .inl x1), (5, .inl x5), (6, .inl x6)], [.inl (0 : Int32)])) rfl ?_
            refine tm_cut (a := [(0, .inr (.inr x0)), (1, .inl x1), (5, .inl x5)]) rfl (tm_sbs [0, 1, 2] rfl) ?_
            exact l256_164_t (fun hr => ih hr) hr
        · exact tm_callT rfl rfl (tm_callV rfl rfl c8 rfl rfl) (lq_257 m11) qz28 rfl
      · rw [if_neg c8] at hr
        cases hr
set_option maxRecDepth 20000 in
def l256_54 (x0 : Option Nat) (x1 : Int32) (x2 : Int32) (x3 : Int32) (s0 : Int32) (s1 : Option Nat) (h : pm_H) : tm_L := (lf_P 81 h s1 [0, 10, 0] (.inl s0)).bind fun h1 => (lf_I h1 x0 [10, 0]).bind fun v2 => if v2 ≤ (0 : Int32) then if lc_of h1 x0 = some 10 then lb_I (ll_244 x0 x1 ((((40 : Int32) * x2) + x3) - (1 : Int32)) h1) (fun v4 h5 => if v4 = (0 : Int32) then (lf_R h5 x0 [10, 18]).bind fun v7 => (la_I h5 .baload v7 (((120 : Int32) * x1) + ((((40 : Int32) * x2) + x3) - (1 : Int32)))).bind fun v8 => if v8 = (0 : Int32) then (lf_R h5 x0 [10, 18]).bind fun v9 => (la_S pt_P h5 .bastore v9 (((120 : Int32) * x1) + ((((40 : Int32) * x2) + x3) - (1 : Int32))) (.inl (1 : Int32))).bind fun h10 => l256_119 lf_N x0 x1 ((((40 : Int32) * x2) + x3) - (1 : Int32)) (0 : Int32) h10 else some (.inl (some (.inl (0 : Int32))), h5) else some (.inl (some (.inl (0 : Int32))), h5)) else none else some (.inl (some (.inl (0 : Int32))), h1)
set_option maxRecDepth 20000 in
theorem l256_54_t {w : Option Nat} {d : Nat} {x0 : Option Nat} {x1 : Int32} {x2 : Int32} {x3 : Int32} {s0 : Int32} {s1 : Option Nat} {h : pm_H} {r : tm_O × pm_H} (hr : l256_54 x0 x1 x2 x3 s0 s1 h = some r) : pm_to pt_P (pt_G (tm_r w)) (d + 5) (pt_g256, []) (tm_m (54, [(0, .inr (.inr x0)), (1, .inl x1), (2, .inl x2), (3, .inl x3)], [.inl s0, .inr (.inr s1)])) h (tm_e r) := by
  unfold l256_54 at hr
  obtain ⟨h1, qh1, hr⟩ := Option.bind_eq_some_iff.mp hr
  refine tm_putf rfl qh1 ?_
  refine tm_n 1 (F' := (58, [(0, .inr (.inr x0)), (1, .inl x1), (2, .inl x2), (3, .inl x3)], [.inr (.inr x0)])) rfl ?_
  obtain ⟨v2, qv2, hr⟩ := Option.bind_eq_some_iff.mp hr
  refine tm_getf rfl (lf_I_V qv2) ?_
  by_cases c15 : v2 ≤ (0 : Int32)
  · rw [if_pos c15] at hr
    refine tm_ifT rfl c15 ?_
    refine tm_n 11 (F' := (80, [(5, .inl ((((40 : Int32) * x2) + x3) - (1 : Int32))), (0, .inr (.inr x0)), (1, .inl x1), (2, .inl x2), (3, .inl x3)], [.inl ((((40 : Int32) * x2) + x3) - (1 : Int32)), .inl x1, .inr (.inr x0)])) rfl ?_
    by_cases c3 : lc_of h1 x0 = some 10
    · rw [if_pos c3] at hr
      rcases lb_I_s hr with ⟨v4, h5, m6, hr⟩ | ⟨a13, h5, z14, z14l, m6, qz14, rfl⟩
      · try dsimp only at hr
        refine tm_call rfl rfl (tm_callV rfl rfl c3 rfl rfl) (lq_244 m6) ?_
        by_cases c12 : v4 = (0 : Int32)
        · rw [if_pos c12] at hr
          refine tm_ifF rfl (fun q => q c12) ?_
          refine tm_n 1 (F' := (87, [(5, .inl ((((40 : Int32) * x2) + x3) - (1 : Int32))), (0, .inr (.inr x0)), (1, .inl x1), (2, .inl x2), (3, .inl x3)], [.inr (.inr x0)])) rfl ?_
          obtain ⟨v7, qv7, hr⟩ := Option.bind_eq_some_iff.mp hr
          refine tm_getf rfl (lf_R_V qv7) ?_
          refine tm_n 5 (F' := (97, [(5, .inl ((((40 : Int32) * x2) + x3) - (1 : Int32))), (0, .inr (.inr x0)), (1, .inl x1), (2, .inl x2), (3, .inl x3)], [.inl (((120 : Int32) * x1) + ((((40 : Int32) * x2) + x3) - (1 : Int32))), .inr (.inr v7)])) rfl ?_
          obtain ⟨v8, qv8, hr⟩ := Option.bind_eq_some_iff.mp hr
          refine tm_ald rfl rfl (la_I_V qv8) ?_
          by_cases c11 : v8 = (0 : Int32)
          · rw [if_pos c11] at hr
            refine tm_ifT rfl c11 ?_
            refine tm_n 1 (F' := (104, [(5, .inl ((((40 : Int32) * x2) + x3) - (1 : Int32))), (0, .inr (.inr x0)), (1, .inl x1), (2, .inl x2), (3, .inl x3)], [.inr (.inr x0)])) rfl ?_
            obtain ⟨v9, qv9, hr⟩ := Option.bind_eq_some_iff.mp hr
            refine tm_getf rfl (lf_R_V qv9) ?_
            refine tm_n 6 (F' := (115, [(5, .inl ((((40 : Int32) * x2) + x3) - (1 : Int32))), (0, .inr (.inr x0)), (1, .inl x1), (2, .inl x2), (3, .inl x3)], [.inl (1 : Int32), .inl (((120 : Int32) * x1) + ((((40 : Int32) * x2) + x3) - (1 : Int32))), .inr (.inr v9)])) rfl ?_
            obtain ⟨h10, qh10, hr⟩ := Option.bind_eq_some_iff.mp hr
            refine tm_ast rfl rfl qh10 ?_
            refine tm_n 2 (F' := (119, [(6, .inl (0 : Int32)), (5, .inl ((((40 : Int32) * x2) + x3) - (1 : Int32))), (0, .inr (.inr x0)), (1, .inl x1), (2, .inl x2), (3, .inl x3)], [])) rfl ?_
            refine tm_cut (a := [(0, .inr (.inr x0)), (1, .inl x1), (5, .inl ((((40 : Int32) * x2) + x3) - (1 : Int32))), (6, .inl (0 : Int32))]) rfl (tm_sbs [2, 3, 1, 0] rfl) ?_
            exact l256_119_t lf_N hr
          · rw [if_neg c11] at hr
            refine tm_ifF rfl c11 ?_
            refine tm_n 1 (F' := (102, [(5, .inl ((((40 : Int32) * x2) + x3) - (1 : Int32))), (0, .inr (.inr x0)), (1, .inl x1), (2, .inl x2), (3, .inl x3)], [.inl (0 : Int32)])) rfl ?_
            cases hr
            exact tm_retI rfl rfl
        · rw [if_neg c12] at hr
          refine tm_ifT rfl c12 ?_
          refine tm_n 1 (F' := (102, [(5, .inl ((((40 : Int32) * x2) + x3) - (1 : Int32))), (0, .inr (.inr x0)), (1, .inl x1), (2, .inl x2), (3, .inl x3)], [.inl (0 : Int32)])) rfl ?_
          cases hr
          exact tm_retI rfl rfl
      · exact tm_callT rfl rfl (tm_callV rfl rfl c3 rfl rfl) (lq_244 m6) qz14 rfl
    · rw [if_neg c3] at hr
      cases hr
  · rw [if_neg c15] at hr
    refine tm_ifF rfl c15 ?_
    refine tm_n 1 (F' := (65, [(0, .inr (.inr x0)), (1, .inl x1), (2, .inl x2), (3, .inl x3)], [.inl (0 : Int32)])) rfl ?_
    cases hr
    exact tm_retI rfl rfl
set_option maxRecDepth 20000 in
def l256_53 (x0 : Option Nat) (x1 : Int32) (x2 : Int32) (x3 : Int32) (s0 : Option Nat) (h : pm_H) : tm_L := l256_54 x0 x1 x2 x3 (1 : Int32) s0 h
set_option maxRecDepth 20000 in
theorem l256_53_t {w : Option Nat} {d : Nat} {x0 : Option Nat} {x1 : Int32} {x2 : Int32} {x3 : Int32} {s0 : Option Nat} {h : pm_H} {r : tm_O × pm_H} (hr : l256_53 x0 x1 x2 x3 s0 h = some r) : pm_to pt_P (pt_G (tm_r w)) (d + 5) (pt_g256, []) (tm_m (53, [(0, .inr (.inr x0)), (1, .inl x1), (2, .inl x2), (3, .inl x3)], [.inr (.inr s0)])) h (tm_e r) := by
  unfold l256_53 at hr
  refine tm_n 1 (F' := (54, [(0, .inr (.inr x0)), (1, .inl x1), (2, .inl x2), (3, .inl x3)], [.inl (1 : Int32), .inr (.inr s0)])) rfl ?_
  refine tm_cut (a := [(0, .inr (.inr x0)), (1, .inl x1), (2, .inl x2), (3, .inl x3)]) rfl (tm_sbs [0, 1, 2, 3] rfl) ?_
  exact l256_54_t hr
set_option maxRecDepth 20000 in
def l256_24 (x0 : Option Nat) (x1 : Int32) (x2 : Int32) (x3 : Int32) (s0 : Int32) (h : pm_H) : tm_L := if s0 = (0 : Int32) then l256_53 x0 x1 x2 x3 x0 h else if x3 < (1 : Int32) then l256_53 x0 x1 x2 x3 x0 h else (lf_R h x0 [10, 16]).bind fun v1 => (la_I h .iaload v1 ((4 : Int32) * x2)).bind fun v2 => if v2 < x3 then l256_53 x0 x1 x2 x3 x0 h else l256_54 x0 x1 x2 x3 (0 : Int32) x0 h
set_option maxRecDepth 20000 in
theorem l256_24_t {w : Option Nat} {d : Nat} {x0 : Option Nat} {x1 : Int32} {x2 : Int32} {x3 : Int32} {s0 : Int32} {h : pm_H} {r : tm_O × pm_H} (hr : l256_24 x0 x1 x2 x3 s0 h = some r) : pm_to pt_P (pt_G (tm_r w)) (d + 5) (pt_g256, []) (tm_m (24, [(0, .inr (.inr x0)), (1, .inl x1), (2, .inl x2), (3, .inl x3)], [.inl s0])) h (tm_e r) := by
  unfold l256_24 at hr
  refine tm_n 3 (F' := (29, [(4, .inl s0), (0, .inr (.inr x0)), (1, .inl x1), (2, .inl x2), (3, .inl x3)], [.inl s0, .inr (.inr x0)])) rfl ?_
  by_cases c5 : s0 = (0 : Int32)
  · rw [if_pos c5] at hr
    refine tm_ifT rfl c5 ?_
    refine tm_cut (a := [(0, .inr (.inr x0)), (1, .inl x1), (2, .inl x2), (3, .inl x3)]) rfl (tm_sbs [1, 2, 3, 4] rfl) ?_
    exact l256_53_t hr
  · rw [if_neg c5] at hr
    refine tm_ifF rfl c5 ?_
    refine tm_n 2 (F' := (34, [(4, .inl s0), (0, .inr (.inr x0)), (1, .inl x1), (2, .inl x2), (3, .inl x3)], [.inl (1 : Int32), .inl x3, .inr (.inr x0)])) rfl ?_
    by_cases c4 : x3 < (1 : Int32)
    · rw [if_pos c4] at hr
      refine tm_icT rfl c4 ?_
      refine tm_cut (a := [(0, .inr (.inr x0)), (1, .inl x1), (2, .inl x2), (3, .inl x3)]) rfl (tm_sbs [1, 2, 3, 4] rfl) ?_
      exact l256_53_t hr
    · rw [if_neg c4] at hr
      refine tm_icF rfl c4 ?_
      refine tm_n 2 (F' := (39, [(4, .inl s0), (0, .inr (.inr x0)), (1, .inl x1), (2, .inl x2), (3, .inl x3)], [.inr (.inr x0), .inl x3, .inr (.inr x0)])) rfl ?_
      obtain ⟨v1, qv1, hr⟩ := Option.bind_eq_some_iff.mp hr
      refine tm_getf rfl (lf_R_V qv1) ?_
      refine tm_n 3 (F' := (45, [(4, .inl s0), (0, .inr (.inr x0)), (1, .inl x1), (2, .inl x2), (3, .inl x3)], [.inl ((4 : Int32) * x2), .inr (.inr v1), .inl x3, .inr (.inr x0)])) rfl ?_
      obtain ⟨v2, qv2, hr⟩ := Option.bind_eq_some_iff.mp hr
      refine tm_ald rfl rfl (la_I_V qv2) ?_
      by_cases c3 : v2 < x3
      · rw [if_pos c3] at hr
        refine tm_icT rfl c3 ?_
        refine tm_cut (a := [(0, .inr (.inr x0)), (1, .inl x1), (2, .inl x2), (3, .inl x3)]) rfl (tm_sbs [1, 2, 3, 4] rfl) ?_
        exact l256_53_t hr
      · rw [if_neg c3] at hr
        refine tm_icF rfl c3 ?_
        refine tm_n 2 (F' := (54, [(4, .inl s0), (0, .inr (.inr x0)), (1, .inl x1), (2, .inl x2), (3, .inl x3)], [.inl (0 : Int32), .inr (.inr x0)])) rfl ?_
        refine tm_cut (a := [(0, .inr (.inr x0)), (1, .inl x1), (2, .inl x2), (3, .inl x3)]) rfl (tm_sbs [1, 2, 3, 4] rfl) ?_
        exact l256_54_t hr
set_option maxRecDepth 20000 in
def l256_23 (x0 : Option Nat) (x1 : Int32) (x2 : Int32) (x3 : Int32) (h : pm_H) : tm_L := l256_24 x0 x1 x2 x3 (0 : Int32) h
set_option maxRecDepth 20000 in
theorem l256_23_t {w : Option Nat} {d : Nat} {x0 : Option Nat} {x1 : Int32} {x2 : Int32} {x3 : Int32} {h : pm_H} {r : tm_O × pm_H} (hr : l256_23 x0 x1 x2 x3 h = some r) : pm_to pt_P (pt_G (tm_r w)) (d + 5) (pt_g256, []) (tm_m (23, [(0, .inr (.inr x0)), (1, .inl x1), (2, .inl x2), (3, .inl x3)], [])) h (tm_e r) := by
  unfold l256_23 at hr
  refine tm_n 1 (F' := (24, [(0, .inr (.inr x0)), (1, .inl x1), (2, .inl x2), (3, .inl x3)], [.inl (0 : Int32)])) rfl ?_
  refine tm_cut (a := [(0, .inr (.inr x0)), (1, .inl x1), (2, .inl x2), (3, .inl x3)]) rfl (tm_sbs [0, 1, 2, 3] rfl) ?_
  exact l256_24_t hr
set_option maxRecDepth 20000 in
def ll_256 (a0 : Option Nat) (a1 : Int32) (a2 : Int32) (a3 : Int32) (h : pm_H) : tm_L := lb_I (ll_237 a1 h) (fun v1 h2 => if v1 = (0 : Int32) then l256_23 a0 a1 a2 a3 h2 else lb_I (ll_237 a2 h2) (fun v4 h5 => if v4 = (0 : Int32) then l256_23 a0 a1 a2 a3 h5 else if a1 = a2 then l256_23 a0 a1 a2 a3 h5 else l256_24 a0 a1 a2 a3 (1 : Int32) h5))
set_option maxRecDepth 20000 in
theorem lq_256 {w : Option Nat} {d : Nat} {a0 : Option Nat} {a1 : Int32} {a2 : Int32} {a3 : Int32} {h : pm_H} {r : tm_O × pm_H} (hr : ll_256 a0 a1 a2 a3 h = some r) : tm_run pt_P (pt_G (tm_r w)) (d + 5) 256 [.inr (.inr a0), .inl a1, .inl a2, .inl a3] h r := by
  unfold ll_256 at hr
  show pm_to pt_P (pt_G (tm_r w)) (d + 5) (pt_g256, []) (tm_m (0, [(0, .inr (.inr a0)), (1, .inl a1), (2, .inl a2), (3, .inl a3)], [])) h (tm_e r)
  refine tm_n 1 (F' := (1, [(0, .inr (.inr a0)), (1, .inl a1), (2, .inl a2), (3, .inl a3)], [.inl a1])) rfl ?_
  rcases lb_I_s hr with ⟨v1, h2, m3, hr⟩ | ⟨a12, h2, z13, z13l, m3, qz13, rfl⟩
  · try dsimp only at hr
    refine tm_call rfl rfl (tm_callS rfl rfl) (lq_237 m3) ?_
    by_cases c11 : v1 = (0 : Int32)
    · rw [if_pos c11] at hr
      refine tm_ifT rfl c11 ?_
      refine tm_cut (a := [(0, .inr (.inr a0)), (1, .inl a1), (2, .inl a2), (3, .inl a3)]) rfl (tm_sbs [0, 1, 2, 3] rfl) ?_
      exact l256_23_t hr
    · rw [if_neg c11] at hr
      refine tm_ifF rfl c11 ?_
      refine tm_n 1 (F' := (8, [(0, .inr (.inr a0)), (1, .inl a1), (2, .inl a2), (3, .inl a3)], [.inl a2])) rfl ?_
      rcases lb_I_s hr with ⟨v4, h5, m6, hr⟩ | ⟨a9, h5, z10, z10l, m6, qz10, rfl⟩
      · try dsimp only at hr
        refine tm_call rfl rfl (tm_callS rfl rfl) (lq_237 m6) ?_
        by_cases c8 : v4 = (0 : Int32)
        · rw [if_pos c8] at hr
          refine tm_ifT rfl c8 ?_
          refine tm_cut (a := [(0, .inr (.inr a0)), (1, .inl a1), (2, .inl a2), (3, .inl a3)]) rfl (tm_sbs [0, 1, 2, 3] rfl) ?_
          exact l256_23_t hr
        · rw [if_neg c8] at hr
          refine tm_ifF rfl c8 ?_
          refine tm_n 2 (F' := (16, [(0, .inr (.inr a0)), (1, .inl a1), (2, .inl a2), (3, .inl a3)], [.inl a2, .inl a1])) rfl ?_
          by_cases c7 : a1 = a2
          · rw [if_pos c7] at hr
            refine tm_icT rfl c7 ?_
            refine tm_cut (a := [(0, .inr (.inr a0)), (1, .inl a1), (2, .inl a2), (3, .inl a3)]) rfl (tm_sbs [0, 1, 2, 3] rfl) ?_
            exact l256_23_t hr
          · rw [if_neg c7] at hr
            refine tm_icF rfl c7 ?_
            refine tm_n 2 (F' := (24, [(0, .inr (.inr a0)), (1, .inl a1), (2, .inl a2), (3, .inl a3)], [.inl (1 : Int32)])) rfl ?_
            refine tm_cut (a := [(0, .inr (.inr a0)), (1, .inl a1), (2, .inl a2), (3, .inl a3)]) rfl (tm_sbs [0, 1, 2, 3] rfl) ?_
            exact l256_24_t hr
      · exact tm_callT rfl rfl (tm_callS rfl rfl) (lq_237 m6) qz10 rfl
  · exact tm_callT rfl rfl (tm_callS rfl rfl) (lq_237 m3) qz13 rfl
-- OfficeSheetModel.known(II)I
set_option maxRecDepth 20000 in
def l258_20 (x0 : Option Nat) (x1 : Int32) (x2 : Int32) (s0 : Int32) (s1 : Option Nat) (h : pm_H) : tm_L := (lf_P 81 h s1 [0, 10, 0] (.inl s0)).bind fun h1 => (lf_I h1 x0 [10, 0]).bind fun v2 => if v2 ≤ (0 : Int32) then (lf_R h1 x0 [10, 16]).bind fun v3 => (la_I h1 .iaload v3 (((3 : Int32) * x1) + x2)).bind fun v4 => some (.inl (some (.inl v4)), h1) else some (.inl (some (.inl (0 : Int32))), h1)
set_option maxRecDepth 20000 in
theorem l258_20_t {w : Option Nat} {d : Nat} {x0 : Option Nat} {x1 : Int32} {x2 : Int32} {s0 : Int32} {s1 : Option Nat} {h : pm_H} {r : tm_O × pm_H} (hr : l258_20 x0 x1 x2 s0 s1 h = some r) : pm_to pt_P (pt_G (tm_r w)) (d + 1) (pt_g258, []) (tm_m (20, [(0, .inr (.inr x0)), (1, .inl x1), (2, .inl x2)], [.inl s0, .inr (.inr s1)])) h (tm_e r) := by
  unfold l258_20 at hr
  obtain ⟨h1, qh1, hr⟩ := Option.bind_eq_some_iff.mp hr
  refine tm_putf rfl qh1 ?_
  refine tm_n 1 (F' := (24, [(0, .inr (.inr x0)), (1, .inl x1), (2, .inl x2)], [.inr (.inr x0)])) rfl ?_
  obtain ⟨v2, qv2, hr⟩ := Option.bind_eq_some_iff.mp hr
  refine tm_getf rfl (lf_I_V qv2) ?_
  by_cases c5 : v2 ≤ (0 : Int32)
  · rw [if_pos c5] at hr
    refine tm_ifT rfl c5 ?_
    refine tm_n 1 (F' := (35, [(0, .inr (.inr x0)), (1, .inl x1), (2, .inl x2)], [.inr (.inr x0)])) rfl ?_
    obtain ⟨v3, qv3, hr⟩ := Option.bind_eq_some_iff.mp hr
    refine tm_getf rfl (lf_R_V qv3) ?_
    refine tm_n 5 (F' := (43, [(0, .inr (.inr x0)), (1, .inl x1), (2, .inl x2)], [.inl (((3 : Int32) * x1) + x2), .inr (.inr v3)])) rfl ?_
    obtain ⟨v4, qv4, hr⟩ := Option.bind_eq_some_iff.mp hr
    refine tm_ald rfl rfl (la_I_V qv4) ?_
    cases hr
    exact tm_retI rfl rfl
  · rw [if_neg c5] at hr
    refine tm_ifF rfl c5 ?_
    refine tm_n 2 (F' := (44, [(0, .inr (.inr x0)), (1, .inl x1), (2, .inl x2)], [.inl (0 : Int32)])) rfl ?_
    cases hr
    exact tm_retI rfl rfl
set_option maxRecDepth 20000 in
def l258_19 (x0 : Option Nat) (x1 : Int32) (x2 : Int32) (s0 : Option Nat) (h : pm_H) : tm_L := l258_20 x0 x1 x2 (1 : Int32) s0 h
set_option maxRecDepth 20000 in
theorem l258_19_t {w : Option Nat} {d : Nat} {x0 : Option Nat} {x1 : Int32} {x2 : Int32} {s0 : Option Nat} {h : pm_H} {r : tm_O × pm_H} (hr : l258_19 x0 x1 x2 s0 h = some r) : pm_to pt_P (pt_G (tm_r w)) (d + 1) (pt_g258, []) (tm_m (19, [(0, .inr (.inr x0)), (1, .inl x1), (2, .inl x2)], [.inr (.inr s0)])) h (tm_e r) := by
  unfold l258_19 at hr
  refine tm_n 1 (F' := (20, [(0, .inr (.inr x0)), (1, .inl x1), (2, .inl x2)], [.inl (1 : Int32), .inr (.inr s0)])) rfl ?_
  refine tm_cut (a := [(0, .inr (.inr x0)), (1, .inl x1), (2, .inl x2)]) rfl (tm_sbs [0, 1, 2] rfl) ?_
  exact l258_20_t hr
set_option maxRecDepth 20000 in
def ll_258 (a0 : Option Nat) (a1 : Int32) (a2 : Int32) (h : pm_H) : tm_L := lb_I (ll_237 a1 h) (fun v1 h2 => if v1 = (0 : Int32) then l258_19 a0 a1 a2 a0 h2 else lb_I (ll_237 a2 h2) (fun v4 h5 => if v4 = (0 : Int32) then l258_19 a0 a1 a2 a0 h5 else l258_20 a0 a1 a2 (0 : Int32) a0 h5))
set_option maxRecDepth 20000 in
theorem lq_258 {w : Option Nat} {d : Nat} {a0 : Option Nat} {a1 : Int32} {a2 : Int32} {h : pm_H} {r : tm_O × pm_H} (hr : ll_258 a0 a1 a2 h = some r) : tm_run pt_P (pt_G (tm_r w)) (d + 1) 258 [.inr (.inr a0), .inl a1, .inl a2] h r := by
  unfold ll_258 at hr
  show pm_to pt_P (pt_G (tm_r w)) (d + 1) (pt_g258, []) (tm_m (0, [(0, .inr (.inr a0)), (1, .inl a1), (2, .inl a2)], [])) h (tm_e r)
  refine tm_n 2 (F' := (2, [(0, .inr (.inr a0)), (1, .inl a1), (2, .inl a2)], [.inl a1, .inr (.inr a0)])) rfl ?_
  rcases lb_I_s hr with ⟨v1, h2, m3, hr⟩ | ⟨a11, h2, z12, z12l, m3, qz12, rfl⟩
  · try dsimp only at hr
    refine tm_call rfl rfl (tm_callS rfl rfl) (lq_237 m3) ?_
    by_cases c10 : v1 = (0 : Int32)
    · rw [if_pos c10] at hr
      refine tm_ifT rfl c10 ?_
      refine tm_cut (a := [(0, .inr (.inr a0)), (1, .inl a1), (2, .inl a2)]) rfl (tm_sbs [0, 1, 2] rfl) ?_
      exact l258_19_t hr
    · rw [if_neg c10] at hr
      refine tm_ifF rfl c10 ?_
      refine tm_n 1 (F' := (9, [(0, .inr (.inr a0)), (1, .inl a1), (2, .inl a2)], [.inl a2, .inr (.inr a0)])) rfl ?_
      rcases lb_I_s hr with ⟨v4, h5, m6, hr⟩ | ⟨a8, h5, z9, z9l, m6, qz9, rfl⟩
      · try dsimp only at hr
        refine tm_call rfl rfl (tm_callS rfl rfl) (lq_237 m6) ?_
        by_cases c7 : v4 = (0 : Int32)
        · rw [if_pos c7] at hr
          refine tm_ifT rfl c7 ?_
          refine tm_cut (a := [(0, .inr (.inr a0)), (1, .inl a1), (2, .inl a2)]) rfl (tm_sbs [0, 1, 2] rfl) ?_
          exact l258_19_t hr
        · rw [if_neg c7] at hr
          refine tm_ifF rfl c7 ?_
          refine tm_n 2 (F' := (20, [(0, .inr (.inr a0)), (1, .inl a1), (2, .inl a2)], [.inl (0 : Int32), .inr (.inr a0)])) rfl ?_
          refine tm_cut (a := [(0, .inr (.inr a0)), (1, .inl a1), (2, .inl a2)]) rfl (tm_sbs [0, 1, 2] rfl) ?_
          exact l258_20_t hr
      · exact tm_callT rfl rfl (tm_callS rfl rfl) (lq_237 m6) qz9 rfl
  · exact tm_callT rfl rfl (tm_callS rfl rfl) (lq_237 m3) qz12 rfl
-- OfficeSheetModel.waiting(I)I
set_option maxRecDepth 20000 in
def l259_54 (K20 : Option Nat → Int32 → Int32 → Int32 → pm_H → tm_L) (x0 : Option Nat) (x1 : Int32) (x3 : Int32) (s0 : Int32) (h : pm_H) : tm_L := K20 x0 x1 s0 (x3 + (1 : Int32)) h
set_option maxRecDepth 20000 in
theorem l259_54_t {w : Option Nat} {d : Nat} {K20 : Option Nat → Int32 → Int32 → Int32 → pm_H → tm_L} (hK20 : ∀ {x0 : Option Nat} {x1 : Int32} {x2 : Int32} {x3 : Int32}  {h : pm_H} {r : tm_O × pm_H}, K20 x0 x1 x2 x3 h = some r → pm_to pt_P (pt_G (tm_r w)) (d + 1) (pt_g259, []) (tm_m (20, [(0, .inr (.inr x0)), (1, .inl x1), (2, .inl x2), (3, .inl x3)], [])) h (tm_e r)) {x0 : Option Nat} {x1 : Int32} {x3 : Int32} {s0 : Int32} {h : pm_H} {r : tm_O × pm_H} (hr : l259_54 K20 x0 x1 x3 s0 h = some r) : pm_to pt_P (pt_G (tm_r w)) (d + 1) (pt_g259, []) (tm_m (54, [(0, .inr (.inr x0)), (1, .inl x1), (3, .inl x3)], [.inl s0])) h (tm_e r) := by
  unfold l259_54 at hr
  refine tm_n 3 (F' := (20, [(3, .inl (x3 + (1 : Int32))), (2, .inl s0), (0, .inr (.inr x0)), (1, .inl x1)], [])) rfl ?_
  refine tm_cut (a := [(0, .inr (.inr x0)), (1, .inl x1), (2, .inl s0), (3, .inl (x3 + (1 : Int32)))]) rfl (tm_sbs [2, 3, 1, 0] rfl) ?_
  exact hK20 hr
set_option maxRecDepth 20000 in
def l259_20 : Nat → Option Nat → Int32 → Int32 → Int32 → pm_H → tm_L
  | 0 => fun _ _ _ _ _ => none
  | n + 1 => fun x0 x1 x2 x3 h => if (120 : Int32) ≤ x3 then some (.inl (some (.inl x2)), h) else (lf_I h x0 [10, 0]).bind fun v1 => if v1 = (0 : Int32) then (lf_R h x0 [10, 18]).bind fun v2 => (la_I h .baload v2 (((120 : Int32) * x1) + x3)).bind fun v3 => if v3 = (0 : Int32) then l259_54 (l259_20 n) x0 x1 x3 x2 h else l259_54 (l259_20 n) x0 x1 x3 (x2 + (1 : Int32)) h else some (.inl (some (.inl x2)), h)
set_option maxRecDepth 20000 in
theorem l259_20_t {w : Option Nat} {d : Nat} : ∀ (n : Nat) {x0 : Option Nat} {x1 : Int32} {x2 : Int32} {x3 : Int32} {h : pm_H} {r : tm_O × pm_H}, l259_20 n x0 x1 x2 x3 h = some r → pm_to pt_P (pt_G (tm_r w)) (d + 1) (pt_g259, []) (tm_m (20, [(0, .inr (.inr x0)), (1, .inl x1), (2, .inl x2), (3, .inl x3)], [])) h (tm_e r) := by
  intro n
  induction n with
  | zero => intro x0 x1 x2 x3 h r hr; cases hr
  | succ n ih =>
    intro x0 x1 x2 x3 h r hr
    unfold l259_20 at hr
    refine tm_n 2 (F' := (23, [(0, .inr (.inr x0)), (1, .inl x1), (2, .inl x2), (3, .inl x3)], [.inl (120 : Int32), .inl x3])) rfl ?_
    by_cases c6 : (120 : Int32) ≤ x3
    · rw [if_pos c6] at hr
      refine tm_icT rfl c6 ?_
      refine tm_n 1 (F' := (62, [(0, .inr (.inr x0)), (1, .inl x1), (2, .inl x2), (3, .inl x3)], [.inl x2])) rfl ?_
      cases hr
      exact tm_retI rfl rfl
    · rw [if_neg c6] at hr
      refine tm_icF rfl c6 ?_
      refine tm_n 1 (F' := (27, [(0, .inr (.inr x0)), (1, .inl x1), (2, .inl x2), (3, .inl x3)], [.inr (.inr x0)])) rfl ?_
      obtain ⟨v1, qv1, hr⟩ := Option.bind_eq_some_iff.mp hr
      refine tm_getf rfl (lf_I_V qv1) ?_
      by_cases c5 : v1 = (0 : Int32)
      · rw [if_pos c5] at hr
        refine tm_ifF rfl (fun q => q c5) ?_
        refine tm_n 1 (F' := (34, [(0, .inr (.inr x0)), (1, .inl x1), (2, .inl x2), (3, .inl x3)], [.inr (.inr x0)])) rfl ?_
        obtain ⟨v2, qv2, hr⟩ := Option.bind_eq_some_iff.mp hr
        refine tm_getf rfl (lf_R_V qv2) ?_
        refine tm_n 5 (F' := (43, [(0, .inr (.inr x0)), (1, .inl x1), (2, .inl x2), (3, .inl x3)], [.inl (((120 : Int32) * x1) + x3), .inr (.inr v2)])) rfl ?_
        obtain ⟨v3, qv3, hr⟩ := Option.bind_eq_some_iff.mp hr
        refine tm_ald rfl rfl (la_I_V qv3) ?_
        by_cases c4 : v3 = (0 : Int32)
        · rw [if_pos c4] at hr
          refine tm_ifT rfl c4 ?_
          refine tm_n 1 (F' := (54, [(0, .inr (.inr x0)), (1, .inl x1), (2, .inl x2), (3, .inl x3)], [.inl x2])) rfl ?_
          refine tm_cut (a := [(0, .inr (.inr x0)), (1, .inl x1), (3, .inl x3)]) rfl (tm_sbs [0, 1, 3] rfl) ?_
          exact l259_54_t (fun hr => ih hr) hr
        · rw [if_neg c4] at hr
          refine tm_ifF rfl c4 ?_
          refine tm_n 4 (F' := (54, [(0, .inr (.inr x0)), (1, .inl x1), (2, .inl x2), (3, .inl x3)], [.inl (x2 + (1 : Int32))])) rfl ?_
          refine tm_cut (a := [(0, .inr (.inr x0)), (1, .inl x1), (3, .inl x3)]) rfl (tm_sbs [0, 1, 3] rfl) ?_
          exact l259_54_t (fun hr => ih hr) hr
      · rw [if_neg c5] at hr
        refine tm_ifT rfl c5 ?_
        refine tm_n 1 (F' := (62, [(0, .inr (.inr x0)), (1, .inl x1), (2, .inl x2), (3, .inl x3)], [.inl x2])) rfl ?_
        cases hr
        exact tm_retI rfl rfl
set_option maxRecDepth 20000 in
def l259_13 (x0 : Option Nat) (x1 : Int32) (s0 : Int32) (s1 : Option Nat) (h : pm_H) : tm_L := (lf_P 81 h s1 [0, 10, 0] (.inl s0)).bind fun h1 => l259_20 lf_N x0 x1 (0 : Int32) (0 : Int32) h1
set_option maxRecDepth 20000 in
theorem l259_13_t {w : Option Nat} {d : Nat} {x0 : Option Nat} {x1 : Int32} {s0 : Int32} {s1 : Option Nat} {h : pm_H} {r : tm_O × pm_H} (hr : l259_13 x0 x1 s0 s1 h = some r) : pm_to pt_P (pt_G (tm_r w)) (d + 1) (pt_g259, []) (tm_m (13, [(0, .inr (.inr x0)), (1, .inl x1)], [.inl s0, .inr (.inr s1)])) h (tm_e r) := by
  unfold l259_13 at hr
  obtain ⟨h1, qh1, hr⟩ := Option.bind_eq_some_iff.mp hr
  refine tm_putf rfl qh1 ?_
  refine tm_n 4 (F' := (20, [(3, .inl (0 : Int32)), (2, .inl (0 : Int32)), (0, .inr (.inr x0)), (1, .inl x1)], [])) rfl ?_
  refine tm_cut (a := [(0, .inr (.inr x0)), (1, .inl x1), (2, .inl (0 : Int32)), (3, .inl (0 : Int32))]) rfl (tm_sbs [2, 3, 1, 0] rfl) ?_
  exact l259_20_t lf_N hr
set_option maxRecDepth 20000 in
def ll_259 (a0 : Option Nat) (a1 : Int32) (h : pm_H) : tm_L := lb_I (ll_237 a1 h) (fun v1 h2 => if v1 = (0 : Int32) then l259_13 a0 a1 (1 : Int32) a0 h2 else l259_13 a0 a1 (0 : Int32) a0 h2)
set_option maxRecDepth 20000 in
theorem lq_259 {w : Option Nat} {d : Nat} {a0 : Option Nat} {a1 : Int32} {h : pm_H} {r : tm_O × pm_H} (hr : ll_259 a0 a1 h = some r) : tm_run pt_P (pt_G (tm_r w)) (d + 1) 259 [.inr (.inr a0), .inl a1] h r := by
  unfold ll_259 at hr
  show pm_to pt_P (pt_G (tm_r w)) (d + 1) (pt_g259, []) (tm_m (0, [(0, .inr (.inr a0)), (1, .inl a1)], [])) h (tm_e r)
  refine tm_n 2 (F' := (2, [(0, .inr (.inr a0)), (1, .inl a1)], [.inl a1, .inr (.inr a0)])) rfl ?_
  rcases lb_I_s hr with ⟨v1, h2, m3, hr⟩ | ⟨a5, h2, z6, z6l, m3, qz6, rfl⟩
  · try dsimp only at hr
    refine tm_call rfl rfl (tm_callS rfl rfl) (lq_237 m3) ?_
    by_cases c4 : v1 = (0 : Int32)
    · rw [if_pos c4] at hr
      refine tm_ifT rfl c4 ?_
      refine tm_n 1 (F' := (13, [(0, .inr (.inr a0)), (1, .inl a1)], [.inl (1 : Int32), .inr (.inr a0)])) rfl ?_
      refine tm_cut (a := [(0, .inr (.inr a0)), (1, .inl a1)]) rfl (tm_sbs [0, 1] rfl) ?_
      exact l259_13_t hr
    · rw [if_neg c4] at hr
      refine tm_ifF rfl c4 ?_
      refine tm_n 2 (F' := (13, [(0, .inr (.inr a0)), (1, .inl a1)], [.inl (0 : Int32), .inr (.inr a0)])) rfl ?_
      refine tm_cut (a := [(0, .inr (.inr a0)), (1, .inl a1)]) rfl (tm_sbs [0, 1] rfl) ?_
      exact l259_13_t hr
  · exact tm_callT rfl rfl (tm_callS rfl rfl) (lq_237 m3) qz6 rfl
-- OfficeSheetModel.lines(II)I
set_option maxRecDepth 20000 in
def l260_20 (x0 : Option Nat) (x1 : Int32) (x2 : Int32) (s0 : Int32) (s1 : Option Nat) (h : pm_H) : tm_L := (lf_P 81 h s1 [0, 10, 0] (.inl s0)).bind fun h1 => (lf_I h1 x0 [10, 0]).bind fun v2 => if v2 ≤ (0 : Int32) then (lf_R h1 x0 [10, 20]).bind fun v3 => (la_I h1 .iaload v3 (((2 : Int32) * x1) + x2)).bind fun v4 => some (.inl (some (.inl v4)), h1) else some (.inl (some (.inl (0 : Int32))), h1)
set_option maxRecDepth 20000 in
theorem l260_20_t {w : Option Nat} {d : Nat} {x0 : Option Nat} {x1 : Int32} {x2 : Int32} {s0 : Int32} {s1 : Option Nat} {h : pm_H} {r : tm_O × pm_H} (hr : l260_20 x0 x1 x2 s0 s1 h = some r) : pm_to pt_P (pt_G (tm_r w)) (d + 1) (pt_g260, []) (tm_m (20, [(0, .inr (.inr x0)), (1, .inl x1), (2, .inl x2)], [.inl s0, .inr (.inr s1)])) h (tm_e r) := by
  unfold l260_20 at hr
  obtain ⟨h1, qh1, hr⟩ := Option.bind_eq_some_iff.mp hr
  refine tm_putf rfl qh1 ?_
  refine tm_n 1 (F' := (24, [(0, .inr (.inr x0)), (1, .inl x1), (2, .inl x2)], [.inr (.inr x0)])) rfl ?_
  obtain ⟨v2, qv2, hr⟩ := Option.bind_eq_some_iff.mp hr
  refine tm_getf rfl (lf_I_V qv2) ?_
  by_cases c5 : v2 ≤ (0 : Int32)
  · rw [if_pos c5] at hr
    refine tm_ifT rfl c5 ?_
    refine tm_n 1 (F' := (35, [(0, .inr (.inr x0)), (1, .inl x1), (2, .inl x2)], [.inr (.inr x0)])) rfl ?_
    obtain ⟨v3, qv3, hr⟩ := Option.bind_eq_some_iff.mp hr
    refine tm_getf rfl (lf_R_V qv3) ?_
    refine tm_n 5 (F' := (43, [(0, .inr (.inr x0)), (1, .inl x1), (2, .inl x2)], [.inl (((2 : Int32) * x1) + x2), .inr (.inr v3)])) rfl ?_
    obtain ⟨v4, qv4, hr⟩ := Option.bind_eq_some_iff.mp hr
    refine tm_ald rfl rfl (la_I_V qv4) ?_
    cases hr
    exact tm_retI rfl rfl
  · rw [if_neg c5] at hr
    refine tm_ifF rfl c5 ?_
    refine tm_n 2 (F' := (44, [(0, .inr (.inr x0)), (1, .inl x1), (2, .inl x2)], [.inl (0 : Int32)])) rfl ?_
    cases hr
    exact tm_retI rfl rfl
set_option maxRecDepth 20000 in
def l260_19 (x0 : Option Nat) (x1 : Int32) (x2 : Int32) (s0 : Option Nat) (h : pm_H) : tm_L := l260_20 x0 x1 x2 (1 : Int32) s0 h
set_option maxRecDepth 20000 in
theorem l260_19_t {w : Option Nat} {d : Nat} {x0 : Option Nat} {x1 : Int32} {x2 : Int32} {s0 : Option Nat} {h : pm_H} {r : tm_O × pm_H} (hr : l260_19 x0 x1 x2 s0 h = some r) : pm_to pt_P (pt_G (tm_r w)) (d + 1) (pt_g260, []) (tm_m (19, [(0, .inr (.inr x0)), (1, .inl x1), (2, .inl x2)], [.inr (.inr s0)])) h (tm_e r) := by
  unfold l260_19 at hr
  refine tm_n 1 (F' := (20, [(0, .inr (.inr x0)), (1, .inl x1), (2, .inl x2)], [.inl (1 : Int32), .inr (.inr s0)])) rfl ?_
  refine tm_cut (a := [(0, .inr (.inr x0)), (1, .inl x1), (2, .inl x2)]) rfl (tm_sbs [0, 1, 2] rfl) ?_
  exact l260_20_t hr
set_option maxRecDepth 20000 in
def ll_260 (a0 : Option Nat) (a1 : Int32) (a2 : Int32) (h : pm_H) : tm_L := lb_I (ll_237 a1 h) (fun v1 h2 => if v1 = (0 : Int32) then l260_19 a0 a1 a2 a0 h2 else lb_I (ll_238 a2 h2) (fun v4 h5 => if v4 = (0 : Int32) then l260_19 a0 a1 a2 a0 h5 else l260_20 a0 a1 a2 (0 : Int32) a0 h5))
set_option maxRecDepth 20000 in
theorem lq_260 {w : Option Nat} {d : Nat} {a0 : Option Nat} {a1 : Int32} {a2 : Int32} {h : pm_H} {r : tm_O × pm_H} (hr : ll_260 a0 a1 a2 h = some r) : tm_run pt_P (pt_G (tm_r w)) (d + 1) 260 [.inr (.inr a0), .inl a1, .inl a2] h r := by
  unfold ll_260 at hr
  show pm_to pt_P (pt_G (tm_r w)) (d + 1) (pt_g260, []) (tm_m (0, [(0, .inr (.inr a0)), (1, .inl a1), (2, .inl a2)], [])) h (tm_e r)
  refine tm_n 2 (F' := (2, [(0, .inr (.inr a0)), (1, .inl a1), (2, .inl a2)], [.inl a1, .inr (.inr a0)])) rfl ?_
  rcases lb_I_s hr with ⟨v1, h2, m3, hr⟩ | ⟨a11, h2, z12, z12l, m3, qz12, rfl⟩
  · try dsimp only at hr
    refine tm_call rfl rfl (tm_callS rfl rfl) (lq_237 m3) ?_
    by_cases c10 : v1 = (0 : Int32)
    · rw [if_pos c10] at hr
      refine tm_ifT rfl c10 ?_
      refine tm_cut (a := [(0, .inr (.inr a0)), (1, .inl a1), (2, .inl a2)]) rfl (tm_sbs [0, 1, 2] rfl) ?_
      exact l260_19_t hr
    · rw [if_neg c10] at hr
      refine tm_ifF rfl c10 ?_
      refine tm_n 1 (F' := (9, [(0, .inr (.inr a0)), (1, .inl a1), (2, .inl a2)], [.inl a2, .inr (.inr a0)])) rfl ?_
      rcases lb_I_s hr with ⟨v4, h5, m6, hr⟩ | ⟨a8, h5, z9, z9l, m6, qz9, rfl⟩
      · try dsimp only at hr
        refine tm_call rfl rfl (tm_callS rfl rfl) (lq_238 m6) ?_
        by_cases c7 : v4 = (0 : Int32)
        · rw [if_pos c7] at hr
          refine tm_ifT rfl c7 ?_
          refine tm_cut (a := [(0, .inr (.inr a0)), (1, .inl a1), (2, .inl a2)]) rfl (tm_sbs [0, 1, 2] rfl) ?_
          exact l260_19_t hr
        · rw [if_neg c7] at hr
          refine tm_ifF rfl c7 ?_
          refine tm_n 2 (F' := (20, [(0, .inr (.inr a0)), (1, .inl a1), (2, .inl a2)], [.inl (0 : Int32), .inr (.inr a0)])) rfl ?_
          refine tm_cut (a := [(0, .inr (.inr a0)), (1, .inl a1), (2, .inl a2)]) rfl (tm_sbs [0, 1, 2] rfl) ?_
          exact l260_20_t hr
      · exact tm_callT rfl rfl (tm_callS rfl rfl) (lq_238 m6) qz9 rfl
  · exact tm_callT rfl rfl (tm_callS rfl rfl) (lq_237 m3) qz12 rfl
-- OfficeSheetModel.line(III)I
set_option maxRecDepth 20000 in
def l261_34 (x0 : Option Nat) (x1 : Int32) (x2 : Int32) (x3 : Int32) (s0 : Int32) (s1 : Option Nat) (h : pm_H) : tm_L := (lf_P 81 h s1 [0, 10, 0] (.inl s0)).bind fun h1 => (lf_I h1 x0 [10, 0]).bind fun v2 => if v2 ≤ (0 : Int32) then if lc_of h1 x0 = some 10 then lb_I (ll_242 x0 x1 x2 x3 h1) (fun v4 h5 => some (.inl (some (.inl ((((100 : Int32) * (v4 / (40 : Int32))) + (v4 - v4 / (40 : Int32) * (40 : Int32))) + (1 : Int32)))), h5)) else none else some (.inl (some (.inl (0 : Int32))), h1)
set_option maxRecDepth 20000 in
theorem l261_34_t {w : Option Nat} {d : Nat} {x0 : Option Nat} {x1 : Int32} {x2 : Int32} {x3 : Int32} {s0 : Int32} {s1 : Option Nat} {h : pm_H} {r : tm_O × pm_H} (hr : l261_34 x0 x1 x2 x3 s0 s1 h = some r) : pm_to pt_P (pt_G (tm_r w)) (d + 1) (pt_g261, []) (tm_m (34, [(0, .inr (.inr x0)), (1, .inl x1), (2, .inl x2), (3, .inl x3)], [.inl s0, .inr (.inr s1)])) h (tm_e r) := by
  unfold l261_34 at hr
  obtain ⟨h1, qh1, hr⟩ := Option.bind_eq_some_iff.mp hr
  refine tm_putf rfl qh1 ?_
  refine tm_n 1 (F' := (38, [(0, .inr (.inr x0)), (1, .inl x1), (2, .inl x2), (3, .inl x3)], [.inr (.inr x0)])) rfl ?_
  obtain ⟨v2, qv2, hr⟩ := Option.bind_eq_some_iff.mp hr
  refine tm_getf rfl (lf_I_V qv2) ?_
  by_cases c9 : v2 ≤ (0 : Int32)
  · rw [if_pos c9] at hr
    refine tm_ifT rfl c9 ?_
    refine tm_n 4 (F' := (50, [(0, .inr (.inr x0)), (1, .inl x1), (2, .inl x2), (3, .inl x3)], [.inl x3, .inl x2, .inl x1, .inr (.inr x0)])) rfl ?_
    by_cases c3 : lc_of h1 x0 = some 10
    · rw [if_pos c3] at hr
      rcases lb_I_s hr with ⟨v4, h5, m6, hr⟩ | ⟨a7, h5, z8, z8l, m6, qz8, rfl⟩
      · try dsimp only at hr
        refine tm_call rfl rfl (tm_callV rfl rfl c3 rfl rfl) (lq_242 m6) ?_
        refine tm_n 12 (F' := (71, [(4, .inl v4), (0, .inr (.inr x0)), (1, .inl x1), (2, .inl x2), (3, .inl x3)], [.inl ((((100 : Int32) * (v4 / (40 : Int32))) + (v4 - v4 / (40 : Int32) * (40 : Int32))) + (1 : Int32))])) rfl ?_
        cases hr
        exact tm_retI rfl rfl
      · exact tm_callT rfl rfl (tm_callV rfl rfl c3 rfl rfl) (lq_242 m6) qz8 rfl
    · rw [if_neg c3] at hr
      cases hr
  · rw [if_neg c9] at hr
    refine tm_ifF rfl c9 ?_
    refine tm_n 1 (F' := (45, [(0, .inr (.inr x0)), (1, .inl x1), (2, .inl x2), (3, .inl x3)], [.inl (0 : Int32)])) rfl ?_
    cases hr
    exact tm_retI rfl rfl
set_option maxRecDepth 20000 in
def l261_15 (x0 : Option Nat) (x1 : Int32) (x2 : Int32) (x3 : Int32) (s0 : Option Nat) (h : pm_H) : tm_L := l261_34 x0 x1 x2 x3 (1 : Int32) s0 h
set_option maxRecDepth 20000 in
theorem l261_15_t {w : Option Nat} {d : Nat} {x0 : Option Nat} {x1 : Int32} {x2 : Int32} {x3 : Int32} {s0 : Option Nat} {h : pm_H} {r : tm_O × pm_H} (hr : l261_15 x0 x1 x2 x3 s0 h = some r) : pm_to pt_P (pt_G (tm_r w)) (d + 1) (pt_g261, []) (tm_m (15, [(0, .inr (.inr x0)), (1, .inl x1), (2, .inl x2), (3, .inl x3)], [.inr (.inr s0)])) h (tm_e r) := by
  unfold l261_15 at hr
  refine tm_n 2 (F' := (34, [(0, .inr (.inr x0)), (1, .inl x1), (2, .inl x2), (3, .inl x3)], [.inl (1 : Int32), .inr (.inr s0)])) rfl ?_
  refine tm_cut (a := [(0, .inr (.inr x0)), (1, .inl x1), (2, .inl x2), (3, .inl x3)]) rfl (tm_sbs [0, 1, 2, 3] rfl) ?_
  exact l261_34_t hr
set_option maxRecDepth 20000 in
def ll_261 (a0 : Option Nat) (a1 : Int32) (a2 : Int32) (a3 : Int32) (h : pm_H) : tm_L := lb_I (ll_237 a1 h) (fun v1 h2 => if v1 = (0 : Int32) then l261_15 a0 a1 a2 a3 a0 h2 else lb_I (ll_238 a2 h2) (fun v4 h5 => if v4 = (0 : Int32) then l261_15 a0 a1 a2 a3 a0 h5 else if lc_of h5 a0 = some 10 then lb_I (ll_239 a0 a1 a2 a3 h5) (fun v8 h9 => if v8 = (0 : Int32) then l261_34 a0 a1 a2 a3 (2 : Int32) a0 h9 else l261_34 a0 a1 a2 a3 (0 : Int32) a0 h9) else none))
set_option maxRecDepth 20000 in
theorem lq_261 {w : Option Nat} {d : Nat} {a0 : Option Nat} {a1 : Int32} {a2 : Int32} {a3 : Int32} {h : pm_H} {r : tm_O × pm_H} (hr : ll_261 a0 a1 a2 a3 h = some r) : tm_run pt_P (pt_G (tm_r w)) (d + 1) 261 [.inr (.inr a0), .inl a1, .inl a2, .inl a3] h r := by
  unfold ll_261 at hr
  show pm_to pt_P (pt_G (tm_r w)) (d + 1) (pt_g261, []) (tm_m (0, [(0, .inr (.inr a0)), (1, .inl a1), (2, .inl a2), (3, .inl a3)], [])) h (tm_e r)
  refine tm_n 2 (F' := (2, [(0, .inr (.inr a0)), (1, .inl a1), (2, .inl a2), (3, .inl a3)], [.inl a1, .inr (.inr a0)])) rfl ?_
  rcases lb_I_s hr with ⟨v1, h2, m3, hr⟩ | ⟨a18, h2, z19, z19l, m3, qz19, rfl⟩
  · try dsimp only at hr
    refine tm_call rfl rfl (tm_callS rfl rfl) (lq_237 m3) ?_
    by_cases c17 : v1 = (0 : Int32)
    · rw [if_pos c17] at hr
      refine tm_ifT rfl c17 ?_
      refine tm_cut (a := [(0, .inr (.inr a0)), (1, .inl a1), (2, .inl a2), (3, .inl a3)]) rfl (tm_sbs [0, 1, 2, 3] rfl) ?_
      exact l261_15_t hr
    · rw [if_neg c17] at hr
      refine tm_ifF rfl c17 ?_
      refine tm_n 1 (F' := (9, [(0, .inr (.inr a0)), (1, .inl a1), (2, .inl a2), (3, .inl a3)], [.inl a2, .inr (.inr a0)])) rfl ?_
      rcases lb_I_s hr with ⟨v4, h5, m6, hr⟩ | ⟨a15, h5, z16, z16l, m6, qz16, rfl⟩
      · try dsimp only at hr
        refine tm_call rfl rfl (tm_callS rfl rfl) (lq_238 m6) ?_
        by_cases c14 : v4 = (0 : Int32)
        · rw [if_pos c14] at hr
          refine tm_ifF rfl (fun q => q c14) ?_
          refine tm_cut (a := [(0, .inr (.inr a0)), (1, .inl a1), (2, .inl a2), (3, .inl a3)]) rfl (tm_sbs [0, 1, 2, 3] rfl) ?_
          exact l261_15_t hr
        · rw [if_neg c14] at hr
          refine tm_ifT rfl c14 ?_
          refine tm_n 4 (F' := (23, [(0, .inr (.inr a0)), (1, .inl a1), (2, .inl a2), (3, .inl a3)], [.inl a3, .inl a2, .inl a1, .inr (.inr a0), .inr (.inr a0)])) rfl ?_
          by_cases c7 : lc_of h5 a0 = some 10
          · rw [if_pos c7] at hr
            rcases lb_I_s hr with ⟨v8, h9, m10, hr⟩ | ⟨a12, h9, z13, z13l, m10, qz13, rfl⟩
            · try dsimp only at hr
              refine tm_call rfl rfl (tm_callV rfl rfl c7 rfl rfl) (lq_239 m10) ?_
              by_cases c11 : v8 = (0 : Int32)
              · rw [if_pos c11] at hr
                refine tm_ifT rfl c11 ?_
                refine tm_n 1 (F' := (34, [(0, .inr (.inr a0)), (1, .inl a1), (2, .inl a2), (3, .inl a3)], [.inl (2 : Int32), .inr (.inr a0)])) rfl ?_
                refine tm_cut (a := [(0, .inr (.inr a0)), (1, .inl a1), (2, .inl a2), (3, .inl a3)]) rfl (tm_sbs [0, 1, 2, 3] rfl) ?_
                exact l261_34_t hr
              · rw [if_neg c11] at hr
                refine tm_ifF rfl c11 ?_
                refine tm_n 2 (F' := (34, [(0, .inr (.inr a0)), (1, .inl a1), (2, .inl a2), (3, .inl a3)], [.inl (0 : Int32), .inr (.inr a0)])) rfl ?_
                refine tm_cut (a := [(0, .inr (.inr a0)), (1, .inl a1), (2, .inl a2), (3, .inl a3)]) rfl (tm_sbs [0, 1, 2, 3] rfl) ?_
                exact l261_34_t hr
            · exact tm_callT rfl rfl (tm_callV rfl rfl c7 rfl rfl) (lq_239 m10) qz13 rfl
          · rw [if_neg c7] at hr
            cases hr
      · exact tm_callT rfl rfl (tm_callS rfl rfl) (lq_238 m6) qz16 rfl
  · exact tm_callT rfl rfl (tm_callS rfl rfl) (lq_237 m3) qz19 rfl
-- OfficeSheetModel.type(C)I
set_option maxRecDepth 20000 in
def l262_31 (x0 : Option Nat) (x1 : Int32) (s0 : Int32) (s1 : Option Nat) (h : pm_H) : tm_L := (lf_P 81 h s1 [0, 10, 0] (.inl s0)).bind fun h1 => (lf_I h1 x0 [10, 0]).bind fun v2 => if v2 ≤ (0 : Int32) then (lf_R h1 x0 [10, 21]).bind fun v3 => (lf_I h1 x0 [10, 22]).bind fun v4 => (la_S pt_P h1 .iastore v3 v4 (.inl x1)).bind fun h5 => (lf_I h5 x0 [10, 22]).bind fun v6 => (lf_P 81 h5 x0 [0, 10, 22] (.inl (v6 + (1 : Int32)))).bind fun h7 => (lf_I h7 x0 [10, 22]).bind fun v8 => some (.inl (some (.inl v8)), h7) else some (.inl (some (.inl (0 : Int32))), h1)
set_option maxRecDepth 20000 in
theorem l262_31_t {w : Option Nat} {d : Nat} {x0 : Option Nat} {x1 : Int32} {s0 : Int32} {s1 : Option Nat} {h : pm_H} {r : tm_O × pm_H} (hr : l262_31 x0 x1 s0 s1 h = some r) : pm_to pt_P (pt_G (tm_r w)) (d + 0) (pt_g262, []) (tm_m (31, [(0, .inr (.inr x0)), (1, .inl x1)], [.inl s0, .inr (.inr s1)])) h (tm_e r) := by
  unfold l262_31 at hr
  obtain ⟨h1, qh1, hr⟩ := Option.bind_eq_some_iff.mp hr
  refine tm_putf rfl qh1 ?_
  refine tm_n 1 (F' := (35, [(0, .inr (.inr x0)), (1, .inl x1)], [.inr (.inr x0)])) rfl ?_
  obtain ⟨v2, qv2, hr⟩ := Option.bind_eq_some_iff.mp hr
  refine tm_getf rfl (lf_I_V qv2) ?_
  by_cases c9 : v2 ≤ (0 : Int32)
  · rw [if_pos c9] at hr
    refine tm_ifT rfl c9 ?_
    refine tm_n 1 (F' := (44, [(0, .inr (.inr x0)), (1, .inl x1)], [.inr (.inr x0)])) rfl ?_
    obtain ⟨v3, qv3, hr⟩ := Option.bind_eq_some_iff.mp hr
    refine tm_getf rfl (lf_R_V qv3) ?_
    refine tm_n 1 (F' := (48, [(0, .inr (.inr x0)), (1, .inl x1)], [.inr (.inr x0), .inr (.inr v3)])) rfl ?_
    obtain ⟨v4, qv4, hr⟩ := Option.bind_eq_some_iff.mp hr
    refine tm_getf rfl (lf_I_V qv4) ?_
    refine tm_n 1 (F' := (52, [(0, .inr (.inr x0)), (1, .inl x1)], [.inl x1, .inl v4, .inr (.inr v3)])) rfl ?_
    obtain ⟨h5, qh5, hr⟩ := Option.bind_eq_some_iff.mp hr
    refine tm_ast rfl rfl qh5 ?_
    refine tm_n 2 (F' := (55, [(0, .inr (.inr x0)), (1, .inl x1)], [.inr (.inr x0), .inr (.inr x0)])) rfl ?_
    obtain ⟨v6, qv6, hr⟩ := Option.bind_eq_some_iff.mp hr
    refine tm_getf rfl (lf_I_V qv6) ?_
    refine tm_n 2 (F' := (60, [(0, .inr (.inr x0)), (1, .inl x1)], [.inl (v6 + (1 : Int32)), .inr (.inr x0)])) rfl ?_
    obtain ⟨h7, qh7, hr⟩ := Option.bind_eq_some_iff.mp hr
    refine tm_putf rfl qh7 ?_
    refine tm_n 1 (F' := (64, [(0, .inr (.inr x0)), (1, .inl x1)], [.inr (.inr x0)])) rfl ?_
    obtain ⟨v8, qv8, hr⟩ := Option.bind_eq_some_iff.mp hr
    refine tm_getf rfl (lf_I_V qv8) ?_
    cases hr
    exact tm_retI rfl rfl
  · rw [if_neg c9] at hr
    refine tm_ifF rfl c9 ?_
    refine tm_n 1 (F' := (42, [(0, .inr (.inr x0)), (1, .inl x1)], [.inl (0 : Int32)])) rfl ?_
    cases hr
    exact tm_retI rfl rfl
set_option maxRecDepth 20000 in
def l262_13 (x0 : Option Nat) (x1 : Int32) (s0 : Option Nat) (h : pm_H) : tm_L := l262_31 x0 x1 (1 : Int32) s0 h
set_option maxRecDepth 20000 in
theorem l262_13_t {w : Option Nat} {d : Nat} {x0 : Option Nat} {x1 : Int32} {s0 : Option Nat} {h : pm_H} {r : tm_O × pm_H} (hr : l262_13 x0 x1 s0 h = some r) : pm_to pt_P (pt_G (tm_r w)) (d + 0) (pt_g262, []) (tm_m (13, [(0, .inr (.inr x0)), (1, .inl x1)], [.inr (.inr s0)])) h (tm_e r) := by
  unfold l262_13 at hr
  refine tm_n 2 (F' := (31, [(0, .inr (.inr x0)), (1, .inl x1)], [.inl (1 : Int32), .inr (.inr s0)])) rfl ?_
  refine tm_cut (a := [(0, .inr (.inr x0)), (1, .inl x1)]) rfl (tm_sbs [0, 1] rfl) ?_
  exact l262_31_t hr
set_option maxRecDepth 20000 in
def ll_262 (a0 : Option Nat) (a1 : Int32) (h : pm_H) : tm_L := if a1 < (32 : Int32) then l262_13 a0 a1 a0 h else if a1 ≤ (126 : Int32) then (lf_I h a0 [10, 22]).bind fun v1 => if v1 = (20 : Int32) then l262_31 a0 a1 (2 : Int32) a0 h else l262_31 a0 a1 (0 : Int32) a0 h else l262_13 a0 a1 a0 h
set_option maxRecDepth 20000 in
theorem lq_262 {w : Option Nat} {d : Nat} {a0 : Option Nat} {a1 : Int32} {h : pm_H} {r : tm_O × pm_H} (hr : ll_262 a0 a1 h = some r) : tm_run pt_P (pt_G (tm_r w)) (d + 0) 262 [.inr (.inr a0), .inl a1] h r := by
  unfold ll_262 at hr
  show pm_to pt_P (pt_G (tm_r w)) (d + 0) (pt_g262, []) (tm_m (0, [(0, .inr (.inr a0)), (1, .inl a1)], [])) h (tm_e r)
  refine tm_n 3 (F' := (4, [(0, .inr (.inr a0)), (1, .inl a1)], [.inl (32 : Int32), .inl a1, .inr (.inr a0)])) rfl ?_
  by_cases c4 : a1 < (32 : Int32)
  · rw [if_pos c4] at hr
    refine tm_icT rfl c4 ?_
    refine tm_cut (a := [(0, .inr (.inr a0)), (1, .inl a1)]) rfl (tm_sbs [0, 1] rfl) ?_
    exact l262_13_t hr
  · rw [if_neg c4] at hr
    refine tm_icF rfl c4 ?_
    refine tm_n 2 (F' := (10, [(0, .inr (.inr a0)), (1, .inl a1)], [.inl (126 : Int32), .inl a1, .inr (.inr a0)])) rfl ?_
    by_cases c3 : a1 ≤ (126 : Int32)
    · rw [if_pos c3] at hr
      refine tm_icT rfl c3 ?_
      refine tm_n 1 (F' := (18, [(0, .inr (.inr a0)), (1, .inl a1)], [.inr (.inr a0), .inr (.inr a0)])) rfl ?_
      obtain ⟨v1, qv1, hr⟩ := Option.bind_eq_some_iff.mp hr
      refine tm_getf rfl (lf_I_V qv1) ?_
      refine tm_n 1 (F' := (23, [(0, .inr (.inr a0)), (1, .inl a1)], [.inl (20 : Int32), .inl v1, .inr (.inr a0)])) rfl ?_
      by_cases c2 : v1 = (20 : Int32)
      · rw [if_pos c2] at hr
        refine tm_icF rfl (fun q => q c2) ?_
        refine tm_n 2 (F' := (31, [(0, .inr (.inr a0)), (1, .inl a1)], [.inl (2 : Int32), .inr (.inr a0)])) rfl ?_
        refine tm_cut (a := [(0, .inr (.inr a0)), (1, .inl a1)]) rfl (tm_sbs [0, 1] rfl) ?_
        exact l262_31_t hr
      · rw [if_neg c2] at hr
        refine tm_icT rfl c2 ?_
        refine tm_n 1 (F' := (31, [(0, .inr (.inr a0)), (1, .inl a1)], [.inl (0 : Int32), .inr (.inr a0)])) rfl ?_
        refine tm_cut (a := [(0, .inr (.inr a0)), (1, .inl a1)]) rfl (tm_sbs [0, 1] rfl) ?_
        exact l262_31_t hr
    · rw [if_neg c3] at hr
      refine tm_icF rfl c3 ?_
      refine tm_cut (a := [(0, .inr (.inr a0)), (1, .inl a1)]) rfl (tm_sbs [0, 1] rfl) ?_
      exact l262_13_t hr
-- OfficeSheetModel.cut(I)V
set_option maxRecDepth 20000 in
def l263_37 (s0 : Int32) (s1 : Option Nat) (h : pm_H) : tm_L := (lf_P 81 h s1 [0, 10, 22] (.inl s0)).bind fun h1 => some (.inl none, h1)
set_option maxRecDepth 20000 in
theorem l263_37_t {w : Option Nat} {d : Nat} {s0 : Int32} {s1 : Option Nat} {h : pm_H} {r : tm_O × pm_H} (hr : l263_37 s0 s1 h = some r) : pm_to pt_P (pt_G (tm_r w)) (d + 0) (pt_g263, []) (tm_m (37, [], [.inl s0, .inr (.inr s1)])) h (tm_e r) := by
  unfold l263_37 at hr
  obtain ⟨h1, qh1, hr⟩ := Option.bind_eq_some_iff.mp hr
  refine tm_putf rfl qh1 ?_
  cases hr
  exact tm_retV rfl
set_option maxRecDepth 20000 in
def l263_18 (x0 : Option Nat) (x1 : Int32) (s0 : Int32) (s1 : Option Nat) (h : pm_H) : tm_L := (lf_P 81 h s1 [0, 10, 0] (.inl s0)).bind fun h1 => (lf_I h1 x0 [10, 0]).bind fun v2 => if v2 ≤ (0 : Int32) then l263_37 x1 x0 h1 else (lf_I h1 x0 [10, 22]).bind fun v3 => l263_37 v3 x0 h1
set_option maxRecDepth 20000 in
theorem l263_18_t {w : Option Nat} {d : Nat} {x0 : Option Nat} {x1 : Int32} {s0 : Int32} {s1 : Option Nat} {h : pm_H} {r : tm_O × pm_H} (hr : l263_18 x0 x1 s0 s1 h = some r) : pm_to pt_P (pt_G (tm_r w)) (d + 0) (pt_g263, []) (tm_m (18, [(0, .inr (.inr x0)), (1, .inl x1)], [.inl s0, .inr (.inr s1)])) h (tm_e r) := by
  unfold l263_18 at hr
  obtain ⟨h1, qh1, hr⟩ := Option.bind_eq_some_iff.mp hr
  refine tm_putf rfl qh1 ?_
  refine tm_n 2 (F' := (23, [(0, .inr (.inr x0)), (1, .inl x1)], [.inr (.inr x0), .inr (.inr x0)])) rfl ?_
  obtain ⟨v2, qv2, hr⟩ := Option.bind_eq_some_iff.mp hr
  refine tm_getf rfl (lf_I_V qv2) ?_
  by_cases c4 : v2 ≤ (0 : Int32)
  · rw [if_pos c4] at hr
    refine tm_ifT rfl c4 ?_
    refine tm_n 1 (F' := (37, [(0, .inr (.inr x0)), (1, .inl x1)], [.inl x1, .inr (.inr x0)])) rfl ?_
    refine tm_cut (a := []) rfl (tm_sbs [] rfl) ?_
    exact l263_37_t hr
  · rw [if_neg c4] at hr
    refine tm_ifF rfl c4 ?_
    refine tm_n 1 (F' := (30, [(0, .inr (.inr x0)), (1, .inl x1)], [.inr (.inr x0), .inr (.inr x0)])) rfl ?_
    obtain ⟨v3, qv3, hr⟩ := Option.bind_eq_some_iff.mp hr
    refine tm_getf rfl (lf_I_V qv3) ?_
    refine tm_n 1 (F' := (37, [(0, .inr (.inr x0)), (1, .inl x1)], [.inl v3, .inr (.inr x0)])) rfl ?_
    refine tm_cut (a := []) rfl (tm_sbs [] rfl) ?_
    exact l263_37_t hr
set_option maxRecDepth 20000 in
def l263_13 (x0 : Option Nat) (x1 : Int32) (s0 : Option Nat) (h : pm_H) : tm_L := l263_18 x0 x1 (1 : Int32) s0 h
set_option maxRecDepth 20000 in
theorem l263_13_t {w : Option Nat} {d : Nat} {x0 : Option Nat} {x1 : Int32} {s0 : Option Nat} {h : pm_H} {r : tm_O × pm_H} (hr : l263_13 x0 x1 s0 h = some r) : pm_to pt_P (pt_G (tm_r w)) (d + 0) (pt_g263, []) (tm_m (13, [(0, .inr (.inr x0)), (1, .inl x1)], [.inr (.inr s0)])) h (tm_e r) := by
  unfold l263_13 at hr
  refine tm_n 2 (F' := (18, [(0, .inr (.inr x0)), (1, .inl x1)], [.inl (1 : Int32), .inr (.inr s0)])) rfl ?_
  refine tm_cut (a := [(0, .inr (.inr x0)), (1, .inl x1)]) rfl (tm_sbs [0, 1] rfl) ?_
  exact l263_18_t hr
set_option maxRecDepth 20000 in
def ll_263 (a0 : Option Nat) (a1 : Int32) (h : pm_H) : tm_L := if a1 < (0 : Int32) then l263_13 a0 a1 a0 h else (lf_I h a0 [10, 22]).bind fun v1 => if a1 ≤ v1 then l263_18 a0 a1 (0 : Int32) a0 h else l263_13 a0 a1 a0 h
set_option maxRecDepth 20000 in
theorem lq_263 {w : Option Nat} {d : Nat} {a0 : Option Nat} {a1 : Int32} {h : pm_H} {r : tm_O × pm_H} (hr : ll_263 a0 a1 h = some r) : tm_run pt_P (pt_G (tm_r w)) (d + 0) 263 [.inr (.inr a0), .inl a1] h r := by
  unfold ll_263 at hr
  show pm_to pt_P (pt_G (tm_r w)) (d + 0) (pt_g263, []) (tm_m (0, [(0, .inr (.inr a0)), (1, .inl a1)], [])) h (tm_e r)
  refine tm_n 2 (F' := (2, [(0, .inr (.inr a0)), (1, .inl a1)], [.inl a1, .inr (.inr a0)])) rfl ?_
  by_cases c3 : a1 < (0 : Int32)
  · rw [if_pos c3] at hr
    refine tm_ifT rfl c3 ?_
    refine tm_cut (a := [(0, .inr (.inr a0)), (1, .inl a1)]) rfl (tm_sbs [0, 1] rfl) ?_
    exact l263_13_t hr
  · rw [if_neg c3] at hr
    refine tm_ifF rfl c3 ?_
    refine tm_n 2 (F' := (7, [(0, .inr (.inr a0)), (1, .inl a1)], [.inr (.inr a0), .inl a1, .inr (.inr a0)])) rfl ?_
    obtain ⟨v1, qv1, hr⟩ := Option.bind_eq_some_iff.mp hr
    refine tm_getf rfl (lf_I_V qv1) ?_
    by_cases c2 : a1 ≤ v1
    · rw [if_pos c2] at hr
      refine tm_icT rfl c2 ?_
      refine tm_n 1 (F' := (18, [(0, .inr (.inr a0)), (1, .inl a1)], [.inl (0 : Int32), .inr (.inr a0)])) rfl ?_
      refine tm_cut (a := [(0, .inr (.inr a0)), (1, .inl a1)]) rfl (tm_sbs [0, 1] rfl) ?_
      exact l263_18_t hr
    · rw [if_neg c2] at hr
      refine tm_icF rfl c2 ?_
      refine tm_cut (a := [(0, .inr (.inr a0)), (1, .inl a1)]) rfl (tm_sbs [0, 1] rfl) ?_
      exact l263_13_t hr
-- OfficeSheetModel.isDigit(I)Z
set_option maxRecDepth 20000 in
def ll_267 (a0 : Option Nat) (a1 : Int32) (h : pm_H) : tm_L := (lf_I h a0 [10, 22]).bind fun v1 => if v1 ≤ a1 then some (.inl (some (.inl (0 : Int32))), h) else (lf_R h a0 [10, 21]).bind fun v2 => (la_I h .iaload v2 a1).bind fun v3 => if v3 < (48 : Int32) then some (.inl (some (.inl (0 : Int32))), h) else (lf_R h a0 [10, 21]).bind fun v4 => (la_I h .iaload v4 a1).bind fun v5 => if (57 : Int32) < v5 then some (.inl (some (.inl (0 : Int32))), h) else some (.inl (some (.inl (1 : Int32))), h)
set_option maxRecDepth 20000 in
theorem lq_267 {w : Option Nat} {d : Nat} {a0 : Option Nat} {a1 : Int32} {h : pm_H} {r : tm_O × pm_H} (hr : ll_267 a0 a1 h = some r) : tm_run pt_P (pt_G (tm_r w)) (d + 0) 267 [.inr (.inr a0), .inl a1] h r := by
  unfold ll_267 at hr
  show pm_to pt_P (pt_G (tm_r w)) (d + 0) (pt_g267, []) (tm_m (0, [(0, .inr (.inr a0)), (1, .inl a1)], [])) h (tm_e r)
  refine tm_n 2 (F' := (2, [(0, .inr (.inr a0)), (1, .inl a1)], [.inr (.inr a0), .inl a1])) rfl ?_
  obtain ⟨v1, qv1, hr⟩ := Option.bind_eq_some_iff.mp hr
  refine tm_getf rfl (lf_I_V qv1) ?_
  by_cases c8 : v1 ≤ a1
  · rw [if_pos c8] at hr
    refine tm_icT rfl c8 ?_
    refine tm_n 1 (F' := (35, [(0, .inr (.inr a0)), (1, .inl a1)], [.inl (0 : Int32)])) rfl ?_
    cases hr
    exact tm_retI rfl rfl
  · rw [if_neg c8] at hr
    refine tm_icF rfl c8 ?_
    refine tm_n 1 (F' := (9, [(0, .inr (.inr a0)), (1, .inl a1)], [.inr (.inr a0)])) rfl ?_
    obtain ⟨v2, qv2, hr⟩ := Option.bind_eq_some_iff.mp hr
    refine tm_getf rfl (lf_R_V qv2) ?_
    refine tm_n 1 (F' := (13, [(0, .inr (.inr a0)), (1, .inl a1)], [.inl a1, .inr (.inr v2)])) rfl ?_
    obtain ⟨v3, qv3, hr⟩ := Option.bind_eq_some_iff.mp hr
    refine tm_ald rfl rfl (la_I_V qv3) ?_
    refine tm_n 1 (F' := (16, [(0, .inr (.inr a0)), (1, .inl a1)], [.inl (48 : Int32), .inl v3])) rfl ?_
    by_cases c7 : v3 < (48 : Int32)
    · rw [if_pos c7] at hr
      refine tm_icT rfl c7 ?_
      refine tm_n 1 (F' := (35, [(0, .inr (.inr a0)), (1, .inl a1)], [.inl (0 : Int32)])) rfl ?_
      cases hr
      exact tm_retI rfl rfl
    · rw [if_neg c7] at hr
      refine tm_icF rfl c7 ?_
      refine tm_n 1 (F' := (20, [(0, .inr (.inr a0)), (1, .inl a1)], [.inr (.inr a0)])) rfl ?_
      obtain ⟨v4, qv4, hr⟩ := Option.bind_eq_some_iff.mp hr
      refine tm_getf rfl (lf_R_V qv4) ?_
      refine tm_n 1 (F' := (24, [(0, .inr (.inr a0)), (1, .inl a1)], [.inl a1, .inr (.inr v4)])) rfl ?_
      obtain ⟨v5, qv5, hr⟩ := Option.bind_eq_some_iff.mp hr
      refine tm_ald rfl rfl (la_I_V qv5) ?_
      refine tm_n 1 (F' := (27, [(0, .inr (.inr a0)), (1, .inl a1)], [.inl (57 : Int32), .inl v5])) rfl ?_
      by_cases c6 : (57 : Int32) < v5
      · rw [if_pos c6] at hr
        refine tm_icT rfl c6 ?_
        refine tm_n 1 (F' := (35, [(0, .inr (.inr a0)), (1, .inl a1)], [.inl (0 : Int32)])) rfl ?_
        cases hr
        exact tm_retI rfl rfl
      · rw [if_neg c6] at hr
        refine tm_icF rfl c6 ?_
        refine tm_n 2 (F' := (35, [(0, .inr (.inr a0)), (1, .inl a1)], [.inl (1 : Int32)])) rfl ?_
        cases hr
        exact tm_retI rfl rfl
-- OfficeSheetModel.isPoint(I)Z
set_option maxRecDepth 20000 in
def ll_268 (a0 : Option Nat) (a1 : Int32) (h : pm_H) : tm_L := (lf_I h a0 [10, 22]).bind fun v1 => if v1 ≤ a1 then some (.inl (some (.inl (0 : Int32))), h) else (lf_R h a0 [10, 21]).bind fun v2 => (la_I h .iaload v2 a1).bind fun v3 => if v3 = (46 : Int32) then some (.inl (some (.inl (1 : Int32))), h) else some (.inl (some (.inl (0 : Int32))), h)
set_option maxRecDepth 20000 in
theorem lq_268 {w : Option Nat} {d : Nat} {a0 : Option Nat} {a1 : Int32} {h : pm_H} {r : tm_O × pm_H} (hr : ll_268 a0 a1 h = some r) : tm_run pt_P (pt_G (tm_r w)) (d + 0) 268 [.inr (.inr a0), .inl a1] h r := by
  unfold ll_268 at hr
  show pm_to pt_P (pt_G (tm_r w)) (d + 0) (pt_g268, []) (tm_m (0, [(0, .inr (.inr a0)), (1, .inl a1)], [])) h (tm_e r)
  refine tm_n 2 (F' := (2, [(0, .inr (.inr a0)), (1, .inl a1)], [.inr (.inr a0), .inl a1])) rfl ?_
  obtain ⟨v1, qv1, hr⟩ := Option.bind_eq_some_iff.mp hr
  refine tm_getf rfl (lf_I_V qv1) ?_
  by_cases c5 : v1 ≤ a1
  · rw [if_pos c5] at hr
    refine tm_icT rfl c5 ?_
    refine tm_n 1 (F' := (24, [(0, .inr (.inr a0)), (1, .inl a1)], [.inl (0 : Int32)])) rfl ?_
    cases hr
    exact tm_retI rfl rfl
  · rw [if_neg c5] at hr
    refine tm_icF rfl c5 ?_
    refine tm_n 1 (F' := (9, [(0, .inr (.inr a0)), (1, .inl a1)], [.inr (.inr a0)])) rfl ?_
    obtain ⟨v2, qv2, hr⟩ := Option.bind_eq_some_iff.mp hr
    refine tm_getf rfl (lf_R_V qv2) ?_
    refine tm_n 1 (F' := (13, [(0, .inr (.inr a0)), (1, .inl a1)], [.inl a1, .inr (.inr v2)])) rfl ?_
    obtain ⟨v3, qv3, hr⟩ := Option.bind_eq_some_iff.mp hr
    refine tm_ald rfl rfl (la_I_V qv3) ?_
    refine tm_n 1 (F' := (16, [(0, .inr (.inr a0)), (1, .inl a1)], [.inl (46 : Int32), .inl v3])) rfl ?_
    by_cases c4 : v3 = (46 : Int32)
    · rw [if_pos c4] at hr
      refine tm_icF rfl (fun q => q c4) ?_
      refine tm_n 2 (F' := (24, [(0, .inr (.inr a0)), (1, .inl a1)], [.inl (1 : Int32)])) rfl ?_
      cases hr
      exact tm_retI rfl rfl
    · rw [if_neg c4] at hr
      refine tm_icT rfl c4 ?_
      refine tm_n 1 (F' := (24, [(0, .inr (.inr a0)), (1, .inl a1)], [.inl (0 : Int32)])) rfl ?_
      cases hr
      exact tm_retI rfl rfl
-- OfficeSheetModel.readNumber()V
set_option maxRecDepth 20000 in
def l269_262 (s0 : Int32) (s1 : Option Nat) (h : pm_H) : tm_L := (lf_P 81 h s1 [0, 10, 25] (.inl s0)).bind fun h1 => some (.inl none, h1)
set_option maxRecDepth 20000 in
theorem l269_262_t {w : Option Nat} {d : Nat} {s0 : Int32} {s1 : Option Nat} {h : pm_H} {r : tm_O × pm_H} (hr : l269_262 s0 s1 h = some r) : pm_to pt_P (pt_G (tm_r w)) (d + 1) (pt_g269, []) (tm_m (262, [], [.inl s0, .inr (.inr s1)])) h (tm_e r) := by
  unfold l269_262 at hr
  obtain ⟨h1, qh1, hr⟩ := Option.bind_eq_some_iff.mp hr
  refine tm_putf rfl qh1 ?_
  cases hr
  exact tm_retV rfl
set_option maxRecDepth 20000 in
def l269_238 (K222 : Option Nat → Int32 → Int32 → pm_H → tm_L) (x0 : Option Nat) (x1 : Int32) (x4 : Int32) (h : pm_H) : tm_L := K222 x0 (x1 + (1 : Int32)) x4 h
set_option maxRecDepth 20000 in
theorem l269_238_t {w : Option Nat} {d : Nat} {K222 : Option Nat → Int32 → Int32 → pm_H → tm_L} (hK222 : ∀ {x0 : Option Nat} {x1 : Int32} {x4 : Int32}  {h : pm_H} {r : tm_O × pm_H}, K222 x0 x1 x4 h = some r → pm_to pt_P (pt_G (tm_r w)) (d + 1) (pt_g269, []) (tm_m (222, [(0, .inr (.inr x0)), (1, .inl x1), (4, .inl x4)], [])) h (tm_e r)) {x0 : Option Nat} {x1 : Int32} {x4 : Int32} {h : pm_H} {r : tm_O × pm_H} (hr : l269_238 K222 x0 x1 x4 h = some r) : pm_to pt_P (pt_G (tm_r w)) (d + 1) (pt_g269, []) (tm_m (238, [(0, .inr (.inr x0)), (1, .inl x1), (4, .inl x4)], [])) h (tm_e r) := by
  unfold l269_238 at hr
  refine tm_n 2 (F' := (222, [(1, .inl (x1 + (1 : Int32))), (0, .inr (.inr x0)), (4, .inl x4)], [])) rfl ?_
  refine tm_cut (a := [(0, .inr (.inr x0)), (1, .inl (x1 + (1 : Int32))), (4, .inl x4)]) rfl (tm_sbs [1, 0, 2] rfl) ?_
  exact hK222 hr
set_option maxRecDepth 20000 in
def l269_222 : Nat → Option Nat → Int32 → Int32 → pm_H → tm_L
  | 0 => fun _ _ _ _ => none
  | n + 1 => fun x0 x1 x4 h => if lc_of h x0 = some 10 then lb_I (ll_267 x0 x1 h) (fun v2 h3 => if v2 = (0 : Int32) then if lc_of h3 x0 = some 10 then lb_I (ll_268 x0 x1 h3) (fun v6 h7 => if v6 = (0 : Int32) then (lf_P 81 h7 x0 [0, 10, 23] (.inl x1)).bind fun h9 => if x4 = (0 : Int32) then l269_262 (-4 : Int32) x0 h9 else l269_262 (-2 : Int32) x0 h9 else l269_238 (l269_222 n) x0 x1 x4 h7) else none else l269_238 (l269_222 n) x0 x1 x4 h3) else none
set_option maxRecDepth 20000 in
theorem l269_222_t {w : Option Nat} {d : Nat} : ∀ (n : Nat) {x0 : Option Nat} {x1 : Int32} {x4 : Int32} {h : pm_H} {r : tm_O × pm_H}, l269_222 n x0 x1 x4 h = some r → pm_to pt_P (pt_G (tm_r w)) (d + 1) (pt_g269, []) (tm_m (222, [(0, .inr (.inr x0)), (1, .inl x1), (4, .inl x4)], [])) h (tm_e r) := by
  intro n
  induction n with
  | zero => intro x0 x1 x4 h r hr; cases hr
  | succ n ih =>
    intro x0 x1 x4 h r hr
    unfold l269_222 at hr
    refine tm_n 2 (F' := (224, [(0, .inr (.inr x0)), (1, .inl x1), (4, .inl x4)], [.inl x1, .inr (.inr x0)])) rfl ?_
    by_cases c1 : lc_of h x0 = some 10
    · rw [if_pos c1] at hr
      rcases lb_I_s hr with ⟨v2, h3, m4, hr⟩ | ⟨a15, h3, z16, z16l, m4, qz16, rfl⟩
      · try dsimp only at hr
        refine tm_call rfl rfl (tm_callV rfl rfl c1 rfl rfl) (lq_267 m4) ?_
        by_cases c14 : v2 = (0 : Int32)
        · rw [if_pos c14] at hr
          refine tm_ifF rfl (fun q => q c14) ?_
          refine tm_n 2 (F' := (232, [(0, .inr (.inr x0)), (1, .inl x1), (4, .inl x4)], [.inl x1, .inr (.inr x0)])) rfl ?_
          by_cases c5 : lc_of h3 x0 = some 10
          · rw [if_pos c5] at hr
            rcases lb_I_s hr with ⟨v6, h7, m8, hr⟩ | ⟨a12, h7, z13, z13l, m8, qz13, rfl⟩
            · try dsimp only at hr
              refine tm_call rfl rfl (tm_callV rfl rfl c5 rfl rfl) (lq_268 m8) ?_
              by_cases c11 : v6 = (0 : Int32)
              · rw [if_pos c11] at hr
                refine tm_ifT rfl c11 ?_
                refine tm_n 2 (F' := (246, [(0, .inr (.inr x0)), (1, .inl x1), (4, .inl x4)], [.inl x1, .inr (.inr x0)])) rfl ?_
                obtain ⟨h9, qh9, hr⟩ := Option.bind_eq_some_iff.mp hr
                refine tm_putf rfl qh9 ?_
                refine tm_n 2 (F' := (252, [(0, .inr (.inr x0)), (1, .inl x1), (4, .inl x4)], [.inl x4, .inr (.inr x0)])) rfl ?_
                by_cases c10 : x4 = (0 : Int32)
                · rw [if_pos c10] at hr
                  refine tm_ifT rfl c10 ?_
                  refine tm_n 1 (F' := (262, [(0, .inr (.inr x0)), (1, .inl x1), (4, .inl x4)], [.inl (-4 : Int32), .inr (.inr x0)])) rfl ?_
                  refine tm_cut (a := []) rfl (tm_sbs [] rfl) ?_
                  exact l269_262_t hr
                · rw [if_neg c10] at hr
                  refine tm_ifF rfl c10 ?_
                  refine tm_n 2 (F' := (262, [(0, .inr (.inr x0)), (1, .inl x1), (4, .inl x4)], [.inl (-2 : Int32), .inr (.inr x0)])) rfl ?_
                  refine tm_cut (a := []) rfl (tm_sbs [] rfl) ?_
                  exact l269_262_t hr
              · rw [if_neg c11] at hr
                refine tm_ifF rfl c11 ?_
                refine tm_cut (a := [(0, .inr (.inr x0)), (1, .inl x1), (4, .inl x4)]) rfl (tm_sbs [0, 1, 2] rfl) ?_
                exact l269_238_t (fun hr => ih hr) hr
            · exact tm_callT rfl rfl (tm_callV rfl rfl c5 rfl rfl) (lq_268 m8) qz13 rfl
          · rw [if_neg c5] at hr
            cases hr
        · rw [if_neg c14] at hr
          refine tm_ifT rfl c14 ?_
          refine tm_cut (a := [(0, .inr (.inr x0)), (1, .inl x1), (4, .inl x4)]) rfl (tm_sbs [0, 1, 2] rfl) ?_
          exact l269_238_t (fun hr => ih hr) hr
      · exact tm_callT rfl rfl (tm_callV rfl rfl c1 rfl rfl) (lq_267 m4) qz16 rfl
    · rw [if_neg c1] at hr
      cases hr
set_option maxRecDepth 20000 in
def l269_219 (x0 : Option Nat) (x1 : Int32) (x4 : Int32) (s0 : Int32) (s1 : Option Nat) (h : pm_H) : tm_L := (lf_P 81 h s1 [0, 10, 26] (.inl s0)).bind fun h1 => l269_222 lf_N x0 x1 x4 h1
set_option maxRecDepth 20000 in
theorem l269_219_t {w : Option Nat} {d : Nat} {x0 : Option Nat} {x1 : Int32} {x4 : Int32} {s0 : Int32} {s1 : Option Nat} {h : pm_H} {r : tm_O × pm_H} (hr : l269_219 x0 x1 x4 s0 s1 h = some r) : pm_to pt_P (pt_G (tm_r w)) (d + 1) (pt_g269, []) (tm_m (219, [(0, .inr (.inr x0)), (1, .inl x1), (4, .inl x4)], [.inl s0, .inr (.inr s1)])) h (tm_e r) := by
  unfold l269_219 at hr
  obtain ⟨h1, qh1, hr⟩ := Option.bind_eq_some_iff.mp hr
  refine tm_putf rfl qh1 ?_
  refine tm_cut (a := [(0, .inr (.inr x0)), (1, .inl x1), (4, .inl x4)]) rfl (tm_sbs [0, 1, 2] rfl) ?_
  exact l269_222_t lf_N hr
set_option maxRecDepth 20000 in
def l269_204 (x0 : Option Nat) (x1 : Int32) (x5 : Int64) (s0 : Int32) (h : pm_H) : tm_L := if s0 = (0 : Int32) then l269_219 x0 x1 s0 (0 : Int32) x0 h else l269_219 x0 x1 s0 (Int64.toInt32 x5) x0 h
set_option maxRecDepth 20000 in
theorem l269_204_t {w : Option Nat} {d : Nat} {x0 : Option Nat} {x1 : Int32} {x5 : Int64} {s0 : Int32} {h : pm_H} {r : tm_O × pm_H} (hr : l269_204 x0 x1 x5 s0 h = some r) : pm_to pt_P (pt_G (tm_r w)) (d + 1) (pt_g269, []) (tm_m (204, [(0, .inr (.inr x0)), (1, .inl x1), (5, .inr (.inl x5))], [.inl s0])) h (tm_e r) := by
  unfold l269_204 at hr
  refine tm_n 3 (F' := (209, [(4, .inl s0), (0, .inr (.inr x0)), (1, .inl x1), (5, .inr (.inl x5))], [.inl s0, .inr (.inr x0)])) rfl ?_
  by_cases c1 : s0 = (0 : Int32)
  · rw [if_pos c1] at hr
    refine tm_ifT rfl c1 ?_
    refine tm_n 1 (F' := (219, [(4, .inl s0), (0, .inr (.inr x0)), (1, .inl x1), (5, .inr (.inl x5))], [.inl (0 : Int32), .inr (.inr x0)])) rfl ?_
    refine tm_cut (a := [(0, .inr (.inr x0)), (1, .inl x1), (4, .inl s0)]) rfl (tm_sbs [1, 2, 0] rfl) ?_
    exact l269_219_t hr
  · rw [if_neg c1] at hr
    refine tm_ifF rfl c1 ?_
    refine tm_n 3 (F' := (219, [(4, .inl s0), (0, .inr (.inr x0)), (1, .inl x1), (5, .inr (.inl x5))], [.inl (Int64.toInt32 x5), .inr (.inr x0)])) rfl ?_
    refine tm_cut (a := [(0, .inr (.inr x0)), (1, .inl x1), (4, .inl s0)]) rfl (tm_sbs [1, 2, 0] rfl) ?_
    exact l269_219_t hr
set_option maxRecDepth 20000 in
def l269_203 (x0 : Option Nat) (x1 : Int32) (x5 : Int64) (h : pm_H) : tm_L := l269_204 x0 x1 x5 (0 : Int32) h
set_option maxRecDepth 20000 in
theorem l269_203_t {w : Option Nat} {d : Nat} {x0 : Option Nat} {x1 : Int32} {x5 : Int64} {h : pm_H} {r : tm_O × pm_H} (hr : l269_203 x0 x1 x5 h = some r) : pm_to pt_P (pt_G (tm_r w)) (d + 1) (pt_g269, []) (tm_m (203, [(0, .inr (.inr x0)), (1, .inl x1), (5, .inr (.inl x5))], [])) h (tm_e r) := by
  unfold l269_203 at hr
  refine tm_n 1 (F' := (204, [(0, .inr (.inr x0)), (1, .inl x1), (5, .inr (.inl x5))], [.inl (0 : Int32)])) rfl ?_
  refine tm_cut (a := [(0, .inr (.inr x0)), (1, .inl x1), (5, .inr (.inl x5))]) rfl (tm_sbs [0, 1, 2] rfl) ?_
  exact l269_204_t hr
set_option maxRecDepth 20000 in
def l269_165 : Nat → Option Nat → Int32 → Int32 → Int64 → Int32 → pm_H → tm_L
  | 0 => fun _ _ _ _ _ _ => none
  | n + 1 => fun x0 x1 x4 x5 x7 h => if (4 : Int32) ≤ x7 then if x4 = (0 : Int32) then l269_203 x0 x1 x5 h else if (0 : Int32) < (lg_cmp x5 (1000000000 : Int64)) then l269_203 x0 x1 x5 h else l269_204 x0 x1 x5 (1 : Int32) h else l269_165 n x0 x1 x4 (x5 * (10 : Int64)) (x7 + (1 : Int32)) h
set_option maxRecDepth 20000 in
theorem l269_165_t {w : Option Nat} {d : Nat} : ∀ (n : Nat) {x0 : Option Nat} {x1 : Int32} {x4 : Int32} {x5 : Int64} {x7 : Int32} {h : pm_H} {r : tm_O × pm_H}, l269_165 n x0 x1 x4 x5 x7 h = some r → pm_to pt_P (pt_G (tm_r w)) (d + 1) (pt_g269, []) (tm_m (165, [(0, .inr (.inr x0)), (1, .inl x1), (4, .inl x4), (5, .inr (.inl x5)), (7, .inl x7)], [])) h (tm_e r) := by
  intro n
  induction n with
  | zero => intro x0 x1 x4 x5 x7 h r hr; cases hr
  | succ n ih =>
    intro x0 x1 x4 x5 x7 h r hr
    unfold l269_165 at hr
    refine tm_n 2 (F' := (168, [(0, .inr (.inr x0)), (1, .inl x1), (4, .inl x4), (5, .inr (.inl x5)), (7, .inl x7)], [.inl (4 : Int32), .inl x7])) rfl ?_
    by_cases c3 : (4 : Int32) ≤ x7
    · rw [if_pos c3] at hr
      refine tm_icT rfl c3 ?_
      refine tm_n 1 (F' := (187, [(0, .inr (.inr x0)), (1, .inl x1), (4, .inl x4), (5, .inr (.inl x5)), (7, .inl x7)], [.inl x4])) rfl ?_
      by_cases c2 : x4 = (0 : Int32)
      · rw [if_pos c2] at hr
        refine tm_ifT rfl c2 ?_
        refine tm_cut (a := [(0, .inr (.inr x0)), (1, .inl x1), (5, .inr (.inl x5))]) rfl (tm_sbs [0, 1, 3] rfl) ?_
        exact l269_203_t hr
      · rw [if_neg c2] at hr
        refine tm_ifF rfl c2 ?_
        refine tm_n 3 (F' := (196, [(0, .inr (.inr x0)), (1, .inl x1), (4, .inl x4), (5, .inr (.inl x5)), (7, .inl x7)], [.inl (lg_cmp x5 (1000000000 : Int64))])) rfl ?_
        by_cases c1 : (0 : Int32) < (lg_cmp x5 (1000000000 : Int64))
        · rw [if_pos c1] at hr
          refine tm_ifT rfl c1 ?_
          refine tm_cut (a := [(0, .inr (.inr x0)), (1, .inl x1), (5, .inr (.inl x5))]) rfl (tm_sbs [0, 1, 3] rfl) ?_
          exact l269_203_t hr
        · rw [if_neg c1] at hr
          refine tm_ifF rfl c1 ?_
          refine tm_n 2 (F' := (204, [(0, .inr (.inr x0)), (1, .inl x1), (4, .inl x4), (5, .inr (.inl x5)), (7, .inl x7)], [.inl (1 : Int32)])) rfl ?_
          refine tm_cut (a := [(0, .inr (.inr x0)), (1, .inl x1), (5, .inr (.inl x5))]) rfl (tm_sbs [0, 1, 3] rfl) ?_
          exact l269_204_t hr
    · rw [if_neg c3] at hr
      refine tm_icF rfl c3 ?_
      refine tm_n 6 (F' := (165, [(7, .inl (x7 + (1 : Int32))), (5, .inr (.inl (x5 * (10 : Int64)))), (0, .inr (.inr x0)), (1, .inl x1), (4, .inl x4)], [])) rfl ?_
      refine tm_cut (a := [(0, .inr (.inr x0)), (1, .inl x1), (4, .inl x4), (5, .inr (.inl (x5 * (10 : Int64)))), (7, .inl (x7 + (1 : Int32)))]) rfl (tm_sbs [2, 3, 4, 1, 0] rfl) ?_
      exact ih hr
set_option maxRecDepth 20000 in
def l269_163 (x0 : Option Nat) (x1 : Int32) (x4 : Int32) (x5 : Int64) (s0 : Int32) (h : pm_H) : tm_L := l269_165 lf_N x0 x1 x4 x5 s0 h
set_option maxRecDepth 20000 in
theorem l269_163_t {w : Option Nat} {d : Nat} {x0 : Option Nat} {x1 : Int32} {x4 : Int32} {x5 : Int64} {s0 : Int32} {h : pm_H} {r : tm_O × pm_H} (hr : l269_163 x0 x1 x4 x5 s0 h = some r) : pm_to pt_P (pt_G (tm_r w)) (d + 1) (pt_g269, []) (tm_m (163, [(0, .inr (.inr x0)), (1, .inl x1), (4, .inl x4), (5, .inr (.inl x5))], [.inl s0])) h (tm_e r) := by
  unfold l269_163 at hr
  refine tm_n 1 (F' := (165, [(7, .inl s0), (0, .inr (.inr x0)), (1, .inl x1), (4, .inl x4), (5, .inr (.inl x5))], [])) rfl ?_
  refine tm_cut (a := [(0, .inr (.inr x0)), (1, .inl x1), (4, .inl x4), (5, .inr (.inl x5)), (7, .inl s0)]) rfl (tm_sbs [1, 2, 3, 4, 0] rfl) ?_
  exact l269_165_t lf_N hr
set_option maxRecDepth 20000 in
def l269_154 (x0 : Option Nat) (x1 : Int32) (x3 : Int32) (x4 : Int32) (x5 : Int64) (h : pm_H) : tm_L := if (0 : Int32) ≤ x3 then l269_163 x0 x1 x4 x5 x3 h else l269_163 x0 x1 x4 x5 (0 : Int32) h
set_option maxRecDepth 20000 in
theorem l269_154_t {w : Option Nat} {d : Nat} {x0 : Option Nat} {x1 : Int32} {x3 : Int32} {x4 : Int32} {x5 : Int64} {h : pm_H} {r : tm_O × pm_H} (hr : l269_154 x0 x1 x3 x4 x5 h = some r) : pm_to pt_P (pt_G (tm_r w)) (d + 1) (pt_g269, []) (tm_m (154, [(0, .inr (.inr x0)), (1, .inl x1), (3, .inl x3), (4, .inl x4), (5, .inr (.inl x5))], [])) h (tm_e r) := by
  unfold l269_154 at hr
  refine tm_n 1 (F' := (155, [(0, .inr (.inr x0)), (1, .inl x1), (3, .inl x3), (4, .inl x4), (5, .inr (.inl x5))], [.inl x3])) rfl ?_
  by_cases c1 : (0 : Int32) ≤ x3
  · rw [if_pos c1] at hr
    refine tm_ifT rfl c1 ?_
    refine tm_n 1 (F' := (163, [(0, .inr (.inr x0)), (1, .inl x1), (3, .inl x3), (4, .inl x4), (5, .inr (.inl x5))], [.inl x3])) rfl ?_
    refine tm_cut (a := [(0, .inr (.inr x0)), (1, .inl x1), (4, .inl x4), (5, .inr (.inl x5))]) rfl (tm_sbs [0, 1, 3, 4] rfl) ?_
    exact l269_163_t hr
  · rw [if_neg c1] at hr
    refine tm_ifF rfl c1 ?_
    refine tm_n 2 (F' := (163, [(0, .inr (.inr x0)), (1, .inl x1), (3, .inl x3), (4, .inl x4), (5, .inr (.inl x5))], [.inl (0 : Int32)])) rfl ?_
    refine tm_cut (a := [(0, .inr (.inr x0)), (1, .inl x1), (4, .inl x4), (5, .inr (.inl x5))]) rfl (tm_sbs [0, 1, 3, 4] rfl) ?_
    exact l269_163_t hr
set_option maxRecDepth 20000 in
def l269_146 (K102 : Option Nat → Int32 → Int32 → Int32 → Int64 → Int32 → pm_H → tm_L) (x0 : Option Nat) (x1 : Int32) (x3 : Int32) (x4 : Int32) (x7 : Int32) (s0 : Int64) (h : pm_H) : tm_L := K102 x0 x1 x3 x4 s0 (x7 + (1 : Int32)) h
set_option maxRecDepth 20000 in
theorem l269_146_t {w : Option Nat} {d : Nat} {K102 : Option Nat → Int32 → Int32 → Int32 → Int64 → Int32 → pm_H → tm_L} (hK102 : ∀ {x0 : Option Nat} {x1 : Int32} {x3 : Int32} {x4 : Int32} {x5 : Int64} {x7 : Int32}  {h : pm_H} {r : tm_O × pm_H}, K102 x0 x1 x3 x4 x5 x7 h = some r → pm_to pt_P (pt_G (tm_r w)) (d + 1) (pt_g269, []) (tm_m (102, [(0, .inr (.inr x0)), (1, .inl x1), (3, .inl x3), (4, .inl x4), (5, .inr (.inl x5)), (7, .inl x7)], [])) h (tm_e r)) {x0 : Option Nat} {x1 : Int32} {x3 : Int32} {x4 : Int32} {x7 : Int32} {s0 : Int64} {h : pm_H} {r : tm_O × pm_H} (hr : l269_146 K102 x0 x1 x3 x4 x7 s0 h = some r) : pm_to pt_P (pt_G (tm_r w)) (d + 1) (pt_g269, []) (tm_m (146, [(0, .inr (.inr x0)), (1, .inl x1), (3, .inl x3), (4, .inl x4), (7, .inl x7)], [.inr (.inl s0)])) h (tm_e r) := by
  unfold l269_146 at hr
  refine tm_n 3 (F' := (102, [(7, .inl (x7 + (1 : Int32))), (5, .inr (.inl s0)), (0, .inr (.inr x0)), (1, .inl x1), (3, .inl x3), (4, .inl x4)], [])) rfl ?_
  refine tm_cut (a := [(0, .inr (.inr x0)), (1, .inl x1), (3, .inl x3), (4, .inl x4), (5, .inr (.inl s0)), (7, .inl (x7 + (1 : Int32)))]) rfl (tm_sbs [2, 3, 4, 5, 1, 0] rfl) ?_
  exact hK102 hr
set_option maxRecDepth 20000 in
def l269_102 : Nat → Option Nat → Int32 → Int32 → Int32 → Int64 → Int32 → pm_H → tm_L
  | 0 => fun _ _ _ _ _ _ _ => none
  | n + 1 => fun x0 x1 x3 x4 x5 x7 h => if x1 ≤ x7 then l269_154 x0 x1 x3 x4 x5 h else if x4 = (0 : Int32) then l269_154 x0 x1 x3 x4 x5 h else if lc_of h x0 = some 10 then lb_I (ll_268 x0 x7 h) (fun v2 h3 => if v2 = (0 : Int32) then (lf_R h3 x0 [10, 21]).bind fun v5 => (la_I h3 .iaload v5 x7).bind fun v6 => l269_146 (l269_102 n) x0 x1 x3 x4 x7 ((((10 : Int64) * x5) + (Int32.toInt64 v6)) - (48 : Int64)) h3 else l269_146 (l269_102 n) x0 x1 x3 x4 x7 x5 h3) else none
set_option maxRecDepth 20000 in
theorem l269_102_t {w : Option Nat} {d : Nat} : ∀ (n : Nat) {x0 : Option Nat} {x1 : Int32} {x3 : Int32} {x4 : Int32} {x5 : Int64} {x7 : Int32} {h : pm_H} {r : tm_O × pm_H}, l269_102 n x0 x1 x3 x4 x5 x7 h = some r → pm_to pt_P (pt_G (tm_r w)) (d + 1) (pt_g269, []) (tm_m (102, [(0, .inr (.inr x0)), (1, .inl x1), (3, .inl x3), (4, .inl x4), (5, .inr (.inl x5)), (7, .inl x7)], [])) h (tm_e r) := by
  intro n
  induction n with
  | zero => intro x0 x1 x3 x4 x5 x7 h r hr; cases hr
  | succ n ih =>
    intro x0 x1 x3 x4 x5 x7 h r hr
    unfold l269_102 at hr
    refine tm_n 2 (F' := (105, [(0, .inr (.inr x0)), (1, .inl x1), (3, .inl x3), (4, .inl x4), (5, .inr (.inl x5)), (7, .inl x7)], [.inl x1, .inl x7])) rfl ?_
    by_cases c11 : x1 ≤ x7
    · rw [if_pos c11] at hr
      refine tm_icT rfl c11 ?_
      refine tm_cut (a := [(0, .inr (.inr x0)), (1, .inl x1), (3, .inl x3), (4, .inl x4), (5, .inr (.inl x5))]) rfl (tm_sbs [0, 1, 2, 3, 4] rfl) ?_
      exact l269_154_t hr
    · rw [if_neg c11] at hr
      refine tm_icF rfl c11 ?_
      refine tm_n 1 (F' := (110, [(0, .inr (.inr x0)), (1, .inl x1), (3, .inl x3), (4, .inl x4), (5, .inr (.inl x5)), (7, .inl x7)], [.inl x4])) rfl ?_
      by_cases c10 : x4 = (0 : Int32)
      · rw [if_pos c10] at hr
        refine tm_ifT rfl c10 ?_
        refine tm_cut (a := [(0, .inr (.inr x0)), (1, .inl x1), (3, .inl x3), (4, .inl x4), (5, .inr (.inl x5))]) rfl (tm_sbs [0, 1, 2, 3, 4] rfl) ?_
        exact l269_154_t hr
      · rw [if_neg c10] at hr
        refine tm_ifF rfl c10 ?_
        refine tm_n 2 (F' := (116, [(0, .inr (.inr x0)), (1, .inl x1), (3, .inl x3), (4, .inl x4), (5, .inr (.inl x5)), (7, .inl x7)], [.inl x7, .inr (.inr x0)])) rfl ?_
        by_cases c1 : lc_of h x0 = some 10
        · rw [if_pos c1] at hr
          rcases lb_I_s hr with ⟨v2, h3, m4, hr⟩ | ⟨a8, h3, z9, z9l, m4, qz9, rfl⟩
          · try dsimp only at hr
            refine tm_call rfl rfl (tm_callV rfl rfl c1 rfl rfl) (lq_268 m4) ?_
            by_cases c7 : v2 = (0 : Int32)
            · rw [if_pos c7] at hr
              refine tm_ifT rfl c7 ?_
              refine tm_n 4 (F' := (134, [(0, .inr (.inr x0)), (1, .inl x1), (3, .inl x3), (4, .inl x4), (5, .inr (.inl x5)), (7, .inl x7)], [.inr (.inr x0), .inr (.inl ((10 : Int64) * x5))])) rfl ?_
              obtain ⟨v5, qv5, hr⟩ := Option.bind_eq_some_iff.mp hr
              refine tm_getf rfl (lf_R_V qv5) ?_
              refine tm_n 1 (F' := (139, [(0, .inr (.inr x0)), (1, .inl x1), (3, .inl x3), (4, .inl x4), (5, .inr (.inl x5)), (7, .inl x7)], [.inl x7, .inr (.inr v5), .inr (.inl ((10 : Int64) * x5))])) rfl ?_
              obtain ⟨v6, qv6, hr⟩ := Option.bind_eq_some_iff.mp hr
              refine tm_ald rfl rfl (la_I_V qv6) ?_
              refine tm_n 4 (F' := (146, [(0, .inr (.inr x0)), (1, .inl x1), (3, .inl x3), (4, .inl x4), (5, .inr (.inl x5)), (7, .inl x7)], [.inr (.inl ((((10 : Int64) * x5) + (Int32.toInt64 v6)) - (48 : Int64)))])) rfl ?_
              refine tm_cut (a := [(0, .inr (.inr x0)), (1, .inl x1), (3, .inl x3), (4, .inl x4), (7, .inl x7)]) rfl (tm_sbs [0, 1, 2, 3, 5] rfl) ?_
              exact l269_146_t (fun hr => ih hr) hr
            · rw [if_neg c7] at hr
              refine tm_ifF rfl c7 ?_
              refine tm_n 2 (F' := (146, [(0, .inr (.inr x0)), (1, .inl x1), (3, .inl x3), (4, .inl x4), (5, .inr (.inl x5)), (7, .inl x7)], [.inr (.inl x5)])) rfl ?_
              refine tm_cut (a := [(0, .inr (.inr x0)), (1, .inl x1), (3, .inl x3), (4, .inl x4), (7, .inl x7)]) rfl (tm_sbs [0, 1, 2, 3, 5] rfl) ?_
              exact l269_146_t (fun hr => ih hr) hr
          · exact tm_callT rfl rfl (tm_callV rfl rfl c1 rfl rfl) (lq_268 m4) qz9 rfl
        · rw [if_neg c1] at hr
          cases hr
set_option maxRecDepth 20000 in
def l269_91 (x0 : Option Nat) (x1 : Int32) (x3 : Int32) (s0 : Int32) (h : pm_H) : tm_L := (lf_I h x0 [10, 23]).bind fun v1 => l269_102 lf_N x0 x1 x3 s0 (0 : Int64) v1 h
set_option maxRecDepth 20000 in
theorem l269_91_t {w : Option Nat} {d : Nat} {x0 : Option Nat} {x1 : Int32} {x3 : Int32} {s0 : Int32} {h : pm_H} {r : tm_O × pm_H} (hr : l269_91 x0 x1 x3 s0 h = some r) : pm_to pt_P (pt_G (tm_r w)) (d + 1) (pt_g269, []) (tm_m (91, [(0, .inr (.inr x0)), (1, .inl x1), (3, .inl x3)], [.inl s0])) h (tm_e r) := by
  unfold l269_91 at hr
  refine tm_n 4 (F' := (97, [(5, .inr (.inl (0 : Int64))), (4, .inl s0), (0, .inr (.inr x0)), (1, .inl x1), (3, .inl x3)], [.inr (.inr x0)])) rfl ?_
  obtain ⟨v1, qv1, hr⟩ := Option.bind_eq_some_iff.mp hr
  refine tm_getf rfl (lf_I_V qv1) ?_
  refine tm_n 1 (F' := (102, [(7, .inl v1), (5, .inr (.inl (0 : Int64))), (4, .inl s0), (0, .inr (.inr x0)), (1, .inl x1), (3, .inl x3)], [])) rfl ?_
  refine tm_cut (a := [(0, .inr (.inr x0)), (1, .inl x1), (3, .inl x3), (4, .inl s0), (5, .inr (.inl (0 : Int64))), (7, .inl v1)]) rfl (tm_sbs [3, 4, 5, 2, 1, 0] rfl) ?_
  exact l269_102_t lf_N hr
set_option maxRecDepth 20000 in
def l269_90 (x0 : Option Nat) (x1 : Int32) (x3 : Int32) (h : pm_H) : tm_L := l269_91 x0 x1 x3 (0 : Int32) h
set_option maxRecDepth 20000 in
theorem l269_90_t {w : Option Nat} {d : Nat} {x0 : Option Nat} {x1 : Int32} {x3 : Int32} {h : pm_H} {r : tm_O × pm_H} (hr : l269_90 x0 x1 x3 h = some r) : pm_to pt_P (pt_G (tm_r w)) (d + 1) (pt_g269, []) (tm_m (90, [(0, .inr (.inr x0)), (1, .inl x1), (3, .inl x3)], [])) h (tm_e r) := by
  unfold l269_90 at hr
  refine tm_n 1 (F' := (91, [(0, .inr (.inr x0)), (1, .inl x1), (3, .inl x3)], [.inl (0 : Int32)])) rfl ?_
  refine tm_cut (a := [(0, .inr (.inr x0)), (1, .inl x1), (3, .inl x3)]) rfl (tm_sbs [0, 1, 2] rfl) ?_
  exact l269_91_t hr
set_option maxRecDepth 20000 in
def l269_58 (x0 : Option Nat) (x1 : Int32) (x2 : Int32) (x3 : Int32) (h : pm_H) : tm_L := if x2 < (1 : Int32) then l269_90 x0 x1 x3 h else if (6 : Int32) < x2 then l269_90 x0 x1 x3 h else if x3 = (0 : Int32) then l269_90 x0 x1 x3 h else if (4 : Int32) < x3 then l269_90 x0 x1 x3 h else if lc_of h x0 = some 10 then lb_I (ll_268 x0 x1 h) (fun v2 h3 => if v2 = (0 : Int32) then l269_91 x0 x1 x3 (1 : Int32) h3 else l269_90 x0 x1 x3 h3) else none
set_option maxRecDepth 20000 in
theorem l269_58_t {w : Option Nat} {d : Nat} {x0 : Option Nat} {x1 : Int32} {x2 : Int32} {x3 : Int32} {h : pm_H} {r : tm_O × pm_H} (hr : l269_58 x0 x1 x2 x3 h = some r) : pm_to pt_P (pt_G (tm_r w)) (d + 1) (pt_g269, []) (tm_m (58, [(0, .inr (.inr x0)), (1, .inl x1), (2, .inl x2), (3, .inl x3)], [])) h (tm_e r) := by
  unfold l269_58 at hr
  refine tm_n 2 (F' := (60, [(0, .inr (.inr x0)), (1, .inl x1), (2, .inl x2), (3, .inl x3)], [.inl (1 : Int32), .inl x2])) rfl ?_
  by_cases c11 : x2 < (1 : Int32)
  · rw [if_pos c11] at hr
    refine tm_icT rfl c11 ?_
    refine tm_cut (a := [(0, .inr (.inr x0)), (1, .inl x1), (3, .inl x3)]) rfl (tm_sbs [0, 1, 3] rfl) ?_
    exact l269_90_t hr
  · rw [if_neg c11] at hr
    refine tm_icF rfl c11 ?_
    refine tm_n 2 (F' := (66, [(0, .inr (.inr x0)), (1, .inl x1), (2, .inl x2), (3, .inl x3)], [.inl (6 : Int32), .inl x2])) rfl ?_
    by_cases c10 : (6 : Int32) < x2
    · rw [if_pos c10] at hr
      refine tm_icT rfl c10 ?_
      refine tm_cut (a := [(0, .inr (.inr x0)), (1, .inl x1), (3, .inl x3)]) rfl (tm_sbs [0, 1, 3] rfl) ?_
      exact l269_90_t hr
    · rw [if_neg c10] at hr
      refine tm_icF rfl c10 ?_
      refine tm_n 1 (F' := (70, [(0, .inr (.inr x0)), (1, .inl x1), (2, .inl x2), (3, .inl x3)], [.inl x3])) rfl ?_
      by_cases c9 : x3 = (0 : Int32)
      · rw [if_pos c9] at hr
        refine tm_ifT rfl c9 ?_
        refine tm_cut (a := [(0, .inr (.inr x0)), (1, .inl x1), (3, .inl x3)]) rfl (tm_sbs [0, 1, 3] rfl) ?_
        exact l269_90_t hr
      · rw [if_neg c9] at hr
        refine tm_ifF rfl c9 ?_
        refine tm_n 2 (F' := (75, [(0, .inr (.inr x0)), (1, .inl x1), (2, .inl x2), (3, .inl x3)], [.inl (4 : Int32), .inl x3])) rfl ?_
        by_cases c8 : (4 : Int32) < x3
        · rw [if_pos c8] at hr
          refine tm_icT rfl c8 ?_
          refine tm_cut (a := [(0, .inr (.inr x0)), (1, .inl x1), (3, .inl x3)]) rfl (tm_sbs [0, 1, 3] rfl) ?_
          exact l269_90_t hr
        · rw [if_neg c8] at hr
          refine tm_icF rfl c8 ?_
          refine tm_n 2 (F' := (80, [(0, .inr (.inr x0)), (1, .inl x1), (2, .inl x2), (3, .inl x3)], [.inl x1, .inr (.inr x0)])) rfl ?_
          by_cases c1 : lc_of h x0 = some 10
          · rw [if_pos c1] at hr
            rcases lb_I_s hr with ⟨v2, h3, m4, hr⟩ | ⟨a6, h3, z7, z7l, m4, qz7, rfl⟩
            · try dsimp only at hr
              refine tm_call rfl rfl (tm_callV rfl rfl c1 rfl rfl) (lq_268 m4) ?_
              by_cases c5 : v2 = (0 : Int32)
              · rw [if_pos c5] at hr
                refine tm_ifF rfl (fun q => q c5) ?_
                refine tm_n 2 (F' := (91, [(0, .inr (.inr x0)), (1, .inl x1), (2, .inl x2), (3, .inl x3)], [.inl (1 : Int32)])) rfl ?_
                refine tm_cut (a := [(0, .inr (.inr x0)), (1, .inl x1), (3, .inl x3)]) rfl (tm_sbs [0, 1, 3] rfl) ?_
                exact l269_91_t hr
              · rw [if_neg c5] at hr
                refine tm_ifT rfl c5 ?_
                refine tm_cut (a := [(0, .inr (.inr x0)), (1, .inl x1), (3, .inl x3)]) rfl (tm_sbs [0, 1, 3] rfl) ?_
                exact l269_90_t hr
            · exact tm_callT rfl rfl (tm_callV rfl rfl c1 rfl rfl) (lq_268 m4) qz7 rfl
          · rw [if_neg c1] at hr
            cases hr
set_option maxRecDepth 20000 in
def l269_41 : Nat → Option Nat → Int32 → Int32 → Int32 → pm_H → tm_L
  | 0 => fun _ _ _ _ _ => none
  | n + 1 => fun x0 x1 x2 x3 h => if lc_of h x0 = some 10 then lb_I (ll_267 x0 x1 h) (fun v2 h3 => if v2 = (0 : Int32) then l269_58 x0 x1 x2 x3 h3 else l269_41 n x0 (x1 + (1 : Int32)) x2 (x3 + (1 : Int32)) h3) else none
set_option maxRecDepth 20000 in
theorem l269_41_t {w : Option Nat} {d : Nat} : ∀ (n : Nat) {x0 : Option Nat} {x1 : Int32} {x2 : Int32} {x3 : Int32} {h : pm_H} {r : tm_O × pm_H}, l269_41 n x0 x1 x2 x3 h = some r → pm_to pt_P (pt_G (tm_r w)) (d + 1) (pt_g269, []) (tm_m (41, [(0, .inr (.inr x0)), (1, .inl x1), (2, .inl x2), (3, .inl x3)], [])) h (tm_e r) := by
  intro n
  induction n with
  | zero => intro x0 x1 x2 x3 h r hr; cases hr
  | succ n ih =>
    intro x0 x1 x2 x3 h r hr
    unfold l269_41 at hr
    refine tm_n 2 (F' := (43, [(0, .inr (.inr x0)), (1, .inl x1), (2, .inl x2), (3, .inl x3)], [.inl x1, .inr (.inr x0)])) rfl ?_
    by_cases c1 : lc_of h x0 = some 10
    · rw [if_pos c1] at hr
      rcases lb_I_s hr with ⟨v2, h3, m4, hr⟩ | ⟨a6, h3, z7, z7l, m4, qz7, rfl⟩
      · try dsimp only at hr
        refine tm_call rfl rfl (tm_callV rfl rfl c1 rfl rfl) (lq_267 m4) ?_
        by_cases c5 : v2 = (0 : Int32)
        · rw [if_pos c5] at hr
          refine tm_ifT rfl c5 ?_
          refine tm_cut (a := [(0, .inr (.inr x0)), (1, .inl x1), (2, .inl x2), (3, .inl x3)]) rfl (tm_sbs [0, 1, 2, 3] rfl) ?_
          exact l269_58_t hr
        · rw [if_neg c5] at hr
          refine tm_ifF rfl c5 ?_
          refine tm_n 3 (F' := (41, [(3, .inl (x3 + (1 : Int32))), (1, .inl (x1 + (1 : Int32))), (0, .inr (.inr x0)), (2, .inl x2)], [])) rfl ?_
          refine tm_cut (a := [(0, .inr (.inr x0)), (1, .inl (x1 + (1 : Int32))), (2, .inl x2), (3, .inl (x3 + (1 : Int32)))]) rfl (tm_sbs [2, 1, 3, 0] rfl) ?_
          exact ih hr
      · exact tm_callT rfl rfl (tm_callV rfl rfl c1 rfl rfl) (lq_267 m4) qz7 rfl
    · rw [if_neg c1] at hr
      cases hr
set_option maxRecDepth 20000 in
def l269_5 : Nat → Option Nat → Int32 → pm_H → tm_L
  | 0 => fun _ _ _ => none
  | n + 1 => fun x0 x1 h => if lc_of h x0 = some 10 then lb_I (ll_267 x0 x1 h) (fun v2 h3 => if v2 = (0 : Int32) then (lf_I h3 x0 [10, 23]).bind fun v5 => if lc_of h3 x0 = some 10 then lb_I (ll_268 x0 x1 h3) (fun v7 h8 => if v7 = (0 : Int32) then l269_58 x0 x1 (x1 - v5) (-1 : Int32) h8 else l269_41 lf_N x0 (x1 + (1 : Int32)) (x1 - v5) (0 : Int32) h8) else none else l269_5 n x0 (x1 + (1 : Int32)) h3) else none
set_option maxRecDepth 20000 in
theorem l269_5_t {w : Option Nat} {d : Nat} : ∀ (n : Nat) {x0 : Option Nat} {x1 : Int32} {h : pm_H} {r : tm_O × pm_H}, l269_5 n x0 x1 h = some r → pm_to pt_P (pt_G (tm_r w)) (d + 1) (pt_g269, []) (tm_m (5, [(0, .inr (.inr x0)), (1, .inl x1)], [])) h (tm_e r) := by
  intro n
  induction n with
  | zero => intro x0 x1 h r hr; cases hr
  | succ n ih =>
    intro x0 x1 h r hr
    unfold l269_5 at hr
    refine tm_n 2 (F' := (7, [(0, .inr (.inr x0)), (1, .inl x1)], [.inl x1, .inr (.inr x0)])) rfl ?_
    by_cases c1 : lc_of h x0 = some 10
    · rw [if_pos c1] at hr
      rcases lb_I_s hr with ⟨v2, h3, m4, hr⟩ | ⟨a14, h3, z15, z15l, m4, qz15, rfl⟩
      · try dsimp only at hr
        refine tm_call rfl rfl (tm_callV rfl rfl c1 rfl rfl) (lq_267 m4) ?_
        by_cases c13 : v2 = (0 : Int32)
        · rw [if_pos c13] at hr
          refine tm_ifT rfl c13 ?_
          refine tm_n 2 (F' := (21, [(0, .inr (.inr x0)), (1, .inl x1)], [.inr (.inr x0), .inl x1])) rfl ?_
          obtain ⟨v5, qv5, hr⟩ := Option.bind_eq_some_iff.mp hr
          refine tm_getf rfl (lf_I_V qv5) ?_
          refine tm_n 6 (F' := (30, [(3, .inl (-1 : Int32)), (2, .inl (x1 - v5)), (0, .inr (.inr x0)), (1, .inl x1)], [.inl x1, .inr (.inr x0)])) rfl ?_
          by_cases c6 : lc_of h3 x0 = some 10
          · rw [if_pos c6] at hr
            rcases lb_I_s hr with ⟨v7, h8, m9, hr⟩ | ⟨a11, h8, z12, z12l, m9, qz12, rfl⟩
            · try dsimp only at hr
              refine tm_call rfl rfl (tm_callV rfl rfl c6 rfl rfl) (lq_268 m9) ?_
              by_cases c10 : v7 = (0 : Int32)
              · rw [if_pos c10] at hr
                refine tm_ifT rfl c10 ?_
                refine tm_cut (a := [(0, .inr (.inr x0)), (1, .inl x1), (2, .inl (x1 - v5)), (3, .inl (-1 : Int32))]) rfl (tm_sbs [2, 3, 1, 0] rfl) ?_
                exact l269_58_t hr
              · rw [if_neg c10] at hr
                refine tm_ifF rfl c10 ?_
                refine tm_n 3 (F' := (41, [(3, .inl (0 : Int32)), (1, .inl (x1 + (1 : Int32))), (2, .inl (x1 - v5)), (0, .inr (.inr x0))], [])) rfl ?_
                refine tm_cut (a := [(0, .inr (.inr x0)), (1, .inl (x1 + (1 : Int32))), (2, .inl (x1 - v5)), (3, .inl (0 : Int32))]) rfl (tm_sbs [3, 1, 2, 0] rfl) ?_
                exact l269_41_t lf_N hr
            · exact tm_callT rfl rfl (tm_callV rfl rfl c6 rfl rfl) (lq_268 m9) qz12 rfl
          · rw [if_neg c6] at hr
            cases hr
        · rw [if_neg c13] at hr
          refine tm_ifF rfl c13 ?_
          refine tm_n 2 (F' := (5, [(1, .inl (x1 + (1 : Int32))), (0, .inr (.inr x0))], [])) rfl ?_
          refine tm_cut (a := [(0, .inr (.inr x0)), (1, .inl (x1 + (1 : Int32)))]) rfl (tm_sbs [1, 0] rfl) ?_
          exact ih hr
      · exact tm_callT rfl rfl (tm_callV rfl rfl c1 rfl rfl) (lq_267 m4) qz15 rfl
    · rw [if_neg c1] at hr
      cases hr
set_option maxRecDepth 20000 in
def ll_269 (a0 : Option Nat) (h : pm_H) : tm_L := (lf_I h a0 [10, 23]).bind fun v1 => l269_5 lf_N a0 v1 h
set_option maxRecDepth 20000 in
theorem lq_269 {w : Option Nat} {d : Nat} {a0 : Option Nat} {h : pm_H} {r : tm_O × pm_H} (hr : ll_269 a0 h = some r) : tm_run pt_P (pt_G (tm_r w)) (d + 1) 269 [.inr (.inr a0)] h r := by
  unfold ll_269 at hr
  show pm_to pt_P (pt_G (tm_r w)) (d + 1) (pt_g269, []) (tm_m (0, [(0, .inr (.inr a0))], [])) h (tm_e r)
  refine tm_n 1 (F' := (1, [(0, .inr (.inr a0))], [.inr (.inr a0)])) rfl ?_
  obtain ⟨v1, qv1, hr⟩ := Option.bind_eq_some_iff.mp hr
  refine tm_getf rfl (lf_I_V qv1) ?_
  refine tm_n 1 (F' := (5, [(1, .inl v1), (0, .inr (.inr a0))], [])) rfl ?_
  refine tm_cut (a := [(0, .inr (.inr a0)), (1, .inl v1)]) rfl (tm_sbs [1, 0] rfl) ?_
  exact l269_5_t lf_N hr
-- OfficeSheetModel.readReference(I)V
set_option maxRecDepth 20000 in
def l270_227 (s0 : Int32) (s1 : Option Nat) (h : pm_H) : tm_L := (lf_P 81 h s1 [0, 10, 27] (.inl s0)).bind fun h1 => some (.inl none, h1)
set_option maxRecDepth 20000 in
theorem l270_227_t {w : Option Nat} {d : Nat} {s0 : Int32} {s1 : Option Nat} {h : pm_H} {r : tm_O × pm_H} (hr : l270_227 s0 s1 h = some r) : pm_to pt_P (pt_G (tm_r w)) (d + 1) (pt_g270, []) (tm_m (227, [], [.inl s0, .inr (.inr s1)])) h (tm_e r) := by
  unfold l270_227 at hr
  obtain ⟨h1, qh1, hr⟩ := Option.bind_eq_some_iff.mp hr
  refine tm_putf rfl qh1 ?_
  cases hr
  exact tm_retV rfl
set_option maxRecDepth 20000 in
def l270_192 (x0 : Option Nat) (x1 : Int32) (x2 : Int32) (x4 : Int32) (x5 : Int32) (s0 : Int32) (s1 : Option Nat) (h : pm_H) : tm_L := (lf_P 81 h s1 [0, 10, 25] (.inl s0)).bind fun h1 => if x5 = (0 : Int32) then l270_227 (0 : Int32) x0 h1 else if lc_of h1 x0 = some 10 then lb_I (ll_242 x0 x1 (0 : Int32) (x4 - (1 : Int32)) h1) (fun v3 h4 => if lc_of h4 x0 = some 10 then lb_I (ll_242 x0 x1 (1 : Int32) x2 h4) (fun v7 h8 => l270_227 (v3 + ((128 : Int32) * v7)) x0 h8) else none) else none
set_option maxRecDepth 20000 in
theorem l270_192_t {w : Option Nat} {d : Nat} {x0 : Option Nat} {x1 : Int32} {x2 : Int32} {x4 : Int32} {x5 : Int32} {s0 : Int32} {s1 : Option Nat} {h : pm_H} {r : tm_O × pm_H} (hr : l270_192 x0 x1 x2 x4 x5 s0 s1 h = some r) : pm_to pt_P (pt_G (tm_r w)) (d + 1) (pt_g270, []) (tm_m (192, [(0, .inr (.inr x0)), (1, .inl x1), (2, .inl x2), (4, .inl x4), (5, .inl x5)], [.inl s0, .inr (.inr s1)])) h (tm_e r) := by
  unfold l270_192 at hr
  obtain ⟨h1, qh1, hr⟩ := Option.bind_eq_some_iff.mp hr
  refine tm_putf rfl qh1 ?_
  refine tm_n 2 (F' := (198, [(0, .inr (.inr x0)), (1, .inl x1), (2, .inl x2), (4, .inl x4), (5, .inl x5)], [.inl x5, .inr (.inr x0)])) rfl ?_
  by_cases c14 : x5 = (0 : Int32)
  · rw [if_pos c14] at hr
    refine tm_ifT rfl c14 ?_
    refine tm_n 1 (F' := (227, [(0, .inr (.inr x0)), (1, .inl x1), (2, .inl x2), (4, .inl x4), (5, .inl x5)], [.inl (0 : Int32), .inr (.inr x0)])) rfl ?_
    refine tm_cut (a := []) rfl (tm_sbs [] rfl) ?_
    exact l270_227_t hr
  · rw [if_neg c14] at hr
    refine tm_ifF rfl c14 ?_
    refine tm_n 6 (F' := (208, [(0, .inr (.inr x0)), (1, .inl x1), (2, .inl x2), (4, .inl x4), (5, .inl x5)], [.inl (x4 - (1 : Int32)), .inl (0 : Int32), .inl x1, .inr (.inr x0), .inr (.inr x0)])) rfl ?_
    by_cases c2 : lc_of h1 x0 = some 10
    · rw [if_pos c2] at hr
      rcases lb_I_s hr with ⟨v3, h4, m5, hr⟩ | ⟨a12, h4, z13, z13l, m5, qz13, rfl⟩
      · try dsimp only at hr
        refine tm_call rfl rfl (tm_callV rfl rfl c2 rfl rfl) (lq_242 m5) ?_
        refine tm_n 5 (F' := (218, [(0, .inr (.inr x0)), (1, .inl x1), (2, .inl x2), (4, .inl x4), (5, .inl x5)], [.inl x2, .inl (1 : Int32), .inl x1, .inr (.inr x0), .inl (128 : Int32), .inl v3, .inr (.inr x0)])) rfl ?_
        by_cases c6 : lc_of h4 x0 = some 10
        · rw [if_pos c6] at hr
          rcases lb_I_s hr with ⟨v7, h8, m9, hr⟩ | ⟨a10, h8, z11, z11l, m9, qz11, rfl⟩
          · try dsimp only at hr
            refine tm_call rfl rfl (tm_callV rfl rfl c6 rfl rfl) (lq_242 m9) ?_
            refine tm_n 3 (F' := (227, [(0, .inr (.inr x0)), (1, .inl x1), (2, .inl x2), (4, .inl x4), (5, .inl x5)], [.inl (v3 + ((128 : Int32) * v7)), .inr (.inr x0)])) rfl ?_
            refine tm_cut (a := []) rfl (tm_sbs [] rfl) ?_
            exact l270_227_t hr
          · exact tm_callT rfl rfl (tm_callV rfl rfl c6 rfl rfl) (lq_242 m9) qz11 rfl
        · rw [if_neg c6] at hr
          cases hr
      · exact tm_callT rfl rfl (tm_callV rfl rfl c2 rfl rfl) (lq_242 m5) qz13 rfl
    · rw [if_neg c2] at hr
      cases hr
set_option maxRecDepth 20000 in
def l270_165 (x0 : Option Nat) (x1 : Int32) (x2 : Int32) (x3 : Int32) (x4 : Int32) (s0 : Int32) (h : pm_H) : tm_L := (lf_I h x0 [10, 23]).bind fun v1 => (lf_P 81 h x0 [0, 10, 23] (.inl ((v1 + (1 : Int32)) + x3))).bind fun h2 => if s0 = (0 : Int32) then l270_192 x0 x1 x2 x4 s0 (-4 : Int32) x0 h2 else l270_192 x0 x1 x2 x4 s0 (-3 : Int32) x0 h2
set_option maxRecDepth 20000 in
theorem l270_165_t {w : Option Nat} {d : Nat} {x0 : Option Nat} {x1 : Int32} {x2 : Int32} {x3 : Int32} {x4 : Int32} {s0 : Int32} {h : pm_H} {r : tm_O × pm_H} (hr : l270_165 x0 x1 x2 x3 x4 s0 h = some r) : pm_to pt_P (pt_G (tm_r w)) (d + 1) (pt_g270, []) (tm_m (165, [(0, .inr (.inr x0)), (1, .inl x1), (2, .inl x2), (3, .inl x3), (4, .inl x4)], [.inl s0])) h (tm_e r) := by
  unfold l270_165 at hr
  refine tm_n 3 (F' := (169, [(5, .inl s0), (0, .inr (.inr x0)), (1, .inl x1), (2, .inl x2), (3, .inl x3), (4, .inl x4)], [.inr (.inr x0), .inr (.inr x0)])) rfl ?_
  obtain ⟨v1, qv1, hr⟩ := Option.bind_eq_some_iff.mp hr
  refine tm_getf rfl (lf_I_V qv1) ?_
  refine tm_n 4 (F' := (176, [(5, .inl s0), (0, .inr (.inr x0)), (1, .inl x1), (2, .inl x2), (3, .inl x3), (4, .inl x4)], [.inl ((v1 + (1 : Int32)) + x3), .inr (.inr x0)])) rfl ?_
  obtain ⟨h2, qh2, hr⟩ := Option.bind_eq_some_iff.mp hr
  refine tm_putf rfl qh2 ?_
  refine tm_n 2 (F' := (182, [(5, .inl s0), (0, .inr (.inr x0)), (1, .inl x1), (2, .inl x2), (3, .inl x3), (4, .inl x4)], [.inl s0, .inr (.inr x0)])) rfl ?_
  by_cases c3 : s0 = (0 : Int32)
  · rw [if_pos c3] at hr
    refine tm_ifT rfl c3 ?_
    refine tm_n 1 (F' := (192, [(5, .inl s0), (0, .inr (.inr x0)), (1, .inl x1), (2, .inl x2), (3, .inl x3), (4, .inl x4)], [.inl (-4 : Int32), .inr (.inr x0)])) rfl ?_
    refine tm_cut (a := [(0, .inr (.inr x0)), (1, .inl x1), (2, .inl x2), (4, .inl x4), (5, .inl s0)]) rfl (tm_sbs [1, 2, 3, 5, 0] rfl) ?_
    exact l270_192_t hr
  · rw [if_neg c3] at hr
    refine tm_ifF rfl c3 ?_
    refine tm_n 2 (F' := (192, [(5, .inl s0), (0, .inr (.inr x0)), (1, .inl x1), (2, .inl x2), (3, .inl x3), (4, .inl x4)], [.inl (-3 : Int32), .inr (.inr x0)])) rfl ?_
    refine tm_cut (a := [(0, .inr (.inr x0)), (1, .inl x1), (2, .inl x2), (4, .inl x4), (5, .inl s0)]) rfl (tm_sbs [1, 2, 3, 5, 0] rfl) ?_
    exact l270_192_t hr
set_option maxRecDepth 20000 in
def l270_164 (x0 : Option Nat) (x1 : Int32) (x2 : Int32) (x3 : Int32) (x4 : Int32) (h : pm_H) : tm_L := l270_165 x0 x1 x2 x3 x4 (0 : Int32) h
set_option maxRecDepth 20000 in
theorem l270_164_t {w : Option Nat} {d : Nat} {x0 : Option Nat} {x1 : Int32} {x2 : Int32} {x3 : Int32} {x4 : Int32} {h : pm_H} {r : tm_O × pm_H} (hr : l270_164 x0 x1 x2 x3 x4 h = some r) : pm_to pt_P (pt_G (tm_r w)) (d + 1) (pt_g270, []) (tm_m (164, [(0, .inr (.inr x0)), (1, .inl x1), (2, .inl x2), (3, .inl x3), (4, .inl x4)], [])) h (tm_e r) := by
  unfold l270_164 at hr
  refine tm_n 1 (F' := (165, [(0, .inr (.inr x0)), (1, .inl x1), (2, .inl x2), (3, .inl x3), (4, .inl x4)], [.inl (0 : Int32)])) rfl ?_
  refine tm_cut (a := [(0, .inr (.inr x0)), (1, .inl x1), (2, .inl x2), (3, .inl x3), (4, .inl x4)]) rfl (tm_sbs [0, 1, 2, 3, 4] rfl) ?_
  exact l270_165_t hr
set_option maxRecDepth 20000 in
def l270_111 (x0 : Option Nat) (x1 : Int32) (x2 : Int32) (x3 : Int32) (s0 : Int32) (h : pm_H) : tm_L := if x3 ≤ (0 : Int32) then l270_164 x0 x1 x2 x3 s0 h else (lf_R h x0 [10, 21]).bind fun v1 => (lf_I h x0 [10, 23]).bind fun v2 => (la_I h .iaload v1 (v2 + (1 : Int32))).bind fun v3 => if v3 = (48 : Int32) then l270_164 x0 x1 x2 x3 s0 h else (lf_R h x0 [10, 20]).bind fun v4 => (la_I h .iaload v4 ((2 : Int32) * x1)).bind fun v5 => if v5 < s0 then l270_164 x0 x1 x2 x3 s0 h else (lf_R h x0 [10, 20]).bind fun v6 => (la_I h .iaload v6 (((2 : Int32) * x1) + (1 : Int32))).bind fun v7 => if v7 ≤ x2 then l270_164 x0 x1 x2 x3 s0 h else l270_165 x0 x1 x2 x3 s0 (1 : Int32) h
set_option maxRecDepth 20000 in
theorem l270_111_t {w : Option Nat} {d : Nat} {x0 : Option Nat} {x1 : Int32} {x2 : Int32} {x3 : Int32} {s0 : Int32} {h : pm_H} {r : tm_O × pm_H} (hr : l270_111 x0 x1 x2 x3 s0 h = some r) : pm_to pt_P (pt_G (tm_r w)) (d + 1) (pt_g270, []) (tm_m (111, [(0, .inr (.inr x0)), (1, .inl x1), (2, .inl x2), (3, .inl x3)], [.inl s0])) h (tm_e r) := by
  unfold l270_111 at hr
  refine tm_n 2 (F' := (114, [(4, .inl s0), (0, .inr (.inr x0)), (1, .inl x1), (2, .inl x2), (3, .inl x3)], [.inl x3])) rfl ?_
  by_cases c11 : x3 ≤ (0 : Int32)
  · rw [if_pos c11] at hr
    refine tm_ifT rfl c11 ?_
    refine tm_cut (a := [(0, .inr (.inr x0)), (1, .inl x1), (2, .inl x2), (3, .inl x3), (4, .inl s0)]) rfl (tm_sbs [1, 2, 3, 4, 0] rfl) ?_
    exact l270_164_t hr
  · rw [if_neg c11] at hr
    refine tm_ifF rfl c11 ?_
    refine tm_n 1 (F' := (118, [(4, .inl s0), (0, .inr (.inr x0)), (1, .inl x1), (2, .inl x2), (3, .inl x3)], [.inr (.inr x0)])) rfl ?_
    obtain ⟨v1, qv1, hr⟩ := Option.bind_eq_some_iff.mp hr
    refine tm_getf rfl (lf_R_V qv1) ?_
    refine tm_n 1 (F' := (122, [(4, .inl s0), (0, .inr (.inr x0)), (1, .inl x1), (2, .inl x2), (3, .inl x3)], [.inr (.inr x0), .inr (.inr v1)])) rfl ?_
    obtain ⟨v2, qv2, hr⟩ := Option.bind_eq_some_iff.mp hr
    refine tm_getf rfl (lf_I_V qv2) ?_
    refine tm_n 2 (F' := (127, [(4, .inl s0), (0, .inr (.inr x0)), (1, .inl x1), (2, .inl x2), (3, .inl x3)], [.inl (v2 + (1 : Int32)), .inr (.inr v1)])) rfl ?_
    obtain ⟨v3, qv3, hr⟩ := Option.bind_eq_some_iff.mp hr
    refine tm_ald rfl rfl (la_I_V qv3) ?_
    refine tm_n 1 (F' := (130, [(4, .inl s0), (0, .inr (.inr x0)), (1, .inl x1), (2, .inl x2), (3, .inl x3)], [.inl (48 : Int32), .inl v3])) rfl ?_
    by_cases c10 : v3 = (48 : Int32)
    · rw [if_pos c10] at hr
      refine tm_icT rfl c10 ?_
      refine tm_cut (a := [(0, .inr (.inr x0)), (1, .inl x1), (2, .inl x2), (3, .inl x3), (4, .inl s0)]) rfl (tm_sbs [1, 2, 3, 4, 0] rfl) ?_
      exact l270_164_t hr
    · rw [if_neg c10] at hr
      refine tm_icF rfl c10 ?_
      refine tm_n 2 (F' := (136, [(4, .inl s0), (0, .inr (.inr x0)), (1, .inl x1), (2, .inl x2), (3, .inl x3)], [.inr (.inr x0), .inl s0])) rfl ?_
      obtain ⟨v4, qv4, hr⟩ := Option.bind_eq_some_iff.mp hr
      refine tm_getf rfl (lf_R_V qv4) ?_
      refine tm_n 3 (F' := (142, [(4, .inl s0), (0, .inr (.inr x0)), (1, .inl x1), (2, .inl x2), (3, .inl x3)], [.inl ((2 : Int32) * x1), .inr (.inr v4), .inl s0])) rfl ?_
      obtain ⟨v5, qv5, hr⟩ := Option.bind_eq_some_iff.mp hr
      refine tm_ald rfl rfl (la_I_V qv5) ?_
      by_cases c9 : v5 < s0
      · rw [if_pos c9] at hr
        refine tm_icT rfl c9 ?_
        refine tm_cut (a := [(0, .inr (.inr x0)), (1, .inl x1), (2, .inl x2), (3, .inl x3), (4, .inl s0)]) rfl (tm_sbs [1, 2, 3, 4, 0] rfl) ?_
        exact l270_164_t hr
      · rw [if_neg c9] at hr
        refine tm_icF rfl c9 ?_
        refine tm_n 2 (F' := (148, [(4, .inl s0), (0, .inr (.inr x0)), (1, .inl x1), (2, .inl x2), (3, .inl x3)], [.inr (.inr x0), .inl x2])) rfl ?_
        obtain ⟨v6, qv6, hr⟩ := Option.bind_eq_some_iff.mp hr
        refine tm_getf rfl (lf_R_V qv6) ?_
        refine tm_n 5 (F' := (156, [(4, .inl s0), (0, .inr (.inr x0)), (1, .inl x1), (2, .inl x2), (3, .inl x3)], [.inl (((2 : Int32) * x1) + (1 : Int32)), .inr (.inr v6), .inl x2])) rfl ?_
        obtain ⟨v7, qv7, hr⟩ := Option.bind_eq_some_iff.mp hr
        refine tm_ald rfl rfl (la_I_V qv7) ?_
        by_cases c8 : v7 ≤ x2
        · rw [if_pos c8] at hr
          refine tm_icT rfl c8 ?_
          refine tm_cut (a := [(0, .inr (.inr x0)), (1, .inl x1), (2, .inl x2), (3, .inl x3), (4, .inl s0)]) rfl (tm_sbs [1, 2, 3, 4, 0] rfl) ?_
          exact l270_164_t hr
        · rw [if_neg c8] at hr
          refine tm_icF rfl c8 ?_
          refine tm_n 2 (F' := (165, [(4, .inl s0), (0, .inr (.inr x0)), (1, .inl x1), (2, .inl x2), (3, .inl x3)], [.inl (1 : Int32)])) rfl ?_
          refine tm_cut (a := [(0, .inr (.inr x0)), (1, .inl x1), (2, .inl x2), (3, .inl x3), (4, .inl s0)]) rfl (tm_sbs [1, 2, 3, 4, 0] rfl) ?_
          exact l270_165_t hr
set_option maxRecDepth 20000 in
def l270_48 (x0 : Option Nat) (x1 : Int32) (x2 : Int32) (s0 : Int32) (h : pm_H) : tm_L := if s0 = (0 : Int32) then l270_111 x0 x1 x2 s0 (0 : Int32) h else if s0 = (1 : Int32) then (lf_R h x0 [10, 21]).bind fun v1 => (lf_I h x0 [10, 23]).bind fun v2 => (la_I h .iaload v1 (v2 + (1 : Int32))).bind fun v3 => l270_111 x0 x1 x2 s0 (v3 - (48 : Int32)) h else (lf_R h x0 [10, 21]).bind fun v4 => (lf_I h x0 [10, 23]).bind fun v5 => (la_I h .iaload v4 (v5 + (1 : Int32))).bind fun v6 => (lf_R h x0 [10, 21]).bind fun v7 => (lf_I h x0 [10, 23]).bind fun v8 => (la_I h .iaload v7 (v8 + (2 : Int32))).bind fun v9 => l270_111 x0 x1 x2 s0 ((((10 : Int32) * (v6 - (48 : Int32))) + v9) - (48 : Int32)) h
set_option maxRecDepth 20000 in
theorem l270_48_t {w : Option Nat} {d : Nat} {x0 : Option Nat} {x1 : Int32} {x2 : Int32} {s0 : Int32} {h : pm_H} {r : tm_O × pm_H} (hr : l270_48 x0 x1 x2 s0 h = some r) : pm_to pt_P (pt_G (tm_r w)) (d + 1) (pt_g270, []) (tm_m (48, [(0, .inr (.inr x0)), (1, .inl x1), (2, .inl x2)], [.inl s0])) h (tm_e r) := by
  unfold l270_48 at hr
  refine tm_n 2 (F' := (50, [(3, .inl s0), (0, .inr (.inr x0)), (1, .inl x1), (2, .inl x2)], [.inl s0])) rfl ?_
  by_cases c11 : s0 = (0 : Int32)
  · rw [if_pos c11] at hr
    refine tm_ifF rfl (fun q => q c11) ?_
    refine tm_n 2 (F' := (111, [(3, .inl s0), (0, .inr (.inr x0)), (1, .inl x1), (2, .inl x2)], [.inl (0 : Int32)])) rfl ?_
    refine tm_cut (a := [(0, .inr (.inr x0)), (1, .inl x1), (2, .inl x2), (3, .inl s0)]) rfl (tm_sbs [1, 2, 3, 0] rfl) ?_
    exact l270_111_t hr
  · rw [if_neg c11] at hr
    refine tm_ifT rfl c11 ?_
    refine tm_n 2 (F' := (59, [(3, .inl s0), (0, .inr (.inr x0)), (1, .inl x1), (2, .inl x2)], [.inl (1 : Int32), .inl s0])) rfl ?_
    by_cases c10 : s0 = (1 : Int32)
    · rw [if_pos c10] at hr
      refine tm_icF rfl (fun q => q c10) ?_
      refine tm_n 1 (F' := (63, [(3, .inl s0), (0, .inr (.inr x0)), (1, .inl x1), (2, .inl x2)], [.inr (.inr x0)])) rfl ?_
      obtain ⟨v1, qv1, hr⟩ := Option.bind_eq_some_iff.mp hr
      refine tm_getf rfl (lf_R_V qv1) ?_
      refine tm_n 1 (F' := (67, [(3, .inl s0), (0, .inr (.inr x0)), (1, .inl x1), (2, .inl x2)], [.inr (.inr x0), .inr (.inr v1)])) rfl ?_
      obtain ⟨v2, qv2, hr⟩ := Option.bind_eq_some_iff.mp hr
      refine tm_getf rfl (lf_I_V qv2) ?_
      refine tm_n 2 (F' := (72, [(3, .inl s0), (0, .inr (.inr x0)), (1, .inl x1), (2, .inl x2)], [.inl (v2 + (1 : Int32)), .inr (.inr v1)])) rfl ?_
      obtain ⟨v3, qv3, hr⟩ := Option.bind_eq_some_iff.mp hr
      refine tm_ald rfl rfl (la_I_V qv3) ?_
      refine tm_n 3 (F' := (111, [(3, .inl s0), (0, .inr (.inr x0)), (1, .inl x1), (2, .inl x2)], [.inl (v3 - (48 : Int32))])) rfl ?_
      refine tm_cut (a := [(0, .inr (.inr x0)), (1, .inl x1), (2, .inl x2), (3, .inl s0)]) rfl (tm_sbs [1, 2, 3, 0] rfl) ?_
      exact l270_111_t hr
    · rw [if_neg c10] at hr
      refine tm_icT rfl c10 ?_
      refine tm_n 2 (F' := (82, [(3, .inl s0), (0, .inr (.inr x0)), (1, .inl x1), (2, .inl x2)], [.inr (.inr x0), .inl (10 : Int32)])) rfl ?_
      obtain ⟨v4, qv4, hr⟩ := Option.bind_eq_some_iff.mp hr
      refine tm_getf rfl (lf_R_V qv4) ?_
      refine tm_n 1 (F' := (86, [(3, .inl s0), (0, .inr (.inr x0)), (1, .inl x1), (2, .inl x2)], [.inr (.inr x0), .inr (.inr v4), .inl (10 : Int32)])) rfl ?_
      obtain ⟨v5, qv5, hr⟩ := Option.bind_eq_some_iff.mp hr
      refine tm_getf rfl (lf_I_V qv5) ?_
      refine tm_n 2 (F' := (91, [(3, .inl s0), (0, .inr (.inr x0)), (1, .inl x1), (2, .inl x2)], [.inl (v5 + (1 : Int32)), .inr (.inr v4), .inl (10 : Int32)])) rfl ?_
      obtain ⟨v6, qv6, hr⟩ := Option.bind_eq_some_iff.mp hr
      refine tm_ald rfl rfl (la_I_V qv6) ?_
      refine tm_n 4 (F' := (97, [(3, .inl s0), (0, .inr (.inr x0)), (1, .inl x1), (2, .inl x2)], [.inr (.inr x0), .inl ((10 : Int32) * (v6 - (48 : Int32)))])) rfl ?_
      obtain ⟨v7, qv7, hr⟩ := Option.bind_eq_some_iff.mp hr
      refine tm_getf rfl (lf_R_V qv7) ?_
      refine tm_n 1 (F' := (101, [(3, .inl s0), (0, .inr (.inr x0)), (1, .inl x1), (2, .inl x2)], [.inr (.inr x0), .inr (.inr v7), .inl ((10 : Int32) * (v6 - (48 : Int32)))])) rfl ?_
      obtain ⟨v8, qv8, hr⟩ := Option.bind_eq_some_iff.mp hr
      refine tm_getf rfl (lf_I_V qv8) ?_
      refine tm_n 2 (F' := (106, [(3, .inl s0), (0, .inr (.inr x0)), (1, .inl x1), (2, .inl x2)], [.inl (v8 + (2 : Int32)), .inr (.inr v7), .inl ((10 : Int32) * (v6 - (48 : Int32)))])) rfl ?_
      obtain ⟨v9, qv9, hr⟩ := Option.bind_eq_some_iff.mp hr
      refine tm_ald rfl rfl (la_I_V qv9) ?_
      refine tm_n 3 (F' := (111, [(3, .inl s0), (0, .inr (.inr x0)), (1, .inl x1), (2, .inl x2)], [.inl ((((10 : Int32) * (v6 - (48 : Int32))) + v9) - (48 : Int32))])) rfl ?_
      refine tm_cut (a := [(0, .inr (.inr x0)), (1, .inl x1), (2, .inl x2), (3, .inl s0)]) rfl (tm_sbs [1, 2, 3, 0] rfl) ?_
      exact l270_111_t hr
set_option maxRecDepth 20000 in
def ll_270 (a0 : Option Nat) (a1 : Int32) (h : pm_H) : tm_L := (lf_R h a0 [10, 21]).bind fun v1 => (lf_I h a0 [10, 23]).bind fun v2 => (la_I h .iaload v1 v2).bind fun v3 => (lf_I h a0 [10, 23]).bind fun v4 => if lc_of h a0 = some 10 then lb_I (ll_267 a0 (v4 + (1 : Int32)) h) (fun v6 h7 => if v6 = (0 : Int32) then l270_48 a0 a1 (v3 - (65 : Int32)) (0 : Int32) h7 else (lf_I h7 a0 [10, 23]).bind fun v9 => if lc_of h7 a0 = some 10 then lb_I (ll_267 a0 (v9 + (2 : Int32)) h7) (fun v11 h12 => if v11 = (0 : Int32) then l270_48 a0 a1 (v3 - (65 : Int32)) (1 : Int32) h12 else l270_48 a0 a1 (v3 - (65 : Int32)) (2 : Int32) h12) else none) else none
set_option maxRecDepth 20000 in
theorem lq_270 {w : Option Nat} {d : Nat} {a0 : Option Nat} {a1 : Int32} {h : pm_H} {r : tm_O × pm_H} (hr : ll_270 a0 a1 h = some r) : tm_run pt_P (pt_G (tm_r w)) (d + 1) 270 [.inr (.inr a0), .inl a1] h r := by
  unfold ll_270 at hr
  show pm_to pt_P (pt_G (tm_r w)) (d + 1) (pt_g270, []) (tm_m (0, [(0, .inr (.inr a0)), (1, .inl a1)], [])) h (tm_e r)
  refine tm_n 1 (F' := (1, [(0, .inr (.inr a0)), (1, .inl a1)], [.inr (.inr a0)])) rfl ?_
  obtain ⟨v1, qv1, hr⟩ := Option.bind_eq_some_iff.mp hr
  refine tm_getf rfl (lf_R_V qv1) ?_
  refine tm_n 1 (F' := (5, [(0, .inr (.inr a0)), (1, .inl a1)], [.inr (.inr a0), .inr (.inr v1)])) rfl ?_
  obtain ⟨v2, qv2, hr⟩ := Option.bind_eq_some_iff.mp hr
  refine tm_getf rfl (lf_I_V qv2) ?_
  obtain ⟨v3, qv3, hr⟩ := Option.bind_eq_some_iff.mp hr
  refine tm_ald rfl rfl (la_I_V qv3) ?_
  refine tm_n 5 (F' := (15, [(2, .inl (v3 - (65 : Int32))), (0, .inr (.inr a0)), (1, .inl a1)], [.inr (.inr a0), .inr (.inr a0)])) rfl ?_
  obtain ⟨v4, qv4, hr⟩ := Option.bind_eq_some_iff.mp hr
  refine tm_getf rfl (lf_I_V qv4) ?_
  refine tm_n 2 (F' := (20, [(2, .inl (v3 - (65 : Int32))), (0, .inr (.inr a0)), (1, .inl a1)], [.inl (v4 + (1 : Int32)), .inr (.inr a0)])) rfl ?_
  by_cases c5 : lc_of h a0 = some 10
  · rw [if_pos c5] at hr
    rcases lb_I_s hr with ⟨v6, h7, m8, hr⟩ | ⟨a18, h7, z19, z19l, m8, qz19, rfl⟩
    · try dsimp only at hr
      refine tm_call rfl rfl (tm_callV rfl rfl c5 rfl rfl) (lq_267 m8) ?_
      by_cases c17 : v6 = (0 : Int32)
      · rw [if_pos c17] at hr
        refine tm_ifT rfl c17 ?_
        refine tm_n 1 (F' := (48, [(2, .inl (v3 - (65 : Int32))), (0, .inr (.inr a0)), (1, .inl a1)], [.inl (0 : Int32)])) rfl ?_
        refine tm_cut (a := [(0, .inr (.inr a0)), (1, .inl a1), (2, .inl (v3 - (65 : Int32)))]) rfl (tm_sbs [1, 2, 0] rfl) ?_
        exact l270_48_t hr
      · rw [if_neg c17] at hr
        refine tm_ifF rfl c17 ?_
        refine tm_n 2 (F' := (28, [(2, .inl (v3 - (65 : Int32))), (0, .inr (.inr a0)), (1, .inl a1)], [.inr (.inr a0), .inr (.inr a0)])) rfl ?_
        obtain ⟨v9, qv9, hr⟩ := Option.bind_eq_some_iff.mp hr
        refine tm_getf rfl (lf_I_V qv9) ?_
        refine tm_n 2 (F' := (33, [(2, .inl (v3 - (65 : Int32))), (0, .inr (.inr a0)), (1, .inl a1)], [.inl (v9 + (2 : Int32)), .inr (.inr a0)])) rfl ?_
        by_cases c10 : lc_of h7 a0 = some 10
        · rw [if_pos c10] at hr
          rcases lb_I_s hr with ⟨v11, h12, m13, hr⟩ | ⟨a15, h12, z16, z16l, m13, qz16, rfl⟩
          · try dsimp only at hr
            refine tm_call rfl rfl (tm_callV rfl rfl c10 rfl rfl) (lq_267 m13) ?_
            by_cases c14 : v11 = (0 : Int32)
            · rw [if_pos c14] at hr
              refine tm_ifT rfl c14 ?_
              refine tm_n 2 (F' := (48, [(2, .inl (v3 - (65 : Int32))), (0, .inr (.inr a0)), (1, .inl a1)], [.inl (1 : Int32)])) rfl ?_
              refine tm_cut (a := [(0, .inr (.inr a0)), (1, .inl a1), (2, .inl (v3 - (65 : Int32)))]) rfl (tm_sbs [1, 2, 0] rfl) ?_
              exact l270_48_t hr
            · rw [if_neg c14] at hr
              refine tm_ifF rfl c14 ?_
              refine tm_n 2 (F' := (48, [(2, .inl (v3 - (65 : Int32))), (0, .inr (.inr a0)), (1, .inl a1)], [.inl (2 : Int32)])) rfl ?_
              refine tm_cut (a := [(0, .inr (.inr a0)), (1, .inl a1), (2, .inl (v3 - (65 : Int32)))]) rfl (tm_sbs [1, 2, 0] rfl) ?_
              exact l270_48_t hr
          · exact tm_callT rfl rfl (tm_callV rfl rfl c10 rfl rfl) (lq_267 m13) qz16 rfl
        · rw [if_neg c10] at hr
          cases hr
    · exact tm_callT rfl rfl (tm_callV rfl rfl c5 rfl rfl) (lq_267 m8) qz19 rfl
  · rw [if_neg c5] at hr
    cases hr
