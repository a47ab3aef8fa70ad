/-! lifted: 285, 288, 287, 289, 290, 292, 291, 286, 284, 295, 294, 298, 297, 296, 293 -/
-- OfficeSheetModel.held(I)I
set_option maxRecDepth 20000 in
def ll_285 (a0 : Option Nat) (a1 : Int32) (h : pm_H) : tm_L := (lf_R h a0 [10, 10]).bind fun v1 => (lf_R h a0 [10, 35]).bind fun v2 => (la_I h .iaload v2 a1).bind fun v3 => (la_I h .iaload v1 v3).bind fun v4 => some (.inl (some (.inl v4)), h)
set_option maxRecDepth 20000 in
theorem lq_285 {w : Option Nat} {d : Nat} {a0 : Option Nat} {a1 : Int32} {h : pm_H} {r : tm_O × pm_H} (hr : ll_285 a0 a1 h = some r) : tm_run pt_P (pt_G (tm_r w)) (d + 0) 285 [.inr (.inr a0), .inl a1] h r := by
  unfold ll_285 at hr
  show pm_to pt_P (pt_G (tm_r w)) (d + 0) (pt_g285, []) (tm_m (0, [(0, .inr (.inr a0)), (1, .inl a1)], [])) h (tm_e r)
  refine tm_n 1 (F' := (1, [(0, .inr (.inr a0)), (1, .inl a1)], [.inr (.inr a0)])) rfl ?_
  obtain ⟨v1, qv1, hr⟩ := Option.bind_eq_some_iff.mp hr
  refine tm_getf rfl (lf_R_V qv1) ?_
  refine tm_n 1 (F' := (5, [(0, .inr (.inr a0)), (1, .inl a1)], [.inr (.inr a0), .inr (.inr v1)])) rfl ?_
  obtain ⟨v2, qv2, hr⟩ := Option.bind_eq_some_iff.mp hr
  refine tm_getf rfl (lf_R_V qv2) ?_
  refine tm_n 1 (F' := (9, [(0, .inr (.inr a0)), (1, .inl a1)], [.inl a1, .inr (.inr v2), .inr (.inr v1)])) rfl ?_
  obtain ⟨v3, qv3, hr⟩ := Option.bind_eq_some_iff.mp hr
  refine tm_ald rfl rfl (la_I_V qv3) ?_
  obtain ⟨v4, qv4, hr⟩ := Option.bind_eq_some_iff.mp hr
  refine tm_ald rfl rfl (la_I_V qv4) ?_
  cases hr
  exact tm_retI rfl rfl
-- OfficeSheetModel.position(III)I
set_option maxRecDepth 20000 in
def l288_3 : Nat → Option Nat → Int32 → Int32 → Int32 → Int32 → pm_H → tm_L
  | 0 => fun _ _ _ _ _ _ => none
  | n + 1 => fun x0 x1 x2 x3 x4 h => (lf_R h x0 [10, 20]).bind fun v1 => (la_I h .iaload v1 (((2 : Int32) * x1) + x2)).bind fun v2 => if v2 ≤ x4 then some (.inl (some (.inl (-1 : Int32))), h) else if lc_of h x0 = some 10 then lb_I (ll_242 x0 x1 x2 x4 h) (fun v4 h5 => if v4 = x3 then some (.inl (some (.inl x4)), h5) else l288_3 n x0 x1 x2 x3 (x4 + (1 : Int32)) h5) else none
set_option maxRecDepth 20000 in
theorem l288_3_t {w : Option Nat} {d : Nat} : ∀ (n : Nat) {x0 : Option Nat} {x1 : Int32} {x2 : Int32} {x3 : Int32} {x4 : Int32} {h : pm_H} {r : tm_O × pm_H}, l288_3 n x0 x1 x2 x3 x4 h = some r → pm_to pt_P (pt_G (tm_r w)) (d + 1) (pt_g288, []) (tm_m (3, [(0, .inr (.inr x0)), (1, .inl x1), (2, .inl x2), (3, .inl x3), (4, .inl x4)], [])) h (tm_e r) := by
  intro n
  induction n with
  | zero => intro x0 x1 x2 x3 x4 h r hr; cases hr
  | succ n ih =>
    intro x0 x1 x2 x3 x4 h r hr
    unfold l288_3 at hr
    refine tm_n 2 (F' := (6, [(0, .inr (.inr x0)), (1, .inl x1), (2, .inl x2), (3, .inl x3), (4, .inl x4)], [.inr (.inr x0), .inl x4])) rfl ?_
    obtain ⟨v1, qv1, hr⟩ := Option.bind_eq_some_iff.mp hr
    refine tm_getf rfl (lf_R_V qv1) ?_
    refine tm_n 5 (F' := (14, [(0, .inr (.inr x0)), (1, .inl x1), (2, .inl x2), (3, .inl x3), (4, .inl x4)], [.inl (((2 : Int32) * x1) + x2), .inr (.inr v1), .inl x4])) rfl ?_
    obtain ⟨v2, qv2, hr⟩ := Option.bind_eq_some_iff.mp hr
    refine tm_ald rfl rfl (la_I_V qv2) ?_
    by_cases c10 : v2 ≤ x4
    · rw [if_pos c10] at hr
      refine tm_icT rfl c10 ?_
      refine tm_n 1 (F' := (40, [(0, .inr (.inr x0)), (1, .inl x1), (2, .inl x2), (3, .inl x3), (4, .inl x4)], [.inl (-1 : Int32)])) rfl ?_
      cases hr
      exact tm_retI rfl rfl
    · rw [if_neg c10] at hr
      refine tm_icF rfl c10 ?_
      refine tm_n 4 (F' := (23, [(0, .inr (.inr x0)), (1, .inl x1), (2, .inl x2), (3, .inl x3), (4, .inl x4)], [.inl x4, .inl x2, .inl x1, .inr (.inr x0)])) rfl ?_
      by_cases c3 : lc_of h x0 = some 10
      · rw [if_pos c3] at hr
        rcases lb_I_s hr with ⟨v4, h5, m6, hr⟩ | ⟨a8, h5, z9, z9l, m6, qz9, rfl⟩
        · try dsimp only at hr
          refine tm_call rfl rfl (tm_callV rfl rfl c3 rfl rfl) (lq_242 m6) ?_
          refine tm_n 1 (F' := (27, [(0, .inr (.inr x0)), (1, .inl x1), (2, .inl x2), (3, .inl x3), (4, .inl x4)], [.inl x3, .inl v4])) rfl ?_
          by_cases c7 : v4 = x3
          · rw [if_pos c7] at hr
            refine tm_icF rfl (fun q => q c7) ?_
            refine tm_n 1 (F' := (32, [(0, .inr (.inr x0)), (1, .inl x1), (2, .inl x2), (3, .inl x3), (4, .inl x4)], [.inl x4])) rfl ?_
            cases hr
            exact tm_retI rfl rfl
          · rw [if_neg c7] at hr
            refine tm_icT rfl c7 ?_
            refine tm_n 2 (F' := (3, [(4, .inl (x4 + (1 : Int32))), (0, .inr (.inr x0)), (1, .inl x1), (2, .inl x2), (3, .inl x3)], [])) rfl ?_
            refine tm_cut (a := [(0, .inr (.inr x0)), (1, .inl x1), (2, .inl x2), (3, .inl x3), (4, .inl (x4 + (1 : Int32)))]) rfl (tm_sbs [1, 2, 3, 4, 0] rfl) ?_
            exact ih hr
        · exact tm_callT rfl rfl (tm_callV rfl rfl c3 rfl rfl) (lq_242 m6) qz9 rfl
      · rw [if_neg c3] at hr
        cases hr
set_option maxRecDepth 20000 in
def ll_288 (a0 : Option Nat) (a1 : Int32) (a2 : Int32) (a3 : Int32) (h : pm_H) : tm_L := l288_3 lf_N a0 a1 a2 a3 (0 : Int32) h
set_option maxRecDepth 20000 in
theorem lq_288 {w : Option Nat} {d : Nat} {a0 : Option Nat} {a1 : Int32} {a2 : Int32} {a3 : Int32} {h : pm_H} {r : tm_O × pm_H} (hr : ll_288 a0 a1 a2 a3 h = some r) : tm_run pt_P (pt_G (tm_r w)) (d + 1) 288 [.inr (.inr a0), .inl a1, .inl a2, .inl a3] h r := by
  unfold ll_288 at hr
  show pm_to pt_P (pt_G (tm_r w)) (d + 1) (pt_g288, []) (tm_m (0, [(0, .inr (.inr a0)), (1, .inl a1), (2, .inl a2), (3, .inl a3)], [])) h (tm_e r)
  refine tm_n 2 (F' := (3, [(4, .inl (0 : Int32)), (0, .inr (.inr a0)), (1, .inl a1), (2, .inl a2), (3, .inl a3)], [])) rfl ?_
  refine tm_cut (a := [(0, .inr (.inr a0)), (1, .inl a1), (2, .inl a2), (3, .inl a3), (4, .inl (0 : Int32))]) rfl (tm_sbs [1, 2, 3, 4, 0] rfl) ?_
  exact l288_3_t lf_N hr
-- OfficeSheetModel.isNamed(II)Z
set_option maxRecDepth 20000 in
def ll_287 (a0 : Option Nat) (a1 : Int32) (a2 : Int32) (h : pm_H) : tm_L := if lc_of h a0 = some 10 then lb_I (ll_288 a0 a1 (0 : Int32) (a2 - a2 / (128 : Int32) * (128 : Int32)) h) (fun v2 h3 => if v2 < (0 : Int32) then some (.inl (some (.inl (0 : Int32))), h3) else if lc_of h3 a0 = some 10 then lb_I (ll_288 a0 a1 (1 : Int32) (a2 / (128 : Int32)) h3) (fun v6 h7 => if v6 < (0 : Int32) then some (.inl (some (.inl (0 : Int32))), h7) else some (.inl (some (.inl (1 : Int32))), h7)) else none) else none
set_option maxRecDepth 20000 in
theorem lq_287 {w : Option Nat} {d : Nat} {a0 : Option Nat} {a1 : Int32} {a2 : Int32} {h : pm_H} {r : tm_O × pm_H} (hr : ll_287 a0 a1 a2 h = some r) : tm_run pt_P (pt_G (tm_r w)) (d + 2) 287 [.inr (.inr a0), .inl a1, .inl a2] h r := by
  unfold ll_287 at hr
  show pm_to pt_P (pt_G (tm_r w)) (d + 2) (pt_g287, []) (tm_m (0, [(0, .inr (.inr a0)), (1, .inl a1), (2, .inl a2)], [])) h (tm_e r)
  refine tm_n 6 (F' := (8, [(0, .inr (.inr a0)), (1, .inl a1), (2, .inl a2)], [.inl (a2 - a2 / (128 : Int32) * (128 : Int32)), .inl (0 : Int32), .inl a1, .inr (.inr a0)])) rfl ?_
  by_cases c1 : lc_of h a0 = some 10
  · rw [if_pos c1] at hr
    rcases lb_I_s hr with ⟨v2, h3, m4, hr⟩ | ⟨a13, h3, z14, z14l, m4, qz14, rfl⟩
    · try dsimp only at hr
      refine tm_call rfl rfl (tm_callV rfl rfl c1 rfl rfl) (lq_288 m4) ?_
      by_cases c12 : v2 < (0 : Int32)
      · rw [if_pos c12] at hr
        refine tm_ifT rfl c12 ?_
        refine tm_n 1 (F' := (33, [(0, .inr (.inr a0)), (1, .inl a1), (2, .inl a2)], [.inl (0 : Int32)])) rfl ?_
        cases hr
        exact tm_retI rfl rfl
      · rw [if_neg c12] at hr
        refine tm_ifF rfl c12 ?_
        refine tm_n 6 (F' := (22, [(0, .inr (.inr a0)), (1, .inl a1), (2, .inl a2)], [.inl (a2 / (128 : Int32)), .inl (1 : Int32), .inl a1, .inr (.inr a0)])) rfl ?_
        by_cases c5 : lc_of h3 a0 = some 10
        · rw [if_pos c5] at hr
          rcases lb_I_s hr with ⟨v6, h7, m8, hr⟩ | ⟨a10, h7, z11, z11l, m8, qz11, rfl⟩
          · try dsimp only at hr
            refine tm_call rfl rfl (tm_callV rfl rfl c5 rfl rfl) (lq_288 m8) ?_
            by_cases c9 : v6 < (0 : Int32)
            · rw [if_pos c9] at hr
              refine tm_ifT rfl c9 ?_
              refine tm_n 1 (F' := (33, [(0, .inr (.inr a0)), (1, .inl a1), (2, .inl a2)], [.inl (0 : Int32)])) rfl ?_
              cases hr
              exact tm_retI rfl rfl
            · rw [if_neg c9] at hr
              refine tm_ifF rfl c9 ?_
              refine tm_n 2 (F' := (33, [(0, .inr (.inr a0)), (1, .inl a1), (2, .inl a2)], [.inl (1 : Int32)])) rfl ?_
              cases hr
              exact tm_retI rfl rfl
          · exact tm_callT rfl rfl (tm_callV rfl rfl c5 rfl rfl) (lq_288 m8) qz11 rfl
        · rw [if_neg c5] at hr
          cases hr
    · exact tm_callT rfl rfl (tm_callV rfl rfl c1 rfl rfl) (lq_288 m4) qz14 rfl
  · rw [if_neg c1] at hr
    cases hr
-- OfficeSheetModel.isBlock(I)Z
set_option maxRecDepth 20000 in
def ll_289 (a0 : Int32) (h : pm_H) : tm_L := if a0 = (115 : Int32) then some (.inl (some (.inl (1 : Int32))), h) else if a0 = (110 : Int32) then some (.inl (some (.inl (1 : Int32))), h) else if a0 = (109 : Int32) then some (.inl (some (.inl (1 : Int32))), h) else some (.inl (some (.inl (0 : Int32))), h)
set_option maxRecDepth 20000 in
theorem lq_289 {w : Option Nat} {d : Nat} {a0 : Int32} {h : pm_H} {r : tm_O × pm_H} (hr : ll_289 a0 h = some r) : tm_run pt_P (pt_G (tm_r w)) (d + 0) 289 [.inl a0] h r := by
  unfold ll_289 at hr
  show pm_to pt_P (pt_G (tm_r w)) (d + 0) (pt_g289, []) (tm_m (0, [(0, .inl a0)], [])) h (tm_e r)
  refine tm_n 2 (F' := (3, [(0, .inl a0)], [.inl (115 : Int32), .inl a0])) rfl ?_
  by_cases c3 : a0 = (115 : Int32)
  · rw [if_pos c3] at hr
    refine tm_icT rfl c3 ?_
    refine tm_n 2 (F' := (23, [(0, .inl a0)], [.inl (1 : Int32)])) rfl ?_
    cases hr
    exact tm_retI rfl rfl
  · rw [if_neg c3] at hr
    refine tm_icF rfl c3 ?_
    refine tm_n 2 (F' := (9, [(0, .inl a0)], [.inl (110 : Int32), .inl a0])) rfl ?_
    by_cases c2 : a0 = (110 : Int32)
    · rw [if_pos c2] at hr
      refine tm_icT rfl c2 ?_
      refine tm_n 2 (F' := (23, [(0, .inl a0)], [.inl (1 : Int32)])) rfl ?_
      cases hr
      exact tm_retI rfl rfl
    · rw [if_neg c2] at hr
      refine tm_icF rfl c2 ?_
      refine tm_n 2 (F' := (15, [(0, .inl a0)], [.inl (109 : Int32), .inl a0])) rfl ?_
      by_cases c1 : a0 = (109 : Int32)
      · rw [if_pos c1] at hr
        refine tm_icF rfl (fun q => q c1) ?_
        refine tm_n 2 (F' := (23, [(0, .inl a0)], [.inl (1 : Int32)])) rfl ?_
        cases hr
        exact tm_retI rfl rfl
      · rw [if_neg c1] at hr
        refine tm_icT rfl c1 ?_
        refine tm_n 1 (F' := (23, [(0, .inl a0)], [.inl (0 : Int32)])) rfl ?_
        cases hr
        exact tm_retI rfl rfl
-- OfficeSheetModel.isShownBlock(II)Z
set_option maxRecDepth 20000 in
def ll_290 (a0 : Option Nat) (a1 : Int32) (a2 : Int32) (h : pm_H) : tm_L := if lc_of h a0 = some 10 then lb_I (ll_287 a0 a1 (a2 - a2 / (16384 : Int32) * (16384 : Int32)) h) (fun v2 h3 => if v2 = (0 : Int32) then some (.inl (some (.inl (0 : Int32))), h3) else if lc_of h3 a0 = some 10 then lb_I (ll_287 a0 a1 (a2 / (16384 : Int32)) h3) (fun v6 h7 => if v6 = (0 : Int32) then some (.inl (some (.inl (0 : Int32))), h7) else some (.inl (some (.inl (1 : Int32))), h7)) else none) else none
set_option maxRecDepth 20000 in
theorem lq_290 {w : Option Nat} {d : Nat} {a0 : Option Nat} {a1 : Int32} {a2 : Int32} {h : pm_H} {r : tm_O × pm_H} (hr : ll_290 a0 a1 a2 h = some r) : tm_run pt_P (pt_G (tm_r w)) (d + 3) 290 [.inr (.inr a0), .inl a1, .inl a2] h r := by
  unfold ll_290 at hr
  show pm_to pt_P (pt_G (tm_r w)) (d + 3) (pt_g290, []) (tm_m (0, [(0, .inr (.inr a0)), (1, .inl a1), (2, .inl a2)], [])) h (tm_e r)
  refine tm_n 5 (F' := (7, [(0, .inr (.inr a0)), (1, .inl a1), (2, .inl a2)], [.inl (a2 - a2 / (16384 : Int32) * (16384 : Int32)), .inl a1, .inr (.inr a0)])) rfl ?_
  by_cases c1 : lc_of h a0 = some 10
  · rw [if_pos c1] at hr
    rcases lb_I_s hr with ⟨v2, h3, m4, hr⟩ | ⟨a13, h3, z14, z14l, m4, qz14, rfl⟩
    · try dsimp only at hr
      refine tm_call rfl rfl (tm_callV rfl rfl c1 rfl rfl) (lq_287 m4) ?_
      by_cases c12 : v2 = (0 : Int32)
      · rw [if_pos c12] at hr
        refine tm_ifT rfl c12 ?_
        refine tm_n 1 (F' := (31, [(0, .inr (.inr a0)), (1, .inl a1), (2, .inl a2)], [.inl (0 : Int32)])) rfl ?_
        cases hr
        exact tm_retI rfl rfl
      · rw [if_neg c12] at hr
        refine tm_ifF rfl c12 ?_
        refine tm_n 5 (F' := (20, [(0, .inr (.inr a0)), (1, .inl a1), (2, .inl a2)], [.inl (a2 / (16384 : Int32)), .inl a1, .inr (.inr a0)])) rfl ?_
        by_cases c5 : lc_of h3 a0 = some 10
        · rw [if_pos c5] at hr
          rcases lb_I_s hr with ⟨v6, h7, m8, hr⟩ | ⟨a10, h7, z11, z11l, m8, qz11, rfl⟩
          · try dsimp only at hr
            refine tm_call rfl rfl (tm_callV rfl rfl c5 rfl rfl) (lq_287 m8) ?_
            by_cases c9 : v6 = (0 : Int32)
            · rw [if_pos c9] at hr
              refine tm_ifT rfl c9 ?_
              refine tm_n 1 (F' := (31, [(0, .inr (.inr a0)), (1, .inl a1), (2, .inl a2)], [.inl (0 : Int32)])) rfl ?_
              cases hr
              exact tm_retI rfl rfl
            · rw [if_neg c9] at hr
              refine tm_ifF rfl c9 ?_
              refine tm_n 2 (F' := (31, [(0, .inr (.inr a0)), (1, .inl a1), (2, .inl a2)], [.inl (1 : Int32)])) rfl ?_
              cases hr
              exact tm_retI rfl rfl
          · exact tm_callT rfl rfl (tm_callV rfl rfl c5 rfl rfl) (lq_287 m8) qz11 rfl
        · rw [if_neg c5] at hr
          cases hr
    · exact tm_callT rfl rfl (tm_callV rfl rfl c1 rfl rfl) (lq_287 m4) qz14 rfl
  · rw [if_neg c1] at hr
    cases hr
-- OfficeSheetModel.edge(III)I
set_option maxRecDepth 20000 in
def l292_100 (x7 : Int32) (x8 : Int32) (s0 : Int32) (s1 : Int32) (h : pm_H) : tm_L := if s1 = s0 then some (.inl (some (.inl x7)), h) else some (.inl (some (.inl x8)), h)
set_option maxRecDepth 20000 in
theorem l292_100_t {w : Option Nat} {d : Nat} {x7 : Int32} {x8 : Int32} {s0 : Int32} {s1 : Int32} {h : pm_H} {r : tm_O × pm_H} (hr : l292_100 x7 x8 s0 s1 h = some r) : pm_to pt_P (pt_G (tm_r w)) (d + 2) (pt_g292, []) (tm_m (100, [(7, .inl x7), (8, .inl x8)], [.inl s0, .inl s1])) h (tm_e r) := by
  unfold l292_100 at hr
  by_cases c1 : s1 = s0
  · rw [if_pos c1] at hr
    refine tm_icF rfl (fun q => q c1) ?_
    refine tm_n 2 (F' := (110, [(7, .inl x7), (8, .inl x8)], [.inl x7])) rfl ?_
    cases hr
    exact tm_retI rfl rfl
  · rw [if_neg c1] at hr
    refine tm_icT rfl c1 ?_
    refine tm_n 1 (F' := (110, [(7, .inl x7), (8, .inl x8)], [.inl x8])) rfl ?_
    cases hr
    exact tm_retI rfl rfl
set_option maxRecDepth 20000 in
def l292_88 (x7 : Int32) (x8 : Int32) (s0 : Int32) (h : pm_H) : tm_L := if x8 ≤ x7 then l292_100 x7 x8 (0 : Int32) s0 h else l292_100 x7 x8 (1 : Int32) s0 h
set_option maxRecDepth 20000 in
theorem l292_88_t {w : Option Nat} {d : Nat} {x7 : Int32} {x8 : Int32} {s0 : Int32} {h : pm_H} {r : tm_O × pm_H} (hr : l292_88 x7 x8 s0 h = some r) : pm_to pt_P (pt_G (tm_r w)) (d + 2) (pt_g292, []) (tm_m (88, [(7, .inl x7), (8, .inl x8)], [.inl s0])) h (tm_e r) := by
  unfold l292_88 at hr
  refine tm_n 2 (F' := (92, [(7, .inl x7), (8, .inl x8)], [.inl x8, .inl x7, .inl s0])) rfl ?_
  by_cases c1 : x8 ≤ x7
  · rw [if_pos c1] at hr
    refine tm_icT rfl c1 ?_
    refine tm_n 1 (F' := (100, [(7, .inl x7), (8, .inl x8)], [.inl (0 : Int32), .inl s0])) rfl ?_
    refine tm_cut (a := [(7, .inl x7), (8, .inl x8)]) rfl (tm_sbs [0, 1] rfl) ?_
    exact l292_100_t hr
  · rw [if_neg c1] at hr
    refine tm_icF rfl c1 ?_
    refine tm_n 2 (F' := (100, [(7, .inl x7), (8, .inl x8)], [.inl (1 : Int32), .inl s0])) rfl ?_
    refine tm_cut (a := [(7, .inl x7), (8, .inl x8)]) rfl (tm_sbs [0, 1] rfl) ?_
    exact l292_100_t hr
set_option maxRecDepth 20000 in
def l292_72 (x3 : Int32) (x7 : Int32) (s0 : Int32) (s1 : Int32) (s2 : Int32) (s3 : Option Nat) (h : pm_H) : tm_L := if lc_of h s3 = some 10 then lb_I (ll_288 s3 s2 s1 s0 h) (fun v2 h3 => if (x3 - x3 / (2 : Int32) * (2 : Int32)) = (0 : Int32) then l292_88 x7 v2 (1 : Int32) h3 else l292_88 x7 v2 (0 : Int32) h3) else none
set_option maxRecDepth 20000 in
theorem l292_72_t {w : Option Nat} {d : Nat} {x3 : Int32} {x7 : Int32} {s0 : Int32} {s1 : Int32} {s2 : Int32} {s3 : Option Nat} {h : pm_H} {r : tm_O × pm_H} (hr : l292_72 x3 x7 s0 s1 s2 s3 h = some r) : pm_to pt_P (pt_G (tm_r w)) (d + 2) (pt_g292, []) (tm_m (72, [(3, .inl x3), (7, .inl x7)], [.inl s0, .inl s1, .inl s2, .inr (.inr s3)])) h (tm_e r) := by
  unfold l292_72 at hr
  by_cases c1 : lc_of h s3 = some 10
  · rw [if_pos c1] at hr
    rcases lb_I_s hr with ⟨v2, h3, m4, hr⟩ | ⟨a6, h3, z7, z7l, m4, qz7, rfl⟩
    · try dsimp only at hr
      refine tm_call rfl rfl (tm_callV rfl rfl c1 rfl rfl) (lq_288 m4) ?_
      refine tm_n 4 (F' := (80, [(8, .inl v2), (3, .inl x3), (7, .inl x7)], [.inl (x3 - x3 / (2 : Int32) * (2 : Int32))])) rfl ?_
      by_cases c5 : (x3 - x3 / (2 : Int32) * (2 : Int32)) = (0 : Int32)
      · rw [if_pos c5] at hr
        refine tm_ifF rfl (fun q => q c5) ?_
        refine tm_n 2 (F' := (88, [(8, .inl v2), (3, .inl x3), (7, .inl x7)], [.inl (1 : Int32)])) rfl ?_
        refine tm_cut (a := [(7, .inl x7), (8, .inl v2)]) rfl (tm_sbs [2, 0] rfl) ?_
        exact l292_88_t hr
      · rw [if_neg c5] at hr
        refine tm_ifT rfl c5 ?_
        refine tm_n 1 (F' := (88, [(8, .inl v2), (3, .inl x3), (7, .inl x7)], [.inl (0 : Int32)])) rfl ?_
        refine tm_cut (a := [(7, .inl x7), (8, .inl v2)]) rfl (tm_sbs [2, 0] rfl) ?_
        exact l292_88_t hr
    · exact tm_callT rfl rfl (tm_callV rfl rfl c1 rfl rfl) (lq_288 m4) qz7 rfl
  · rw [if_neg c1] at hr
    cases hr
set_option maxRecDepth 20000 in
def l292_43 (x0 : Option Nat) (x1 : Int32) (x3 : Int32) (x5 : Int32) (x6 : Int32) (s0 : Int32) (s1 : Int32) (s2 : Int32) (s3 : Option Nat) (h : pm_H) : tm_L := if lc_of h s3 = some 10 then lb_I (ll_288 s3 s2 s1 s0 h) (fun v2 h3 => if x6 = (0 : Int32) then l292_72 x3 v2 (x5 - x5 / (128 : Int32) * (128 : Int32)) x6 x1 x0 h3 else l292_72 x3 v2 (x5 / (128 : Int32)) x6 x1 x0 h3) else none
set_option maxRecDepth 20000 in
theorem l292_43_t {w : Option Nat} {d : Nat} {x0 : Option Nat} {x1 : Int32} {x3 : Int32} {x5 : Int32} {x6 : Int32} {s0 : Int32} {s1 : Int32} {s2 : Int32} {s3 : Option Nat} {h : pm_H} {r : tm_O × pm_H} (hr : l292_43 x0 x1 x3 x5 x6 s0 s1 s2 s3 h = some r) : pm_to pt_P (pt_G (tm_r w)) (d + 2) (pt_g292, []) (tm_m (43, [(0, .inr (.inr x0)), (1, .inl x1), (3, .inl x3), (5, .inl x5), (6, .inl x6)], [.inl s0, .inl s1, .inl s2, .inr (.inr s3)])) h (tm_e r) := by
  unfold l292_43 at hr
  by_cases c1 : lc_of h s3 = some 10
  · rw [if_pos c1] at hr
    rcases lb_I_s hr with ⟨v2, h3, m4, hr⟩ | ⟨a6, h3, z7, z7l, m4, qz7, rfl⟩
    · try dsimp only at hr
      refine tm_call rfl rfl (tm_callV rfl rfl c1 rfl rfl) (lq_288 m4) ?_
      refine tm_n 5 (F' := (54, [(7, .inl v2), (0, .inr (.inr x0)), (1, .inl x1), (3, .inl x3), (5, .inl x5), (6, .inl x6)], [.inl x6, .inl x6, .inl x1, .inr (.inr x0)])) rfl ?_
      by_cases c5 : x6 = (0 : Int32)
      · rw [if_pos c5] at hr
        refine tm_ifF rfl (fun q => q c5) ?_
        refine tm_n 4 (F' := (72, [(7, .inl v2), (0, .inr (.inr x0)), (1, .inl x1), (3, .inl x3), (5, .inl x5), (6, .inl x6)], [.inl (x5 - x5 / (128 : Int32) * (128 : Int32)), .inl x6, .inl x1, .inr (.inr x0)])) rfl ?_
        refine tm_cut (a := [(3, .inl x3), (7, .inl v2)]) rfl (tm_sbs [3, 0] rfl) ?_
        exact l292_72_t hr
      · rw [if_neg c5] at hr
        refine tm_ifT rfl c5 ?_
        refine tm_n 3 (F' := (72, [(7, .inl v2), (0, .inr (.inr x0)), (1, .inl x1), (3, .inl x3), (5, .inl x5), (6, .inl x6)], [.inl (x5 / (128 : Int32)), .inl x6, .inl x1, .inr (.inr x0)])) rfl ?_
        refine tm_cut (a := [(3, .inl x3), (7, .inl v2)]) rfl (tm_sbs [3, 0] rfl) ?_
        exact l292_72_t hr
    · exact tm_callT rfl rfl (tm_callV rfl rfl c1 rfl rfl) (lq_288 m4) qz7 rfl
  · rw [if_neg c1] at hr
    cases hr
set_option maxRecDepth 20000 in
def ll_292 (a0 : Option Nat) (a1 : Int32) (a2 : Int32) (a3 : Int32) (h : pm_H) : tm_L := if (a3 / (2 : Int32)) = (0 : Int32) then l292_43 a0 a1 a3 (a2 / (16384 : Int32)) (a3 / (2 : Int32)) ((a2 - a2 / (16384 : Int32) * (16384 : Int32)) - (a2 - a2 / (16384 : Int32) * (16384 : Int32)) / (128 : Int32) * (128 : Int32)) (a3 / (2 : Int32)) a1 a0 h else l292_43 a0 a1 a3 (a2 / (16384 : Int32)) (a3 / (2 : Int32)) ((a2 - a2 / (16384 : Int32) * (16384 : Int32)) / (128 : Int32)) (a3 / (2 : Int32)) a1 a0 h
set_option maxRecDepth 20000 in
theorem lq_292 {w : Option Nat} {d : Nat} {a0 : Option Nat} {a1 : Int32} {a2 : Int32} {a3 : Int32} {h : pm_H} {r : tm_O × pm_H} (hr : ll_292 a0 a1 a2 a3 h = some r) : tm_run pt_P (pt_G (tm_r w)) (d + 2) 292 [.inr (.inr a0), .inl a1, .inl a2, .inl a3] h r := by
  unfold ll_292 at hr
  show pm_to pt_P (pt_G (tm_r w)) (d + 2) (pt_g292, []) (tm_m (0, [(0, .inr (.inr a0)), (1, .inl a1), (2, .inl a2), (3, .inl a3)], [])) h (tm_e r)
  refine tm_n 16 (F' := (25, [(6, .inl (a3 / (2 : Int32))), (5, .inl (a2 / (16384 : Int32))), (4, .inl (a2 - a2 / (16384 : Int32) * (16384 : Int32))), (0, .inr (.inr a0)), (1, .inl a1), (2, .inl a2), (3, .inl a3)], [.inl (a3 / (2 : Int32)), .inl (a3 / (2 : Int32)), .inl a1, .inr (.inr a0)])) rfl ?_
  by_cases c1 : (a3 / (2 : Int32)) = (0 : Int32)
  · rw [if_pos c1] at hr
    refine tm_ifF rfl (fun q => q c1) ?_
    refine tm_n 4 (F' := (43, [(6, .inl (a3 / (2 : Int32))), (5, .inl (a2 / (16384 : Int32))), (4, .inl (a2 - a2 / (16384 : Int32) * (16384 : Int32))), (0, .inr (.inr a0)), (1, .inl a1), (2, .inl a2), (3, .inl a3)], [.inl ((a2 - a2 / (16384 : Int32) * (16384 : Int32)) - (a2 - a2 / (16384 : Int32) * (16384 : Int32)) / (128 : Int32) * (128 : Int32)), .inl (a3 / (2 : Int32)), .inl a1, .inr (.inr a0)])) rfl ?_
    refine tm_cut (a := [(0, .inr (.inr a0)), (1, .inl a1), (3, .inl a3), (5, .inl (a2 / (16384 : Int32))), (6, .inl (a3 / (2 : Int32)))]) rfl (tm_sbs [3, 4, 6, 1, 0] rfl) ?_
    exact l292_43_t hr
  · rw [if_neg c1] at hr
    refine tm_ifT rfl c1 ?_
    refine tm_n 3 (F' := (43, [(6, .inl (a3 / (2 : Int32))), (5, .inl (a2 / (16384 : Int32))), (4, .inl (a2 - a2 / (16384 : Int32) * (16384 : Int32))), (0, .inr (.inr a0)), (1, .inl a1), (2, .inl a2), (3, .inl a3)], [.inl ((a2 - a2 / (16384 : Int32) * (16384 : Int32)) / (128 : Int32)), .inl (a3 / (2 : Int32)), .inl a1, .inr (.inr a0)])) rfl ?_
    refine tm_cut (a := [(0, .inr (.inr a0)), (1, .inl a1), (3, .inl a3), (5, .inl (a2 / (16384 : Int32))), (6, .inl (a3 / (2 : Int32)))]) rfl (tm_sbs [3, 4, 6, 1, 0] rfl) ?_
    exact l292_43_t hr
-- OfficeSheetModel.blockLevel(II)I
set_option maxRecDepth 20000 in
def l291_93 (K11 : Option Nat → Int32 → Int32 → Int32 → Int32 → pm_H → tm_L) (K32 : Option Nat → Int32 → Int32 → Int32 → Int32 → Int32 → pm_H → tm_L) (x0 : Option Nat) (x1 : Int32) (x2 : Int32) (x4 : Int32) (x5 : Int32) (s0 : Int32) (h : pm_H) : tm_L := K32 x0 x1 x2 s0 x4 (x5 + (1 : Int32)) h
set_option maxRecDepth 20000 in
theorem l291_93_t {w : Option Nat} {d : Nat} {K11 : Option Nat → Int32 → Int32 → Int32 → Int32 → pm_H → tm_L} {K32 : Option Nat → Int32 → Int32 → Int32 → Int32 → Int32 → pm_H → tm_L} (hK11 : ∀ {x0 : Option Nat} {x1 : Int32} {x2 : Int32} {x3 : Int32} {x4 : Int32}  {h : pm_H} {r : tm_O × pm_H}, K11 x0 x1 x2 x3 x4 h = some r → pm_to pt_P (pt_G (tm_r w)) (d + 3) (pt_g291, []) (tm_m (11, [(0, .inr (.inr x0)), (1, .inl x1), (2, .inl x2), (3, .inl x3), (4, .inl x4)], [])) h (tm_e r)) (hK32 : ∀ {x0 : Option Nat} {x1 : Int32} {x2 : Int32} {x3 : Int32} {x4 : Int32} {x5 : Int32}  {h : pm_H} {r : tm_O × pm_H}, K32 x0 x1 x2 x3 x4 x5 h = some r → pm_to pt_P (pt_G (tm_r w)) (d + 3) (pt_g291, []) (tm_m (32, [(0, .inr (.inr x0)), (1, .inl x1), (2, .inl x2), (3, .inl x3), (4, .inl x4), (5, .inl x5)], [])) h (tm_e r)) {x0 : Option Nat} {x1 : Int32} {x2 : Int32} {x4 : Int32} {x5 : Int32} {s0 : Int32} {h : pm_H} {r : tm_O × pm_H} (hr : l291_93 K11 K32 x0 x1 x2 x4 x5 s0 h = some r) : pm_to pt_P (pt_G (tm_r w)) (d + 3) (pt_g291, []) (tm_m (93, [(0, .inr (.inr x0)), (1, .inl x1), (2, .inl x2), (4, .inl x4), (5, .inl x5)], [.inl s0])) h (tm_e r) := by
  unfold l291_93 at hr
  refine tm_n 3 (F' := (32, [(5, .inl (x5 + (1 : Int32))), (3, .inl s0), (0, .inr (.inr x0)), (1, .inl x1), (2, .inl x2), (4, .inl x4)], [])) rfl ?_
  refine tm_cut (a := [(0, .inr (.inr x0)), (1, .inl x1), (2, .inl x2), (3, .inl s0), (4, .inl x4), (5, .inl (x5 + (1 : Int32)))]) rfl (tm_sbs [2, 3, 4, 1, 5, 0] rfl) ?_
  exact hK32 hr
set_option maxRecDepth 20000 in
def l291_92 (K11 : Option Nat → Int32 → Int32 → Int32 → Int32 → pm_H → tm_L) (K32 : Option Nat → Int32 → Int32 → Int32 → Int32 → Int32 → pm_H → tm_L) (x0 : Option Nat) (x1 : Int32) (x2 : Int32) (x3 : Int32) (x4 : Int32) (x5 : Int32) (h : pm_H) : tm_L := l291_93 K11 K32 x0 x1 x2 x4 x5 x3 h
set_option maxRecDepth 20000 in
theorem l291_92_t {w : Option Nat} {d : Nat} {K11 : Option Nat → Int32 → Int32 → Int32 → Int32 → pm_H → tm_L} {K32 : Option Nat → Int32 → Int32 → Int32 → Int32 → Int32 → pm_H → tm_L} (hK11 : ∀ {x0 : Option Nat} {x1 : Int32} {x2 : Int32} {x3 : Int32} {x4 : Int32}  {h : pm_H} {r : tm_O × pm_H}, K11 x0 x1 x2 x3 x4 h = some r → pm_to pt_P (pt_G (tm_r w)) (d + 3) (pt_g291, []) (tm_m (11, [(0, .inr (.inr x0)), (1, .inl x1), (2, .inl x2), (3, .inl x3), (4, .inl x4)], [])) h (tm_e r)) (hK32 : ∀ {x0 : Option Nat} {x1 : Int32} {x2 : Int32} {x3 : Int32} {x4 : Int32} {x5 : Int32}  {h : pm_H} {r : tm_O × pm_H}, K32 x0 x1 x2 x3 x4 x5 h = some r → pm_to pt_P (pt_G (tm_r w)) (d + 3) (pt_g291, []) (tm_m (32, [(0, .inr (.inr x0)), (1, .inl x1), (2, .inl x2), (3, .inl x3), (4, .inl x4), (5, .inl x5)], [])) h (tm_e r)) {x0 : Option Nat} {x1 : Int32} {x2 : Int32} {x3 : Int32} {x4 : Int32} {x5 : Int32} {h : pm_H} {r : tm_O × pm_H} (hr : l291_92 K11 K32 x0 x1 x2 x3 x4 x5 h = some r) : pm_to pt_P (pt_G (tm_r w)) (d + 3) (pt_g291, []) (tm_m (92, [(0, .inr (.inr x0)), (1, .inl x1), (2, .inl x2), (3, .inl x3), (4, .inl x4), (5, .inl x5)], [])) h (tm_e r) := by
  unfold l291_92 at hr
  refine tm_n 1 (F' := (93, [(0, .inr (.inr x0)), (1, .inl x1), (2, .inl x2), (3, .inl x3), (4, .inl x4), (5, .inl x5)], [.inl x3])) rfl ?_
  refine tm_cut (a := [(0, .inr (.inr x0)), (1, .inl x1), (2, .inl x2), (4, .inl x4), (5, .inl x5)]) rfl (tm_sbs [0, 1, 2, 4, 5] rfl) ?_
  exact l291_93_t hK11 hK32 hr
set_option maxRecDepth 20000 in
def l291_32 (K11 : Option Nat → Int32 → Int32 → Int32 → Int32 → pm_H → tm_L) : Nat → Option Nat → Int32 → Int32 → Int32 → Int32 → Int32 → pm_H → tm_L
  | 0 => fun _ _ _ _ _ _ _ => none
  | n + 1 => fun x0 x1 x2 x3 x4 x5 h => if lc_of h x0 = some 10 then lb_I (ll_292 x0 x1 x2 (3 : Int32) h) (fun v2 h3 => if v2 < x5 then K11 x0 x1 x2 x3 (x4 + (1 : Int32)) h3 else if lc_of h3 x0 = some 10 then lb_I (ll_242 x0 x1 (0 : Int32) x4 h3) (fun v6 h7 => if lc_of h7 x0 = some 10 then lb_I (ll_242 x0 x1 (1 : Int32) x5 h7) (fun v10 h11 => if lc_of h11 x0 = some 10 then lb_I (ll_283 x0 v6 v10 h11) (fun v14 h15 => if v14 < (0 : Int32) then l291_92 K11 (l291_32 K11 n) x0 x1 x2 x3 x4 x5 h15 else (lf_R h15 x0 [10, 36]).bind fun v17 => (la_I h15 .iaload v17 v14).bind fun v18 => if v18 ≤ x3 then l291_92 K11 (l291_32 K11 n) x0 x1 x2 x3 x4 x5 h15 else (lf_R h15 x0 [10, 36]).bind fun v19 => (la_I h15 .iaload v19 v14).bind fun v20 => l291_93 K11 (l291_32 K11 n) x0 x1 x2 x4 x5 v20 h15) else none) else none) else none) else none
set_option maxRecDepth 20000 in
theorem l291_32_t {w : Option Nat} {d : Nat} {K11 : Option Nat → Int32 → Int32 → Int32 → Int32 → pm_H → tm_L} (hK11 : ∀ {x0 : Option Nat} {x1 : Int32} {x2 : Int32} {x3 : Int32} {x4 : Int32}  {h : pm_H} {r : tm_O × pm_H}, K11 x0 x1 x2 x3 x4 h = some r → pm_to pt_P (pt_G (tm_r w)) (d + 3) (pt_g291, []) (tm_m (11, [(0, .inr (.inr x0)), (1, .inl x1), (2, .inl x2), (3, .inl x3), (4, .inl x4)], [])) h (tm_e r)) : ∀ (n : Nat) {x0 : Option Nat} {x1 : Int32} {x2 : Int32} {x3 : Int32} {x4 : Int32} {x5 : Int32} {h : pm_H} {r : tm_O × pm_H}, l291_32 K11 n x0 x1 x2 x3 x4 x5 h = some r → pm_to pt_P (pt_G (tm_r w)) (d + 3) (pt_g291, []) (tm_m (32, [(0, .inr (.inr x0)), (1, .inl x1), (2, .inl x2), (3, .inl x3), (4, .inl x4), (5, .inl x5)], [])) h (tm_e r) := by
  intro n
  induction n with
  | zero => intro x0 x1 x2 x3 x4 x5 h r hr; cases hr
  | succ n ih =>
    intro x0 x1 x2 x3 x4 x5 h r hr
    unfold l291_32 at hr
    refine tm_n 5 (F' := (38, [(0, .inr (.inr x0)), (1, .inl x1), (2, .inl x2), (3, .inl x3), (4, .inl x4), (5, .inl x5)], [.inl (3 : Int32), .inl x2, .inl x1, .inr (.inr x0), .inl x5])) rfl ?_
    by_cases c1 : lc_of h x0 = some 10
    · rw [if_pos c1] at hr
      rcases lb_I_s hr with ⟨v2, h3, m4, hr⟩ | ⟨a30, h3, z31, z31l, m4, qz31, rfl⟩
      · try dsimp only at hr
        refine tm_call rfl rfl (tm_callV rfl rfl c1 rfl rfl) (lq_292 m4) ?_
        by_cases c29 : v2 < x5
        · rw [if_pos c29] at hr
          refine tm_icT rfl c29 ?_
          refine tm_n 2 (F' := (11, [(4, .inl (x4 + (1 : Int32))), (0, .inr (.inr x0)), (1, .inl x1), (2, .inl x2), (3, .inl x3), (5, .inl x5)], [])) rfl ?_
          refine tm_cut (a := [(0, .inr (.inr x0)), (1, .inl x1), (2, .inl x2), (3, .inl x3), (4, .inl (x4 + (1 : Int32)))]) rfl (tm_sbs [1, 2, 3, 4, 0] rfl) ?_
          exact hK11 hr
        · rw [if_neg c29] at hr
          refine tm_icF rfl c29 ?_
          refine tm_n 5 (F' := (50, [(0, .inr (.inr x0)), (1, .inl x1), (2, .inl x2), (3, .inl x3), (4, .inl x4), (5, .inl x5)], [.inl x4, .inl (0 : Int32), .inl x1, .inr (.inr x0), .inr (.inr x0)])) rfl ?_
          by_cases c5 : lc_of h3 x0 = some 10
          · rw [if_pos c5] at hr
            rcases lb_I_s hr with ⟨v6, h7, m8, hr⟩ | ⟨a27, h7, z28, z28l, m8, qz28, rfl⟩
            · try dsimp only at hr
              refine tm_call rfl rfl (tm_callV rfl rfl c5 rfl rfl) (lq_242 m8) ?_
              refine tm_n 4 (F' := (58, [(0, .inr (.inr x0)), (1, .inl x1), (2, .inl x2), (3, .inl x3), (4, .inl x4), (5, .inl x5)], [.inl x5, .inl (1 : Int32), .inl x1, .inr (.inr x0), .inl v6, .inr (.inr x0)])) rfl ?_
              by_cases c9 : lc_of h7 x0 = some 10
              · rw [if_pos c9] at hr
                rcases lb_I_s hr with ⟨v10, h11, m12, hr⟩ | ⟨a25, h11, z26, z26l, m12, qz26, rfl⟩
                · try dsimp only at hr
                  refine tm_call rfl rfl (tm_callV rfl rfl c9 rfl rfl) (lq_242 m12) ?_
                  by_cases c13 : lc_of h11 x0 = some 10
                  · rw [if_pos c13] at hr
                    rcases lb_I_s hr with ⟨v14, h15, m16, hr⟩ | ⟨a23, h15, z24, z24l, m16, qz24, rfl⟩
                    · try dsimp only at hr
                      refine tm_call rfl rfl (tm_callV rfl rfl c13 rfl rfl) (lq_283 m16) ?_
                      refine tm_n 2 (F' := (68, [(6, .inl v14), (0, .inr (.inr x0)), (1, .inl x1), (2, .inl x2), (3, .inl x3), (4, .inl x4), (5, .inl x5)], [.inl v14])) rfl ?_
                      by_cases c22 : v14 < (0 : Int32)
                      · rw [if_pos c22] at hr
                        refine tm_ifT rfl c22 ?_
                        refine tm_cut (a := [(0, .inr (.inr x0)), (1, .inl x1), (2, .inl x2), (3, .inl x3), (4, .inl x4), (5, .inl x5)]) rfl (tm_sbs [1, 2, 3, 4, 5, 6] rfl) ?_
                        exact l291_92_t hK11 (fun hr => ih hr) hr
                      · rw [if_neg c22] at hr
                        refine tm_ifF rfl c22 ?_
                        refine tm_n 1 (F' := (72, [(6, .inl v14), (0, .inr (.inr x0)), (1, .inl x1), (2, .inl x2), (3, .inl x3), (4, .inl x4), (5, .inl x5)], [.inr (.inr x0)])) rfl ?_
                        obtain ⟨v17, qv17, hr⟩ := Option.bind_eq_some_iff.mp hr
                        refine tm_getf rfl (lf_R_V qv17) ?_
                        refine tm_n 1 (F' := (77, [(6, .inl v14), (0, .inr (.inr x0)), (1, .inl x1), (2, .inl x2), (3, .inl x3), (4, .inl x4), (5, .inl x5)], [.inl v14, .inr (.inr v17)])) rfl ?_
                        obtain ⟨v18, qv18, hr⟩ := Option.bind_eq_some_iff.mp hr
                        refine tm_ald rfl rfl (la_I_V qv18) ?_
                        refine tm_n 1 (F' := (79, [(6, .inl v14), (0, .inr (.inr x0)), (1, .inl x1), (2, .inl x2), (3, .inl x3), (4, .inl x4), (5, .inl x5)], [.inl x3, .inl v18])) rfl ?_
                        by_cases c21 : v18 ≤ x3
                        · rw [if_pos c21] at hr
                          refine tm_icT rfl c21 ?_
                          refine tm_cut (a := [(0, .inr (.inr x0)), (1, .inl x1), (2, .inl x2), (3, .inl x3), (4, .inl x4), (5, .inl x5)]) rfl (tm_sbs [1, 2, 3, 4, 5, 6] rfl) ?_
                          exact l291_92_t hK11 (fun hr => ih hr) hr
                        · rw [if_neg c21] at hr
                          refine tm_icF rfl c21 ?_
                          refine tm_n 1 (F' := (83, [(6, .inl v14), (0, .inr (.inr x0)), (1, .inl x1), (2, .inl x2), (3, .inl x3), (4, .inl x4), (5, .inl x5)], [.inr (.inr x0)])) rfl ?_
                          obtain ⟨v19, qv19, hr⟩ := Option.bind_eq_some_iff.mp hr
                          refine tm_getf rfl (lf_R_V qv19) ?_
                          refine tm_n 1 (F' := (88, [(6, .inl v14), (0, .inr (.inr x0)), (1, .inl x1), (2, .inl x2), (3, .inl x3), (4, .inl x4), (5, .inl x5)], [.inl v14, .inr (.inr v19)])) rfl ?_
                          obtain ⟨v20, qv20, hr⟩ := Option.bind_eq_some_iff.mp hr
                          refine tm_ald rfl rfl (la_I_V qv20) ?_
                          refine tm_n 1 (F' := (93, [(6, .inl v14), (0, .inr (.inr x0)), (1, .inl x1), (2, .inl x2), (3, .inl x3), (4, .inl x4), (5, .inl x5)], [.inl v20])) rfl ?_
                          refine tm_cut (a := [(0, .inr (.inr x0)), (1, .inl x1), (2, .inl x2), (4, .inl x4), (5, .inl x5)]) rfl (tm_sbs [1, 2, 3, 5, 6] rfl) ?_
                          exact l291_93_t hK11 (fun hr => ih hr) hr
                    · exact tm_callT rfl rfl (tm_callV rfl rfl c13 rfl rfl) (lq_283 m16) qz24 rfl
                  · rw [if_neg c13] at hr
                    cases hr
                · exact tm_callT rfl rfl (tm_callV rfl rfl c9 rfl rfl) (lq_242 m12) qz26 rfl
              · rw [if_neg c9] at hr
                cases hr
            · exact tm_callT rfl rfl (tm_callV rfl rfl c5 rfl rfl) (lq_242 m8) qz28 rfl
          · rw [if_neg c5] at hr
            cases hr
      · exact tm_callT rfl rfl (tm_callV rfl rfl c1 rfl rfl) (lq_292 m4) qz31 rfl
    · rw [if_neg c1] at hr
      cases hr
set_option maxRecDepth 20000 in
def l291_11 : Nat → Option Nat → Int32 → Int32 → Int32 → Int32 → pm_H → tm_L
  | 0 => fun _ _ _ _ _ _ => none
  | n + 1 => fun x0 x1 x2 x3 x4 h => if lc_of h x0 = some 10 then lb_I (ll_292 x0 x1 x2 (1 : Int32) h) (fun v2 h3 => if v2 < x4 then some (.inl (some (.inl x3)), h3) else if lc_of h3 x0 = some 10 then lb_I (ll_292 x0 x1 x2 (2 : Int32) h3) (fun v6 h7 => l291_32 (l291_11 n) lf_N x0 x1 x2 x3 x4 v6 h7) else none) else none
set_option maxRecDepth 20000 in
theorem l291_11_t {w : Option Nat} {d : Nat} : ∀ (n : Nat) {x0 : Option Nat} {x1 : Int32} {x2 : Int32} {x3 : Int32} {x4 : Int32} {h : pm_H} {r : tm_O × pm_H}, l291_11 n x0 x1 x2 x3 x4 h = some r → pm_to pt_P (pt_G (tm_r w)) (d + 3) (pt_g291, []) (tm_m (11, [(0, .inr (.inr x0)), (1, .inl x1), (2, .inl x2), (3, .inl x3), (4, .inl x4)], [])) h (tm_e r) := by
  intro n
  induction n with
  | zero => intro x0 x1 x2 x3 x4 h r hr; cases hr
  | succ n ih =>
    intro x0 x1 x2 x3 x4 h r hr
    unfold l291_11 at hr
    refine tm_n 5 (F' := (17, [(0, .inr (.inr x0)), (1, .inl x1), (2, .inl x2), (3, .inl x3), (4, .inl x4)], [.inl (1 : Int32), .inl x2, .inl x1, .inr (.inr x0), .inl x4])) rfl ?_
    by_cases c1 : lc_of h x0 = some 10
    · rw [if_pos c1] at hr
      rcases lb_I_s hr with ⟨v2, h3, m4, hr⟩ | ⟨a12, h3, z13, z13l, m4, qz13, rfl⟩
      · try dsimp only at hr
        refine tm_call rfl rfl (tm_callV rfl rfl c1 rfl rfl) (lq_292 m4) ?_
        by_cases c11 : v2 < x4
        · rw [if_pos c11] at hr
          refine tm_icT rfl c11 ?_
          refine tm_n 1 (F' := (107, [(0, .inr (.inr x0)), (1, .inl x1), (2, .inl x2), (3, .inl x3), (4, .inl x4)], [.inl x3])) rfl ?_
          cases hr
          exact tm_retI rfl rfl
        · rw [if_neg c11] at hr
          refine tm_icF rfl c11 ?_
          refine tm_n 4 (F' := (27, [(0, .inr (.inr x0)), (1, .inl x1), (2, .inl x2), (3, .inl x3), (4, .inl x4)], [.inl (2 : Int32), .inl x2, .inl x1, .inr (.inr x0)])) rfl ?_
          by_cases c5 : lc_of h3 x0 = some 10
          · rw [if_pos c5] at hr
            rcases lb_I_s hr with ⟨v6, h7, m8, hr⟩ | ⟨a9, h7, z10, z10l, m8, qz10, rfl⟩
            · try dsimp only at hr
              refine tm_call rfl rfl (tm_callV rfl rfl c5 rfl rfl) (lq_292 m8) ?_
              refine tm_n 1 (F' := (32, [(5, .inl v6), (0, .inr (.inr x0)), (1, .inl x1), (2, .inl x2), (3, .inl x3), (4, .inl x4)], [])) rfl ?_
              refine tm_cut (a := [(0, .inr (.inr x0)), (1, .inl x1), (2, .inl x2), (3, .inl x3), (4, .inl x4), (5, .inl v6)]) rfl (tm_sbs [1, 2, 3, 4, 5, 0] rfl) ?_
              exact l291_32_t (fun hr => ih hr) lf_N hr
            · exact tm_callT rfl rfl (tm_callV rfl rfl c5 rfl rfl) (lq_292 m8) qz10 rfl
          · rw [if_neg c5] at hr
            cases hr
      · exact tm_callT rfl rfl (tm_callV rfl rfl c1 rfl rfl) (lq_292 m4) qz13 rfl
    · rw [if_neg c1] at hr
      cases hr
set_option maxRecDepth 20000 in
def ll_291 (a0 : Option Nat) (a1 : Int32) (a2 : Int32) (h : pm_H) : tm_L := if lc_of h a0 = some 10 then lb_I (ll_292 a0 a1 a2 (0 : Int32) h) (fun v2 h3 => l291_11 lf_N a0 a1 a2 (0 : Int32) v2 h3) else none
set_option maxRecDepth 20000 in
theorem lq_291 {w : Option Nat} {d : Nat} {a0 : Option Nat} {a1 : Int32} {a2 : Int32} {h : pm_H} {r : tm_O × pm_H} (hr : ll_291 a0 a1 a2 h = some r) : tm_run pt_P (pt_G (tm_r w)) (d + 3) 291 [.inr (.inr a0), .inl a1, .inl a2] h r := by
  unfold ll_291 at hr
  show pm_to pt_P (pt_G (tm_r w)) (d + 3) (pt_g291, []) (tm_m (0, [(0, .inr (.inr a0)), (1, .inl a1), (2, .inl a2)], [])) h (tm_e r)
  refine tm_n 6 (F' := (6, [(3, .inl (0 : Int32)), (0, .inr (.inr a0)), (1, .inl a1), (2, .inl a2)], [.inl (0 : Int32), .inl a2, .inl a1, .inr (.inr a0)])) rfl ?_
  by_cases c1 : lc_of h a0 = some 10
  · rw [if_pos c1] at hr
    rcases lb_I_s hr with ⟨v2, h3, m4, hr⟩ | ⟨a5, h3, z6, z6l, m4, qz6, rfl⟩
    · try dsimp only at hr
      refine tm_call rfl rfl (tm_callV rfl rfl c1 rfl rfl) (lq_292 m4) ?_
      refine tm_n 1 (F' := (11, [(4, .inl v2), (3, .inl (0 : Int32)), (0, .inr (.inr a0)), (1, .inl a1), (2, .inl a2)], [])) rfl ?_
      refine tm_cut (a := [(0, .inr (.inr a0)), (1, .inl a1), (2, .inl a2), (3, .inl (0 : Int32)), (4, .inl v2)]) rfl (tm_sbs [2, 3, 4, 1, 0] rfl) ?_
      exact l291_11_t lf_N hr
    · exact tm_callT rfl rfl (tm_callV rfl rfl c1 rfl rfl) (lq_292 m4) qz6 rfl
  · rw [if_neg c1] at hr
    cases hr
-- OfficeSheetModel.levelOf(II)I
set_option maxRecDepth 20000 in
def l286_154 (K8 : Option Nat → Int32 → Int32 → Int32 → Int32 → pm_H → tm_L) (x0 : Option Nat) (x1 : Int32) (x2 : Int32) (x4 : Int32) (s0 : Int32) (h : pm_H) : tm_L := K8 x0 x1 x2 s0 (x4 + (1 : Int32)) h
set_option maxRecDepth 20000 in
theorem l286_154_t {w : Option Nat} {d : Nat} {K8 : Option Nat → Int32 → Int32 → Int32 → Int32 → pm_H → tm_L} (hK8 : ∀ {x0 : Option Nat} {x1 : Int32} {x2 : Int32} {x3 : Int32} {x4 : Int32}  {h : pm_H} {r : tm_O × pm_H}, K8 x0 x1 x2 x3 x4 h = some r → pm_to pt_P (pt_G (tm_r w)) (d + 4) (pt_g286, []) (tm_m (8, [(0, .inr (.inr x0)), (1, .inl x1), (2, .inl x2), (3, .inl x3), (4, .inl x4)], [])) h (tm_e r)) {x0 : Option Nat} {x1 : Int32} {x2 : Int32} {x4 : Int32} {s0 : Int32} {h : pm_H} {r : tm_O × pm_H} (hr : l286_154 K8 x0 x1 x2 x4 s0 h = some r) : pm_to pt_P (pt_G (tm_r w)) (d + 4) (pt_g286, []) (tm_m (154, [(0, .inr (.inr x0)), (1, .inl x1), (2, .inl x2), (4, .inl x4)], [.inl s0])) h (tm_e r) := by
  unfold l286_154 at hr
  refine tm_n 3 (F' := (8, [(4, .inl (x4 + (1 : Int32))), (3, .inl s0), (0, .inr (.inr x0)), (1, .inl x1), (2, .inl x2)], [])) rfl ?_
  refine tm_cut (a := [(0, .inr (.inr x0)), (1, .inl x1), (2, .inl x2), (3, .inl s0), (4, .inl (x4 + (1 : Int32)))]) rfl (tm_sbs [2, 3, 4, 1, 0] rfl) ?_
  exact hK8 hr
set_option maxRecDepth 20000 in
def l286_142 (K8 : Option Nat → Int32 → Int32 → Int32 → Int32 → pm_H → tm_L) (x0 : Option Nat) (x1 : Int32) (x2 : Int32) (x3 : Int32) (x4 : Int32) (x5 : Int32) (h : pm_H) : tm_L := if x5 ≤ x3 then l286_154 K8 x0 x1 x2 x4 x3 h else l286_154 K8 x0 x1 x2 x4 x5 h
set_option maxRecDepth 20000 in
theorem l286_142_t {w : Option Nat} {d : Nat} {K8 : Option Nat → Int32 → Int32 → Int32 → Int32 → pm_H → tm_L} (hK8 : ∀ {x0 : Option Nat} {x1 : Int32} {x2 : Int32} {x3 : Int32} {x4 : Int32}  {h : pm_H} {r : tm_O × pm_H}, K8 x0 x1 x2 x3 x4 h = some r → pm_to pt_P (pt_G (tm_r w)) (d + 4) (pt_g286, []) (tm_m (8, [(0, .inr (.inr x0)), (1, .inl x1), (2, .inl x2), (3, .inl x3), (4, .inl x4)], [])) h (tm_e r)) {x0 : Option Nat} {x1 : Int32} {x2 : Int32} {x3 : Int32} {x4 : Int32} {x5 : Int32} {h : pm_H} {r : tm_O × pm_H} (hr : l286_142 K8 x0 x1 x2 x3 x4 x5 h = some r) : pm_to pt_P (pt_G (tm_r w)) (d + 4) (pt_g286, []) (tm_m (142, [(0, .inr (.inr x0)), (1, .inl x1), (2, .inl x2), (3, .inl x3), (4, .inl x4), (5, .inl x5)], [])) h (tm_e r) := by
  unfold l286_142 at hr
  refine tm_n 2 (F' := (145, [(0, .inr (.inr x0)), (1, .inl x1), (2, .inl x2), (3, .inl x3), (4, .inl x4), (5, .inl x5)], [.inl x3, .inl x5])) rfl ?_
  by_cases c1 : x5 ≤ x3
  · rw [if_pos c1] at hr
    refine tm_icT rfl c1 ?_
    refine tm_n 1 (F' := (154, [(0, .inr (.inr x0)), (1, .inl x1), (2, .inl x2), (3, .inl x3), (4, .inl x4), (5, .inl x5)], [.inl x3])) rfl ?_
    refine tm_cut (a := [(0, .inr (.inr x0)), (1, .inl x1), (2, .inl x2), (4, .inl x4)]) rfl (tm_sbs [0, 1, 2, 4] rfl) ?_
    exact l286_154_t hK8 hr
  · rw [if_neg c1] at hr
    refine tm_icF rfl c1 ?_
    refine tm_n 2 (F' := (154, [(0, .inr (.inr x0)), (1, .inl x1), (2, .inl x2), (3, .inl x3), (4, .inl x4), (5, .inl x5)], [.inl x5])) rfl ?_
    refine tm_cut (a := [(0, .inr (.inr x0)), (1, .inl x1), (2, .inl x2), (4, .inl x4)]) rfl (tm_sbs [0, 1, 2, 4] rfl) ?_
    exact l286_154_t hK8 hr
set_option maxRecDepth 20000 in
def l286_100 (K8 : Option Nat → Int32 → Int32 → Int32 → Int32 → pm_H → tm_L) (x0 : Option Nat) (x1 : Int32) (x2 : Int32) (x3 : Int32) (x4 : Int32) (x5 : Int32) (h : pm_H) : tm_L := (lf_R h x0 [10, 14]).bind fun v1 => (la_I h .iaload v1 x4).bind fun v2 => lb_I (ll_289 v2 h) (fun v3 h4 => if v3 = (0 : Int32) then l286_142 K8 x0 x1 x2 x3 x4 x5 h4 else (lf_R h4 x0 [10, 15]).bind fun v6 => (la_I h4 .iaload v6 x4).bind fun v7 => if lc_of h4 x0 = some 10 then lb_I (ll_290 x0 x1 v7 h4) (fun v9 h10 => if v9 = (0 : Int32) then l286_142 K8 x0 x1 x2 x3 x4 x5 h10 else (lf_R h10 x0 [10, 15]).bind fun v12 => (la_I h10 .iaload v12 x4).bind fun v13 => if lc_of h10 x0 = some 10 then lb_I (ll_291 x0 x1 v13 h10) (fun v15 h16 => l286_142 K8 x0 x1 x2 x3 x4 v15 h16) else none) else none)
set_option maxRecDepth 20000 in
theorem l286_100_t {w : Option Nat} {d : Nat} {K8 : Option Nat → Int32 → Int32 → Int32 → Int32 → pm_H → tm_L} (hK8 : ∀ {x0 : Option Nat} {x1 : Int32} {x2 : Int32} {x3 : Int32} {x4 : Int32}  {h : pm_H} {r : tm_O × pm_H}, K8 x0 x1 x2 x3 x4 h = some r → pm_to pt_P (pt_G (tm_r w)) (d + 4) (pt_g286, []) (tm_m (8, [(0, .inr (.inr x0)), (1, .inl x1), (2, .inl x2), (3, .inl x3), (4, .inl x4)], [])) h (tm_e r)) {x0 : Option Nat} {x1 : Int32} {x2 : Int32} {x3 : Int32} {x4 : Int32} {x5 : Int32} {h : pm_H} {r : tm_O × pm_H} (hr : l286_100 K8 x0 x1 x2 x3 x4 x5 h = some r) : pm_to pt_P (pt_G (tm_r w)) (d + 4) (pt_g286, []) (tm_m (100, [(0, .inr (.inr x0)), (1, .inl x1), (2, .inl x2), (3, .inl x3), (4, .inl x4), (5, .inl x5)], [])) h (tm_e r) := by
  unfold l286_100 at hr
  refine tm_n 1 (F' := (101, [(0, .inr (.inr x0)), (1, .inl x1), (2, .inl x2), (3, .inl x3), (4, .inl x4), (5, .inl x5)], [.inr (.inr x0)])) rfl ?_
  obtain ⟨v1, qv1, hr⟩ := Option.bind_eq_some_iff.mp hr
  refine tm_getf rfl (lf_R_V qv1) ?_
  refine tm_n 1 (F' := (106, [(0, .inr (.inr x0)), (1, .inl x1), (2, .inl x2), (3, .inl x3), (4, .inl x4), (5, .inl x5)], [.inl x4, .inr (.inr v1)])) rfl ?_
  obtain ⟨v2, qv2, hr⟩ := Option.bind_eq_some_iff.mp hr
  refine tm_ald rfl rfl (la_I_V qv2) ?_
  rcases lb_I_s hr with ⟨v3, h4, m5, hr⟩ | ⟨a24, h4, z25, z25l, m5, qz25, rfl⟩
  · try dsimp only at hr
    refine tm_call rfl rfl (tm_callS rfl rfl) (lq_289 m5) ?_
    by_cases c23 : v3 = (0 : Int32)
    · rw [if_pos c23] at hr
      refine tm_ifT rfl c23 ?_
      refine tm_cut (a := [(0, .inr (.inr x0)), (1, .inl x1), (2, .inl x2), (3, .inl x3), (4, .inl x4), (5, .inl x5)]) rfl (tm_sbs [0, 1, 2, 3, 4, 5] rfl) ?_
      exact l286_142_t hK8 hr
    · rw [if_neg c23] at hr
      refine tm_ifF rfl c23 ?_
      refine tm_n 3 (F' := (116, [(0, .inr (.inr x0)), (1, .inl x1), (2, .inl x2), (3, .inl x3), (4, .inl x4), (5, .inl x5)], [.inr (.inr x0), .inl x1, .inr (.inr x0)])) rfl ?_
      obtain ⟨v6, qv6, hr⟩ := Option.bind_eq_some_iff.mp hr
      refine tm_getf rfl (lf_R_V qv6) ?_
      refine tm_n 1 (F' := (121, [(0, .inr (.inr x0)), (1, .inl x1), (2, .inl x2), (3, .inl x3), (4, .inl x4), (5, .inl x5)], [.inl x4, .inr (.inr v6), .inl x1, .inr (.inr x0)])) rfl ?_
      obtain ⟨v7, qv7, hr⟩ := Option.bind_eq_some_iff.mp hr
      refine tm_ald rfl rfl (la_I_V qv7) ?_
      by_cases c8 : lc_of h4 x0 = some 10
      · rw [if_pos c8] at hr
        rcases lb_I_s hr with ⟨v9, h10, m11, hr⟩ | ⟨a21, h10, z22, z22l, m11, qz22, rfl⟩
        · try dsimp only at hr
          refine tm_call rfl rfl (tm_callV rfl rfl c8 rfl rfl) (lq_290 m11) ?_
          by_cases c20 : v9 = (0 : Int32)
          · rw [if_pos c20] at hr
            refine tm_ifT rfl c20 ?_
            refine tm_cut (a := [(0, .inr (.inr x0)), (1, .inl x1), (2, .inl x2), (3, .inl x3), (4, .inl x4), (5, .inl x5)]) rfl (tm_sbs [0, 1, 2, 3, 4, 5] rfl) ?_
            exact l286_142_t hK8 hr
          · rw [if_neg c20] at hr
            refine tm_ifF rfl c20 ?_
            refine tm_n 3 (F' := (131, [(0, .inr (.inr x0)), (1, .inl x1), (2, .inl x2), (3, .inl x3), (4, .inl x4), (5, .inl x5)], [.inr (.inr x0), .inl x1, .inr (.inr x0)])) rfl ?_
            obtain ⟨v12, qv12, hr⟩ := Option.bind_eq_some_iff.mp hr
            refine tm_getf rfl (lf_R_V qv12) ?_
            refine tm_n 1 (F' := (136, [(0, .inr (.inr x0)), (1, .inl x1), (2, .inl x2), (3, .inl x3), (4, .inl x4), (5, .inl x5)], [.inl x4, .inr (.inr v12), .inl x1, .inr (.inr x0)])) rfl ?_
            obtain ⟨v13, qv13, hr⟩ := Option.bind_eq_some_iff.mp hr
            refine tm_ald rfl rfl (la_I_V qv13) ?_
            by_cases c14 : lc_of h10 x0 = some 10
            · rw [if_pos c14] at hr
              rcases lb_I_s hr with ⟨v15, h16, m17, hr⟩ | ⟨a18, h16, z19, z19l, m17, qz19, rfl⟩
              · try dsimp only at hr
                refine tm_call rfl rfl (tm_callV rfl rfl c14 rfl rfl) (lq_291 m17) ?_
                refine tm_n 1 (F' := (142, [(5, .inl v15), (0, .inr (.inr x0)), (1, .inl x1), (2, .inl x2), (3, .inl x3), (4, .inl x4)], [])) rfl ?_
                refine tm_cut (a := [(0, .inr (.inr x0)), (1, .inl x1), (2, .inl x2), (3, .inl x3), (4, .inl x4), (5, .inl v15)]) rfl (tm_sbs [1, 2, 3, 4, 5, 0] rfl) ?_
                exact l286_142_t hK8 hr
              · exact tm_callT rfl rfl (tm_callV rfl rfl c14 rfl rfl) (lq_291 m17) qz19 rfl
            · rw [if_neg c14] at hr
              cases hr
        · exact tm_callT rfl rfl (tm_callV rfl rfl c8 rfl rfl) (lq_290 m11) qz22 rfl
      · rw [if_neg c8] at hr
        cases hr
  · exact tm_callT rfl rfl (tm_callS rfl rfl) (lq_289 m5) qz25 rfl
set_option maxRecDepth 20000 in
def l286_98 (K8 : Option Nat → Int32 → Int32 → Int32 → Int32 → pm_H → tm_L) (x0 : Option Nat) (x1 : Int32) (x2 : Int32) (x3 : Int32) (x4 : Int32) (s0 : Int32) (h : pm_H) : tm_L := l286_100 K8 x0 x1 x2 x3 x4 s0 h
set_option maxRecDepth 20000 in
theorem l286_98_t {w : Option Nat} {d : Nat} {K8 : Option Nat → Int32 → Int32 → Int32 → Int32 → pm_H → tm_L} (hK8 : ∀ {x0 : Option Nat} {x1 : Int32} {x2 : Int32} {x3 : Int32} {x4 : Int32}  {h : pm_H} {r : tm_O × pm_H}, K8 x0 x1 x2 x3 x4 h = some r → pm_to pt_P (pt_G (tm_r w)) (d + 4) (pt_g286, []) (tm_m (8, [(0, .inr (.inr x0)), (1, .inl x1), (2, .inl x2), (3, .inl x3), (4, .inl x4)], [])) h (tm_e r)) {x0 : Option Nat} {x1 : Int32} {x2 : Int32} {x3 : Int32} {x4 : Int32} {s0 : Int32} {h : pm_H} {r : tm_O × pm_H} (hr : l286_98 K8 x0 x1 x2 x3 x4 s0 h = some r) : pm_to pt_P (pt_G (tm_r w)) (d + 4) (pt_g286, []) (tm_m (98, [(0, .inr (.inr x0)), (1, .inl x1), (2, .inl x2), (3, .inl x3), (4, .inl x4)], [.inl s0])) h (tm_e r) := by
  unfold l286_98 at hr
  refine tm_n 1 (F' := (100, [(5, .inl s0), (0, .inr (.inr x0)), (1, .inl x1), (2, .inl x2), (3, .inl x3), (4, .inl x4)], [])) rfl ?_
  refine tm_cut (a := [(0, .inr (.inr x0)), (1, .inl x1), (2, .inl x2), (3, .inl x3), (4, .inl x4), (5, .inl s0)]) rfl (tm_sbs [1, 2, 3, 4, 5, 0] rfl) ?_
  exact l286_100_t hK8 hr
set_option maxRecDepth 20000 in
def l286_8 : Nat → Option Nat → Int32 → Int32 → Int32 → Int32 → pm_H → tm_L
  | 0 => fun _ _ _ _ _ _ => none
  | n + 1 => fun x0 x1 x2 x3 x4 h => (lf_R h x0 [10, 13]).bind fun v1 => (la_I h .iaload v1 x2).bind fun v2 => if (((20 : Int32) * x2) + v2) ≤ x4 then some (.inl (some (.inl (x3 + (1 : Int32)))), h) else (lf_R h x0 [10, 14]).bind fun v3 => (la_I h .iaload v3 x4).bind fun v4 => if v4 = (114 : Int32) then (lf_R h x0 [10, 15]).bind fun v5 => (la_I h .iaload v5 x4).bind fun v6 => if lc_of h x0 = some 10 then lb_I (ll_287 x0 x1 v6 h) (fun v8 h9 => if v8 = (0 : Int32) then l286_100 (l286_8 n) x0 x1 x2 x3 x4 (0 : Int32) h9 else (lf_R h9 x0 [10, 15]).bind fun v11 => (la_I h9 .iaload v11 x4).bind fun v12 => (lf_R h9 x0 [10, 15]).bind fun v13 => (la_I h9 .iaload v13 x4).bind fun v14 => if lc_of h9 x0 = some 10 then lb_I (ll_283 x0 (v12 - v12 / (128 : Int32) * (128 : Int32)) (v14 / (128 : Int32)) h9) (fun v16 h17 => if (0 : Int32) ≤ v16 then (lf_R h17 x0 [10, 36]).bind fun v19 => (la_I h17 .iaload v19 v16).bind fun v20 => l286_98 (l286_8 n) x0 x1 x2 x3 x4 v20 h17 else l286_98 (l286_8 n) x0 x1 x2 x3 x4 (0 : Int32) h17) else none) else none else l286_100 (l286_8 n) x0 x1 x2 x3 x4 (0 : Int32) h
set_option maxRecDepth 20000 in
theorem l286_8_t {w : Option Nat} {d : Nat} : ∀ (n : Nat) {x0 : Option Nat} {x1 : Int32} {x2 : Int32} {x3 : Int32} {x4 : Int32} {h : pm_H} {r : tm_O × pm_H}, l286_8 n x0 x1 x2 x3 x4 h = some r → pm_to pt_P (pt_G (tm_r w)) (d + 4) (pt_g286, []) (tm_m (8, [(0, .inr (.inr x0)), (1, .inl x1), (2, .inl x2), (3, .inl x3), (4, .inl x4)], [])) h (tm_e r) := by
  intro n
  induction n with
  | zero => intro x0 x1 x2 x3 x4 h r hr; cases hr
  | succ n ih =>
    intro x0 x1 x2 x3 x4 h r hr
    unfold l286_8 at hr
    refine tm_n 5 (F' := (15, [(0, .inr (.inr x0)), (1, .inl x1), (2, .inl x2), (3, .inl x3), (4, .inl x4)], [.inr (.inr x0), .inl ((20 : Int32) * x2), .inl x4])) rfl ?_
    obtain ⟨v1, qv1, hr⟩ := Option.bind_eq_some_iff.mp hr
    refine tm_getf rfl (lf_R_V qv1) ?_
    refine tm_n 1 (F' := (19, [(0, .inr (.inr x0)), (1, .inl x1), (2, .inl x2), (3, .inl x3), (4, .inl x4)], [.inl x2, .inr (.inr v1), .inl ((20 : Int32) * x2), .inl x4])) rfl ?_
    obtain ⟨v2, qv2, hr⟩ := Option.bind_eq_some_iff.mp hr
    refine tm_ald rfl rfl (la_I_V qv2) ?_
    refine tm_n 1 (F' := (21, [(0, .inr (.inr x0)), (1, .inl x1), (2, .inl x2), (3, .inl x3), (4, .inl x4)], [.inl (((20 : Int32) * x2) + v2), .inl x4])) rfl ?_
    by_cases c28 : (((20 : Int32) * x2) + v2) ≤ x4
    · rw [if_pos c28] at hr
      refine tm_icT rfl c28 ?_
      refine tm_n 3 (F' := (164, [(0, .inr (.inr x0)), (1, .inl x1), (2, .inl x2), (3, .inl x3), (4, .inl x4)], [.inl (x3 + (1 : Int32))])) rfl ?_
      cases hr
      exact tm_retI rfl rfl
    · rw [if_neg c28] at hr
      refine tm_icF rfl c28 ?_
      refine tm_n 3 (F' := (28, [(5, .inl (0 : Int32)), (0, .inr (.inr x0)), (1, .inl x1), (2, .inl x2), (3, .inl x3), (4, .inl x4)], [.inr (.inr x0)])) rfl ?_
      obtain ⟨v3, qv3, hr⟩ := Option.bind_eq_some_iff.mp hr
      refine tm_getf rfl (lf_R_V qv3) ?_
      refine tm_n 1 (F' := (33, [(5, .inl (0 : Int32)), (0, .inr (.inr x0)), (1, .inl x1), (2, .inl x2), (3, .inl x3), (4, .inl x4)], [.inl x4, .inr (.inr v3)])) rfl ?_
      obtain ⟨v4, qv4, hr⟩ := Option.bind_eq_some_iff.mp hr
      refine tm_ald rfl rfl (la_I_V qv4) ?_
      refine tm_n 1 (F' := (36, [(5, .inl (0 : Int32)), (0, .inr (.inr x0)), (1, .inl x1), (2, .inl x2), (3, .inl x3), (4, .inl x4)], [.inl (114 : Int32), .inl v4])) rfl ?_
      by_cases c27 : v4 = (114 : Int32)
      · rw [if_pos c27] at hr
        refine tm_icF rfl (fun q => q c27) ?_
        refine tm_n 3 (F' := (42, [(5, .inl (0 : Int32)), (0, .inr (.inr x0)), (1, .inl x1), (2, .inl x2), (3, .inl x3), (4, .inl x4)], [.inr (.inr x0), .inl x1, .inr (.inr x0)])) rfl ?_
        obtain ⟨v5, qv5, hr⟩ := Option.bind_eq_some_iff.mp hr
        refine tm_getf rfl (lf_R_V qv5) ?_
        refine tm_n 1 (F' := (47, [(5, .inl (0 : Int32)), (0, .inr (.inr x0)), (1, .inl x1), (2, .inl x2), (3, .inl x3), (4, .inl x4)], [.inl x4, .inr (.inr v5), .inl x1, .inr (.inr x0)])) rfl ?_
        obtain ⟨v6, qv6, hr⟩ := Option.bind_eq_some_iff.mp hr
        refine tm_ald rfl rfl (la_I_V qv6) ?_
        by_cases c7 : lc_of h x0 = some 10
        · rw [if_pos c7] at hr
          rcases lb_I_s hr with ⟨v8, h9, m10, hr⟩ | ⟨a25, h9, z26, z26l, m10, qz26, rfl⟩
          · try dsimp only at hr
            refine tm_call rfl rfl (tm_callV rfl rfl c7 rfl rfl) (lq_287 m10) ?_
            by_cases c24 : v8 = (0 : Int32)
            · rw [if_pos c24] at hr
              refine tm_ifT rfl c24 ?_
              refine tm_cut (a := [(0, .inr (.inr x0)), (1, .inl x1), (2, .inl x2), (3, .inl x3), (4, .inl x4), (5, .inl (0 : Int32))]) rfl (tm_sbs [1, 2, 3, 4, 5, 0] rfl) ?_
              exact l286_100_t (fun hr => ih hr) hr
            · rw [if_neg c24] at hr
              refine tm_ifF rfl c24 ?_
              refine tm_n 2 (F' := (56, [(5, .inl (0 : Int32)), (0, .inr (.inr x0)), (1, .inl x1), (2, .inl x2), (3, .inl x3), (4, .inl x4)], [.inr (.inr x0), .inr (.inr x0)])) rfl ?_
              obtain ⟨v11, qv11, hr⟩ := Option.bind_eq_some_iff.mp hr
              refine tm_getf rfl (lf_R_V qv11) ?_
              refine tm_n 1 (F' := (61, [(5, .inl (0 : Int32)), (0, .inr (.inr x0)), (1, .inl x1), (2, .inl x2), (3, .inl x3), (4, .inl x4)], [.inl x4, .inr (.inr v11), .inr (.inr x0)])) rfl ?_
              obtain ⟨v12, qv12, hr⟩ := Option.bind_eq_some_iff.mp hr
              refine tm_ald rfl rfl (la_I_V qv12) ?_
              refine tm_n 3 (F' := (67, [(5, .inl (0 : Int32)), (0, .inr (.inr x0)), (1, .inl x1), (2, .inl x2), (3, .inl x3), (4, .inl x4)], [.inr (.inr x0), .inl (v12 - v12 / (128 : Int32) * (128 : Int32)), .inr (.inr x0)])) rfl ?_
              obtain ⟨v13, qv13, hr⟩ := Option.bind_eq_some_iff.mp hr
              refine tm_getf rfl (lf_R_V qv13) ?_
              refine tm_n 1 (F' := (72, [(5, .inl (0 : Int32)), (0, .inr (.inr x0)), (1, .inl x1), (2, .inl x2), (3, .inl x3), (4, .inl x4)], [.inl x4, .inr (.inr v13), .inl (v12 - v12 / (128 : Int32) * (128 : Int32)), .inr (.inr x0)])) rfl ?_
              obtain ⟨v14, qv14, hr⟩ := Option.bind_eq_some_iff.mp hr
              refine tm_ald rfl rfl (la_I_V qv14) ?_
              refine tm_n 2 (F' := (77, [(5, .inl (0 : Int32)), (0, .inr (.inr x0)), (1, .inl x1), (2, .inl x2), (3, .inl x3), (4, .inl x4)], [.inl (v14 / (128 : Int32)), .inl (v12 - v12 / (128 : Int32) * (128 : Int32)), .inr (.inr x0)])) rfl ?_
              by_cases c15 : lc_of h9 x0 = some 10
              · rw [if_pos c15] at hr
                rcases lb_I_s hr with ⟨v16, h17, m18, hr⟩ | ⟨a22, h17, z23, z23l, m18, qz23, rfl⟩
                · try dsimp only at hr
                  refine tm_call rfl rfl (tm_callV rfl rfl c15 rfl rfl) (lq_283 m18) ?_
                  refine tm_n 2 (F' := (84, [(6, .inl v16), (5, .inl (0 : Int32)), (0, .inr (.inr x0)), (1, .inl x1), (2, .inl x2), (3, .inl x3), (4, .inl x4)], [.inl v16])) rfl ?_
                  by_cases c21 : (0 : Int32) ≤ v16
                  · rw [if_pos c21] at hr
                    refine tm_ifT rfl c21 ?_
                    refine tm_n 1 (F' := (92, [(6, .inl v16), (5, .inl (0 : Int32)), (0, .inr (.inr x0)), (1, .inl x1), (2, .inl x2), (3, .inl x3), (4, .inl x4)], [.inr (.inr x0)])) rfl ?_
                    obtain ⟨v19, qv19, hr⟩ := Option.bind_eq_some_iff.mp hr
                    refine tm_getf rfl (lf_R_V qv19) ?_
                    refine tm_n 1 (F' := (97, [(6, .inl v16), (5, .inl (0 : Int32)), (0, .inr (.inr x0)), (1, .inl x1), (2, .inl x2), (3, .inl x3), (4, .inl x4)], [.inl v16, .inr (.inr v19)])) rfl ?_
                    obtain ⟨v20, qv20, hr⟩ := Option.bind_eq_some_iff.mp hr
                    refine tm_ald rfl rfl (la_I_V qv20) ?_
                    refine tm_cut (a := [(0, .inr (.inr x0)), (1, .inl x1), (2, .inl x2), (3, .inl x3), (4, .inl x4)]) rfl (tm_sbs [2, 3, 4, 5, 6] rfl) ?_
                    exact l286_98_t (fun hr => ih hr) hr
                  · rw [if_neg c21] at hr
                    refine tm_ifF rfl c21 ?_
                    refine tm_n 2 (F' := (98, [(6, .inl v16), (5, .inl (0 : Int32)), (0, .inr (.inr x0)), (1, .inl x1), (2, .inl x2), (3, .inl x3), (4, .inl x4)], [.inl (0 : Int32)])) rfl ?_
                    refine tm_cut (a := [(0, .inr (.inr x0)), (1, .inl x1), (2, .inl x2), (3, .inl x3), (4, .inl x4)]) rfl (tm_sbs [2, 3, 4, 5, 6] rfl) ?_
                    exact l286_98_t (fun hr => ih hr) hr
                · exact tm_callT rfl rfl (tm_callV rfl rfl c15 rfl rfl) (lq_283 m18) qz23 rfl
              · rw [if_neg c15] at hr
                cases hr
          · exact tm_callT rfl rfl (tm_callV rfl rfl c7 rfl rfl) (lq_287 m10) qz26 rfl
        · rw [if_neg c7] at hr
          cases hr
      · rw [if_neg c27] at hr
        refine tm_icT rfl c27 ?_
        refine tm_cut (a := [(0, .inr (.inr x0)), (1, .inl x1), (2, .inl x2), (3, .inl x3), (4, .inl x4), (5, .inl (0 : Int32))]) rfl (tm_sbs [1, 2, 3, 4, 5, 0] rfl) ?_
        exact l286_100_t (fun hr => ih hr) hr
set_option maxRecDepth 20000 in
def ll_286 (a0 : Option Nat) (a1 : Int32) (a2 : Int32) (h : pm_H) : tm_L := l286_8 lf_N a0 a1 a2 (0 : Int32) ((20 : Int32) * a2) h
set_option maxRecDepth 20000 in
theorem lq_286 {w : Option Nat} {d : Nat} {a0 : Option Nat} {a1 : Int32} {a2 : Int32} {h : pm_H} {r : tm_O × pm_H} (hr : ll_286 a0 a1 a2 h = some r) : tm_run pt_P (pt_G (tm_r w)) (d + 4) 286 [.inr (.inr a0), .inl a1, .inl a2] h r := by
  unfold ll_286 at hr
  show pm_to pt_P (pt_G (tm_r w)) (d + 4) (pt_g286, []) (tm_m (0, [(0, .inr (.inr a0)), (1, .inl a1), (2, .inl a2)], [])) h (tm_e r)
  refine tm_n 6 (F' := (8, [(4, .inl ((20 : Int32) * a2)), (3, .inl (0 : Int32)), (0, .inr (.inr a0)), (1, .inl a1), (2, .inl a2)], [])) rfl ?_
  refine tm_cut (a := [(0, .inr (.inr a0)), (1, .inl a1), (2, .inl a2), (3, .inl (0 : Int32)), (4, .inl ((20 : Int32) * a2))]) rfl (tm_sbs [2, 3, 4, 1, 0] rfl) ?_
  exact l286_8_t lf_N hr
-- OfficeSheetModel.findLevels(I)V
set_option maxRecDepth 20000 in
def l284_111 (K4 : Option Nat → Int32 → Int32 → Int32 → pm_H → tm_L) (K21 : Option Nat → Int32 → Int32 → Int32 → Int32 → pm_H → tm_L) (x0 : Option Nat) (x1 : Int32) (x2 : Int32) (x3 : Int32) (x4 : Int32) (h : pm_H) : tm_L := K21 x0 x1 x2 x3 (x4 + (1 : Int32)) h
set_option maxRecDepth 20000 in
theorem l284_111_t {w : Option Nat} {d : Nat} {K4 : Option Nat → Int32 → Int32 → Int32 → pm_H → tm_L} {K21 : Option Nat → Int32 → Int32 → Int32 → Int32 → pm_H → tm_L} (hK4 : ∀ {x0 : Option Nat} {x1 : Int32} {x2 : Int32} {x3 : Int32}  {h : pm_H} {r : tm_O × pm_H}, K4 x0 x1 x2 x3 h = some r → pm_to pt_P (pt_G (tm_r w)) (d + 5) (pt_g284, []) (tm_m (4, [(0, .inr (.inr x0)), (1, .inl x1), (2, .inl x2), (3, .inl x3)], [])) h (tm_e r)) (hK21 : ∀ {x0 : Option Nat} {x1 : Int32} {x2 : Int32} {x3 : Int32} {x4 : Int32}  {h : pm_H} {r : tm_O × pm_H}, K21 x0 x1 x2 x3 x4 h = some r → pm_to pt_P (pt_G (tm_r w)) (d + 5) (pt_g284, []) (tm_m (21, [(0, .inr (.inr x0)), (1, .inl x1), (2, .inl x2), (3, .inl x3), (4, .inl x4)], [])) h (tm_e r)) {x0 : Option Nat} {x1 : Int32} {x2 : Int32} {x3 : Int32} {x4 : Int32} {h : pm_H} {r : tm_O × pm_H} (hr : l284_111 K4 K21 x0 x1 x2 x3 x4 h = some r) : pm_to pt_P (pt_G (tm_r w)) (d + 5) (pt_g284, []) (tm_m (111, [(0, .inr (.inr x0)), (1, .inl x1), (2, .inl x2), (3, .inl x3), (4, .inl x4)], [])) h (tm_e r) := by
  unfold l284_111 at hr
  refine tm_n 2 (F' := (21, [(4, .inl (x4 + (1 : Int32))), (0, .inr (.inr x0)), (1, .inl x1), (2, .inl x2), (3, .inl x3)], [])) rfl ?_
  refine tm_cut (a := [(0, .inr (.inr x0)), (1, .inl x1), (2, .inl x2), (3, .inl x3), (4, .inl (x4 + (1 : Int32)))]) rfl (tm_sbs [1, 2, 3, 4, 0] rfl) ?_
  exact hK21 hr
set_option maxRecDepth 20000 in
def l284_101 (K4 : Option Nat → Int32 → Int32 → Int32 → pm_H → tm_L) (K21 : Option Nat → Int32 → Int32 → Int32 → Int32 → pm_H → tm_L) (x0 : Option Nat) (x1 : Int32) (x3 : Int32) (x4 : Int32) (x5 : Int32) (s0 : Int32) (h : pm_H) : tm_L := (lf_R h x0 [10, 36]).bind fun v1 => (la_S pt_P h .iastore v1 x4 (.inl x5)).bind fun h2 => l284_111 K4 K21 x0 x1 s0 x3 x4 h2
set_option maxRecDepth 20000 in
theorem l284_101_t {w : Option Nat} {d : Nat} {K4 : Option Nat → Int32 → Int32 → Int32 → pm_H → tm_L} {K21 : Option Nat → Int32 → Int32 → Int32 → Int32 → pm_H → tm_L} (hK4 : ∀ {x0 : Option Nat} {x1 : Int32} {x2 : Int32} {x3 : Int32}  {h : pm_H} {r : tm_O × pm_H}, K4 x0 x1 x2 x3 h = some r → pm_to pt_P (pt_G (tm_r w)) (d + 5) (pt_g284, []) (tm_m (4, [(0, .inr (.inr x0)), (1, .inl x1), (2, .inl x2), (3, .inl x3)], [])) h (tm_e r)) (hK21 : ∀ {x0 : Option Nat} {x1 : Int32} {x2 : Int32} {x3 : Int32} {x4 : Int32}  {h : pm_H} {r : tm_O × pm_H}, K21 x0 x1 x2 x3 x4 h = some r → pm_to pt_P (pt_G (tm_r w)) (d + 5) (pt_g284, []) (tm_m (21, [(0, .inr (.inr x0)), (1, .inl x1), (2, .inl x2), (3, .inl x3), (4, .inl x4)], [])) h (tm_e r)) {x0 : Option Nat} {x1 : Int32} {x3 : Int32} {x4 : Int32} {x5 : Int32} {s0 : Int32} {h : pm_H} {r : tm_O × pm_H} (hr : l284_101 K4 K21 x0 x1 x3 x4 x5 s0 h = some r) : pm_to pt_P (pt_G (tm_r w)) (d + 5) (pt_g284, []) (tm_m (101, [(0, .inr (.inr x0)), (1, .inl x1), (3, .inl x3), (4, .inl x4), (5, .inl x5)], [.inl s0])) h (tm_e r) := by
  unfold l284_101 at hr
  refine tm_n 2 (F' := (103, [(2, .inl s0), (0, .inr (.inr x0)), (1, .inl x1), (3, .inl x3), (4, .inl x4), (5, .inl x5)], [.inr (.inr x0)])) rfl ?_
  obtain ⟨v1, qv1, hr⟩ := Option.bind_eq_some_iff.mp hr
  refine tm_getf rfl (lf_R_V qv1) ?_
  refine tm_n 2 (F' := (110, [(2, .inl s0), (0, .inr (.inr x0)), (1, .inl x1), (3, .inl x3), (4, .inl x4), (5, .inl x5)], [.inl x5, .inl x4, .inr (.inr v1)])) rfl ?_
  obtain ⟨h2, qh2, hr⟩ := Option.bind_eq_some_iff.mp hr
  refine tm_ast rfl rfl qh2 ?_
  refine tm_cut (a := [(0, .inr (.inr x0)), (1, .inl x1), (2, .inl s0), (3, .inl x3), (4, .inl x4)]) rfl (tm_sbs [1, 2, 0, 3, 4] rfl) ?_
  exact l284_111_t hK4 hK21 hr
set_option maxRecDepth 20000 in
def l284_96 (K4 : Option Nat → Int32 → Int32 → Int32 → pm_H → tm_L) (K21 : Option Nat → Int32 → Int32 → Int32 → Int32 → pm_H → tm_L) (x0 : Option Nat) (x1 : Int32) (x3 : Int32) (x4 : Int32) (x5 : Int32) (h : pm_H) : tm_L := l284_101 K4 K21 x0 x1 x3 x4 x5 (1 : Int32) h
set_option maxRecDepth 20000 in
theorem l284_96_t {w : Option Nat} {d : Nat} {K4 : Option Nat → Int32 → Int32 → Int32 → pm_H → tm_L} {K21 : Option Nat → Int32 → Int32 → Int32 → Int32 → pm_H → tm_L} (hK4 : ∀ {x0 : Option Nat} {x1 : Int32} {x2 : Int32} {x3 : Int32}  {h : pm_H} {r : tm_O × pm_H}, K4 x0 x1 x2 x3 h = some r → pm_to pt_P (pt_G (tm_r w)) (d + 5) (pt_g284, []) (tm_m (4, [(0, .inr (.inr x0)), (1, .inl x1), (2, .inl x2), (3, .inl x3)], [])) h (tm_e r)) (hK21 : ∀ {x0 : Option Nat} {x1 : Int32} {x2 : Int32} {x3 : Int32} {x4 : Int32}  {h : pm_H} {r : tm_O × pm_H}, K21 x0 x1 x2 x3 x4 h = some r → pm_to pt_P (pt_G (tm_r w)) (d + 5) (pt_g284, []) (tm_m (21, [(0, .inr (.inr x0)), (1, .inl x1), (2, .inl x2), (3, .inl x3), (4, .inl x4)], [])) h (tm_e r)) {x0 : Option Nat} {x1 : Int32} {x3 : Int32} {x4 : Int32} {x5 : Int32} {h : pm_H} {r : tm_O × pm_H} (hr : l284_96 K4 K21 x0 x1 x3 x4 x5 h = some r) : pm_to pt_P (pt_G (tm_r w)) (d + 5) (pt_g284, []) (tm_m (96, [(0, .inr (.inr x0)), (1, .inl x1), (3, .inl x3), (4, .inl x4), (5, .inl x5)], [])) h (tm_e r) := by
  unfold l284_96 at hr
  refine tm_n 2 (F' := (101, [(0, .inr (.inr x0)), (1, .inl x1), (3, .inl x3), (4, .inl x4), (5, .inl x5)], [.inl (1 : Int32)])) rfl ?_
  refine tm_cut (a := [(0, .inr (.inr x0)), (1, .inl x1), (3, .inl x3), (4, .inl x4), (5, .inl x5)]) rfl (tm_sbs [0, 1, 2, 3, 4] rfl) ?_
  exact l284_101_t hK4 hK21 hr
set_option maxRecDepth 20000 in
def l284_21 (K4 : Option Nat → Int32 → Int32 → Int32 → pm_H → tm_L) : Nat → Option Nat → Int32 → Int32 → Int32 → Int32 → pm_H → tm_L
  | 0 => fun _ _ _ _ _ _ => none
  | n + 1 => fun x0 x1 x2 x3 x4 h => (lf_I h x0 [10, 32]).bind fun v1 => if v1 ≤ x4 then K4 x0 x1 x2 (x3 + (1 : Int32)) h else if lc_of h x0 = some 10 then lb_I (ll_285 x0 x4 h) (fun v3 h4 => if v3 < (0 : Int32) then l284_111 K4 (l284_21 K4 n) x0 x1 x2 x3 x4 h4 else (lf_R h4 x0 [10, 12]).bind fun v6 => if lc_of h4 x0 = some 10 then lb_I (ll_285 x0 x4 h4) (fun v8 h9 => (la_I h9 .baload v6 v8).bind fun v11 => if v11 = (0 : Int32) then l284_111 K4 (l284_21 K4 n) x0 x1 x2 x3 x4 h9 else (lf_R h9 x0 [10, 36]).bind fun v12 => (la_I h9 .iaload v12 x4).bind fun v13 => (lf_I h9 x0 [10, 32]).bind fun v14 => if v14 < v13 then l284_111 K4 (l284_21 K4 n) x0 x1 x2 x3 x4 h9 else if lc_of h9 x0 = some 10 then lb_I (ll_285 x0 x4 h9) (fun v16 h17 => if lc_of h17 x0 = some 10 then lb_I (ll_286 x0 x1 v16 h17) (fun v20 h21 => if x2 = (0 : Int32) then (lf_R h21 x0 [10, 36]).bind fun v23 => (la_I h21 .iaload v23 x4).bind fun v24 => if v20 = v24 then l284_101 K4 (l284_21 K4 n) x0 x1 x3 x4 v20 (0 : Int32) h21 else l284_96 K4 (l284_21 K4 n) x0 x1 x3 x4 v20 h21 else l284_96 K4 (l284_21 K4 n) x0 x1 x3 x4 v20 h21) else none) else none) else none) else none
set_option maxRecDepth 20000 in
theorem l284_21_t {w : Option Nat} {d : Nat} {K4 : Option Nat → Int32 → Int32 → Int32 → pm_H → tm_L} (hK4 : ∀ {x0 : Option Nat} {x1 : Int32} {x2 : Int32} {x3 : Int32}  {h : pm_H} {r : tm_O × pm_H}, K4 x0 x1 x2 x3 h = some r → pm_to pt_P (pt_G (tm_r w)) (d + 5) (pt_g284, []) (tm_m (4, [(0, .inr (.inr x0)), (1, .inl x1), (2, .inl x2), (3, .inl x3)], [])) h (tm_e r)) : ∀ (n : Nat) {x0 : Option Nat} {x1 : Int32} {x2 : Int32} {x3 : Int32} {x4 : Int32} {h : pm_H} {r : tm_O × pm_H}, l284_21 K4 n x0 x1 x2 x3 x4 h = some r → pm_to pt_P (pt_G (tm_r w)) (d + 5) (pt_g284, []) (tm_m (21, [(0, .inr (.inr x0)), (1, .inl x1), (2, .inl x2), (3, .inl x3), (4, .inl x4)], [])) h (tm_e r) := by
  intro n
  induction n with
  | zero => intro x0 x1 x2 x3 x4 h r hr; cases hr
  | succ n ih =>
    intro x0 x1 x2 x3 x4 h r hr
    unfold l284_21 at hr
    refine tm_n 2 (F' := (24, [(0, .inr (.inr x0)), (1, .inl x1), (2, .inl x2), (3, .inl x3), (4, .inl x4)], [.inr (.inr x0), .inl x4])) rfl ?_
    obtain ⟨v1, qv1, hr⟩ := Option.bind_eq_some_iff.mp hr
    refine tm_getf rfl (lf_I_V qv1) ?_
    by_cases c38 : v1 ≤ x4
    · rw [if_pos c38] at hr
      refine tm_icT rfl c38 ?_
      refine tm_n 2 (F' := (4, [(3, .inl (x3 + (1 : Int32))), (0, .inr (.inr x0)), (1, .inl x1), (2, .inl x2), (4, .inl x4)], [])) rfl ?_
      refine tm_cut (a := [(0, .inr (.inr x0)), (1, .inl x1), (2, .inl x2), (3, .inl (x3 + (1 : Int32)))]) rfl (tm_sbs [1, 2, 3, 0] rfl) ?_
      exact hK4 hr
    · rw [if_neg c38] at hr
      refine tm_icF rfl c38 ?_
      refine tm_n 2 (F' := (33, [(0, .inr (.inr x0)), (1, .inl x1), (2, .inl x2), (3, .inl x3), (4, .inl x4)], [.inl x4, .inr (.inr x0)])) rfl ?_
      by_cases c2 : lc_of h x0 = some 10
      · rw [if_pos c2] at hr
        rcases lb_I_s hr with ⟨v3, h4, m5, hr⟩ | ⟨a36, h4, z37, z37l, m5, qz37, rfl⟩
        · try dsimp only at hr
          refine tm_call rfl rfl (tm_callV rfl rfl c2 rfl rfl) (lq_285 m5) ?_
          by_cases c35 : v3 < (0 : Int32)
          · rw [if_pos c35] at hr
            refine tm_ifT rfl c35 ?_
            refine tm_cut (a := [(0, .inr (.inr x0)), (1, .inl x1), (2, .inl x2), (3, .inl x3), (4, .inl x4)]) rfl (tm_sbs [0, 1, 2, 3, 4] rfl) ?_
            exact l284_111_t hK4 (fun hr => ih hr) hr
          · rw [if_neg c35] at hr
            refine tm_ifF rfl c35 ?_
            refine tm_n 1 (F' := (40, [(0, .inr (.inr x0)), (1, .inl x1), (2, .inl x2), (3, .inl x3), (4, .inl x4)], [.inr (.inr x0)])) rfl ?_
            obtain ⟨v6, qv6, hr⟩ := Option.bind_eq_some_iff.mp hr
            refine tm_getf rfl (lf_R_V qv6) ?_
            refine tm_n 2 (F' := (46, [(0, .inr (.inr x0)), (1, .inl x1), (2, .inl x2), (3, .inl x3), (4, .inl x4)], [.inl x4, .inr (.inr x0), .inr (.inr v6)])) rfl ?_
            by_cases c7 : lc_of h4 x0 = some 10
            · rw [if_pos c7] at hr
              rcases lb_I_s hr with ⟨v8, h9, m10, hr⟩ | ⟨a33, h9, z34, z34l, m10, qz34, rfl⟩
              · try dsimp only at hr
                refine tm_call rfl rfl (tm_callV rfl rfl c7 rfl rfl) (lq_285 m10) ?_
                obtain ⟨v11, qv11, hr⟩ := Option.bind_eq_some_iff.mp hr
                refine tm_ald rfl rfl (la_I_V qv11) ?_
                by_cases c32 : v11 = (0 : Int32)
                · rw [if_pos c32] at hr
                  refine tm_ifT rfl c32 ?_
                  refine tm_cut (a := [(0, .inr (.inr x0)), (1, .inl x1), (2, .inl x2), (3, .inl x3), (4, .inl x4)]) rfl (tm_sbs [0, 1, 2, 3, 4] rfl) ?_
                  exact l284_111_t hK4 (fun hr => ih hr) hr
                · rw [if_neg c32] at hr
                  refine tm_ifF rfl c32 ?_
                  refine tm_n 1 (F' := (54, [(0, .inr (.inr x0)), (1, .inl x1), (2, .inl x2), (3, .inl x3), (4, .inl x4)], [.inr (.inr x0)])) rfl ?_
                  obtain ⟨v12, qv12, hr⟩ := Option.bind_eq_some_iff.mp hr
                  refine tm_getf rfl (lf_R_V qv12) ?_
                  refine tm_n 1 (F' := (59, [(0, .inr (.inr x0)), (1, .inl x1), (2, .inl x2), (3, .inl x3), (4, .inl x4)], [.inl x4, .inr (.inr v12)])) rfl ?_
                  obtain ⟨v13, qv13, hr⟩ := Option.bind_eq_some_iff.mp hr
                  refine tm_ald rfl rfl (la_I_V qv13) ?_
                  refine tm_n 1 (F' := (61, [(0, .inr (.inr x0)), (1, .inl x1), (2, .inl x2), (3, .inl x3), (4, .inl x4)], [.inr (.inr x0), .inl v13])) rfl ?_
                  obtain ⟨v14, qv14, hr⟩ := Option.bind_eq_some_iff.mp hr
                  refine tm_getf rfl (lf_I_V qv14) ?_
                  by_cases c31 : v14 < v13
                  · rw [if_pos c31] at hr
                    refine tm_icT rfl c31 ?_
                    refine tm_cut (a := [(0, .inr (.inr x0)), (1, .inl x1), (2, .inl x2), (3, .inl x3), (4, .inl x4)]) rfl (tm_sbs [0, 1, 2, 3, 4] rfl) ?_
                    exact l284_111_t hK4 (fun hr => ih hr) hr
                  · rw [if_neg c31] at hr
                    refine tm_icF rfl c31 ?_
                    refine tm_n 4 (F' := (72, [(0, .inr (.inr x0)), (1, .inl x1), (2, .inl x2), (3, .inl x3), (4, .inl x4)], [.inl x4, .inr (.inr x0), .inl x1, .inr (.inr x0)])) rfl ?_
                    by_cases c15 : lc_of h9 x0 = some 10
                    · rw [if_pos c15] at hr
                      rcases lb_I_s hr with ⟨v16, h17, m18, hr⟩ | ⟨a29, h17, z30, z30l, m18, qz30, rfl⟩
                      · try dsimp only at hr
                        refine tm_call rfl rfl (tm_callV rfl rfl c15 rfl rfl) (lq_285 m18) ?_
                        by_cases c19 : lc_of h17 x0 = some 10
                        · rw [if_pos c19] at hr
                          rcases lb_I_s hr with ⟨v20, h21, m22, hr⟩ | ⟨a27, h21, z28, z28l, m22, qz28, rfl⟩
                          · try dsimp only at hr
                            refine tm_call rfl rfl (tm_callV rfl rfl c19 rfl rfl) (lq_286 m22) ?_
                            refine tm_n 2 (F' := (81, [(5, .inl v20), (0, .inr (.inr x0)), (1, .inl x1), (2, .inl x2), (3, .inl x3), (4, .inl x4)], [.inl x2])) rfl ?_
                            by_cases c26 : x2 = (0 : Int32)
                            · rw [if_pos c26] at hr
                              refine tm_ifF rfl (fun q => q c26) ?_
                              refine tm_n 2 (F' := (87, [(5, .inl v20), (0, .inr (.inr x0)), (1, .inl x1), (2, .inl x2), (3, .inl x3), (4, .inl x4)], [.inr (.inr x0), .inl v20])) rfl ?_
                              obtain ⟨v23, qv23, hr⟩ := Option.bind_eq_some_iff.mp hr
                              refine tm_getf rfl (lf_R_V qv23) ?_
                              refine tm_n 1 (F' := (92, [(5, .inl v20), (0, .inr (.inr x0)), (1, .inl x1), (2, .inl x2), (3, .inl x3), (4, .inl x4)], [.inl x4, .inr (.inr v23), .inl v20])) rfl ?_
                              obtain ⟨v24, qv24, hr⟩ := Option.bind_eq_some_iff.mp hr
                              refine tm_ald rfl rfl (la_I_V qv24) ?_
                              by_cases c25 : v20 = v24
                              · rw [if_pos c25] at hr
                                refine tm_icT rfl c25 ?_
                                refine tm_n 1 (F' := (101, [(5, .inl v20), (0, .inr (.inr x0)), (1, .inl x1), (2, .inl x2), (3, .inl x3), (4, .inl x4)], [.inl (0 : Int32)])) rfl ?_
                                refine tm_cut (a := [(0, .inr (.inr x0)), (1, .inl x1), (3, .inl x3), (4, .inl x4), (5, .inl v20)]) rfl (tm_sbs [1, 2, 4, 5, 0] rfl) ?_
                                exact l284_101_t hK4 (fun hr => ih hr) hr
                              · rw [if_neg c25] at hr
                                refine tm_icF rfl c25 ?_
                                refine tm_cut (a := [(0, .inr (.inr x0)), (1, .inl x1), (3, .inl x3), (4, .inl x4), (5, .inl v20)]) rfl (tm_sbs [1, 2, 4, 5, 0] rfl) ?_
                                exact l284_96_t hK4 (fun hr => ih hr) hr
                            · rw [if_neg c26] at hr
                              refine tm_ifT rfl c26 ?_
                              refine tm_cut (a := [(0, .inr (.inr x0)), (1, .inl x1), (3, .inl x3), (4, .inl x4), (5, .inl v20)]) rfl (tm_sbs [1, 2, 4, 5, 0] rfl) ?_
                              exact l284_96_t hK4 (fun hr => ih hr) hr
                          · exact tm_callT rfl rfl (tm_callV rfl rfl c19 rfl rfl) (lq_286 m22) qz28 rfl
                        · rw [if_neg c19] at hr
                          cases hr
                      · exact tm_callT rfl rfl (tm_callV rfl rfl c15 rfl rfl) (lq_285 m18) qz30 rfl
                    · rw [if_neg c15] at hr
                      cases hr
              · exact tm_callT rfl rfl (tm_callV rfl rfl c7 rfl rfl) (lq_285 m10) qz34 rfl
            · rw [if_neg c7] at hr
              cases hr
        · exact tm_callT rfl rfl (tm_callV rfl rfl c2 rfl rfl) (lq_285 m5) qz37 rfl
      · rw [if_neg c2] at hr
        cases hr
set_option maxRecDepth 20000 in
def l284_4 : Nat → Option Nat → Int32 → Int32 → Int32 → pm_H → tm_L
  | 0 => fun _ _ _ _ _ => none
  | n + 1 => fun x0 x1 x2 x3 h => (lf_I h x0 [10, 32]).bind fun v1 => if v1 < x3 then some (.inl none, h) else if x2 = (0 : Int32) then some (.inl none, h) else l284_21 (l284_4 n) lf_N x0 x1 (0 : Int32) x3 (0 : Int32) h
set_option maxRecDepth 20000 in
theorem l284_4_t {w : Option Nat} {d : Nat} : ∀ (n : Nat) {x0 : Option Nat} {x1 : Int32} {x2 : Int32} {x3 : Int32} {h : pm_H} {r : tm_O × pm_H}, l284_4 n x0 x1 x2 x3 h = some r → pm_to pt_P (pt_G (tm_r w)) (d + 5) (pt_g284, []) (tm_m (4, [(0, .inr (.inr x0)), (1, .inl x1), (2, .inl x2), (3, .inl x3)], [])) h (tm_e r) := by
  intro n
  induction n with
  | zero => intro x0 x1 x2 x3 h r hr; cases hr
  | succ n ih =>
    intro x0 x1 x2 x3 h r hr
    unfold l284_4 at hr
    refine tm_n 2 (F' := (6, [(0, .inr (.inr x0)), (1, .inl x1), (2, .inl x2), (3, .inl x3)], [.inr (.inr x0), .inl x3])) rfl ?_
    obtain ⟨v1, qv1, hr⟩ := Option.bind_eq_some_iff.mp hr
    refine tm_getf rfl (lf_I_V qv1) ?_
    by_cases c3 : v1 < x3
    · rw [if_pos c3] at hr
      refine tm_icT rfl c3 ?_
      cases hr
      exact tm_retV rfl
    · rw [if_neg c3] at hr
      refine tm_icF rfl c3 ?_
      refine tm_n 1 (F' := (13, [(0, .inr (.inr x0)), (1, .inl x1), (2, .inl x2), (3, .inl x3)], [.inl x2])) rfl ?_
      by_cases c2 : x2 = (0 : Int32)
      · rw [if_pos c2] at hr
        refine tm_ifT rfl c2 ?_
        cases hr
        exact tm_retV rfl
      · rw [if_neg c2] at hr
        refine tm_ifF rfl c2 ?_
        refine tm_n 4 (F' := (21, [(4, .inl (0 : Int32)), (2, .inl (0 : Int32)), (0, .inr (.inr x0)), (1, .inl x1), (3, .inl x3)], [])) rfl ?_
        refine tm_cut (a := [(0, .inr (.inr x0)), (1, .inl x1), (2, .inl (0 : Int32)), (3, .inl x3), (4, .inl (0 : Int32))]) rfl (tm_sbs [2, 3, 1, 4, 0] rfl) ?_
        exact l284_21_t (fun hr => ih hr) lf_N hr
set_option maxRecDepth 20000 in
def ll_284 (a0 : Option Nat) (a1 : Int32) (h : pm_H) : tm_L := l284_4 lf_N a0 a1 (1 : Int32) (0 : Int32) h
set_option maxRecDepth 20000 in
theorem lq_284 {w : Option Nat} {d : Nat} {a0 : Option Nat} {a1 : Int32} {h : pm_H} {r : tm_O × pm_H} (hr : ll_284 a0 a1 h = some r) : tm_run pt_P (pt_G (tm_r w)) (d + 5) 284 [.inr (.inr a0), .inl a1] h r := by
  unfold ll_284 at hr
  show pm_to pt_P (pt_G (tm_r w)) (d + 5) (pt_g284, []) (tm_m (0, [(0, .inr (.inr a0)), (1, .inl a1)], [])) h (tm_e r)
  refine tm_n 4 (F' := (4, [(3, .inl (0 : Int32)), (2, .inl (1 : Int32)), (0, .inr (.inr a0)), (1, .inl a1)], [])) rfl ?_
  refine tm_cut (a := [(0, .inr (.inr a0)), (1, .inl a1), (2, .inl (1 : Int32)), (3, .inl (0 : Int32))]) rfl (tm_sbs [2, 3, 1, 0] rfl) ?_
  exact l284_4_t lf_N hr
-- OfficeSheetModel.isBeyond(J)Z
set_option maxRecDepth 20000 in
def ll_295 (a0 : Int64) (h : pm_H) : tm_L := if (0 : Int32) < (lg_cmp a0 (1000000000 : Int64)) then some (.inl (some (.inl (1 : Int32))), h) else if (0 : Int32) ≤ (lg_cmp a0 (-1000000000 : Int64)) then some (.inl (some (.inl (0 : Int32))), h) else some (.inl (some (.inl (1 : Int32))), h)
set_option maxRecDepth 20000 in
theorem lq_295 {w : Option Nat} {d : Nat} {a0 : Int64} {h : pm_H} {r : tm_O × pm_H} (hr : ll_295 a0 h = some r) : tm_run pt_P (pt_G (tm_r w)) (d + 0) 295 [.inr (.inl a0)] h r := by
  unfold ll_295 at hr
  show pm_to pt_P (pt_G (tm_r w)) (d + 0) (pt_g295, []) (tm_m (0, [(0, .inr (.inl a0))], [])) h (tm_e r)
  refine tm_n 3 (F' := (5, [(0, .inr (.inl a0))], [.inl (lg_cmp a0 (1000000000 : Int64))])) rfl ?_
  by_cases c2 : (0 : Int32) < (lg_cmp a0 (1000000000 : Int64))
  · rw [if_pos c2] at hr
    refine tm_ifT rfl c2 ?_
    refine tm_n 2 (F' := (21, [(0, .inr (.inl a0))], [.inl (1 : Int32)])) rfl ?_
    cases hr
    exact tm_retI rfl rfl
  · rw [if_neg c2] at hr
    refine tm_ifF rfl c2 ?_
    refine tm_n 3 (F' := (13, [(0, .inr (.inl a0))], [.inl (lg_cmp a0 (-1000000000 : Int64))])) rfl ?_
    by_cases c1 : (0 : Int32) ≤ (lg_cmp a0 (-1000000000 : Int64))
    · rw [if_pos c1] at hr
      refine tm_ifT rfl c1 ?_
      refine tm_n 1 (F' := (21, [(0, .inr (.inl a0))], [.inl (0 : Int32)])) rfl ?_
      cases hr
      exact tm_retI rfl rfl
    · rw [if_neg c1] at hr
      refine tm_ifF rfl c1 ?_
      refine tm_n 2 (F' := (21, [(0, .inr (.inl a0))], [.inl (1 : Int32)])) rfl ?_
      cases hr
      exact tm_retI rfl rfl
-- OfficeSheetModel.workBlock(III)J
set_option maxRecDepth 20000 in
def l294_191 (K31 : Option Nat → Int32 → Int32 → Int32 → Int64 → Int64 → Int64 → Int32 → pm_H → tm_L) (K52 : Option Nat → Int32 → Int32 → Int32 → Int64 → Int64 → Int64 → Int32 → Int32 → pm_H → tm_L) (x0 : Option Nat) (x1 : Int32) (x2 : Int32) (x3 : Int32) (x4 : Int64) (x6 : Int64) (x8 : Int64) (x10 : Int32) (x11 : Int32) (h : pm_H) : tm_L := K52 x0 x1 x2 x3 x4 x6 x8 x10 (x11 + (1 : Int32)) h
set_option maxRecDepth 20000 in
theorem l294_191_t {w : Option Nat} {d : Nat} {K31 : Option Nat → Int32 → Int32 → Int32 → Int64 → Int64 → Int64 → Int32 → pm_H → tm_L} {K52 : Option Nat → Int32 → Int32 → Int32 → Int64 → Int64 → Int64 → Int32 → Int32 → pm_H → tm_L} (hK31 : ∀ {x0 : Option Nat} {x1 : Int32} {x2 : Int32} {x3 : Int32} {x4 : Int64} {x6 : Int64} {x8 : Int64} {x10 : Int32}  {h : pm_H} {r : tm_O × pm_H}, K31 x0 x1 x2 x3 x4 x6 x8 x10 h = some r → pm_to pt_P (pt_G (tm_r w)) (d + 4) (pt_g294, []) (tm_m (31, [(0, .inr (.inr x0)), (1, .inl x1), (2, .inl x2), (3, .inl x3), (4, .inr (.inl x4)), (6, .inr (.inl x6)), (8, .inr (.inl x8)), (10, .inl x10)], [])) h (tm_e r)) (hK52 : ∀ {x0 : Option Nat} {x1 : Int32} {x2 : Int32} {x3 : Int32} {x4 : Int64} {x6 : Int64} {x8 : Int64} {x10 : Int32} {x11 : Int32}  {h : pm_H} {r : tm_O × pm_H}, K52 x0 x1 x2 x3 x4 x6 x8 x10 x11 h = some r → pm_to pt_P (pt_G (tm_r w)) (d + 4) (pt_g294, []) (tm_m (52, [(0, .inr (.inr x0)), (1, .inl x1), (2, .inl x2), (3, .inl x3), (4, .inr (.inl x4)), (6, .inr (.inl x6)), (8, .inr (.inl x8)), (10, .inl x10), (11, .inl x11)], [])) h (tm_e r)) {x0 : Option Nat} {x1 : Int32} {x2 : Int32} {x3 : Int32} {x4 : Int64} {x6 : Int64} {x8 : Int64} {x10 : Int32} {x11 : Int32} {h : pm_H} {r : tm_O × pm_H} (hr : l294_191 K31 K52 x0 x1 x2 x3 x4 x6 x8 x10 x11 h = some r) : pm_to pt_P (pt_G (tm_r w)) (d + 4) (pt_g294, []) (tm_m (191, [(0, .inr (.inr x0)), (1, .inl x1), (2, .inl x2), (3, .inl x3), (4, .inr (.inl x4)), (6, .inr (.inl x6)), (8, .inr (.inl x8)), (10, .inl x10), (11, .inl x11)], [])) h (tm_e r) := by
  unfold l294_191 at hr
  refine tm_n 2 (F' := (52, [(11, .inl (x11 + (1 : Int32))), (0, .inr (.inr x0)), (1, .inl x1), (2, .inl x2), (3, .inl x3), (4, .inr (.inl x4)), (6, .inr (.inl x6)), (8, .inr (.inl x8)), (10, .inl x10)], [])) rfl ?_
  refine tm_cut (a := [(0, .inr (.inr x0)), (1, .inl x1), (2, .inl x2), (3, .inl x3), (4, .inr (.inl x4)), (6, .inr (.inl x6)), (8, .inr (.inl x8)), (10, .inl x10), (11, .inl (x11 + (1 : Int32)))]) rfl (tm_sbs [1, 2, 3, 4, 5, 6, 7, 8, 0] rfl) ?_
  exact hK52 hr
set_option maxRecDepth 20000 in
def l294_183 (K31 : Option Nat → Int32 → Int32 → Int32 → Int64 → Int64 → Int64 → Int32 → pm_H → tm_L) (K52 : Option Nat → Int32 → Int32 → Int32 → Int64 → Int64 → Int64 → Int32 → Int32 → pm_H → tm_L) (x0 : Option Nat) (x1 : Int32) (x2 : Int32) (x3 : Int32) (x4 : Int64) (x8 : Int64) (x10 : Int32) (x11 : Int32) (s0 : Int64) (h : pm_H) : tm_L := l294_191 K31 K52 x0 x1 x2 x3 (x4 + (1 : Int64)) s0 x8 x10 x11 h
set_option maxRecDepth 20000 in
theorem l294_183_t {w : Option Nat} {d : Nat} {K31 : Option Nat → Int32 → Int32 → Int32 → Int64 → Int64 → Int64 → Int32 → pm_H → tm_L} {K52 : Option Nat → Int32 → Int32 → Int32 → Int64 → Int64 → Int64 → Int32 → Int32 → pm_H → tm_L} (hK31 : ∀ {x0 : Option Nat} {x1 : Int32} {x2 : Int32} {x3 : Int32} {x4 : Int64} {x6 : Int64} {x8 : Int64} {x10 : Int32}  {h : pm_H} {r : tm_O × pm_H}, K31 x0 x1 x2 x3 x4 x6 x8 x10 h = some r → pm_to pt_P (pt_G (tm_r w)) (d + 4) (pt_g294, []) (tm_m (31, [(0, .inr (.inr x0)), (1, .inl x1), (2, .inl x2), (3, .inl x3), (4, .inr (.inl x4)), (6, .inr (.inl x6)), (8, .inr (.inl x8)), (10, .inl x10)], [])) h (tm_e r)) (hK52 : ∀ {x0 : Option Nat} {x1 : Int32} {x2 : Int32} {x3 : Int32} {x4 : Int64} {x6 : Int64} {x8 : Int64} {x10 : Int32} {x11 : Int32}  {h : pm_H} {r : tm_O × pm_H}, K52 x0 x1 x2 x3 x4 x6 x8 x10 x11 h = some r → pm_to pt_P (pt_G (tm_r w)) (d + 4) (pt_g294, []) (tm_m (52, [(0, .inr (.inr x0)), (1, .inl x1), (2, .inl x2), (3, .inl x3), (4, .inr (.inl x4)), (6, .inr (.inl x6)), (8, .inr (.inl x8)), (10, .inl x10), (11, .inl x11)], [])) h (tm_e r)) {x0 : Option Nat} {x1 : Int32} {x2 : Int32} {x3 : Int32} {x4 : Int64} {x8 : Int64} {x10 : Int32} {x11 : Int32} {s0 : Int64} {h : pm_H} {r : tm_O × pm_H} (hr : l294_183 K31 K52 x0 x1 x2 x3 x4 x8 x10 x11 s0 h = some r) : pm_to pt_P (pt_G (tm_r w)) (d + 4) (pt_g294, []) (tm_m (183, [(0, .inr (.inr x0)), (1, .inl x1), (2, .inl x2), (3, .inl x3), (4, .inr (.inl x4)), (8, .inr (.inl x8)), (10, .inl x10), (11, .inl x11)], [.inr (.inl s0)])) h (tm_e r) := by
  unfold l294_183 at hr
  refine tm_n 5 (F' := (191, [(4, .inr (.inl (x4 + (1 : Int64)))), (6, .inr (.inl s0)), (0, .inr (.inr x0)), (1, .inl x1), (2, .inl x2), (3, .inl x3), (8, .inr (.inl x8)), (10, .inl x10), (11, .inl x11)], [])) rfl ?_
  refine tm_cut (a := [(0, .inr (.inr x0)), (1, .inl x1), (2, .inl x2), (3, .inl x3), (4, .inr (.inl (x4 + (1 : Int64)))), (6, .inr (.inl s0)), (8, .inr (.inl x8)), (10, .inl x10), (11, .inl x11)]) rfl (tm_sbs [2, 3, 4, 5, 0, 1, 6, 7, 8] rfl) ?_
  exact l294_191_t hK31 hK52 hr
set_option maxRecDepth 20000 in
def l294_155 (K31 : Option Nat → Int32 → Int32 → Int32 → Int64 → Int64 → Int64 → Int32 → pm_H → tm_L) (K52 : Option Nat → Int32 → Int32 → Int32 → Int64 → Int64 → Int64 → Int32 → Int32 → pm_H → tm_L) (x0 : Option Nat) (x1 : Int32) (x2 : Int32) (x3 : Int32) (x4 : Int64) (x8 : Int64) (x10 : Int32) (x11 : Int32) (x13 : Int64) (h : pm_H) : tm_L := l294_183 K31 K52 x0 x1 x2 x3 x4 x8 x10 x11 x13 h
set_option maxRecDepth 20000 in
theorem l294_155_t {w : Option Nat} {d : Nat} {K31 : Option Nat → Int32 → Int32 → Int32 → Int64 → Int64 → Int64 → Int32 → pm_H → tm_L} {K52 : Option Nat → Int32 → Int32 → Int32 → Int64 → Int64 → Int64 → Int32 → Int32 → pm_H → tm_L} (hK31 : ∀ {x0 : Option Nat} {x1 : Int32} {x2 : Int32} {x3 : Int32} {x4 : Int64} {x6 : Int64} {x8 : Int64} {x10 : Int32}  {h : pm_H} {r : tm_O × pm_H}, K31 x0 x1 x2 x3 x4 x6 x8 x10 h = some r → pm_to pt_P (pt_G (tm_r w)) (d + 4) (pt_g294, []) (tm_m (31, [(0, .inr (.inr x0)), (1, .inl x1), (2, .inl x2), (3, .inl x3), (4, .inr (.inl x4)), (6, .inr (.inl x6)), (8, .inr (.inl x8)), (10, .inl x10)], [])) h (tm_e r)) (hK52 : ∀ {x0 : Option Nat} {x1 : Int32} {x2 : Int32} {x3 : Int32} {x4 : Int64} {x6 : Int64} {x8 : Int64} {x10 : Int32} {x11 : Int32}  {h : pm_H} {r : tm_O × pm_H}, K52 x0 x1 x2 x3 x4 x6 x8 x10 x11 h = some r → pm_to pt_P (pt_G (tm_r w)) (d + 4) (pt_g294, []) (tm_m (52, [(0, .inr (.inr x0)), (1, .inl x1), (2, .inl x2), (3, .inl x3), (4, .inr (.inl x4)), (6, .inr (.inl x6)), (8, .inr (.inl x8)), (10, .inl x10), (11, .inl x11)], [])) h (tm_e r)) {x0 : Option Nat} {x1 : Int32} {x2 : Int32} {x3 : Int32} {x4 : Int64} {x8 : Int64} {x10 : Int32} {x11 : Int32} {x13 : Int64} {h : pm_H} {r : tm_O × pm_H} (hr : l294_155 K31 K52 x0 x1 x2 x3 x4 x8 x10 x11 x13 h = some r) : pm_to pt_P (pt_G (tm_r w)) (d + 4) (pt_g294, []) (tm_m (155, [(0, .inr (.inr x0)), (1, .inl x1), (2, .inl x2), (3, .inl x3), (4, .inr (.inl x4)), (8, .inr (.inl x8)), (10, .inl x10), (11, .inl x11), (13, .inr (.inl x13))], [])) h (tm_e r) := by
  unfold l294_155 at hr
  refine tm_n 2 (F' := (183, [(0, .inr (.inr x0)), (1, .inl x1), (2, .inl x2), (3, .inl x3), (4, .inr (.inl x4)), (8, .inr (.inl x8)), (10, .inl x10), (11, .inl x11), (13, .inr (.inl x13))], [.inr (.inl x13)])) rfl ?_
  refine tm_cut (a := [(0, .inr (.inr x0)), (1, .inl x1), (2, .inl x2), (3, .inl x3), (4, .inr (.inl x4)), (8, .inr (.inl x8)), (10, .inl x10), (11, .inl x11)]) rfl (tm_sbs [0, 1, 2, 3, 4, 5, 6, 7] rfl) ?_
  exact l294_183_t hK31 hK52 hr
set_option maxRecDepth 20000 in
def l294_132 (K31 : Option Nat → Int32 → Int32 → Int32 → Int64 → Int64 → Int64 → Int32 → pm_H → tm_L) (K52 : Option Nat → Int32 → Int32 → Int32 → Int64 → Int64 → Int64 → Int32 → Int32 → pm_H → tm_L) (x0 : Option Nat) (x1 : Int32) (x2 : Int32) (x3 : Int32) (x4 : Int64) (x6 : Int64) (x10 : Int32) (x11 : Int32) (x13 : Int64) (s0 : Int64) (h : pm_H) : tm_L := if x2 = (109 : Int32) then if (lg_cmp x4 (0 : Int64)) = (0 : Int32) then l294_155 K31 K52 x0 x1 x2 x3 x4 s0 x10 x11 x13 h else if (lg_cmp x13 x6) ≤ (0 : Int32) then l294_183 K31 K52 x0 x1 x2 x3 x4 s0 x10 x11 x6 h else l294_155 K31 K52 x0 x1 x2 x3 x4 s0 x10 x11 x13 h else lb_I (ll_295 x6 h) (fun v3 h4 => if v3 = (0 : Int32) then l294_183 K31 K52 x0 x1 x2 x3 x4 s0 x10 x11 (x6 + x13) h4 else l294_183 K31 K52 x0 x1 x2 x3 x4 s0 x10 x11 x6 h4)
set_option maxRecDepth 20000 in
theorem l294_132_t {w : Option Nat} {d : Nat} {K31 : Option Nat → Int32 → Int32 → Int32 → Int64 → Int64 → Int64 → Int32 → pm_H → tm_L} {K52 : Option Nat → Int32 → Int32 → Int32 → Int64 → Int64 → Int64 → Int32 → Int32 → pm_H → tm_L} (hK31 : ∀ {x0 : Option Nat} {x1 : Int32} {x2 : Int32} {x3 : Int32} {x4 : Int64} {x6 : Int64} {x8 : Int64} {x10 : Int32}  {h : pm_H} {r : tm_O × pm_H}, K31 x0 x1 x2 x3 x4 x6 x8 x10 h = some r → pm_to pt_P (pt_G (tm_r w)) (d + 4) (pt_g294, []) (tm_m (31, [(0, .inr (.inr x0)), (1, .inl x1), (2, .inl x2), (3, .inl x3), (4, .inr (.inl x4)), (6, .inr (.inl x6)), (8, .inr (.inl x8)), (10, .inl x10)], [])) h (tm_e r)) (hK52 : ∀ {x0 : Option Nat} {x1 : Int32} {x2 : Int32} {x3 : Int32} {x4 : Int64} {x6 : Int64} {x8 : Int64} {x10 : Int32} {x11 : Int32}  {h : pm_H} {r : tm_O × pm_H}, K52 x0 x1 x2 x3 x4 x6 x8 x10 x11 h = some r → pm_to pt_P (pt_G (tm_r w)) (d + 4) (pt_g294, []) (tm_m (52, [(0, .inr (.inr x0)), (1, .inl x1), (2, .inl x2), (3, .inl x3), (4, .inr (.inl x4)), (6, .inr (.inl x6)), (8, .inr (.inl x8)), (10, .inl x10), (11, .inl x11)], [])) h (tm_e r)) {x0 : Option Nat} {x1 : Int32} {x2 : Int32} {x3 : Int32} {x4 : Int64} {x6 : Int64} {x10 : Int32} {x11 : Int32} {x13 : Int64} {s0 : Int64} {h : pm_H} {r : tm_O × pm_H} (hr : l294_132 K31 K52 x0 x1 x2 x3 x4 x6 x10 x11 x13 s0 h = some r) : pm_to pt_P (pt_G (tm_r w)) (d + 4) (pt_g294, []) (tm_m (132, [(0, .inr (.inr x0)), (1, .inl x1), (2, .inl x2), (3, .inl x3), (4, .inr (.inl x4)), (6, .inr (.inl x6)), (10, .inl x10), (11, .inl x11), (13, .inr (.inl x13))], [.inr (.inl s0)])) h (tm_e r) := by
  unfold l294_132 at hr
  refine tm_n 3 (F' := (137, [(8, .inr (.inl s0)), (0, .inr (.inr x0)), (1, .inl x1), (2, .inl x2), (3, .inl x3), (4, .inr (.inl x4)), (6, .inr (.inl x6)), (10, .inl x10), (11, .inl x11), (13, .inr (.inl x13))], [.inl (109 : Int32), .inl x2])) rfl ?_
  by_cases c9 : x2 = (109 : Int32)
  · rw [if_pos c9] at hr
    refine tm_icF rfl (fun q => q c9) ?_
    refine tm_n 3 (F' := (144, [(8, .inr (.inl s0)), (0, .inr (.inr x0)), (1, .inl x1), (2, .inl x2), (3, .inl x3), (4, .inr (.inl x4)), (6, .inr (.inl x6)), (10, .inl x10), (11, .inl x11), (13, .inr (.inl x13))], [.inl (lg_cmp x4 (0 : Int64))])) rfl ?_
    by_cases c2 : (lg_cmp x4 (0 : Int64)) = (0 : Int32)
    · rw [if_pos c2] at hr
      refine tm_ifT rfl c2 ?_
      refine tm_cut (a := [(0, .inr (.inr x0)), (1, .inl x1), (2, .inl x2), (3, .inl x3), (4, .inr (.inl x4)), (8, .inr (.inl s0)), (10, .inl x10), (11, .inl x11), (13, .inr (.inl x13))]) rfl (tm_sbs [1, 2, 3, 4, 5, 0, 7, 8, 9] rfl) ?_
      exact l294_155_t hK31 hK52 hr
    · rw [if_neg c2] at hr
      refine tm_ifF rfl c2 ?_
      refine tm_n 3 (F' := (152, [(8, .inr (.inl s0)), (0, .inr (.inr x0)), (1, .inl x1), (2, .inl x2), (3, .inl x3), (4, .inr (.inl x4)), (6, .inr (.inl x6)), (10, .inl x10), (11, .inl x11), (13, .inr (.inl x13))], [.inl (lg_cmp x13 x6)])) rfl ?_
      by_cases c1 : (lg_cmp x13 x6) ≤ (0 : Int32)
      · rw [if_pos c1] at hr
        refine tm_ifT rfl c1 ?_
        refine tm_n 2 (F' := (183, [(8, .inr (.inl s0)), (0, .inr (.inr x0)), (1, .inl x1), (2, .inl x2), (3, .inl x3), (4, .inr (.inl x4)), (6, .inr (.inl x6)), (10, .inl x10), (11, .inl x11), (13, .inr (.inl x13))], [.inr (.inl x6)])) rfl ?_
        refine tm_cut (a := [(0, .inr (.inr x0)), (1, .inl x1), (2, .inl x2), (3, .inl x3), (4, .inr (.inl x4)), (8, .inr (.inl s0)), (10, .inl x10), (11, .inl x11)]) rfl (tm_sbs [1, 2, 3, 4, 5, 0, 7, 8] rfl) ?_
        exact l294_183_t hK31 hK52 hr
      · rw [if_neg c1] at hr
        refine tm_ifF rfl c1 ?_
        refine tm_cut (a := [(0, .inr (.inr x0)), (1, .inl x1), (2, .inl x2), (3, .inl x3), (4, .inr (.inl x4)), (8, .inr (.inl s0)), (10, .inl x10), (11, .inl x11), (13, .inr (.inl x13))]) rfl (tm_sbs [1, 2, 3, 4, 5, 0, 7, 8, 9] rfl) ?_
        exact l294_155_t hK31 hK52 hr
  · rw [if_neg c9] at hr
    refine tm_icT rfl c9 ?_
    refine tm_n 1 (F' := (167, [(8, .inr (.inl s0)), (0, .inr (.inr x0)), (1, .inl x1), (2, .inl x2), (3, .inl x3), (4, .inr (.inl x4)), (6, .inr (.inl x6)), (10, .inl x10), (11, .inl x11), (13, .inr (.inl x13))], [.inr (.inl x6)])) rfl ?_
    rcases lb_I_s hr with ⟨v3, h4, m5, hr⟩ | ⟨a7, h4, z8, z8l, m5, qz8, rfl⟩
    · try dsimp only at hr
      refine tm_call rfl rfl (tm_callS rfl rfl) (lq_295 m5) ?_
      by_cases c6 : v3 = (0 : Int32)
      · rw [if_pos c6] at hr
        refine tm_ifT rfl c6 ?_
        refine tm_n 3 (F' := (183, [(8, .inr (.inl s0)), (0, .inr (.inr x0)), (1, .inl x1), (2, .inl x2), (3, .inl x3), (4, .inr (.inl x4)), (6, .inr (.inl x6)), (10, .inl x10), (11, .inl x11), (13, .inr (.inl x13))], [.inr (.inl (x6 + x13))])) rfl ?_
        refine tm_cut (a := [(0, .inr (.inr x0)), (1, .inl x1), (2, .inl x2), (3, .inl x3), (4, .inr (.inl x4)), (8, .inr (.inl s0)), (10, .inl x10), (11, .inl x11)]) rfl (tm_sbs [1, 2, 3, 4, 5, 0, 7, 8] rfl) ?_
        exact l294_183_t hK31 hK52 hr
      · rw [if_neg c6] at hr
        refine tm_ifF rfl c6 ?_
        refine tm_n 2 (F' := (183, [(8, .inr (.inl s0)), (0, .inr (.inr x0)), (1, .inl x1), (2, .inl x2), (3, .inl x3), (4, .inr (.inl x4)), (6, .inr (.inl x6)), (10, .inl x10), (11, .inl x11), (13, .inr (.inl x13))], [.inr (.inl x6)])) rfl ?_
        refine tm_cut (a := [(0, .inr (.inr x0)), (1, .inl x1), (2, .inl x2), (3, .inl x3), (4, .inr (.inl x4)), (8, .inr (.inl s0)), (10, .inl x10), (11, .inl x11)]) rfl (tm_sbs [1, 2, 3, 4, 5, 0, 7, 8] rfl) ?_
        exact l294_183_t hK31 hK52 hr
    · exact tm_callT rfl rfl (tm_callS rfl rfl) (lq_295 m5) qz8 rfl
set_option maxRecDepth 20000 in
def l294_130 (K31 : Option Nat → Int32 → Int32 → Int32 → Int64 → Int64 → Int64 → Int32 → pm_H → tm_L) (K52 : Option Nat → Int32 → Int32 → Int32 → Int64 → Int64 → Int64 → Int32 → Int32 → pm_H → tm_L) (x0 : Option Nat) (x1 : Int32) (x2 : Int32) (x3 : Int32) (x4 : Int64) (x6 : Int64) (x8 : Int64) (x10 : Int32) (x11 : Int32) (x13 : Int64) (h : pm_H) : tm_L := l294_132 K31 K52 x0 x1 x2 x3 x4 x6 x10 x11 x13 x8 h
set_option maxRecDepth 20000 in
theorem l294_130_t {w : Option Nat} {d : Nat} {K31 : Option Nat → Int32 → Int32 → Int32 → Int64 → Int64 → Int64 → Int32 → pm_H → tm_L} {K52 : Option Nat → Int32 → Int32 → Int32 → Int64 → Int64 → Int64 → Int32 → Int32 → pm_H → tm_L} (hK31 : ∀ {x0 : Option Nat} {x1 : Int32} {x2 : Int32} {x3 : Int32} {x4 : Int64} {x6 : Int64} {x8 : Int64} {x10 : Int32}  {h : pm_H} {r : tm_O × pm_H}, K31 x0 x1 x2 x3 x4 x6 x8 x10 h = some r → pm_to pt_P (pt_G (tm_r w)) (d + 4) (pt_g294, []) (tm_m (31, [(0, .inr (.inr x0)), (1, .inl x1), (2, .inl x2), (3, .inl x3), (4, .inr (.inl x4)), (6, .inr (.inl x6)), (8, .inr (.inl x8)), (10, .inl x10)], [])) h (tm_e r)) (hK52 : ∀ {x0 : Option Nat} {x1 : Int32} {x2 : Int32} {x3 : Int32} {x4 : Int64} {x6 : Int64} {x8 : Int64} {x10 : Int32} {x11 : Int32}  {h : pm_H} {r : tm_O × pm_H}, K52 x0 x1 x2 x3 x4 x6 x8 x10 x11 h = some r → pm_to pt_P (pt_G (tm_r w)) (d + 4) (pt_g294, []) (tm_m (52, [(0, .inr (.inr x0)), (1, .inl x1), (2, .inl x2), (3, .inl x3), (4, .inr (.inl x4)), (6, .inr (.inl x6)), (8, .inr (.inl x8)), (10, .inl x10), (11, .inl x11)], [])) h (tm_e r)) {x0 : Option Nat} {x1 : Int32} {x2 : Int32} {x3 : Int32} {x4 : Int64} {x6 : Int64} {x8 : Int64} {x10 : Int32} {x11 : Int32} {x13 : Int64} {h : pm_H} {r : tm_O × pm_H} (hr : l294_130 K31 K52 x0 x1 x2 x3 x4 x6 x8 x10 x11 x13 h = some r) : pm_to pt_P (pt_G (tm_r w)) (d + 4) (pt_g294, []) (tm_m (130, [(0, .inr (.inr x0)), (1, .inl x1), (2, .inl x2), (3, .inl x3), (4, .inr (.inl x4)), (6, .inr (.inl x6)), (8, .inr (.inl x8)), (10, .inl x10), (11, .inl x11), (13, .inr (.inl x13))], [])) h (tm_e r) := by
  unfold l294_130 at hr
  refine tm_n 1 (F' := (132, [(0, .inr (.inr x0)), (1, .inl x1), (2, .inl x2), (3, .inl x3), (4, .inr (.inl x4)), (6, .inr (.inl x6)), (8, .inr (.inl x8)), (10, .inl x10), (11, .inl x11), (13, .inr (.inl x13))], [.inr (.inl x8)])) rfl ?_
  refine tm_cut (a := [(0, .inr (.inr x0)), (1, .inl x1), (2, .inl x2), (3, .inl x3), (4, .inr (.inl x4)), (6, .inr (.inl x6)), (10, .inl x10), (11, .inl x11), (13, .inr (.inl x13))]) rfl (tm_sbs [0, 1, 2, 3, 4, 5, 7, 8, 9] rfl) ?_
  exact l294_132_t hK31 hK52 hr
set_option maxRecDepth 20000 in
def l294_52 (K31 : Option Nat → Int32 → Int32 → Int32 → Int64 → Int64 → Int64 → Int32 → pm_H → tm_L) : Nat → Option Nat → Int32 → Int32 → Int32 → Int64 → Int64 → Int64 → Int32 → Int32 → pm_H → tm_L
  | 0 => fun _ _ _ _ _ _ _ _ _ _ => none
  | n + 1 => fun x0 x1 x2 x3 x4 x6 x8 x10 x11 h => if lc_of h x0 = some 10 then lb_I (ll_292 x0 x1 x3 (3 : Int32) h) (fun v2 h3 => if v2 < x11 then K31 x0 x1 x2 x3 x4 x6 x8 (x10 + (1 : Int32)) h3 else if lc_of h3 x0 = some 10 then lb_I (ll_242 x0 x1 (0 : Int32) x10 h3) (fun v6 h7 => if lc_of h7 x0 = some 10 then lb_I (ll_242 x0 x1 (1 : Int32) x11 h7) (fun v10 h11 => if lc_of h11 x0 = some 10 then lb_I (ll_283 x0 v6 v10 h11) (fun v14 h15 => if v14 < (0 : Int32) then l294_191 K31 (l294_52 K31 n) x0 x1 x2 x3 x4 x6 x8 x10 x11 h15 else if lc_of h15 x0 = some 10 then lb_I (ll_285 x0 v14 h15) (fun v18 h19 => if v18 < (0 : Int32) then l294_191 K31 (l294_52 K31 n) x0 x1 x2 x3 x4 x6 x8 x10 x11 h19 else (lf_R h19 x0 [10, 37]).bind fun v21 => (la_J h19 .laload v21 v14).bind fun v22 => if (lg_cmp x8 (0 : Int64)) = (0 : Int32) then if (lg_cmp v22 (4000000000 : Int64)) < (0 : Int32) then l294_130 K31 (l294_52 K31 n) x0 x1 x2 x3 x4 x6 x8 x10 x11 v22 h19 else l294_132 K31 (l294_52 K31 n) x0 x1 x2 x3 x4 x6 x10 x11 v22 v22 h19 else l294_130 K31 (l294_52 K31 n) x0 x1 x2 x3 x4 x6 x8 x10 x11 v22 h19) else none) else none) else none) else none) else none
set_option maxRecDepth 20000 in
theorem l294_52_t {w : Option Nat} {d : Nat} {K31 : Option Nat → Int32 → Int32 → Int32 → Int64 → Int64 → Int64 → Int32 → pm_H → tm_L} (hK31 : ∀ {x0 : Option Nat} {x1 : Int32} {x2 : Int32} {x3 : Int32} {x4 : Int64} {x6 : Int64} {x8 : Int64} {x10 : Int32}  {h : pm_H} {r : tm_O × pm_H}, K31 x0 x1 x2 x3 x4 x6 x8 x10 h = some r → pm_to pt_P (pt_G (tm_r w)) (d + 4) (pt_g294, []) (tm_m (31, [(0, .inr (.inr x0)), (1, .inl x1), (2, .inl x2), (3, .inl x3), (4, .inr (.inl x4)), (6, .inr (.inl x6)), (8, .inr (.inl x8)), (10, .inl x10)], [])) h (tm_e r)) : ∀ (n : Nat) {x0 : Option Nat} {x1 : Int32} {x2 : Int32} {x3 : Int32} {x4 : Int64} {x6 : Int64} {x8 : Int64} {x10 : Int32} {x11 : Int32} {h : pm_H} {r : tm_O × pm_H}, l294_52 K31 n x0 x1 x2 x3 x4 x6 x8 x10 x11 h = some r → pm_to pt_P (pt_G (tm_r w)) (d + 4) (pt_g294, []) (tm_m (52, [(0, .inr (.inr x0)), (1, .inl x1), (2, .inl x2), (3, .inl x3), (4, .inr (.inl x4)), (6, .inr (.inl x6)), (8, .inr (.inl x8)), (10, .inl x10), (11, .inl x11)], [])) h (tm_e r) := by
  intro n
  induction n with
  | zero => intro x0 x1 x2 x3 x4 x6 x8 x10 x11 h r hr; cases hr
  | succ n ih =>
    intro x0 x1 x2 x3 x4 x6 x8 x10 x11 h r hr
    unfold l294_52 at hr
    refine tm_n 5 (F' := (58, [(0, .inr (.inr x0)), (1, .inl x1), (2, .inl x2), (3, .inl x3), (4, .inr (.inl x4)), (6, .inr (.inl x6)), (8, .inr (.inl x8)), (10, .inl x10), (11, .inl x11)], [.inl (3 : Int32), .inl x3, .inl x1, .inr (.inr x0), .inl x11])) rfl ?_
    by_cases c1 : lc_of h x0 = some 10
    · rw [if_pos c1] at hr
      rcases lb_I_s hr with ⟨v2, h3, m4, hr⟩ | ⟨a36, h3, z37, z37l, m4, qz37, rfl⟩
      · try dsimp only at hr
        refine tm_call rfl rfl (tm_callV rfl rfl c1 rfl rfl) (lq_292 m4) ?_
        by_cases c35 : v2 < x11
        · rw [if_pos c35] at hr
          refine tm_icT rfl c35 ?_
          refine tm_n 2 (F' := (31, [(10, .inl (x10 + (1 : Int32))), (0, .inr (.inr x0)), (1, .inl x1), (2, .inl x2), (3, .inl x3), (4, .inr (.inl x4)), (6, .inr (.inl x6)), (8, .inr (.inl x8)), (11, .inl x11)], [])) rfl ?_
          refine tm_cut (a := [(0, .inr (.inr x0)), (1, .inl x1), (2, .inl x2), (3, .inl x3), (4, .inr (.inl x4)), (6, .inr (.inl x6)), (8, .inr (.inl x8)), (10, .inl (x10 + (1 : Int32)))]) rfl (tm_sbs [1, 2, 3, 4, 5, 6, 7, 0] rfl) ?_
          exact hK31 hr
        · rw [if_neg c35] at hr
          refine tm_icF rfl c35 ?_
          refine tm_n 5 (F' := (70, [(0, .inr (.inr x0)), (1, .inl x1), (2, .inl x2), (3, .inl x3), (4, .inr (.inl x4)), (6, .inr (.inl x6)), (8, .inr (.inl x8)), (10, .inl x10), (11, .inl x11)], [.inl x10, .inl (0 : Int32), .inl x1, .inr (.inr x0), .inr (.inr x0)])) rfl ?_
          by_cases c5 : lc_of h3 x0 = some 10
          · rw [if_pos c5] at hr
            rcases lb_I_s hr with ⟨v6, h7, m8, hr⟩ | ⟨a33, h7, z34, z34l, m8, qz34, rfl⟩
            · try dsimp only at hr
              refine tm_call rfl rfl (tm_callV rfl rfl c5 rfl rfl) (lq_242 m8) ?_
              refine tm_n 4 (F' := (78, [(0, .inr (.inr x0)), (1, .inl x1), (2, .inl x2), (3, .inl x3), (4, .inr (.inl x4)), (6, .inr (.inl x6)), (8, .inr (.inl x8)), (10, .inl x10), (11, .inl x11)], [.inl x11, .inl (1 : Int32), .inl x1, .inr (.inr x0), .inl v6, .inr (.inr x0)])) rfl ?_
              by_cases c9 : lc_of h7 x0 = some 10
              · rw [if_pos c9] at hr
                rcases lb_I_s hr with ⟨v10, h11, m12, hr⟩ | ⟨a31, h11, z32, z32l, m12, qz32, rfl⟩
                · try dsimp only at hr
                  refine tm_call rfl rfl (tm_callV rfl rfl c9 rfl rfl) (lq_242 m12) ?_
                  by_cases c13 : lc_of h11 x0 = some 10
                  · rw [if_pos c13] at hr
                    rcases lb_I_s hr with ⟨v14, h15, m16, hr⟩ | ⟨a29, h15, z30, z30l, m16, qz30, rfl⟩
                    · try dsimp only at hr
                      refine tm_call rfl rfl (tm_callV rfl rfl c13 rfl rfl) (lq_283 m16) ?_
                      refine tm_n 2 (F' := (88, [(12, .inl v14), (0, .inr (.inr x0)), (1, .inl x1), (2, .inl x2), (3, .inl x3), (4, .inr (.inl x4)), (6, .inr (.inl x6)), (8, .inr (.inl x8)), (10, .inl x10), (11, .inl x11)], [.inl v14])) rfl ?_
                      by_cases c28 : v14 < (0 : Int32)
                      · rw [if_pos c28] at hr
                        refine tm_ifT rfl c28 ?_
                        refine tm_cut (a := [(0, .inr (.inr x0)), (1, .inl x1), (2, .inl x2), (3, .inl x3), (4, .inr (.inl x4)), (6, .inr (.inl x6)), (8, .inr (.inl x8)), (10, .inl x10), (11, .inl x11)]) rfl (tm_sbs [1, 2, 3, 4, 5, 6, 7, 8, 9] rfl) ?_
                        exact l294_191_t hK31 (fun hr => ih hr) hr
                      · rw [if_neg c28] at hr
                        refine tm_ifF rfl c28 ?_
                        refine tm_n 2 (F' := (94, [(12, .inl v14), (0, .inr (.inr x0)), (1, .inl x1), (2, .inl x2), (3, .inl x3), (4, .inr (.inl x4)), (6, .inr (.inl x6)), (8, .inr (.inl x8)), (10, .inl x10), (11, .inl x11)], [.inl v14, .inr (.inr x0)])) rfl ?_
                        by_cases c17 : lc_of h15 x0 = some 10
                        · rw [if_pos c17] at hr
                          rcases lb_I_s hr with ⟨v18, h19, m20, hr⟩ | ⟨a26, h19, z27, z27l, m20, qz27, rfl⟩
                          · try dsimp only at hr
                            refine tm_call rfl rfl (tm_callV rfl rfl c17 rfl rfl) (lq_285 m20) ?_
                            by_cases c25 : v18 < (0 : Int32)
                            · rw [if_pos c25] at hr
                              refine tm_ifT rfl c25 ?_
                              refine tm_cut (a := [(0, .inr (.inr x0)), (1, .inl x1), (2, .inl x2), (3, .inl x3), (4, .inr (.inl x4)), (6, .inr (.inl x6)), (8, .inr (.inl x8)), (10, .inl x10), (11, .inl x11)]) rfl (tm_sbs [1, 2, 3, 4, 5, 6, 7, 8, 9] rfl) ?_
                              exact l294_191_t hK31 (fun hr => ih hr) hr
                            · rw [if_neg c25] at hr
                              refine tm_ifF rfl c25 ?_
                              refine tm_n 1 (F' := (101, [(12, .inl v14), (0, .inr (.inr x0)), (1, .inl x1), (2, .inl x2), (3, .inl x3), (4, .inr (.inl x4)), (6, .inr (.inl x6)), (8, .inr (.inl x8)), (10, .inl x10), (11, .inl x11)], [.inr (.inr x0)])) rfl ?_
                              obtain ⟨v21, qv21, hr⟩ := Option.bind_eq_some_iff.mp hr
                              refine tm_getf rfl (lf_R_V qv21) ?_
                              refine tm_n 1 (F' := (106, [(12, .inl v14), (0, .inr (.inr x0)), (1, .inl x1), (2, .inl x2), (3, .inl x3), (4, .inr (.inl x4)), (6, .inr (.inl x6)), (8, .inr (.inl x8)), (10, .inl x10), (11, .inl x11)], [.inl v14, .inr (.inr v21)])) rfl ?_
                              obtain ⟨v22, qv22, hr⟩ := Option.bind_eq_some_iff.mp hr
                              refine tm_ald rfl rfl (la_J_V qv22) ?_
                              refine tm_n 4 (F' := (113, [(13, .inr (.inl v22)), (12, .inl v14), (0, .inr (.inr x0)), (1, .inl x1), (2, .inl x2), (3, .inl x3), (4, .inr (.inl x4)), (6, .inr (.inl x6)), (8, .inr (.inl x8)), (10, .inl x10), (11, .inl x11)], [.inl (lg_cmp x8 (0 : Int64))])) rfl ?_
                              by_cases c24 : (lg_cmp x8 (0 : Int64)) = (0 : Int32)
                              · rw [if_pos c24] at hr
                                refine tm_ifF rfl (fun q => q c24) ?_
                                refine tm_n 3 (F' := (122, [(13, .inr (.inl v22)), (12, .inl v14), (0, .inr (.inr x0)), (1, .inl x1), (2, .inl x2), (3, .inl x3), (4, .inr (.inl x4)), (6, .inr (.inl x6)), (8, .inr (.inl x8)), (10, .inl x10), (11, .inl x11)], [.inl (lg_cmp v22 (4000000000 : Int64))])) rfl ?_
                                by_cases c23 : (lg_cmp v22 (4000000000 : Int64)) < (0 : Int32)
                                · rw [if_pos c23] at hr
                                  refine tm_ifT rfl c23 ?_
                                  refine tm_cut (a := [(0, .inr (.inr x0)), (1, .inl x1), (2, .inl x2), (3, .inl x3), (4, .inr (.inl x4)), (6, .inr (.inl x6)), (8, .inr (.inl x8)), (10, .inl x10), (11, .inl x11), (13, .inr (.inl v22))]) rfl (tm_sbs [2, 3, 4, 5, 6, 7, 8, 9, 10, 0] rfl) ?_
                                  exact l294_130_t hK31 (fun hr => ih hr) hr
                                · rw [if_neg c23] at hr
                                  refine tm_ifF rfl c23 ?_
                                  refine tm_n 2 (F' := (132, [(13, .inr (.inl v22)), (12, .inl v14), (0, .inr (.inr x0)), (1, .inl x1), (2, .inl x2), (3, .inl x3), (4, .inr (.inl x4)), (6, .inr (.inl x6)), (8, .inr (.inl x8)), (10, .inl x10), (11, .inl x11)], [.inr (.inl v22)])) rfl ?_
                                  refine tm_cut (a := [(0, .inr (.inr x0)), (1, .inl x1), (2, .inl x2), (3, .inl x3), (4, .inr (.inl x4)), (6, .inr (.inl x6)), (10, .inl x10), (11, .inl x11), (13, .inr (.inl v22))]) rfl (tm_sbs [2, 3, 4, 5, 6, 7, 9, 10, 0] rfl) ?_
                                  exact l294_132_t hK31 (fun hr => ih hr) hr
                              · rw [if_neg c24] at hr
                                refine tm_ifT rfl c24 ?_
                                refine tm_cut (a := [(0, .inr (.inr x0)), (1, .inl x1), (2, .inl x2), (3, .inl x3), (4, .inr (.inl x4)), (6, .inr (.inl x6)), (8, .inr (.inl x8)), (10, .inl x10), (11, .inl x11), (13, .inr (.inl v22))]) rfl (tm_sbs [2, 3, 4, 5, 6, 7, 8, 9, 10, 0] rfl) ?_
                                exact l294_130_t hK31 (fun hr => ih hr) hr
                          · exact tm_callT rfl rfl (tm_callV rfl rfl c17 rfl rfl) (lq_285 m20) qz27 rfl
                        · rw [if_neg c17] at hr
                          cases hr
                    · exact tm_callT rfl rfl (tm_callV rfl rfl c13 rfl rfl) (lq_283 m16) qz30 rfl
                  · rw [if_neg c13] at hr
                    cases hr
                · exact tm_callT rfl rfl (tm_callV rfl rfl c9 rfl rfl) (lq_242 m12) qz32 rfl
              · rw [if_neg c9] at hr
                cases hr
            · exact tm_callT rfl rfl (tm_callV rfl rfl c5 rfl rfl) (lq_242 m8) qz34 rfl
          · rw [if_neg c5] at hr
            cases hr
      · exact tm_callT rfl rfl (tm_callV rfl rfl c1 rfl rfl) (lq_292 m4) qz37 rfl
    · rw [if_neg c1] at hr
      cases hr
set_option maxRecDepth 20000 in
def l294_31 : Nat → Option Nat → Int32 → Int32 → Int32 → Int64 → Int64 → Int64 → Int32 → pm_H → tm_L
  | 0 => fun _ _ _ _ _ _ _ _ _ => none
  | n + 1 => fun x0 x1 x2 x3 x4 x6 x8 x10 h => if lc_of h x0 = some 10 then lb_I (ll_292 x0 x1 x3 (1 : Int32) h) (fun v2 h3 => if v2 < x10 then if x2 = (110 : Int32) then some (.inl (some (.inr (.inl ((10000 : Int64) * x4)))), h3) else if (lg_cmp x8 (0 : Int64)) ≤ (0 : Int32) then lb_I (ll_295 x6 h3) (fun v5 h6 => if v5 = (0 : Int32) then some (.inl (some (.inr (.inl x6))), h6) else some (.inl (some (.inr (.inl (4000000004 : Int64)))), h6)) else some (.inl (some (.inr (.inl x8))), h3) else if lc_of h3 x0 = some 10 then lb_I (ll_292 x0 x1 x3 (2 : Int32) h3) (fun v14 h15 => l294_52 (l294_31 n) lf_N x0 x1 x2 x3 x4 x6 x8 x10 v14 h15) else none) else none
set_option maxRecDepth 20000 in
theorem l294_31_t {w : Option Nat} {d : Nat} : ∀ (n : Nat) {x0 : Option Nat} {x1 : Int32} {x2 : Int32} {x3 : Int32} {x4 : Int64} {x6 : Int64} {x8 : Int64} {x10 : Int32} {h : pm_H} {r : tm_O × pm_H}, l294_31 n x0 x1 x2 x3 x4 x6 x8 x10 h = some r → pm_to pt_P (pt_G (tm_r w)) (d + 4) (pt_g294, []) (tm_m (31, [(0, .inr (.inr x0)), (1, .inl x1), (2, .inl x2), (3, .inl x3), (4, .inr (.inl x4)), (6, .inr (.inl x6)), (8, .inr (.inl x8)), (10, .inl x10)], [])) h (tm_e r) := by
  intro n
  induction n with
  | zero => intro x0 x1 x2 x3 x4 x6 x8 x10 h r hr; cases hr
  | succ n ih =>
    intro x0 x1 x2 x3 x4 x6 x8 x10 h r hr
    unfold l294_31 at hr
    refine tm_n 5 (F' := (37, [(0, .inr (.inr x0)), (1, .inl x1), (2, .inl x2), (3, .inl x3), (4, .inr (.inl x4)), (6, .inr (.inl x6)), (8, .inr (.inl x8)), (10, .inl x10)], [.inl (1 : Int32), .inl x3, .inl x1, .inr (.inr x0), .inl x10])) rfl ?_
    by_cases c1 : lc_of h x0 = some 10
    · rw [if_pos c1] at hr
      rcases lb_I_s hr with ⟨v2, h3, m4, hr⟩ | ⟨a20, h3, z21, z21l, m4, qz21, rfl⟩
      · try dsimp only at hr
        refine tm_call rfl rfl (tm_callV rfl rfl c1 rfl rfl) (lq_292 m4) ?_
        by_cases c19 : v2 < x10
        · rw [if_pos c19] at hr
          refine tm_icT rfl c19 ?_
          refine tm_n 2 (F' := (206, [(0, .inr (.inr x0)), (1, .inl x1), (2, .inl x2), (3, .inl x3), (4, .inr (.inl x4)), (6, .inr (.inl x6)), (8, .inr (.inl x8)), (10, .inl x10)], [.inl (110 : Int32), .inl x2])) rfl ?_
          by_cases c12 : x2 = (110 : Int32)
          · rw [if_pos c12] at hr
            refine tm_icF rfl (fun q => q c12) ?_
            refine tm_n 4 (F' := (246, [(0, .inr (.inr x0)), (1, .inl x1), (2, .inl x2), (3, .inl x3), (4, .inr (.inl x4)), (6, .inr (.inl x6)), (8, .inr (.inl x8)), (10, .inl x10)], [.inr (.inl ((10000 : Int64) * x4))])) rfl ?_
            cases hr
            exact tm_retJ rfl
          · rw [if_neg c12] at hr
            refine tm_icT rfl c12 ?_
            refine tm_n 3 (F' := (222, [(0, .inr (.inr x0)), (1, .inl x1), (2, .inl x2), (3, .inl x3), (4, .inr (.inl x4)), (6, .inr (.inl x6)), (8, .inr (.inl x8)), (10, .inl x10)], [.inl (lg_cmp x8 (0 : Int64))])) rfl ?_
            by_cases c11 : (lg_cmp x8 (0 : Int64)) ≤ (0 : Int32)
            · rw [if_pos c11] at hr
              refine tm_ifT rfl c11 ?_
              refine tm_n 1 (F' := (232, [(0, .inr (.inr x0)), (1, .inl x1), (2, .inl x2), (3, .inl x3), (4, .inr (.inl x4)), (6, .inr (.inl x6)), (8, .inr (.inl x8)), (10, .inl x10)], [.inr (.inl x6)])) rfl ?_
              rcases lb_I_s hr with ⟨v5, h6, m7, hr⟩ | ⟨a9, h6, z10, z10l, m7, qz10, rfl⟩
              · try dsimp only at hr
                refine tm_call rfl rfl (tm_callS rfl rfl) (lq_295 m7) ?_
                by_cases c8 : v5 = (0 : Int32)
                · rw [if_pos c8] at hr
                  refine tm_ifT rfl c8 ?_
                  refine tm_n 1 (F' := (246, [(0, .inr (.inr x0)), (1, .inl x1), (2, .inl x2), (3, .inl x3), (4, .inr (.inl x4)), (6, .inr (.inl x6)), (8, .inr (.inl x8)), (10, .inl x10)], [.inr (.inl x6)])) rfl ?_
                  cases hr
                  exact tm_retJ rfl
                · rw [if_neg c8] at hr
                  refine tm_ifF rfl c8 ?_
                  refine tm_n 2 (F' := (246, [(0, .inr (.inr x0)), (1, .inl x1), (2, .inl x2), (3, .inl x3), (4, .inr (.inl x4)), (6, .inr (.inl x6)), (8, .inr (.inl x8)), (10, .inl x10)], [.inr (.inl (4000000004 : Int64))])) rfl ?_
                  cases hr
                  exact tm_retJ rfl
              · exact tm_callT rfl rfl (tm_callS rfl rfl) (lq_295 m7) qz10 rfl
            · rw [if_neg c11] at hr
              refine tm_ifF rfl c11 ?_
              refine tm_n 2 (F' := (246, [(0, .inr (.inr x0)), (1, .inl x1), (2, .inl x2), (3, .inl x3), (4, .inr (.inl x4)), (6, .inr (.inl x6)), (8, .inr (.inl x8)), (10, .inl x10)], [.inr (.inl x8)])) rfl ?_
              cases hr
              exact tm_retJ rfl
        · rw [if_neg c19] at hr
          refine tm_icF rfl c19 ?_
          refine tm_n 4 (F' := (47, [(0, .inr (.inr x0)), (1, .inl x1), (2, .inl x2), (3, .inl x3), (4, .inr (.inl x4)), (6, .inr (.inl x6)), (8, .inr (.inl x8)), (10, .inl x10)], [.inl (2 : Int32), .inl x3, .inl x1, .inr (.inr x0)])) rfl ?_
          by_cases c13 : lc_of h3 x0 = some 10
          · rw [if_pos c13] at hr
            rcases lb_I_s hr with ⟨v14, h15, m16, hr⟩ | ⟨a17, h15, z18, z18l, m16, qz18, rfl⟩
            · try dsimp only at hr
              refine tm_call rfl rfl (tm_callV rfl rfl c13 rfl rfl) (lq_292 m16) ?_
              refine tm_n 1 (F' := (52, [(11, .inl v14), (0, .inr (.inr x0)), (1, .inl x1), (2, .inl x2), (3, .inl x3), (4, .inr (.inl x4)), (6, .inr (.inl x6)), (8, .inr (.inl x8)), (10, .inl x10)], [])) rfl ?_
              refine tm_cut (a := [(0, .inr (.inr x0)), (1, .inl x1), (2, .inl x2), (3, .inl x3), (4, .inr (.inl x4)), (6, .inr (.inl x6)), (8, .inr (.inl x8)), (10, .inl x10), (11, .inl v14)]) rfl (tm_sbs [1, 2, 3, 4, 5, 6, 7, 8, 0] rfl) ?_
              exact l294_52_t (fun hr => ih hr) lf_N hr
            · exact tm_callT rfl rfl (tm_callV rfl rfl c13 rfl rfl) (lq_292 m16) qz18 rfl
          · rw [if_neg c13] at hr
            cases hr
      · exact tm_callT rfl rfl (tm_callV rfl rfl c1 rfl rfl) (lq_292 m4) qz21 rfl
    · rw [if_neg c1] at hr
      cases hr
set_option maxRecDepth 20000 in
def ll_294 (a0 : Option Nat) (a1 : Int32) (a2 : Int32) (a3 : Int32) (h : pm_H) : tm_L := if lc_of h a0 = some 10 then lb_I (ll_290 a0 a1 a3 h) (fun v2 h3 => if v2 = (0 : Int32) then some (.inl (some (.inr (.inl (4000000002 : Int64)))), h3) else if lc_of h3 a0 = some 10 then lb_I (ll_292 a0 a1 a3 (0 : Int32) h3) (fun v6 h7 => l294_31 lf_N a0 a1 a2 a3 (0 : Int64) (0 : Int64) (0 : Int64) v6 h7) else none) else none
set_option maxRecDepth 20000 in
theorem lq_294 {w : Option Nat} {d : Nat} {a0 : Option Nat} {a1 : Int32} {a2 : Int32} {a3 : Int32} {h : pm_H} {r : tm_O × pm_H} (hr : ll_294 a0 a1 a2 a3 h = some r) : tm_run pt_P (pt_G (tm_r w)) (d + 4) 294 [.inr (.inr a0), .inl a1, .inl a2, .inl a3] h r := by
  unfold ll_294 at hr
  show pm_to pt_P (pt_G (tm_r w)) (d + 4) (pt_g294, []) (tm_m (0, [(0, .inr (.inr a0)), (1, .inl a1), (2, .inl a2), (3, .inl a3)], [])) h (tm_e r)
  refine tm_n 3 (F' := (3, [(0, .inr (.inr a0)), (1, .inl a1), (2, .inl a2), (3, .inl a3)], [.inl a3, .inl a1, .inr (.inr a0)])) rfl ?_
  by_cases c1 : lc_of h a0 = some 10
  · rw [if_pos c1] at hr
    rcases lb_I_s hr with ⟨v2, h3, m4, hr⟩ | ⟨a12, h3, z13, z13l, m4, qz13, rfl⟩
    · try dsimp only at hr
      refine tm_call rfl rfl (tm_callV rfl rfl c1 rfl rfl) (lq_290 m4) ?_
      by_cases c11 : v2 = (0 : Int32)
      · rw [if_pos c11] at hr
        refine tm_ifF rfl (fun q => q c11) ?_
        refine tm_n 1 (F' := (12, [(0, .inr (.inr a0)), (1, .inl a1), (2, .inl a2), (3, .inl a3)], [.inr (.inl (4000000002 : Int64))])) rfl ?_
        cases hr
        exact tm_retJ rfl
      · rw [if_neg c11] at hr
        refine tm_ifT rfl c11 ?_
        refine tm_n 10 (F' := (26, [(8, .inr (.inl (0 : Int64))), (6, .inr (.inl (0 : Int64))), (4, .inr (.inl (0 : Int64))), (0, .inr (.inr a0)), (1, .inl a1), (2, .inl a2), (3, .inl a3)], [.inl (0 : Int32), .inl a3, .inl a1, .inr (.inr a0)])) rfl ?_
        by_cases c5 : lc_of h3 a0 = some 10
        · rw [if_pos c5] at hr
          rcases lb_I_s hr with ⟨v6, h7, m8, hr⟩ | ⟨a9, h7, z10, z10l, m8, qz10, rfl⟩
          · try dsimp only at hr
            refine tm_call rfl rfl (tm_callV rfl rfl c5 rfl rfl) (lq_292 m8) ?_
            refine tm_n 1 (F' := (31, [(10, .inl v6), (8, .inr (.inl (0 : Int64))), (6, .inr (.inl (0 : Int64))), (4, .inr (.inl (0 : Int64))), (0, .inr (.inr a0)), (1, .inl a1), (2, .inl a2), (3, .inl a3)], [])) rfl ?_
            refine tm_cut (a := [(0, .inr (.inr a0)), (1, .inl a1), (2, .inl a2), (3, .inl a3), (4, .inr (.inl (0 : Int64))), (6, .inr (.inl (0 : Int64))), (8, .inr (.inl (0 : Int64))), (10, .inl v6)]) rfl (tm_sbs [4, 5, 6, 7, 3, 2, 1, 0] rfl) ?_
            exact l294_31_t lf_N hr
          · exact tm_callT rfl rfl (tm_callV rfl rfl c5 rfl rfl) (lq_292 m8) qz10 rfl
        · rw [if_neg c5] at hr
          cases hr
    · exact tm_callT rfl rfl (tm_callV rfl rfl c1 rfl rfl) (lq_290 m4) qz13 rfl
  · rw [if_neg c1] at hr
    cases hr
-- OfficeSheetModel.size(J)J
set_option maxRecDepth 20000 in
def ll_298 (a0 : Int64) (h : pm_H) : tm_L := if (0 : Int32) ≤ (lg_cmp a0 (0 : Int64)) then some (.inl (some (.inr (.inl a0))), h) else some (.inl (some (.inr (.inl (-a0)))), h)
set_option maxRecDepth 20000 in
theorem lq_298 {w : Option Nat} {d : Nat} {a0 : Int64} {h : pm_H} {r : tm_O × pm_H} (hr : ll_298 a0 h = some r) : tm_run pt_P (pt_G (tm_r w)) (d + 0) 298 [.inr (.inl a0)] h r := by
  unfold ll_298 at hr
  show pm_to pt_P (pt_G (tm_r w)) (d + 0) (pt_g298, []) (tm_m (0, [(0, .inr (.inl a0))], [])) h (tm_e r)
  refine tm_n 3 (F' := (3, [(0, .inr (.inl a0))], [.inl (lg_cmp a0 (0 : Int64))])) rfl ?_
  by_cases c1 : (0 : Int32) ≤ (lg_cmp a0 (0 : Int64))
  · rw [if_pos c1] at hr
    refine tm_ifT rfl c1 ?_
    refine tm_n 1 (F' := (12, [(0, .inr (.inl a0))], [.inr (.inl a0)])) rfl ?_
    cases hr
    exact tm_retJ rfl
  · rw [if_neg c1] at hr
    refine tm_ifF rfl c1 ?_
    refine tm_n 3 (F' := (12, [(0, .inr (.inl a0))], [.inr (.inl (-a0))])) rfl ?_
    cases hr
    exact tm_retJ rfl
-- OfficeSheetModel.nearest(JJ)J
set_option maxRecDepth 20000 in
def l297_90 (x8 : Int64) (s0 : Int32) (s1 : Int32) (h : pm_H) : tm_L := if s1 = s0 then some (.inl (some (.inr (.inl x8))), h) else some (.inl (some (.inr (.inl (-x8)))), h)
set_option maxRecDepth 20000 in
theorem l297_90_t {w : Option Nat} {d : Nat} {x8 : Int64} {s0 : Int32} {s1 : Int32} {h : pm_H} {r : tm_O × pm_H} (hr : l297_90 x8 s0 s1 h = some r) : pm_to pt_P (pt_G (tm_r w)) (d + 1) (pt_g297, []) (tm_m (90, [(8, .inr (.inl x8))], [.inl s0, .inl s1])) h (tm_e r) := by
  unfold l297_90 at hr
  by_cases c1 : s1 = s0
  · rw [if_pos c1] at hr
    refine tm_icF rfl (fun q => q c1) ?_
    refine tm_n 2 (F' := (101, [(8, .inr (.inl x8))], [.inr (.inl x8)])) rfl ?_
    cases hr
    exact tm_retJ rfl
  · rw [if_neg c1] at hr
    refine tm_icT rfl c1 ?_
    refine tm_n 2 (F' := (101, [(8, .inr (.inl x8))], [.inr (.inl (-x8))])) rfl ?_
    cases hr
    exact tm_retJ rfl
set_option maxRecDepth 20000 in
def l297_79 (x2 : Int64) (x8 : Int64) (s0 : Int32) (h : pm_H) : tm_L := if (0 : Int32) ≤ (lg_cmp x2 (0 : Int64)) then l297_90 x8 (0 : Int32) s0 h else l297_90 x8 (1 : Int32) s0 h
set_option maxRecDepth 20000 in
theorem l297_79_t {w : Option Nat} {d : Nat} {x2 : Int64} {x8 : Int64} {s0 : Int32} {h : pm_H} {r : tm_O × pm_H} (hr : l297_79 x2 x8 s0 h = some r) : pm_to pt_P (pt_G (tm_r w)) (d + 1) (pt_g297, []) (tm_m (79, [(2, .inr (.inl x2)), (8, .inr (.inl x8))], [.inl s0])) h (tm_e r) := by
  unfold l297_79 at hr
  refine tm_n 3 (F' := (82, [(2, .inr (.inl x2)), (8, .inr (.inl x8))], [.inl (lg_cmp x2 (0 : Int64)), .inl s0])) rfl ?_
  by_cases c1 : (0 : Int32) ≤ (lg_cmp x2 (0 : Int64))
  · rw [if_pos c1] at hr
    refine tm_ifT rfl c1 ?_
    refine tm_n 1 (F' := (90, [(2, .inr (.inl x2)), (8, .inr (.inl x8))], [.inl (0 : Int32), .inl s0])) rfl ?_
    refine tm_cut (a := [(8, .inr (.inl x8))]) rfl (tm_sbs [1] rfl) ?_
    exact l297_90_t hr
  · rw [if_neg c1] at hr
    refine tm_ifF rfl c1 ?_
    refine tm_n 2 (F' := (90, [(2, .inr (.inl x2)), (8, .inr (.inl x8))], [.inl (1 : Int32), .inl s0])) rfl ?_
    refine tm_cut (a := [(8, .inr (.inl x8))]) rfl (tm_sbs [1] rfl) ?_
    exact l297_90_t hr
set_option maxRecDepth 20000 in
def l297_66 (x0 : Int64) (x2 : Int64) (s0 : Int64) (h : pm_H) : tm_L := if (0 : Int32) ≤ (lg_cmp x0 (0 : Int64)) then l297_79 x2 s0 (0 : Int32) h else l297_79 x2 s0 (1 : Int32) h
set_option maxRecDepth 20000 in
theorem l297_66_t {w : Option Nat} {d : Nat} {x0 : Int64} {x2 : Int64} {s0 : Int64} {h : pm_H} {r : tm_O × pm_H} (hr : l297_66 x0 x2 s0 h = some r) : pm_to pt_P (pt_G (tm_r w)) (d + 1) (pt_g297, []) (tm_m (66, [(0, .inr (.inl x0)), (2, .inr (.inl x2))], [.inr (.inl s0)])) h (tm_e r) := by
  unfold l297_66 at hr
  refine tm_n 4 (F' := (71, [(8, .inr (.inl s0)), (0, .inr (.inl x0)), (2, .inr (.inl x2))], [.inl (lg_cmp x0 (0 : Int64))])) rfl ?_
  by_cases c1 : (0 : Int32) ≤ (lg_cmp x0 (0 : Int64))
  · rw [if_pos c1] at hr
    refine tm_ifT rfl c1 ?_
    refine tm_n 1 (F' := (79, [(8, .inr (.inl s0)), (0, .inr (.inl x0)), (2, .inr (.inl x2))], [.inl (0 : Int32)])) rfl ?_
    refine tm_cut (a := [(2, .inr (.inl x2)), (8, .inr (.inl s0))]) rfl (tm_sbs [2, 0] rfl) ?_
    exact l297_79_t hr
  · rw [if_neg c1] at hr
    refine tm_ifF rfl c1 ?_
    refine tm_n 2 (F' := (79, [(8, .inr (.inl s0)), (0, .inr (.inl x0)), (2, .inr (.inl x2))], [.inl (1 : Int32)])) rfl ?_
    refine tm_cut (a := [(2, .inr (.inl x2)), (8, .inr (.inl s0))]) rfl (tm_sbs [2, 0] rfl) ?_
    exact l297_79_t hr
set_option maxRecDepth 20000 in
def l297_57 (x0 : Int64) (x2 : Int64) (x8 : Int64) (h : pm_H) : tm_L := l297_66 x0 x2 (x8 + (1 : Int64)) h
set_option maxRecDepth 20000 in
theorem l297_57_t {w : Option Nat} {d : Nat} {x0 : Int64} {x2 : Int64} {x8 : Int64} {h : pm_H} {r : tm_O × pm_H} (hr : l297_57 x0 x2 x8 h = some r) : pm_to pt_P (pt_G (tm_r w)) (d + 1) (pt_g297, []) (tm_m (57, [(0, .inr (.inl x0)), (2, .inr (.inl x2)), (8, .inr (.inl x8))], [])) h (tm_e r) := by
  unfold l297_57 at hr
  refine tm_n 4 (F' := (66, [(0, .inr (.inl x0)), (2, .inr (.inl x2)), (8, .inr (.inl x8))], [.inr (.inl (x8 + (1 : Int64)))])) rfl ?_
  refine tm_cut (a := [(0, .inr (.inl x0)), (2, .inr (.inl x2))]) rfl (tm_sbs [0, 1] rfl) ?_
  exact l297_66_t hr
set_option maxRecDepth 20000 in
def l297_64 (x0 : Int64) (x2 : Int64) (x8 : Int64) (h : pm_H) : tm_L := l297_66 x0 x2 x8 h
set_option maxRecDepth 20000 in
theorem l297_64_t {w : Option Nat} {d : Nat} {x0 : Int64} {x2 : Int64} {x8 : Int64} {h : pm_H} {r : tm_O × pm_H} (hr : l297_64 x0 x2 x8 h = some r) : pm_to pt_P (pt_G (tm_r w)) (d + 1) (pt_g297, []) (tm_m (64, [(0, .inr (.inl x0)), (2, .inr (.inl x2)), (8, .inr (.inl x8))], [])) h (tm_e r) := by
  unfold l297_64 at hr
  refine tm_n 1 (F' := (66, [(0, .inr (.inl x0)), (2, .inr (.inl x2)), (8, .inr (.inl x8))], [.inr (.inl x8)])) rfl ?_
  refine tm_cut (a := [(0, .inr (.inl x0)), (2, .inr (.inl x2))]) rfl (tm_sbs [0, 1] rfl) ?_
  exact l297_66_t hr
set_option maxRecDepth 20000 in
def ll_297 (a0 : Int64) (a1 : Int64) (h : pm_H) : tm_L := lb_J (ll_298 a0 h) (fun v1 h2 => lb_J (ll_298 a1 h2) (fun v4 h5 => if v4 = 0 then none else if v4 = 0 then none else if (0 : Int32) < (lg_cmp ((2 : Int64) * (v1 - v1 / v4 * v4)) v4) then l297_57 a0 a1 (v1 / v4) h5 else if (lg_cmp ((2 : Int64) * (v1 - v1 / v4 * v4)) v4) = (0 : Int32) then if (lg_cmp ((v1 / v4) - (v1 / v4) / (2 : Int64) * (2 : Int64)) (1 : Int64)) = (0 : Int32) then l297_57 a0 a1 (v1 / v4) h5 else l297_64 a0 a1 (v1 / v4) h5 else l297_64 a0 a1 (v1 / v4) h5))
set_option maxRecDepth 20000 in
theorem lq_297 {w : Option Nat} {d : Nat} {a0 : Int64} {a1 : Int64} {h : pm_H} {r : tm_O × pm_H} (hr : ll_297 a0 a1 h = some r) : tm_run pt_P (pt_G (tm_r w)) (d + 1) 297 [.inr (.inl a0), .inr (.inl a1)] h r := by
  unfold ll_297 at hr
  show pm_to pt_P (pt_G (tm_r w)) (d + 1) (pt_g297, []) (tm_m (0, [(0, .inr (.inl a0)), (2, .inr (.inl a1))], [])) h (tm_e r)
  refine tm_n 1 (F' := (1, [(0, .inr (.inl a0)), (2, .inr (.inl a1))], [.inr (.inl a0)])) rfl ?_
  rcases lb_J_s hr with ⟨v1, h2, m3, hr⟩ | ⟨a14, h2, z15, z15l, m3, qz15, rfl⟩
  · try dsimp only at hr
    refine tm_call rfl rfl (tm_callS rfl rfl) (lq_298 m3) ?_
    refine tm_n 2 (F' := (7, [(4, .inr (.inl v1)), (0, .inr (.inl a0)), (2, .inr (.inl a1))], [.inr (.inl a1)])) rfl ?_
    rcases lb_J_s hr with ⟨v4, h5, m6, hr⟩ | ⟨a12, h5, z13, z13l, m6, qz13, rfl⟩
    · try dsimp only at hr
      refine tm_call rfl rfl (tm_callS rfl rfl) (lq_298 m6) ?_
      refine tm_n 3 (F' := (16, [(6, .inr (.inl v4)), (4, .inr (.inl v1)), (0, .inr (.inl a0)), (2, .inr (.inl a1))], [.inr (.inl v4), .inr (.inl v1)])) rfl ?_
      by_cases c7 : v4 = 0
      · rw [if_pos c7] at hr
        cases hr
      · rw [if_neg c7] at hr
        refine tm_ldiv rfl c7 ?_
        refine tm_n 4 (F' := (26, [(8, .inr (.inl (v1 / v4))), (6, .inr (.inl v4)), (4, .inr (.inl v1)), (0, .inr (.inl a0)), (2, .inr (.inl a1))], [.inr (.inl v4), .inr (.inl v1), .inr (.inl (2 : Int64))])) rfl ?_
        by_cases c8 : v4 = 0
        · rw [if_pos c8] at hr
          cases hr
        · rw [if_neg c8] at hr
          refine tm_lrem rfl c8 ?_
          refine tm_n 5 (F' := (35, [(10, .inr (.inl ((2 : Int64) * (v1 - v1 / v4 * v4)))), (8, .inr (.inl (v1 / v4))), (6, .inr (.inl v4)), (4, .inr (.inl v1)), (0, .inr (.inl a0)), (2, .inr (.inl a1))], [.inl (lg_cmp ((2 : Int64) * (v1 - v1 / v4 * v4)) v4)])) rfl ?_
          by_cases c11 : (0 : Int32) < (lg_cmp ((2 : Int64) * (v1 - v1 / v4 * v4)) v4)
          · rw [if_pos c11] at hr
            refine tm_ifT rfl c11 ?_
            refine tm_cut (a := [(0, .inr (.inl a0)), (2, .inr (.inl a1)), (8, .inr (.inl (v1 / v4)))]) rfl (tm_sbs [4, 5, 1] rfl) ?_
            exact l297_57_t hr
          · rw [if_neg c11] at hr
            refine tm_ifF rfl c11 ?_
            refine tm_n 3 (F' := (43, [(10, .inr (.inl ((2 : Int64) * (v1 - v1 / v4 * v4)))), (8, .inr (.inl (v1 / v4))), (6, .inr (.inl v4)), (4, .inr (.inl v1)), (0, .inr (.inl a0)), (2, .inr (.inl a1))], [.inl (lg_cmp ((2 : Int64) * (v1 - v1 / v4 * v4)) v4)])) rfl ?_
            by_cases c10 : (lg_cmp ((2 : Int64) * (v1 - v1 / v4 * v4)) v4) = (0 : Int32)
            · rw [if_pos c10] at hr
              refine tm_ifF rfl (fun q => q c10) ?_
              refine tm_n 5 (F' := (54, [(10, .inr (.inl ((2 : Int64) * (v1 - v1 / v4 * v4)))), (8, .inr (.inl (v1 / v4))), (6, .inr (.inl v4)), (4, .inr (.inl v1)), (0, .inr (.inl a0)), (2, .inr (.inl a1))], [.inl (lg_cmp ((v1 / v4) - (v1 / v4) / (2 : Int64) * (2 : Int64)) (1 : Int64))])) rfl ?_
              by_cases c9 : (lg_cmp ((v1 / v4) - (v1 / v4) / (2 : Int64) * (2 : Int64)) (1 : Int64)) = (0 : Int32)
              · rw [if_pos c9] at hr
                refine tm_ifF rfl (fun q => q c9) ?_
                refine tm_cut (a := [(0, .inr (.inl a0)), (2, .inr (.inl a1)), (8, .inr (.inl (v1 / v4)))]) rfl (tm_sbs [4, 5, 1] rfl) ?_
                exact l297_57_t hr
              · rw [if_neg c9] at hr
                refine tm_ifT rfl c9 ?_
                refine tm_cut (a := [(0, .inr (.inl a0)), (2, .inr (.inl a1)), (8, .inr (.inl (v1 / v4)))]) rfl (tm_sbs [4, 5, 1] rfl) ?_
                exact l297_64_t hr
            · rw [if_neg c10] at hr
              refine tm_ifT rfl c10 ?_
              refine tm_cut (a := [(0, .inr (.inl a0)), (2, .inr (.inl a1)), (8, .inr (.inl (v1 / v4)))]) rfl (tm_sbs [4, 5, 1] rfl) ?_
              exact l297_64_t hr
    · exact tm_callT rfl rfl (tm_callS rfl rfl) (lq_298 m6) qz13 rfl
  · exact tm_callT rfl rfl (tm_callS rfl rfl) (lq_298 m3) qz15 rfl
-- OfficeSheetModel.joined(IJJ)J
set_option maxRecDepth 20000 in
def l296_16 (x1 : Int64) (x3 : Int64) (h : pm_H) : tm_L := if (lg_cmp x1 (4000000000 : Int64)) < (0 : Int32) then some (.inl (some (.inr (.inl x3))), h) else some (.inl (some (.inr (.inl x1))), h)
set_option maxRecDepth 20000 in
theorem l296_16_t {w : Option Nat} {d : Nat} {x1 : Int64} {x3 : Int64} {h : pm_H} {r : tm_O × pm_H} (hr : l296_16 x1 x3 h = some r) : pm_to pt_P (pt_G (tm_r w)) (d + 2) (pt_g296, []) (tm_m (16, [(1, .inr (.inl x1)), (3, .inr (.inl x3))], [])) h (tm_e r) := by
  unfold l296_16 at hr
  refine tm_n 3 (F' := (21, [(1, .inr (.inl x1)), (3, .inr (.inl x3))], [.inl (lg_cmp x1 (4000000000 : Int64))])) rfl ?_
  by_cases c1 : (lg_cmp x1 (4000000000 : Int64)) < (0 : Int32)
  · rw [if_pos c1] at hr
    refine tm_ifT rfl c1 ?_
    refine tm_n 1 (F' := (29, [(1, .inr (.inl x1)), (3, .inr (.inl x3))], [.inr (.inl x3)])) rfl ?_
    cases hr
    exact tm_retJ rfl
  · rw [if_neg c1] at hr
    refine tm_ifF rfl c1 ?_
    refine tm_n 2 (F' := (29, [(1, .inr (.inl x1)), (3, .inr (.inl x3))], [.inr (.inl x1)])) rfl ?_
    cases hr
    exact tm_retJ rfl
set_option maxRecDepth 20000 in
def l296_97 (s0 : Int64) (h : pm_H) : tm_L := lb_I (ll_295 s0 h) (fun v1 h2 => if v1 = (0 : Int32) then some (.inl (some (.inr (.inl s0))), h2) else some (.inl (some (.inr (.inl (4000000004 : Int64)))), h2))
set_option maxRecDepth 20000 in
theorem l296_97_t {w : Option Nat} {d : Nat} {s0 : Int64} {h : pm_H} {r : tm_O × pm_H} (hr : l296_97 s0 h = some r) : pm_to pt_P (pt_G (tm_r w)) (d + 2) (pt_g296, []) (tm_m (97, [], [.inr (.inl s0)])) h (tm_e r) := by
  unfold l296_97 at hr
  refine tm_n 2 (F' := (101, [(5, .inr (.inl s0))], [.inr (.inl s0)])) rfl ?_
  rcases lb_I_s hr with ⟨v1, h2, m3, hr⟩ | ⟨a5, h2, z6, z6l, m3, qz6, rfl⟩
  · try dsimp only at hr
    refine tm_call rfl rfl (tm_callS rfl rfl) (lq_295 m3) ?_
    by_cases c4 : v1 = (0 : Int32)
    · rw [if_pos c4] at hr
      refine tm_ifT rfl c4 ?_
      refine tm_n 1 (F' := (115, [(5, .inr (.inl s0))], [.inr (.inl s0)])) rfl ?_
      cases hr
      exact tm_retJ rfl
    · rw [if_neg c4] at hr
      refine tm_ifF rfl c4 ?_
      refine tm_n 2 (F' := (115, [(5, .inr (.inl s0))], [.inr (.inl (4000000004 : Int64))])) rfl ?_
      cases hr
      exact tm_retJ rfl
  · exact tm_callT rfl rfl (tm_callS rfl rfl) (lq_295 m3) qz6 rfl
set_option maxRecDepth 20000 in
def l296_46 (x0 : Int32) (x1 : Int64) (x3 : Int64) (h : pm_H) : tm_L := if x0 = (43 : Int32) then l296_97 (x1 + x3) h else if x0 = (45 : Int32) then l296_97 (x1 - x3) h else if x0 = (42 : Int32) then lb_J (ll_297 (x1 * x3) (10000 : Int64) h) (fun v1 h2 => l296_97 v1 h2) else lb_J (ll_297 (x1 * (10000 : Int64)) x3 h) (fun v6 h7 => l296_97 v6 h7)
set_option maxRecDepth 20000 in
theorem l296_46_t {w : Option Nat} {d : Nat} {x0 : Int32} {x1 : Int64} {x3 : Int64} {h : pm_H} {r : tm_O × pm_H} (hr : l296_46 x0 x1 x3 h = some r) : pm_to pt_P (pt_G (tm_r w)) (d + 2) (pt_g296, []) (tm_m (46, [(0, .inl x0), (1, .inr (.inl x1)), (3, .inr (.inl x3))], [])) h (tm_e r) := by
  unfold l296_46 at hr
  refine tm_n 2 (F' := (49, [(0, .inl x0), (1, .inr (.inl x1)), (3, .inr (.inl x3))], [.inl (43 : Int32), .inl x0])) rfl ?_
  by_cases c13 : x0 = (43 : Int32)
  · rw [if_pos c13] at hr
    refine tm_icF rfl (fun q => q c13) ?_
    refine tm_n 4 (F' := (97, [(0, .inl x0), (1, .inr (.inl x1)), (3, .inr (.inl x3))], [.inr (.inl (x1 + x3))])) rfl ?_
    refine tm_cut (a := []) rfl (tm_sbs [] rfl) ?_
    exact l296_97_t hr
  · rw [if_neg c13] at hr
    refine tm_icT rfl c13 ?_
    refine tm_n 2 (F' := (61, [(0, .inl x0), (1, .inr (.inl x1)), (3, .inr (.inl x3))], [.inl (45 : Int32), .inl x0])) rfl ?_
    by_cases c12 : x0 = (45 : Int32)
    · rw [if_pos c12] at hr
      refine tm_icF rfl (fun q => q c12) ?_
      refine tm_n 4 (F' := (97, [(0, .inl x0), (1, .inr (.inl x1)), (3, .inr (.inl x3))], [.inr (.inl (x1 - x3))])) rfl ?_
      refine tm_cut (a := []) rfl (tm_sbs [] rfl) ?_
      exact l296_97_t hr
    · rw [if_neg c12] at hr
      refine tm_icT rfl c12 ?_
      refine tm_n 2 (F' := (73, [(0, .inl x0), (1, .inr (.inl x1)), (3, .inr (.inl x3))], [.inl (42 : Int32), .inl x0])) rfl ?_
      by_cases c11 : x0 = (42 : Int32)
      · rw [if_pos c11] at hr
        refine tm_icF rfl (fun q => q c11) ?_
        refine tm_n 4 (F' := (82, [(0, .inl x0), (1, .inr (.inl x1)), (3, .inr (.inl x3))], [.inr (.inl (10000 : Int64)), .inr (.inl (x1 * x3))])) rfl ?_
        rcases lb_J_s hr with ⟨v1, h2, m3, hr⟩ | ⟨a4, h2, z5, z5l, m3, qz5, rfl⟩
        · try dsimp only at hr
          refine tm_call rfl rfl (tm_callS rfl rfl) (lq_297 m3) ?_
          refine tm_n 1 (F' := (97, [(0, .inl x0), (1, .inr (.inl x1)), (3, .inr (.inl x3))], [.inr (.inl v1)])) rfl ?_
          refine tm_cut (a := []) rfl (tm_sbs [] rfl) ?_
          exact l296_97_t hr
        · exact tm_callT rfl rfl (tm_callS rfl rfl) (lq_297 m3) qz5 rfl
      · rw [if_neg c11] at hr
        refine tm_icT rfl c11 ?_
        refine tm_n 4 (F' := (94, [(0, .inl x0), (1, .inr (.inl x1)), (3, .inr (.inl x3))], [.inr (.inl x3), .inr (.inl (x1 * (10000 : Int64)))])) rfl ?_
        rcases lb_J_s hr with ⟨v6, h7, m8, hr⟩ | ⟨a9, h7, z10, z10l, m8, qz10, rfl⟩
        · try dsimp only at hr
          refine tm_call rfl rfl (tm_callS rfl rfl) (lq_297 m8) ?_
          refine tm_cut (a := []) rfl (tm_sbs [] rfl) ?_
          exact l296_97_t hr
        · exact tm_callT rfl rfl (tm_callS rfl rfl) (lq_297 m8) qz10 rfl
set_option maxRecDepth 20000 in
def ll_296 (a0 : Int32) (a1 : Int64) (a2 : Int64) (h : pm_H) : tm_L := if (0 : Int32) ≤ (lg_cmp a1 (4000000000 : Int64)) then l296_16 a1 a2 h else if (lg_cmp a2 (4000000000 : Int64)) < (0 : Int32) then if a0 = (47 : Int32) then if (lg_cmp a2 (0 : Int64)) = (0 : Int32) then some (.inl (some (.inr (.inl (4000000001 : Int64)))), h) else l296_46 a0 a1 a2 h else l296_46 a0 a1 a2 h else l296_16 a1 a2 h
set_option maxRecDepth 20000 in
theorem lq_296 {w : Option Nat} {d : Nat} {a0 : Int32} {a1 : Int64} {a2 : Int64} {h : pm_H} {r : tm_O × pm_H} (hr : ll_296 a0 a1 a2 h = some r) : tm_run pt_P (pt_G (tm_r w)) (d + 2) 296 [.inl a0, .inr (.inl a1), .inr (.inl a2)] h r := by
  unfold ll_296 at hr
  show pm_to pt_P (pt_G (tm_r w)) (d + 2) (pt_g296, []) (tm_m (0, [(0, .inl a0), (1, .inr (.inl a1)), (3, .inr (.inl a2))], [])) h (tm_e r)
  refine tm_n 3 (F' := (5, [(0, .inl a0), (1, .inr (.inl a1)), (3, .inr (.inl a2))], [.inl (lg_cmp a1 (4000000000 : Int64))])) rfl ?_
  by_cases c4 : (0 : Int32) ≤ (lg_cmp a1 (4000000000 : Int64))
  · rw [if_pos c4] at hr
    refine tm_ifT rfl c4 ?_
    refine tm_cut (a := [(1, .inr (.inl a1)), (3, .inr (.inl a2))]) rfl (tm_sbs [1, 2] rfl) ?_
    exact l296_16_t hr
  · rw [if_neg c4] at hr
    refine tm_ifF rfl c4 ?_
    refine tm_n 3 (F' := (13, [(0, .inl a0), (1, .inr (.inl a1)), (3, .inr (.inl a2))], [.inl (lg_cmp a2 (4000000000 : Int64))])) rfl ?_
    by_cases c3 : (lg_cmp a2 (4000000000 : Int64)) < (0 : Int32)
    · rw [if_pos c3] at hr
      refine tm_ifT rfl c3 ?_
      refine tm_n 2 (F' := (33, [(0, .inl a0), (1, .inr (.inl a1)), (3, .inr (.inl a2))], [.inl (47 : Int32), .inl a0])) rfl ?_
      by_cases c2 : a0 = (47 : Int32)
      · rw [if_pos c2] at hr
        refine tm_icF rfl (fun q => q c2) ?_
        refine tm_n 3 (F' := (39, [(0, .inl a0), (1, .inr (.inl a1)), (3, .inr (.inl a2))], [.inl (lg_cmp a2 (0 : Int64))])) rfl ?_
        by_cases c1 : (lg_cmp a2 (0 : Int64)) = (0 : Int32)
        · rw [if_pos c1] at hr
          refine tm_ifF rfl (fun q => q c1) ?_
          refine tm_n 1 (F' := (45, [(0, .inl a0), (1, .inr (.inl a1)), (3, .inr (.inl a2))], [.inr (.inl (4000000001 : Int64))])) rfl ?_
          cases hr
          exact tm_retJ rfl
        · rw [if_neg c1] at hr
          refine tm_ifT rfl c1 ?_
          refine tm_cut (a := [(0, .inl a0), (1, .inr (.inl a1)), (3, .inr (.inl a2))]) rfl (tm_sbs [0, 1, 2] rfl) ?_
          exact l296_46_t hr
      · rw [if_neg c2] at hr
        refine tm_icT rfl c2 ?_
        refine tm_cut (a := [(0, .inl a0), (1, .inr (.inl a1)), (3, .inr (.inl a2))]) rfl (tm_sbs [0, 1, 2] rfl) ?_
        exact l296_46_t hr
    · rw [if_neg c3] at hr
      refine tm_ifF rfl c3 ?_
      refine tm_cut (a := [(1, .inr (.inl a1)), (3, .inr (.inl a2))]) rfl (tm_sbs [1, 2] rfl) ?_
      exact l296_16_t hr
-- OfficeSheetModel.work(II)J
set_option maxRecDepth 20000 in
def l293_261 (K8 : Option Nat → Int32 → Int32 → Int32 → Int32 → pm_H → tm_L) (x0 : Option Nat) (x1 : Int32) (x2 : Int32) (x3 : Int32) (x4 : Int32) (h : pm_H) : tm_L := K8 x0 x1 x2 x3 (x4 + (1 : Int32)) h
set_option maxRecDepth 20000 in
theorem l293_261_t {w : Option Nat} {d : Nat} {K8 : Option Nat → Int32 → Int32 → Int32 → Int32 → pm_H → tm_L} (hK8 : ∀ {x0 : Option Nat} {x1 : Int32} {x2 : Int32} {x3 : Int32} {x4 : Int32}  {h : pm_H} {r : tm_O × pm_H}, K8 x0 x1 x2 x3 x4 h = some r → pm_to pt_P (pt_G (tm_r w)) (d + 5) (pt_g293, []) (tm_m (8, [(0, .inr (.inr x0)), (1, .inl x1), (2, .inl x2), (3, .inl x3), (4, .inl x4)], [])) h (tm_e r)) {x0 : Option Nat} {x1 : Int32} {x2 : Int32} {x3 : Int32} {x4 : Int32} {h : pm_H} {r : tm_O × pm_H} (hr : l293_261 K8 x0 x1 x2 x3 x4 h = some r) : pm_to pt_P (pt_G (tm_r w)) (d + 5) (pt_g293, []) (tm_m (261, [(0, .inr (.inr x0)), (1, .inl x1), (2, .inl x2), (3, .inl x3), (4, .inl x4)], [])) h (tm_e r) := by
  unfold l293_261 at hr
  refine tm_n 2 (F' := (8, [(4, .inl (x4 + (1 : Int32))), (0, .inr (.inr x0)), (1, .inl x1), (2, .inl x2), (3, .inl x3)], [])) rfl ?_
  refine tm_cut (a := [(0, .inr (.inr x0)), (1, .inl x1), (2, .inl x2), (3, .inl x3), (4, .inl (x4 + (1 : Int32)))]) rfl (tm_sbs [1, 2, 3, 4, 0] rfl) ?_
  exact hK8 hr
set_option maxRecDepth 20000 in
def l293_137 (K8 : Option Nat → Int32 → Int32 → Int32 → Int32 → pm_H → tm_L) (x0 : Option Nat) (x1 : Int32) (x2 : Int32) (x3 : Int32) (x4 : Int32) (s0 : Int64) (s1 : Int32) (s2 : Option Nat) (h : pm_H) : tm_L := (la_S pt_P h .lastore s2 s1 (.inr (.inl s0))).bind fun h1 => l293_261 K8 x0 x1 x2 (x3 + (1 : Int32)) x4 h1
set_option maxRecDepth 20000 in
theorem l293_137_t {w : Option Nat} {d : Nat} {K8 : Option Nat → Int32 → Int32 → Int32 → Int32 → pm_H → tm_L} (hK8 : ∀ {x0 : Option Nat} {x1 : Int32} {x2 : Int32} {x3 : Int32} {x4 : Int32}  {h : pm_H} {r : tm_O × pm_H}, K8 x0 x1 x2 x3 x4 h = some r → pm_to pt_P (pt_G (tm_r w)) (d + 5) (pt_g293, []) (tm_m (8, [(0, .inr (.inr x0)), (1, .inl x1), (2, .inl x2), (3, .inl x3), (4, .inl x4)], [])) h (tm_e r)) {x0 : Option Nat} {x1 : Int32} {x2 : Int32} {x3 : Int32} {x4 : Int32} {s0 : Int64} {s1 : Int32} {s2 : Option Nat} {h : pm_H} {r : tm_O × pm_H} (hr : l293_137 K8 x0 x1 x2 x3 x4 s0 s1 s2 h = some r) : pm_to pt_P (pt_G (tm_r w)) (d + 5) (pt_g293, []) (tm_m (137, [(0, .inr (.inr x0)), (1, .inl x1), (2, .inl x2), (3, .inl x3), (4, .inl x4)], [.inr (.inl s0), .inl s1, .inr (.inr s2)])) h (tm_e r) := by
  unfold l293_137 at hr
  obtain ⟨h1, qh1, hr⟩ := Option.bind_eq_some_iff.mp hr
  refine tm_ast rfl rfl qh1 ?_
  refine tm_n 2 (F' := (261, [(3, .inl (x3 + (1 : Int32))), (0, .inr (.inr x0)), (1, .inl x1), (2, .inl x2), (4, .inl x4)], [])) rfl ?_
  refine tm_cut (a := [(0, .inr (.inr x0)), (1, .inl x1), (2, .inl x2), (3, .inl (x3 + (1 : Int32))), (4, .inl x4)]) rfl (tm_sbs [1, 2, 3, 0, 4] rfl) ?_
  exact l293_261_t hK8 hr
set_option maxRecDepth 20000 in
def l293_227 (K8 : Option Nat → Int32 → Int32 → Int32 → Int32 → pm_H → tm_L) (x0 : Option Nat) (x1 : Int32) (x2 : Int32) (x3 : Int32) (x4 : Int32) (s0 : Int64) (s1 : Int32) (s2 : Option Nat) (h : pm_H) : tm_L := (la_S pt_P h .lastore s2 s1 (.inr (.inl s0))).bind fun h1 => l293_261 K8 x0 x1 x2 x3 x4 h1
set_option maxRecDepth 20000 in
theorem l293_227_t {w : Option Nat} {d : Nat} {K8 : Option Nat → Int32 → Int32 → Int32 → Int32 → pm_H → tm_L} (hK8 : ∀ {x0 : Option Nat} {x1 : Int32} {x2 : Int32} {x3 : Int32} {x4 : Int32}  {h : pm_H} {r : tm_O × pm_H}, K8 x0 x1 x2 x3 x4 h = some r → pm_to pt_P (pt_G (tm_r w)) (d + 5) (pt_g293, []) (tm_m (8, [(0, .inr (.inr x0)), (1, .inl x1), (2, .inl x2), (3, .inl x3), (4, .inl x4)], [])) h (tm_e r)) {x0 : Option Nat} {x1 : Int32} {x2 : Int32} {x3 : Int32} {x4 : Int32} {s0 : Int64} {s1 : Int32} {s2 : Option Nat} {h : pm_H} {r : tm_O × pm_H} (hr : l293_227 K8 x0 x1 x2 x3 x4 s0 s1 s2 h = some r) : pm_to pt_P (pt_G (tm_r w)) (d + 5) (pt_g293, []) (tm_m (227, [(0, .inr (.inr x0)), (1, .inl x1), (2, .inl x2), (3, .inl x3), (4, .inl x4)], [.inr (.inl s0), .inl s1, .inr (.inr s2)])) h (tm_e r) := by
  unfold l293_227 at hr
  obtain ⟨h1, qh1, hr⟩ := Option.bind_eq_some_iff.mp hr
  refine tm_ast rfl rfl qh1 ?_
  refine tm_n 1 (F' := (261, [(0, .inr (.inr x0)), (1, .inl x1), (2, .inl x2), (3, .inl x3), (4, .inl x4)], [])) rfl ?_
  refine tm_cut (a := [(0, .inr (.inr x0)), (1, .inl x1), (2, .inl x2), (3, .inl x3), (4, .inl x4)]) rfl (tm_sbs [0, 1, 2, 3, 4] rfl) ?_
  exact l293_261_t hK8 hr
set_option maxRecDepth 20000 in
def l293_8 : Nat → Option Nat → Int32 → Int32 → Int32 → Int32 → pm_H → tm_L
  | 0 => fun _ _ _ _ _ _ => none
  | n + 1 => fun x0 x1 x2 x3 x4 h => (lf_R h x0 [10, 13]).bind fun v1 => (la_I h .iaload v1 x2).bind fun v2 => if (((20 : Int32) * x2) + v2) ≤ x4 then (lf_R h x0 [10, 38]).bind fun v3 => (la_J h .laload v3 (0 : Int32)).bind fun v4 => some (.inl (some (.inr (.inl v4))), h) else (lf_R h x0 [10, 14]).bind fun v5 => (la_I h .iaload v5 x4).bind fun v6 => if v6 = (97 : Int32) then (lf_R h x0 [10, 38]).bind fun v7 => (lf_R h x0 [10, 15]).bind fun v8 => (la_I h .iaload v8 x4).bind fun v9 => (la_S pt_P h .lastore v7 x3 (.inr (.inl (Int32.toInt64 v9)))).bind fun h10 => l293_261 (l293_8 n) x0 x1 x2 (x3 + (1 : Int32)) x4 h10 else if v6 = (114 : Int32) then (lf_R h x0 [10, 15]).bind fun v11 => (la_I h .iaload v11 x4).bind fun v12 => (lf_R h x0 [10, 15]).bind fun v13 => (la_I h .iaload v13 x4).bind fun v14 => if lc_of h x0 = some 10 then lb_I (ll_283 x0 (v12 - v12 / (128 : Int32) * (128 : Int32)) (v14 / (128 : Int32)) h) (fun v16 h17 => (lf_R h17 x0 [10, 38]).bind fun v19 => (lf_R h17 x0 [10, 15]).bind fun v20 => (la_I h17 .iaload v20 x4).bind fun v21 => if lc_of h17 x0 = some 10 then lb_I (ll_287 x0 x1 v21 h17) (fun v23 h24 => if v23 = (0 : Int32) then l293_137 (l293_8 n) x0 x1 x2 x3 x4 (4000000002 : Int64) x3 v19 h24 else if (0 : Int32) ≤ v16 then (lf_R h24 x0 [10, 37]).bind fun v26 => (la_J h24 .laload v26 v16).bind fun v27 => l293_137 (l293_8 n) x0 x1 x2 x3 x4 v27 x3 v19 h24 else l293_137 (l293_8 n) x0 x1 x2 x3 x4 (0 : Int64) x3 v19 h24) else none) else none else lb_I (ll_289 v6 h) (fun v34 h35 => if v34 = (0 : Int32) then if v6 = (126 : Int32) then (lf_R h35 x0 [10, 38]).bind fun v37 => (lf_R h35 x0 [10, 38]).bind fun v38 => (la_J h35 .laload v38 (x3 - (1 : Int32))).bind fun v39 => if (lg_cmp v39 (4000000000 : Int64)) < (0 : Int32) then (lf_R h35 x0 [10, 38]).bind fun v40 => (la_J h35 .laload v40 (x3 - (1 : Int32))).bind fun v41 => l293_227 (l293_8 n) x0 x1 x2 x3 x4 (-v41) (x3 - (1 : Int32)) v37 h35 else (lf_R h35 x0 [10, 38]).bind fun v42 => (la_J h35 .laload v42 (x3 - (1 : Int32))).bind fun v43 => l293_227 (l293_8 n) x0 x1 x2 x3 x4 v43 (x3 - (1 : Int32)) v37 h35 else (lf_R h35 x0 [10, 38]).bind fun v45 => (lf_R h35 x0 [10, 38]).bind fun v46 => (la_J h35 .laload v46 ((x3 + (-1 : Int32)) - (1 : Int32))).bind fun v47 => (lf_R h35 x0 [10, 38]).bind fun v48 => (la_J h35 .laload v48 (x3 + (-1 : Int32))).bind fun v49 => lb_J (ll_296 v6 v47 v49 h35) (fun v50 h51 => (la_S pt_P h51 .lastore v45 ((x3 + (-1 : Int32)) - (1 : Int32)) (.inr (.inl v50))).bind fun h53 => l293_261 (l293_8 n) x0 x1 x2 (x3 + (-1 : Int32)) x4 h53) else (lf_R h35 x0 [10, 38]).bind fun v57 => (lf_R h35 x0 [10, 15]).bind fun v58 => (la_I h35 .iaload v58 x4).bind fun v59 => if lc_of h35 x0 = some 10 then lb_J (ll_294 x0 x1 v6 v59 h35) (fun v61 h62 => (la_S pt_P h62 .lastore v57 x3 (.inr (.inl v61))).bind fun h64 => l293_261 (l293_8 n) x0 x1 x2 (x3 + (1 : Int32)) x4 h64) else none)
set_option maxRecDepth 20000 in
theorem l293_8_t {w : Option Nat} {d : Nat} : ∀ (n : Nat) {x0 : Option Nat} {x1 : Int32} {x2 : Int32} {x3 : Int32} {x4 : Int32} {h : pm_H} {r : tm_O × pm_H}, l293_8 n x0 x1 x2 x3 x4 h = some r → pm_to pt_P (pt_G (tm_r w)) (d + 5) (pt_g293, []) (tm_m (8, [(0, .inr (.inr x0)), (1, .inl x1), (2, .inl x2), (3, .inl x3), (4, .inl x4)], [])) h (tm_e r) := by
  intro n
  induction n with
  | zero => intro x0 x1 x2 x3 x4 h r hr; cases hr
  | succ n ih =>
    intro x0 x1 x2 x3 x4 h r hr
    unfold l293_8 at hr
    refine tm_n 5 (F' := (15, [(0, .inr (.inr x0)), (1, .inl x1), (2, .inl x2), (3, .inl x3), (4, .inl x4)], [.inr (.inr x0), .inl ((20 : Int32) * x2), .inl x4])) rfl ?_
    obtain ⟨v1, qv1, hr⟩ := Option.bind_eq_some_iff.mp hr
    refine tm_getf rfl (lf_R_V qv1) ?_
    refine tm_n 1 (F' := (19, [(0, .inr (.inr x0)), (1, .inl x1), (2, .inl x2), (3, .inl x3), (4, .inl x4)], [.inl x2, .inr (.inr v1), .inl ((20 : Int32) * x2), .inl x4])) rfl ?_
    obtain ⟨v2, qv2, hr⟩ := Option.bind_eq_some_iff.mp hr
    refine tm_ald rfl rfl (la_I_V qv2) ?_
    refine tm_n 1 (F' := (21, [(0, .inr (.inr x0)), (1, .inl x1), (2, .inl x2), (3, .inl x3), (4, .inl x4)], [.inl (((20 : Int32) * x2) + v2), .inl x4])) rfl ?_
    by_cases c72 : (((20 : Int32) * x2) + v2) ≤ x4
    · rw [if_pos c72] at hr
      refine tm_icT rfl c72 ?_
      refine tm_n 1 (F' := (268, [(0, .inr (.inr x0)), (1, .inl x1), (2, .inl x2), (3, .inl x3), (4, .inl x4)], [.inr (.inr x0)])) rfl ?_
      obtain ⟨v3, qv3, hr⟩ := Option.bind_eq_some_iff.mp hr
      refine tm_getf rfl (lf_R_V qv3) ?_
      refine tm_n 1 (F' := (272, [(0, .inr (.inr x0)), (1, .inl x1), (2, .inl x2), (3, .inl x3), (4, .inl x4)], [.inl (0 : Int32), .inr (.inr v3)])) rfl ?_
      obtain ⟨v4, qv4, hr⟩ := Option.bind_eq_some_iff.mp hr
      refine tm_ald rfl rfl (la_J_V qv4) ?_
      cases hr
      exact tm_retJ rfl
    · rw [if_neg c72] at hr
      refine tm_icF rfl c72 ?_
      refine tm_n 1 (F' := (25, [(0, .inr (.inr x0)), (1, .inl x1), (2, .inl x2), (3, .inl x3), (4, .inl x4)], [.inr (.inr x0)])) rfl ?_
      obtain ⟨v5, qv5, hr⟩ := Option.bind_eq_some_iff.mp hr
      refine tm_getf rfl (lf_R_V qv5) ?_
      refine tm_n 1 (F' := (30, [(0, .inr (.inr x0)), (1, .inl x1), (2, .inl x2), (3, .inl x3), (4, .inl x4)], [.inl x4, .inr (.inr v5)])) rfl ?_
      obtain ⟨v6, qv6, hr⟩ := Option.bind_eq_some_iff.mp hr
      refine tm_ald rfl rfl (la_I_V qv6) ?_
      refine tm_n 3 (F' := (37, [(5, .inl v6), (0, .inr (.inr x0)), (1, .inl x1), (2, .inl x2), (3, .inl x3), (4, .inl x4)], [.inl (97 : Int32), .inl v6])) rfl ?_
      by_cases c71 : v6 = (97 : Int32)
      · rw [if_pos c71] at hr
        refine tm_icF rfl (fun q => q c71) ?_
        refine tm_n 1 (F' := (41, [(5, .inl v6), (0, .inr (.inr x0)), (1, .inl x1), (2, .inl x2), (3, .inl x3), (4, .inl x4)], [.inr (.inr x0)])) rfl ?_
        obtain ⟨v7, qv7, hr⟩ := Option.bind_eq_some_iff.mp hr
        refine tm_getf rfl (lf_R_V qv7) ?_
        refine tm_n 2 (F' := (46, [(5, .inl v6), (0, .inr (.inr x0)), (1, .inl x1), (2, .inl x2), (3, .inl x3), (4, .inl x4)], [.inr (.inr x0), .inl x3, .inr (.inr v7)])) rfl ?_
        obtain ⟨v8, qv8, hr⟩ := Option.bind_eq_some_iff.mp hr
        refine tm_getf rfl (lf_R_V qv8) ?_
        refine tm_n 1 (F' := (51, [(5, .inl v6), (0, .inr (.inr x0)), (1, .inl x1), (2, .inl x2), (3, .inl x3), (4, .inl x4)], [.inl x4, .inr (.inr v8), .inl x3, .inr (.inr v7)])) rfl ?_
        obtain ⟨v9, qv9, hr⟩ := Option.bind_eq_some_iff.mp hr
        refine tm_ald rfl rfl (la_I_V qv9) ?_
        refine tm_n 1 (F' := (53, [(5, .inl v6), (0, .inr (.inr x0)), (1, .inl x1), (2, .inl x2), (3, .inl x3), (4, .inl x4)], [.inr (.inl (Int32.toInt64 v9)), .inl x3, .inr (.inr v7)])) rfl ?_
        obtain ⟨h10, qh10, hr⟩ := Option.bind_eq_some_iff.mp hr
        refine tm_ast rfl rfl qh10 ?_
        refine tm_n 2 (F' := (261, [(3, .inl (x3 + (1 : Int32))), (5, .inl v6), (0, .inr (.inr x0)), (1, .inl x1), (2, .inl x2), (4, .inl x4)], [])) rfl ?_
        refine tm_cut (a := [(0, .inr (.inr x0)), (1, .inl x1), (2, .inl x2), (3, .inl (x3 + (1 : Int32))), (4, .inl x4)]) rfl (tm_sbs [2, 3, 4, 0, 5] rfl) ?_
        exact l293_261_t (fun hr => ih hr) hr
      · rw [if_neg c71] at hr
        refine tm_icT rfl c71 ?_
        refine tm_n 2 (F' := (64, [(5, .inl v6), (0, .inr (.inr x0)), (1, .inl x1), (2, .inl x2), (3, .inl x3), (4, .inl x4)], [.inl (114 : Int32), .inl v6])) rfl ?_
        by_cases c70 : v6 = (114 : Int32)
        · rw [if_pos c70] at hr
          refine tm_icF rfl (fun q => q c70) ?_
          refine tm_n 2 (F' := (69, [(5, .inl v6), (0, .inr (.inr x0)), (1, .inl x1), (2, .inl x2), (3, .inl x3), (4, .inl x4)], [.inr (.inr x0), .inr (.inr x0)])) rfl ?_
          obtain ⟨v11, qv11, hr⟩ := Option.bind_eq_some_iff.mp hr
          refine tm_getf rfl (lf_R_V qv11) ?_
          refine tm_n 1 (F' := (74, [(5, .inl v6), (0, .inr (.inr x0)), (1, .inl x1), (2, .inl x2), (3, .inl x3), (4, .inl x4)], [.inl x4, .inr (.inr v11), .inr (.inr x0)])) rfl ?_
          obtain ⟨v12, qv12, hr⟩ := Option.bind_eq_some_iff.mp hr
          refine tm_ald rfl rfl (la_I_V qv12) ?_
          refine tm_n 3 (F' := (80, [(5, .inl v6), (0, .inr (.inr x0)), (1, .inl x1), (2, .inl x2), (3, .inl x3), (4, .inl x4)], [.inr (.inr x0), .inl (v12 - v12 / (128 : Int32) * (128 : Int32)), .inr (.inr x0)])) rfl ?_
          obtain ⟨v13, qv13, hr⟩ := Option.bind_eq_some_iff.mp hr
          refine tm_getf rfl (lf_R_V qv13) ?_
          refine tm_n 1 (F' := (85, [(5, .inl v6), (0, .inr (.inr x0)), (1, .inl x1), (2, .inl x2), (3, .inl x3), (4, .inl x4)], [.inl x4, .inr (.inr v13), .inl (v12 - v12 / (128 : Int32) * (128 : Int32)), .inr (.inr x0)])) rfl ?_
          obtain ⟨v14, qv14, hr⟩ := Option.bind_eq_some_iff.mp hr
          refine tm_ald rfl rfl (la_I_V qv14) ?_
          refine tm_n 2 (F' := (90, [(5, .inl v6), (0, .inr (.inr x0)), (1, .inl x1), (2, .inl x2), (3, .inl x3), (4, .inl x4)], [.inl (v14 / (128 : Int32)), .inl (v12 - v12 / (128 : Int32) * (128 : Int32)), .inr (.inr x0)])) rfl ?_
          by_cases c15 : lc_of h x0 = some 10
          · rw [if_pos c15] at hr
            rcases lb_I_s hr with ⟨v16, h17, m18, hr⟩ | ⟨a32, h17, z33, z33l, m18, qz33, rfl⟩
            · try dsimp only at hr
              refine tm_call rfl rfl (tm_callV rfl rfl c15 rfl rfl) (lq_283 m18) ?_
              refine tm_n 2 (F' := (96, [(6, .inl v16), (5, .inl v6), (0, .inr (.inr x0)), (1, .inl x1), (2, .inl x2), (3, .inl x3), (4, .inl x4)], [.inr (.inr x0)])) rfl ?_
              obtain ⟨v19, qv19, hr⟩ := Option.bind_eq_some_iff.mp hr
              refine tm_getf rfl (lf_R_V qv19) ?_
              refine tm_n 4 (F' := (103, [(6, .inl v16), (5, .inl v6), (0, .inr (.inr x0)), (1, .inl x1), (2, .inl x2), (3, .inl x3), (4, .inl x4)], [.inr (.inr x0), .inl x1, .inr (.inr x0), .inl x3, .inr (.inr v19)])) rfl ?_
              obtain ⟨v20, qv20, hr⟩ := Option.bind_eq_some_iff.mp hr
              refine tm_getf rfl (lf_R_V qv20) ?_
              refine tm_n 1 (F' := (108, [(6, .inl v16), (5, .inl v6), (0, .inr (.inr x0)), (1, .inl x1), (2, .inl x2), (3, .inl x3), (4, .inl x4)], [.inl x4, .inr (.inr v20), .inl x1, .inr (.inr x0), .inl x3, .inr (.inr v19)])) rfl ?_
              obtain ⟨v21, qv21, hr⟩ := Option.bind_eq_some_iff.mp hr
              refine tm_ald rfl rfl (la_I_V qv21) ?_
              by_cases c22 : lc_of h17 x0 = some 10
              · rw [if_pos c22] at hr
                rcases lb_I_s hr with ⟨v23, h24, m25, hr⟩ | ⟨a30, h24, z31, z31l, m25, qz31, rfl⟩
                · try dsimp only at hr
                  refine tm_call rfl rfl (tm_callV rfl rfl c22 rfl rfl) (lq_287 m25) ?_
                  by_cases c29 : v23 = (0 : Int32)
                  · rw [if_pos c29] at hr
                    refine tm_ifF rfl (fun q => q c29) ?_
                    refine tm_n 2 (F' := (137, [(6, .inl v16), (5, .inl v6), (0, .inr (.inr x0)), (1, .inl x1), (2, .inl x2), (3, .inl x3), (4, .inl x4)], [.inr (.inl (4000000002 : Int64)), .inl x3, .inr (.inr v19)])) rfl ?_
                    refine tm_cut (a := [(0, .inr (.inr x0)), (1, .inl x1), (2, .inl x2), (3, .inl x3), (4, .inl x4)]) rfl (tm_sbs [2, 3, 4, 5, 6] rfl) ?_
                    exact l293_137_t (fun hr => ih hr) hr
                  · rw [if_neg c29] at hr
                    refine tm_ifT rfl c29 ?_
                    refine tm_n 1 (F' := (123, [(6, .inl v16), (5, .inl v6), (0, .inr (.inr x0)), (1, .inl x1), (2, .inl x2), (3, .inl x3), (4, .inl x4)], [.inl v16, .inl x3, .inr (.inr v19)])) rfl ?_
                    by_cases c28 : (0 : Int32) ≤ v16
                    · rw [if_pos c28] at hr
                      refine tm_ifT rfl c28 ?_
                      refine tm_n 1 (F' := (131, [(6, .inl v16), (5, .inl v6), (0, .inr (.inr x0)), (1, .inl x1), (2, .inl x2), (3, .inl x3), (4, .inl x4)], [.inr (.inr x0), .inl x3, .inr (.inr v19)])) rfl ?_
                      obtain ⟨v26, qv26, hr⟩ := Option.bind_eq_some_iff.mp hr
                      refine tm_getf rfl (lf_R_V qv26) ?_
                      refine tm_n 1 (F' := (136, [(6, .inl v16), (5, .inl v6), (0, .inr (.inr x0)), (1, .inl x1), (2, .inl x2), (3, .inl x3), (4, .inl x4)], [.inl v16, .inr (.inr v26), .inl x3, .inr (.inr v19)])) rfl ?_
                      obtain ⟨v27, qv27, hr⟩ := Option.bind_eq_some_iff.mp hr
                      refine tm_ald rfl rfl (la_J_V qv27) ?_
                      refine tm_cut (a := [(0, .inr (.inr x0)), (1, .inl x1), (2, .inl x2), (3, .inl x3), (4, .inl x4)]) rfl (tm_sbs [2, 3, 4, 5, 6] rfl) ?_
                      exact l293_137_t (fun hr => ih hr) hr
                    · rw [if_neg c28] at hr
                      refine tm_ifF rfl c28 ?_
                      refine tm_n 2 (F' := (137, [(6, .inl v16), (5, .inl v6), (0, .inr (.inr x0)), (1, .inl x1), (2, .inl x2), (3, .inl x3), (4, .inl x4)], [.inr (.inl (0 : Int64)), .inl x3, .inr (.inr v19)])) rfl ?_
                      refine tm_cut (a := [(0, .inr (.inr x0)), (1, .inl x1), (2, .inl x2), (3, .inl x3), (4, .inl x4)]) rfl (tm_sbs [2, 3, 4, 5, 6] rfl) ?_
                      exact l293_137_t (fun hr => ih hr) hr
                · exact tm_callT rfl rfl (tm_callV rfl rfl c22 rfl rfl) (lq_287 m25) qz31 rfl
              · rw [if_neg c22] at hr
                cases hr
            · exact tm_callT rfl rfl (tm_callV rfl rfl c15 rfl rfl) (lq_283 m18) qz33 rfl
          · rw [if_neg c15] at hr
            cases hr
        · rw [if_neg c70] at hr
          refine tm_icT rfl c70 ?_
          refine tm_n 1 (F' := (146, [(5, .inl v6), (0, .inr (.inr x0)), (1, .inl x1), (2, .inl x2), (3, .inl x3), (4, .inl x4)], [.inl v6])) rfl ?_
          rcases lb_I_s hr with ⟨v34, h35, m36, hr⟩ | ⟨a68, h35, z69, z69l, m36, qz69, rfl⟩
          · try dsimp only at hr
            refine tm_call rfl rfl (tm_callS rfl rfl) (lq_289 m36) ?_
            by_cases c67 : v34 = (0 : Int32)
            · rw [if_pos c67] at hr
              refine tm_ifT rfl c67 ?_
              refine tm_n 2 (F' := (182, [(5, .inl v6), (0, .inr (.inr x0)), (1, .inl x1), (2, .inl x2), (3, .inl x3), (4, .inl x4)], [.inl (126 : Int32), .inl v6])) rfl ?_
              by_cases c56 : v6 = (126 : Int32)
              · rw [if_pos c56] at hr
                refine tm_icF rfl (fun q => q c56) ?_
                refine tm_n 1 (F' := (186, [(5, .inl v6), (0, .inr (.inr x0)), (1, .inl x1), (2, .inl x2), (3, .inl x3), (4, .inl x4)], [.inr (.inr x0)])) rfl ?_
                obtain ⟨v37, qv37, hr⟩ := Option.bind_eq_some_iff.mp hr
                refine tm_getf rfl (lf_R_V qv37) ?_
                refine tm_n 4 (F' := (193, [(5, .inl v6), (0, .inr (.inr x0)), (1, .inl x1), (2, .inl x2), (3, .inl x3), (4, .inl x4)], [.inr (.inr x0), .inl (x3 - (1 : Int32)), .inr (.inr v37)])) rfl ?_
                obtain ⟨v38, qv38, hr⟩ := Option.bind_eq_some_iff.mp hr
                refine tm_getf rfl (lf_R_V qv38) ?_
                refine tm_n 3 (F' := (199, [(5, .inl v6), (0, .inr (.inr x0)), (1, .inl x1), (2, .inl x2), (3, .inl x3), (4, .inl x4)], [.inl (x3 - (1 : Int32)), .inr (.inr v38), .inl (x3 - (1 : Int32)), .inr (.inr v37)])) rfl ?_
                obtain ⟨v39, qv39, hr⟩ := Option.bind_eq_some_iff.mp hr
                refine tm_ald rfl rfl (la_J_V qv39) ?_
                refine tm_n 2 (F' := (204, [(5, .inl v6), (0, .inr (.inr x0)), (1, .inl x1), (2, .inl x2), (3, .inl x3), (4, .inl x4)], [.inl (lg_cmp v39 (4000000000 : Int64)), .inl (x3 - (1 : Int32)), .inr (.inr v37)])) rfl ?_
                by_cases c44 : (lg_cmp v39 (4000000000 : Int64)) < (0 : Int32)
                · rw [if_pos c44] at hr
                  refine tm_ifT rfl c44 ?_
                  refine tm_n 1 (F' := (219, [(5, .inl v6), (0, .inr (.inr x0)), (1, .inl x1), (2, .inl x2), (3, .inl x3), (4, .inl x4)], [.inr (.inr x0), .inl (x3 - (1 : Int32)), .inr (.inr v37)])) rfl ?_
                  obtain ⟨v40, qv40, hr⟩ := Option.bind_eq_some_iff.mp hr
                  refine tm_getf rfl (lf_R_V qv40) ?_
                  refine tm_n 3 (F' := (225, [(5, .inl v6), (0, .inr (.inr x0)), (1, .inl x1), (2, .inl x2), (3, .inl x3), (4, .inl x4)], [.inl (x3 - (1 : Int32)), .inr (.inr v40), .inl (x3 - (1 : Int32)), .inr (.inr v37)])) rfl ?_
                  obtain ⟨v41, qv41, hr⟩ := Option.bind_eq_some_iff.mp hr
                  refine tm_ald rfl rfl (la_J_V qv41) ?_
                  refine tm_n 1 (F' := (227, [(5, .inl v6), (0, .inr (.inr x0)), (1, .inl x1), (2, .inl x2), (3, .inl x3), (4, .inl x4)], [.inr (.inl (-v41)), .inl (x3 - (1 : Int32)), .inr (.inr v37)])) rfl ?_
                  refine tm_cut (a := [(0, .inr (.inr x0)), (1, .inl x1), (2, .inl x2), (3, .inl x3), (4, .inl x4)]) rfl (tm_sbs [1, 2, 3, 4, 5] rfl) ?_
                  exact l293_227_t (fun hr => ih hr) hr
                · rw [if_neg c44] at hr
                  refine tm_ifF rfl c44 ?_
                  refine tm_n 1 (F' := (208, [(5, .inl v6), (0, .inr (.inr x0)), (1, .inl x1), (2, .inl x2), (3, .inl x3), (4, .inl x4)], [.inr (.inr x0), .inl (x3 - (1 : Int32)), .inr (.inr v37)])) rfl ?_
                  obtain ⟨v42, qv42, hr⟩ := Option.bind_eq_some_iff.mp hr
                  refine tm_getf rfl (lf_R_V qv42) ?_
                  refine tm_n 3 (F' := (214, [(5, .inl v6), (0, .inr (.inr x0)), (1, .inl x1), (2, .inl x2), (3, .inl x3), (4, .inl x4)], [.inl (x3 - (1 : Int32)), .inr (.inr v42), .inl (x3 - (1 : Int32)), .inr (.inr v37)])) rfl ?_
                  obtain ⟨v43, qv43, hr⟩ := Option.bind_eq_some_iff.mp hr
                  refine tm_ald rfl rfl (la_J_V qv43) ?_
                  refine tm_n 1 (F' := (227, [(5, .inl v6), (0, .inr (.inr x0)), (1, .inl x1), (2, .inl x2), (3, .inl x3), (4, .inl x4)], [.inr (.inl v43), .inl (x3 - (1 : Int32)), .inr (.inr v37)])) rfl ?_
                  refine tm_cut (a := [(0, .inr (.inr x0)), (1, .inl x1), (2, .inl x2), (3, .inl x3), (4, .inl x4)]) rfl (tm_sbs [1, 2, 3, 4, 5] rfl) ?_
                  exact l293_227_t (fun hr => ih hr) hr
              · rw [if_neg c56] at hr
                refine tm_icT rfl c56 ?_
                refine tm_n 2 (F' := (235, [(3, .inl (x3 + (-1 : Int32))), (5, .inl v6), (0, .inr (.inr x0)), (1, .inl x1), (2, .inl x2), (4, .inl x4)], [.inr (.inr x0)])) rfl ?_
                obtain ⟨v45, qv45, hr⟩ := Option.bind_eq_some_iff.mp hr
                refine tm_getf rfl (lf_R_V qv45) ?_
                refine tm_n 5 (F' := (244, [(3, .inl (x3 + (-1 : Int32))), (5, .inl v6), (0, .inr (.inr x0)), (1, .inl x1), (2, .inl x2), (4, .inl x4)], [.inr (.inr x0), .inl v6, .inl ((x3 + (-1 : Int32)) - (1 : Int32)), .inr (.inr v45)])) rfl ?_
                obtain ⟨v46, qv46, hr⟩ := Option.bind_eq_some_iff.mp hr
                refine tm_getf rfl (lf_R_V qv46) ?_
                refine tm_n 3 (F' := (250, [(3, .inl (x3 + (-1 : Int32))), (5, .inl v6), (0, .inr (.inr x0)), (1, .inl x1), (2, .inl x2), (4, .inl x4)], [.inl ((x3 + (-1 : Int32)) - (1 : Int32)), .inr (.inr v46), .inl v6, .inl ((x3 + (-1 : Int32)) - (1 : Int32)), .inr (.inr v45)])) rfl ?_
                obtain ⟨v47, qv47, hr⟩ := Option.bind_eq_some_iff.mp hr
                refine tm_ald rfl rfl (la_J_V qv47) ?_
                refine tm_n 1 (F' := (252, [(3, .inl (x3 + (-1 : Int32))), (5, .inl v6), (0, .inr (.inr x0)), (1, .inl x1), (2, .inl x2), (4, .inl x4)], [.inr (.inr x0), .inr (.inl v47), .inl v6, .inl ((x3 + (-1 : Int32)) - (1 : Int32)), .inr (.inr v45)])) rfl ?_
                obtain ⟨v48, qv48, hr⟩ := Option.bind_eq_some_iff.mp hr
                refine tm_getf rfl (lf_R_V qv48) ?_
                refine tm_n 1 (F' := (256, [(3, .inl (x3 + (-1 : Int32))), (5, .inl v6), (0, .inr (.inr x0)), (1, .inl x1), (2, .inl x2), (4, .inl x4)], [.inl (x3 + (-1 : Int32)), .inr (.inr v48), .inr (.inl v47), .inl v6, .inl ((x3 + (-1 : Int32)) - (1 : Int32)), .inr (.inr v45)])) rfl ?_
                obtain ⟨v49, qv49, hr⟩ := Option.bind_eq_some_iff.mp hr
                refine tm_ald rfl rfl (la_J_V qv49) ?_
                rcases lb_J_s hr with ⟨v50, h51, m52, hr⟩ | ⟨a54, h51, z55, z55l, m52, qz55, rfl⟩
                · try dsimp only at hr
                  refine tm_call rfl rfl (tm_callS rfl rfl) (lq_296 m52) ?_
                  obtain ⟨h53, qh53, hr⟩ := Option.bind_eq_some_iff.mp hr
                  refine tm_ast rfl rfl qh53 ?_
                  refine tm_cut (a := [(0, .inr (.inr x0)), (1, .inl x1), (2, .inl x2), (3, .inl (x3 + (-1 : Int32))), (4, .inl x4)]) rfl (tm_sbs [2, 3, 4, 0, 5] rfl) ?_
                  exact l293_261_t (fun hr => ih hr) hr
                · exact tm_callT rfl rfl (tm_callS rfl rfl) (lq_296 m52) qz55 rfl
            · rw [if_neg c67] at hr
              refine tm_ifF rfl c67 ?_
              refine tm_n 1 (F' := (153, [(5, .inl v6), (0, .inr (.inr x0)), (1, .inl x1), (2, .inl x2), (3, .inl x3), (4, .inl x4)], [.inr (.inr x0)])) rfl ?_
              obtain ⟨v57, qv57, hr⟩ := Option.bind_eq_some_iff.mp hr
              refine tm_getf rfl (lf_R_V qv57) ?_
              refine tm_n 5 (F' := (162, [(5, .inl v6), (0, .inr (.inr x0)), (1, .inl x1), (2, .inl x2), (3, .inl x3), (4, .inl x4)], [.inr (.inr x0), .inl v6, .inl x1, .inr (.inr x0), .inl x3, .inr (.inr v57)])) rfl ?_
              obtain ⟨v58, qv58, hr⟩ := Option.bind_eq_some_iff.mp hr
              refine tm_getf rfl (lf_R_V qv58) ?_
              refine tm_n 1 (F' := (167, [(5, .inl v6), (0, .inr (.inr x0)), (1, .inl x1), (2, .inl x2), (3, .inl x3), (4, .inl x4)], [.inl x4, .inr (.inr v58), .inl v6, .inl x1, .inr (.inr x0), .inl x3, .inr (.inr v57)])) rfl ?_
              obtain ⟨v59, qv59, hr⟩ := Option.bind_eq_some_iff.mp hr
              refine tm_ald rfl rfl (la_I_V qv59) ?_
              by_cases c60 : lc_of h35 x0 = some 10
              · rw [if_pos c60] at hr
                rcases lb_J_s hr with ⟨v61, h62, m63, hr⟩ | ⟨a65, h62, z66, z66l, m63, qz66, rfl⟩
                · try dsimp only at hr
                  refine tm_call rfl rfl (tm_callV rfl rfl c60 rfl rfl) (lq_294 m63) ?_
                  obtain ⟨h64, qh64, hr⟩ := Option.bind_eq_some_iff.mp hr
                  refine tm_ast rfl rfl qh64 ?_
                  refine tm_n 2 (F' := (261, [(3, .inl (x3 + (1 : Int32))), (5, .inl v6), (0, .inr (.inr x0)), (1, .inl x1), (2, .inl x2), (4, .inl x4)], [])) rfl ?_
                  refine tm_cut (a := [(0, .inr (.inr x0)), (1, .inl x1), (2, .inl x2), (3, .inl (x3 + (1 : Int32))), (4, .inl x4)]) rfl (tm_sbs [2, 3, 4, 0, 5] rfl) ?_
                  exact l293_261_t (fun hr => ih hr) hr
                · exact tm_callT rfl rfl (tm_callV rfl rfl c60 rfl rfl) (lq_294 m63) qz66 rfl
              · rw [if_neg c60] at hr
                cases hr
          · exact tm_callT rfl rfl (tm_callS rfl rfl) (lq_289 m36) qz69 rfl
set_option maxRecDepth 20000 in
def ll_293 (a0 : Option Nat) (a1 : Int32) (a2 : Int32) (h : pm_H) : tm_L := l293_8 lf_N a0 a1 a2 (0 : Int32) ((20 : Int32) * a2) h
set_option maxRecDepth 20000 in
theorem lq_293 {w : Option Nat} {d : Nat} {a0 : Option Nat} {a1 : Int32} {a2 : Int32} {h : pm_H} {r : tm_O × pm_H} (hr : ll_293 a0 a1 a2 h = some r) : tm_run pt_P (pt_G (tm_r w)) (d + 5) 293 [.inr (.inr a0), .inl a1, .inl a2] h r := by
  unfold ll_293 at hr
  show pm_to pt_P (pt_G (tm_r w)) (d + 5) (pt_g293, []) (tm_m (0, [(0, .inr (.inr a0)), (1, .inl a1), (2, .inl a2)], [])) h (tm_e r)
  refine tm_n 6 (F' := (8, [(4, .inl ((20 : Int32) * a2)), (3, .inl (0 : Int32)), (0, .inr (.inr a0)), (1, .inl a1), (2, .inl a2)], [])) rfl ?_
  refine tm_cut (a := [(0, .inr (.inr a0)), (1, .inl a1), (2, .inl a2), (3, .inl (0 : Int32)), (4, .inl ((20 : Int32) * a2))]) rfl (tm_sbs [2, 3, 4, 1, 0] rfl) ?_
  exact l293_8_t lf_N hr
