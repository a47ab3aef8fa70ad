/-! lifted: 154, 144, 156, 131, 159, 158, 160, 157, 130, 129, 164, 163, 166, 167, 165, 162, 161, 171, 173, 172 -/
-- OfficeSheet$Reader.readNumber()LOfficeSheet$Part;
set_option maxRecDepth 20000 in
def l154_35 (w : Option Nat) (x0 : Option Nat) (h : pm_H) : tm_L := if lc_of h x0 = some 1 then lb_V (ll_145 x0 h) (fun h3 => lb_R (ll_146 (0 : Int64) h3) (fun v5 h6 => some (.inl (some (.inr (.inr v5))), h6))) else none
set_option maxRecDepth 20000 in
theorem l154_35_t {w : Option Nat} {d : Nat} {x0 : Option Nat} {h : pm_H} {r : tm_O × pm_H} (hr : l154_35 w x0 h = some r) : pm_to pt_P (pt_G (tm_r w)) (d + 5) (pt_g154, []) (tm_m (35, [(0, .inr (.inr x0))], [])) h (tm_e r) := by
  unfold l154_35 at hr
  refine tm_n 1 (F' := (36, [(0, .inr (.inr x0))], [.inr (.inr x0)])) rfl ?_
  by_cases c1 : lc_of h x0 = some 1
  · rw [if_pos c1] at hr
    rcases lb_V_s hr with ⟨h3, m4, hr⟩ | ⟨a10, h3, z11, z11l, m4, qz11, rfl⟩
    · try dsimp only at hr
      refine tm_call rfl rfl (tm_callV rfl rfl c1 rfl rfl) (lq_145 m4) ?_
      refine tm_n 1 (F' := (40, [(0, .inr (.inr x0))], [.inr (.inl (0 : Int64))])) rfl ?_
      rcases lb_R_s hr with ⟨v5, h6, m7, hr⟩ | ⟨a8, h6, z9, z9l, m7, qz9, rfl⟩
      · try dsimp only at hr
        refine tm_call rfl rfl (tm_callS rfl rfl) (lq_146 m7) ?_
        cases hr
        exact tm_retR rfl
      · exact tm_callT rfl rfl (tm_callS rfl rfl) (lq_146 m7) qz9 rfl
    · exact tm_callT rfl rfl (tm_callV rfl rfl c1 rfl rfl) (lq_145 m4) qz11 rfl
  · rw [if_neg c1] at hr
    cases hr
set_option maxRecDepth 20000 in
def l154_20 (w : Option Nat) (x0 : Option Nat) (s0 : Int64) (h : pm_H) : tm_L := if (lg_cmp s0 (0 : Int64)) < (0 : Int32) then l154_35 w x0 h else if (lg_cmp s0 (1000000000 : Int64)) ≤ (0 : Int32) then if lc_of h x0 = some 1 then lb_V (ll_141 x0 h) (fun h3 => lb_R (ll_146 s0 h3) (fun v5 h6 => some (.inl (some (.inr (.inr v5))), h6))) else none else l154_35 w x0 h
set_option maxRecDepth 20000 in
theorem l154_20_t {w : Option Nat} {d : Nat} {x0 : Option Nat} {s0 : Int64} {h : pm_H} {r : tm_O × pm_H} (hr : l154_20 w x0 s0 h = some r) : pm_to pt_P (pt_G (tm_r w)) (d + 5) (pt_g154, []) (tm_m (20, [(0, .inr (.inr x0))], [.inr (.inl s0)])) h (tm_e r) := by
  unfold l154_20 at hr
  refine tm_n 4 (F' := (24, [(1, .inr (.inl s0)), (0, .inr (.inr x0))], [.inl (lg_cmp s0 (0 : Int64))])) rfl ?_
  by_cases c13 : (lg_cmp s0 (0 : Int64)) < (0 : Int32)
  · rw [if_pos c13] at hr
    refine tm_ifT rfl c13 ?_
    refine tm_cut (a := [(0, .inr (.inr x0))]) rfl (tm_sbs [1] rfl) ?_
    exact l154_35_t hr
  · rw [if_neg c13] at hr
    refine tm_ifF rfl c13 ?_
    refine tm_n 3 (F' := (32, [(1, .inr (.inl s0)), (0, .inr (.inr x0))], [.inl (lg_cmp s0 (1000000000 : Int64))])) rfl ?_
    by_cases c12 : (lg_cmp s0 (1000000000 : Int64)) ≤ (0 : Int32)
    · rw [if_pos c12] at hr
      refine tm_ifT rfl c12 ?_
      refine tm_n 1 (F' := (45, [(1, .inr (.inl s0)), (0, .inr (.inr x0))], [.inr (.inr x0)])) rfl ?_
      by_cases c1 : lc_of h x0 = some 1
      · rw [if_pos c1] at hr
        rcases lb_V_s hr with ⟨h3, m4, hr⟩ | ⟨a10, h3, z11, z11l, m4, qz11, rfl⟩
        · try dsimp only at hr
          refine tm_call rfl rfl (tm_callV rfl rfl c1 rfl rfl) (lq_141 m4) ?_
          refine tm_n 1 (F' := (49, [(1, .inr (.inl s0)), (0, .inr (.inr x0))], [.inr (.inl s0)])) rfl ?_
          rcases lb_R_s hr with ⟨v5, h6, m7, hr⟩ | ⟨a8, h6, z9, z9l, m7, qz9, rfl⟩
          · try dsimp only at hr
            refine tm_call rfl rfl (tm_callS rfl rfl) (lq_146 m7) ?_
            cases hr
            exact tm_retR rfl
          · exact tm_callT rfl rfl (tm_callS rfl rfl) (lq_146 m7) qz9 rfl
        · exact tm_callT rfl rfl (tm_callV rfl rfl c1 rfl rfl) (lq_141 m4) qz11 rfl
      · rw [if_neg c1] at hr
        cases hr
    · rw [if_neg c12] at hr
      refine tm_ifF rfl c12 ?_
      refine tm_cut (a := [(0, .inr (.inr x0))]) rfl (tm_sbs [1] rfl) ?_
      exact l154_35_t hr
set_option maxRecDepth 20000 in
def ll_154 (w : Option Nat) (a0 : Option Nat) (h : pm_H) : tm_L := if lc_of h a0 = some 1 then lb_I (ll_140 w a0 h) (fun v2 h3 => lb_I (ll_136 v2 h3) (fun v5 h6 => if v5 = (0 : Int32) then l154_20 w a0 (-1 : Int64) h6 else if lc_of h6 a0 = some 1 then lb_J (ll_155 w a0 h6) (fun v9 h10 => l154_20 w a0 v9 h10) else none)) else none
set_option maxRecDepth 20000 in
theorem lq_154 {w : Option Nat} {d : Nat} {a0 : Option Nat} {h : pm_H} {r : tm_O × pm_H} (hr : ll_154 w a0 h = some r) : tm_run pt_P (pt_G (tm_r w)) (d + 5) 154 [.inr (.inr a0)] h r := by
  unfold ll_154 at hr
  show pm_to pt_P (pt_G (tm_r w)) (d + 5) (pt_g154, []) (tm_m (0, [(0, .inr (.inr a0))], [])) h (tm_e r)
  refine tm_n 1 (F' := (1, [(0, .inr (.inr a0))], [.inr (.inr a0)])) rfl ?_
  by_cases c1 : lc_of h a0 = some 1
  · rw [if_pos c1] at hr
    rcases lb_I_s hr with ⟨v2, h3, m4, hr⟩ | ⟨a17, h3, z18, z18l, m4, qz18, rfl⟩
    · try dsimp only at hr
      refine tm_call rfl rfl (tm_callV rfl rfl c1 rfl rfl) (lq_140 m4) ?_
      rcases lb_I_s hr with ⟨v5, h6, m7, hr⟩ | ⟨a15, h6, z16, z16l, m7, qz16, rfl⟩
      · try dsimp only at hr
        refine tm_call rfl rfl (tm_callS rfl rfl) (lq_136 m7) ?_
        by_cases c14 : v5 = (0 : Int32)
        · rw [if_pos c14] at hr
          refine tm_ifT rfl c14 ?_
          refine tm_n 1 (F' := (20, [(0, .inr (.inr a0))], [.inr (.inl (-1 : Int64))])) rfl ?_
          refine tm_cut (a := [(0, .inr (.inr a0))]) rfl (tm_sbs [0] rfl) ?_
          exact l154_20_t hr
        · rw [if_neg c14] at hr
          refine tm_ifF rfl c14 ?_
          refine tm_n 1 (F' := (11, [(0, .inr (.inr a0))], [.inr (.inr a0)])) rfl ?_
          by_cases c8 : lc_of h6 a0 = some 1
          · rw [if_pos c8] at hr
            rcases lb_J_s hr with ⟨v9, h10, m11, hr⟩ | ⟨a12, h10, z13, z13l, m11, qz13, rfl⟩
            · try dsimp only at hr
              refine tm_call rfl rfl (tm_callV rfl rfl c8 rfl rfl) (lq_155 m11) ?_
              refine tm_n 1 (F' := (20, [(0, .inr (.inr a0))], [.inr (.inl v9)])) rfl ?_
              refine tm_cut (a := [(0, .inr (.inr a0))]) rfl (tm_sbs [0] rfl) ?_
              exact l154_20_t hr
            · exact tm_callT rfl rfl (tm_callV rfl rfl c8 rfl rfl) (lq_155 m11) qz13 rfl
          · rw [if_neg c8] at hr
            cases hr
      · exact tm_callT rfl rfl (tm_callS rfl rfl) (lq_136 m7) qz16 rfl
    · exact tm_callT rfl rfl (tm_callV rfl rfl c1 rfl rfl) (lq_140 m4) qz18 rfl
  · rw [if_neg c1] at hr
    cases hr
-- OfficeSheet$Reader.readFactor(I)LOfficeSheet$Part;
set_option maxRecDepth 20000 in
def lm_144 (w : Option Nat) (X : Option Nat → Int32 → pm_H → tm_L) (a0 : Option Nat) (a1 : Int32) (h : pm_H) : tm_L := if a1 ≤ (20 : Int32) then if lc_of h a0 = some 1 then lb_I (ll_139 w a0 (45 : Int32) h) (fun v2 h3 => if v2 = (0 : Int32) then if lc_of h3 a0 = some 1 then lb_I (ll_139 w a0 (40 : Int32) h3) (fun v6 h7 => if v6 = (0 : Int32) then if lc_of h7 a0 = some 1 then lb_I (ll_139 w a0 (115 : Int32) h7) (fun v10 h11 => if v10 = (0 : Int32) then if lc_of h11 a0 = some 1 then lb_I (ll_139 w a0 (110 : Int32) h11) (fun v14 h15 => if v14 = (0 : Int32) then if lc_of h15 a0 = some 1 then lb_I (ll_139 w a0 (109 : Int32) h15) (fun v18 h19 => if v18 = (0 : Int32) then if lc_of h19 a0 = some 1 then lb_I (ll_140 w a0 h19) (fun v22 h23 => lb_I (ll_138 v22 h23) (fun v25 h26 => if v25 = (0 : Int32) then if lc_of h26 a0 = some 1 then lb_R (ll_154 w a0 h26) (fun v29 h30 => some (.inl (some (.inr (.inr v29))), h30)) else none else if lc_of h26 a0 = some 1 then lb_R (ll_150 w a0 h26) (fun v35 h36 => some (.inl (some (.inr (.inr v35))), h36)) else none)) else none else if lc_of h19 a0 = some 1 then lb_R (ll_149 w a0 (some 17) h19) (fun v46 h47 => some (.inl (some (.inr (.inr v46))), h47)) else none) else none else if lc_of h15 a0 = some 1 then lb_R (ll_149 w a0 (some 16) h15) (fun v55 h56 => some (.inl (some (.inr (.inr v55))), h56)) else none) else none else if lc_of h11 a0 = some 1 then lb_R (ll_149 w a0 (some 15) h11) (fun v64 h65 => some (.inl (some (.inr (.inr v64))), h65)) else none) else none else if lc_of h7 a0 = some 1 then lb_V (ll_141 a0 h7) (fun h74 => if lc_of h74 a0 = some 1 then lb_R (ll_142 w X a0 (a1 + (1 : Int32)) h74) (fun v77 h78 => if lc_of h78 a0 = some 1 then lb_V (ll_148 w a0 (41 : Int32) h78) (fun h82 => some (.inl (some (.inr (.inr v77))), h82)) else none) else none) else none) else none else if lc_of h3 a0 = some 1 then lb_V (ll_141 a0 h3) (fun h95 => lb_h (lf_new h95 9 8 [.null, .null, .null, .long 0, .null, .null, .null, .null]) fun h97 => if lc_of h97 a0 = some 1 then lb_R (X a0 (a1 + (1 : Int32)) h97) (fun v99 h100 => lb_V (ll_147 (some h95.1.length) (some 10) none v99 h100) (fun h103 => some (.inl (some (.inr (.inr (some h95.1.length)))), h103))) else none) else none) else none else if lc_of h a0 = some 1 then lb_V (ll_145 a0 h) (fun h116 => lb_R (ll_146 (0 : Int64) h116) (fun v118 h119 => some (.inl (some (.inr (.inr v118))), h119))) else none
set_option maxRecDepth 20000 in
theorem lmt_144 {w : Option Nat} {d : Nat} {X : Option Nat → Int32 → pm_H → tm_L} (hX : ∀ {b0 : Option Nat} {b1 : Int32} {h : pm_H} {r : tm_O × pm_H}, X b0 b1 h = some r → tm_run pt_P (pt_G (tm_r w)) (d + 20) 144 [.inr (.inr b0), .inl b1] h r) {a0 : Option Nat} {a1 : Int32} {h : pm_H} {r : tm_O × pm_H} (hr : lm_144 w X a0 a1 h = some r) : tm_run pt_P (pt_G (tm_r w)) (d + 23) 144 [.inr (.inr a0), .inl a1] h r := by
  unfold lm_144 at hr
  show pm_to pt_P (pt_G (tm_r w)) (d + 23) (pt_g144, []) (tm_m (0, [(0, .inr (.inr a0)), (1, .inl a1)], [])) h (tm_e r)
  refine tm_n 2 (F' := (3, [(0, .inr (.inr a0)), (1, .inl a1)], [.inl (20 : Int32), .inl a1])) rfl ?_
  by_cases c125 : a1 ≤ (20 : Int32)
  · rw [if_pos c125] at hr
    refine tm_icT rfl c125 ?_
    refine tm_n 2 (F' := (18, [(0, .inr (.inr a0)), (1, .inl a1)], [.inl (45 : Int32), .inr (.inr a0)])) rfl ?_
    by_cases c1 : lc_of h a0 = some 1
    · rw [if_pos c1] at hr
      rcases lb_I_s hr with ⟨v2, h3, m4, hr⟩ | ⟨a112, h3, z113, z113l, m4, qz113, rfl⟩
      · try dsimp only at hr
        refine tm_call rfl rfl (tm_callV rfl rfl c1 rfl rfl) (lq_139 m4) ?_
        by_cases c111 : v2 = (0 : Int32)
        · rw [if_pos c111] at hr
          refine tm_ifT rfl c111 ?_
          refine tm_n 2 (F' := (50, [(0, .inr (.inr a0)), (1, .inl a1)], [.inl (40 : Int32), .inr (.inr a0)])) rfl ?_
          by_cases c5 : lc_of h3 a0 = some 1
          · rw [if_pos c5] at hr
            rcases lb_I_s hr with ⟨v6, h7, m8, hr⟩ | ⟨a91, h7, z92, z92l, m8, qz92, rfl⟩
            · try dsimp only at hr
              refine tm_call rfl rfl (tm_callV rfl rfl c5 rfl rfl) (lq_139 m8) ?_
              by_cases c90 : v6 = (0 : Int32)
              · rw [if_pos c90] at hr
                refine tm_ifT rfl c90 ?_
                refine tm_n 2 (F' := (79, [(0, .inr (.inr a0)), (1, .inl a1)], [.inl (115 : Int32), .inr (.inr a0)])) rfl ?_
                by_cases c9 : lc_of h7 a0 = some 1
                · rw [if_pos c9] at hr
                  rcases lb_I_s hr with ⟨v10, h11, m12, hr⟩ | ⟨a70, h11, z71, z71l, m12, qz71, rfl⟩
                  · try dsimp only at hr
                    refine tm_call rfl rfl (tm_callV rfl rfl c9 rfl rfl) (lq_139 m12) ?_
                    by_cases c69 : v10 = (0 : Int32)
                    · rw [if_pos c69] at hr
                      refine tm_ifT rfl c69 ?_
                      refine tm_n 2 (F' := (96, [(0, .inr (.inr a0)), (1, .inl a1)], [.inl (110 : Int32), .inr (.inr a0)])) rfl ?_
                      by_cases c13 : lc_of h11 a0 = some 1
                      · rw [if_pos c13] at hr
                        rcases lb_I_s hr with ⟨v14, h15, m16, hr⟩ | ⟨a61, h15, z62, z62l, m16, qz62, rfl⟩
                        · try dsimp only at hr
                          refine tm_call rfl rfl (tm_callV rfl rfl c13 rfl rfl) (lq_139 m16) ?_
                          by_cases c60 : v14 = (0 : Int32)
                          · rw [if_pos c60] at hr
                            refine tm_ifT rfl c60 ?_
                            refine tm_n 2 (F' := (113, [(0, .inr (.inr a0)), (1, .inl a1)], [.inl (109 : Int32), .inr (.inr a0)])) rfl ?_
                            by_cases c17 : lc_of h15 a0 = some 1
                            · rw [if_pos c17] at hr
                              rcases lb_I_s hr with ⟨v18, h19, m20, hr⟩ | ⟨a52, h19, z53, z53l, m20, qz53, rfl⟩
                              · try dsimp only at hr
                                refine tm_call rfl rfl (tm_callV rfl rfl c17 rfl rfl) (lq_139 m20) ?_
                                by_cases c51 : v18 = (0 : Int32)
                                · rw [if_pos c51] at hr
                                  refine tm_ifT rfl c51 ?_
                                  refine tm_n 1 (F' := (128, [(0, .inr (.inr a0)), (1, .inl a1)], [.inr (.inr a0)])) rfl ?_
                                  by_cases c21 : lc_of h19 a0 = some 1
                                  · rw [if_pos c21] at hr
                                    rcases lb_I_s hr with ⟨v22, h23, m24, hr⟩ | ⟨a43, h23, z44, z44l, m24, qz44, rfl⟩
                                    · try dsimp only at hr
                                      refine tm_call rfl rfl (tm_callV rfl rfl c21 rfl rfl) (lq_140 m24) ?_
                                      rcases lb_I_s hr with ⟨v25, h26, m27, hr⟩ | ⟨a41, h26, z42, z42l, m27, qz42, rfl⟩
                                      · try dsimp only at hr
                                        refine tm_call rfl rfl (tm_callS rfl rfl) (lq_138 m27) ?_
                                        by_cases c40 : v25 = (0 : Int32)
                                        · rw [if_pos c40] at hr
                                          refine tm_ifT rfl c40 ?_
                                          refine tm_n 1 (F' := (145, [(0, .inr (.inr a0)), (1, .inl a1)], [.inr (.inr a0)])) rfl ?_
                                          by_cases c28 : lc_of h26 a0 = some 1
                                          · rw [if_pos c28] at hr
                                            rcases lb_R_s hr with ⟨v29, h30, m31, hr⟩ | ⟨a32, h30, z33, z33l, m31, qz33, rfl⟩
                                            · try dsimp only at hr
                                              refine tm_call rfl rfl (tm_callV rfl rfl c28 rfl rfl) (lq_154 m31) ?_
                                              cases hr
                                              exact tm_retR rfl
                                            · exact tm_callT rfl rfl (tm_callV rfl rfl c28 rfl rfl) (lq_154 m31) qz33 rfl
                                          · rw [if_neg c28] at hr
                                            cases hr
                                        · rw [if_neg c40] at hr
                                          refine tm_ifF rfl c40 ?_
                                          refine tm_n 1 (F' := (138, [(0, .inr (.inr a0)), (1, .inl a1)], [.inr (.inr a0)])) rfl ?_
                                          by_cases c34 : lc_of h26 a0 = some 1
                                          · rw [if_pos c34] at hr
                                            rcases lb_R_s hr with ⟨v35, h36, m37, hr⟩ | ⟨a38, h36, z39, z39l, m37, qz39, rfl⟩
                                            · try dsimp only at hr
                                              refine tm_call rfl rfl (tm_callV rfl rfl c34 rfl rfl) (lq_150 m37) ?_
                                              refine tm_n 1 (F' := (148, [(0, .inr (.inr a0)), (1, .inl a1)], [.inr (.inr v35)])) rfl ?_
                                              cases hr
                                              exact tm_retR rfl
                                            · exact tm_callT rfl rfl (tm_callV rfl rfl c34 rfl rfl) (lq_150 m37) qz39 rfl
                                          · rw [if_neg c34] at hr
                                            cases hr
                                      · exact tm_callT rfl rfl (tm_callS rfl rfl) (lq_138 m27) qz42 rfl
                                    · exact tm_callT rfl rfl (tm_callV rfl rfl c21 rfl rfl) (lq_140 m24) qz44 rfl
                                  · rw [if_neg c21] at hr
                                    cases hr
                                · rw [if_neg c51] at hr
                                  refine tm_ifF rfl c51 ?_
                                  refine tm_n 2 (F' := (123, [(0, .inr (.inr a0)), (1, .inl a1)], [.inr (.inr (some 17)), .inr (.inr a0)])) rfl ?_
                                  by_cases c45 : lc_of h19 a0 = some 1
                                  · rw [if_pos c45] at hr
                                    rcases lb_R_s hr with ⟨v46, h47, m48, hr⟩ | ⟨a49, h47, z50, z50l, m48, qz50, rfl⟩
                                    · try dsimp only at hr
                                      refine tm_call rfl rfl (tm_callV rfl rfl c45 rfl rfl) (lq_149 m48) ?_
                                      cases hr
                                      exact tm_retR rfl
                                    · exact tm_callT rfl rfl (tm_callV rfl rfl c45 rfl rfl) (lq_149 m48) qz50 rfl
                                  · rw [if_neg c45] at hr
                                    cases hr
                              · exact tm_callT rfl rfl (tm_callV rfl rfl c17 rfl rfl) (lq_139 m20) qz53 rfl
                            · rw [if_neg c17] at hr
                              cases hr
                          · rw [if_neg c60] at hr
                            refine tm_ifF rfl c60 ?_
                            refine tm_n 2 (F' := (106, [(0, .inr (.inr a0)), (1, .inl a1)], [.inr (.inr (some 16)), .inr (.inr a0)])) rfl ?_
                            by_cases c54 : lc_of h15 a0 = some 1
                            · rw [if_pos c54] at hr
                              rcases lb_R_s hr with ⟨v55, h56, m57, hr⟩ | ⟨a58, h56, z59, z59l, m57, qz59, rfl⟩
                              · try dsimp only at hr
                                refine tm_call rfl rfl (tm_callV rfl rfl c54 rfl rfl) (lq_149 m57) ?_
                                cases hr
                                exact tm_retR rfl
                              · exact tm_callT rfl rfl (tm_callV rfl rfl c54 rfl rfl) (lq_149 m57) qz59 rfl
                            · rw [if_neg c54] at hr
                              cases hr
                        · exact tm_callT rfl rfl (tm_callV rfl rfl c13 rfl rfl) (lq_139 m16) qz62 rfl
                      · rw [if_neg c13] at hr
                        cases hr
                    · rw [if_neg c69] at hr
                      refine tm_ifF rfl c69 ?_
                      refine tm_n 2 (F' := (89, [(0, .inr (.inr a0)), (1, .inl a1)], [.inr (.inr (some 15)), .inr (.inr a0)])) rfl ?_
                      by_cases c63 : lc_of h11 a0 = some 1
                      · rw [if_pos c63] at hr
                        rcases lb_R_s hr with ⟨v64, h65, m66, hr⟩ | ⟨a67, h65, z68, z68l, m66, qz68, rfl⟩
                        · try dsimp only at hr
                          refine tm_call rfl rfl (tm_callV rfl rfl c63 rfl rfl) (lq_149 m66) ?_
                          cases hr
                          exact tm_retR rfl
                        · exact tm_callT rfl rfl (tm_callV rfl rfl c63 rfl rfl) (lq_149 m66) qz68 rfl
                      · rw [if_neg c63] at hr
                        cases hr
                  · exact tm_callT rfl rfl (tm_callV rfl rfl c9 rfl rfl) (lq_139 m12) qz71 rfl
                · rw [if_neg c9] at hr
                  cases hr
              · rw [if_neg c90] at hr
                refine tm_ifF rfl c90 ?_
                refine tm_n 1 (F' := (57, [(0, .inr (.inr a0)), (1, .inl a1)], [.inr (.inr a0)])) rfl ?_
                by_cases c72 : lc_of h7 a0 = some 1
                · rw [if_pos c72] at hr
                  rcases lb_V_s hr with ⟨h74, m75, hr⟩ | ⟨a88, h74, z89, z89l, m75, qz89, rfl⟩
                  · try dsimp only at hr
                    refine tm_call rfl rfl (tm_callV rfl rfl c72 rfl rfl) (lq_141 m75) ?_
                    refine tm_n 4 (F' := (64, [(0, .inr (.inr a0)), (1, .inl a1)], [.inl (a1 + (1 : Int32)), .inr (.inr a0)])) rfl ?_
                    by_cases c76 : lc_of h74 a0 = some 1
                    · rw [if_pos c76] at hr
                      rcases lb_R_s hr with ⟨v77, h78, m79, hr⟩ | ⟨a86, h78, z87, z87l, m79, qz87, rfl⟩
                      · try dsimp only at hr
                        refine tm_call rfl rfl (tm_callV rfl rfl c76 rfl rfl) (lq_142 hX m79) ?_
                        refine tm_n 3 (F' := (71, [(2, .inr (.inr v77)), (0, .inr (.inr a0)), (1, .inl a1)], [.inl (41 : Int32), .inr (.inr a0)])) rfl ?_
                        by_cases c80 : lc_of h78 a0 = some 1
                        · rw [if_pos c80] at hr
                          rcases lb_V_s hr with ⟨h82, m83, hr⟩ | ⟨a84, h82, z85, z85l, m83, qz85, rfl⟩
                          · try dsimp only at hr
                            refine tm_call rfl rfl (tm_callV rfl rfl c80 rfl rfl) (lq_148 m83) ?_
                            refine tm_n 1 (F' := (75, [(2, .inr (.inr v77)), (0, .inr (.inr a0)), (1, .inl a1)], [.inr (.inr v77)])) rfl ?_
                            cases hr
                            exact tm_retR rfl
                          · exact tm_callT rfl rfl (tm_callV rfl rfl c80 rfl rfl) (lq_148 m83) qz85 rfl
                        · rw [if_neg c80] at hr
                          cases hr
                      · exact tm_callT rfl rfl (tm_callV rfl rfl c76 rfl rfl) (lq_142 hX m79) qz87 rfl
                    · rw [if_neg c76] at hr
                      cases hr
                  · exact tm_callT rfl rfl (tm_callV rfl rfl c72 rfl rfl) (lq_141 m75) qz89 rfl
                · rw [if_neg c72] at hr
                  cases hr
            · exact tm_callT rfl rfl (tm_callV rfl rfl c5 rfl rfl) (lq_139 m8) qz92 rfl
          · rw [if_neg c5] at hr
            cases hr
        · rw [if_neg c111] at hr
          refine tm_ifF rfl c111 ?_
          refine tm_n 1 (F' := (25, [(0, .inr (.inr a0)), (1, .inl a1)], [.inr (.inr a0)])) rfl ?_
          by_cases c93 : lc_of h3 a0 = some 1
          · rw [if_pos c93] at hr
            rcases lb_V_s hr with ⟨h95, m96, hr⟩ | ⟨a109, h95, z110, z110l, m96, qz110, rfl⟩
            · try dsimp only at hr
              refine tm_call rfl rfl (tm_callV rfl rfl c93 rfl rfl) (lq_141 m96) ?_
              obtain ⟨h97, eh97, hr⟩ := lb_h_s hr
              refine tm_new rfl ?_
              rw [← eh97]
              refine tm_n 7 (F' := (40, [(0, .inr (.inr a0)), (1, .inl a1)], [.inl (a1 + (1 : Int32)), .inr (.inr a0), .inr (.inr none), .inr (.inr (some 10)), .inr (.inr (some h95.1.length)), .inr (.inr (some h95.1.length))])) rfl ?_
              by_cases c98 : lc_of h97 a0 = some 1
              · rw [if_pos c98] at hr
                rcases lb_R_s hr with ⟨v99, h100, m101, hr⟩ | ⟨a107, h100, z108, z108l, m101, qz108, rfl⟩
                · try dsimp only at hr
                  refine tm_call rfl rfl (tm_callV rfl rfl c98 rfl rfl) (tm_dp (by omega) <| hX m101) ?_
                  rcases lb_V_s hr with ⟨h103, m104, hr⟩ | ⟨a105, h103, z106, z106l, m104, qz106, rfl⟩
                  · try dsimp only at hr
                    refine tm_call rfl rfl (tm_callP rfl rfl rfl) (lq_147 m104) ?_
                    cases hr
                    exact tm_retR rfl
                  · exact tm_callT rfl rfl (tm_callP rfl rfl rfl) (lq_147 m104) qz106 rfl
                · exact tm_callT rfl rfl (tm_callV rfl rfl c98 rfl rfl) (tm_dp (by omega) <| hX m101) qz108 rfl
              · rw [if_neg c98] at hr
                cases hr
            · exact tm_callT rfl rfl (tm_callV rfl rfl c93 rfl rfl) (lq_141 m96) qz110 rfl
          · rw [if_neg c93] at hr
            cases hr
      · exact tm_callT rfl rfl (tm_callV rfl rfl c1 rfl rfl) (lq_139 m4) qz113 rfl
    · rw [if_neg c1] at hr
      cases hr
  · rw [if_neg c125] at hr
    refine tm_icF rfl c125 ?_
    refine tm_n 1 (F' := (7, [(0, .inr (.inr a0)), (1, .inl a1)], [.inr (.inr a0)])) rfl ?_
    by_cases c114 : lc_of h a0 = some 1
    · rw [if_pos c114] at hr
      rcases lb_V_s hr with ⟨h116, m117, hr⟩ | ⟨a123, h116, z124, z124l, m117, qz124, rfl⟩
      · try dsimp only at hr
        refine tm_call rfl rfl (tm_callV rfl rfl c114 rfl rfl) (lq_145 m117) ?_
        refine tm_n 1 (F' := (11, [(0, .inr (.inr a0)), (1, .inl a1)], [.inr (.inl (0 : Int64))])) rfl ?_
        rcases lb_R_s hr with ⟨v118, h119, m120, hr⟩ | ⟨a121, h119, z122, z122l, m120, qz122, rfl⟩
        · try dsimp only at hr
          refine tm_call rfl rfl (tm_callS rfl rfl) (lq_146 m120) ?_
          cases hr
          exact tm_retR rfl
        · exact tm_callT rfl rfl (tm_callS rfl rfl) (lq_146 m120) qz122 rfl
      · exact tm_callT rfl rfl (tm_callV rfl rfl c114 rfl rfl) (lq_145 m117) qz124 rfl
    · rw [if_neg c114] at hr
      cases hr
set_option maxRecDepth 20000 in
def ll_144 (w : Option Nat) : Nat → Option Nat → Int32 → pm_H → tm_L
  | 0 => fun _ _ _ => none
  | n + 1 => lm_144 w (ll_144 w n)
set_option maxRecDepth 20000 in
theorem lq_144 {w : Option Nat} {d : Nat} : ∀ (n : Nat) {a0 : Option Nat} {a1 : Int32} {h : pm_H} {r : tm_O × pm_H}, ll_144 w n a0 a1 h = some r → tm_run pt_P (pt_G (tm_r w)) (d + 3 * n + 20) 144 [.inr (.inr a0), .inl a1] h r := by
  intro n
  induction n with
  | zero => intro a0 a1 h r hr; cases hr
  | succ n ih =>
    intro a0 a1 h r hr
    exact lmt_144 (d := d + 3 * n) (fun hr => ih hr) hr
set_option maxRecDepth 20000 in
theorem lq_144f {w : Option Nat} {d : Nat} {a0 : Option Nat} {a1 : Int32} {h : pm_H} {r : tm_O × pm_H} (hr : ll_144 w 40 a0 a1 h = some r) : tm_run pt_P (pt_G (tm_r w)) (d + 120 + 20) 144 [.inr (.inr a0), .inl a1] h r := lq_144 (d := d) 40 hr
-- OfficeSheet$Reader.readSignedNumber()LOfficeSheet$Part;
set_option maxRecDepth 20000 in
def l156_15 (w : Option Nat) (x0 : Option Nat) (x1 : Int32) (h : pm_H) : tm_L := if lc_of h x0 = some 1 then lb_R (ll_154 w x0 h) (fun v2 h3 => if x1 = (0 : Int32) then some (.inl (some (.inr (.inr v2))), h3) else (lf_J h3 v2 [9, 3]).bind fun v5 => lb_R (ll_146 (-v5) h3) (fun v6 h7 => some (.inl (some (.inr (.inr v6))), h7))) else none
set_option maxRecDepth 20000 in
theorem l156_15_t {w : Option Nat} {d : Nat} {x0 : Option Nat} {x1 : Int32} {h : pm_H} {r : tm_O × pm_H} (hr : l156_15 w x0 x1 h = some r) : pm_to pt_P (pt_G (tm_r w)) (d + 6) (pt_g156, []) (tm_m (15, [(0, .inr (.inr x0)), (1, .inl x1)], [])) h (tm_e r) := by
  unfold l156_15 at hr
  refine tm_n 1 (F' := (16, [(0, .inr (.inr x0)), (1, .inl x1)], [.inr (.inr x0)])) rfl ?_
  by_cases c1 : lc_of h x0 = some 1
  · rw [if_pos c1] at hr
    rcases lb_R_s hr with ⟨v2, h3, m4, hr⟩ | ⟨a12, h3, z13, z13l, m4, qz13, rfl⟩
    · try dsimp only at hr
      refine tm_call rfl rfl (tm_callV rfl rfl c1 rfl rfl) (lq_154 m4) ?_
      refine tm_n 2 (F' := (21, [(2, .inr (.inr v2)), (0, .inr (.inr x0)), (1, .inl x1)], [.inl x1])) rfl ?_
      by_cases c11 : x1 = (0 : Int32)
      · rw [if_pos c11] at hr
        refine tm_ifT rfl c11 ?_
        refine tm_n 1 (F' := (36, [(2, .inr (.inr v2)), (0, .inr (.inr x0)), (1, .inl x1)], [.inr (.inr v2)])) rfl ?_
        cases hr
        exact tm_retR rfl
      · rw [if_neg c11] at hr
        refine tm_ifF rfl c11 ?_
        refine tm_n 1 (F' := (25, [(2, .inr (.inr v2)), (0, .inr (.inr x0)), (1, .inl x1)], [.inr (.inr v2)])) rfl ?_
        obtain ⟨v5, qv5, hr⟩ := Option.bind_eq_some_iff.mp hr
        refine tm_getf rfl (lf_J_V qv5) ?_
        refine tm_n 1 (F' := (29, [(2, .inr (.inr v2)), (0, .inr (.inr x0)), (1, .inl x1)], [.inr (.inl (-v5))])) rfl ?_
        rcases lb_R_s hr with ⟨v6, h7, m8, hr⟩ | ⟨a9, h7, z10, z10l, m8, qz10, rfl⟩
        · try dsimp only at hr
          refine tm_call rfl rfl (tm_callS rfl rfl) (lq_146 m8) ?_
          refine tm_n 1 (F' := (36, [(2, .inr (.inr v2)), (0, .inr (.inr x0)), (1, .inl x1)], [.inr (.inr v6)])) rfl ?_
          cases hr
          exact tm_retR rfl
        · exact tm_callT rfl rfl (tm_callS rfl rfl) (lq_146 m8) qz10 rfl
    · exact tm_callT rfl rfl (tm_callV rfl rfl c1 rfl rfl) (lq_154 m4) qz13 rfl
  · rw [if_neg c1] at hr
    cases hr
set_option maxRecDepth 20000 in
def ll_156 (w : Option Nat) (a0 : Option Nat) (h : pm_H) : tm_L := if lc_of h a0 = some 1 then lb_I (ll_139 w a0 (45 : Int32) h) (fun v2 h3 => if v2 = (0 : Int32) then l156_15 w a0 v2 h3 else if lc_of h3 a0 = some 1 then lb_V (ll_141 a0 h3) (fun h7 => l156_15 w a0 v2 h7) else none) else none
set_option maxRecDepth 20000 in
theorem lq_156 {w : Option Nat} {d : Nat} {a0 : Option Nat} {h : pm_H} {r : tm_O × pm_H} (hr : ll_156 w a0 h = some r) : tm_run pt_P (pt_G (tm_r w)) (d + 6) 156 [.inr (.inr a0)] h r := by
  unfold ll_156 at hr
  show pm_to pt_P (pt_G (tm_r w)) (d + 6) (pt_g156, []) (tm_m (0, [(0, .inr (.inr a0))], [])) h (tm_e r)
  refine tm_n 2 (F' := (3, [(0, .inr (.inr a0))], [.inl (45 : Int32), .inr (.inr a0)])) rfl ?_
  by_cases c1 : lc_of h a0 = some 1
  · rw [if_pos c1] at hr
    rcases lb_I_s hr with ⟨v2, h3, m4, hr⟩ | ⟨a12, h3, z13, z13l, m4, qz13, rfl⟩
    · try dsimp only at hr
      refine tm_call rfl rfl (tm_callV rfl rfl c1 rfl rfl) (lq_139 m4) ?_
      refine tm_n 2 (F' := (8, [(1, .inl v2), (0, .inr (.inr a0))], [.inl v2])) rfl ?_
      by_cases c11 : v2 = (0 : Int32)
      · rw [if_pos c11] at hr
        refine tm_ifT rfl c11 ?_
        refine tm_cut (a := [(0, .inr (.inr a0)), (1, .inl v2)]) rfl (tm_sbs [1, 0] rfl) ?_
        exact l156_15_t hr
      · rw [if_neg c11] at hr
        refine tm_ifF rfl c11 ?_
        refine tm_n 1 (F' := (12, [(1, .inl v2), (0, .inr (.inr a0))], [.inr (.inr a0)])) rfl ?_
        by_cases c5 : lc_of h3 a0 = some 1
        · rw [if_pos c5] at hr
          rcases lb_V_s hr with ⟨h7, m8, hr⟩ | ⟨a9, h7, z10, z10l, m8, qz10, rfl⟩
          · try dsimp only at hr
            refine tm_call rfl rfl (tm_callV rfl rfl c5 rfl rfl) (lq_141 m8) ?_
            refine tm_cut (a := [(0, .inr (.inr a0)), (1, .inl v2)]) rfl (tm_sbs [1, 0] rfl) ?_
            exact l156_15_t hr
          · exact tm_callT rfl rfl (tm_callV rfl rfl c5 rfl rfl) (lq_141 m8) qz10 rfl
        · rw [if_neg c5] at hr
          cases hr
    · exact tm_callT rfl rfl (tm_callV rfl rfl c1 rfl rfl) (lq_139 m4) qz13 rfl
  · rw [if_neg c1] at hr
    cases hr
-- OfficeSheet$Reader.read(LOfficeSheet$Axis;LOfficeSheet$Axis;)LOfficeSheet$Part;
set_option maxRecDepth 20000 in
def l131_71 (w : Option Nat) (x0 : Option Nat) (x3 : Option Nat) (h : pm_H) : tm_L := (lf_I h x0 [1, 3]).bind fun v1 => (lf_I h x0 [1, 2]).bind fun v2 => if v2 ≤ v1 then some (.inl (some (.inr (.inr x3))), h) else if lc_of h x0 = some 1 then lb_V (ll_145 x0 h) (fun h5 => some (.inl (some (.inr (.inr x3))), h5)) else none
set_option maxRecDepth 20000 in
theorem l131_71_t {w : Option Nat} {d : Nat} {x0 : Option Nat} {x3 : Option Nat} {h : pm_H} {r : tm_O × pm_H} (hr : l131_71 w x0 x3 h = some r) : pm_to pt_P (pt_G (tm_r w)) (d + 143) (pt_g131, []) (tm_m (71, [(0, .inr (.inr x0)), (3, .inr (.inr x3))], [])) h (tm_e r) := by
  unfold l131_71 at hr
  refine tm_n 1 (F' := (72, [(0, .inr (.inr x0)), (3, .inr (.inr x3))], [.inr (.inr x0)])) rfl ?_
  obtain ⟨v1, qv1, hr⟩ := Option.bind_eq_some_iff.mp hr
  refine tm_getf rfl (lf_I_V qv1) ?_
  refine tm_n 1 (F' := (76, [(0, .inr (.inr x0)), (3, .inr (.inr x3))], [.inr (.inr x0), .inl v1])) rfl ?_
  obtain ⟨v2, qv2, hr⟩ := Option.bind_eq_some_iff.mp hr
  refine tm_getf rfl (lf_I_V qv2) ?_
  by_cases c9 : v2 ≤ v1
  · rw [if_pos c9] at hr
    refine tm_icT rfl c9 ?_
    refine tm_n 1 (F' := (87, [(0, .inr (.inr x0)), (3, .inr (.inr x3))], [.inr (.inr x3)])) rfl ?_
    cases hr
    exact tm_retR rfl
  · rw [if_neg c9] at hr
    refine tm_icF rfl c9 ?_
    refine tm_n 1 (F' := (83, [(0, .inr (.inr x0)), (3, .inr (.inr x3))], [.inr (.inr x0)])) rfl ?_
    by_cases c3 : lc_of h x0 = some 1
    · rw [if_pos c3] at hr
      rcases lb_V_s hr with ⟨h5, m6, hr⟩ | ⟨a7, h5, z8, z8l, m6, qz8, rfl⟩
      · try dsimp only at hr
        refine tm_call rfl rfl (tm_callV rfl rfl c3 rfl rfl) (lq_145 m6) ?_
        refine tm_n 1 (F' := (87, [(0, .inr (.inr x0)), (3, .inr (.inr x3))], [.inr (.inr x3)])) rfl ?_
        cases hr
        exact tm_retR rfl
      · exact tm_callT rfl rfl (tm_callV rfl rfl c3 rfl rfl) (lq_145 m6) qz8 rfl
    · rw [if_neg c3] at hr
      cases hr
set_option maxRecDepth 20000 in
def ll_131 (w : Option Nat) (a0 : Option Nat) (a1 : Option Nat) (a2 : Option Nat) (h : pm_H) : tm_L := (lf_P 81 h a0 [2, 1, 5] (.inr (.inr a1))).bind fun h1 => (lf_P 81 h1 a0 [2, 1, 6] (.inr (.inr a2))).bind fun h2 => if lc_of h2 a0 = some 1 then lb_V (ll_132 w a0 h2) (fun h5 => (lf_P 81 h5 a0 [0, 1, 3] (.inl (0 : Int32))).bind fun h7 => (lf_P 81 h7 a0 [0, 1, 4] (.inl (-1 : Int32))).bind fun h8 => (lf_I h8 a0 [1, 2]).bind fun v9 => if v9 = (0 : Int32) then some (.inl (some (.inr (.inr none))), h8) else if lc_of h8 a0 = some 1 then lb_I (ll_139 w a0 (61 : Int32) h8) (fun v11 h12 => if v11 = (0 : Int32) then if lc_of h12 a0 = some 1 then lb_R (ll_156 w a0 h12) (fun v15 h16 => l131_71 w a0 v15 h16) else none else if lc_of h12 a0 = some 1 then lb_V (ll_141 a0 h12) (fun h22 => lb_h (lf_new h22 9 8 [.null, .null, .null, .long 0, .null, .null, .null, .null]) fun h24 => if lc_of h24 a0 = some 1 then lb_R (ll_142 w (ll_144 w 40) a0 (0 : Int32) h24) (fun v26 h27 => lb_V (ll_147 (some h22.1.length) (some 7) none v26 h27) (fun h30 => l131_71 w a0 (some h22.1.length) h30)) else none) else none) else none) else none
set_option maxRecDepth 20000 in
theorem lq_131 {w : Option Nat} {d : Nat} {a0 : Option Nat} {a1 : Option Nat} {a2 : Option Nat} {h : pm_H} {r : tm_O × pm_H} (hr : ll_131 w a0 a1 a2 h = some r) : tm_run pt_P (pt_G (tm_r w)) (d + 143) 131 [.inr (.inr a0), .inr (.inr a1), .inr (.inr a2)] h r := by
  unfold ll_131 at hr
  show pm_to pt_P (pt_G (tm_r w)) (d + 143) (pt_g131, []) (tm_m (0, [(0, .inr (.inr a0)), (1, .inr (.inr a1)), (2, .inr (.inr a2))], [])) h (tm_e r)
  refine tm_n 2 (F' := (2, [(0, .inr (.inr a0)), (1, .inr (.inr a1)), (2, .inr (.inr a2))], [.inr (.inr a1), .inr (.inr a0)])) rfl ?_
  obtain ⟨h1, qh1, hr⟩ := Option.bind_eq_some_iff.mp hr
  refine tm_putf rfl qh1 ?_
  refine tm_n 2 (F' := (7, [(0, .inr (.inr a0)), (1, .inr (.inr a1)), (2, .inr (.inr a2))], [.inr (.inr a2), .inr (.inr a0)])) rfl ?_
  obtain ⟨h2, qh2, hr⟩ := Option.bind_eq_some_iff.mp hr
  refine tm_putf rfl qh2 ?_
  refine tm_n 1 (F' := (11, [(0, .inr (.inr a0)), (1, .inr (.inr a1)), (2, .inr (.inr a2))], [.inr (.inr a0)])) rfl ?_
  by_cases c3 : lc_of h2 a0 = some 1
  · rw [if_pos c3] at hr
    rcases lb_V_s hr with ⟨h5, m6, hr⟩ | ⟨a42, h5, z43, z43l, m6, qz43, rfl⟩
    · try dsimp only at hr
      refine tm_call rfl rfl (tm_callV rfl rfl c3 rfl rfl) (lq_132 m6) ?_
      refine tm_n 2 (F' := (16, [(0, .inr (.inr a0)), (1, .inr (.inr a1)), (2, .inr (.inr a2))], [.inl (0 : Int32), .inr (.inr a0)])) rfl ?_
      obtain ⟨h7, qh7, hr⟩ := Option.bind_eq_some_iff.mp hr
      refine tm_putf rfl qh7 ?_
      refine tm_n 2 (F' := (21, [(0, .inr (.inr a0)), (1, .inr (.inr a1)), (2, .inr (.inr a2))], [.inl (-1 : Int32), .inr (.inr a0)])) rfl ?_
      obtain ⟨h8, qh8, hr⟩ := Option.bind_eq_some_iff.mp hr
      refine tm_putf rfl qh8 ?_
      refine tm_n 1 (F' := (25, [(0, .inr (.inr a0)), (1, .inr (.inr a1)), (2, .inr (.inr a2))], [.inr (.inr a0)])) rfl ?_
      obtain ⟨v9, qv9, hr⟩ := Option.bind_eq_some_iff.mp hr
      refine tm_getf rfl (lf_I_V qv9) ?_
      by_cases c41 : v9 = (0 : Int32)
      · rw [if_pos c41] at hr
        refine tm_ifF rfl (fun q => q c41) ?_
        refine tm_n 1 (F' := (32, [(0, .inr (.inr a0)), (1, .inr (.inr a1)), (2, .inr (.inr a2))], [.inr (.inr none)])) rfl ?_
        cases hr
        exact tm_retR rfl
      · rw [if_neg c41] at hr
        refine tm_ifT rfl c41 ?_
        refine tm_n 2 (F' := (36, [(0, .inr (.inr a0)), (1, .inr (.inr a1)), (2, .inr (.inr a2))], [.inl (61 : Int32), .inr (.inr a0)])) rfl ?_
        by_cases c10 : lc_of h8 a0 = some 1
        · rw [if_pos c10] at hr
          rcases lb_I_s hr with ⟨v11, h12, m13, hr⟩ | ⟨a39, h12, z40, z40l, m13, qz40, rfl⟩
          · try dsimp only at hr
            refine tm_call rfl rfl (tm_callV rfl rfl c10 rfl rfl) (lq_139 m13) ?_
            by_cases c38 : v11 = (0 : Int32)
            · rw [if_pos c38] at hr
              refine tm_ifT rfl c38 ?_
              refine tm_n 1 (F' := (67, [(0, .inr (.inr a0)), (1, .inr (.inr a1)), (2, .inr (.inr a2))], [.inr (.inr a0)])) rfl ?_
              by_cases c14 : lc_of h12 a0 = some 1
              · rw [if_pos c14] at hr
                rcases lb_R_s hr with ⟨v15, h16, m17, hr⟩ | ⟨a18, h16, z19, z19l, m17, qz19, rfl⟩
                · try dsimp only at hr
                  refine tm_call rfl rfl (tm_callV rfl rfl c14 rfl rfl) (lq_156 m17) ?_
                  refine tm_n 1 (F' := (71, [(3, .inr (.inr v15)), (0, .inr (.inr a0)), (1, .inr (.inr a1)), (2, .inr (.inr a2))], [])) rfl ?_
                  refine tm_cut (a := [(0, .inr (.inr a0)), (3, .inr (.inr v15))]) rfl (tm_sbs [1, 0] rfl) ?_
                  exact l131_71_t hr
                · exact tm_callT rfl rfl (tm_callV rfl rfl c14 rfl rfl) (lq_156 m17) qz19 rfl
              · rw [if_neg c14] at hr
                cases hr
            · rw [if_neg c38] at hr
              refine tm_ifF rfl c38 ?_
              refine tm_n 1 (F' := (43, [(0, .inr (.inr a0)), (1, .inr (.inr a1)), (2, .inr (.inr a2))], [.inr (.inr a0)])) rfl ?_
              by_cases c20 : lc_of h12 a0 = some 1
              · rw [if_pos c20] at hr
                rcases lb_V_s hr with ⟨h22, m23, hr⟩ | ⟨a36, h22, z37, z37l, m23, qz37, rfl⟩
                · try dsimp only at hr
                  refine tm_call rfl rfl (tm_callV rfl rfl c20 rfl rfl) (lq_141 m23) ?_
                  obtain ⟨h24, eh24, hr⟩ := lb_h_s hr
                  refine tm_new rfl ?_
                  rw [← eh24]
                  refine tm_n 5 (F' := (56, [(0, .inr (.inr a0)), (1, .inr (.inr a1)), (2, .inr (.inr a2))], [.inl (0 : Int32), .inr (.inr a0), .inr (.inr none), .inr (.inr (some 7)), .inr (.inr (some h22.1.length)), .inr (.inr (some h22.1.length))])) rfl ?_
                  by_cases c25 : lc_of h24 a0 = some 1
                  · rw [if_pos c25] at hr
                    rcases lb_R_s hr with ⟨v26, h27, m28, hr⟩ | ⟨a34, h27, z35, z35l, m28, qz35, rfl⟩
                    · try dsimp only at hr
                      refine tm_call rfl rfl (tm_callV rfl rfl c25 rfl rfl) (lq_142 (d := _ + 120) (fun hr => lq_144f hr) m28) ?_
                      rcases lb_V_s hr with ⟨h30, m31, hr⟩ | ⟨a32, h30, z33, z33l, m31, qz33, rfl⟩
                      · try dsimp only at hr
                        refine tm_call rfl rfl (tm_callP rfl rfl rfl) (lq_147 m31) ?_
                        refine tm_n 2 (F' := (71, [(3, .inr (.inr (some h22.1.length))), (0, .inr (.inr a0)), (1, .inr (.inr a1)), (2, .inr (.inr a2))], [])) rfl ?_
                        refine tm_cut (a := [(0, .inr (.inr a0)), (3, .inr (.inr (some h22.1.length)))]) rfl (tm_sbs [1, 0] rfl) ?_
                        exact l131_71_t hr
                      · exact tm_callT rfl rfl (tm_callP rfl rfl rfl) (lq_147 m31) qz33 rfl
                    · exact tm_callT rfl rfl (tm_callV rfl rfl c25 rfl rfl) (lq_142 (d := _ + 120) (fun hr => lq_144f hr) m28) qz35 rfl
                  · rw [if_neg c25] at hr
                    cases hr
                · exact tm_callT rfl rfl (tm_callV rfl rfl c20 rfl rfl) (lq_141 m23) qz37 rfl
              · rw [if_neg c20] at hr
                cases hr
          · exact tm_callT rfl rfl (tm_callV rfl rfl c10 rfl rfl) (lq_139 m13) qz40 rfl
        · rw [if_neg c10] at hr
          cases hr
    · exact tm_callT rfl rfl (tm_callV rfl rfl c3 rfl rfl) (lq_132 m6) qz43 rfl
  · rw [if_neg c3] at hr
    cases hr
-- OfficeSheet$Office.writeThatCounts(LOfficeSheet$Line;LOfficeSheet$Line;)LOfficeSheet$Act;
set_option maxRecDepth 20000 in
def l159_2 : Nat → Option Nat → Option Nat → Option Nat → Int32 → pm_H → tm_L
  | 0 => fun _ _ _ _ _ => none
  | n + 1 => fun x0 x1 x2 x3 h => (lf_R h x0 [4, 4]).bind fun v1 => if lc_of h v1 = some 12 then lb_I (ll_86 v1 h) (fun v3 h4 => if v3 ≤ x3 then some (.inl (some (.inr (.inr none))), h4) else (lf_R h4 x0 [4, 4]).bind fun v6 => if lc_of h4 v6 = some 12 then lb_R (ll_87 v6 x3 h4) (fun v8 h9 => if lf_cc 81 h9 v8 [7] = true then if lc_of h9 v8 = some 7 then lb_I (ll_102 v8 x1 x2 h9) (fun v13 h14 => if v13 = (0 : Int32) then l159_2 n x0 x1 x2 (x3 + (1 : Int32)) h14 else (lf_R h14 x0 [4, 4]).bind fun v16 => if lc_of h14 v16 = some 12 then lb_R (ll_87 v16 x3 h14) (fun v18 h19 => if lf_cc 81 h19 v18 [7] = true then some (.inl (some (.inr (.inr v18))), h19) else none) else none) else none else none) else none) else none
set_option maxRecDepth 20000 in
theorem l159_2_t {w : Option Nat} {d : Nat} : ∀ (n : Nat) {x0 : Option Nat} {x1 : Option Nat} {x2 : Option Nat} {x3 : Int32} {h : pm_H} {r : tm_O × pm_H}, l159_2 n x0 x1 x2 x3 h = some r → pm_to pt_P (pt_G (tm_r w)) (d + 3) (pt_g159, []) (tm_m (2, [(0, .inr (.inr x0)), (1, .inr (.inr x1)), (2, .inr (.inr x2)), (3, .inl x3)], [])) h (tm_e r) := by
  intro n
  induction n with
  | zero => intro x0 x1 x2 x3 h r hr; cases hr
  | succ n ih =>
    intro x0 x1 x2 x3 h r hr
    unfold l159_2 at hr
    refine tm_n 2 (F' := (4, [(0, .inr (.inr x0)), (1, .inr (.inr x1)), (2, .inr (.inr x2)), (3, .inl x3)], [.inr (.inr x0), .inl x3])) rfl ?_
    obtain ⟨v1, qv1, hr⟩ := Option.bind_eq_some_iff.mp hr
    refine tm_getf rfl (lf_R_V qv1) ?_
    by_cases c2 : lc_of h v1 = some 12
    · rw [if_pos c2] at hr
      rcases lb_I_s hr with ⟨v3, h4, m5, hr⟩ | ⟨a30, h4, z31, z31l, m5, qz31, rfl⟩
      · try dsimp only at hr
        refine tm_call rfl rfl (tm_callV rfl rfl c2 rfl rfl) (lq_86 m5) ?_
        by_cases c29 : v3 ≤ x3
        · rw [if_pos c29] at hr
          refine tm_icT rfl c29 ?_
          refine tm_n 1 (F' := (51, [(0, .inr (.inr x0)), (1, .inr (.inr x1)), (2, .inr (.inr x2)), (3, .inl x3)], [.inr (.inr none)])) rfl ?_
          cases hr
          exact tm_retR rfl
        · rw [if_neg c29] at hr
          refine tm_icF rfl c29 ?_
          refine tm_n 1 (F' := (14, [(0, .inr (.inr x0)), (1, .inr (.inr x1)), (2, .inr (.inr x2)), (3, .inl x3)], [.inr (.inr x0)])) rfl ?_
          obtain ⟨v6, qv6, hr⟩ := Option.bind_eq_some_iff.mp hr
          refine tm_getf rfl (lf_R_V qv6) ?_
          refine tm_n 1 (F' := (18, [(0, .inr (.inr x0)), (1, .inr (.inr x1)), (2, .inr (.inr x2)), (3, .inl x3)], [.inl x3, .inr (.inr v6)])) rfl ?_
          by_cases c7 : lc_of h4 v6 = some 12
          · rw [if_pos c7] at hr
            rcases lb_R_s hr with ⟨v8, h9, m10, hr⟩ | ⟨a27, h9, z28, z28l, m10, qz28, rfl⟩
            · try dsimp only at hr
              refine tm_call rfl rfl (tm_callV rfl rfl c7 rfl rfl) (lq_87 m10) ?_
              by_cases c11 : lf_cc 81 h9 v8 [7] = true
              · rw [if_pos c11] at hr
                refine tm_cc rfl c11 ?_
                refine tm_n 2 (F' := (26, [(0, .inr (.inr x0)), (1, .inr (.inr x1)), (2, .inr (.inr x2)), (3, .inl x3)], [.inr (.inr x2), .inr (.inr x1), .inr (.inr v8)])) rfl ?_
                by_cases c12 : lc_of h9 v8 = some 7
                · rw [if_pos c12] at hr
                  rcases lb_I_s hr with ⟨v13, h14, m15, hr⟩ | ⟨a25, h14, z26, z26l, m15, qz26, rfl⟩
                  · try dsimp only at hr
                    refine tm_call rfl rfl (tm_callV rfl rfl c12 rfl rfl) (lq_102 m15) ?_
                    by_cases c24 : v13 = (0 : Int32)
                    · rw [if_pos c24] at hr
                      refine tm_ifT rfl c24 ?_
                      refine tm_n 2 (F' := (2, [(3, .inl (x3 + (1 : Int32))), (0, .inr (.inr x0)), (1, .inr (.inr x1)), (2, .inr (.inr x2))], [])) rfl ?_
                      refine tm_cut (a := [(0, .inr (.inr x0)), (1, .inr (.inr x1)), (2, .inr (.inr x2)), (3, .inl (x3 + (1 : Int32)))]) rfl (tm_sbs [1, 2, 3, 0] rfl) ?_
                      exact ih hr
                    · rw [if_neg c24] at hr
                      refine tm_ifF rfl c24 ?_
                      refine tm_n 1 (F' := (33, [(0, .inr (.inr x0)), (1, .inr (.inr x1)), (2, .inr (.inr x2)), (3, .inl x3)], [.inr (.inr x0)])) rfl ?_
                      obtain ⟨v16, qv16, hr⟩ := Option.bind_eq_some_iff.mp hr
                      refine tm_getf rfl (lf_R_V qv16) ?_
                      refine tm_n 1 (F' := (37, [(0, .inr (.inr x0)), (1, .inr (.inr x1)), (2, .inr (.inr x2)), (3, .inl x3)], [.inl x3, .inr (.inr v16)])) rfl ?_
                      by_cases c17 : lc_of h14 v16 = some 12
                      · rw [if_pos c17] at hr
                        rcases lb_R_s hr with ⟨v18, h19, m20, hr⟩ | ⟨a22, h19, z23, z23l, m20, qz23, rfl⟩
                        · try dsimp only at hr
                          refine tm_call rfl rfl (tm_callV rfl rfl c17 rfl rfl) (lq_87 m20) ?_
                          by_cases c21 : lf_cc 81 h19 v18 [7] = true
                          · rw [if_pos c21] at hr
                            refine tm_cc rfl c21 ?_
                            cases hr
                            exact tm_retR rfl
                          · rw [if_neg c21] at hr
                            cases hr
                        · exact tm_callT rfl rfl (tm_callV rfl rfl c17 rfl rfl) (lq_87 m20) qz23 rfl
                      · rw [if_neg c17] at hr
                        cases hr
                  · exact tm_callT rfl rfl (tm_callV rfl rfl c12 rfl rfl) (lq_102 m15) qz26 rfl
                · rw [if_neg c12] at hr
                  cases hr
              · rw [if_neg c11] at hr
                cases hr
            · exact tm_callT rfl rfl (tm_callV rfl rfl c7 rfl rfl) (lq_87 m10) qz28 rfl
          · rw [if_neg c7] at hr
            cases hr
      · exact tm_callT rfl rfl (tm_callV rfl rfl c2 rfl rfl) (lq_86 m5) qz31 rfl
    · rw [if_neg c2] at hr
      cases hr
set_option maxRecDepth 20000 in
def ll_159 (a0 : Option Nat) (a1 : Option Nat) (a2 : Option Nat) (h : pm_H) : tm_L := l159_2 lf_N a0 a1 a2 (0 : Int32) h
set_option maxRecDepth 20000 in
theorem lq_159 {w : Option Nat} {d : Nat} {a0 : Option Nat} {a1 : Option Nat} {a2 : Option Nat} {h : pm_H} {r : tm_O × pm_H} (hr : ll_159 a0 a1 a2 h = some r) : tm_run pt_P (pt_G (tm_r w)) (d + 3) 159 [.inr (.inr a0), .inr (.inr a1), .inr (.inr a2)] h r := by
  unfold ll_159 at hr
  show pm_to pt_P (pt_G (tm_r w)) (d + 3) (pt_g159, []) (tm_m (0, [(0, .inr (.inr a0)), (1, .inr (.inr a1)), (2, .inr (.inr a2))], [])) h (tm_e r)
  refine tm_n 2 (F' := (2, [(3, .inl (0 : Int32)), (0, .inr (.inr a0)), (1, .inr (.inr a1)), (2, .inr (.inr a2))], [])) rfl ?_
  refine tm_cut (a := [(0, .inr (.inr a0)), (1, .inr (.inr a1)), (2, .inr (.inr a2)), (3, .inl (0 : Int32))]) rfl (tm_sbs [1, 2, 3, 0] rfl) ?_
  exact l159_2_t lf_N hr
-- OfficeSheet$Office.contentOf(LOfficeSheet$Line;LOfficeSheet$Line;)LOfficeSheet$Part;
set_option maxRecDepth 20000 in
def ll_158 (a0 : Option Nat) (a1 : Option Nat) (a2 : Option Nat) (h : pm_H) : tm_L := if lc_of h a0 = some 4 then lb_R (ll_159 a0 a1 a2 h) (fun v2 h3 => match v2 with | none => (some (.inl (some (.inr (.inr none))), h3)) | some a5 => ((lf_R h3 (some a5) [7, 10]).bind fun v6 => some (.inl (some (.inr (.inr v6))), h3))) else none
set_option maxRecDepth 20000 in
theorem lq_158 {w : Option Nat} {d : Nat} {a0 : Option Nat} {a1 : Option Nat} {a2 : Option Nat} {h : pm_H} {r : tm_O × pm_H} (hr : ll_158 a0 a1 a2 h = some r) : tm_run pt_P (pt_G (tm_r w)) (d + 4) 158 [.inr (.inr a0), .inr (.inr a1), .inr (.inr a2)] h r := by
  unfold ll_158 at hr
  show pm_to pt_P (pt_G (tm_r w)) (d + 4) (pt_g158, []) (tm_m (0, [(0, .inr (.inr a0)), (1, .inr (.inr a1)), (2, .inr (.inr a2))], [])) h (tm_e r)
  refine tm_n 3 (F' := (3, [(0, .inr (.inr a0)), (1, .inr (.inr a1)), (2, .inr (.inr a2))], [.inr (.inr a2), .inr (.inr a1), .inr (.inr a0)])) rfl ?_
  by_cases c1 : lc_of h a0 = some 4
  · rw [if_pos c1] at hr
    rcases lb_R_s hr with ⟨v2, h3, m4, hr⟩ | ⟨a7, h3, z8, z8l, m4, qz8, rfl⟩
    · try dsimp only at hr
      refine tm_call rfl rfl (tm_callV rfl rfl c1 rfl rfl) (lq_159 m4) ?_
      refine tm_n 2 (F' := (8, [(3, .inr (.inr v2)), (0, .inr (.inr a0)), (1, .inr (.inr a1)), (2, .inr (.inr a2))], [.inr (.inr v2)])) rfl ?_
      cases v2 with
      | none =>
        try dsimp only at hr
        refine tm_nnF rfl ?_
        refine tm_n 2 (F' := (19, [(3, .inr (.inr none)), (0, .inr (.inr a0)), (1, .inr (.inr a1)), (2, .inr (.inr a2))], [.inr (.inr none)])) rfl ?_
        cases hr
        exact tm_retR rfl
      | some a5 =>
        try dsimp only at hr
        refine tm_nnT rfl ?_
        refine tm_n 1 (F' := (16, [(3, .inr (.inr (some a5))), (0, .inr (.inr a0)), (1, .inr (.inr a1)), (2, .inr (.inr a2))], [.inr (.inr (some a5))])) rfl ?_
        obtain ⟨v6, qv6, hr⟩ := Option.bind_eq_some_iff.mp hr
        refine tm_getf rfl (lf_R_V qv6) ?_
        cases hr
        exact tm_retR rfl
    · exact tm_callT rfl rfl (tm_callV rfl rfl c1 rfl rfl) (lq_159 m4) qz8 rfl
  · rw [if_neg c1] at hr
    cases hr
-- OfficeSheet$Act.speakOfCell(LOfficeSheet$Line;LOfficeSheet$Line;LOfficeSheet$Part;LOfficeSheet$Part;)V
set_option maxRecDepth 20000 in
def ll_160 (a0 : Option Nat) (a1 : Option Nat) (a2 : Option Nat) (a3 : Option Nat) (a4 : Option Nat) (h : pm_H) : tm_L := (lf_P 81 h a0 [2, 7, 8] (.inr (.inr a1))).bind fun h1 => (lf_P 81 h1 a0 [2, 7, 9] (.inr (.inr a2))).bind fun h2 => (lf_P 81 h2 a0 [2, 7, 10] (.inr (.inr a3))).bind fun h3 => (lf_P 81 h3 a0 [2, 7, 11] (.inr (.inr a4))).bind fun h4 => some (.inl none, h4)
set_option maxRecDepth 20000 in
theorem lq_160 {w : Option Nat} {d : Nat} {a0 : Option Nat} {a1 : Option Nat} {a2 : Option Nat} {a3 : Option Nat} {a4 : Option Nat} {h : pm_H} {r : tm_O × pm_H} (hr : ll_160 a0 a1 a2 a3 a4 h = some r) : tm_run pt_P (pt_G (tm_r w)) (d + 0) 160 [.inr (.inr a0), .inr (.inr a1), .inr (.inr a2), .inr (.inr a3), .inr (.inr a4)] h r := by
  unfold ll_160 at hr
  show pm_to pt_P (pt_G (tm_r w)) (d + 0) (pt_g160, []) (tm_m (0, [(0, .inr (.inr a0)), (1, .inr (.inr a1)), (2, .inr (.inr a2)), (3, .inr (.inr a3)), (4, .inr (.inr a4))], [])) h (tm_e r)
  refine tm_n 2 (F' := (2, [(0, .inr (.inr a0)), (1, .inr (.inr a1)), (2, .inr (.inr a2)), (3, .inr (.inr a3)), (4, .inr (.inr a4))], [.inr (.inr a1), .inr (.inr a0)])) rfl ?_
  obtain ⟨h1, qh1, hr⟩ := Option.bind_eq_some_iff.mp hr
  refine tm_putf rfl qh1 ?_
  refine tm_n 2 (F' := (7, [(0, .inr (.inr a0)), (1, .inr (.inr a1)), (2, .inr (.inr a2)), (3, .inr (.inr a3)), (4, .inr (.inr a4))], [.inr (.inr a2), .inr (.inr a0)])) rfl ?_
  obtain ⟨h2, qh2, hr⟩ := Option.bind_eq_some_iff.mp hr
  refine tm_putf rfl qh2 ?_
  refine tm_n 2 (F' := (12, [(0, .inr (.inr a0)), (1, .inr (.inr a1)), (2, .inr (.inr a2)), (3, .inr (.inr a3)), (4, .inr (.inr a4))], [.inr (.inr a3), .inr (.inr a0)])) rfl ?_
  obtain ⟨h3, qh3, hr⟩ := Option.bind_eq_some_iff.mp hr
  refine tm_putf rfl qh3 ?_
  refine tm_n 2 (F' := (18, [(0, .inr (.inr a0)), (1, .inr (.inr a1)), (2, .inr (.inr a2)), (3, .inr (.inr a3)), (4, .inr (.inr a4))], [.inr (.inr a4), .inr (.inr a0)])) rfl ?_
  obtain ⟨h4, qh4, hr⟩ := Option.bind_eq_some_iff.mp hr
  refine tm_putf rfl qh4 ?_
  cases hr
  exact tm_retV rfl
-- OfficeSheet$Office.makeWrite(LOfficeSheet$Line;LOfficeSheet$Line;LOfficeSheet$Part;)V
set_option maxRecDepth 20000 in
def ll_157 (w : Option Nat) (a0 : Option Nat) (a1 : Option Nat) (a2 : Option Nat) (a3 : Option Nat) (h : pm_H) : tm_L := lb_h (lf_new h 7 12 [.null, .int 0, .int 0, .int 0, .null, .null, .null, .null, .null, .null, .null, .null]) fun h1 => lb_V (ll_96 (some h.1.length) (some 6) a0 h1) (fun h3 => if lc_of h3 a0 = some 4 then lb_R (ll_158 a0 a1 a2 h3) (fun v6 h7 => if lc_of h7 (some h.1.length) = some 7 then lb_V (ll_160 (some h.1.length) a1 a2 a3 v6 h7) (fun h11 => if lc_of h11 a0 = some 4 then lb_V (ll_100 w a0 (some h.1.length) h11) (fun h15 => some (.inl none, h15)) else none) else none) else none)
set_option maxRecDepth 20000 in
theorem lq_157 {w : Option Nat} {d : Nat} {a0 : Option Nat} {a1 : Option Nat} {a2 : Option Nat} {a3 : Option Nat} {h : pm_H} {r : tm_O × pm_H} (hr : ll_157 w a0 a1 a2 a3 h = some r) : tm_run pt_P (pt_G (tm_r w)) (d + 16) 157 [.inr (.inr a0), .inr (.inr a1), .inr (.inr a2), .inr (.inr a3)] h r := by
  unfold ll_157 at hr
  show pm_to pt_P (pt_G (tm_r w)) (d + 16) (pt_g157, []) (tm_m (0, [(0, .inr (.inr a0)), (1, .inr (.inr a1)), (2, .inr (.inr a2)), (3, .inr (.inr a3))], [])) h (tm_e r)
  obtain ⟨h1, eh1, hr⟩ := lb_h_s hr
  refine tm_new rfl ?_
  rw [← eh1]
  refine tm_n 3 (F' := (8, [(0, .inr (.inr a0)), (1, .inr (.inr a1)), (2, .inr (.inr a2)), (3, .inr (.inr a3))], [.inr (.inr a0), .inr (.inr (some 6)), .inr (.inr (some h.1.length)), .inr (.inr (some h.1.length))])) rfl ?_
  rcases lb_V_s hr with ⟨h3, m4, hr⟩ | ⟨a23, h3, z24, z24l, m4, qz24, rfl⟩
  · try dsimp only at hr
    refine tm_call rfl rfl (tm_callP rfl rfl rfl) (lq_96 m4) ?_
    refine tm_n 8 (F' := (21, [(4, .inr (.inr (some h.1.length))), (0, .inr (.inr a0)), (1, .inr (.inr a1)), (2, .inr (.inr a2)), (3, .inr (.inr a3))], [.inr (.inr a2), .inr (.inr a1), .inr (.inr a0), .inr (.inr a3), .inr (.inr a2), .inr (.inr a1), .inr (.inr (some h.1.length))])) rfl ?_
    by_cases c5 : lc_of h3 a0 = some 4
    · rw [if_pos c5] at hr
      rcases lb_R_s hr with ⟨v6, h7, m8, hr⟩ | ⟨a21, h7, z22, z22l, m8, qz22, rfl⟩
      · try dsimp only at hr
        refine tm_call rfl rfl (tm_callV rfl rfl c5 rfl rfl) (lq_158 m8) ?_
        by_cases c9 : lc_of h7 (some h.1.length) = some 7
        · rw [if_pos c9] at hr
          rcases lb_V_s hr with ⟨h11, m12, hr⟩ | ⟨a19, h11, z20, z20l, m12, qz20, rfl⟩
          · try dsimp only at hr
            refine tm_call rfl rfl (tm_callV rfl rfl c9 rfl rfl) (lq_160 m12) ?_
            refine tm_n 2 (F' := (30, [(4, .inr (.inr (some h.1.length))), (0, .inr (.inr a0)), (1, .inr (.inr a1)), (2, .inr (.inr a2)), (3, .inr (.inr a3))], [.inr (.inr (some h.1.length)), .inr (.inr a0)])) rfl ?_
            by_cases c13 : lc_of h11 a0 = some 4
            · rw [if_pos c13] at hr
              rcases lb_V_s hr with ⟨h15, m16, hr⟩ | ⟨a17, h15, z18, z18l, m16, qz18, rfl⟩
              · try dsimp only at hr
                refine tm_call rfl rfl (tm_callV rfl rfl c13 rfl rfl) (lq_100 m16) ?_
                cases hr
                exact tm_retV rfl
              · exact tm_callT rfl rfl (tm_callV rfl rfl c13 rfl rfl) (lq_100 m16) qz18 rfl
            · rw [if_neg c13] at hr
              cases hr
          · exact tm_callT rfl rfl (tm_callV rfl rfl c9 rfl rfl) (lq_160 m12) qz20 rfl
        · rw [if_neg c9] at hr
          cases hr
      · exact tm_callT rfl rfl (tm_callV rfl rfl c5 rfl rfl) (lq_158 m8) qz22 rfl
    · rw [if_neg c5] at hr
      cases hr
  · exact tm_callT rfl rfl (tm_callP rfl rfl rfl) (lq_96 m4) qz24 rfl
-- OfficeSheet.enter(III)I
set_option maxRecDepth 20000 in
def l130_83 (w : Option Nat) (x0 : Option Nat) (h : pm_H) : tm_L := (lf_R h x0 [0, 1]).bind fun v1 => (lf_I h v1 [1, 4]).bind fun v2 => some (.inl (some (.inl v2)), h)
set_option maxRecDepth 20000 in
theorem l130_83_t {w : Option Nat} {d : Nat} {x0 : Option Nat} {h : pm_H} {r : tm_O × pm_H} (hr : l130_83 w x0 h = some r) : pm_to pt_P (pt_G (tm_r w)) (d + 144) (pt_g130, []) (tm_m (83, [(0, .inr (.inr x0))], [])) h (tm_e r) := by
  unfold l130_83 at hr
  refine tm_n 1 (F' := (84, [(0, .inr (.inr x0))], [.inr (.inr x0)])) rfl ?_
  obtain ⟨v1, qv1, hr⟩ := Option.bind_eq_some_iff.mp hr
  refine tm_getf rfl (lf_R_V qv1) ?_
  obtain ⟨v2, qv2, hr⟩ := Option.bind_eq_some_iff.mp hr
  refine tm_getf rfl (lf_I_V qv2) ?_
  cases hr
  exact tm_retI rfl rfl
set_option maxRecDepth 20000 in
def ll_130 (w : Option Nat) (a0 : Option Nat) (a1 : Int32) (a2 : Int32) (a3 : Int32) (h : pm_H) : tm_L := if lc_of h a0 = some 0 then lb_R (ll_81 a0 a1 h) (fun v2 h3 => (lf_R h3 v2 [4, 3]).bind fun v5 => (la_R h3 .aaload v5 (0 : Int32)).bind fun v6 => lb_R (ll_84 v6 a2 h3) (fun v7 h8 => (lf_R h8 v2 [4, 3]).bind fun v10 => (la_R h8 .aaload v10 (1 : Int32)).bind fun v11 => lb_R (ll_84 v11 a3 h8) (fun v12 h13 => lb_V (ll_91 v2 h13) (fun h16 => (lf_R h16 a0 [0, 1]).bind fun v18 => (lf_R h16 v2 [4, 3]).bind fun v19 => (la_R h16 .aaload v19 (0 : Int32)).bind fun v20 => (lf_R h16 v2 [4, 3]).bind fun v21 => (la_R h16 .aaload v21 (1 : Int32)).bind fun v22 => if lc_of h16 v18 = some 1 then lb_R (ll_131 w v18 v20 v22 h16) (fun v24 h25 => (lf_R h25 a0 [0, 1]).bind fun v27 => (lf_I h25 v27 [1, 4]).bind fun v28 => if v28 = (-1 : Int32) then if lc_of h25 v2 = some 4 then lb_V (ll_157 w v2 v7 v12 v24 h25) (fun h31 => l130_83 w a0 h31) else none else l130_83 w a0 h25) else none)))) else none
set_option maxRecDepth 20000 in
theorem lq_130 {w : Option Nat} {d : Nat} {a0 : Option Nat} {a1 : Int32} {a2 : Int32} {a3 : Int32} {h : pm_H} {r : tm_O × pm_H} (hr : ll_130 w a0 a1 a2 a3 h = some r) : tm_run pt_P (pt_G (tm_r w)) (d + 144) 130 [.inr (.inr a0), .inl a1, .inl a2, .inl a3] h r := by
  unfold ll_130 at hr
  show pm_to pt_P (pt_G (tm_r w)) (d + 144) (pt_g130, []) (tm_m (0, [(0, .inr (.inr a0)), (1, .inl a1), (2, .inl a2), (3, .inl a3)], [])) h (tm_e r)
  refine tm_n 2 (F' := (2, [(0, .inr (.inr a0)), (1, .inl a1), (2, .inl a2), (3, .inl a3)], [.inl a1, .inr (.inr a0)])) rfl ?_
  by_cases c1 : lc_of h a0 = some 0
  · rw [if_pos c1] at hr
    rcases lb_R_s hr with ⟨v2, h3, m4, hr⟩ | ⟨a44, h3, z45, z45l, m4, qz45, rfl⟩
    · try dsimp only at hr
      refine tm_call rfl rfl (tm_callV rfl rfl c1 rfl rfl) (lq_81 m4) ?_
      refine tm_n 2 (F' := (9, [(4, .inr (.inr v2)), (0, .inr (.inr a0)), (1, .inl a1), (2, .inl a2), (3, .inl a3)], [.inr (.inr v2)])) rfl ?_
      obtain ⟨v5, qv5, hr⟩ := Option.bind_eq_some_iff.mp hr
      refine tm_getf rfl (lf_R_V qv5) ?_
      refine tm_n 1 (F' := (13, [(4, .inr (.inr v2)), (0, .inr (.inr a0)), (1, .inl a1), (2, .inl a2), (3, .inl a3)], [.inl (0 : Int32), .inr (.inr v5)])) rfl ?_
      obtain ⟨v6, qv6, hr⟩ := Option.bind_eq_some_iff.mp hr
      refine tm_ald rfl rfl (la_R_V qv6) ?_
      refine tm_n 1 (F' := (15, [(4, .inr (.inr v2)), (0, .inr (.inr a0)), (1, .inl a1), (2, .inl a2), (3, .inl a3)], [.inl a2, .inr (.inr v6)])) rfl ?_
      rcases lb_R_s hr with ⟨v7, h8, m9, hr⟩ | ⟨a42, h8, z43, z43l, m9, qz43, rfl⟩
      · try dsimp only at hr
        refine tm_call rfl rfl (tm_callS rfl rfl) (lq_84 m9) ?_
        refine tm_n 2 (F' := (22, [(5, .inr (.inr v7)), (4, .inr (.inr v2)), (0, .inr (.inr a0)), (1, .inl a1), (2, .inl a2), (3, .inl a3)], [.inr (.inr v2)])) rfl ?_
        obtain ⟨v10, qv10, hr⟩ := Option.bind_eq_some_iff.mp hr
        refine tm_getf rfl (lf_R_V qv10) ?_
        refine tm_n 1 (F' := (26, [(5, .inr (.inr v7)), (4, .inr (.inr v2)), (0, .inr (.inr a0)), (1, .inl a1), (2, .inl a2), (3, .inl a3)], [.inl (1 : Int32), .inr (.inr v10)])) rfl ?_
        obtain ⟨v11, qv11, hr⟩ := Option.bind_eq_some_iff.mp hr
        refine tm_ald rfl rfl (la_R_V qv11) ?_
        refine tm_n 1 (F' := (28, [(5, .inr (.inr v7)), (4, .inr (.inr v2)), (0, .inr (.inr a0)), (1, .inl a1), (2, .inl a2), (3, .inl a3)], [.inl a3, .inr (.inr v11)])) rfl ?_
        rcases lb_R_s hr with ⟨v12, h13, m14, hr⟩ | ⟨a40, h13, z41, z41l, m14, qz41, rfl⟩
        · try dsimp only at hr
          refine tm_call rfl rfl (tm_callS rfl rfl) (lq_84 m14) ?_
          refine tm_n 2 (F' := (35, [(6, .inr (.inr v12)), (5, .inr (.inr v7)), (4, .inr (.inr v2)), (0, .inr (.inr a0)), (1, .inl a1), (2, .inl a2), (3, .inl a3)], [.inr (.inr v2)])) rfl ?_
          rcases lb_V_s hr with ⟨h16, m17, hr⟩ | ⟨a38, h16, z39, z39l, m17, qz39, rfl⟩
          · try dsimp only at hr
            refine tm_call rfl rfl (tm_callS rfl rfl) (lq_91 m17) ?_
            refine tm_n 1 (F' := (39, [(6, .inr (.inr v12)), (5, .inr (.inr v7)), (4, .inr (.inr v2)), (0, .inr (.inr a0)), (1, .inl a1), (2, .inl a2), (3, .inl a3)], [.inr (.inr a0)])) rfl ?_
            obtain ⟨v18, qv18, hr⟩ := Option.bind_eq_some_iff.mp hr
            refine tm_getf rfl (lf_R_V qv18) ?_
            refine tm_n 1 (F' := (44, [(6, .inr (.inr v12)), (5, .inr (.inr v7)), (4, .inr (.inr v2)), (0, .inr (.inr a0)), (1, .inl a1), (2, .inl a2), (3, .inl a3)], [.inr (.inr v2), .inr (.inr v18)])) rfl ?_
            obtain ⟨v19, qv19, hr⟩ := Option.bind_eq_some_iff.mp hr
            refine tm_getf rfl (lf_R_V qv19) ?_
            refine tm_n 1 (F' := (48, [(6, .inr (.inr v12)), (5, .inr (.inr v7)), (4, .inr (.inr v2)), (0, .inr (.inr a0)), (1, .inl a1), (2, .inl a2), (3, .inl a3)], [.inl (0 : Int32), .inr (.inr v19), .inr (.inr v18)])) rfl ?_
            obtain ⟨v20, qv20, hr⟩ := Option.bind_eq_some_iff.mp hr
            refine tm_ald rfl rfl (la_R_V qv20) ?_
            refine tm_n 1 (F' := (51, [(6, .inr (.inr v12)), (5, .inr (.inr v7)), (4, .inr (.inr v2)), (0, .inr (.inr a0)), (1, .inl a1), (2, .inl a2), (3, .inl a3)], [.inr (.inr v2), .inr (.inr v20), .inr (.inr v18)])) rfl ?_
            obtain ⟨v21, qv21, hr⟩ := Option.bind_eq_some_iff.mp hr
            refine tm_getf rfl (lf_R_V qv21) ?_
            refine tm_n 1 (F' := (55, [(6, .inr (.inr v12)), (5, .inr (.inr v7)), (4, .inr (.inr v2)), (0, .inr (.inr a0)), (1, .inl a1), (2, .inl a2), (3, .inl a3)], [.inl (1 : Int32), .inr (.inr v21), .inr (.inr v20), .inr (.inr v18)])) rfl ?_
            obtain ⟨v22, qv22, hr⟩ := Option.bind_eq_some_iff.mp hr
            refine tm_ald rfl rfl (la_R_V qv22) ?_
            by_cases c23 : lc_of h16 v18 = some 1
            · rw [if_pos c23] at hr
              rcases lb_R_s hr with ⟨v24, h25, m26, hr⟩ | ⟨a36, h25, z37, z37l, m26, qz37, rfl⟩
              · try dsimp only at hr
                refine tm_call rfl rfl (tm_callV rfl rfl c23 rfl rfl) (lq_131 m26) ?_
                refine tm_n 2 (F' := (62, [(7, .inr (.inr v24)), (6, .inr (.inr v12)), (5, .inr (.inr v7)), (4, .inr (.inr v2)), (0, .inr (.inr a0)), (1, .inl a1), (2, .inl a2), (3, .inl a3)], [.inr (.inr a0)])) rfl ?_
                obtain ⟨v27, qv27, hr⟩ := Option.bind_eq_some_iff.mp hr
                refine tm_getf rfl (lf_R_V qv27) ?_
                obtain ⟨v28, qv28, hr⟩ := Option.bind_eq_some_iff.mp hr
                refine tm_getf rfl (lf_I_V qv28) ?_
                refine tm_n 1 (F' := (69, [(7, .inr (.inr v24)), (6, .inr (.inr v12)), (5, .inr (.inr v7)), (4, .inr (.inr v2)), (0, .inr (.inr a0)), (1, .inl a1), (2, .inl a2), (3, .inl a3)], [.inl (-1 : Int32), .inl v28])) rfl ?_
                by_cases c35 : v28 = (-1 : Int32)
                · rw [if_pos c35] at hr
                  refine tm_icF rfl (fun q => q c35) ?_
                  refine tm_n 4 (F' := (80, [(7, .inr (.inr v24)), (6, .inr (.inr v12)), (5, .inr (.inr v7)), (4, .inr (.inr v2)), (0, .inr (.inr a0)), (1, .inl a1), (2, .inl a2), (3, .inl a3)], [.inr (.inr v24), .inr (.inr v12), .inr (.inr v7), .inr (.inr v2)])) rfl ?_
                  by_cases c29 : lc_of h25 v2 = some 4
                  · rw [if_pos c29] at hr
                    rcases lb_V_s hr with ⟨h31, m32, hr⟩ | ⟨a33, h31, z34, z34l, m32, qz34, rfl⟩
                    · try dsimp only at hr
                      refine tm_call rfl rfl (tm_callV rfl rfl c29 rfl rfl) (lq_157 m32) ?_
                      refine tm_cut (a := [(0, .inr (.inr a0))]) rfl (tm_sbs [4] rfl) ?_
                      exact l130_83_t hr
                    · exact tm_callT rfl rfl (tm_callV rfl rfl c29 rfl rfl) (lq_157 m32) qz34 rfl
                  · rw [if_neg c29] at hr
                    cases hr
                · rw [if_neg c35] at hr
                  refine tm_icT rfl c35 ?_
                  refine tm_cut (a := [(0, .inr (.inr a0))]) rfl (tm_sbs [4] rfl) ?_
                  exact l130_83_t hr
              · exact tm_callT rfl rfl (tm_callV rfl rfl c23 rfl rfl) (lq_131 m26) qz37 rfl
            · rw [if_neg c23] at hr
              cases hr
          · exact tm_callT rfl rfl (tm_callS rfl rfl) (lq_91 m17) qz39 rfl
        · exact tm_callT rfl rfl (tm_callS rfl rfl) (lq_84 m14) qz41 rfl
      · exact tm_callT rfl rfl (tm_callS rfl rfl) (lq_84 m9) qz43 rfl
    · exact tm_callT rfl rfl (tm_callV rfl rfl c1 rfl rfl) (lq_81 m4) qz45 rfl
  · rw [if_neg c1] at hr
    cases hr
-- OfficeSheetLaw.enter(LOfficeSheet;III[J)I
set_option maxRecDepth 20000 in
def ll_129 (w : Option Nat) (a0 : Option Nat) (a1 : Int32) (a2 : Int32) (a3 : Int32) (a4 : Option Nat) (h : pm_H) : tm_L := if lc_of h a0 = some 0 then lh_I (ll_130 w a0 a1 a2 a3 h) (fun v2 h3 => (la_S pt_P h3 .lastore a4 (0 : Int32) (.inr (.inl (Int32.toInt64 v2)))).bind fun h5 => some (.inl (some (.inl (0 : Int32))), h5)) (fun a6 z7 h3 => if z7 = 14 then some (.inl (some (.inl (1 : Int32))), h3) else if z7 = 16 then some (.inl (some (.inl (2 : Int32))), h3) else if z7 = 15 then some (.inl (some (.inl (3 : Int32))), h3) else none) else none
set_option maxRecDepth 20000 in
theorem lq_129 {w : Option Nat} {d : Nat} {a0 : Option Nat} {a1 : Int32} {a2 : Int32} {a3 : Int32} {a4 : Option Nat} {h : pm_H} {r : tm_O × pm_H} (hr : ll_129 w a0 a1 a2 a3 a4 h = some r) : tm_run pt_P (pt_G (tm_r w)) (d + 145) 129 [.inr (.inr a0), .inl a1, .inl a2, .inl a3, .inr (.inr a4)] h r := by
  unfold ll_129 at hr
  show pm_to pt_P (pt_G (tm_r w)) (d + 145) (pt_g129, [(0, 12, 15, [14]), (0, 12, 19, [16]), (0, 12, 23, [15])]) (tm_m (0, [(0, .inr (.inr a0)), (1, .inl a1), (2, .inl a2), (3, .inl a3), (4, .inr (.inr a4))], [])) h (tm_e r)
  refine tm_n 6 (F' := (7, [(0, .inr (.inr a0)), (1, .inl a1), (2, .inl a2), (3, .inl a3), (4, .inr (.inr a4))], [.inl a3, .inl a2, .inl a1, .inr (.inr a0), .inl (0 : Int32), .inr (.inr a4)])) rfl ?_
  by_cases c1 : lc_of h a0 = some 0
  · rw [if_pos c1] at hr
    rcases lh_I_s hr with ⟨v2, h3, m4, hr⟩ | ⟨a6, h3, z7, z7l, m4, qz7, hr⟩
    · try dsimp only at hr
      refine tm_call rfl rfl (tm_callV rfl rfl c1 rfl rfl) (lq_130 m4) ?_
      refine tm_n 1 (F' := (11, [(0, .inr (.inr a0)), (1, .inl a1), (2, .inl a2), (3, .inl a3), (4, .inr (.inr a4))], [.inr (.inl (Int32.toInt64 v2)), .inl (0 : Int32), .inr (.inr a4)])) rfl ?_
      obtain ⟨h5, qh5, hr⟩ := Option.bind_eq_some_iff.mp hr
      refine tm_ast rfl rfl qh5 ?_
      refine tm_n 2 (F' := (28, [(0, .inr (.inr a0)), (1, .inl a1), (2, .inl a2), (3, .inl a3), (4, .inr (.inr a4))], [.inl (0 : Int32)])) rfl ?_
      cases hr
      exact tm_retI rfl rfl
    · try dsimp only at hr
      by_cases c8 : z7 = 14
      · rw [if_pos c8] at hr
        subst c8
        refine tm_callC rfl rfl (tm_callV rfl rfl c1 rfl rfl) (lq_130 m4) qz7 rfl ?_
        refine tm_n 2 (F' := (18, [(5, .inr (.inr (some a6))), (0, .inr (.inr a0)), (1, .inl a1), (2, .inl a2), (3, .inl a3), (4, .inr (.inr a4))], [.inl (1 : Int32)])) rfl ?_
        cases hr
        exact tm_retI rfl rfl
      · rw [if_neg c8] at hr
        by_cases c9 : z7 = 16
        · rw [if_pos c9] at hr
          subst c9
          refine tm_callC rfl rfl (tm_callV rfl rfl c1 rfl rfl) (lq_130 m4) qz7 rfl ?_
          refine tm_n 2 (F' := (22, [(5, .inr (.inr (some a6))), (0, .inr (.inr a0)), (1, .inl a1), (2, .inl a2), (3, .inl a3), (4, .inr (.inr a4))], [.inl (2 : Int32)])) rfl ?_
          cases hr
          exact tm_retI rfl rfl
        · rw [if_neg c9] at hr
          by_cases c10 : z7 = 15
          · rw [if_pos c10] at hr
            subst c10
            refine tm_callC rfl rfl (tm_callV rfl rfl c1 rfl rfl) (lq_130 m4) qz7 rfl ?_
            refine tm_n 2 (F' := (26, [(5, .inr (.inr (some a6))), (0, .inr (.inr a0)), (1, .inl a1), (2, .inl a2), (3, .inl a3), (4, .inr (.inr a4))], [.inl (3 : Int32)])) rfl ?_
            cases hr
            exact tm_retI rfl rfl
          · rw [if_neg c10] at hr
            cases hr
  · rw [if_neg c1] at hr
    cases hr
-- OfficeSheet$Axis.counts(LOfficeSheet$Act;)Z
set_option maxRecDepth 20000 in
def l164_34 (s0 : Option Nat) (s1 : Option Nat) (h : pm_H) : tm_L := lb_A (tm_acm s1 s0) (some (.inl (some (.inl (1 : Int32))), h)) (some (.inl (some (.inl (0 : Int32))), h))
set_option maxRecDepth 20000 in
theorem l164_34_t {w : Option Nat} {d : Nat} {s0 : Option Nat} {s1 : Option Nat} {h : pm_H} {r : tm_O × pm_H} (hr : l164_34 s0 s1 h = some r) : pm_to pt_P (pt_G (tm_r w)) (d + 1) (pt_g164, []) (tm_m (34, [], [.inr (.inr s0), .inr (.inr s1)])) h (tm_e r) := by
  unfold l164_34 at hr
  rcases lb_A_s hr with ⟨c1, hr⟩ | ⟨c1, hr⟩
  · refine tm_anF rfl c1 ?_
    refine tm_n 2 (F' := (42, [], [.inl (1 : Int32)])) rfl ?_
    cases hr
    exact tm_retI rfl rfl
  · refine tm_anT rfl c1 ?_
    refine tm_n 1 (F' := (42, [], [.inl (0 : Int32)])) rfl ?_
    cases hr
    exact tm_retI rfl rfl
set_option maxRecDepth 20000 in
def ll_164 (a0 : Option Nat) (a1 : Option Nat) (h : pm_H) : tm_L := (lf_R h a1 [7, 5]).bind fun v1 => (lf_I h v1 [6, 2]).bind fun v2 => (lf_R h a1 [7, 0]).bind fun v3 => if lc_of h v3 = some 18 then lb_I (ll_119 v3 h) (fun v5 h6 => if v5 = (0 : Int32) then (lf_R h6 a0 [5, 2]).bind fun v8 => (la_R h6 .aaload v8 v2).bind fun v9 => l164_34 v9 a1 h6 else (lf_R h6 a0 [5, 3]).bind fun v10 => (la_R h6 .aaload v10 v2).bind fun v11 => l164_34 v11 a1 h6) else none
set_option maxRecDepth 20000 in
theorem lq_164 {w : Option Nat} {d : Nat} {a0 : Option Nat} {a1 : Option Nat} {h : pm_H} {r : tm_O × pm_H} (hr : ll_164 a0 a1 h = some r) : tm_run pt_P (pt_G (tm_r w)) (d + 1) 164 [.inr (.inr a0), .inr (.inr a1)] h r := by
  unfold ll_164 at hr
  show pm_to pt_P (pt_G (tm_r w)) (d + 1) (pt_g164, []) (tm_m (0, [(0, .inr (.inr a0)), (1, .inr (.inr a1))], [])) h (tm_e r)
  refine tm_n 1 (F' := (1, [(0, .inr (.inr a0)), (1, .inr (.inr a1))], [.inr (.inr a1)])) rfl ?_
  obtain ⟨v1, qv1, hr⟩ := Option.bind_eq_some_iff.mp hr
  refine tm_getf rfl (lf_R_V qv1) ?_
  obtain ⟨v2, qv2, hr⟩ := Option.bind_eq_some_iff.mp hr
  refine tm_getf rfl (lf_I_V qv2) ?_
  refine tm_n 3 (F' := (10, [(2, .inl v2), (0, .inr (.inr a0)), (1, .inr (.inr a1))], [.inr (.inr a1), .inr (.inr a1)])) rfl ?_
  obtain ⟨v3, qv3, hr⟩ := Option.bind_eq_some_iff.mp hr
  refine tm_getf rfl (lf_R_V qv3) ?_
  by_cases c4 : lc_of h v3 = some 18
  · rw [if_pos c4] at hr
    rcases lb_I_s hr with ⟨v5, h6, m7, hr⟩ | ⟨a13, h6, z14, z14l, m7, qz14, rfl⟩
    · try dsimp only at hr
      refine tm_call rfl rfl (tm_callV rfl rfl c4 rfl rfl) (lq_119 m7) ?_
      by_cases c12 : v5 = (0 : Int32)
      · rw [if_pos c12] at hr
        refine tm_ifT rfl c12 ?_
        refine tm_n 1 (F' := (29, [(2, .inl v2), (0, .inr (.inr a0)), (1, .inr (.inr a1))], [.inr (.inr a0), .inr (.inr a1)])) rfl ?_
        obtain ⟨v8, qv8, hr⟩ := Option.bind_eq_some_iff.mp hr
        refine tm_getf rfl (lf_R_V qv8) ?_
        refine tm_n 1 (F' := (33, [(2, .inl v2), (0, .inr (.inr a0)), (1, .inr (.inr a1))], [.inl v2, .inr (.inr v8), .inr (.inr a1)])) rfl ?_
        obtain ⟨v9, qv9, hr⟩ := Option.bind_eq_some_iff.mp hr
        refine tm_ald rfl rfl (la_R_V qv9) ?_
        refine tm_cut (a := []) rfl (tm_sbs [] rfl) ?_
        exact l164_34_t hr
      · rw [if_neg c12] at hr
        refine tm_ifF rfl c12 ?_
        refine tm_n 1 (F' := (20, [(2, .inl v2), (0, .inr (.inr a0)), (1, .inr (.inr a1))], [.inr (.inr a0), .inr (.inr a1)])) rfl ?_
        obtain ⟨v10, qv10, hr⟩ := Option.bind_eq_some_iff.mp hr
        refine tm_getf rfl (lf_R_V qv10) ?_
        refine tm_n 1 (F' := (24, [(2, .inl v2), (0, .inr (.inr a0)), (1, .inr (.inr a1))], [.inl v2, .inr (.inr v10), .inr (.inr a1)])) rfl ?_
        obtain ⟨v11, qv11, hr⟩ := Option.bind_eq_some_iff.mp hr
        refine tm_ald rfl rfl (la_R_V qv11) ?_
        refine tm_n 1 (F' := (34, [(2, .inl v2), (0, .inr (.inr a0)), (1, .inr (.inr a1))], [.inr (.inr v11), .inr (.inr a1)])) rfl ?_
        refine tm_cut (a := []) rfl (tm_sbs [] rfl) ?_
        exact l164_34_t hr
    · exact tm_callT rfl rfl (tm_callV rfl rfl c4 rfl rfl) (lq_119 m7) qz14 rfl
  · rw [if_neg c4] at hr
    cases hr
-- OfficeSheet$Office.counts(LOfficeSheet$Act;)Z
set_option maxRecDepth 20000 in
def ll_163 (a0 : Option Nat) (a1 : Option Nat) (h : pm_H) : tm_L := (lf_R h a1 [7, 0]).bind fun v1 => lb_A (tm_acm v1 (some 6)) ((lf_R h a1 [7, 8]).bind fun v3 => (lf_R h a1 [7, 9]).bind fun v4 => if lc_of h a0 = some 4 then lb_R (ll_159 a0 v3 v4 h) (fun v6 h7 => lb_A (tm_acm v6 a1) (some (.inl (some (.inl (1 : Int32))), h7)) (some (.inl (some (.inl (0 : Int32))), h7))) else none) ((lf_R h a0 [4, 3]).bind fun v12 => (lf_R h a1 [7, 5]).bind fun v13 => (lf_I h v13 [6, 0]).bind fun v14 => (la_R h .aaload v12 v14).bind fun v15 => if lc_of h v15 = some 5 then lb_I (ll_164 v15 a1 h) (fun v17 h18 => if pm_fit 3 (.int v17) = true then some (.inl (some (.inl v17)), h18) else none) else none)
set_option maxRecDepth 20000 in
theorem lq_163 {w : Option Nat} {d : Nat} {a0 : Option Nat} {a1 : Option Nat} {h : pm_H} {r : tm_O × pm_H} (hr : ll_163 a0 a1 h = some r) : tm_run pt_P (pt_G (tm_r w)) (d + 4) 163 [.inr (.inr a0), .inr (.inr a1)] h r := by
  unfold ll_163 at hr
  show pm_to pt_P (pt_G (tm_r w)) (d + 4) (pt_g163, []) (tm_m (0, [(0, .inr (.inr a0)), (1, .inr (.inr a1))], [])) h (tm_e r)
  refine tm_n 1 (F' := (1, [(0, .inr (.inr a0)), (1, .inr (.inr a1))], [.inr (.inr a1)])) rfl ?_
  obtain ⟨v1, qv1, hr⟩ := Option.bind_eq_some_iff.mp hr
  refine tm_getf rfl (lf_R_V qv1) ?_
  refine tm_n 1 (F' := (7, [(0, .inr (.inr a0)), (1, .inr (.inr a1))], [.inr (.inr (some 6)), .inr (.inr v1)])) rfl ?_
  rcases lb_A_s hr with ⟨c2, hr⟩ | ⟨c2, hr⟩
  · refine tm_anF rfl c2 ?_
    refine tm_n 2 (F' := (12, [(0, .inr (.inr a0)), (1, .inr (.inr a1))], [.inr (.inr a1), .inr (.inr a0)])) rfl ?_
    obtain ⟨v3, qv3, hr⟩ := Option.bind_eq_some_iff.mp hr
    refine tm_getf rfl (lf_R_V qv3) ?_
    refine tm_n 1 (F' := (16, [(0, .inr (.inr a0)), (1, .inr (.inr a1))], [.inr (.inr a1), .inr (.inr v3), .inr (.inr a0)])) rfl ?_
    obtain ⟨v4, qv4, hr⟩ := Option.bind_eq_some_iff.mp hr
    refine tm_getf rfl (lf_R_V qv4) ?_
    by_cases c5 : lc_of h a0 = some 4
    · rw [if_pos c5] at hr
      rcases lb_R_s hr with ⟨v6, h7, m8, hr⟩ | ⟨a10, h7, z11, z11l, m8, qz11, rfl⟩
      · try dsimp only at hr
        refine tm_call rfl rfl (tm_callV rfl rfl c5 rfl rfl) (lq_159 m8) ?_
        refine tm_n 1 (F' := (23, [(0, .inr (.inr a0)), (1, .inr (.inr a1))], [.inr (.inr a1), .inr (.inr v6)])) rfl ?_
        rcases lb_A_s hr with ⟨c9, hr⟩ | ⟨c9, hr⟩
        · refine tm_anF rfl c9 ?_
          refine tm_n 2 (F' := (31, [(0, .inr (.inr a0)), (1, .inr (.inr a1))], [.inl (1 : Int32)])) rfl ?_
          cases hr
          exact tm_retI rfl rfl
        · refine tm_anT rfl c9 ?_
          refine tm_n 1 (F' := (31, [(0, .inr (.inr a0)), (1, .inr (.inr a1))], [.inl (0 : Int32)])) rfl ?_
          cases hr
          exact tm_retI rfl rfl
      · exact tm_callT rfl rfl (tm_callV rfl rfl c5 rfl rfl) (lq_159 m8) qz11 rfl
    · rw [if_neg c5] at hr
      cases hr
  · refine tm_anT rfl c2 ?_
    refine tm_n 1 (F' := (33, [(0, .inr (.inr a0)), (1, .inr (.inr a1))], [.inr (.inr a0)])) rfl ?_
    obtain ⟨v12, qv12, hr⟩ := Option.bind_eq_some_iff.mp hr
    refine tm_getf rfl (lf_R_V qv12) ?_
    refine tm_n 1 (F' := (37, [(0, .inr (.inr a0)), (1, .inr (.inr a1))], [.inr (.inr a1), .inr (.inr v12)])) rfl ?_
    obtain ⟨v13, qv13, hr⟩ := Option.bind_eq_some_iff.mp hr
    refine tm_getf rfl (lf_R_V qv13) ?_
    obtain ⟨v14, qv14, hr⟩ := Option.bind_eq_some_iff.mp hr
    refine tm_getf rfl (lf_I_V qv14) ?_
    obtain ⟨v15, qv15, hr⟩ := Option.bind_eq_some_iff.mp hr
    refine tm_ald rfl rfl (la_R_V qv15) ?_
    refine tm_n 1 (F' := (45, [(0, .inr (.inr a0)), (1, .inr (.inr a1))], [.inr (.inr a1), .inr (.inr v15)])) rfl ?_
    by_cases c16 : lc_of h v15 = some 5
    · rw [if_pos c16] at hr
      rcases lb_I_s hr with ⟨v17, h18, m19, hr⟩ | ⟨a21, h18, z22, z22l, m19, qz22, rfl⟩
      · try dsimp only at hr
        refine tm_call rfl rfl (tm_callV rfl rfl c16 rfl rfl) (lq_164 m19) ?_
        by_cases c20 : pm_fit 3 (.int v17) = true
        · rw [if_pos c20] at hr
          cases hr
          exact tm_retI rfl c20
        · rw [if_neg c20] at hr
          cases hr
      · exact tm_callT rfl rfl (tm_callV rfl rfl c16 rfl rfl) (lq_164 m19) qz22 rfl
    · rw [if_neg c16] at hr
      cases hr
-- java/lang/Enum.ordinal()I
set_option maxRecDepth 20000 in
def ll_166 (a0 : Option Nat) (h : pm_H) : tm_L := (lf_I h a0 [18, 0, 19, 0]).bind fun v1 => some (.inl (some (.inl v1)), h)
set_option maxRecDepth 20000 in
theorem lq_166 {w : Option Nat} {d : Nat} {a0 : Option Nat} {h : pm_H} {r : tm_O × pm_H} (hr : ll_166 a0 h = some r) : tm_run pt_P (pt_G (tm_r w)) (d + 0) 166 [.inr (.inr a0)] h r := by
  unfold ll_166 at hr
  show pm_to pt_P (pt_G (tm_r w)) (d + 0) (pt_g166, []) (tm_m (0, [(0, .inr (.inr a0))], [])) h (tm_e r)
  refine tm_n 1 (F' := (1, [(0, .inr (.inr a0))], [.inr (.inr a0)])) rfl ?_
  obtain ⟨v1, qv1, hr⟩ := Option.bind_eq_some_iff.mp hr
  refine tm_getf rfl (lf_I_V qv1) ?_
  cases hr
  exact tm_retI rfl rfl
-- OfficeSheet$Office.makeBack(LOfficeSheet$Line;LOfficeSheet$Place;)V
set_option maxRecDepth 20000 in
def ll_167 (w : Option Nat) (a0 : Option Nat) (a1 : Option Nat) (a2 : Option Nat) (h : pm_H) : tm_L := lb_h (lf_new h 7 12 [.null, .int 0, .int 0, .int 0, .null, .null, .null, .null, .null, .null, .null, .null]) fun h1 => lb_V (ll_96 (some h.1.length) (some 3) a0 h1) (fun h3 => (lf_R h3 a0 [4, 3]).bind fun v5 => (lf_I h3 a1 [6, 0]).bind fun v6 => (la_R h3 .aaload v5 v6).bind fun v7 => if lc_of h3 v7 = some 5 then lb_R (ll_90 v7 a1 h3) (fun v9 h10 => if lc_of h10 (some h.1.length) = some 7 then lb_V (ll_99 (some h.1.length) a1 a2 v9 h10) (fun h14 => if lc_of h14 a0 = some 4 then lb_V (ll_100 w a0 (some h.1.length) h14) (fun h18 => some (.inl none, h18)) else none) else none) else none)
set_option maxRecDepth 20000 in
theorem lq_167 {w : Option Nat} {d : Nat} {a0 : Option Nat} {a1 : Option Nat} {a2 : Option Nat} {h : pm_H} {r : tm_O × pm_H} (hr : ll_167 w a0 a1 a2 h = some r) : tm_run pt_P (pt_G (tm_r w)) (d + 16) 167 [.inr (.inr a0), .inr (.inr a1), .inr (.inr a2)] h r := by
  unfold ll_167 at hr
  show pm_to pt_P (pt_G (tm_r w)) (d + 16) (pt_g167, []) (tm_m (0, [(0, .inr (.inr a0)), (1, .inr (.inr a1)), (2, .inr (.inr a2))], [])) h (tm_e r)
  obtain ⟨h1, eh1, hr⟩ := lb_h_s hr
  refine tm_new rfl ?_
  rw [← eh1]
  refine tm_n 3 (F' := (8, [(0, .inr (.inr a0)), (1, .inr (.inr a1)), (2, .inr (.inr a2))], [.inr (.inr a0), .inr (.inr (some 3)), .inr (.inr (some h.1.length)), .inr (.inr (some h.1.length))])) rfl ?_
  rcases lb_V_s hr with ⟨h3, m4, hr⟩ | ⟨a26, h3, z27, z27l, m4, qz27, rfl⟩
  · try dsimp only at hr
    refine tm_call rfl rfl (tm_callP rfl rfl rfl) (lq_96 m4) ?_
    refine tm_n 5 (F' := (16, [(3, .inr (.inr (some h.1.length))), (0, .inr (.inr a0)), (1, .inr (.inr a1)), (2, .inr (.inr a2))], [.inr (.inr a0), .inr (.inr a2), .inr (.inr a1), .inr (.inr (some h.1.length))])) rfl ?_
    obtain ⟨v5, qv5, hr⟩ := Option.bind_eq_some_iff.mp hr
    refine tm_getf rfl (lf_R_V qv5) ?_
    refine tm_n 1 (F' := (20, [(3, .inr (.inr (some h.1.length))), (0, .inr (.inr a0)), (1, .inr (.inr a1)), (2, .inr (.inr a2))], [.inr (.inr a1), .inr (.inr v5), .inr (.inr a2), .inr (.inr a1), .inr (.inr (some h.1.length))])) rfl ?_
    obtain ⟨v6, qv6, hr⟩ := Option.bind_eq_some_iff.mp hr
    refine tm_getf rfl (lf_I_V qv6) ?_
    obtain ⟨v7, qv7, hr⟩ := Option.bind_eq_some_iff.mp hr
    refine tm_ald rfl rfl (la_R_V qv7) ?_
    refine tm_n 1 (F' := (25, [(3, .inr (.inr (some h.1.length))), (0, .inr (.inr a0)), (1, .inr (.inr a1)), (2, .inr (.inr a2))], [.inr (.inr a1), .inr (.inr v7), .inr (.inr a2), .inr (.inr a1), .inr (.inr (some h.1.length))])) rfl ?_
    by_cases c8 : lc_of h3 v7 = some 5
    · rw [if_pos c8] at hr
      rcases lb_R_s hr with ⟨v9, h10, m11, hr⟩ | ⟨a24, h10, z25, z25l, m11, qz25, rfl⟩
      · try dsimp only at hr
        refine tm_call rfl rfl (tm_callV rfl rfl c8 rfl rfl) (lq_90 m11) ?_
        by_cases c12 : lc_of h10 (some h.1.length) = some 7
        · rw [if_pos c12] at hr
          rcases lb_V_s hr with ⟨h14, m15, hr⟩ | ⟨a22, h14, z23, z23l, m15, qz23, rfl⟩
          · try dsimp only at hr
            refine tm_call rfl rfl (tm_callV rfl rfl c12 rfl rfl) (lq_99 m15) ?_
            refine tm_n 2 (F' := (33, [(3, .inr (.inr (some h.1.length))), (0, .inr (.inr a0)), (1, .inr (.inr a1)), (2, .inr (.inr a2))], [.inr (.inr (some h.1.length)), .inr (.inr a0)])) rfl ?_
            by_cases c16 : lc_of h14 a0 = some 4
            · rw [if_pos c16] at hr
              rcases lb_V_s hr with ⟨h18, m19, hr⟩ | ⟨a20, h18, z21, z21l, m19, qz21, rfl⟩
              · try dsimp only at hr
                refine tm_call rfl rfl (tm_callV rfl rfl c16 rfl rfl) (lq_100 m19) ?_
                cases hr
                exact tm_retV rfl
              · exact tm_callT rfl rfl (tm_callV rfl rfl c16 rfl rfl) (lq_100 m19) qz21 rfl
            · rw [if_neg c16] at hr
              cases hr
          · exact tm_callT rfl rfl (tm_callV rfl rfl c12 rfl rfl) (lq_99 m15) qz23 rfl
        · rw [if_neg c12] at hr
          cases hr
      · exact tm_callT rfl rfl (tm_callV rfl rfl c8 rfl rfl) (lq_90 m11) qz25 rfl
    · rw [if_neg c8] at hr
      cases hr
  · exact tm_callT rfl rfl (tm_callP rfl rfl rfl) (lq_96 m4) qz27 rfl
-- OfficeSheet$Office.takeBack(LOfficeSheet$Act;)V
set_option maxRecDepth 20000 in
def ll_165 (w : Option Nat) (a0 : Option Nat) (a1 : Option Nat) (h : pm_H) : tm_L := (lf_R h a1 [7, 0]).bind fun v1 => if lc_of h v1 = some 18 then lb_I (ll_166 v1 h) (fun v3 h4 => (la_I h4 .iaload (some 18) v3).bind fun v6 => if v6 = (1 : Int32) then (lf_R h4 a1 [7, 5]).bind fun v8 => if lc_of h4 a0 = some 4 then lb_V (ll_128 w a0 (some 5) v8 h4) (fun h11 => some (.inl none, h11)) else none else if v6 = (2 : Int32) then (lf_R h4 a1 [7, 5]).bind fun v16 => if lc_of h4 a0 = some 4 then lb_V (ll_128 w a0 (some 5) v16 h4) (fun h19 => some (.inl none, h19)) else none else if v6 = (3 : Int32) then (lf_R h4 a1 [7, 5]).bind fun v24 => if lc_of h4 a0 = some 4 then lb_V (ll_128 w a0 (some 4) v24 h4) (fun h27 => some (.inl none, h27)) else none else if v6 = (4 : Int32) then (lf_R h4 a1 [7, 8]).bind fun v32 => (lf_R h4 a1 [7, 9]).bind fun v33 => (lf_R h4 a1 [7, 11]).bind fun v34 => if lc_of h4 a0 = some 4 then lb_V (ll_157 w a0 v32 v33 v34 h4) (fun h37 => some (.inl none, h37)) else none else (lf_R h4 a1 [7, 5]).bind fun v41 => (lf_R h4 a1 [7, 7]).bind fun v42 => if lc_of h4 a0 = some 4 then lb_V (ll_167 w a0 v41 v42 h4) (fun h45 => some (.inl none, h45)) else none) else none
set_option maxRecDepth 20000 in
theorem lq_165 {w : Option Nat} {d : Nat} {a0 : Option Nat} {a1 : Option Nat} {h : pm_H} {r : tm_O × pm_H} (hr : ll_165 w a0 a1 h = some r) : tm_run pt_P (pt_G (tm_r w)) (d + 17) 165 [.inr (.inr a0), .inr (.inr a1)] h r := by
  unfold ll_165 at hr
  show pm_to pt_P (pt_G (tm_r w)) (d + 17) (pt_g165, []) (tm_m (0, [(0, .inr (.inr a0)), (1, .inr (.inr a1))], [])) h (tm_e r)
  refine tm_n 2 (F' := (4, [(0, .inr (.inr a0)), (1, .inr (.inr a1))], [.inr (.inr a1), .inr (.inr (some 18))])) rfl ?_
  obtain ⟨v1, qv1, hr⟩ := Option.bind_eq_some_iff.mp hr
  refine tm_getf rfl (lf_R_V qv1) ?_
  by_cases c2 : lc_of h v1 = some 18
  · rw [if_pos c2] at hr
    rcases lb_I_s hr with ⟨v3, h4, m5, hr⟩ | ⟨a49, h4, z50, z50l, m5, qz50, rfl⟩
    · try dsimp only at hr
      refine tm_call rfl rfl (tm_callV rfl rfl c2 rfl rfl) (lq_166 m5) ?_
      obtain ⟨v6, qv6, hr⟩ := Option.bind_eq_some_iff.mp hr
      refine tm_ald rfl rfl (la_I_V qv6) ?_
      by_cases c7 : v6 = (1 : Int32)
      · rw [if_pos c7] at hr
        refine tm_swt (t := 40) rfl (by simp only [pm_sw, if_pos c7]) ?_
        refine tm_n 3 (F' := (45, [(0, .inr (.inr a0)), (1, .inr (.inr a1))], [.inr (.inr a1), .inr (.inr (some 5)), .inr (.inr a0)])) rfl ?_
        obtain ⟨v8, qv8, hr⟩ := Option.bind_eq_some_iff.mp hr
        refine tm_getf rfl (lf_R_V qv8) ?_
        by_cases c9 : lc_of h4 a0 = some 4
        · rw [if_pos c9] at hr
          rcases lb_V_s hr with ⟨h11, m12, hr⟩ | ⟨a13, h11, z14, z14l, m12, qz14, rfl⟩
          · try dsimp only at hr
            refine tm_call rfl rfl (tm_callV rfl rfl c9 rfl rfl) (lq_128 m12) ?_
            refine tm_n 1 (F' := (99, [(0, .inr (.inr a0)), (1, .inr (.inr a1))], [])) rfl ?_
            cases hr
            exact tm_retV rfl
          · exact tm_callT rfl rfl (tm_callV rfl rfl c9 rfl rfl) (lq_128 m12) qz14 rfl
        · rw [if_neg c9] at hr
          cases hr
      · rw [if_neg c7] at hr
        by_cases c15 : v6 = (2 : Int32)
        · rw [if_pos c15] at hr
          refine tm_swt (t := 40) rfl (by simp only [pm_sw, if_neg c7, if_pos c15]) ?_
          refine tm_n 3 (F' := (45, [(0, .inr (.inr a0)), (1, .inr (.inr a1))], [.inr (.inr a1), .inr (.inr (some 5)), .inr (.inr a0)])) rfl ?_
          obtain ⟨v16, qv16, hr⟩ := Option.bind_eq_some_iff.mp hr
          refine tm_getf rfl (lf_R_V qv16) ?_
          by_cases c17 : lc_of h4 a0 = some 4
          · rw [if_pos c17] at hr
            rcases lb_V_s hr with ⟨h19, m20, hr⟩ | ⟨a21, h19, z22, z22l, m20, qz22, rfl⟩
            · try dsimp only at hr
              refine tm_call rfl rfl (tm_callV rfl rfl c17 rfl rfl) (lq_128 m20) ?_
              refine tm_n 1 (F' := (99, [(0, .inr (.inr a0)), (1, .inr (.inr a1))], [])) rfl ?_
              cases hr
              exact tm_retV rfl
            · exact tm_callT rfl rfl (tm_callV rfl rfl c17 rfl rfl) (lq_128 m20) qz22 rfl
          · rw [if_neg c17] at hr
            cases hr
        · rw [if_neg c15] at hr
          by_cases c23 : v6 = (3 : Int32)
          · rw [if_pos c23] at hr
            refine tm_swt (t := 54) rfl (by simp only [pm_sw, if_neg c7, if_neg c15, if_pos c23]) ?_
            refine tm_n 3 (F' := (59, [(0, .inr (.inr a0)), (1, .inr (.inr a1))], [.inr (.inr a1), .inr (.inr (some 4)), .inr (.inr a0)])) rfl ?_
            obtain ⟨v24, qv24, hr⟩ := Option.bind_eq_some_iff.mp hr
            refine tm_getf rfl (lf_R_V qv24) ?_
            by_cases c25 : lc_of h4 a0 = some 4
            · rw [if_pos c25] at hr
              rcases lb_V_s hr with ⟨h27, m28, hr⟩ | ⟨a29, h27, z30, z30l, m28, qz30, rfl⟩
              · try dsimp only at hr
                refine tm_call rfl rfl (tm_callV rfl rfl c25 rfl rfl) (lq_128 m28) ?_
                refine tm_n 1 (F' := (99, [(0, .inr (.inr a0)), (1, .inr (.inr a1))], [])) rfl ?_
                cases hr
                exact tm_retV rfl
              · exact tm_callT rfl rfl (tm_callV rfl rfl c25 rfl rfl) (lq_128 m28) qz30 rfl
            · rw [if_neg c25] at hr
              cases hr
          · rw [if_neg c23] at hr
            by_cases c31 : v6 = (4 : Int32)
            · rw [if_pos c31] at hr
              refine tm_swt (t := 68) rfl (by simp only [pm_sw, if_neg c7, if_neg c15, if_neg c23, if_pos c31]) ?_
              refine tm_n 2 (F' := (70, [(0, .inr (.inr a0)), (1, .inr (.inr a1))], [.inr (.inr a1), .inr (.inr a0)])) rfl ?_
              obtain ⟨v32, qv32, hr⟩ := Option.bind_eq_some_iff.mp hr
              refine tm_getf rfl (lf_R_V qv32) ?_
              refine tm_n 1 (F' := (74, [(0, .inr (.inr a0)), (1, .inr (.inr a1))], [.inr (.inr a1), .inr (.inr v32), .inr (.inr a0)])) rfl ?_
              obtain ⟨v33, qv33, hr⟩ := Option.bind_eq_some_iff.mp hr
              refine tm_getf rfl (lf_R_V qv33) ?_
              refine tm_n 1 (F' := (78, [(0, .inr (.inr a0)), (1, .inr (.inr a1))], [.inr (.inr a1), .inr (.inr v33), .inr (.inr v32), .inr (.inr a0)])) rfl ?_
              obtain ⟨v34, qv34, hr⟩ := Option.bind_eq_some_iff.mp hr
              refine tm_getf rfl (lf_R_V qv34) ?_
              by_cases c35 : lc_of h4 a0 = some 4
              · rw [if_pos c35] at hr
                rcases lb_V_s hr with ⟨h37, m38, hr⟩ | ⟨a39, h37, z40, z40l, m38, qz40, rfl⟩
                · try dsimp only at hr
                  refine tm_call rfl rfl (tm_callV rfl rfl c35 rfl rfl) (lq_157 m38) ?_
                  refine tm_n 1 (F' := (99, [(0, .inr (.inr a0)), (1, .inr (.inr a1))], [])) rfl ?_
                  cases hr
                  exact tm_retV rfl
                · exact tm_callT rfl rfl (tm_callV rfl rfl c35 rfl rfl) (lq_157 m38) qz40 rfl
              · rw [if_neg c35] at hr
                cases hr
            · rw [if_neg c31] at hr
              refine tm_swt (t := 87) rfl (by simp only [pm_sw, if_neg c7, if_neg c15, if_neg c23, if_neg c31]) ?_
              refine tm_n 2 (F' := (89, [(0, .inr (.inr a0)), (1, .inr (.inr a1))], [.inr (.inr a1), .inr (.inr a0)])) rfl ?_
              obtain ⟨v41, qv41, hr⟩ := Option.bind_eq_some_iff.mp hr
              refine tm_getf rfl (lf_R_V qv41) ?_
              refine tm_n 1 (F' := (93, [(0, .inr (.inr a0)), (1, .inr (.inr a1))], [.inr (.inr a1), .inr (.inr v41), .inr (.inr a0)])) rfl ?_
              obtain ⟨v42, qv42, hr⟩ := Option.bind_eq_some_iff.mp hr
              refine tm_getf rfl (lf_R_V qv42) ?_
              by_cases c43 : lc_of h4 a0 = some 4
              · rw [if_pos c43] at hr
                rcases lb_V_s hr with ⟨h45, m46, hr⟩ | ⟨a47, h45, z48, z48l, m46, qz48, rfl⟩
                · try dsimp only at hr
                  refine tm_call rfl rfl (tm_callV rfl rfl c43 rfl rfl) (lq_167 m46) ?_
                  cases hr
                  exact tm_retV rfl
                · exact tm_callT rfl rfl (tm_callV rfl rfl c43 rfl rfl) (lq_167 m46) qz48 rfl
              · rw [if_neg c43] at hr
                cases hr
    · exact tm_callT rfl rfl (tm_callV rfl rfl c2 rfl rfl) (lq_166 m5) qz50 rfl
  · rw [if_neg c2] at hr
    cases hr
-- OfficeSheet.undo(I)Z
set_option maxRecDepth 20000 in
def ll_162 (w : Option Nat) (a0 : Option Nat) (a1 : Int32) (h : pm_H) : tm_L := if lc_of h a0 = some 0 then lb_R (ll_81 a0 a1 h) (fun v2 h3 => if lc_of h3 v2 = some 4 then lb_I (ll_92 v2 h3) (fun v6 h7 => if v6 = (0 : Int32) then some (.inr h7.1.length, lf_new h7 17 6 []) else lb_V (ll_91 v2 h7) (fun h10 => (lf_R h10 v2 [4, 2]).bind fun v12 => if lc_of h10 v2 = some 4 then lb_I (ll_92 v2 h10) (fun v14 h15 => lb_I (ll_95 a1 v14 h15) (fun v17 h18 => (la_R h18 .aaload v12 v17).bind fun v20 => if lc_of h18 v2 = some 4 then lb_I (ll_163 v2 v20 h18) (fun v22 h23 => if v22 = (0 : Int32) then if pm_fit 3 (.int v22) = true then some (.inl (some (.inl v22)), h23) else none else if lc_of h23 v2 = some 4 then lb_V (ll_165 w v2 v20 h23) (fun h28 => if pm_fit 3 (.int v22) = true then some (.inl (some (.inl v22)), h28) else none) else none) else none)) else none)) else none) else none
set_option maxRecDepth 20000 in
theorem lq_162 {w : Option Nat} {d : Nat} {a0 : Option Nat} {a1 : Int32} {h : pm_H} {r : tm_O × pm_H} (hr : ll_162 w a0 a1 h = some r) : tm_run pt_P (pt_G (tm_r w)) (d + 18) 162 [.inr (.inr a0), .inl a1] h r := by
  unfold ll_162 at hr
  show pm_to pt_P (pt_G (tm_r w)) (d + 18) (pt_g162, []) (tm_m (0, [(0, .inr (.inr a0)), (1, .inl a1)], [])) h (tm_e r)
  refine tm_n 2 (F' := (2, [(0, .inr (.inr a0)), (1, .inl a1)], [.inl a1, .inr (.inr a0)])) rfl ?_
  by_cases c1 : lc_of h a0 = some 0
  · rw [if_pos c1] at hr
    rcases lb_R_s hr with ⟨v2, h3, m4, hr⟩ | ⟨a45, h3, z46, z46l, m4, qz46, rfl⟩
    · try dsimp only at hr
      refine tm_call rfl rfl (tm_callV rfl rfl c1 rfl rfl) (lq_81 m4) ?_
      refine tm_n 2 (F' := (7, [(2, .inr (.inr v2)), (0, .inr (.inr a0)), (1, .inl a1)], [.inr (.inr v2)])) rfl ?_
      by_cases c5 : lc_of h3 v2 = some 4
      · rw [if_pos c5] at hr
        rcases lb_I_s hr with ⟨v6, h7, m8, hr⟩ | ⟨a43, h7, z44, z44l, m8, qz44, rfl⟩
        · try dsimp only at hr
          refine tm_call rfl rfl (tm_callV rfl rfl c5 rfl rfl) (lq_92 m8) ?_
          by_cases c42 : v6 = (0 : Int32)
          · rw [if_pos c42] at hr
            refine tm_ifF rfl (fun q => q c42) ?_
            cases hr
            exact tm_thr rfl
          · rw [if_neg c42] at hr
            refine tm_ifT rfl c42 ?_
            refine tm_n 1 (F' := (24, [(2, .inr (.inr v2)), (0, .inr (.inr a0)), (1, .inl a1)], [.inr (.inr v2)])) rfl ?_
            rcases lb_V_s hr with ⟨h10, m11, hr⟩ | ⟨a40, h10, z41, z41l, m11, qz41, rfl⟩
            · try dsimp only at hr
              refine tm_call rfl rfl (tm_callS rfl rfl) (lq_91 m11) ?_
              refine tm_n 1 (F' := (28, [(2, .inr (.inr v2)), (0, .inr (.inr a0)), (1, .inl a1)], [.inr (.inr v2)])) rfl ?_
              obtain ⟨v12, qv12, hr⟩ := Option.bind_eq_some_iff.mp hr
              refine tm_getf rfl (lf_R_V qv12) ?_
              refine tm_n 2 (F' := (33, [(2, .inr (.inr v2)), (0, .inr (.inr a0)), (1, .inl a1)], [.inr (.inr v2), .inl a1, .inr (.inr v12)])) rfl ?_
              by_cases c13 : lc_of h10 v2 = some 4
              · rw [if_pos c13] at hr
                rcases lb_I_s hr with ⟨v14, h15, m16, hr⟩ | ⟨a38, h15, z39, z39l, m16, qz39, rfl⟩
                · try dsimp only at hr
                  refine tm_call rfl rfl (tm_callV rfl rfl c13 rfl rfl) (lq_92 m16) ?_
                  rcases lb_I_s hr with ⟨v17, h18, m19, hr⟩ | ⟨a36, h18, z37, z37l, m19, qz37, rfl⟩
                  · try dsimp only at hr
                    refine tm_call rfl rfl (tm_callS rfl rfl) (lq_95 m19) ?_
                    obtain ⟨v20, qv20, hr⟩ := Option.bind_eq_some_iff.mp hr
                    refine tm_ald rfl rfl (la_R_V qv20) ?_
                    refine tm_n 3 (F' := (43, [(3, .inr (.inr v20)), (2, .inr (.inr v2)), (0, .inr (.inr a0)), (1, .inl a1)], [.inr (.inr v20), .inr (.inr v2)])) rfl ?_
                    by_cases c21 : lc_of h18 v2 = some 4
                    · rw [if_pos c21] at hr
                      rcases lb_I_s hr with ⟨v22, h23, m24, hr⟩ | ⟨a34, h23, z35, z35l, m24, qz35, rfl⟩
                      · try dsimp only at hr
                        refine tm_call rfl rfl (tm_callV rfl rfl c21 rfl rfl) (lq_163 m24) ?_
                        refine tm_n 2 (F' := (50, [(4, .inl v22), (3, .inr (.inr v20)), (2, .inr (.inr v2)), (0, .inr (.inr a0)), (1, .inl a1)], [.inl v22])) rfl ?_
                        by_cases c33 : v22 = (0 : Int32)
                        · rw [if_pos c33] at hr
                          refine tm_ifT rfl c33 ?_
                          refine tm_n 1 (F' := (60, [(4, .inl v22), (3, .inr (.inr v20)), (2, .inr (.inr v2)), (0, .inr (.inr a0)), (1, .inl a1)], [.inl v22])) rfl ?_
                          by_cases c25 : pm_fit 3 (.int v22) = true
                          · rw [if_pos c25] at hr
                            cases hr
                            exact tm_retI rfl c25
                          · rw [if_neg c25] at hr
                            cases hr
                        · rw [if_neg c33] at hr
                          refine tm_ifF rfl c33 ?_
                          refine tm_n 2 (F' := (55, [(4, .inl v22), (3, .inr (.inr v20)), (2, .inr (.inr v2)), (0, .inr (.inr a0)), (1, .inl a1)], [.inr (.inr v20), .inr (.inr v2)])) rfl ?_
                          by_cases c26 : lc_of h23 v2 = some 4
                          · rw [if_pos c26] at hr
                            rcases lb_V_s hr with ⟨h28, m29, hr⟩ | ⟨a31, h28, z32, z32l, m29, qz32, rfl⟩
                            · try dsimp only at hr
                              refine tm_call rfl rfl (tm_callV rfl rfl c26 rfl rfl) (lq_165 m29) ?_
                              refine tm_n 1 (F' := (60, [(4, .inl v22), (3, .inr (.inr v20)), (2, .inr (.inr v2)), (0, .inr (.inr a0)), (1, .inl a1)], [.inl v22])) rfl ?_
                              by_cases c30 : pm_fit 3 (.int v22) = true
                              · rw [if_pos c30] at hr
                                cases hr
                                exact tm_retI rfl c30
                              · rw [if_neg c30] at hr
                                cases hr
                            · exact tm_callT rfl rfl (tm_callV rfl rfl c26 rfl rfl) (lq_165 m29) qz32 rfl
                          · rw [if_neg c26] at hr
                            cases hr
                      · exact tm_callT rfl rfl (tm_callV rfl rfl c21 rfl rfl) (lq_163 m24) qz35 rfl
                    · rw [if_neg c21] at hr
                      cases hr
                  · exact tm_callT rfl rfl (tm_callS rfl rfl) (lq_95 m19) qz37 rfl
                · exact tm_callT rfl rfl (tm_callV rfl rfl c13 rfl rfl) (lq_92 m16) qz39 rfl
              · rw [if_neg c13] at hr
                cases hr
            · exact tm_callT rfl rfl (tm_callS rfl rfl) (lq_91 m11) qz41 rfl
        · exact tm_callT rfl rfl (tm_callV rfl rfl c5 rfl rfl) (lq_92 m8) qz44 rfl
      · rw [if_neg c5] at hr
        cases hr
    · exact tm_callT rfl rfl (tm_callV rfl rfl c1 rfl rfl) (lq_81 m4) qz46 rfl
  · rw [if_neg c1] at hr
    cases hr
-- OfficeSheetLaw.undo(LOfficeSheet;I[J)I
set_option maxRecDepth 20000 in
def l161_15 (w : Option Nat) (s0 : Int64) (s1 : Int32) (s2 : Option Nat) (h : pm_H) : tm_L := (la_S pt_P h .lastore s2 s1 (.inr (.inl s0))).bind fun h1 => some (.inl (some (.inl (0 : Int32))), h1)
set_option maxRecDepth 20000 in
theorem l161_15_t {w : Option Nat} {d : Nat} {s0 : Int64} {s1 : Int32} {s2 : Option Nat} {h : pm_H} {r : tm_O × pm_H} (hr : l161_15 w s0 s1 s2 h = some r) : pm_to pt_P (pt_G (tm_r w)) (d + 19) (pt_g161, [(0, 16, 19, [14]), (0, 16, 22, [17]), (0, 16, 25, [15])]) (tm_m (15, [], [.inr (.inl s0), .inl s1, .inr (.inr s2)])) h (tm_e r) := by
  unfold l161_15 at hr
  obtain ⟨h1, qh1, hr⟩ := Option.bind_eq_some_iff.mp hr
  refine tm_ast rfl rfl qh1 ?_
  refine tm_n 2 (F' := (29, [], [.inl (0 : Int32)])) rfl ?_
  cases hr
  exact tm_retI rfl rfl
set_option maxRecDepth 20000 in
def ll_161 (w : Option Nat) (a0 : Option Nat) (a1 : Int32) (a2 : Option Nat) (h : pm_H) : tm_L := if lc_of h a0 = some 0 then lh_I (ll_162 w a0 a1 h) (fun v2 h3 => if v2 = (0 : Int32) then l161_15 w (0 : Int64) (0 : Int32) a2 h3 else l161_15 w (1 : Int64) (0 : Int32) a2 h3) (fun a6 z7 h3 => if z7 = 14 then some (.inl (some (.inl (1 : Int32))), h3) else if z7 = 17 then some (.inl (some (.inl (2 : Int32))), h3) else if z7 = 15 then some (.inl (some (.inl (3 : Int32))), h3) else none) else none
set_option maxRecDepth 20000 in
theorem lq_161 {w : Option Nat} {d : Nat} {a0 : Option Nat} {a1 : Int32} {a2 : Option Nat} {h : pm_H} {r : tm_O × pm_H} (hr : ll_161 w a0 a1 a2 h = some r) : tm_run pt_P (pt_G (tm_r w)) (d + 19) 161 [.inr (.inr a0), .inl a1, .inr (.inr a2)] h r := by
  unfold ll_161 at hr
  show pm_to pt_P (pt_G (tm_r w)) (d + 19) (pt_g161, [(0, 16, 19, [14]), (0, 16, 22, [17]), (0, 16, 25, [15])]) (tm_m (0, [(0, .inr (.inr a0)), (1, .inl a1), (2, .inr (.inr a2))], [])) h (tm_e r)
  refine tm_n 4 (F' := (4, [(0, .inr (.inr a0)), (1, .inl a1), (2, .inr (.inr a2))], [.inl a1, .inr (.inr a0), .inl (0 : Int32), .inr (.inr a2)])) rfl ?_
  by_cases c1 : lc_of h a0 = some 0
  · rw [if_pos c1] at hr
    rcases lh_I_s hr with ⟨v2, h3, m4, hr⟩ | ⟨a6, h3, z7, z7l, m4, qz7, hr⟩
    · try dsimp only at hr
      refine tm_call rfl rfl (tm_callV rfl rfl c1 rfl rfl) (lq_162 m4) ?_
      by_cases c5 : v2 = (0 : Int32)
      · rw [if_pos c5] at hr
        refine tm_ifT rfl c5 ?_
        refine tm_n 1 (F' := (15, [(0, .inr (.inr a0)), (1, .inl a1), (2, .inr (.inr a2))], [.inr (.inl (0 : Int64)), .inl (0 : Int32), .inr (.inr a2)])) rfl ?_
        refine tm_cut (a := []) rfl (tm_sbs [] rfl) ?_
        exact l161_15_t hr
      · rw [if_neg c5] at hr
        refine tm_ifF rfl c5 ?_
        refine tm_n 2 (F' := (15, [(0, .inr (.inr a0)), (1, .inl a1), (2, .inr (.inr a2))], [.inr (.inl (1 : Int64)), .inl (0 : Int32), .inr (.inr a2)])) rfl ?_
        refine tm_cut (a := []) rfl (tm_sbs [] rfl) ?_
        exact l161_15_t hr
    · try dsimp only at hr
      by_cases c8 : z7 = 14
      · rw [if_pos c8] at hr
        subst c8
        refine tm_callC rfl rfl (tm_callV rfl rfl c1 rfl rfl) (lq_162 m4) qz7 rfl ?_
        refine tm_n 2 (F' := (21, [(3, .inr (.inr (some a6))), (0, .inr (.inr a0)), (1, .inl a1), (2, .inr (.inr a2))], [.inl (1 : Int32)])) rfl ?_
        cases hr
        exact tm_retI rfl rfl
      · rw [if_neg c8] at hr
        by_cases c9 : z7 = 17
        · rw [if_pos c9] at hr
          subst c9
          refine tm_callC rfl rfl (tm_callV rfl rfl c1 rfl rfl) (lq_162 m4) qz7 rfl ?_
          refine tm_n 2 (F' := (24, [(3, .inr (.inr (some a6))), (0, .inr (.inr a0)), (1, .inl a1), (2, .inr (.inr a2))], [.inl (2 : Int32)])) rfl ?_
          cases hr
          exact tm_retI rfl rfl
        · rw [if_neg c9] at hr
          by_cases c10 : z7 = 15
          · rw [if_pos c10] at hr
            subst c10
            refine tm_callC rfl rfl (tm_callV rfl rfl c1 rfl rfl) (lq_162 m4) qz7 rfl ?_
            refine tm_n 2 (F' := (27, [(3, .inr (.inr (some a6))), (0, .inr (.inr a0)), (1, .inl a1), (2, .inr (.inr a2))], [.inl (3 : Int32)])) rfl ?_
            cases hr
            exact tm_retI rfl rfl
          · rw [if_neg c10] at hr
            cases hr
  · rw [if_neg c1] at hr
    cases hr
-- OfficeSheet$Office.isReady(LOfficeSheet$Act;)Z
set_option maxRecDepth 20000 in
def l171_2 : Nat → Option Nat → Option Nat → Int32 → pm_H → tm_L
  | 0 => fun _ _ _ _ => none
  | n + 1 => fun x0 x1 x2 h => if (3 : Int32) ≤ x2 then some (.inl (some (.inl (1 : Int32))), h) else (lf_R h x1 [7, 4]).bind fun v1 => (la_I h .iaload v1 x2).bind fun v2 => (lf_R h x0 [4, 1]).bind fun v3 => (la_I h .iaload v3 x2).bind fun v4 => if v2 ≤ v4 then l171_2 n x0 x1 (x2 + (1 : Int32)) h else some (.inl (some (.inl (0 : Int32))), h)
set_option maxRecDepth 20000 in
theorem l171_2_t {w : Option Nat} {d : Nat} : ∀ (n : Nat) {x0 : Option Nat} {x1 : Option Nat} {x2 : Int32} {h : pm_H} {r : tm_O × pm_H}, l171_2 n x0 x1 x2 h = some r → pm_to pt_P (pt_G (tm_r w)) (d + 0) (pt_g171, []) (tm_m (2, [(0, .inr (.inr x0)), (1, .inr (.inr x1)), (2, .inl x2)], [])) h (tm_e r) := by
  intro n
  induction n with
  | zero => intro x0 x1 x2 h r hr; cases hr
  | succ n ih =>
    intro x0 x1 x2 h r hr
    unfold l171_2 at hr
    refine tm_n 2 (F' := (4, [(0, .inr (.inr x0)), (1, .inr (.inr x1)), (2, .inl x2)], [.inl (3 : Int32), .inl x2])) rfl ?_
    by_cases c6 : (3 : Int32) ≤ x2
    · rw [if_pos c6] at hr
      refine tm_icT rfl c6 ?_
      refine tm_n 1 (F' := (31, [(0, .inr (.inr x0)), (1, .inr (.inr x1)), (2, .inl x2)], [.inl (1 : Int32)])) rfl ?_
      cases hr
      exact tm_retI rfl rfl
    · rw [if_neg c6] at hr
      refine tm_icF rfl c6 ?_
      refine tm_n 1 (F' := (8, [(0, .inr (.inr x0)), (1, .inr (.inr x1)), (2, .inl x2)], [.inr (.inr x1)])) rfl ?_
      obtain ⟨v1, qv1, hr⟩ := Option.bind_eq_some_iff.mp hr
      refine tm_getf rfl (lf_R_V qv1) ?_
      refine tm_n 1 (F' := (12, [(0, .inr (.inr x0)), (1, .inr (.inr x1)), (2, .inl x2)], [.inl x2, .inr (.inr v1)])) rfl ?_
      obtain ⟨v2, qv2, hr⟩ := Option.bind_eq_some_iff.mp hr
      refine tm_ald rfl rfl (la_I_V qv2) ?_
      refine tm_n 1 (F' := (14, [(0, .inr (.inr x0)), (1, .inr (.inr x1)), (2, .inl x2)], [.inr (.inr x0), .inl v2])) rfl ?_
      obtain ⟨v3, qv3, hr⟩ := Option.bind_eq_some_iff.mp hr
      refine tm_getf rfl (lf_R_V qv3) ?_
      refine tm_n 1 (F' := (18, [(0, .inr (.inr x0)), (1, .inr (.inr x1)), (2, .inl x2)], [.inl x2, .inr (.inr v3), .inl v2])) rfl ?_
      obtain ⟨v4, qv4, hr⟩ := Option.bind_eq_some_iff.mp hr
      refine tm_ald rfl rfl (la_I_V qv4) ?_
      by_cases c5 : v2 ≤ v4
      · rw [if_pos c5] at hr
        refine tm_icT rfl c5 ?_
        refine tm_n 2 (F' := (2, [(2, .inl (x2 + (1 : Int32))), (0, .inr (.inr x0)), (1, .inr (.inr x1))], [])) rfl ?_
        refine tm_cut (a := [(0, .inr (.inr x0)), (1, .inr (.inr x1)), (2, .inl (x2 + (1 : Int32)))]) rfl (tm_sbs [1, 2, 0] rfl) ?_
        exact ih hr
      · rw [if_neg c5] at hr
        refine tm_icF rfl c5 ?_
        refine tm_n 1 (F' := (23, [(0, .inr (.inr x0)), (1, .inr (.inr x1)), (2, .inl x2)], [.inl (0 : Int32)])) rfl ?_
        cases hr
        exact tm_retI rfl rfl
set_option maxRecDepth 20000 in
def ll_171 (a0 : Option Nat) (a1 : Option Nat) (h : pm_H) : tm_L := l171_2 lf_N a0 a1 (0 : Int32) h
set_option maxRecDepth 20000 in
theorem lq_171 {w : Option Nat} {d : Nat} {a0 : Option Nat} {a1 : Option Nat} {h : pm_H} {r : tm_O × pm_H} (hr : ll_171 a0 a1 h = some r) : tm_run pt_P (pt_G (tm_r w)) (d + 0) 171 [.inr (.inr a0), .inr (.inr a1)] h r := by
  unfold ll_171 at hr
  show pm_to pt_P (pt_G (tm_r w)) (d + 0) (pt_g171, []) (tm_m (0, [(0, .inr (.inr a0)), (1, .inr (.inr a1))], [])) h (tm_e r)
  refine tm_n 2 (F' := (2, [(2, .inl (0 : Int32)), (0, .inr (.inr a0)), (1, .inr (.inr a1))], [])) rfl ?_
  refine tm_cut (a := [(0, .inr (.inr a0)), (1, .inr (.inr a1)), (2, .inl (0 : Int32))]) rfl (tm_sbs [1, 2, 0] rfl) ?_
  exact l171_2_t lf_N hr
-- OfficeSheet$Office.firstReady()LOfficeSheet$Act;
set_option maxRecDepth 20000 in
def l173_50 (K2 : Option Nat → Int32 → pm_H → tm_L) (x0 : Option Nat) (x1 : Int32) (h : pm_H) : tm_L := K2 x0 (x1 + (1 : Int32)) h
set_option maxRecDepth 20000 in
theorem l173_50_t {w : Option Nat} {d : Nat} {K2 : Option Nat → Int32 → pm_H → tm_L} (hK2 : ∀ {x0 : Option Nat} {x1 : Int32}  {h : pm_H} {r : tm_O × pm_H}, K2 x0 x1 h = some r → pm_to pt_P (pt_G (tm_r w)) (d + 1) (pt_g173, []) (tm_m (2, [(0, .inr (.inr x0)), (1, .inl x1)], [])) h (tm_e r)) {x0 : Option Nat} {x1 : Int32} {h : pm_H} {r : tm_O × pm_H} (hr : l173_50 K2 x0 x1 h = some r) : pm_to pt_P (pt_G (tm_r w)) (d + 1) (pt_g173, []) (tm_m (50, [(0, .inr (.inr x0)), (1, .inl x1)], [])) h (tm_e r) := by
  unfold l173_50 at hr
  refine tm_n 2 (F' := (2, [(1, .inl (x1 + (1 : Int32))), (0, .inr (.inr x0))], [])) rfl ?_
  refine tm_cut (a := [(0, .inr (.inr x0)), (1, .inl (x1 + (1 : Int32)))]) rfl (tm_sbs [1, 0] rfl) ?_
  exact hK2 hr
set_option maxRecDepth 20000 in
def l173_2 : Nat → Option Nat → Int32 → pm_H → tm_L
  | 0 => fun _ _ _ => none
  | n + 1 => fun x0 x1 h => if (3 : Int32) ≤ x1 then some (.inl (some (.inr (.inr none))), h) else (lf_R h x0 [4, 1]).bind fun v1 => (la_I h .iaload v1 x1).bind fun v2 => if (40 : Int32) ≤ v2 then l173_50 (l173_2 n) x0 x1 h else (lf_R h x0 [4, 2]).bind fun v3 => (lf_R h x0 [4, 1]).bind fun v4 => (la_I h .iaload v4 x1).bind fun v5 => lb_I (ll_95 x1 (v5 + (1 : Int32)) h) (fun v6 h7 => (la_R h7 .aaload v3 v6).bind fun v9 => match v9 with | none => (l173_50 (l173_2 n) x0 x1 h7) | some a10 => (if lc_of h7 x0 = some 4 then lb_I (ll_171 x0 (some a10) h7) (fun v12 h13 => if v12 = (0 : Int32) then l173_50 (l173_2 n) x0 x1 h13 else some (.inl (some (.inr (.inr (some a10)))), h13)) else none))
set_option maxRecDepth 20000 in
theorem l173_2_t {w : Option Nat} {d : Nat} : ∀ (n : Nat) {x0 : Option Nat} {x1 : Int32} {h : pm_H} {r : tm_O × pm_H}, l173_2 n x0 x1 h = some r → pm_to pt_P (pt_G (tm_r w)) (d + 1) (pt_g173, []) (tm_m (2, [(0, .inr (.inr x0)), (1, .inl x1)], [])) h (tm_e r) := by
  intro n
  induction n with
  | zero => intro x0 x1 h r hr; cases hr
  | succ n ih =>
    intro x0 x1 h r hr
    unfold l173_2 at hr
    refine tm_n 2 (F' := (4, [(0, .inr (.inr x0)), (1, .inl x1)], [.inl (3 : Int32), .inl x1])) rfl ?_
    by_cases c21 : (3 : Int32) ≤ x1
    · rw [if_pos c21] at hr
      refine tm_icT rfl c21 ?_
      refine tm_n 1 (F' := (57, [(0, .inr (.inr x0)), (1, .inl x1)], [.inr (.inr none)])) rfl ?_
      cases hr
      exact tm_retR rfl
    · rw [if_neg c21] at hr
      refine tm_icF rfl c21 ?_
      refine tm_n 1 (F' := (8, [(0, .inr (.inr x0)), (1, .inl x1)], [.inr (.inr x0)])) rfl ?_
      obtain ⟨v1, qv1, hr⟩ := Option.bind_eq_some_iff.mp hr
      refine tm_getf rfl (lf_R_V qv1) ?_
      refine tm_n 1 (F' := (12, [(0, .inr (.inr x0)), (1, .inl x1)], [.inl x1, .inr (.inr v1)])) rfl ?_
      obtain ⟨v2, qv2, hr⟩ := Option.bind_eq_some_iff.mp hr
      refine tm_ald rfl rfl (la_I_V qv2) ?_
      refine tm_n 1 (F' := (15, [(0, .inr (.inr x0)), (1, .inl x1)], [.inl (40 : Int32), .inl v2])) rfl ?_
      by_cases c20 : (40 : Int32) ≤ v2
      · rw [if_pos c20] at hr
        refine tm_icT rfl c20 ?_
        refine tm_cut (a := [(0, .inr (.inr x0)), (1, .inl x1)]) rfl (tm_sbs [0, 1] rfl) ?_
        exact l173_50_t (fun hr => ih hr) hr
      · rw [if_neg c20] at hr
        refine tm_icF rfl c20 ?_
        refine tm_n 1 (F' := (19, [(0, .inr (.inr x0)), (1, .inl x1)], [.inr (.inr x0)])) rfl ?_
        obtain ⟨v3, qv3, hr⟩ := Option.bind_eq_some_iff.mp hr
        refine tm_getf rfl (lf_R_V qv3) ?_
        refine tm_n 2 (F' := (24, [(0, .inr (.inr x0)), (1, .inl x1)], [.inr (.inr x0), .inl x1, .inr (.inr v3)])) rfl ?_
        obtain ⟨v4, qv4, hr⟩ := Option.bind_eq_some_iff.mp hr
        refine tm_getf rfl (lf_R_V qv4) ?_
        refine tm_n 1 (F' := (28, [(0, .inr (.inr x0)), (1, .inl x1)], [.inl x1, .inr (.inr v4), .inl x1, .inr (.inr v3)])) rfl ?_
        obtain ⟨v5, qv5, hr⟩ := Option.bind_eq_some_iff.mp hr
        refine tm_ald rfl rfl (la_I_V qv5) ?_
        refine tm_n 2 (F' := (31, [(0, .inr (.inr x0)), (1, .inl x1)], [.inl (v5 + (1 : Int32)), .inl x1, .inr (.inr v3)])) rfl ?_
        rcases lb_I_s hr with ⟨v6, h7, m8, hr⟩ | ⟨a18, h7, z19, z19l, m8, qz19, rfl⟩
        · try dsimp only at hr
          refine tm_call rfl rfl (tm_callS rfl rfl) (lq_95 m8) ?_
          obtain ⟨v9, qv9, hr⟩ := Option.bind_eq_some_iff.mp hr
          refine tm_ald rfl rfl (la_R_V qv9) ?_
          refine tm_n 2 (F' := (37, [(2, .inr (.inr v9)), (0, .inr (.inr x0)), (1, .inl x1)], [.inr (.inr v9)])) rfl ?_
          cases v9 with
          | none =>
            try dsimp only at hr
            refine tm_nuT rfl ?_
            refine tm_cut (a := [(0, .inr (.inr x0)), (1, .inl x1)]) rfl (tm_sbs [1, 2] rfl) ?_
            exact l173_50_t (fun hr => ih hr) hr
          | some a10 =>
            try dsimp only at hr
            refine tm_nuF rfl ?_
            refine tm_n 2 (F' := (42, [(2, .inr (.inr (some a10))), (0, .inr (.inr x0)), (1, .inl x1)], [.inr (.inr (some a10)), .inr (.inr x0)])) rfl ?_
            by_cases c11 : lc_of h7 x0 = some 4
            · rw [if_pos c11] at hr
              rcases lb_I_s hr with ⟨v12, h13, m14, hr⟩ | ⟨a16, h13, z17, z17l, m14, qz17, rfl⟩
              · try dsimp only at hr
                refine tm_call rfl rfl (tm_callV rfl rfl c11 rfl rfl) (lq_171 m14) ?_
                by_cases c15 : v12 = (0 : Int32)
                · rw [if_pos c15] at hr
                  refine tm_ifT rfl c15 ?_
                  refine tm_cut (a := [(0, .inr (.inr x0)), (1, .inl x1)]) rfl (tm_sbs [1, 2] rfl) ?_
                  exact l173_50_t (fun hr => ih hr) hr
                · rw [if_neg c15] at hr
                  refine tm_ifF rfl c15 ?_
                  refine tm_n 1 (F' := (49, [(2, .inr (.inr (some a10))), (0, .inr (.inr x0)), (1, .inl x1)], [.inr (.inr (some a10))])) rfl ?_
                  cases hr
                  exact tm_retR rfl
              · exact tm_callT rfl rfl (tm_callV rfl rfl c11 rfl rfl) (lq_171 m14) qz17 rfl
            · rw [if_neg c11] at hr
              cases hr
        · exact tm_callT rfl rfl (tm_callS rfl rfl) (lq_95 m8) qz19 rfl
set_option maxRecDepth 20000 in
def ll_173 (a0 : Option Nat) (h : pm_H) : tm_L := l173_2 lf_N a0 (0 : Int32) h
set_option maxRecDepth 20000 in
theorem lq_173 {w : Option Nat} {d : Nat} {a0 : Option Nat} {h : pm_H} {r : tm_O × pm_H} (hr : ll_173 a0 h = some r) : tm_run pt_P (pt_G (tm_r w)) (d + 1) 173 [.inr (.inr a0)] h r := by
  unfold ll_173 at hr
  show pm_to pt_P (pt_G (tm_r w)) (d + 1) (pt_g173, []) (tm_m (0, [(0, .inr (.inr a0))], [])) h (tm_e r)
  refine tm_n 2 (F' := (2, [(1, .inl (0 : Int32)), (0, .inr (.inr a0))], [])) rfl ?_
  refine tm_cut (a := [(0, .inr (.inr a0)), (1, .inl (0 : Int32))]) rfl (tm_sbs [1, 0] rfl) ?_
  exact l173_2_t lf_N hr
-- OfficeSheet$Office.takeWaiting()V
set_option maxRecDepth 20000 in
def l172_2 (w : Option Nat) : Nat → Option Nat → Int32 → pm_H → tm_L
  | 0 => fun _ _ _ => none
  | n + 1 => fun x0 x1 h => if (120 : Int32) ≤ x1 then some (.inl none, h) else if lc_of h x0 = some 4 then lb_R (ll_173 x0 h) (fun v2 h3 => match v2 with | none => (some (.inl none, h3)) | some a5 => (if lc_of h3 x0 = some 4 then lb_V (ll_100 w x0 (some a5) h3) (fun h8 => l172_2 w n x0 (x1 + (1 : Int32)) h8) else none)) else none
set_option maxRecDepth 20000 in
theorem l172_2_t {w : Option Nat} {d : Nat} : ∀ (n : Nat) {x0 : Option Nat} {x1 : Int32} {h : pm_H} {r : tm_O × pm_H}, l172_2 w n x0 x1 h = some r → pm_to pt_P (pt_G (tm_r w)) (d + 16) (pt_g172, []) (tm_m (2, [(0, .inr (.inr x0)), (1, .inl x1)], [])) h (tm_e r) := by
  intro n
  induction n with
  | zero => intro x0 x1 h r hr; cases hr
  | succ n ih =>
    intro x0 x1 h r hr
    unfold l172_2 at hr
    refine tm_n 2 (F' := (5, [(0, .inr (.inr x0)), (1, .inl x1)], [.inl (120 : Int32), .inl x1])) rfl ?_
    by_cases c14 : (120 : Int32) ≤ x1
    · rw [if_pos c14] at hr
      refine tm_icT rfl c14 ?_
      cases hr
      exact tm_retV rfl
    · rw [if_neg c14] at hr
      refine tm_icF rfl c14 ?_
      refine tm_n 1 (F' := (9, [(0, .inr (.inr x0)), (1, .inl x1)], [.inr (.inr x0)])) rfl ?_
      by_cases c1 : lc_of h x0 = some 4
      · rw [if_pos c1] at hr
        rcases lb_R_s hr with ⟨v2, h3, m4, hr⟩ | ⟨a12, h3, z13, z13l, m4, qz13, rfl⟩
        · try dsimp only at hr
          refine tm_call rfl rfl (tm_callV rfl rfl c1 rfl rfl) (lq_173 m4) ?_
          refine tm_n 2 (F' := (14, [(2, .inr (.inr v2)), (0, .inr (.inr x0)), (1, .inl x1)], [.inr (.inr v2)])) rfl ?_
          cases v2 with
          | none =>
            try dsimp only at hr
            refine tm_nnF rfl ?_
            cases hr
            exact tm_retV rfl
          | some a5 =>
            try dsimp only at hr
            refine tm_nnT rfl ?_
            refine tm_n 2 (F' := (20, [(2, .inr (.inr (some a5))), (0, .inr (.inr x0)), (1, .inl x1)], [.inr (.inr (some a5)), .inr (.inr x0)])) rfl ?_
            by_cases c6 : lc_of h3 x0 = some 4
            · rw [if_pos c6] at hr
              rcases lb_V_s hr with ⟨h8, m9, hr⟩ | ⟨a10, h8, z11, z11l, m9, qz11, rfl⟩
              · try dsimp only at hr
                refine tm_call rfl rfl (tm_callV rfl rfl c6 rfl rfl) (lq_100 m9) ?_
                refine tm_n 2 (F' := (2, [(1, .inl (x1 + (1 : Int32))), (2, .inr (.inr (some a5))), (0, .inr (.inr x0))], [])) rfl ?_
                refine tm_cut (a := [(0, .inr (.inr x0)), (1, .inl (x1 + (1 : Int32)))]) rfl (tm_sbs [2, 0] rfl) ?_
                exact ih hr
              · exact tm_callT rfl rfl (tm_callV rfl rfl c6 rfl rfl) (lq_100 m9) qz11 rfl
            · rw [if_neg c6] at hr
              cases hr
        · exact tm_callT rfl rfl (tm_callV rfl rfl c1 rfl rfl) (lq_173 m4) qz13 rfl
      · rw [if_neg c1] at hr
        cases hr
set_option maxRecDepth 20000 in
def ll_172 (w : Option Nat) (a0 : Option Nat) (h : pm_H) : tm_L := l172_2 w lf_N a0 (0 : Int32) h
set_option maxRecDepth 20000 in
theorem lq_172 {w : Option Nat} {d : Nat} {a0 : Option Nat} {h : pm_H} {r : tm_O × pm_H} (hr : ll_172 w a0 h = some r) : tm_run pt_P (pt_G (tm_r w)) (d + 16) 172 [.inr (.inr a0)] h r := by
  unfold ll_172 at hr
  show pm_to pt_P (pt_G (tm_r w)) (d + 16) (pt_g172, []) (tm_m (0, [(0, .inr (.inr a0))], [])) h (tm_e r)
  refine tm_n 2 (F' := (2, [(1, .inl (0 : Int32)), (0, .inr (.inr a0))], [])) rfl ?_
  refine tm_cut (a := [(0, .inr (.inr a0)), (1, .inl (0 : Int32))]) rfl (tm_sbs [1, 0] rfl) ?_
  exact l172_2_t lf_N hr
