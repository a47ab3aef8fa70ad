/-! lifted: 206, 205, 204, 193, 187, 207, 186, 185, 184, 210, 209, 208, 215, 214, 213, 212, 211, 220, 222, 223, 221 -/
-- java/lang/Math.abs(J)J
set_option maxRecDepth 20000 in
def ll_206 (a0 : Int64) (h : pm_H) : tm_L := if (0 : Int32) ≤ (lg_cmp a0 (0 : Int64)) then some (.inl (some (.inr (.inl a0))), h) else some (.inl (some (.inr (.inl (-a0)))), h)
set_option maxRecDepth 20000 in
theorem lq_206 {w : Option Nat} {d : Nat} {a0 : Int64} {h : pm_H} {r : tm_O × pm_H} (hr : ll_206 a0 h = some r) : tm_run pt_P (pt_G (tm_r w)) (d + 0) 206 [.inr (.inl a0)] h r := by
  unfold ll_206 at hr
  show pm_to pt_P (pt_G (tm_r w)) (d + 0) (pt_g206, []) (tm_m (0, [(0, .inr (.inl a0))], [])) h (tm_e r)
  refine tm_n 3 (F' := (3, [(0, .inr (.inl a0))], [.inl (lg_cmp a0 (0 : Int64))])) rfl ?_
  by_cases c1 : (0 : Int32) ≤ (lg_cmp a0 (0 : Int64))
  · rw [if_pos c1] at hr
    refine tm_ifT rfl c1 ?_
    refine tm_n 1 (F' := (12, [(0, .inr (.inl a0))], [.inr (.inl a0)])) rfl ?_
    cases hr
    exact tm_retJ rfl
  · rw [if_neg c1] at hr
    refine tm_ifF rfl c1 ?_
    refine tm_n 3 (F' := (12, [(0, .inr (.inl a0))], [.inr (.inl (-a0))])) rfl ?_
    cases hr
    exact tm_retJ rfl
-- OfficeSheet$Calculator.quotient(JJ)J
set_option maxRecDepth 20000 in
def l205_80 (x4 : Int64) (s0 : Int32) (s1 : Int32) (h : pm_H) : tm_L := if s1 = s0 then some (.inl (some (.inr (.inl (x4 + (1 : Int64))))), h) else some (.inl (some (.inr (.inl (x4 - (1 : Int64))))), h)
set_option maxRecDepth 20000 in
theorem l205_80_t {w : Option Nat} {d : Nat} {x4 : Int64} {s0 : Int32} {s1 : Int32} {h : pm_H} {r : tm_O × pm_H} (hr : l205_80 x4 s0 s1 h = some r) : pm_to pt_P (pt_G (tm_r w)) (d + 1) (pt_g205, []) (tm_m (80, [(4, .inr (.inl x4))], [.inl s0, .inl s1])) h (tm_e r) := by
  unfold l205_80 at hr
  by_cases c1 : s1 = s0
  · rw [if_pos c1] at hr
    refine tm_icF rfl (fun q => q c1) ?_
    refine tm_n 4 (F' := (94, [(4, .inr (.inl x4))], [.inr (.inl (x4 + (1 : Int64)))])) rfl ?_
    cases hr
    exact tm_retJ rfl
  · rw [if_neg c1] at hr
    refine tm_icT rfl c1 ?_
    refine tm_n 3 (F' := (94, [(4, .inr (.inl x4))], [.inr (.inl (x4 - (1 : Int64)))])) rfl ?_
    cases hr
    exact tm_retJ rfl
set_option maxRecDepth 20000 in
def l205_69 (x2 : Int64) (x4 : Int64) (s0 : Int32) (h : pm_H) : tm_L := if (0 : Int32) ≤ (lg_cmp x2 (0 : Int64)) then l205_80 x4 (0 : Int32) s0 h else l205_80 x4 (1 : Int32) s0 h
set_option maxRecDepth 20000 in
theorem l205_69_t {w : Option Nat} {d : Nat} {x2 : Int64} {x4 : Int64} {s0 : Int32} {h : pm_H} {r : tm_O × pm_H} (hr : l205_69 x2 x4 s0 h = some r) : pm_to pt_P (pt_G (tm_r w)) (d + 1) (pt_g205, []) (tm_m (69, [(2, .inr (.inl x2)), (4, .inr (.inl x4))], [.inl s0])) h (tm_e r) := by
  unfold l205_69 at hr
  refine tm_n 3 (F' := (72, [(2, .inr (.inl x2)), (4, .inr (.inl x4))], [.inl (lg_cmp x2 (0 : Int64)), .inl s0])) rfl ?_
  by_cases c1 : (0 : Int32) ≤ (lg_cmp x2 (0 : Int64))
  · rw [if_pos c1] at hr
    refine tm_ifT rfl c1 ?_
    refine tm_n 1 (F' := (80, [(2, .inr (.inl x2)), (4, .inr (.inl x4))], [.inl (0 : Int32), .inl s0])) rfl ?_
    refine tm_cut (a := [(4, .inr (.inl x4))]) rfl (tm_sbs [1] rfl) ?_
    exact l205_80_t hr
  · rw [if_neg c1] at hr
    refine tm_ifF rfl c1 ?_
    refine tm_n 2 (F' := (80, [(2, .inr (.inl x2)), (4, .inr (.inl x4))], [.inl (1 : Int32), .inl s0])) rfl ?_
    refine tm_cut (a := [(4, .inr (.inl x4))]) rfl (tm_sbs [1] rfl) ?_
    exact l205_80_t hr
set_option maxRecDepth 20000 in
def l205_58 (x0 : Int64) (x2 : Int64) (x4 : Int64) (h : pm_H) : tm_L := if (0 : Int32) ≤ (lg_cmp x0 (0 : Int64)) then l205_69 x2 x4 (0 : Int32) h else l205_69 x2 x4 (1 : Int32) h
set_option maxRecDepth 20000 in
theorem l205_58_t {w : Option Nat} {d : Nat} {x0 : Int64} {x2 : Int64} {x4 : Int64} {h : pm_H} {r : tm_O × pm_H} (hr : l205_58 x0 x2 x4 h = some r) : pm_to pt_P (pt_G (tm_r w)) (d + 1) (pt_g205, []) (tm_m (58, [(0, .inr (.inl x0)), (2, .inr (.inl x2)), (4, .inr (.inl x4))], [])) h (tm_e r) := by
  unfold l205_58 at hr
  refine tm_n 3 (F' := (61, [(0, .inr (.inl x0)), (2, .inr (.inl x2)), (4, .inr (.inl x4))], [.inl (lg_cmp x0 (0 : Int64))])) rfl ?_
  by_cases c1 : (0 : Int32) ≤ (lg_cmp x0 (0 : Int64))
  · rw [if_pos c1] at hr
    refine tm_ifT rfl c1 ?_
    refine tm_n 1 (F' := (69, [(0, .inr (.inl x0)), (2, .inr (.inl x2)), (4, .inr (.inl x4))], [.inl (0 : Int32)])) rfl ?_
    refine tm_cut (a := [(2, .inr (.inl x2)), (4, .inr (.inl x4))]) rfl (tm_sbs [1, 2] rfl) ?_
    exact l205_69_t hr
  · rw [if_neg c1] at hr
    refine tm_ifF rfl c1 ?_
    refine tm_n 2 (F' := (69, [(0, .inr (.inl x0)), (2, .inr (.inl x2)), (4, .inr (.inl x4))], [.inl (1 : Int32)])) rfl ?_
    refine tm_cut (a := [(2, .inr (.inl x2)), (4, .inr (.inl x4))]) rfl (tm_sbs [1, 2] rfl) ?_
    exact l205_69_t hr
set_option maxRecDepth 20000 in
def ll_205 (a0 : Int64) (a1 : Int64) (h : pm_H) : tm_L := if (lg_cmp a1 (0 : Int64)) = (0 : Int32) then some (.inl (some (.inr (.inl (0 : Int64)))), h) else if a1 = 0 then none else if a1 = 0 then none else lb_J (ll_206 (a0 - a0 / a1 * a1) h) (fun v3 h4 => lb_J (ll_206 a1 h4) (fun v6 h7 => if (0 : Int32) < (lg_cmp ((2 : Int64) * v3) v6) then l205_58 a0 a1 (a0 / a1) h7 else if (lg_cmp ((2 : Int64) * v3) v6) = (0 : Int32) then if (lg_cmp ((a0 / a1) - (a0 / a1) / (2 : Int64) * (2 : Int64)) (0 : Int64)) = (0 : Int32) then some (.inl (some (.inr (.inl (a0 / a1)))), h7) else l205_58 a0 a1 (a0 / a1) h7 else some (.inl (some (.inr (.inl (a0 / a1)))), h7)))
set_option maxRecDepth 20000 in
theorem lq_205 {w : Option Nat} {d : Nat} {a0 : Int64} {a1 : Int64} {h : pm_H} {r : tm_O × pm_H} (hr : ll_205 a0 a1 h = some r) : tm_run pt_P (pt_G (tm_r w)) (d + 1) 205 [.inr (.inl a0), .inr (.inl a1)] h r := by
  unfold ll_205 at hr
  show pm_to pt_P (pt_G (tm_r w)) (d + 1) (pt_g205, []) (tm_m (0, [(0, .inr (.inl a0)), (2, .inr (.inl a1))], [])) h (tm_e r)
  refine tm_n 3 (F' := (3, [(0, .inr (.inl a0)), (2, .inr (.inl a1))], [.inl (lg_cmp a1 (0 : Int64))])) rfl ?_
  by_cases c16 : (lg_cmp a1 (0 : Int64)) = (0 : Int32)
  · rw [if_pos c16] at hr
    refine tm_ifF rfl (fun q => q c16) ?_
    refine tm_n 1 (F' := (7, [(0, .inr (.inl a0)), (2, .inr (.inl a1))], [.inr (.inl (0 : Int64))])) rfl ?_
    cases hr
    exact tm_retJ rfl
  · rw [if_neg c16] at hr
    refine tm_ifT rfl c16 ?_
    refine tm_n 2 (F' := (10, [(0, .inr (.inl a0)), (2, .inr (.inl a1))], [.inr (.inl a1), .inr (.inl a0)])) rfl ?_
    by_cases c1 : a1 = 0
    · rw [if_pos c1] at hr
      cases hr
    · rw [if_neg c1] at hr
      refine tm_ldiv rfl c1 ?_
      refine tm_n 4 (F' := (18, [(4, .inr (.inl (a0 / a1))), (0, .inr (.inl a0)), (2, .inr (.inl a1))], [.inr (.inl a1), .inr (.inl a0), .inr (.inl (2 : Int64))])) rfl ?_
      by_cases c2 : a1 = 0
      · rw [if_pos c2] at hr
        cases hr
      · rw [if_neg c2] at hr
        refine tm_lrem rfl c2 ?_
        rcases lb_J_s hr with ⟨v3, h4, m5, hr⟩ | ⟨a14, h4, z15, z15l, m5, qz15, rfl⟩
        · try dsimp only at hr
          refine tm_call rfl rfl (tm_callS rfl rfl) (lq_206 m5) ?_
          refine tm_n 3 (F' := (26, [(6, .inr (.inl ((2 : Int64) * v3))), (4, .inr (.inl (a0 / a1))), (0, .inr (.inl a0)), (2, .inr (.inl a1))], [.inr (.inl a1)])) rfl ?_
          rcases lb_J_s hr with ⟨v6, h7, m8, hr⟩ | ⟨a12, h7, z13, z13l, m8, qz13, rfl⟩
          · try dsimp only at hr
            refine tm_call rfl rfl (tm_callS rfl rfl) (lq_206 m8) ?_
            refine tm_n 4 (F' := (36, [(8, .inr (.inl v6)), (6, .inr (.inl ((2 : Int64) * v3))), (4, .inr (.inl (a0 / a1))), (0, .inr (.inl a0)), (2, .inr (.inl a1))], [.inl (lg_cmp ((2 : Int64) * v3) v6)])) rfl ?_
            by_cases c11 : (0 : Int32) < (lg_cmp ((2 : Int64) * v3) v6)
            · rw [if_pos c11] at hr
              refine tm_ifT rfl c11 ?_
              refine tm_cut (a := [(0, .inr (.inl a0)), (2, .inr (.inl a1)), (4, .inr (.inl (a0 / a1)))]) rfl (tm_sbs [3, 4, 2] rfl) ?_
              exact l205_58_t hr
            · rw [if_neg c11] at hr
              refine tm_ifF rfl c11 ?_
              refine tm_n 3 (F' := (44, [(8, .inr (.inl v6)), (6, .inr (.inl ((2 : Int64) * v3))), (4, .inr (.inl (a0 / a1))), (0, .inr (.inl a0)), (2, .inr (.inl a1))], [.inl (lg_cmp ((2 : Int64) * v3) v6)])) rfl ?_
              by_cases c10 : (lg_cmp ((2 : Int64) * v3) v6) = (0 : Int32)
              · rw [if_pos c10] at hr
                refine tm_ifF rfl (fun q => q c10) ?_
                refine tm_n 5 (F' := (55, [(8, .inr (.inl v6)), (6, .inr (.inl ((2 : Int64) * v3))), (4, .inr (.inl (a0 / a1))), (0, .inr (.inl a0)), (2, .inr (.inl a1))], [.inl (lg_cmp ((a0 / a1) - (a0 / a1) / (2 : Int64) * (2 : Int64)) (0 : Int64))])) rfl ?_
                by_cases c9 : (lg_cmp ((a0 / a1) - (a0 / a1) / (2 : Int64) * (2 : Int64)) (0 : Int64)) = (0 : Int32)
                · rw [if_pos c9] at hr
                  refine tm_ifT rfl c9 ?_
                  refine tm_n 1 (F' := (97, [(8, .inr (.inl v6)), (6, .inr (.inl ((2 : Int64) * v3))), (4, .inr (.inl (a0 / a1))), (0, .inr (.inl a0)), (2, .inr (.inl a1))], [.inr (.inl (a0 / a1))])) rfl ?_
                  cases hr
                  exact tm_retJ rfl
                · rw [if_neg c9] at hr
                  refine tm_ifF rfl c9 ?_
                  refine tm_cut (a := [(0, .inr (.inl a0)), (2, .inr (.inl a1)), (4, .inr (.inl (a0 / a1)))]) rfl (tm_sbs [3, 4, 2] rfl) ?_
                  exact l205_58_t hr
              · rw [if_neg c10] at hr
                refine tm_ifT rfl c10 ?_
                refine tm_n 1 (F' := (97, [(8, .inr (.inl v6)), (6, .inr (.inl ((2 : Int64) * v3))), (4, .inr (.inl (a0 / a1))), (0, .inr (.inl a0)), (2, .inr (.inl a1))], [.inr (.inl (a0 / a1))])) rfl ?_
                cases hr
                exact tm_retJ rfl
          · exact tm_callT rfl rfl (tm_callS rfl rfl) (lq_206 m8) qz13 rfl
        · exact tm_callT rfl rfl (tm_callS rfl rfl) (lq_206 m5) qz15 rfl
-- OfficeSheet$Calculator.ofTwo(LOfficeSheet$PartKind;JJ)J
set_option maxRecDepth 20000 in
def ll_204 (a0 : Option Nat) (a1 : Int64) (a2 : Int64) (h : pm_H) : tm_L := lb_I (ll_198 a1 h) (fun v1 h2 => if v1 = (0 : Int32) then lb_I (ll_198 a2 h2) (fun v4 h5 => if v4 = (0 : Int32) then if lc_of h5 a0 = some 19 then lb_I (ll_166 a0 h5) (fun v8 h9 => (la_I h9 .iaload (some 19) v8).bind fun v11 => if v11 = (8 : Int32) then lb_J (ll_202 (a1 + a2) h9) (fun v13 h14 => some (.inl (some (.inr (.inl v13))), h14)) else if v11 = (9 : Int32) then lb_J (ll_202 (a1 - a2) h9) (fun v19 h20 => some (.inl (some (.inr (.inl v19))), h20)) else if v11 = (10 : Int32) then lb_J (ll_205 (a1 * a2) (10000 : Int64) h9) (fun v25 h26 => lb_J (ll_202 v25 h26) (fun v28 h29 => some (.inl (some (.inr (.inl v28))), h29))) else if (lg_cmp a2 (0 : Int64)) = (0 : Int32) then lb_J (ll_195 (1 : Int32) h9) (fun v35 h36 => some (.inl (some (.inr (.inl v35))), h36)) else lb_J (ll_205 (a1 * (10000 : Int64)) a2 h9) (fun v40 h41 => lb_J (ll_202 v40 h41) (fun v43 h44 => some (.inl (some (.inr (.inl v43))), h44)))) else none else some (.inl (some (.inr (.inl a2))), h5)) else some (.inl (some (.inr (.inl a1))), h2))
set_option maxRecDepth 20000 in
theorem lq_204 {w : Option Nat} {d : Nat} {a0 : Option Nat} {a1 : Int64} {a2 : Int64} {h : pm_H} {r : tm_O × pm_H} (hr : ll_204 a0 a1 a2 h = some r) : tm_run pt_P (pt_G (tm_r w)) (d + 2) 204 [.inr (.inr a0), .inr (.inl a1), .inr (.inl a2)] h r := by
  unfold ll_204 at hr
  show pm_to pt_P (pt_G (tm_r w)) (d + 2) (pt_g204, []) (tm_m (0, [(0, .inr (.inr a0)), (1, .inr (.inl a1)), (3, .inr (.inl a2))], [])) h (tm_e r)
  refine tm_n 1 (F' := (1, [(0, .inr (.inr a0)), (1, .inr (.inl a1)), (3, .inr (.inl a2))], [.inr (.inl a1)])) rfl ?_
  rcases lb_I_s hr with ⟨v1, h2, m3, hr⟩ | ⟨a57, h2, z58, z58l, m3, qz58, rfl⟩
  · try dsimp only at hr
    refine tm_call rfl rfl (tm_callS rfl rfl) (lq_198 m3) ?_
    by_cases c56 : v1 = (0 : Int32)
    · rw [if_pos c56] at hr
      refine tm_ifT rfl c56 ?_
      refine tm_n 1 (F' := (10, [(0, .inr (.inr a0)), (1, .inr (.inl a1)), (3, .inr (.inl a2))], [.inr (.inl a2)])) rfl ?_
      rcases lb_I_s hr with ⟨v4, h5, m6, hr⟩ | ⟨a54, h5, z55, z55l, m6, qz55, rfl⟩
      · try dsimp only at hr
        refine tm_call rfl rfl (tm_callS rfl rfl) (lq_198 m6) ?_
        by_cases c53 : v4 = (0 : Int32)
        · rw [if_pos c53] at hr
          refine tm_ifT rfl c53 ?_
          refine tm_n 2 (F' := (22, [(0, .inr (.inr a0)), (1, .inr (.inl a1)), (3, .inr (.inl a2))], [.inr (.inr a0), .inr (.inr (some 19))])) rfl ?_
          by_cases c7 : lc_of h5 a0 = some 19
          · rw [if_pos c7] at hr
            rcases lb_I_s hr with ⟨v8, h9, m10, hr⟩ | ⟨a51, h9, z52, z52l, m10, qz52, rfl⟩
            · try dsimp only at hr
              refine tm_call rfl rfl (tm_callV rfl rfl c7 rfl rfl) (lq_166 m10) ?_
              obtain ⟨v11, qv11, hr⟩ := Option.bind_eq_some_iff.mp hr
              refine tm_ald rfl rfl (la_I_V qv11) ?_
              by_cases c12 : v11 = (8 : Int32)
              · rw [if_pos c12] at hr
                refine tm_swt (t := 52) rfl (by simp only [pm_sw, if_pos c12]) ?_
                refine tm_n 3 (F' := (55, [(0, .inr (.inr a0)), (1, .inr (.inl a1)), (3, .inr (.inl a2))], [.inr (.inl (a1 + a2))])) rfl ?_
                rcases lb_J_s hr with ⟨v13, h14, m15, hr⟩ | ⟨a16, h14, z17, z17l, m15, qz17, rfl⟩
                · try dsimp only at hr
                  refine tm_call rfl rfl (tm_callS rfl rfl) (lq_202 m15) ?_
                  cases hr
                  exact tm_retJ rfl
                · exact tm_callT rfl rfl (tm_callS rfl rfl) (lq_202 m15) qz17 rfl
              · rw [if_neg c12] at hr
                by_cases c18 : v11 = (9 : Int32)
                · rw [if_pos c18] at hr
                  refine tm_swt (t := 59) rfl (by simp only [pm_sw, if_neg c12, if_pos c18]) ?_
                  refine tm_n 3 (F' := (62, [(0, .inr (.inr a0)), (1, .inr (.inl a1)), (3, .inr (.inl a2))], [.inr (.inl (a1 - a2))])) rfl ?_
                  rcases lb_J_s hr with ⟨v19, h20, m21, hr⟩ | ⟨a22, h20, z23, z23l, m21, qz23, rfl⟩
                  · try dsimp only at hr
                    refine tm_call rfl rfl (tm_callS rfl rfl) (lq_202 m21) ?_
                    cases hr
                    exact tm_retJ rfl
                  · exact tm_callT rfl rfl (tm_callS rfl rfl) (lq_202 m21) qz23 rfl
                · rw [if_neg c18] at hr
                  by_cases c24 : v11 = (10 : Int32)
                  · rw [if_pos c24] at hr
                    refine tm_swt (t := 66) rfl (by simp only [pm_sw, if_neg c12, if_neg c18, if_pos c24]) ?_
                    refine tm_n 4 (F' := (72, [(0, .inr (.inr a0)), (1, .inr (.inl a1)), (3, .inr (.inl a2))], [.inr (.inl (10000 : Int64)), .inr (.inl (a1 * a2))])) rfl ?_
                    rcases lb_J_s hr with ⟨v25, h26, m27, hr⟩ | ⟨a33, h26, z34, z34l, m27, qz34, rfl⟩
                    · try dsimp only at hr
                      refine tm_call rfl rfl (tm_callS rfl rfl) (lq_205 m27) ?_
                      rcases lb_J_s hr with ⟨v28, h29, m30, hr⟩ | ⟨a31, h29, z32, z32l, m30, qz32, rfl⟩
                      · try dsimp only at hr
                        refine tm_call rfl rfl (tm_callS rfl rfl) (lq_202 m30) ?_
                        cases hr
                        exact tm_retJ rfl
                      · exact tm_callT rfl rfl (tm_callS rfl rfl) (lq_202 m30) qz32 rfl
                    · exact tm_callT rfl rfl (tm_callS rfl rfl) (lq_205 m27) qz34 rfl
                  · rw [if_neg c24] at hr
                    refine tm_swt (t := 79) rfl (by simp only [pm_sw, if_neg c12, if_neg c18, if_neg c24]) ?_
                    refine tm_n 3 (F' := (82, [(0, .inr (.inr a0)), (1, .inr (.inl a1)), (3, .inr (.inl a2))], [.inl (lg_cmp a2 (0 : Int64))])) rfl ?_
                    by_cases c50 : (lg_cmp a2 (0 : Int64)) = (0 : Int32)
                    · rw [if_pos c50] at hr
                      refine tm_ifF rfl (fun q => q c50) ?_
                      refine tm_n 1 (F' := (86, [(0, .inr (.inr a0)), (1, .inr (.inl a1)), (3, .inr (.inl a2))], [.inl (1 : Int32)])) rfl ?_
                      rcases lb_J_s hr with ⟨v35, h36, m37, hr⟩ | ⟨a38, h36, z39, z39l, m37, qz39, rfl⟩
                      · try dsimp only at hr
                        refine tm_call rfl rfl (tm_callS rfl rfl) (lq_195 m37) ?_
                        refine tm_n 1 (F' := (104, [(0, .inr (.inr a0)), (1, .inr (.inl a1)), (3, .inr (.inl a2))], [.inr (.inl v35)])) rfl ?_
                        cases hr
                        exact tm_retJ rfl
                      · exact tm_callT rfl rfl (tm_callS rfl rfl) (lq_195 m37) qz39 rfl
                    · rw [if_neg c50] at hr
                      refine tm_ifT rfl c50 ?_
                      refine tm_n 4 (F' := (98, [(0, .inr (.inr a0)), (1, .inr (.inl a1)), (3, .inr (.inl a2))], [.inr (.inl a2), .inr (.inl (a1 * (10000 : Int64)))])) rfl ?_
                      rcases lb_J_s hr with ⟨v40, h41, m42, hr⟩ | ⟨a48, h41, z49, z49l, m42, qz49, rfl⟩
                      · try dsimp only at hr
                        refine tm_call rfl rfl (tm_callS rfl rfl) (lq_205 m42) ?_
                        rcases lb_J_s hr with ⟨v43, h44, m45, hr⟩ | ⟨a46, h44, z47, z47l, m45, qz47, rfl⟩
                        · try dsimp only at hr
                          refine tm_call rfl rfl (tm_callS rfl rfl) (lq_202 m45) ?_
                          cases hr
                          exact tm_retJ rfl
                        · exact tm_callT rfl rfl (tm_callS rfl rfl) (lq_202 m45) qz47 rfl
                      · exact tm_callT rfl rfl (tm_callS rfl rfl) (lq_205 m42) qz49 rfl
            · exact tm_callT rfl rfl (tm_callV rfl rfl c7 rfl rfl) (lq_166 m10) qz52 rfl
          · rw [if_neg c7] at hr
            cases hr
        · rw [if_neg c53] at hr
          refine tm_ifF rfl c53 ?_
          refine tm_n 1 (F' := (17, [(0, .inr (.inr a0)), (1, .inr (.inl a1)), (3, .inr (.inl a2))], [.inr (.inl a2)])) rfl ?_
          cases hr
          exact tm_retJ rfl
      · exact tm_callT rfl rfl (tm_callS rfl rfl) (lq_198 m6) qz55 rfl
    · rw [if_neg c56] at hr
      refine tm_ifF rfl c56 ?_
      refine tm_n 1 (F' := (8, [(0, .inr (.inr a0)), (1, .inr (.inl a1)), (3, .inr (.inl a2))], [.inr (.inl a1)])) rfl ?_
      cases hr
      exact tm_retJ rfl
  · exact tm_callT rfl rfl (tm_callS rfl rfl) (lq_198 m3) qz58 rfl
-- OfficeSheet$Calculator.evaluate(LOfficeSheet$Part;I)J
set_option maxRecDepth 20000 in
def lm_193 (X : Option Nat → Option Nat → Int32 → pm_H → tm_L) (a0 : Option Nat) (a1 : Option Nat) (a2 : Int32) (h : pm_H) : tm_L := match a1 with | none => (some (.inl (some (.inr (.inl (0 : Int64)))), h)) | some a1 => (if a2 ≤ (22 : Int32) then (lf_R h (some a1) [9, 0]).bind fun v2 => if lc_of h v2 = some 19 then lb_I (ll_166 v2 h) (fun v4 h5 => (la_I h5 .iaload (some 19) v4).bind fun v7 => if v7 = (1 : Int32) then (lf_R h5 (some a1) [9, 2]).bind fun v9 => if lc_of h5 a0 = some 2 then lb_J (X a0 v9 (a2 + (1 : Int32)) h5) (fun v11 h12 => some (.inl (some (.inr (.inl v11))), h12)) else none else if v7 = (2 : Int32) then (lf_J h5 (some a1) [9, 3]).bind fun v17 => some (.inl (some (.inr (.inl v17))), h5) else if v7 = (3 : Int32) then if lc_of h5 a0 = some 2 then lb_J (ll_194 a0 (some a1) h5) (fun v20 h21 => some (.inl (some (.inr (.inl v20))), h21)) else none else if v7 = (4 : Int32) then (lf_R h5 (some a1) [9, 2]).bind fun v26 => if lc_of h5 a0 = some 2 then lb_J (X a0 v26 (a2 + (1 : Int32)) h5) (fun v28 h29 => lb_I (ll_198 v28 h29) (fun v31 h32 => if v31 = (0 : Int32) then some (.inl (some (.inr (.inl (-v28)))), h32) else some (.inl (some (.inr (.inl v28))), h32))) else none else if v7 = (5 : Int32) then if lc_of h5 a0 = some 2 then lb_J (ll_199 a0 (some a1) h5) (fun v41 h42 => some (.inl (some (.inr (.inl v41))), h42)) else none else if v7 = (6 : Int32) then if lc_of h5 a0 = some 2 then lb_J (ll_199 a0 (some a1) h5) (fun v48 h49 => some (.inl (some (.inr (.inl v48))), h49)) else none else if v7 = (7 : Int32) then if lc_of h5 a0 = some 2 then lb_J (ll_199 a0 (some a1) h5) (fun v55 h56 => some (.inl (some (.inr (.inl v55))), h56)) else none else (lf_R h5 (some a1) [9, 1]).bind fun v60 => if lc_of h5 a0 = some 2 then lb_J (X a0 v60 (a2 + (1 : Int32)) h5) (fun v62 h63 => (lf_R h63 (some a1) [9, 2]).bind fun v65 => if lc_of h63 a0 = some 2 then lb_J (X a0 v65 (a2 + (1 : Int32)) h63) (fun v67 h68 => (lf_R h68 (some a1) [9, 0]).bind fun v70 => lb_J (ll_204 v70 v62 v67 h68) (fun v71 h72 => some (.inl (some (.inr (.inl v71))), h72))) else none) else none) else none else some (.inl (some (.inr (.inl (0 : Int64)))), h))
set_option maxRecDepth 20000 in
theorem lmt_193 {w : Option Nat} {d : Nat} {X : Option Nat → Option Nat → Int32 → pm_H → tm_L} (hX : ∀ {b0 : Option Nat} {b1 : Option Nat} {b2 : Int32} {h : pm_H} {r : tm_O × pm_H}, X b0 b1 b2 h = some r → tm_run pt_P (pt_G (tm_r w)) (d + 20) 193 [.inr (.inr b0), .inr (.inr b1), .inl b2] h r) {a0 : Option Nat} {a1 : Option Nat} {a2 : Int32} {h : pm_H} {r : tm_O × pm_H} (hr : lm_193 X a0 a1 a2 h = some r) : tm_run pt_P (pt_G (tm_r w)) (d + 21) 193 [.inr (.inr a0), .inr (.inr a1), .inl a2] h r := by
  unfold lm_193 at hr
  show pm_to pt_P (pt_G (tm_r w)) (d + 21) (pt_g193, []) (tm_m (0, [(0, .inr (.inr a0)), (1, .inr (.inr a1)), (2, .inl a2)], [])) h (tm_e r)
  refine tm_n 1 (F' := (1, [(0, .inr (.inr a0)), (1, .inr (.inr a1)), (2, .inl a2)], [.inr (.inr a1)])) rfl ?_
  cases a1 with
  | none =>
    try dsimp only at hr
    refine tm_nuT rfl ?_
    refine tm_n 1 (F' := (11, [(0, .inr (.inr a0)), (1, .inr (.inr none)), (2, .inl a2)], [.inr (.inl (0 : Int64))])) rfl ?_
    cases hr
    exact tm_retJ rfl
  | some a1 =>
    try dsimp only at hr
    refine tm_nuF rfl ?_
    refine tm_n 2 (F' := (7, [(0, .inr (.inr a0)), (1, .inr (.inr (some a1))), (2, .inl a2)], [.inl (22 : Int32), .inl a2])) rfl ?_
    by_cases c82 : a2 ≤ (22 : Int32)
    · rw [if_pos c82] at hr
      refine tm_icT rfl c82 ?_
      refine tm_n 2 (F' := (16, [(0, .inr (.inr a0)), (1, .inr (.inr (some a1))), (2, .inl a2)], [.inr (.inr (some a1)), .inr (.inr (some 19))])) rfl ?_
      obtain ⟨v2, qv2, hr⟩ := Option.bind_eq_some_iff.mp hr
      refine tm_getf rfl (lf_R_V qv2) ?_
      by_cases c3 : lc_of h v2 = some 19
      · rw [if_pos c3] at hr
        rcases lb_I_s hr with ⟨v4, h5, m6, hr⟩ | ⟨a80, h5, z81, z81l, m6, qz81, rfl⟩
        · try dsimp only at hr
          refine tm_call rfl rfl (tm_callV rfl rfl c3 rfl rfl) (lq_166 m6) ?_
          obtain ⟨v7, qv7, hr⟩ := Option.bind_eq_some_iff.mp hr
          refine tm_ald rfl rfl (la_I_V qv7) ?_
          by_cases c8 : v7 = (1 : Int32)
          · rw [if_pos c8] at hr
            refine tm_swt (t := 64) rfl (by simp only [pm_sw, if_pos c8]) ?_
            refine tm_n 2 (F' := (66, [(0, .inr (.inr a0)), (1, .inr (.inr (some a1))), (2, .inl a2)], [.inr (.inr (some a1)), .inr (.inr a0)])) rfl ?_
            obtain ⟨v9, qv9, hr⟩ := Option.bind_eq_some_iff.mp hr
            refine tm_getf rfl (lf_R_V qv9) ?_
            refine tm_n 3 (F' := (72, [(0, .inr (.inr a0)), (1, .inr (.inr (some a1))), (2, .inl a2)], [.inl (a2 + (1 : Int32)), .inr (.inr v9), .inr (.inr a0)])) rfl ?_
            by_cases c10 : lc_of h5 a0 = some 2
            · rw [if_pos c10] at hr
              rcases lb_J_s hr with ⟨v11, h12, m13, hr⟩ | ⟨a14, h12, z15, z15l, m13, qz15, rfl⟩
              · try dsimp only at hr
                refine tm_call rfl rfl (tm_callV rfl rfl c10 rfl rfl) (tm_dp (by omega) <| hX m13) ?_
                cases hr
                exact tm_retJ rfl
              · exact tm_callT rfl rfl (tm_callV rfl rfl c10 rfl rfl) (tm_dp (by omega) <| hX m13) qz15 rfl
            · rw [if_neg c10] at hr
              cases hr
          · rw [if_neg c8] at hr
            by_cases c16 : v7 = (2 : Int32)
            · rw [if_pos c16] at hr
              refine tm_swt (t := 76) rfl (by simp only [pm_sw, if_neg c8, if_pos c16]) ?_
              refine tm_n 1 (F' := (77, [(0, .inr (.inr a0)), (1, .inr (.inr (some a1))), (2, .inl a2)], [.inr (.inr (some a1))])) rfl ?_
              obtain ⟨v17, qv17, hr⟩ := Option.bind_eq_some_iff.mp hr
              refine tm_getf rfl (lf_J_V qv17) ?_
              cases hr
              exact tm_retJ rfl
            · rw [if_neg c16] at hr
              by_cases c18 : v7 = (3 : Int32)
              · rw [if_pos c18] at hr
                refine tm_swt (t := 81) rfl (by simp only [pm_sw, if_neg c8, if_neg c16, if_pos c18]) ?_
                refine tm_n 2 (F' := (83, [(0, .inr (.inr a0)), (1, .inr (.inr (some a1))), (2, .inl a2)], [.inr (.inr (some a1)), .inr (.inr a0)])) rfl ?_
                by_cases c19 : lc_of h5 a0 = some 2
                · rw [if_pos c19] at hr
                  rcases lb_J_s hr with ⟨v20, h21, m22, hr⟩ | ⟨a23, h21, z24, z24l, m22, qz24, rfl⟩
                  · try dsimp only at hr
                    refine tm_call rfl rfl (tm_callV rfl rfl c19 rfl rfl) (lq_194 m22) ?_
                    cases hr
                    exact tm_retJ rfl
                  · exact tm_callT rfl rfl (tm_callV rfl rfl c19 rfl rfl) (lq_194 m22) qz24 rfl
                · rw [if_neg c19] at hr
                  cases hr
              · rw [if_neg c18] at hr
                by_cases c25 : v7 = (4 : Int32)
                · rw [if_pos c25] at hr
                  refine tm_swt (t := 87) rfl (by simp only [pm_sw, if_neg c8, if_neg c16, if_neg c18, if_pos c25]) ?_
                  refine tm_n 2 (F' := (89, [(0, .inr (.inr a0)), (1, .inr (.inr (some a1))), (2, .inl a2)], [.inr (.inr (some a1)), .inr (.inr a0)])) rfl ?_
                  obtain ⟨v26, qv26, hr⟩ := Option.bind_eq_some_iff.mp hr
                  refine tm_getf rfl (lf_R_V qv26) ?_
                  refine tm_n 3 (F' := (95, [(0, .inr (.inr a0)), (1, .inr (.inr (some a1))), (2, .inl a2)], [.inl (a2 + (1 : Int32)), .inr (.inr v26), .inr (.inr a0)])) rfl ?_
                  by_cases c27 : lc_of h5 a0 = some 2
                  · rw [if_pos c27] at hr
                    rcases lb_J_s hr with ⟨v28, h29, m30, hr⟩ | ⟨a37, h29, z38, z38l, m30, qz38, rfl⟩
                    · try dsimp only at hr
                      refine tm_call rfl rfl (tm_callV rfl rfl c27 rfl rfl) (tm_dp (by omega) <| hX m30) ?_
                      refine tm_n 2 (F' := (100, [(3, .inr (.inl v28)), (0, .inr (.inr a0)), (1, .inr (.inr (some a1))), (2, .inl a2)], [.inr (.inl v28)])) rfl ?_
                      rcases lb_I_s hr with ⟨v31, h32, m33, hr⟩ | ⟨a35, h32, z36, z36l, m33, qz36, rfl⟩
                      · try dsimp only at hr
                        refine tm_call rfl rfl (tm_callS rfl rfl) (lq_198 m33) ?_
                        by_cases c34 : v31 = (0 : Int32)
                        · rw [if_pos c34] at hr
                          refine tm_ifT rfl c34 ?_
                          refine tm_n 2 (F' := (112, [(3, .inr (.inl v28)), (0, .inr (.inr a0)), (1, .inr (.inr (some a1))), (2, .inl a2)], [.inr (.inl (-v28))])) rfl ?_
                          cases hr
                          exact tm_retJ rfl
                        · rw [if_neg c34] at hr
                          refine tm_ifF rfl c34 ?_
                          refine tm_n 2 (F' := (112, [(3, .inr (.inl v28)), (0, .inr (.inr a0)), (1, .inr (.inr (some a1))), (2, .inl a2)], [.inr (.inl v28)])) rfl ?_
                          cases hr
                          exact tm_retJ rfl
                      · exact tm_callT rfl rfl (tm_callS rfl rfl) (lq_198 m33) qz36 rfl
                    · exact tm_callT rfl rfl (tm_callV rfl rfl c27 rfl rfl) (tm_dp (by omega) <| hX m30) qz38 rfl
                  · rw [if_neg c27] at hr
                    cases hr
                · rw [if_neg c25] at hr
                  by_cases c39 : v7 = (5 : Int32)
                  · rw [if_pos c39] at hr
                    refine tm_swt (t := 113) rfl (by simp only [pm_sw, if_neg c8, if_neg c16, if_neg c18, if_neg c25, if_pos c39]) ?_
                    refine tm_n 2 (F' := (115, [(0, .inr (.inr a0)), (1, .inr (.inr (some a1))), (2, .inl a2)], [.inr (.inr (some a1)), .inr (.inr a0)])) rfl ?_
                    by_cases c40 : lc_of h5 a0 = some 2
                    · rw [if_pos c40] at hr
                      rcases lb_J_s hr with ⟨v41, h42, m43, hr⟩ | ⟨a44, h42, z45, z45l, m43, qz45, rfl⟩
                      · try dsimp only at hr
                        refine tm_call rfl rfl (tm_callV rfl rfl c40 rfl rfl) (lq_199 m43) ?_
                        cases hr
                        exact tm_retJ rfl
                      · exact tm_callT rfl rfl (tm_callV rfl rfl c40 rfl rfl) (lq_199 m43) qz45 rfl
                    · rw [if_neg c40] at hr
                      cases hr
                  · rw [if_neg c39] at hr
                    by_cases c46 : v7 = (6 : Int32)
                    · rw [if_pos c46] at hr
                      refine tm_swt (t := 113) rfl (by simp only [pm_sw, if_neg c8, if_neg c16, if_neg c18, if_neg c25, if_neg c39, if_pos c46]) ?_
                      refine tm_n 2 (F' := (115, [(0, .inr (.inr a0)), (1, .inr (.inr (some a1))), (2, .inl a2)], [.inr (.inr (some a1)), .inr (.inr a0)])) rfl ?_
                      by_cases c47 : lc_of h5 a0 = some 2
                      · rw [if_pos c47] at hr
                        rcases lb_J_s hr with ⟨v48, h49, m50, hr⟩ | ⟨a51, h49, z52, z52l, m50, qz52, rfl⟩
                        · try dsimp only at hr
                          refine tm_call rfl rfl (tm_callV rfl rfl c47 rfl rfl) (lq_199 m50) ?_
                          cases hr
                          exact tm_retJ rfl
                        · exact tm_callT rfl rfl (tm_callV rfl rfl c47 rfl rfl) (lq_199 m50) qz52 rfl
                      · rw [if_neg c47] at hr
                        cases hr
                    · rw [if_neg c46] at hr
                      by_cases c53 : v7 = (7 : Int32)
                      · rw [if_pos c53] at hr
                        refine tm_swt (t := 113) rfl (by simp only [pm_sw, if_neg c8, if_neg c16, if_neg c18, if_neg c25, if_neg c39, if_neg c46, if_pos c53]) ?_
                        refine tm_n 2 (F' := (115, [(0, .inr (.inr a0)), (1, .inr (.inr (some a1))), (2, .inl a2)], [.inr (.inr (some a1)), .inr (.inr a0)])) rfl ?_
                        by_cases c54 : lc_of h5 a0 = some 2
                        · rw [if_pos c54] at hr
                          rcases lb_J_s hr with ⟨v55, h56, m57, hr⟩ | ⟨a58, h56, z59, z59l, m57, qz59, rfl⟩
                          · try dsimp only at hr
                            refine tm_call rfl rfl (tm_callV rfl rfl c54 rfl rfl) (lq_199 m57) ?_
                            cases hr
                            exact tm_retJ rfl
                          · exact tm_callT rfl rfl (tm_callV rfl rfl c54 rfl rfl) (lq_199 m57) qz59 rfl
                        · rw [if_neg c54] at hr
                          cases hr
                      · rw [if_neg c53] at hr
                        refine tm_swt (t := 119) rfl (by simp only [pm_sw, if_neg c8, if_neg c16, if_neg c18, if_neg c25, if_neg c39, if_neg c46, if_neg c53]) ?_
                        refine tm_n 2 (F' := (121, [(0, .inr (.inr a0)), (1, .inr (.inr (some a1))), (2, .inl a2)], [.inr (.inr (some a1)), .inr (.inr a0)])) rfl ?_
                        obtain ⟨v60, qv60, hr⟩ := Option.bind_eq_some_iff.mp hr
                        refine tm_getf rfl (lf_R_V qv60) ?_
                        refine tm_n 3 (F' := (127, [(0, .inr (.inr a0)), (1, .inr (.inr (some a1))), (2, .inl a2)], [.inl (a2 + (1 : Int32)), .inr (.inr v60), .inr (.inr a0)])) rfl ?_
                        by_cases c61 : lc_of h5 a0 = some 2
                        · rw [if_pos c61] at hr
                          rcases lb_J_s hr with ⟨v62, h63, m64, hr⟩ | ⟨a78, h63, z79, z79l, m64, qz79, rfl⟩
                          · try dsimp only at hr
                            refine tm_call rfl rfl (tm_callV rfl rfl c61 rfl rfl) (tm_dp (by omega) <| hX m64) ?_
                            refine tm_n 3 (F' := (134, [(5, .inr (.inl v62)), (0, .inr (.inr a0)), (1, .inr (.inr (some a1))), (2, .inl a2)], [.inr (.inr (some a1)), .inr (.inr a0)])) rfl ?_
                            obtain ⟨v65, qv65, hr⟩ := Option.bind_eq_some_iff.mp hr
                            refine tm_getf rfl (lf_R_V qv65) ?_
                            refine tm_n 3 (F' := (140, [(5, .inr (.inl v62)), (0, .inr (.inr a0)), (1, .inr (.inr (some a1))), (2, .inl a2)], [.inl (a2 + (1 : Int32)), .inr (.inr v65), .inr (.inr a0)])) rfl ?_
                            by_cases c66 : lc_of h63 a0 = some 2
                            · rw [if_pos c66] at hr
                              rcases lb_J_s hr with ⟨v67, h68, m69, hr⟩ | ⟨a76, h68, z77, z77l, m69, qz77, rfl⟩
                              · try dsimp only at hr
                                refine tm_call rfl rfl (tm_callV rfl rfl c66 rfl rfl) (tm_dp (by omega) <| hX m69) ?_
                                refine tm_n 2 (F' := (146, [(7, .inr (.inl v67)), (5, .inr (.inl v62)), (0, .inr (.inr a0)), (1, .inr (.inr (some a1))), (2, .inl a2)], [.inr (.inr (some a1))])) rfl ?_
                                obtain ⟨v70, qv70, hr⟩ := Option.bind_eq_some_iff.mp hr
                                refine tm_getf rfl (lf_R_V qv70) ?_
                                refine tm_n 2 (F' := (153, [(7, .inr (.inl v67)), (5, .inr (.inl v62)), (0, .inr (.inr a0)), (1, .inr (.inr (some a1))), (2, .inl a2)], [.inr (.inl v67), .inr (.inl v62), .inr (.inr v70)])) rfl ?_
                                rcases lb_J_s hr with ⟨v71, h72, m73, hr⟩ | ⟨a74, h72, z75, z75l, m73, qz75, rfl⟩
                                · try dsimp only at hr
                                  refine tm_call rfl rfl (tm_callS rfl rfl) (lq_204 m73) ?_
                                  cases hr
                                  exact tm_retJ rfl
                                · exact tm_callT rfl rfl (tm_callS rfl rfl) (lq_204 m73) qz75 rfl
                              · exact tm_callT rfl rfl (tm_callV rfl rfl c66 rfl rfl) (tm_dp (by omega) <| hX m69) qz77 rfl
                            · rw [if_neg c66] at hr
                              cases hr
                          · exact tm_callT rfl rfl (tm_callV rfl rfl c61 rfl rfl) (tm_dp (by omega) <| hX m64) qz79 rfl
                        · rw [if_neg c61] at hr
                          cases hr
        · exact tm_callT rfl rfl (tm_callV rfl rfl c3 rfl rfl) (lq_166 m6) qz81 rfl
      · rw [if_neg c3] at hr
        cases hr
    · rw [if_neg c82] at hr
      refine tm_icF rfl c82 ?_
      refine tm_n 1 (F' := (11, [(0, .inr (.inr a0)), (1, .inr (.inr (some a1))), (2, .inl a2)], [.inr (.inl (0 : Int64))])) rfl ?_
      cases hr
      exact tm_retJ rfl
set_option maxRecDepth 20000 in
def ll_193 : Nat → Option Nat → Option Nat → Int32 → pm_H → tm_L
  | 0 => fun _ _ _ _ => none
  | n + 1 => lm_193 (ll_193 n)
set_option maxRecDepth 20000 in
theorem lq_193 {w : Option Nat} {d : Nat} : ∀ (n : Nat) {a0 : Option Nat} {a1 : Option Nat} {a2 : Int32} {h : pm_H} {r : tm_O × pm_H}, ll_193 n a0 a1 a2 h = some r → tm_run pt_P (pt_G (tm_r w)) (d + 1 * n + 20) 193 [.inr (.inr a0), .inr (.inr a1), .inl a2] h r := by
  intro n
  induction n with
  | zero => intro a0 a1 a2 h r hr; cases hr
  | succ n ih =>
    intro a0 a1 a2 h r hr
    exact lmt_193 (d := d + 1 * n) (fun hr => ih hr) hr
set_option maxRecDepth 20000 in
theorem lq_193f {w : Option Nat} {d : Nat} {a0 : Option Nat} {a1 : Option Nat} {a2 : Int32} {h : pm_H} {r : tm_O × pm_H} (hr : ll_193 40 a0 a1 a2 h = some r) : tm_run pt_P (pt_G (tm_r w)) (d + 40 + 20) 193 [.inr (.inr a0), .inr (.inr a1), .inl a2] h r := lq_193 (d := d) 40 hr
-- OfficeSheet$Calculator.calculate(LOfficeSheet$Office;)V
set_option maxRecDepth 20000 in
def l187_108 (K9 : Option Nat → Int32 → Int32 → pm_H → tm_L) (K26 : Option Nat → Int32 → Int32 → Int32 → pm_H → tm_L) (x0 : Option Nat) (x2 : Int32) (x3 : Int32) (x4 : Int32) (h : pm_H) : tm_L := K26 x0 x2 x3 (x4 + (1 : Int32)) h
set_option maxRecDepth 20000 in
theorem l187_108_t {w : Option Nat} {d : Nat} {K9 : Option Nat → Int32 → Int32 → pm_H → tm_L} {K26 : Option Nat → Int32 → Int32 → Int32 → pm_H → tm_L} (hK9 : ∀ {x0 : Option Nat} {x2 : Int32} {x3 : Int32}  {h : pm_H} {r : tm_O × pm_H}, K9 x0 x2 x3 h = some r → pm_to pt_P (pt_G (tm_r w)) (d + 61) (pt_g187, []) (tm_m (9, [(0, .inr (.inr x0)), (2, .inl x2), (3, .inl x3)], [])) h (tm_e r)) (hK26 : ∀ {x0 : Option Nat} {x2 : Int32} {x3 : Int32} {x4 : Int32}  {h : pm_H} {r : tm_O × pm_H}, K26 x0 x2 x3 x4 h = some r → pm_to pt_P (pt_G (tm_r w)) (d + 61) (pt_g187, []) (tm_m (26, [(0, .inr (.inr x0)), (2, .inl x2), (3, .inl x3), (4, .inl x4)], [])) h (tm_e r)) {x0 : Option Nat} {x2 : Int32} {x3 : Int32} {x4 : Int32} {h : pm_H} {r : tm_O × pm_H} (hr : l187_108 K9 K26 x0 x2 x3 x4 h = some r) : pm_to pt_P (pt_G (tm_r w)) (d + 61) (pt_g187, []) (tm_m (108, [(0, .inr (.inr x0)), (2, .inl x2), (3, .inl x3), (4, .inl x4)], [])) h (tm_e r) := by
  unfold l187_108 at hr
  refine tm_n 2 (F' := (26, [(4, .inl (x4 + (1 : Int32))), (0, .inr (.inr x0)), (2, .inl x2), (3, .inl x3)], [])) rfl ?_
  refine tm_cut (a := [(0, .inr (.inr x0)), (2, .inl x2), (3, .inl x3), (4, .inl (x4 + (1 : Int32)))]) rfl (tm_sbs [1, 2, 3, 0] rfl) ?_
  exact hK26 hr
set_option maxRecDepth 20000 in
def l187_107 (K9 : Option Nat → Int32 → Int32 → pm_H → tm_L) (K26 : Option Nat → Int32 → Int32 → Int32 → pm_H → tm_L) (x0 : Option Nat) (x3 : Int32) (x4 : Int32) (s0 : Int32) (h : pm_H) : tm_L := l187_108 K9 K26 x0 s0 x3 x4 h
set_option maxRecDepth 20000 in
theorem l187_107_t {w : Option Nat} {d : Nat} {K9 : Option Nat → Int32 → Int32 → pm_H → tm_L} {K26 : Option Nat → Int32 → Int32 → Int32 → pm_H → tm_L} (hK9 : ∀ {x0 : Option Nat} {x2 : Int32} {x3 : Int32}  {h : pm_H} {r : tm_O × pm_H}, K9 x0 x2 x3 h = some r → pm_to pt_P (pt_G (tm_r w)) (d + 61) (pt_g187, []) (tm_m (9, [(0, .inr (.inr x0)), (2, .inl x2), (3, .inl x3)], [])) h (tm_e r)) (hK26 : ∀ {x0 : Option Nat} {x2 : Int32} {x3 : Int32} {x4 : Int32}  {h : pm_H} {r : tm_O × pm_H}, K26 x0 x2 x3 x4 h = some r → pm_to pt_P (pt_G (tm_r w)) (d + 61) (pt_g187, []) (tm_m (26, [(0, .inr (.inr x0)), (2, .inl x2), (3, .inl x3), (4, .inl x4)], [])) h (tm_e r)) {x0 : Option Nat} {x3 : Int32} {x4 : Int32} {s0 : Int32} {h : pm_H} {r : tm_O × pm_H} (hr : l187_107 K9 K26 x0 x3 x4 s0 h = some r) : pm_to pt_P (pt_G (tm_r w)) (d + 61) (pt_g187, []) (tm_m (107, [(0, .inr (.inr x0)), (3, .inl x3), (4, .inl x4)], [.inl s0])) h (tm_e r) := by
  unfold l187_107 at hr
  refine tm_n 1 (F' := (108, [(2, .inl s0), (0, .inr (.inr x0)), (3, .inl x3), (4, .inl x4)], [])) rfl ?_
  refine tm_cut (a := [(0, .inr (.inr x0)), (2, .inl s0), (3, .inl x3), (4, .inl x4)]) rfl (tm_sbs [1, 0, 2, 3] rfl) ?_
  exact l187_108_t hK9 hK26 hr
set_option maxRecDepth 20000 in
def l187_102 (K9 : Option Nat → Int32 → Int32 → pm_H → tm_L) (K26 : Option Nat → Int32 → Int32 → Int32 → pm_H → tm_L) (x0 : Option Nat) (x3 : Int32) (x4 : Int32) (h : pm_H) : tm_L := l187_107 K9 K26 x0 x3 x4 (1 : Int32) h
set_option maxRecDepth 20000 in
theorem l187_102_t {w : Option Nat} {d : Nat} {K9 : Option Nat → Int32 → Int32 → pm_H → tm_L} {K26 : Option Nat → Int32 → Int32 → Int32 → pm_H → tm_L} (hK9 : ∀ {x0 : Option Nat} {x2 : Int32} {x3 : Int32}  {h : pm_H} {r : tm_O × pm_H}, K9 x0 x2 x3 h = some r → pm_to pt_P (pt_G (tm_r w)) (d + 61) (pt_g187, []) (tm_m (9, [(0, .inr (.inr x0)), (2, .inl x2), (3, .inl x3)], [])) h (tm_e r)) (hK26 : ∀ {x0 : Option Nat} {x2 : Int32} {x3 : Int32} {x4 : Int32}  {h : pm_H} {r : tm_O × pm_H}, K26 x0 x2 x3 x4 h = some r → pm_to pt_P (pt_G (tm_r w)) (d + 61) (pt_g187, []) (tm_m (26, [(0, .inr (.inr x0)), (2, .inl x2), (3, .inl x3), (4, .inl x4)], [])) h (tm_e r)) {x0 : Option Nat} {x3 : Int32} {x4 : Int32} {h : pm_H} {r : tm_O × pm_H} (hr : l187_102 K9 K26 x0 x3 x4 h = some r) : pm_to pt_P (pt_G (tm_r w)) (d + 61) (pt_g187, []) (tm_m (102, [(0, .inr (.inr x0)), (3, .inl x3), (4, .inl x4)], [])) h (tm_e r) := by
  unfold l187_102 at hr
  refine tm_n 2 (F' := (107, [(0, .inr (.inr x0)), (3, .inl x3), (4, .inl x4)], [.inl (1 : Int32)])) rfl ?_
  refine tm_cut (a := [(0, .inr (.inr x0)), (3, .inl x3), (4, .inl x4)]) rfl (tm_sbs [0, 1, 2] rfl) ?_
  exact l187_107_t hK9 hK26 hr
set_option maxRecDepth 20000 in
def l187_90 (K9 : Option Nat → Int32 → Int32 → pm_H → tm_L) (K26 : Option Nat → Int32 → Int32 → Int32 → pm_H → tm_L) (x0 : Option Nat) (x2 : Int32) (x3 : Int32) (x4 : Int32) (s0 : Int32) (s1 : Int32) (s2 : Option Nat) (h : pm_H) : tm_L := (la_S pt_P h .bastore s2 s1 (.inl s0)).bind fun h1 => if x2 = (0 : Int32) then (lf_I h1 x0 [2, 6]).bind fun v2 => if v2 = (0 : Int32) then l187_102 K9 K26 x0 x3 x4 h1 else l187_107 K9 K26 x0 x3 x4 (0 : Int32) h1 else l187_102 K9 K26 x0 x3 x4 h1
set_option maxRecDepth 20000 in
theorem l187_90_t {w : Option Nat} {d : Nat} {K9 : Option Nat → Int32 → Int32 → pm_H → tm_L} {K26 : Option Nat → Int32 → Int32 → Int32 → pm_H → tm_L} (hK9 : ∀ {x0 : Option Nat} {x2 : Int32} {x3 : Int32}  {h : pm_H} {r : tm_O × pm_H}, K9 x0 x2 x3 h = some r → pm_to pt_P (pt_G (tm_r w)) (d + 61) (pt_g187, []) (tm_m (9, [(0, .inr (.inr x0)), (2, .inl x2), (3, .inl x3)], [])) h (tm_e r)) (hK26 : ∀ {x0 : Option Nat} {x2 : Int32} {x3 : Int32} {x4 : Int32}  {h : pm_H} {r : tm_O × pm_H}, K26 x0 x2 x3 x4 h = some r → pm_to pt_P (pt_G (tm_r w)) (d + 61) (pt_g187, []) (tm_m (26, [(0, .inr (.inr x0)), (2, .inl x2), (3, .inl x3), (4, .inl x4)], [])) h (tm_e r)) {x0 : Option Nat} {x2 : Int32} {x3 : Int32} {x4 : Int32} {s0 : Int32} {s1 : Int32} {s2 : Option Nat} {h : pm_H} {r : tm_O × pm_H} (hr : l187_90 K9 K26 x0 x2 x3 x4 s0 s1 s2 h = some r) : pm_to pt_P (pt_G (tm_r w)) (d + 61) (pt_g187, []) (tm_m (90, [(0, .inr (.inr x0)), (2, .inl x2), (3, .inl x3), (4, .inl x4)], [.inl s0, .inl s1, .inr (.inr s2)])) h (tm_e r) := by
  unfold l187_90 at hr
  obtain ⟨h1, qh1, hr⟩ := Option.bind_eq_some_iff.mp hr
  refine tm_ast rfl rfl qh1 ?_
  refine tm_n 1 (F' := (92, [(0, .inr (.inr x0)), (2, .inl x2), (3, .inl x3), (4, .inl x4)], [.inl x2])) rfl ?_
  by_cases c4 : x2 = (0 : Int32)
  · rw [if_pos c4] at hr
    refine tm_ifF rfl (fun q => q c4) ?_
    refine tm_n 1 (F' := (96, [(0, .inr (.inr x0)), (2, .inl x2), (3, .inl x3), (4, .inl x4)], [.inr (.inr x0)])) rfl ?_
    obtain ⟨v2, qv2, hr⟩ := Option.bind_eq_some_iff.mp hr
    refine tm_getf rfl (lf_I_V qv2) ?_
    by_cases c3 : v2 = (0 : Int32)
    · rw [if_pos c3] at hr
      refine tm_ifF rfl (fun q => q c3) ?_
      refine tm_cut (a := [(0, .inr (.inr x0)), (3, .inl x3), (4, .inl x4)]) rfl (tm_sbs [0, 2, 3] rfl) ?_
      exact l187_102_t hK9 hK26 hr
    · rw [if_neg c3] at hr
      refine tm_ifT rfl c3 ?_
      refine tm_n 1 (F' := (107, [(0, .inr (.inr x0)), (2, .inl x2), (3, .inl x3), (4, .inl x4)], [.inl (0 : Int32)])) rfl ?_
      refine tm_cut (a := [(0, .inr (.inr x0)), (3, .inl x3), (4, .inl x4)]) rfl (tm_sbs [0, 2, 3] rfl) ?_
      exact l187_107_t hK9 hK26 hr
  · rw [if_neg c4] at hr
    refine tm_ifT rfl c4 ?_
    refine tm_cut (a := [(0, .inr (.inr x0)), (3, .inl x3), (4, .inl x4)]) rfl (tm_sbs [0, 2, 3] rfl) ?_
    exact l187_102_t hK9 hK26 hr
set_option maxRecDepth 20000 in
def l187_26 (K9 : Option Nat → Int32 → Int32 → pm_H → tm_L) : Nat → Option Nat → Int32 → Int32 → Int32 → pm_H → tm_L
  | 0 => fun _ _ _ _ _ => none
  | n + 1 => fun x0 x2 x3 x4 h => (lf_I h x0 [2, 3]).bind fun v1 => if v1 ≤ x4 then K9 x0 x2 (x3 + (1 : Int32)) h else (lf_R h x0 [2, 2]).bind fun v2 => (la_I h .baload v2 x4).bind fun v3 => if v3 = (0 : Int32) then (lf_P 81 h x0 [3, 2, 6] (.inl (0 : Int32))).bind fun h4 => (lf_R h4 x0 [2, 1]).bind fun v5 => (lf_R h4 x0 [2, 0]).bind fun v6 => (la_R h4 .aaload v6 x4).bind fun v7 => (lf_R h4 v7 [7, 10]).bind fun v8 => if lc_of h4 x0 = some 2 then lb_J (ll_193 40 x0 v8 (0 : Int32) h4) (fun v10 h11 => (la_S pt_P h11 .lastore v5 x4 (.inr (.inl v10))).bind fun h13 => (lf_R h13 x0 [2, 2]).bind fun v14 => (lf_I h13 x0 [2, 6]).bind fun v15 => if v15 = (0 : Int32) then l187_90 K9 (l187_26 K9 n) x0 x2 x3 x4 (1 : Int32) x4 v14 h13 else l187_90 K9 (l187_26 K9 n) x0 x2 x3 x4 (0 : Int32) x4 v14 h13) else none else l187_108 K9 (l187_26 K9 n) x0 x2 x3 x4 h
set_option maxRecDepth 20000 in
theorem l187_26_t {w : Option Nat} {d : Nat} {K9 : Option Nat → Int32 → Int32 → pm_H → tm_L} (hK9 : ∀ {x0 : Option Nat} {x2 : Int32} {x3 : Int32}  {h : pm_H} {r : tm_O × pm_H}, K9 x0 x2 x3 h = some r → pm_to pt_P (pt_G (tm_r w)) (d + 61) (pt_g187, []) (tm_m (9, [(0, .inr (.inr x0)), (2, .inl x2), (3, .inl x3)], [])) h (tm_e r)) : ∀ (n : Nat) {x0 : Option Nat} {x2 : Int32} {x3 : Int32} {x4 : Int32} {h : pm_H} {r : tm_O × pm_H}, l187_26 K9 n x0 x2 x3 x4 h = some r → pm_to pt_P (pt_G (tm_r w)) (d + 61) (pt_g187, []) (tm_m (26, [(0, .inr (.inr x0)), (2, .inl x2), (3, .inl x3), (4, .inl x4)], [])) h (tm_e r) := by
  intro n
  induction n with
  | zero => intro x0 x2 x3 x4 h r hr; cases hr
  | succ n ih =>
    intro x0 x2 x3 x4 h r hr
    unfold l187_26 at hr
    refine tm_n 2 (F' := (29, [(0, .inr (.inr x0)), (2, .inl x2), (3, .inl x3), (4, .inl x4)], [.inr (.inr x0), .inl x4])) rfl ?_
    obtain ⟨v1, qv1, hr⟩ := Option.bind_eq_some_iff.mp hr
    refine tm_getf rfl (lf_I_V qv1) ?_
    by_cases c20 : v1 ≤ x4
    · rw [if_pos c20] at hr
      refine tm_icT rfl c20 ?_
      refine tm_n 2 (F' := (9, [(3, .inl (x3 + (1 : Int32))), (0, .inr (.inr x0)), (2, .inl x2), (4, .inl x4)], [])) rfl ?_
      refine tm_cut (a := [(0, .inr (.inr x0)), (2, .inl x2), (3, .inl (x3 + (1 : Int32)))]) rfl (tm_sbs [1, 2, 0] rfl) ?_
      exact hK9 hr
    · rw [if_neg c20] at hr
      refine tm_icF rfl c20 ?_
      refine tm_n 1 (F' := (36, [(0, .inr (.inr x0)), (2, .inl x2), (3, .inl x3), (4, .inl x4)], [.inr (.inr x0)])) rfl ?_
      obtain ⟨v2, qv2, hr⟩ := Option.bind_eq_some_iff.mp hr
      refine tm_getf rfl (lf_R_V qv2) ?_
      refine tm_n 1 (F' := (41, [(0, .inr (.inr x0)), (2, .inl x2), (3, .inl x3), (4, .inl x4)], [.inl x4, .inr (.inr v2)])) rfl ?_
      obtain ⟨v3, qv3, hr⟩ := Option.bind_eq_some_iff.mp hr
      refine tm_ald rfl rfl (la_I_V qv3) ?_
      by_cases c19 : v3 = (0 : Int32)
      · rw [if_pos c19] at hr
        refine tm_ifF rfl (fun q => q c19) ?_
        refine tm_n 2 (F' := (47, [(0, .inr (.inr x0)), (2, .inl x2), (3, .inl x3), (4, .inl x4)], [.inl (0 : Int32), .inr (.inr x0)])) rfl ?_
        obtain ⟨h4, qh4, hr⟩ := Option.bind_eq_some_iff.mp hr
        refine tm_putf rfl qh4 ?_
        refine tm_n 1 (F' := (51, [(0, .inr (.inr x0)), (2, .inl x2), (3, .inl x3), (4, .inl x4)], [.inr (.inr x0)])) rfl ?_
        obtain ⟨v5, qv5, hr⟩ := Option.bind_eq_some_iff.mp hr
        refine tm_getf rfl (lf_R_V qv5) ?_
        refine tm_n 3 (F' := (58, [(0, .inr (.inr x0)), (2, .inl x2), (3, .inl x3), (4, .inl x4)], [.inr (.inr x0), .inr (.inr x0), .inl x4, .inr (.inr v5)])) rfl ?_
        obtain ⟨v6, qv6, hr⟩ := Option.bind_eq_some_iff.mp hr
        refine tm_getf rfl (lf_R_V qv6) ?_
        refine tm_n 1 (F' := (63, [(0, .inr (.inr x0)), (2, .inl x2), (3, .inl x3), (4, .inl x4)], [.inl x4, .inr (.inr v6), .inr (.inr x0), .inl x4, .inr (.inr v5)])) rfl ?_
        obtain ⟨v7, qv7, hr⟩ := Option.bind_eq_some_iff.mp hr
        refine tm_ald rfl rfl (la_R_V qv7) ?_
        obtain ⟨v8, qv8, hr⟩ := Option.bind_eq_some_iff.mp hr
        refine tm_getf rfl (lf_R_V qv8) ?_
        refine tm_n 1 (F' := (68, [(0, .inr (.inr x0)), (2, .inl x2), (3, .inl x3), (4, .inl x4)], [.inl (0 : Int32), .inr (.inr v8), .inr (.inr x0), .inl x4, .inr (.inr v5)])) rfl ?_
        by_cases c9 : lc_of h4 x0 = some 2
        · rw [if_pos c9] at hr
          rcases lb_J_s hr with ⟨v10, h11, m12, hr⟩ | ⟨a17, h11, z18, z18l, m12, qz18, rfl⟩
          · try dsimp only at hr
            refine tm_call rfl rfl (tm_callV rfl rfl c9 rfl rfl) (lq_193f m12) ?_
            obtain ⟨h13, qh13, hr⟩ := Option.bind_eq_some_iff.mp hr
            refine tm_ast rfl rfl qh13 ?_
            refine tm_n 1 (F' := (73, [(0, .inr (.inr x0)), (2, .inl x2), (3, .inl x3), (4, .inl x4)], [.inr (.inr x0)])) rfl ?_
            obtain ⟨v14, qv14, hr⟩ := Option.bind_eq_some_iff.mp hr
            refine tm_getf rfl (lf_R_V qv14) ?_
            refine tm_n 2 (F' := (79, [(0, .inr (.inr x0)), (2, .inl x2), (3, .inl x3), (4, .inl x4)], [.inr (.inr x0), .inl x4, .inr (.inr v14)])) rfl ?_
            obtain ⟨v15, qv15, hr⟩ := Option.bind_eq_some_iff.mp hr
            refine tm_getf rfl (lf_I_V qv15) ?_
            by_cases c16 : v15 = (0 : Int32)
            · rw [if_pos c16] at hr
              refine tm_ifF rfl (fun q => q c16) ?_
              refine tm_n 2 (F' := (90, [(0, .inr (.inr x0)), (2, .inl x2), (3, .inl x3), (4, .inl x4)], [.inl (1 : Int32), .inl x4, .inr (.inr v14)])) rfl ?_
              refine tm_cut (a := [(0, .inr (.inr x0)), (2, .inl x2), (3, .inl x3), (4, .inl x4)]) rfl (tm_sbs [0, 1, 2, 3] rfl) ?_
              exact l187_90_t hK9 (fun hr => ih hr) hr
            · rw [if_neg c16] at hr
              refine tm_ifT rfl c16 ?_
              refine tm_n 1 (F' := (90, [(0, .inr (.inr x0)), (2, .inl x2), (3, .inl x3), (4, .inl x4)], [.inl (0 : Int32), .inl x4, .inr (.inr v14)])) rfl ?_
              refine tm_cut (a := [(0, .inr (.inr x0)), (2, .inl x2), (3, .inl x3), (4, .inl x4)]) rfl (tm_sbs [0, 1, 2, 3] rfl) ?_
              exact l187_90_t hK9 (fun hr => ih hr) hr
          · exact tm_callT rfl rfl (tm_callV rfl rfl c9 rfl rfl) (lq_193f m12) qz18 rfl
        · rw [if_neg c9] at hr
          cases hr
      · rw [if_neg c19] at hr
        refine tm_ifT rfl c19 ?_
        refine tm_cut (a := [(0, .inr (.inr x0)), (2, .inl x2), (3, .inl x3), (4, .inl x4)]) rfl (tm_sbs [0, 1, 2, 3] rfl) ?_
        exact l187_108_t hK9 (fun hr => ih hr) hr
set_option maxRecDepth 20000 in
def l187_9 : Nat → Option Nat → Int32 → Int32 → pm_H → tm_L
  | 0 => fun _ _ _ _ => none
  | n + 1 => fun x0 x2 x3 h => (lf_I h x0 [2, 3]).bind fun v1 => if v1 ≤ x3 then some (.inl none, h) else if x2 = (0 : Int32) then some (.inl none, h) else l187_26 (l187_9 n) lf_N x0 (0 : Int32) x3 (0 : Int32) h
set_option maxRecDepth 20000 in
theorem l187_9_t {w : Option Nat} {d : Nat} : ∀ (n : Nat) {x0 : Option Nat} {x2 : Int32} {x3 : Int32} {h : pm_H} {r : tm_O × pm_H}, l187_9 n x0 x2 x3 h = some r → pm_to pt_P (pt_G (tm_r w)) (d + 61) (pt_g187, []) (tm_m (9, [(0, .inr (.inr x0)), (2, .inl x2), (3, .inl x3)], [])) h (tm_e r) := by
  intro n
  induction n with
  | zero => intro x0 x2 x3 h r hr; cases hr
  | succ n ih =>
    intro x0 x2 x3 h r hr
    unfold l187_9 at hr
    refine tm_n 2 (F' := (11, [(0, .inr (.inr x0)), (2, .inl x2), (3, .inl x3)], [.inr (.inr x0), .inl x3])) rfl ?_
    obtain ⟨v1, qv1, hr⟩ := Option.bind_eq_some_iff.mp hr
    refine tm_getf rfl (lf_I_V qv1) ?_
    by_cases c3 : v1 ≤ x3
    · rw [if_pos c3] at hr
      refine tm_icT rfl c3 ?_
      cases hr
      exact tm_retV rfl
    · rw [if_neg c3] at hr
      refine tm_icF rfl c3 ?_
      refine tm_n 1 (F' := (18, [(0, .inr (.inr x0)), (2, .inl x2), (3, .inl x3)], [.inl x2])) rfl ?_
      by_cases c2 : x2 = (0 : Int32)
      · rw [if_pos c2] at hr
        refine tm_ifT rfl c2 ?_
        cases hr
        exact tm_retV rfl
      · rw [if_neg c2] at hr
        refine tm_ifF rfl c2 ?_
        refine tm_n 4 (F' := (26, [(4, .inl (0 : Int32)), (2, .inl (0 : Int32)), (0, .inr (.inr x0)), (3, .inl x3)], [])) rfl ?_
        refine tm_cut (a := [(0, .inr (.inr x0)), (2, .inl (0 : Int32)), (3, .inl x3), (4, .inl (0 : Int32))]) rfl (tm_sbs [2, 1, 3, 0] rfl) ?_
        exact l187_26_t (fun hr => ih hr) lf_N hr
set_option maxRecDepth 20000 in
def ll_187 (a0 : Option Nat) (a1 : Option Nat) (h : pm_H) : tm_L := if lc_of h a0 = some 2 then lb_V (ll_188 a0 a1 h) (fun h3 => l187_9 lf_N a0 (1 : Int32) (0 : Int32) h3) else none
set_option maxRecDepth 20000 in
theorem lq_187 {w : Option Nat} {d : Nat} {a0 : Option Nat} {a1 : Option Nat} {h : pm_H} {r : tm_O × pm_H} (hr : ll_187 a0 a1 h = some r) : tm_run pt_P (pt_G (tm_r w)) (d + 61) 187 [.inr (.inr a0), .inr (.inr a1)] h r := by
  unfold ll_187 at hr
  show pm_to pt_P (pt_G (tm_r w)) (d + 61) (pt_g187, []) (tm_m (0, [(0, .inr (.inr a0)), (1, .inr (.inr a1))], [])) h (tm_e r)
  refine tm_n 2 (F' := (2, [(0, .inr (.inr a0)), (1, .inr (.inr a1))], [.inr (.inr a1), .inr (.inr a0)])) rfl ?_
  by_cases c1 : lc_of h a0 = some 2
  · rw [if_pos c1] at hr
    rcases lb_V_s hr with ⟨h3, m4, hr⟩ | ⟨a5, h3, z6, z6l, m4, qz6, rfl⟩
    · try dsimp only at hr
      refine tm_call rfl rfl (tm_callV rfl rfl c1 rfl rfl) (lq_188 m4) ?_
      refine tm_n 4 (F' := (9, [(3, .inl (0 : Int32)), (2, .inl (1 : Int32)), (0, .inr (.inr a0)), (1, .inr (.inr a1))], [])) rfl ?_
      refine tm_cut (a := [(0, .inr (.inr a0)), (2, .inl (1 : Int32)), (3, .inl (0 : Int32))]) rfl (tm_sbs [2, 1, 0] rfl) ?_
      exact l187_9_t lf_N hr
    · exact tm_callT rfl rfl (tm_callV rfl rfl c1 rfl rfl) (lq_188 m4) qz6 rfl
  · rw [if_neg c1] at hr
    cases hr
-- OfficeSheet$Calculator.resultOf(LOfficeSheet$Line;LOfficeSheet$Line;)J
set_option maxRecDepth 20000 in
def ll_207 (a0 : Option Nat) (a1 : Option Nat) (a2 : Option Nat) (h : pm_H) : tm_L := if lc_of h a0 = some 2 then lb_I (ll_196 a0 a1 a2 h) (fun v2 h3 => if v2 = (-1 : Int32) then some (.inl (some (.inr (.inl (0 : Int64)))), h3) else (lf_R h3 a0 [2, 2]).bind fun v5 => (la_I h3 .baload v5 v2).bind fun v6 => if v6 = (0 : Int32) then lb_J (ll_195 (3 : Int32) h3) (fun v7 h8 => some (.inl (some (.inr (.inl v7))), h8)) else (lf_R h3 a0 [2, 1]).bind fun v12 => (la_J h3 .laload v12 v2).bind fun v13 => some (.inl (some (.inr (.inl v13))), h3)) else none
set_option maxRecDepth 20000 in
theorem lq_207 {w : Option Nat} {d : Nat} {a0 : Option Nat} {a1 : Option Nat} {a2 : Option Nat} {h : pm_H} {r : tm_O × pm_H} (hr : ll_207 a0 a1 a2 h = some r) : tm_run pt_P (pt_G (tm_r w)) (d + 2) 207 [.inr (.inr a0), .inr (.inr a1), .inr (.inr a2)] h r := by
  unfold ll_207 at hr
  show pm_to pt_P (pt_G (tm_r w)) (d + 2) (pt_g207, []) (tm_m (0, [(0, .inr (.inr a0)), (1, .inr (.inr a1)), (2, .inr (.inr a2))], [])) h (tm_e r)
  refine tm_n 3 (F' := (3, [(0, .inr (.inr a0)), (1, .inr (.inr a1)), (2, .inr (.inr a2))], [.inr (.inr a2), .inr (.inr a1), .inr (.inr a0)])) rfl ?_
  by_cases c1 : lc_of h a0 = some 2
  · rw [if_pos c1] at hr
    rcases lb_I_s hr with ⟨v2, h3, m4, hr⟩ | ⟨a16, h3, z17, z17l, m4, qz17, rfl⟩
    · try dsimp only at hr
      refine tm_call rfl rfl (tm_callV rfl rfl c1 rfl rfl) (lq_196 m4) ?_
      refine tm_n 3 (F' := (9, [(3, .inl v2), (0, .inr (.inr a0)), (1, .inr (.inr a1)), (2, .inr (.inr a2))], [.inl (-1 : Int32), .inl v2])) rfl ?_
      by_cases c15 : v2 = (-1 : Int32)
      · rw [if_pos c15] at hr
        refine tm_icF rfl (fun q => q c15) ?_
        refine tm_n 1 (F' := (13, [(3, .inl v2), (0, .inr (.inr a0)), (1, .inr (.inr a1)), (2, .inr (.inr a2))], [.inr (.inl (0 : Int64))])) rfl ?_
        cases hr
        exact tm_retJ rfl
      · rw [if_neg c15] at hr
        refine tm_icT rfl c15 ?_
        refine tm_n 1 (F' := (15, [(3, .inl v2), (0, .inr (.inr a0)), (1, .inr (.inr a1)), (2, .inr (.inr a2))], [.inr (.inr a0)])) rfl ?_
        obtain ⟨v5, qv5, hr⟩ := Option.bind_eq_some_iff.mp hr
        refine tm_getf rfl (lf_R_V qv5) ?_
        refine tm_n 1 (F' := (19, [(3, .inl v2), (0, .inr (.inr a0)), (1, .inr (.inr a1)), (2, .inr (.inr a2))], [.inl v2, .inr (.inr v5)])) rfl ?_
        obtain ⟨v6, qv6, hr⟩ := Option.bind_eq_some_iff.mp hr
        refine tm_ald rfl rfl (la_I_V qv6) ?_
        by_cases c14 : v6 = (0 : Int32)
        · rw [if_pos c14] at hr
          refine tm_ifT rfl c14 ?_
          refine tm_n 1 (F' := (33, [(3, .inl v2), (0, .inr (.inr a0)), (1, .inr (.inr a1)), (2, .inr (.inr a2))], [.inl (3 : Int32)])) rfl ?_
          rcases lb_J_s hr with ⟨v7, h8, m9, hr⟩ | ⟨a10, h8, z11, z11l, m9, qz11, rfl⟩
          · try dsimp only at hr
            refine tm_call rfl rfl (tm_callS rfl rfl) (lq_195 m9) ?_
            cases hr
            exact tm_retJ rfl
          · exact tm_callT rfl rfl (tm_callS rfl rfl) (lq_195 m9) qz11 rfl
        · rw [if_neg c14] at hr
          refine tm_ifF rfl c14 ?_
          refine tm_n 1 (F' := (24, [(3, .inl v2), (0, .inr (.inr a0)), (1, .inr (.inr a1)), (2, .inr (.inr a2))], [.inr (.inr a0)])) rfl ?_
          obtain ⟨v12, qv12, hr⟩ := Option.bind_eq_some_iff.mp hr
          refine tm_getf rfl (lf_R_V qv12) ?_
          refine tm_n 1 (F' := (28, [(3, .inl v2), (0, .inr (.inr a0)), (1, .inr (.inr a1)), (2, .inr (.inr a2))], [.inl v2, .inr (.inr v12)])) rfl ?_
          obtain ⟨v13, qv13, hr⟩ := Option.bind_eq_some_iff.mp hr
          refine tm_ald rfl rfl (la_J_V qv13) ?_
          refine tm_n 1 (F' := (36, [(3, .inl v2), (0, .inr (.inr a0)), (1, .inr (.inr a1)), (2, .inr (.inr a2))], [.inr (.inl v13)])) rfl ?_
          cases hr
          exact tm_retJ rfl
    · exact tm_callT rfl rfl (tm_callV rfl rfl c1 rfl rfl) (lq_196 m4) qz17 rfl
  · rw [if_neg c1] at hr
    cases hr
-- OfficeSheet.resultShown(III)J
set_option maxRecDepth 20000 in
def ll_186 (a0 : Option Nat) (a1 : Int32) (a2 : Int32) (a3 : Int32) (h : pm_H) : tm_L := if lc_of h a0 = some 0 then lb_R (ll_81 a0 a1 h) (fun v2 h3 => (lf_R h3 v2 [4, 3]).bind fun v5 => (la_R h3 .aaload v5 (0 : Int32)).bind fun v6 => lb_R (ll_84 v6 a2 h3) (fun v7 h8 => (lf_R h8 v2 [4, 3]).bind fun v10 => (la_R h8 .aaload v10 (1 : Int32)).bind fun v11 => lb_R (ll_84 v11 a3 h8) (fun v12 h13 => (lf_R h13 a0 [0, 2]).bind fun v15 => if lc_of h13 v15 = some 2 then lb_V (ll_187 v15 v2 h13) (fun h18 => (lf_R h18 a0 [0, 2]).bind fun v20 => if lc_of h18 v20 = some 2 then lb_J (ll_207 v20 v7 v12 h18) (fun v22 h23 => some (.inl (some (.inr (.inl v22))), h23)) else none) else none))) else none
set_option maxRecDepth 20000 in
theorem lq_186 {w : Option Nat} {d : Nat} {a0 : Option Nat} {a1 : Int32} {a2 : Int32} {a3 : Int32} {h : pm_H} {r : tm_O × pm_H} (hr : ll_186 a0 a1 a2 a3 h = some r) : tm_run pt_P (pt_G (tm_r w)) (d + 62) 186 [.inr (.inr a0), .inl a1, .inl a2, .inl a3] h r := by
  unfold ll_186 at hr
  show pm_to pt_P (pt_G (tm_r w)) (d + 62) (pt_g186, []) (tm_m (0, [(0, .inr (.inr a0)), (1, .inl a1), (2, .inl a2), (3, .inl a3)], [])) h (tm_e r)
  refine tm_n 2 (F' := (2, [(0, .inr (.inr a0)), (1, .inl a1), (2, .inl a2), (3, .inl a3)], [.inl a1, .inr (.inr a0)])) rfl ?_
  by_cases c1 : lc_of h a0 = some 0
  · rw [if_pos c1] at hr
    rcases lb_R_s hr with ⟨v2, h3, m4, hr⟩ | ⟨a33, h3, z34, z34l, m4, qz34, rfl⟩
    · try dsimp only at hr
      refine tm_call rfl rfl (tm_callV rfl rfl c1 rfl rfl) (lq_81 m4) ?_
      refine tm_n 2 (F' := (9, [(4, .inr (.inr v2)), (0, .inr (.inr a0)), (1, .inl a1), (2, .inl a2), (3, .inl a3)], [.inr (.inr v2)])) rfl ?_
      obtain ⟨v5, qv5, hr⟩ := Option.bind_eq_some_iff.mp hr
      refine tm_getf rfl (lf_R_V qv5) ?_
      refine tm_n 1 (F' := (13, [(4, .inr (.inr v2)), (0, .inr (.inr a0)), (1, .inl a1), (2, .inl a2), (3, .inl a3)], [.inl (0 : Int32), .inr (.inr v5)])) rfl ?_
      obtain ⟨v6, qv6, hr⟩ := Option.bind_eq_some_iff.mp hr
      refine tm_ald rfl rfl (la_R_V qv6) ?_
      refine tm_n 1 (F' := (15, [(4, .inr (.inr v2)), (0, .inr (.inr a0)), (1, .inl a1), (2, .inl a2), (3, .inl a3)], [.inl a2, .inr (.inr v6)])) rfl ?_
      rcases lb_R_s hr with ⟨v7, h8, m9, hr⟩ | ⟨a31, h8, z32, z32l, m9, qz32, rfl⟩
      · try dsimp only at hr
        refine tm_call rfl rfl (tm_callS rfl rfl) (lq_84 m9) ?_
        refine tm_n 2 (F' := (22, [(5, .inr (.inr v7)), (4, .inr (.inr v2)), (0, .inr (.inr a0)), (1, .inl a1), (2, .inl a2), (3, .inl a3)], [.inr (.inr v2)])) rfl ?_
        obtain ⟨v10, qv10, hr⟩ := Option.bind_eq_some_iff.mp hr
        refine tm_getf rfl (lf_R_V qv10) ?_
        refine tm_n 1 (F' := (26, [(5, .inr (.inr v7)), (4, .inr (.inr v2)), (0, .inr (.inr a0)), (1, .inl a1), (2, .inl a2), (3, .inl a3)], [.inl (1 : Int32), .inr (.inr v10)])) rfl ?_
        obtain ⟨v11, qv11, hr⟩ := Option.bind_eq_some_iff.mp hr
        refine tm_ald rfl rfl (la_R_V qv11) ?_
        refine tm_n 1 (F' := (28, [(5, .inr (.inr v7)), (4, .inr (.inr v2)), (0, .inr (.inr a0)), (1, .inl a1), (2, .inl a2), (3, .inl a3)], [.inl a3, .inr (.inr v11)])) rfl ?_
        rcases lb_R_s hr with ⟨v12, h13, m14, hr⟩ | ⟨a29, h13, z30, z30l, m14, qz30, rfl⟩
        · try dsimp only at hr
          refine tm_call rfl rfl (tm_callS rfl rfl) (lq_84 m14) ?_
          refine tm_n 2 (F' := (34, [(6, .inr (.inr v12)), (5, .inr (.inr v7)), (4, .inr (.inr v2)), (0, .inr (.inr a0)), (1, .inl a1), (2, .inl a2), (3, .inl a3)], [.inr (.inr a0)])) rfl ?_
          obtain ⟨v15, qv15, hr⟩ := Option.bind_eq_some_iff.mp hr
          refine tm_getf rfl (lf_R_V qv15) ?_
          refine tm_n 1 (F' := (39, [(6, .inr (.inr v12)), (5, .inr (.inr v7)), (4, .inr (.inr v2)), (0, .inr (.inr a0)), (1, .inl a1), (2, .inl a2), (3, .inl a3)], [.inr (.inr v2), .inr (.inr v15)])) rfl ?_
          by_cases c16 : lc_of h13 v15 = some 2
          · rw [if_pos c16] at hr
            rcases lb_V_s hr with ⟨h18, m19, hr⟩ | ⟨a27, h18, z28, z28l, m19, qz28, rfl⟩
            · try dsimp only at hr
              refine tm_call rfl rfl (tm_callV rfl rfl c16 rfl rfl) (lq_187 m19) ?_
              refine tm_n 1 (F' := (43, [(6, .inr (.inr v12)), (5, .inr (.inr v7)), (4, .inr (.inr v2)), (0, .inr (.inr a0)), (1, .inl a1), (2, .inl a2), (3, .inl a3)], [.inr (.inr a0)])) rfl ?_
              obtain ⟨v20, qv20, hr⟩ := Option.bind_eq_some_iff.mp hr
              refine tm_getf rfl (lf_R_V qv20) ?_
              refine tm_n 2 (F' := (50, [(6, .inr (.inr v12)), (5, .inr (.inr v7)), (4, .inr (.inr v2)), (0, .inr (.inr a0)), (1, .inl a1), (2, .inl a2), (3, .inl a3)], [.inr (.inr v12), .inr (.inr v7), .inr (.inr v20)])) rfl ?_
              by_cases c21 : lc_of h18 v20 = some 2
              · rw [if_pos c21] at hr
                rcases lb_J_s hr with ⟨v22, h23, m24, hr⟩ | ⟨a25, h23, z26, z26l, m24, qz26, rfl⟩
                · try dsimp only at hr
                  refine tm_call rfl rfl (tm_callV rfl rfl c21 rfl rfl) (lq_207 m24) ?_
                  cases hr
                  exact tm_retJ rfl
                · exact tm_callT rfl rfl (tm_callV rfl rfl c21 rfl rfl) (lq_207 m24) qz26 rfl
              · rw [if_neg c21] at hr
                cases hr
            · exact tm_callT rfl rfl (tm_callV rfl rfl c16 rfl rfl) (lq_187 m19) qz28 rfl
          · rw [if_neg c16] at hr
            cases hr
        · exact tm_callT rfl rfl (tm_callS rfl rfl) (lq_84 m14) qz30 rfl
      · exact tm_callT rfl rfl (tm_callS rfl rfl) (lq_84 m9) qz32 rfl
    · exact tm_callT rfl rfl (tm_callV rfl rfl c1 rfl rfl) (lq_81 m4) qz34 rfl
  · rw [if_neg c1] at hr
    cases hr
-- OfficeSheet.value(III)I
set_option maxRecDepth 20000 in
def ll_185 (a0 : Option Nat) (a1 : Int32) (a2 : Int32) (a3 : Int32) (h : pm_H) : tm_L := if lc_of h a0 = some 0 then lb_J (ll_186 a0 a1 a2 a3 h) (fun v2 h3 => lb_I (ll_198 v2 h3) (fun v5 h6 => if v5 = (0 : Int32) then some (.inl (some (.inl (Int64.toInt32 v2))), h6) else some (.inl (some (.inl (0 : Int32))), h6))) else none
set_option maxRecDepth 20000 in
theorem lq_185 {w : Option Nat} {d : Nat} {a0 : Option Nat} {a1 : Int32} {a2 : Int32} {a3 : Int32} {h : pm_H} {r : tm_O × pm_H} (hr : ll_185 a0 a1 a2 a3 h = some r) : tm_run pt_P (pt_G (tm_r w)) (d + 63) 185 [.inr (.inr a0), .inl a1, .inl a2, .inl a3] h r := by
  unfold ll_185 at hr
  show pm_to pt_P (pt_G (tm_r w)) (d + 63) (pt_g185, []) (tm_m (0, [(0, .inr (.inr a0)), (1, .inl a1), (2, .inl a2), (3, .inl a3)], [])) h (tm_e r)
  refine tm_n 4 (F' := (4, [(0, .inr (.inr a0)), (1, .inl a1), (2, .inl a2), (3, .inl a3)], [.inl a3, .inl a2, .inl a1, .inr (.inr a0)])) rfl ?_
  by_cases c1 : lc_of h a0 = some 0
  · rw [if_pos c1] at hr
    rcases lb_J_s hr with ⟨v2, h3, m4, hr⟩ | ⟨a11, h3, z12, z12l, m4, qz12, rfl⟩
    · try dsimp only at hr
      refine tm_call rfl rfl (tm_callV rfl rfl c1 rfl rfl) (lq_186 m4) ?_
      refine tm_n 2 (F' := (11, [(4, .inr (.inl v2)), (0, .inr (.inr a0)), (1, .inl a1), (2, .inl a2), (3, .inl a3)], [.inr (.inl v2)])) rfl ?_
      rcases lb_I_s hr with ⟨v5, h6, m7, hr⟩ | ⟨a9, h6, z10, z10l, m7, qz10, rfl⟩
      · try dsimp only at hr
        refine tm_call rfl rfl (tm_callS rfl rfl) (lq_198 m7) ?_
        by_cases c8 : v5 = (0 : Int32)
        · rw [if_pos c8] at hr
          refine tm_ifT rfl c8 ?_
          refine tm_n 2 (F' := (24, [(4, .inr (.inl v2)), (0, .inr (.inr a0)), (1, .inl a1), (2, .inl a2), (3, .inl a3)], [.inl (Int64.toInt32 v2)])) rfl ?_
          cases hr
          exact tm_retI rfl rfl
        · rw [if_neg c8] at hr
          refine tm_ifF rfl c8 ?_
          refine tm_n 2 (F' := (24, [(4, .inr (.inl v2)), (0, .inr (.inr a0)), (1, .inl a1), (2, .inl a2), (3, .inl a3)], [.inl (0 : Int32)])) rfl ?_
          cases hr
          exact tm_retI rfl rfl
      · exact tm_callT rfl rfl (tm_callS rfl rfl) (lq_198 m7) qz10 rfl
    · exact tm_callT rfl rfl (tm_callV rfl rfl c1 rfl rfl) (lq_186 m4) qz12 rfl
  · rw [if_neg c1] at hr
    cases hr
-- OfficeSheetLaw.value(LOfficeSheet;III[J)I
set_option maxRecDepth 20000 in
def ll_184 (a0 : Option Nat) (a1 : Int32) (a2 : Int32) (a3 : Int32) (a4 : Option Nat) (h : pm_H) : tm_L := if lc_of h a0 = some 0 then lh_I (ll_185 a0 a1 a2 a3 h) (fun v2 h3 => (la_S pt_P h3 .lastore a4 (0 : Int32) (.inr (.inl (Int32.toInt64 v2)))).bind fun h5 => some (.inl (some (.inl (0 : Int32))), h5)) (fun a6 z7 h3 => if z7 = 14 then some (.inl (some (.inl (1 : Int32))), h3) else if z7 = 16 then some (.inl (some (.inl (2 : Int32))), h3) else none) else none
set_option maxRecDepth 20000 in
theorem lq_184 {w : Option Nat} {d : Nat} {a0 : Option Nat} {a1 : Int32} {a2 : Int32} {a3 : Int32} {a4 : Option Nat} {h : pm_H} {r : tm_O × pm_H} (hr : ll_184 a0 a1 a2 a3 a4 h = some r) : tm_run pt_P (pt_G (tm_r w)) (d + 64) 184 [.inr (.inr a0), .inl a1, .inl a2, .inl a3, .inr (.inr a4)] h r := by
  unfold ll_184 at hr
  show pm_to pt_P (pt_G (tm_r w)) (d + 64) (pt_g184, [(0, 12, 15, [14]), (0, 12, 19, [16])]) (tm_m (0, [(0, .inr (.inr a0)), (1, .inl a1), (2, .inl a2), (3, .inl a3), (4, .inr (.inr a4))], [])) h (tm_e r)
  refine tm_n 6 (F' := (7, [(0, .inr (.inr a0)), (1, .inl a1), (2, .inl a2), (3, .inl a3), (4, .inr (.inr a4))], [.inl a3, .inl a2, .inl a1, .inr (.inr a0), .inl (0 : Int32), .inr (.inr a4)])) rfl ?_
  by_cases c1 : lc_of h a0 = some 0
  · rw [if_pos c1] at hr
    rcases lh_I_s hr with ⟨v2, h3, m4, hr⟩ | ⟨a6, h3, z7, z7l, m4, qz7, hr⟩
    · try dsimp only at hr
      refine tm_call rfl rfl (tm_callV rfl rfl c1 rfl rfl) (lq_185 m4) ?_
      refine tm_n 1 (F' := (11, [(0, .inr (.inr a0)), (1, .inl a1), (2, .inl a2), (3, .inl a3), (4, .inr (.inr a4))], [.inr (.inl (Int32.toInt64 v2)), .inl (0 : Int32), .inr (.inr a4)])) rfl ?_
      obtain ⟨h5, qh5, hr⟩ := Option.bind_eq_some_iff.mp hr
      refine tm_ast rfl rfl qh5 ?_
      refine tm_n 2 (F' := (24, [(0, .inr (.inr a0)), (1, .inl a1), (2, .inl a2), (3, .inl a3), (4, .inr (.inr a4))], [.inl (0 : Int32)])) rfl ?_
      cases hr
      exact tm_retI rfl rfl
    · try dsimp only at hr
      by_cases c8 : z7 = 14
      · rw [if_pos c8] at hr
        subst c8
        refine tm_callC rfl rfl (tm_callV rfl rfl c1 rfl rfl) (lq_185 m4) qz7 rfl ?_
        refine tm_n 2 (F' := (18, [(5, .inr (.inr (some a6))), (0, .inr (.inr a0)), (1, .inl a1), (2, .inl a2), (3, .inl a3), (4, .inr (.inr a4))], [.inl (1 : Int32)])) rfl ?_
        cases hr
        exact tm_retI rfl rfl
      · rw [if_neg c8] at hr
        by_cases c9 : z7 = 16
        · rw [if_pos c9] at hr
          subst c9
          refine tm_callC rfl rfl (tm_callV rfl rfl c1 rfl rfl) (lq_185 m4) qz7 rfl ?_
          refine tm_n 2 (F' := (22, [(5, .inr (.inr (some a6))), (0, .inr (.inr a0)), (1, .inl a1), (2, .inl a2), (3, .inl a3), (4, .inr (.inr a4))], [.inl (2 : Int32)])) rfl ?_
          cases hr
          exact tm_retI rfl rfl
        · rw [if_neg c9] at hr
          cases hr
  · rw [if_neg c1] at hr
    cases hr
-- OfficeSheet$Calculator.errorOf(J)I
set_option maxRecDepth 20000 in
def ll_210 (a0 : Int64) (h : pm_H) : tm_L := some (.inl (some (.inl (Int64.toInt32 (a0 - (1000000000 : Int64))))), h)
set_option maxRecDepth 20000 in
theorem lq_210 {w : Option Nat} {d : Nat} {a0 : Int64} {h : pm_H} {r : tm_O × pm_H} (hr : ll_210 a0 h = some r) : tm_run pt_P (pt_G (tm_r w)) (d + 0) 210 [.inr (.inl a0)] h r := by
  unfold ll_210 at hr
  show pm_to pt_P (pt_G (tm_r w)) (d + 0) (pt_g210, []) (tm_m (0, [(0, .inr (.inl a0))], [])) h (tm_e r)
  refine tm_n 4 (F' := (6, [(0, .inr (.inl a0))], [.inl (Int64.toInt32 (a0 - (1000000000 : Int64)))])) rfl ?_
  cases hr
  exact tm_retI rfl rfl
-- OfficeSheet.error(III)I
set_option maxRecDepth 20000 in
def ll_209 (a0 : Option Nat) (a1 : Int32) (a2 : Int32) (a3 : Int32) (h : pm_H) : tm_L := if lc_of h a0 = some 0 then lb_J (ll_186 a0 a1 a2 a3 h) (fun v2 h3 => lb_I (ll_198 v2 h3) (fun v5 h6 => if v5 = (0 : Int32) then some (.inl (some (.inl (0 : Int32))), h6) else lb_I (ll_210 v2 h6) (fun v8 h9 => some (.inl (some (.inl v8)), h9)))) else none
set_option maxRecDepth 20000 in
theorem lq_209 {w : Option Nat} {d : Nat} {a0 : Option Nat} {a1 : Int32} {a2 : Int32} {a3 : Int32} {h : pm_H} {r : tm_O × pm_H} (hr : ll_209 a0 a1 a2 a3 h = some r) : tm_run pt_P (pt_G (tm_r w)) (d + 63) 209 [.inr (.inr a0), .inl a1, .inl a2, .inl a3] h r := by
  unfold ll_209 at hr
  show pm_to pt_P (pt_G (tm_r w)) (d + 63) (pt_g209, []) (tm_m (0, [(0, .inr (.inr a0)), (1, .inl a1), (2, .inl a2), (3, .inl a3)], [])) h (tm_e r)
  refine tm_n 4 (F' := (4, [(0, .inr (.inr a0)), (1, .inl a1), (2, .inl a2), (3, .inl a3)], [.inl a3, .inl a2, .inl a1, .inr (.inr a0)])) rfl ?_
  by_cases c1 : lc_of h a0 = some 0
  · rw [if_pos c1] at hr
    rcases lb_J_s hr with ⟨v2, h3, m4, hr⟩ | ⟨a16, h3, z17, z17l, m4, qz17, rfl⟩
    · try dsimp only at hr
      refine tm_call rfl rfl (tm_callV rfl rfl c1 rfl rfl) (lq_186 m4) ?_
      refine tm_n 2 (F' := (11, [(4, .inr (.inl v2)), (0, .inr (.inr a0)), (1, .inl a1), (2, .inl a2), (3, .inl a3)], [.inr (.inl v2)])) rfl ?_
      rcases lb_I_s hr with ⟨v5, h6, m7, hr⟩ | ⟨a14, h6, z15, z15l, m7, qz15, rfl⟩
      · try dsimp only at hr
        refine tm_call rfl rfl (tm_callS rfl rfl) (lq_198 m7) ?_
        by_cases c13 : v5 = (0 : Int32)
        · rw [if_pos c13] at hr
          refine tm_ifT rfl c13 ?_
          refine tm_n 1 (F' := (26, [(4, .inr (.inl v2)), (0, .inr (.inr a0)), (1, .inl a1), (2, .inl a2), (3, .inl a3)], [.inl (0 : Int32)])) rfl ?_
          cases hr
          exact tm_retI rfl rfl
        · rw [if_neg c13] at hr
          refine tm_ifF rfl c13 ?_
          refine tm_n 1 (F' := (19, [(4, .inr (.inl v2)), (0, .inr (.inr a0)), (1, .inl a1), (2, .inl a2), (3, .inl a3)], [.inr (.inl v2)])) rfl ?_
          rcases lb_I_s hr with ⟨v8, h9, m10, hr⟩ | ⟨a11, h9, z12, z12l, m10, qz12, rfl⟩
          · try dsimp only at hr
            refine tm_call rfl rfl (tm_callS rfl rfl) (lq_210 m10) ?_
            refine tm_n 1 (F' := (26, [(4, .inr (.inl v2)), (0, .inr (.inr a0)), (1, .inl a1), (2, .inl a2), (3, .inl a3)], [.inl v8])) rfl ?_
            cases hr
            exact tm_retI rfl rfl
          · exact tm_callT rfl rfl (tm_callS rfl rfl) (lq_210 m10) qz12 rfl
      · exact tm_callT rfl rfl (tm_callS rfl rfl) (lq_198 m7) qz15 rfl
    · exact tm_callT rfl rfl (tm_callV rfl rfl c1 rfl rfl) (lq_186 m4) qz17 rfl
  · rw [if_neg c1] at hr
    cases hr
-- OfficeSheetLaw.error(LOfficeSheet;III[J)I
set_option maxRecDepth 20000 in
def ll_208 (a0 : Option Nat) (a1 : Int32) (a2 : Int32) (a3 : Int32) (a4 : Option Nat) (h : pm_H) : tm_L := if lc_of h a0 = some 0 then lh_I (ll_209 a0 a1 a2 a3 h) (fun v2 h3 => (la_S pt_P h3 .lastore a4 (0 : Int32) (.inr (.inl (Int32.toInt64 v2)))).bind fun h5 => some (.inl (some (.inl (0 : Int32))), h5)) (fun a6 z7 h3 => if z7 = 14 then some (.inl (some (.inl (1 : Int32))), h3) else if z7 = 16 then some (.inl (some (.inl (2 : Int32))), h3) else none) else none
set_option maxRecDepth 20000 in
theorem lq_208 {w : Option Nat} {d : Nat} {a0 : Option Nat} {a1 : Int32} {a2 : Int32} {a3 : Int32} {a4 : Option Nat} {h : pm_H} {r : tm_O × pm_H} (hr : ll_208 a0 a1 a2 a3 a4 h = some r) : tm_run pt_P (pt_G (tm_r w)) (d + 64) 208 [.inr (.inr a0), .inl a1, .inl a2, .inl a3, .inr (.inr a4)] h r := by
  unfold ll_208 at hr
  show pm_to pt_P (pt_G (tm_r w)) (d + 64) (pt_g208, [(0, 12, 15, [14]), (0, 12, 19, [16])]) (tm_m (0, [(0, .inr (.inr a0)), (1, .inl a1), (2, .inl a2), (3, .inl a3), (4, .inr (.inr a4))], [])) h (tm_e r)
  refine tm_n 6 (F' := (7, [(0, .inr (.inr a0)), (1, .inl a1), (2, .inl a2), (3, .inl a3), (4, .inr (.inr a4))], [.inl a3, .inl a2, .inl a1, .inr (.inr a0), .inl (0 : Int32), .inr (.inr a4)])) rfl ?_
  by_cases c1 : lc_of h a0 = some 0
  · rw [if_pos c1] at hr
    rcases lh_I_s hr with ⟨v2, h3, m4, hr⟩ | ⟨a6, h3, z7, z7l, m4, qz7, hr⟩
    · try dsimp only at hr
      refine tm_call rfl rfl (tm_callV rfl rfl c1 rfl rfl) (lq_209 m4) ?_
      refine tm_n 1 (F' := (11, [(0, .inr (.inr a0)), (1, .inl a1), (2, .inl a2), (3, .inl a3), (4, .inr (.inr a4))], [.inr (.inl (Int32.toInt64 v2)), .inl (0 : Int32), .inr (.inr a4)])) rfl ?_
      obtain ⟨h5, qh5, hr⟩ := Option.bind_eq_some_iff.mp hr
      refine tm_ast rfl rfl qh5 ?_
      refine tm_n 2 (F' := (24, [(0, .inr (.inr a0)), (1, .inl a1), (2, .inl a2), (3, .inl a3), (4, .inr (.inr a4))], [.inl (0 : Int32)])) rfl ?_
      cases hr
      exact tm_retI rfl rfl
    · try dsimp only at hr
      by_cases c8 : z7 = 14
      · rw [if_pos c8] at hr
        subst c8
        refine tm_callC rfl rfl (tm_callV rfl rfl c1 rfl rfl) (lq_209 m4) qz7 rfl ?_
        refine tm_n 2 (F' := (18, [(5, .inr (.inr (some a6))), (0, .inr (.inr a0)), (1, .inl a1), (2, .inl a2), (3, .inl a3), (4, .inr (.inr a4))], [.inl (1 : Int32)])) rfl ?_
        cases hr
        exact tm_retI rfl rfl
      · rw [if_neg c8] at hr
        by_cases c9 : z7 = 16
        · rw [if_pos c9] at hr
          subst c9
          refine tm_callC rfl rfl (tm_callV rfl rfl c1 rfl rfl) (lq_209 m4) qz7 rfl ?_
          refine tm_n 2 (F' := (22, [(5, .inr (.inr (some a6))), (0, .inr (.inr a0)), (1, .inl a1), (2, .inl a2), (3, .inl a3), (4, .inr (.inr a4))], [.inl (2 : Int32)])) rfl ?_
          cases hr
          exact tm_retI rfl rfl
        · rw [if_neg c9] at hr
          cases hr
  · rw [if_neg c1] at hr
    cases hr
-- OfficeSheet$Act.isInPastOf(LOfficeSheet$Act;)Z
set_option maxRecDepth 20000 in
def ll_215 (a0 : Option Nat) (a1 : Option Nat) (h : pm_H) : tm_L := (lf_R h a1 [7, 4]).bind fun v1 => (lf_I h a0 [7, 1]).bind fun v2 => (la_I h .iaload v1 v2).bind fun v3 => (lf_I h a0 [7, 2]).bind fun v4 => if v3 < v4 then some (.inl (some (.inl (0 : Int32))), h) else some (.inl (some (.inl (1 : Int32))), h)
set_option maxRecDepth 20000 in
theorem lq_215 {w : Option Nat} {d : Nat} {a0 : Option Nat} {a1 : Option Nat} {h : pm_H} {r : tm_O × pm_H} (hr : ll_215 a0 a1 h = some r) : tm_run pt_P (pt_G (tm_r w)) (d + 0) 215 [.inr (.inr a0), .inr (.inr a1)] h r := by
  unfold ll_215 at hr
  show pm_to pt_P (pt_G (tm_r w)) (d + 0) (pt_g215, []) (tm_m (0, [(0, .inr (.inr a0)), (1, .inr (.inr a1))], [])) h (tm_e r)
  refine tm_n 1 (F' := (1, [(0, .inr (.inr a0)), (1, .inr (.inr a1))], [.inr (.inr a1)])) rfl ?_
  obtain ⟨v1, qv1, hr⟩ := Option.bind_eq_some_iff.mp hr
  refine tm_getf rfl (lf_R_V qv1) ?_
  refine tm_n 1 (F' := (5, [(0, .inr (.inr a0)), (1, .inr (.inr a1))], [.inr (.inr a0), .inr (.inr v1)])) rfl ?_
  obtain ⟨v2, qv2, hr⟩ := Option.bind_eq_some_iff.mp hr
  refine tm_getf rfl (lf_I_V qv2) ?_
  obtain ⟨v3, qv3, hr⟩ := Option.bind_eq_some_iff.mp hr
  refine tm_ald rfl rfl (la_I_V qv3) ?_
  refine tm_n 1 (F' := (10, [(0, .inr (.inr a0)), (1, .inr (.inr a1))], [.inr (.inr a0), .inl v3])) rfl ?_
  obtain ⟨v4, qv4, hr⟩ := Option.bind_eq_some_iff.mp hr
  refine tm_getf rfl (lf_I_V qv4) ?_
  by_cases c5 : v3 < v4
  · rw [if_pos c5] at hr
    refine tm_icT rfl c5 ?_
    refine tm_n 1 (F' := (21, [(0, .inr (.inr a0)), (1, .inr (.inr a1))], [.inl (0 : Int32)])) rfl ?_
    cases hr
    exact tm_retI rfl rfl
  · rw [if_neg c5] at hr
    refine tm_icF rfl c5 ?_
    refine tm_n 2 (F' := (21, [(0, .inr (.inr a0)), (1, .inr (.inr a1))], [.inl (1 : Int32)])) rfl ?_
    cases hr
    exact tm_retI rfl rfl
-- OfficeSheet$Office.isOvertaken(LOfficeSheet$Act;)Z
set_option maxRecDepth 20000 in
def l214_52 (K2 : Option Nat → Option Nat → Int32 → pm_H → tm_L) (x0 : Option Nat) (x1 : Option Nat) (x2 : Int32) (h : pm_H) : tm_L := K2 x0 x1 (x2 + (1 : Int32)) h
set_option maxRecDepth 20000 in
theorem l214_52_t {w : Option Nat} {d : Nat} {K2 : Option Nat → Option Nat → Int32 → pm_H → tm_L} (hK2 : ∀ {x0 : Option Nat} {x1 : Option Nat} {x2 : Int32}  {h : pm_H} {r : tm_O × pm_H}, K2 x0 x1 x2 h = some r → pm_to pt_P (pt_G (tm_r w)) (d + 1) (pt_g214, []) (tm_m (2, [(0, .inr (.inr x0)), (1, .inr (.inr x1)), (2, .inl x2)], [])) h (tm_e r)) {x0 : Option Nat} {x1 : Option Nat} {x2 : Int32} {h : pm_H} {r : tm_O × pm_H} (hr : l214_52 K2 x0 x1 x2 h = some r) : pm_to pt_P (pt_G (tm_r w)) (d + 1) (pt_g214, []) (tm_m (52, [(0, .inr (.inr x0)), (1, .inr (.inr x1)), (2, .inl x2)], [])) h (tm_e r) := by
  unfold l214_52 at hr
  refine tm_n 2 (F' := (2, [(2, .inl (x2 + (1 : Int32))), (0, .inr (.inr x0)), (1, .inr (.inr x1))], [])) rfl ?_
  refine tm_cut (a := [(0, .inr (.inr x0)), (1, .inr (.inr x1)), (2, .inl (x2 + (1 : Int32)))]) rfl (tm_sbs [1, 2, 0] rfl) ?_
  exact hK2 hr
set_option maxRecDepth 20000 in
def l214_2 : Nat → Option Nat → Option Nat → Int32 → pm_H → tm_L
  | 0 => fun _ _ _ _ => none
  | n + 1 => fun x0 x1 x2 h => if (120 : Int32) ≤ x2 then some (.inl (some (.inl (0 : Int32))), h) else (lf_R h x0 [4, 2]).bind fun v1 => (la_R h .aaload v1 x2).bind fun v2 => match v2 with | none => (l214_52 (l214_2 n) x0 x1 x2 h) | some a3 => (if lc_of h x0 = some 4 then lb_I (ll_179 x0 (some a3) h) (fun v5 h6 => if v5 = (0 : Int32) then l214_52 (l214_2 n) x0 x1 x2 h6 else (lf_R h6 x1 [7, 8]).bind fun v8 => (lf_R h6 x1 [7, 9]).bind fun v9 => if lc_of h6 (some a3) = some 7 then lb_I (ll_102 (some a3) v8 v9 h6) (fun v11 h12 => if v11 = (0 : Int32) then l214_52 (l214_2 n) x0 x1 x2 h12 else if lc_of h12 x1 = some 7 then lb_I (ll_215 x1 (some a3) h12) (fun v15 h16 => if v15 = (0 : Int32) then l214_52 (l214_2 n) x0 x1 x2 h16 else some (.inl (some (.inl (1 : Int32))), h16)) else none) else none) else none)
set_option maxRecDepth 20000 in
theorem l214_2_t {w : Option Nat} {d : Nat} : ∀ (n : Nat) {x0 : Option Nat} {x1 : Option Nat} {x2 : Int32} {h : pm_H} {r : tm_O × pm_H}, l214_2 n x0 x1 x2 h = some r → pm_to pt_P (pt_G (tm_r w)) (d + 1) (pt_g214, []) (tm_m (2, [(0, .inr (.inr x0)), (1, .inr (.inr x1)), (2, .inl x2)], [])) h (tm_e r) := by
  intro n
  induction n with
  | zero => intro x0 x1 x2 h r hr; cases hr
  | succ n ih =>
    intro x0 x1 x2 h r hr
    unfold l214_2 at hr
    refine tm_n 2 (F' := (5, [(0, .inr (.inr x0)), (1, .inr (.inr x1)), (2, .inl x2)], [.inl (120 : Int32), .inl x2])) rfl ?_
    by_cases c27 : (120 : Int32) ≤ x2
    · rw [if_pos c27] at hr
      refine tm_icT rfl c27 ?_
      refine tm_n 1 (F' := (59, [(0, .inr (.inr x0)), (1, .inr (.inr x1)), (2, .inl x2)], [.inl (0 : Int32)])) rfl ?_
      cases hr
      exact tm_retI rfl rfl
    · rw [if_neg c27] at hr
      refine tm_icF rfl c27 ?_
      refine tm_n 1 (F' := (9, [(0, .inr (.inr x0)), (1, .inr (.inr x1)), (2, .inl x2)], [.inr (.inr x0)])) rfl ?_
      obtain ⟨v1, qv1, hr⟩ := Option.bind_eq_some_iff.mp hr
      refine tm_getf rfl (lf_R_V qv1) ?_
      refine tm_n 1 (F' := (13, [(0, .inr (.inr x0)), (1, .inr (.inr x1)), (2, .inl x2)], [.inl x2, .inr (.inr v1)])) rfl ?_
      obtain ⟨v2, qv2, hr⟩ := Option.bind_eq_some_iff.mp hr
      refine tm_ald rfl rfl (la_R_V qv2) ?_
      refine tm_n 2 (F' := (16, [(3, .inr (.inr v2)), (0, .inr (.inr x0)), (1, .inr (.inr x1)), (2, .inl x2)], [.inr (.inr v2)])) rfl ?_
      cases v2 with
      | none =>
        try dsimp only at hr
        refine tm_nuT rfl ?_
        refine tm_cut (a := [(0, .inr (.inr x0)), (1, .inr (.inr x1)), (2, .inl x2)]) rfl (tm_sbs [1, 2, 3] rfl) ?_
        exact l214_52_t (fun hr => ih hr) hr
      | some a3 =>
        try dsimp only at hr
        refine tm_nuF rfl ?_
        refine tm_n 2 (F' := (21, [(3, .inr (.inr (some a3))), (0, .inr (.inr x0)), (1, .inr (.inr x1)), (2, .inl x2)], [.inr (.inr (some a3)), .inr (.inr x0)])) rfl ?_
        by_cases c4 : lc_of h x0 = some 4
        · rw [if_pos c4] at hr
          rcases lb_I_s hr with ⟨v5, h6, m7, hr⟩ | ⟨a25, h6, z26, z26l, m7, qz26, rfl⟩
          · try dsimp only at hr
            refine tm_call rfl rfl (tm_callV rfl rfl c4 rfl rfl) (lq_179 m7) ?_
            by_cases c24 : v5 = (0 : Int32)
            · rw [if_pos c24] at hr
              refine tm_ifT rfl c24 ?_
              refine tm_cut (a := [(0, .inr (.inr x0)), (1, .inr (.inr x1)), (2, .inl x2)]) rfl (tm_sbs [1, 2, 3] rfl) ?_
              exact l214_52_t (fun hr => ih hr) hr
            · rw [if_neg c24] at hr
              refine tm_ifF rfl c24 ?_
              refine tm_n 2 (F' := (29, [(3, .inr (.inr (some a3))), (0, .inr (.inr x0)), (1, .inr (.inr x1)), (2, .inl x2)], [.inr (.inr x1), .inr (.inr (some a3))])) rfl ?_
              obtain ⟨v8, qv8, hr⟩ := Option.bind_eq_some_iff.mp hr
              refine tm_getf rfl (lf_R_V qv8) ?_
              refine tm_n 1 (F' := (33, [(3, .inr (.inr (some a3))), (0, .inr (.inr x0)), (1, .inr (.inr x1)), (2, .inl x2)], [.inr (.inr x1), .inr (.inr v8), .inr (.inr (some a3))])) rfl ?_
              obtain ⟨v9, qv9, hr⟩ := Option.bind_eq_some_iff.mp hr
              refine tm_getf rfl (lf_R_V qv9) ?_
              by_cases c10 : lc_of h6 (some a3) = some 7
              · rw [if_pos c10] at hr
                rcases lb_I_s hr with ⟨v11, h12, m13, hr⟩ | ⟨a22, h12, z23, z23l, m13, qz23, rfl⟩
                · try dsimp only at hr
                  refine tm_call rfl rfl (tm_callV rfl rfl c10 rfl rfl) (lq_102 m13) ?_
                  by_cases c21 : v11 = (0 : Int32)
                  · rw [if_pos c21] at hr
                    refine tm_ifT rfl c21 ?_
                    refine tm_cut (a := [(0, .inr (.inr x0)), (1, .inr (.inr x1)), (2, .inl x2)]) rfl (tm_sbs [1, 2, 3] rfl) ?_
                    exact l214_52_t (fun hr => ih hr) hr
                  · rw [if_neg c21] at hr
                    refine tm_ifF rfl c21 ?_
                    refine tm_n 2 (F' := (44, [(3, .inr (.inr (some a3))), (0, .inr (.inr x0)), (1, .inr (.inr x1)), (2, .inl x2)], [.inr (.inr (some a3)), .inr (.inr x1)])) rfl ?_
                    by_cases c14 : lc_of h12 x1 = some 7
                    · rw [if_pos c14] at hr
                      rcases lb_I_s hr with ⟨v15, h16, m17, hr⟩ | ⟨a19, h16, z20, z20l, m17, qz20, rfl⟩
                      · try dsimp only at hr
                        refine tm_call rfl rfl (tm_callV rfl rfl c14 rfl rfl) (lq_215 m17) ?_
                        by_cases c18 : v15 = (0 : Int32)
                        · rw [if_pos c18] at hr
                          refine tm_ifT rfl c18 ?_
                          refine tm_cut (a := [(0, .inr (.inr x0)), (1, .inr (.inr x1)), (2, .inl x2)]) rfl (tm_sbs [1, 2, 3] rfl) ?_
                          exact l214_52_t (fun hr => ih hr) hr
                        · rw [if_neg c18] at hr
                          refine tm_ifF rfl c18 ?_
                          refine tm_n 1 (F' := (51, [(3, .inr (.inr (some a3))), (0, .inr (.inr x0)), (1, .inr (.inr x1)), (2, .inl x2)], [.inl (1 : Int32)])) rfl ?_
                          cases hr
                          exact tm_retI rfl rfl
                      · exact tm_callT rfl rfl (tm_callV rfl rfl c14 rfl rfl) (lq_215 m17) qz20 rfl
                    · rw [if_neg c14] at hr
                      cases hr
                · exact tm_callT rfl rfl (tm_callV rfl rfl c10 rfl rfl) (lq_102 m13) qz23 rfl
              · rw [if_neg c10] at hr
                cases hr
          · exact tm_callT rfl rfl (tm_callV rfl rfl c4 rfl rfl) (lq_179 m7) qz26 rfl
        · rw [if_neg c4] at hr
          cases hr
set_option maxRecDepth 20000 in
def ll_214 (a0 : Option Nat) (a1 : Option Nat) (h : pm_H) : tm_L := l214_2 lf_N a0 a1 (0 : Int32) h
set_option maxRecDepth 20000 in
theorem lq_214 {w : Option Nat} {d : Nat} {a0 : Option Nat} {a1 : Option Nat} {h : pm_H} {r : tm_O × pm_H} (hr : ll_214 a0 a1 h = some r) : tm_run pt_P (pt_G (tm_r w)) (d + 1) 214 [.inr (.inr a0), .inr (.inr a1)] h r := by
  unfold ll_214 at hr
  show pm_to pt_P (pt_G (tm_r w)) (d + 1) (pt_g214, []) (tm_m (0, [(0, .inr (.inr a0)), (1, .inr (.inr a1))], [])) h (tm_e r)
  refine tm_n 2 (F' := (2, [(2, .inl (0 : Int32)), (0, .inr (.inr a0)), (1, .inr (.inr a1))], [])) rfl ?_
  refine tm_cut (a := [(0, .inr (.inr a0)), (1, .inr (.inr a1)), (2, .inl (0 : Int32))]) rfl (tm_sbs [1, 2, 0] rfl) ?_
  exact l214_2_t lf_N hr
-- OfficeSheet$Office.countRivals(LOfficeSheet$Line;LOfficeSheet$Line;)I
set_option maxRecDepth 20000 in
def l213_72 (K13 : Option Nat → Option Nat → Option Nat → Int32 → Option Nat → Int32 → pm_H → tm_L) (x0 : Option Nat) (x1 : Option Nat) (x2 : Option Nat) (x3 : Int32) (x4 : Option Nat) (x5 : Int32) (h : pm_H) : tm_L := K13 x0 x1 x2 x3 x4 (x5 + (1 : Int32)) h
set_option maxRecDepth 20000 in
theorem l213_72_t {w : Option Nat} {d : Nat} {K13 : Option Nat → Option Nat → Option Nat → Int32 → Option Nat → Int32 → pm_H → tm_L} (hK13 : ∀ {x0 : Option Nat} {x1 : Option Nat} {x2 : Option Nat} {x3 : Int32} {x4 : Option Nat} {x5 : Int32}  {h : pm_H} {r : tm_O × pm_H}, K13 x0 x1 x2 x3 x4 x5 h = some r → pm_to pt_P (pt_G (tm_r w)) (d + 4) (pt_g213, []) (tm_m (13, [(0, .inr (.inr x0)), (1, .inr (.inr x1)), (2, .inr (.inr x2)), (3, .inl x3), (4, .inr (.inr x4)), (5, .inl x5)], [])) h (tm_e r)) {x0 : Option Nat} {x1 : Option Nat} {x2 : Option Nat} {x3 : Int32} {x4 : Option Nat} {x5 : Int32} {h : pm_H} {r : tm_O × pm_H} (hr : l213_72 K13 x0 x1 x2 x3 x4 x5 h = some r) : pm_to pt_P (pt_G (tm_r w)) (d + 4) (pt_g213, []) (tm_m (72, [(0, .inr (.inr x0)), (1, .inr (.inr x1)), (2, .inr (.inr x2)), (3, .inl x3), (4, .inr (.inr x4)), (5, .inl x5)], [])) h (tm_e r) := by
  unfold l213_72 at hr
  refine tm_n 2 (F' := (13, [(5, .inl (x5 + (1 : Int32))), (0, .inr (.inr x0)), (1, .inr (.inr x1)), (2, .inr (.inr x2)), (3, .inl x3), (4, .inr (.inr x4))], [])) rfl ?_
  refine tm_cut (a := [(0, .inr (.inr x0)), (1, .inr (.inr x1)), (2, .inr (.inr x2)), (3, .inl x3), (4, .inr (.inr x4)), (5, .inl (x5 + (1 : Int32)))]) rfl (tm_sbs [1, 2, 3, 4, 5, 0] rfl) ?_
  exact hK13 hr
set_option maxRecDepth 20000 in
def l213_13 : Nat → Option Nat → Option Nat → Option Nat → Int32 → Option Nat → Int32 → pm_H → tm_L
  | 0 => fun _ _ _ _ _ _ _ => none
  | n + 1 => fun x0 x1 x2 x3 x4 x5 h => if (120 : Int32) ≤ x5 then some (.inl (some (.inl x3)), h) else (lf_R h x0 [4, 2]).bind fun v1 => (la_R h .aaload v1 x5).bind fun v2 => match v2 with | none => (l213_72 (l213_13 n) x0 x1 x2 x3 x4 x5 h) | some a3 => (lb_A (tm_acm (some a3) x4) (l213_72 (l213_13 n) x0 x1 x2 x3 x4 x5 h) (if lc_of h x0 = some 4 then lb_I (ll_179 x0 (some a3) h) (fun v6 h7 => if v6 = (0 : Int32) then l213_72 (l213_13 n) x0 x1 x2 x3 x4 x5 h7 else if lc_of h7 (some a3) = some 7 then lb_I (ll_102 (some a3) x1 x2 h7) (fun v10 h11 => if v10 = (0 : Int32) then l213_72 (l213_13 n) x0 x1 x2 x3 x4 x5 h11 else if lc_of h11 x0 = some 4 then lb_I (ll_214 x0 (some a3) h11) (fun v14 h15 => if v14 = (0 : Int32) then l213_72 (l213_13 n) x0 x1 x2 (x3 + (1 : Int32)) x4 x5 h15 else l213_72 (l213_13 n) x0 x1 x2 x3 x4 x5 h15) else none) else none) else none))
set_option maxRecDepth 20000 in
theorem l213_13_t {w : Option Nat} {d : Nat} : ∀ (n : Nat) {x0 : Option Nat} {x1 : Option Nat} {x2 : Option Nat} {x3 : Int32} {x4 : Option Nat} {x5 : Int32} {h : pm_H} {r : tm_O × pm_H}, l213_13 n x0 x1 x2 x3 x4 x5 h = some r → pm_to pt_P (pt_G (tm_r w)) (d + 4) (pt_g213, []) (tm_m (13, [(0, .inr (.inr x0)), (1, .inr (.inr x1)), (2, .inr (.inr x2)), (3, .inl x3), (4, .inr (.inr x4)), (5, .inl x5)], [])) h (tm_e r) := by
  intro n
  induction n with
  | zero => intro x0 x1 x2 x3 x4 x5 h r hr; cases hr
  | succ n ih =>
    intro x0 x1 x2 x3 x4 x5 h r hr
    unfold l213_13 at hr
    refine tm_n 2 (F' := (17, [(0, .inr (.inr x0)), (1, .inr (.inr x1)), (2, .inr (.inr x2)), (3, .inl x3), (4, .inr (.inr x4)), (5, .inl x5)], [.inl (120 : Int32), .inl x5])) rfl ?_
    by_cases c26 : (120 : Int32) ≤ x5
    · rw [if_pos c26] at hr
      refine tm_icT rfl c26 ?_
      refine tm_n 1 (F' := (79, [(0, .inr (.inr x0)), (1, .inr (.inr x1)), (2, .inr (.inr x2)), (3, .inl x3), (4, .inr (.inr x4)), (5, .inl x5)], [.inl x3])) rfl ?_
      cases hr
      exact tm_retI rfl rfl
    · rw [if_neg c26] at hr
      refine tm_icF rfl c26 ?_
      refine tm_n 1 (F' := (21, [(0, .inr (.inr x0)), (1, .inr (.inr x1)), (2, .inr (.inr x2)), (3, .inl x3), (4, .inr (.inr x4)), (5, .inl x5)], [.inr (.inr x0)])) rfl ?_
      obtain ⟨v1, qv1, hr⟩ := Option.bind_eq_some_iff.mp hr
      refine tm_getf rfl (lf_R_V qv1) ?_
      refine tm_n 1 (F' := (26, [(0, .inr (.inr x0)), (1, .inr (.inr x1)), (2, .inr (.inr x2)), (3, .inl x3), (4, .inr (.inr x4)), (5, .inl x5)], [.inl x5, .inr (.inr v1)])) rfl ?_
      obtain ⟨v2, qv2, hr⟩ := Option.bind_eq_some_iff.mp hr
      refine tm_ald rfl rfl (la_R_V qv2) ?_
      refine tm_n 2 (F' := (31, [(6, .inr (.inr v2)), (0, .inr (.inr x0)), (1, .inr (.inr x1)), (2, .inr (.inr x2)), (3, .inl x3), (4, .inr (.inr x4)), (5, .inl x5)], [.inr (.inr v2)])) rfl ?_
      cases v2 with
      | none =>
        try dsimp only at hr
        refine tm_nuT rfl ?_
        refine tm_cut (a := [(0, .inr (.inr x0)), (1, .inr (.inr x1)), (2, .inr (.inr x2)), (3, .inl x3), (4, .inr (.inr x4)), (5, .inl x5)]) rfl (tm_sbs [1, 2, 3, 4, 5, 6] rfl) ?_
        exact l213_72_t (fun hr => ih hr) hr
      | some a3 =>
        try dsimp only at hr
        refine tm_nuF rfl ?_
        refine tm_n 2 (F' := (38, [(6, .inr (.inr (some a3))), (0, .inr (.inr x0)), (1, .inr (.inr x1)), (2, .inr (.inr x2)), (3, .inl x3), (4, .inr (.inr x4)), (5, .inl x5)], [.inr (.inr x4), .inr (.inr (some a3))])) rfl ?_
        rcases lb_A_s hr with ⟨c4, hr⟩ | ⟨c4, hr⟩
        · refine tm_aeT rfl c4 ?_
          refine tm_cut (a := [(0, .inr (.inr x0)), (1, .inr (.inr x1)), (2, .inr (.inr x2)), (3, .inl x3), (4, .inr (.inr x4)), (5, .inl x5)]) rfl (tm_sbs [1, 2, 3, 4, 5, 6] rfl) ?_
          exact l213_72_t (fun hr => ih hr) hr
        · refine tm_aeF rfl c4 ?_
          refine tm_n 2 (F' := (44, [(6, .inr (.inr (some a3))), (0, .inr (.inr x0)), (1, .inr (.inr x1)), (2, .inr (.inr x2)), (3, .inl x3), (4, .inr (.inr x4)), (5, .inl x5)], [.inr (.inr (some a3)), .inr (.inr x0)])) rfl ?_
          by_cases c5 : lc_of h x0 = some 4
          · rw [if_pos c5] at hr
            rcases lb_I_s hr with ⟨v6, h7, m8, hr⟩ | ⟨a24, h7, z25, z25l, m8, qz25, rfl⟩
            · try dsimp only at hr
              refine tm_call rfl rfl (tm_callV rfl rfl c5 rfl rfl) (lq_179 m8) ?_
              by_cases c23 : v6 = (0 : Int32)
              · rw [if_pos c23] at hr
                refine tm_ifT rfl c23 ?_
                refine tm_cut (a := [(0, .inr (.inr x0)), (1, .inr (.inr x1)), (2, .inr (.inr x2)), (3, .inl x3), (4, .inr (.inr x4)), (5, .inl x5)]) rfl (tm_sbs [1, 2, 3, 4, 5, 6] rfl) ?_
                exact l213_72_t (fun hr => ih hr) hr
              · rw [if_neg c23] at hr
                refine tm_ifF rfl c23 ?_
                refine tm_n 3 (F' := (54, [(6, .inr (.inr (some a3))), (0, .inr (.inr x0)), (1, .inr (.inr x1)), (2, .inr (.inr x2)), (3, .inl x3), (4, .inr (.inr x4)), (5, .inl x5)], [.inr (.inr x2), .inr (.inr x1), .inr (.inr (some a3))])) rfl ?_
                by_cases c9 : lc_of h7 (some a3) = some 7
                · rw [if_pos c9] at hr
                  rcases lb_I_s hr with ⟨v10, h11, m12, hr⟩ | ⟨a21, h11, z22, z22l, m12, qz22, rfl⟩
                  · try dsimp only at hr
                    refine tm_call rfl rfl (tm_callV rfl rfl c9 rfl rfl) (lq_102 m12) ?_
                    by_cases c20 : v10 = (0 : Int32)
                    · rw [if_pos c20] at hr
                      refine tm_ifT rfl c20 ?_
                      refine tm_cut (a := [(0, .inr (.inr x0)), (1, .inr (.inr x1)), (2, .inr (.inr x2)), (3, .inl x3), (4, .inr (.inr x4)), (5, .inl x5)]) rfl (tm_sbs [1, 2, 3, 4, 5, 6] rfl) ?_
                      exact l213_72_t (fun hr => ih hr) hr
                    · rw [if_neg c20] at hr
                      refine tm_ifF rfl c20 ?_
                      refine tm_n 2 (F' := (63, [(6, .inr (.inr (some a3))), (0, .inr (.inr x0)), (1, .inr (.inr x1)), (2, .inr (.inr x2)), (3, .inl x3), (4, .inr (.inr x4)), (5, .inl x5)], [.inr (.inr (some a3)), .inr (.inr x0)])) rfl ?_
                      by_cases c13 : lc_of h11 x0 = some 4
                      · rw [if_pos c13] at hr
                        rcases lb_I_s hr with ⟨v14, h15, m16, hr⟩ | ⟨a18, h15, z19, z19l, m16, qz19, rfl⟩
                        · try dsimp only at hr
                          refine tm_call rfl rfl (tm_callV rfl rfl c13 rfl rfl) (lq_214 m16) ?_
                          by_cases c17 : v14 = (0 : Int32)
                          · rw [if_pos c17] at hr
                            refine tm_ifF rfl (fun q => q c17) ?_
                            refine tm_n 1 (F' := (72, [(3, .inl (x3 + (1 : Int32))), (6, .inr (.inr (some a3))), (0, .inr (.inr x0)), (1, .inr (.inr x1)), (2, .inr (.inr x2)), (4, .inr (.inr x4)), (5, .inl x5)], [])) rfl ?_
                            refine tm_cut (a := [(0, .inr (.inr x0)), (1, .inr (.inr x1)), (2, .inr (.inr x2)), (3, .inl (x3 + (1 : Int32))), (4, .inr (.inr x4)), (5, .inl x5)]) rfl (tm_sbs [2, 3, 4, 0, 5, 6] rfl) ?_
                            exact l213_72_t (fun hr => ih hr) hr
                          · rw [if_neg c17] at hr
                            refine tm_ifT rfl c17 ?_
                            refine tm_cut (a := [(0, .inr (.inr x0)), (1, .inr (.inr x1)), (2, .inr (.inr x2)), (3, .inl x3), (4, .inr (.inr x4)), (5, .inl x5)]) rfl (tm_sbs [1, 2, 3, 4, 5, 6] rfl) ?_
                            exact l213_72_t (fun hr => ih hr) hr
                        · exact tm_callT rfl rfl (tm_callV rfl rfl c13 rfl rfl) (lq_214 m16) qz19 rfl
                      · rw [if_neg c13] at hr
                        cases hr
                  · exact tm_callT rfl rfl (tm_callV rfl rfl c9 rfl rfl) (lq_102 m12) qz22 rfl
                · rw [if_neg c9] at hr
                  cases hr
            · exact tm_callT rfl rfl (tm_callV rfl rfl c5 rfl rfl) (lq_179 m8) qz25 rfl
          · rw [if_neg c5] at hr
            cases hr
set_option maxRecDepth 20000 in
def ll_213 (a0 : Option Nat) (a1 : Option Nat) (a2 : Option Nat) (h : pm_H) : tm_L := if lc_of h a0 = some 4 then lb_R (ll_159 a0 a1 a2 h) (fun v2 h3 => l213_13 lf_N a0 a1 a2 (0 : Int32) v2 (0 : Int32) h3) else none
set_option maxRecDepth 20000 in
theorem lq_213 {w : Option Nat} {d : Nat} {a0 : Option Nat} {a1 : Option Nat} {a2 : Option Nat} {h : pm_H} {r : tm_O × pm_H} (hr : ll_213 a0 a1 a2 h = some r) : tm_run pt_P (pt_G (tm_r w)) (d + 4) 213 [.inr (.inr a0), .inr (.inr a1), .inr (.inr a2)] h r := by
  unfold ll_213 at hr
  show pm_to pt_P (pt_G (tm_r w)) (d + 4) (pt_g213, []) (tm_m (0, [(0, .inr (.inr a0)), (1, .inr (.inr a1)), (2, .inr (.inr a2))], [])) h (tm_e r)
  refine tm_n 5 (F' := (5, [(3, .inl (0 : Int32)), (0, .inr (.inr a0)), (1, .inr (.inr a1)), (2, .inr (.inr a2))], [.inr (.inr a2), .inr (.inr a1), .inr (.inr a0)])) rfl ?_
  by_cases c1 : lc_of h a0 = some 4
  · rw [if_pos c1] at hr
    rcases lb_R_s hr with ⟨v2, h3, m4, hr⟩ | ⟨a5, h3, z6, z6l, m4, qz6, rfl⟩
    · try dsimp only at hr
      refine tm_call rfl rfl (tm_callV rfl rfl c1 rfl rfl) (lq_159 m4) ?_
      refine tm_n 3 (F' := (13, [(5, .inl (0 : Int32)), (4, .inr (.inr v2)), (3, .inl (0 : Int32)), (0, .inr (.inr a0)), (1, .inr (.inr a1)), (2, .inr (.inr a2))], [])) rfl ?_
      refine tm_cut (a := [(0, .inr (.inr a0)), (1, .inr (.inr a1)), (2, .inr (.inr a2)), (3, .inl (0 : Int32)), (4, .inr (.inr v2)), (5, .inl (0 : Int32))]) rfl (tm_sbs [3, 4, 5, 2, 1, 0] rfl) ?_
      exact l213_13_t lf_N hr
    · exact tm_callT rfl rfl (tm_callV rfl rfl c1 rfl rfl) (lq_159 m4) qz6 rfl
  · rw [if_neg c1] at hr
    cases hr
-- OfficeSheet.also(III)I
set_option maxRecDepth 20000 in
def ll_212 (a0 : Option Nat) (a1 : Int32) (a2 : Int32) (a3 : Int32) (h : pm_H) : tm_L := if lc_of h a0 = some 0 then lb_R (ll_81 a0 a1 h) (fun v2 h3 => (lf_R h3 v2 [4, 3]).bind fun v5 => (la_R h3 .aaload v5 (0 : Int32)).bind fun v6 => lb_R (ll_84 v6 a2 h3) (fun v7 h8 => (lf_R h8 v2 [4, 3]).bind fun v10 => (la_R h8 .aaload v10 (1 : Int32)).bind fun v11 => lb_R (ll_84 v11 a3 h8) (fun v12 h13 => if lc_of h13 v2 = some 4 then lb_I (ll_213 v2 v7 v12 h13) (fun v16 h17 => some (.inl (some (.inl v16)), h17)) else none))) else none
set_option maxRecDepth 20000 in
theorem lq_212 {w : Option Nat} {d : Nat} {a0 : Option Nat} {a1 : Int32} {a2 : Int32} {a3 : Int32} {h : pm_H} {r : tm_O × pm_H} (hr : ll_212 a0 a1 a2 a3 h = some r) : tm_run pt_P (pt_G (tm_r w)) (d + 5) 212 [.inr (.inr a0), .inl a1, .inl a2, .inl a3] h r := by
  unfold ll_212 at hr
  show pm_to pt_P (pt_G (tm_r w)) (d + 5) (pt_g212, []) (tm_m (0, [(0, .inr (.inr a0)), (1, .inl a1), (2, .inl a2), (3, .inl a3)], [])) h (tm_e r)
  refine tm_n 2 (F' := (2, [(0, .inr (.inr a0)), (1, .inl a1), (2, .inl a2), (3, .inl a3)], [.inl a1, .inr (.inr a0)])) rfl ?_
  by_cases c1 : lc_of h a0 = some 0
  · rw [if_pos c1] at hr
    rcases lb_R_s hr with ⟨v2, h3, m4, hr⟩ | ⟨a25, h3, z26, z26l, m4, qz26, rfl⟩
    · try dsimp only at hr
      refine tm_call rfl rfl (tm_callV rfl rfl c1 rfl rfl) (lq_81 m4) ?_
      refine tm_n 2 (F' := (9, [(4, .inr (.inr v2)), (0, .inr (.inr a0)), (1, .inl a1), (2, .inl a2), (3, .inl a3)], [.inr (.inr v2)])) rfl ?_
      obtain ⟨v5, qv5, hr⟩ := Option.bind_eq_some_iff.mp hr
      refine tm_getf rfl (lf_R_V qv5) ?_
      refine tm_n 1 (F' := (13, [(4, .inr (.inr v2)), (0, .inr (.inr a0)), (1, .inl a1), (2, .inl a2), (3, .inl a3)], [.inl (0 : Int32), .inr (.inr v5)])) rfl ?_
      obtain ⟨v6, qv6, hr⟩ := Option.bind_eq_some_iff.mp hr
      refine tm_ald rfl rfl (la_R_V qv6) ?_
      refine tm_n 1 (F' := (15, [(4, .inr (.inr v2)), (0, .inr (.inr a0)), (1, .inl a1), (2, .inl a2), (3, .inl a3)], [.inl a2, .inr (.inr v6)])) rfl ?_
      rcases lb_R_s hr with ⟨v7, h8, m9, hr⟩ | ⟨a23, h8, z24, z24l, m9, qz24, rfl⟩
      · try dsimp only at hr
        refine tm_call rfl rfl (tm_callS rfl rfl) (lq_84 m9) ?_
        refine tm_n 2 (F' := (22, [(5, .inr (.inr v7)), (4, .inr (.inr v2)), (0, .inr (.inr a0)), (1, .inl a1), (2, .inl a2), (3, .inl a3)], [.inr (.inr v2)])) rfl ?_
        obtain ⟨v10, qv10, hr⟩ := Option.bind_eq_some_iff.mp hr
        refine tm_getf rfl (lf_R_V qv10) ?_
        refine tm_n 1 (F' := (26, [(5, .inr (.inr v7)), (4, .inr (.inr v2)), (0, .inr (.inr a0)), (1, .inl a1), (2, .inl a2), (3, .inl a3)], [.inl (1 : Int32), .inr (.inr v10)])) rfl ?_
        obtain ⟨v11, qv11, hr⟩ := Option.bind_eq_some_iff.mp hr
        refine tm_ald rfl rfl (la_R_V qv11) ?_
        refine tm_n 1 (F' := (28, [(5, .inr (.inr v7)), (4, .inr (.inr v2)), (0, .inr (.inr a0)), (1, .inl a1), (2, .inl a2), (3, .inl a3)], [.inl a3, .inr (.inr v11)])) rfl ?_
        rcases lb_R_s hr with ⟨v12, h13, m14, hr⟩ | ⟨a21, h13, z22, z22l, m14, qz22, rfl⟩
        · try dsimp only at hr
          refine tm_call rfl rfl (tm_callS rfl rfl) (lq_84 m14) ?_
          refine tm_n 4 (F' := (39, [(6, .inr (.inr v12)), (5, .inr (.inr v7)), (4, .inr (.inr v2)), (0, .inr (.inr a0)), (1, .inl a1), (2, .inl a2), (3, .inl a3)], [.inr (.inr v12), .inr (.inr v7), .inr (.inr v2)])) rfl ?_
          by_cases c15 : lc_of h13 v2 = some 4
          · rw [if_pos c15] at hr
            rcases lb_I_s hr with ⟨v16, h17, m18, hr⟩ | ⟨a19, h17, z20, z20l, m18, qz20, rfl⟩
            · try dsimp only at hr
              refine tm_call rfl rfl (tm_callV rfl rfl c15 rfl rfl) (lq_213 m18) ?_
              cases hr
              exact tm_retI rfl rfl
            · exact tm_callT rfl rfl (tm_callV rfl rfl c15 rfl rfl) (lq_213 m18) qz20 rfl
          · rw [if_neg c15] at hr
            cases hr
        · exact tm_callT rfl rfl (tm_callS rfl rfl) (lq_84 m14) qz22 rfl
      · exact tm_callT rfl rfl (tm_callS rfl rfl) (lq_84 m9) qz24 rfl
    · exact tm_callT rfl rfl (tm_callV rfl rfl c1 rfl rfl) (lq_81 m4) qz26 rfl
  · rw [if_neg c1] at hr
    cases hr
-- OfficeSheetLaw.also(LOfficeSheet;III[J)I
set_option maxRecDepth 20000 in
def ll_211 (a0 : Option Nat) (a1 : Int32) (a2 : Int32) (a3 : Int32) (a4 : Option Nat) (h : pm_H) : tm_L := if lc_of h a0 = some 0 then lh_I (ll_212 a0 a1 a2 a3 h) (fun v2 h3 => (la_S pt_P h3 .lastore a4 (0 : Int32) (.inr (.inl (Int32.toInt64 v2)))).bind fun h5 => some (.inl (some (.inl (0 : Int32))), h5)) (fun a6 z7 h3 => if z7 = 14 then some (.inl (some (.inl (1 : Int32))), h3) else if z7 = 16 then some (.inl (some (.inl (2 : Int32))), h3) else none) else none
set_option maxRecDepth 20000 in
theorem lq_211 {w : Option Nat} {d : Nat} {a0 : Option Nat} {a1 : Int32} {a2 : Int32} {a3 : Int32} {a4 : Option Nat} {h : pm_H} {r : tm_O × pm_H} (hr : ll_211 a0 a1 a2 a3 a4 h = some r) : tm_run pt_P (pt_G (tm_r w)) (d + 6) 211 [.inr (.inr a0), .inl a1, .inl a2, .inl a3, .inr (.inr a4)] h r := by
  unfold ll_211 at hr
  show pm_to pt_P (pt_G (tm_r w)) (d + 6) (pt_g211, [(0, 12, 15, [14]), (0, 12, 19, [16])]) (tm_m (0, [(0, .inr (.inr a0)), (1, .inl a1), (2, .inl a2), (3, .inl a3), (4, .inr (.inr a4))], [])) h (tm_e r)
  refine tm_n 6 (F' := (7, [(0, .inr (.inr a0)), (1, .inl a1), (2, .inl a2), (3, .inl a3), (4, .inr (.inr a4))], [.inl a3, .inl a2, .inl a1, .inr (.inr a0), .inl (0 : Int32), .inr (.inr a4)])) rfl ?_
  by_cases c1 : lc_of h a0 = some 0
  · rw [if_pos c1] at hr
    rcases lh_I_s hr with ⟨v2, h3, m4, hr⟩ | ⟨a6, h3, z7, z7l, m4, qz7, hr⟩
    · try dsimp only at hr
      refine tm_call rfl rfl (tm_callV rfl rfl c1 rfl rfl) (lq_212 m4) ?_
      refine tm_n 1 (F' := (11, [(0, .inr (.inr a0)), (1, .inl a1), (2, .inl a2), (3, .inl a3), (4, .inr (.inr a4))], [.inr (.inl (Int32.toInt64 v2)), .inl (0 : Int32), .inr (.inr a4)])) rfl ?_
      obtain ⟨h5, qh5, hr⟩ := Option.bind_eq_some_iff.mp hr
      refine tm_ast rfl rfl qh5 ?_
      refine tm_n 2 (F' := (24, [(0, .inr (.inr a0)), (1, .inl a1), (2, .inl a2), (3, .inl a3), (4, .inr (.inr a4))], [.inl (0 : Int32)])) rfl ?_
      cases hr
      exact tm_retI rfl rfl
    · try dsimp only at hr
      by_cases c8 : z7 = 14
      · rw [if_pos c8] at hr
        subst c8
        refine tm_callC rfl rfl (tm_callV rfl rfl c1 rfl rfl) (lq_212 m4) qz7 rfl ?_
        refine tm_n 2 (F' := (18, [(5, .inr (.inr (some a6))), (0, .inr (.inr a0)), (1, .inl a1), (2, .inl a2), (3, .inl a3), (4, .inr (.inr a4))], [.inl (1 : Int32)])) rfl ?_
        cases hr
        exact tm_retI rfl rfl
      · rw [if_neg c8] at hr
        by_cases c9 : z7 = 16
        · rw [if_pos c9] at hr
          subst c9
          refine tm_callC rfl rfl (tm_callV rfl rfl c1 rfl rfl) (lq_212 m4) qz7 rfl ?_
          refine tm_n 2 (F' := (22, [(5, .inr (.inr (some a6))), (0, .inr (.inr a0)), (1, .inl a1), (2, .inl a2), (3, .inl a3), (4, .inr (.inr a4))], [.inl (2 : Int32)])) rfl ?_
          cases hr
          exact tm_retI rfl rfl
        · rw [if_neg c9] at hr
          cases hr
  · rw [if_neg c1] at hr
    cases hr
-- OfficeSheet$Writer.writeNumber(J)V
set_option maxRecDepth 20000 in
def l220_62 (w : Option Nat) : Nat → Option Nat → Int32 → Int32 → pm_H → tm_L
  | 0 => fun _ _ _ _ => none
  | n + 1 => fun x0 x4 x5 h => if x5 ≤ (0 : Int32) then some (.inl none, h) else if x4 = (0 : Int32) then some (.inl none, h) else (lf_R h x0 [3, 0]).bind fun v1 => if x5 = 0 then none else if lc_of h v1 = some 11 then lb_R (ll_58 w v1 (x4 / x5) h) (fun v4 h5 => if x5 = 0 then none else l220_62 w n x0 (x4 - x4 / x5 * x5) (x5 / (10 : Int32)) h5) else none
set_option maxRecDepth 20000 in
theorem l220_62_t {w : Option Nat} {d : Nat} : ∀ (n : Nat) {x0 : Option Nat} {x4 : Int32} {x5 : Int32} {h : pm_H} {r : tm_O × pm_H}, l220_62 w n x0 x4 x5 h = some r → pm_to pt_P (pt_G (tm_r w)) (d + 8) (pt_g220, []) (tm_m (62, [(0, .inr (.inr x0)), (4, .inl x4), (5, .inl x5)], [])) h (tm_e r) := by
  intro n
  induction n with
  | zero => intro x0 x4 x5 h r hr; cases hr
  | succ n ih =>
    intro x0 x4 x5 h r hr
    unfold l220_62 at hr
    refine tm_n 1 (F' := (64, [(0, .inr (.inr x0)), (4, .inl x4), (5, .inl x5)], [.inl x5])) rfl ?_
    by_cases c11 : x5 ≤ (0 : Int32)
    · rw [if_pos c11] at hr
      refine tm_ifT rfl c11 ?_
      cases hr
      exact tm_retV rfl
    · rw [if_neg c11] at hr
      refine tm_ifF rfl c11 ?_
      refine tm_n 1 (F' := (69, [(0, .inr (.inr x0)), (4, .inl x4), (5, .inl x5)], [.inl x4])) rfl ?_
      by_cases c10 : x4 = (0 : Int32)
      · rw [if_pos c10] at hr
        refine tm_ifT rfl c10 ?_
        cases hr
        exact tm_retV rfl
      · rw [if_neg c10] at hr
        refine tm_ifF rfl c10 ?_
        refine tm_n 1 (F' := (73, [(0, .inr (.inr x0)), (4, .inl x4), (5, .inl x5)], [.inr (.inr x0)])) rfl ?_
        obtain ⟨v1, qv1, hr⟩ := Option.bind_eq_some_iff.mp hr
        refine tm_getf rfl (lf_R_V qv1) ?_
        refine tm_n 2 (F' := (80, [(0, .inr (.inr x0)), (4, .inl x4), (5, .inl x5)], [.inl x5, .inl x4, .inr (.inr v1)])) rfl ?_
        by_cases c2 : x5 = 0
        · rw [if_pos c2] at hr
          cases hr
        · rw [if_neg c2] at hr
          refine tm_idiv rfl c2 ?_
          by_cases c3 : lc_of h v1 = some 11
          · rw [if_pos c3] at hr
            rcases lb_R_s hr with ⟨v4, h5, m6, hr⟩ | ⟨a8, h5, z9, z9l, m6, qz9, rfl⟩
            · try dsimp only at hr
              refine tm_call rfl rfl (tm_callV rfl rfl c3 rfl rfl) (lq_58 m6) ?_
              refine tm_n 3 (F' := (89, [(0, .inr (.inr x0)), (4, .inl x4), (5, .inl x5)], [.inl x5, .inl x4])) rfl ?_
              by_cases c7 : x5 = 0
              · rw [if_pos c7] at hr
                cases hr
              · rw [if_neg c7] at hr
                refine tm_irem rfl c7 ?_
                refine tm_n 6 (F' := (62, [(5, .inl (x5 / (10 : Int32))), (4, .inl (x4 - x4 / x5 * x5)), (0, .inr (.inr x0))], [])) rfl ?_
                refine tm_cut (a := [(0, .inr (.inr x0)), (4, .inl (x4 - x4 / x5 * x5)), (5, .inl (x5 / (10 : Int32)))]) rfl (tm_sbs [2, 1, 0] rfl) ?_
                exact ih hr
            · exact tm_callT rfl rfl (tm_callV rfl rfl c3 rfl rfl) (lq_58 m6) qz9 rfl
          · rw [if_neg c3] at hr
            cases hr
set_option maxRecDepth 20000 in
def l220_57 (w : Option Nat) (x0 : Option Nat) (x4 : Int32) (h : pm_H) : tm_L := l220_62 w lf_N x0 x4 (1000 : Int32) h
set_option maxRecDepth 20000 in
theorem l220_57_t {w : Option Nat} {d : Nat} {x0 : Option Nat} {x4 : Int32} {h : pm_H} {r : tm_O × pm_H} (hr : l220_57 w x0 x4 h = some r) : pm_to pt_P (pt_G (tm_r w)) (d + 8) (pt_g220, []) (tm_m (57, [(0, .inr (.inr x0)), (4, .inl x4)], [])) h (tm_e r) := by
  unfold l220_57 at hr
  refine tm_n 2 (F' := (62, [(5, .inl (1000 : Int32)), (0, .inr (.inr x0)), (4, .inl x4)], [])) rfl ?_
  refine tm_cut (a := [(0, .inr (.inr x0)), (4, .inl x4), (5, .inl (1000 : Int32))]) rfl (tm_sbs [1, 2, 0] rfl) ?_
  exact l220_62_t lf_N hr
set_option maxRecDepth 20000 in
def l220_16 (w : Option Nat) (x0 : Option Nat) (x1 : Int64) (h : pm_H) : tm_L := lb_J (ll_206 x1 h) (fun v1 h2 => (lf_R h2 x0 [3, 0]).bind fun v4 => if lc_of h2 v4 = some 11 then lb_R (ll_58 w v4 ((Int64.toInt32 v1) / (10000 : Int32)) h2) (fun v6 h7 => if ((Int64.toInt32 v1) - (Int64.toInt32 v1) / (10000 : Int32) * (10000 : Int32)) = (0 : Int32) then l220_57 w x0 ((Int64.toInt32 v1) - (Int64.toInt32 v1) / (10000 : Int32) * (10000 : Int32)) h7 else (lf_R h7 x0 [3, 0]).bind fun v9 => if lc_of h7 v9 = some 11 then lb_R (ll_19 w v9 (46 : Int32) h7) (fun v11 h12 => l220_57 w x0 ((Int64.toInt32 v1) - (Int64.toInt32 v1) / (10000 : Int32) * (10000 : Int32)) h12) else none) else none)
set_option maxRecDepth 20000 in
theorem l220_16_t {w : Option Nat} {d : Nat} {x0 : Option Nat} {x1 : Int64} {h : pm_H} {r : tm_O × pm_H} (hr : l220_16 w x0 x1 h = some r) : pm_to pt_P (pt_G (tm_r w)) (d + 8) (pt_g220, []) (tm_m (16, [(0, .inr (.inr x0)), (1, .inr (.inl x1))], [])) h (tm_e r) := by
  unfold l220_16 at hr
  refine tm_n 1 (F' := (17, [(0, .inr (.inr x0)), (1, .inr (.inl x1))], [.inr (.inl x1)])) rfl ?_
  rcases lb_J_s hr with ⟨v1, h2, m3, hr⟩ | ⟨a19, h2, z20, z20l, m3, qz20, rfl⟩
  · try dsimp only at hr
    refine tm_call rfl rfl (tm_callS rfl rfl) (lq_206 m3) ?_
    refine tm_n 3 (F' := (23, [(3, .inl (Int64.toInt32 v1)), (0, .inr (.inr x0)), (1, .inr (.inl x1))], [.inr (.inr x0)])) rfl ?_
    obtain ⟨v4, qv4, hr⟩ := Option.bind_eq_some_iff.mp hr
    refine tm_getf rfl (lf_R_V qv4) ?_
    refine tm_n 3 (F' := (31, [(3, .inl (Int64.toInt32 v1)), (0, .inr (.inr x0)), (1, .inr (.inl x1))], [.inl ((Int64.toInt32 v1) / (10000 : Int32)), .inr (.inr v4)])) rfl ?_
    by_cases c5 : lc_of h2 v4 = some 11
    · rw [if_pos c5] at hr
      rcases lb_R_s hr with ⟨v6, h7, m8, hr⟩ | ⟨a17, h7, z18, z18l, m8, qz18, rfl⟩
      · try dsimp only at hr
        refine tm_call rfl rfl (tm_callV rfl rfl c5 rfl rfl) (lq_58 m8) ?_
        refine tm_n 6 (F' := (44, [(4, .inl ((Int64.toInt32 v1) - (Int64.toInt32 v1) / (10000 : Int32) * (10000 : Int32))), (3, .inl (Int64.toInt32 v1)), (0, .inr (.inr x0)), (1, .inr (.inl x1))], [.inl ((Int64.toInt32 v1) - (Int64.toInt32 v1) / (10000 : Int32) * (10000 : Int32))])) rfl ?_
        by_cases c16 : ((Int64.toInt32 v1) - (Int64.toInt32 v1) / (10000 : Int32) * (10000 : Int32)) = (0 : Int32)
        · rw [if_pos c16] at hr
          refine tm_ifT rfl c16 ?_
          refine tm_cut (a := [(0, .inr (.inr x0)), (4, .inl ((Int64.toInt32 v1) - (Int64.toInt32 v1) / (10000 : Int32) * (10000 : Int32)))]) rfl (tm_sbs [2, 0] rfl) ?_
          exact l220_57_t hr
        · rw [if_neg c16] at hr
          refine tm_ifF rfl c16 ?_
          refine tm_n 1 (F' := (48, [(4, .inl ((Int64.toInt32 v1) - (Int64.toInt32 v1) / (10000 : Int32) * (10000 : Int32))), (3, .inl (Int64.toInt32 v1)), (0, .inr (.inr x0)), (1, .inr (.inl x1))], [.inr (.inr x0)])) rfl ?_
          obtain ⟨v9, qv9, hr⟩ := Option.bind_eq_some_iff.mp hr
          refine tm_getf rfl (lf_R_V qv9) ?_
          refine tm_n 1 (F' := (53, [(4, .inl ((Int64.toInt32 v1) - (Int64.toInt32 v1) / (10000 : Int32) * (10000 : Int32))), (3, .inl (Int64.toInt32 v1)), (0, .inr (.inr x0)), (1, .inr (.inl x1))], [.inl (46 : Int32), .inr (.inr v9)])) rfl ?_
          by_cases c10 : lc_of h7 v9 = some 11
          · rw [if_pos c10] at hr
            rcases lb_R_s hr with ⟨v11, h12, m13, hr⟩ | ⟨a14, h12, z15, z15l, m13, qz15, rfl⟩
            · try dsimp only at hr
              refine tm_call rfl rfl (tm_callV rfl rfl c10 rfl rfl) (lq_19 m13) ?_
              refine tm_n 1 (F' := (57, [(4, .inl ((Int64.toInt32 v1) - (Int64.toInt32 v1) / (10000 : Int32) * (10000 : Int32))), (3, .inl (Int64.toInt32 v1)), (0, .inr (.inr x0)), (1, .inr (.inl x1))], [])) rfl ?_
              refine tm_cut (a := [(0, .inr (.inr x0)), (4, .inl ((Int64.toInt32 v1) - (Int64.toInt32 v1) / (10000 : Int32) * (10000 : Int32)))]) rfl (tm_sbs [2, 0] rfl) ?_
              exact l220_57_t hr
            · exact tm_callT rfl rfl (tm_callV rfl rfl c10 rfl rfl) (lq_19 m13) qz15 rfl
          · rw [if_neg c10] at hr
            cases hr
      · exact tm_callT rfl rfl (tm_callV rfl rfl c5 rfl rfl) (lq_58 m8) qz18 rfl
    · rw [if_neg c5] at hr
      cases hr
  · exact tm_callT rfl rfl (tm_callS rfl rfl) (lq_206 m3) qz20 rfl
set_option maxRecDepth 20000 in
def ll_220 (w : Option Nat) (a0 : Option Nat) (a1 : Int64) (h : pm_H) : tm_L := if (0 : Int32) ≤ (lg_cmp a1 (0 : Int64)) then l220_16 w a0 a1 h else (lf_R h a0 [3, 0]).bind fun v1 => if lc_of h v1 = some 11 then lb_R (ll_19 w v1 (45 : Int32) h) (fun v3 h4 => l220_16 w a0 a1 h4) else none
set_option maxRecDepth 20000 in
theorem lq_220 {w : Option Nat} {d : Nat} {a0 : Option Nat} {a1 : Int64} {h : pm_H} {r : tm_O × pm_H} (hr : ll_220 w a0 a1 h = some r) : tm_run pt_P (pt_G (tm_r w)) (d + 8) 220 [.inr (.inr a0), .inr (.inl a1)] h r := by
  unfold ll_220 at hr
  show pm_to pt_P (pt_G (tm_r w)) (d + 8) (pt_g220, []) (tm_m (0, [(0, .inr (.inr a0)), (1, .inr (.inl a1))], [])) h (tm_e r)
  refine tm_n 3 (F' := (3, [(0, .inr (.inr a0)), (1, .inr (.inl a1))], [.inl (lg_cmp a1 (0 : Int64))])) rfl ?_
  by_cases c8 : (0 : Int32) ≤ (lg_cmp a1 (0 : Int64))
  · rw [if_pos c8] at hr
    refine tm_ifT rfl c8 ?_
    refine tm_cut (a := [(0, .inr (.inr a0)), (1, .inr (.inl a1))]) rfl (tm_sbs [0, 1] rfl) ?_
    exact l220_16_t hr
  · rw [if_neg c8] at hr
    refine tm_ifF rfl c8 ?_
    refine tm_n 1 (F' := (7, [(0, .inr (.inr a0)), (1, .inr (.inl a1))], [.inr (.inr a0)])) rfl ?_
    obtain ⟨v1, qv1, hr⟩ := Option.bind_eq_some_iff.mp hr
    refine tm_getf rfl (lf_R_V qv1) ?_
    refine tm_n 1 (F' := (12, [(0, .inr (.inr a0)), (1, .inr (.inl a1))], [.inl (45 : Int32), .inr (.inr v1)])) rfl ?_
    by_cases c2 : lc_of h v1 = some 11
    · rw [if_pos c2] at hr
      rcases lb_R_s hr with ⟨v3, h4, m5, hr⟩ | ⟨a6, h4, z7, z7l, m5, qz7, rfl⟩
      · try dsimp only at hr
        refine tm_call rfl rfl (tm_callV rfl rfl c2 rfl rfl) (lq_19 m5) ?_
        refine tm_n 1 (F' := (16, [(0, .inr (.inr a0)), (1, .inr (.inl a1))], [])) rfl ?_
        refine tm_cut (a := [(0, .inr (.inr a0)), (1, .inr (.inl a1))]) rfl (tm_sbs [0, 1] rfl) ?_
        exact l220_16_t hr
      · exact tm_callT rfl rfl (tm_callV rfl rfl c2 rfl rfl) (lq_19 m5) qz7 rfl
    · rw [if_neg c2] at hr
      cases hr
-- OfficeSheet$Writer.hasName(LOfficeSheet$Line;LOfficeSheet$Line;)Z
set_option maxRecDepth 20000 in
def ll_222 (a0 : Option Nat) (a1 : Option Nat) (a2 : Option Nat) (h : pm_H) : tm_L := (lf_R h a0 [3, 2]).bind fun v1 => if lc_of h v1 = some 5 then lb_I (ll_190 v1 a2 h) (fun v3 h4 => (lf_R h4 a0 [3, 1]).bind fun v6 => if lc_of h4 v6 = some 5 then lb_I (ll_190 v6 a1 h4) (fun v8 h9 => if v8 = (-1 : Int32) then some (.inl (some (.inl (0 : Int32))), h9) else if v3 = (-1 : Int32) then some (.inl (some (.inl (0 : Int32))), h9) else if (26 : Int32) ≤ v3 then some (.inl (some (.inl (0 : Int32))), h9) else some (.inl (some (.inl (1 : Int32))), h9)) else none) else none
set_option maxRecDepth 20000 in
theorem lq_222 {w : Option Nat} {d : Nat} {a0 : Option Nat} {a1 : Option Nat} {a2 : Option Nat} {h : pm_H} {r : tm_O × pm_H} (hr : ll_222 a0 a1 a2 h = some r) : tm_run pt_P (pt_G (tm_r w)) (d + 1) 222 [.inr (.inr a0), .inr (.inr a1), .inr (.inr a2)] h r := by
  unfold ll_222 at hr
  show pm_to pt_P (pt_G (tm_r w)) (d + 1) (pt_g222, []) (tm_m (0, [(0, .inr (.inr a0)), (1, .inr (.inr a1)), (2, .inr (.inr a2))], [])) h (tm_e r)
  refine tm_n 1 (F' := (1, [(0, .inr (.inr a0)), (1, .inr (.inr a1)), (2, .inr (.inr a2))], [.inr (.inr a0)])) rfl ?_
  obtain ⟨v1, qv1, hr⟩ := Option.bind_eq_some_iff.mp hr
  refine tm_getf rfl (lf_R_V qv1) ?_
  refine tm_n 1 (F' := (5, [(0, .inr (.inr a0)), (1, .inr (.inr a1)), (2, .inr (.inr a2))], [.inr (.inr a2), .inr (.inr v1)])) rfl ?_
  by_cases c2 : lc_of h v1 = some 5
  · rw [if_pos c2] at hr
    rcases lb_I_s hr with ⟨v3, h4, m5, hr⟩ | ⟨a16, h4, z17, z17l, m5, qz17, rfl⟩
    · try dsimp only at hr
      refine tm_call rfl rfl (tm_callV rfl rfl c2 rfl rfl) (lq_190 m5) ?_
      refine tm_n 2 (F' := (10, [(3, .inl v3), (0, .inr (.inr a0)), (1, .inr (.inr a1)), (2, .inr (.inr a2))], [.inr (.inr a0)])) rfl ?_
      obtain ⟨v6, qv6, hr⟩ := Option.bind_eq_some_iff.mp hr
      refine tm_getf rfl (lf_R_V qv6) ?_
      refine tm_n 1 (F' := (14, [(3, .inl v3), (0, .inr (.inr a0)), (1, .inr (.inr a1)), (2, .inr (.inr a2))], [.inr (.inr a1), .inr (.inr v6)])) rfl ?_
      by_cases c7 : lc_of h4 v6 = some 5
      · rw [if_pos c7] at hr
        rcases lb_I_s hr with ⟨v8, h9, m10, hr⟩ | ⟨a14, h9, z15, z15l, m10, qz15, rfl⟩
        · try dsimp only at hr
          refine tm_call rfl rfl (tm_callV rfl rfl c7 rfl rfl) (lq_190 m10) ?_
          refine tm_n 1 (F' := (18, [(3, .inl v3), (0, .inr (.inr a0)), (1, .inr (.inr a1)), (2, .inr (.inr a2))], [.inl (-1 : Int32), .inl v8])) rfl ?_
          by_cases c13 : v8 = (-1 : Int32)
          · rw [if_pos c13] at hr
            refine tm_icT rfl c13 ?_
            refine tm_n 1 (F' := (37, [(3, .inl v3), (0, .inr (.inr a0)), (1, .inr (.inr a1)), (2, .inr (.inr a2))], [.inl (0 : Int32)])) rfl ?_
            cases hr
            exact tm_retI rfl rfl
          · rw [if_neg c13] at hr
            refine tm_icF rfl c13 ?_
            refine tm_n 2 (F' := (23, [(3, .inl v3), (0, .inr (.inr a0)), (1, .inr (.inr a1)), (2, .inr (.inr a2))], [.inl (-1 : Int32), .inl v3])) rfl ?_
            by_cases c12 : v3 = (-1 : Int32)
            · rw [if_pos c12] at hr
              refine tm_icT rfl c12 ?_
              refine tm_n 1 (F' := (37, [(3, .inl v3), (0, .inr (.inr a0)), (1, .inr (.inr a1)), (2, .inr (.inr a2))], [.inl (0 : Int32)])) rfl ?_
              cases hr
              exact tm_retI rfl rfl
            · rw [if_neg c12] at hr
              refine tm_icF rfl c12 ?_
              refine tm_n 2 (F' := (29, [(3, .inl v3), (0, .inr (.inr a0)), (1, .inr (.inr a1)), (2, .inr (.inr a2))], [.inl (26 : Int32), .inl v3])) rfl ?_
              by_cases c11 : (26 : Int32) ≤ v3
              · rw [if_pos c11] at hr
                refine tm_icT rfl c11 ?_
                refine tm_n 1 (F' := (37, [(3, .inl v3), (0, .inr (.inr a0)), (1, .inr (.inr a1)), (2, .inr (.inr a2))], [.inl (0 : Int32)])) rfl ?_
                cases hr
                exact tm_retI rfl rfl
              · rw [if_neg c11] at hr
                refine tm_icF rfl c11 ?_
                refine tm_n 2 (F' := (37, [(3, .inl v3), (0, .inr (.inr a0)), (1, .inr (.inr a1)), (2, .inr (.inr a2))], [.inl (1 : Int32)])) rfl ?_
                cases hr
                exact tm_retI rfl rfl
        · exact tm_callT rfl rfl (tm_callV rfl rfl c7 rfl rfl) (lq_190 m10) qz15 rfl
      · rw [if_neg c7] at hr
        cases hr
    · exact tm_callT rfl rfl (tm_callV rfl rfl c2 rfl rfl) (lq_190 m5) qz17 rfl
  · rw [if_neg c2] at hr
    cases hr
-- OfficeSheet$Writer.writeName(LOfficeSheet$Line;LOfficeSheet$Line;)V
set_option maxRecDepth 20000 in
def ll_223 (w : Option Nat) (a0 : Option Nat) (a1 : Option Nat) (a2 : Option Nat) (h : pm_H) : tm_L := (lf_R h a0 [3, 0]).bind fun v1 => (lf_R h a0 [3, 2]).bind fun v2 => if lc_of h v2 = some 5 then lb_I (ll_190 v2 a2 h) (fun v4 h5 => if lc_of h5 v1 = some 11 then lb_R (ll_19 w v1 (UInt32.toInt32 (Int32.toUInt32 ((65 : Int32) + v4) % 65536)) h5) (fun v8 h9 => (lf_R h9 a0 [3, 0]).bind fun v11 => (lf_R h9 a0 [3, 1]).bind fun v12 => if lc_of h9 v12 = some 5 then lb_I (ll_190 v12 a1 h9) (fun v14 h15 => if lc_of h15 v11 = some 11 then lb_R (ll_58 w v11 (v14 + (1 : Int32)) h15) (fun v18 h19 => some (.inl none, h19)) else none) else none) else none) else none
set_option maxRecDepth 20000 in
theorem lq_223 {w : Option Nat} {d : Nat} {a0 : Option Nat} {a1 : Option Nat} {a2 : Option Nat} {h : pm_H} {r : tm_O × pm_H} (hr : ll_223 w a0 a1 a2 h = some r) : tm_run pt_P (pt_G (tm_r w)) (d + 8) 223 [.inr (.inr a0), .inr (.inr a1), .inr (.inr a2)] h r := by
  unfold ll_223 at hr
  show pm_to pt_P (pt_G (tm_r w)) (d + 8) (pt_g223, []) (tm_m (0, [(0, .inr (.inr a0)), (1, .inr (.inr a1)), (2, .inr (.inr a2))], [])) h (tm_e r)
  refine tm_n 1 (F' := (1, [(0, .inr (.inr a0)), (1, .inr (.inr a1)), (2, .inr (.inr a2))], [.inr (.inr a0)])) rfl ?_
  obtain ⟨v1, qv1, hr⟩ := Option.bind_eq_some_iff.mp hr
  refine tm_getf rfl (lf_R_V qv1) ?_
  refine tm_n 2 (F' := (7, [(0, .inr (.inr a0)), (1, .inr (.inr a1)), (2, .inr (.inr a2))], [.inr (.inr a0), .inl (65 : Int32), .inr (.inr v1)])) rfl ?_
  obtain ⟨v2, qv2, hr⟩ := Option.bind_eq_some_iff.mp hr
  refine tm_getf rfl (lf_R_V qv2) ?_
  refine tm_n 1 (F' := (11, [(0, .inr (.inr a0)), (1, .inr (.inr a1)), (2, .inr (.inr a2))], [.inr (.inr a2), .inr (.inr v2), .inl (65 : Int32), .inr (.inr v1)])) rfl ?_
  by_cases c3 : lc_of h v2 = some 5
  · rw [if_pos c3] at hr
    rcases lb_I_s hr with ⟨v4, h5, m6, hr⟩ | ⟨a27, h5, z28, z28l, m6, qz28, rfl⟩
    · try dsimp only at hr
      refine tm_call rfl rfl (tm_callV rfl rfl c3 rfl rfl) (lq_190 m6) ?_
      refine tm_n 2 (F' := (16, [(0, .inr (.inr a0)), (1, .inr (.inr a1)), (2, .inr (.inr a2))], [.inl (UInt32.toInt32 (Int32.toUInt32 ((65 : Int32) + v4) % 65536)), .inr (.inr v1)])) rfl ?_
      by_cases c7 : lc_of h5 v1 = some 11
      · rw [if_pos c7] at hr
        rcases lb_R_s hr with ⟨v8, h9, m10, hr⟩ | ⟨a25, h9, z26, z26l, m10, qz26, rfl⟩
        · try dsimp only at hr
          refine tm_call rfl rfl (tm_callV rfl rfl c7 rfl rfl) (lq_19 m10) ?_
          refine tm_n 2 (F' := (21, [(0, .inr (.inr a0)), (1, .inr (.inr a1)), (2, .inr (.inr a2))], [.inr (.inr a0)])) rfl ?_
          obtain ⟨v11, qv11, hr⟩ := Option.bind_eq_some_iff.mp hr
          refine tm_getf rfl (lf_R_V qv11) ?_
          refine tm_n 1 (F' := (25, [(0, .inr (.inr a0)), (1, .inr (.inr a1)), (2, .inr (.inr a2))], [.inr (.inr a0), .inr (.inr v11)])) rfl ?_
          obtain ⟨v12, qv12, hr⟩ := Option.bind_eq_some_iff.mp hr
          refine tm_getf rfl (lf_R_V qv12) ?_
          refine tm_n 1 (F' := (29, [(0, .inr (.inr a0)), (1, .inr (.inr a1)), (2, .inr (.inr a2))], [.inr (.inr a1), .inr (.inr v12), .inr (.inr v11)])) rfl ?_
          by_cases c13 : lc_of h9 v12 = some 5
          · rw [if_pos c13] at hr
            rcases lb_I_s hr with ⟨v14, h15, m16, hr⟩ | ⟨a23, h15, z24, z24l, m16, qz24, rfl⟩
            · try dsimp only at hr
              refine tm_call rfl rfl (tm_callV rfl rfl c13 rfl rfl) (lq_190 m16) ?_
              refine tm_n 2 (F' := (34, [(0, .inr (.inr a0)), (1, .inr (.inr a1)), (2, .inr (.inr a2))], [.inl (v14 + (1 : Int32)), .inr (.inr v11)])) rfl ?_
              by_cases c17 : lc_of h15 v11 = some 11
              · rw [if_pos c17] at hr
                rcases lb_R_s hr with ⟨v18, h19, m20, hr⟩ | ⟨a21, h19, z22, z22l, m20, qz22, rfl⟩
                · try dsimp only at hr
                  refine tm_call rfl rfl (tm_callV rfl rfl c17 rfl rfl) (lq_58 m20) ?_
                  refine tm_n 1 (F' := (38, [(0, .inr (.inr a0)), (1, .inr (.inr a1)), (2, .inr (.inr a2))], [])) rfl ?_
                  cases hr
                  exact tm_retV rfl
                · exact tm_callT rfl rfl (tm_callV rfl rfl c17 rfl rfl) (lq_58 m20) qz22 rfl
              · rw [if_neg c17] at hr
                cases hr
            · exact tm_callT rfl rfl (tm_callV rfl rfl c13 rfl rfl) (lq_190 m16) qz24 rfl
          · rw [if_neg c13] at hr
            cases hr
        · exact tm_callT rfl rfl (tm_callV rfl rfl c7 rfl rfl) (lq_19 m10) qz26 rfl
      · rw [if_neg c7] at hr
        cases hr
    · exact tm_callT rfl rfl (tm_callV rfl rfl c3 rfl rfl) (lq_190 m6) qz28 rfl
  · rw [if_neg c3] at hr
    cases hr
-- OfficeSheet$Writer.writeReference(LOfficeSheet$Part;)V
set_option maxRecDepth 20000 in
def ll_221 (w : Option Nat) (a0 : Option Nat) (a1 : Option Nat) (h : pm_H) : tm_L := (lf_R h a1 [9, 4]).bind fun v1 => (lf_R h a1 [9, 5]).bind fun v2 => if lc_of h a0 = some 3 then lb_I (ll_222 a0 v1 v2 h) (fun v4 h5 => if v4 = (0 : Int32) then (lf_R h5 a0 [3, 0]).bind fun v7 => if lc_of h5 v7 = some 11 then lb_R (ll_19 w v7 (35 : Int32) h5) (fun v9 h10 => some (.inl none, h10)) else none else (lf_R h5 a1 [9, 4]).bind fun v14 => (lf_R h5 a1 [9, 5]).bind fun v15 => if lc_of h5 a0 = some 3 then lb_V (ll_223 w a0 v14 v15 h5) (fun h18 => some (.inl none, h18)) else none) else none
set_option maxRecDepth 20000 in
theorem lq_221 {w : Option Nat} {d : Nat} {a0 : Option Nat} {a1 : Option Nat} {h : pm_H} {r : tm_O × pm_H} (hr : ll_221 w a0 a1 h = some r) : tm_run pt_P (pt_G (tm_r w)) (d + 9) 221 [.inr (.inr a0), .inr (.inr a1)] h r := by
  unfold ll_221 at hr
  show pm_to pt_P (pt_G (tm_r w)) (d + 9) (pt_g221, []) (tm_m (0, [(0, .inr (.inr a0)), (1, .inr (.inr a1))], [])) h (tm_e r)
  refine tm_n 2 (F' := (2, [(0, .inr (.inr a0)), (1, .inr (.inr a1))], [.inr (.inr a1), .inr (.inr a0)])) rfl ?_
  obtain ⟨v1, qv1, hr⟩ := Option.bind_eq_some_iff.mp hr
  refine tm_getf rfl (lf_R_V qv1) ?_
  refine tm_n 1 (F' := (6, [(0, .inr (.inr a0)), (1, .inr (.inr a1))], [.inr (.inr a1), .inr (.inr v1), .inr (.inr a0)])) rfl ?_
  obtain ⟨v2, qv2, hr⟩ := Option.bind_eq_some_iff.mp hr
  refine tm_getf rfl (lf_R_V qv2) ?_
  by_cases c3 : lc_of h a0 = some 3
  · rw [if_pos c3] at hr
    rcases lb_I_s hr with ⟨v4, h5, m6, hr⟩ | ⟨a23, h5, z24, z24l, m6, qz24, rfl⟩
    · try dsimp only at hr
      refine tm_call rfl rfl (tm_callV rfl rfl c3 rfl rfl) (lq_222 m6) ?_
      by_cases c22 : v4 = (0 : Int32)
      · rw [if_pos c22] at hr
        refine tm_ifT rfl c22 ?_
        refine tm_n 1 (F' := (31, [(0, .inr (.inr a0)), (1, .inr (.inr a1))], [.inr (.inr a0)])) rfl ?_
        obtain ⟨v7, qv7, hr⟩ := Option.bind_eq_some_iff.mp hr
        refine tm_getf rfl (lf_R_V qv7) ?_
        refine tm_n 1 (F' := (36, [(0, .inr (.inr a0)), (1, .inr (.inr a1))], [.inl (35 : Int32), .inr (.inr v7)])) rfl ?_
        by_cases c8 : lc_of h5 v7 = some 11
        · rw [if_pos c8] at hr
          rcases lb_R_s hr with ⟨v9, h10, m11, hr⟩ | ⟨a12, h10, z13, z13l, m11, qz13, rfl⟩
          · try dsimp only at hr
            refine tm_call rfl rfl (tm_callV rfl rfl c8 rfl rfl) (lq_19 m11) ?_
            refine tm_n 1 (F' := (40, [(0, .inr (.inr a0)), (1, .inr (.inr a1))], [])) rfl ?_
            cases hr
            exact tm_retV rfl
          · exact tm_callT rfl rfl (tm_callV rfl rfl c8 rfl rfl) (lq_19 m11) qz13 rfl
        · rw [if_neg c8] at hr
          cases hr
      · rw [if_neg c22] at hr
        refine tm_ifF rfl c22 ?_
        refine tm_n 2 (F' := (17, [(0, .inr (.inr a0)), (1, .inr (.inr a1))], [.inr (.inr a1), .inr (.inr a0)])) rfl ?_
        obtain ⟨v14, qv14, hr⟩ := Option.bind_eq_some_iff.mp hr
        refine tm_getf rfl (lf_R_V qv14) ?_
        refine tm_n 1 (F' := (21, [(0, .inr (.inr a0)), (1, .inr (.inr a1))], [.inr (.inr a1), .inr (.inr v14), .inr (.inr a0)])) rfl ?_
        obtain ⟨v15, qv15, hr⟩ := Option.bind_eq_some_iff.mp hr
        refine tm_getf rfl (lf_R_V qv15) ?_
        by_cases c16 : lc_of h5 a0 = some 3
        · rw [if_pos c16] at hr
          rcases lb_V_s hr with ⟨h18, m19, hr⟩ | ⟨a20, h18, z21, z21l, m19, qz21, rfl⟩
          · try dsimp only at hr
            refine tm_call rfl rfl (tm_callV rfl rfl c16 rfl rfl) (lq_223 m19) ?_
            refine tm_n 1 (F' := (40, [(0, .inr (.inr a0)), (1, .inr (.inr a1))], [])) rfl ?_
            cases hr
            exact tm_retV rfl
          · exact tm_callT rfl rfl (tm_callV rfl rfl c16 rfl rfl) (lq_223 m19) qz21 rfl
        · rw [if_neg c16] at hr
          cases hr
    · exact tm_callT rfl rfl (tm_callV rfl rfl c3 rfl rfl) (lq_222 m6) qz24 rfl
  · rw [if_neg c3] at hr
    cases hr
