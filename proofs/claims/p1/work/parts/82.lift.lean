/-! lifted: 281, 280, 279, 299, 301, 300, 303, 304, 307, 306, 308, 309, 310, 312, 311, 305 -/
-- OfficeSheetModel.workOut(I)V
set_option maxRecDepth 20000 in
def l281_130 (K92 : Option Nat → Int32 → pm_H → tm_L) (x0 : Option Nat) (x2 : Int32) (s0 : Int64) (s1 : Int32) (s2 : Option Nat) (h : pm_H) : tm_L := (la_S pt_P h .lastore s2 s1 (.inr (.inl s0))).bind fun h1 => K92 x0 (x2 + (1 : Int32)) h1
set_option maxRecDepth 20000 in
theorem l281_130_t {w : Option Nat} {d : Nat} {K92 : Option Nat → Int32 → pm_H → tm_L} (hK92 : ∀ {x0 : Option Nat} {x2 : Int32}  {h : pm_H} {r : tm_O × pm_H}, K92 x0 x2 h = some r → pm_to pt_P (pt_G (tm_r w)) (d + 6) (pt_g281, []) (tm_m (92, [(0, .inr (.inr x0)), (2, .inl x2)], [])) h (tm_e r)) {x0 : Option Nat} {x2 : Int32} {s0 : Int64} {s1 : Int32} {s2 : Option Nat} {h : pm_H} {r : tm_O × pm_H} (hr : l281_130 K92 x0 x2 s0 s1 s2 h = some r) : pm_to pt_P (pt_G (tm_r w)) (d + 6) (pt_g281, []) (tm_m (130, [(0, .inr (.inr x0)), (2, .inl x2)], [.inr (.inl s0), .inl s1, .inr (.inr s2)])) h (tm_e r) := by
  unfold l281_130 at hr
  obtain ⟨h1, qh1, hr⟩ := Option.bind_eq_some_iff.mp hr
  refine tm_ast rfl rfl qh1 ?_
  refine tm_n 2 (F' := (92, [(2, .inl (x2 + (1 : Int32))), (0, .inr (.inr x0))], [])) rfl ?_
  refine tm_cut (a := [(0, .inr (.inr x0)), (2, .inl (x2 + (1 : Int32)))]) rfl (tm_sbs [1, 0] rfl) ?_
  exact hK92 hr
set_option maxRecDepth 20000 in
def l281_92 : Nat → Option Nat → Int32 → pm_H → tm_L
  | 0 => fun _ _ _ => none
  | n + 1 => fun x0 x2 h => (lf_I h x0 [10, 32]).bind fun v1 => if v1 ≤ x2 then some (.inl none, h) else (lf_R h x0 [10, 37]).bind fun v2 => (lf_R h x0 [10, 36]).bind fun v3 => (la_I h .iaload v3 x2).bind fun v4 => (lf_I h x0 [10, 32]).bind fun v5 => if v4 ≤ v5 then (lf_R h x0 [10, 37]).bind fun v6 => (la_J h .laload v6 x2).bind fun v7 => l281_130 (l281_92 n) x0 x2 v7 x2 v2 h else l281_130 (l281_92 n) x0 x2 (4000000003 : Int64) x2 v2 h
set_option maxRecDepth 20000 in
theorem l281_92_t {w : Option Nat} {d : Nat} : ∀ (n : Nat) {x0 : Option Nat} {x2 : Int32} {h : pm_H} {r : tm_O × pm_H}, l281_92 n x0 x2 h = some r → pm_to pt_P (pt_G (tm_r w)) (d + 6) (pt_g281, []) (tm_m (92, [(0, .inr (.inr x0)), (2, .inl x2)], [])) h (tm_e r) := by
  intro n
  induction n with
  | zero => intro x0 x2 h r hr; cases hr
  | succ n ih =>
    intro x0 x2 h r hr
    unfold l281_92 at hr
    refine tm_n 2 (F' := (94, [(0, .inr (.inr x0)), (2, .inl x2)], [.inr (.inr x0), .inl x2])) rfl ?_
    obtain ⟨v1, qv1, hr⟩ := Option.bind_eq_some_iff.mp hr
    refine tm_getf rfl (lf_I_V qv1) ?_
    by_cases c9 : v1 ≤ x2
    · rw [if_pos c9] at hr
      refine tm_icT rfl c9 ?_
      cases hr
      exact tm_retV rfl
    · rw [if_neg c9] at hr
      refine tm_icF rfl c9 ?_
      refine tm_n 1 (F' := (101, [(0, .inr (.inr x0)), (2, .inl x2)], [.inr (.inr x0)])) rfl ?_
      obtain ⟨v2, qv2, hr⟩ := Option.bind_eq_some_iff.mp hr
      refine tm_getf rfl (lf_R_V qv2) ?_
      refine tm_n 2 (F' := (106, [(0, .inr (.inr x0)), (2, .inl x2)], [.inr (.inr x0), .inl x2, .inr (.inr v2)])) rfl ?_
      obtain ⟨v3, qv3, hr⟩ := Option.bind_eq_some_iff.mp hr
      refine tm_getf rfl (lf_R_V qv3) ?_
      refine tm_n 1 (F' := (110, [(0, .inr (.inr x0)), (2, .inl x2)], [.inl x2, .inr (.inr v3), .inl x2, .inr (.inr v2)])) rfl ?_
      obtain ⟨v4, qv4, hr⟩ := Option.bind_eq_some_iff.mp hr
      refine tm_ald rfl rfl (la_I_V qv4) ?_
      refine tm_n 1 (F' := (112, [(0, .inr (.inr x0)), (2, .inl x2)], [.inr (.inr x0), .inl v4, .inl x2, .inr (.inr v2)])) rfl ?_
      obtain ⟨v5, qv5, hr⟩ := Option.bind_eq_some_iff.mp hr
      refine tm_getf rfl (lf_I_V qv5) ?_
      by_cases c8 : v4 ≤ v5
      · rw [if_pos c8] at hr
        refine tm_icT rfl c8 ?_
        refine tm_n 1 (F' := (125, [(0, .inr (.inr x0)), (2, .inl x2)], [.inr (.inr x0), .inl x2, .inr (.inr v2)])) rfl ?_
        obtain ⟨v6, qv6, hr⟩ := Option.bind_eq_some_iff.mp hr
        refine tm_getf rfl (lf_R_V qv6) ?_
        refine tm_n 1 (F' := (129, [(0, .inr (.inr x0)), (2, .inl x2)], [.inl x2, .inr (.inr v6), .inl x2, .inr (.inr v2)])) rfl ?_
        obtain ⟨v7, qv7, hr⟩ := Option.bind_eq_some_iff.mp hr
        refine tm_ald rfl rfl (la_J_V qv7) ?_
        refine tm_cut (a := [(0, .inr (.inr x0)), (2, .inl x2)]) rfl (tm_sbs [0, 1] rfl) ?_
        exact l281_130_t (fun hr => ih hr) hr
      · rw [if_neg c8] at hr
        refine tm_icF rfl c8 ?_
        refine tm_n 2 (F' := (130, [(0, .inr (.inr x0)), (2, .inl x2)], [.inr (.inl (4000000003 : Int64)), .inl x2, .inr (.inr v2)])) rfl ?_
        refine tm_cut (a := [(0, .inr (.inr x0)), (2, .inl x2)]) rfl (tm_sbs [0, 1] rfl) ?_
        exact l281_130_t (fun hr => ih hr) hr
set_option maxRecDepth 20000 in
def l281_78 (K26 : Option Nat → Int32 → Int32 → pm_H → tm_L) (K36 : Option Nat → Int32 → Int32 → Int32 → pm_H → tm_L) (x0 : Option Nat) (x1 : Int32) (x2 : Int32) (x3 : Int32) (h : pm_H) : tm_L := K36 x0 x1 x2 (x3 + (1 : Int32)) h
set_option maxRecDepth 20000 in
theorem l281_78_t {w : Option Nat} {d : Nat} {K26 : Option Nat → Int32 → Int32 → pm_H → tm_L} {K36 : Option Nat → Int32 → Int32 → Int32 → pm_H → tm_L} (hK26 : ∀ {x0 : Option Nat} {x1 : Int32} {x2 : Int32}  {h : pm_H} {r : tm_O × pm_H}, K26 x0 x1 x2 h = some r → pm_to pt_P (pt_G (tm_r w)) (d + 6) (pt_g281, []) (tm_m (26, [(0, .inr (.inr x0)), (1, .inl x1), (2, .inl x2)], [])) h (tm_e r)) (hK36 : ∀ {x0 : Option Nat} {x1 : Int32} {x2 : Int32} {x3 : Int32}  {h : pm_H} {r : tm_O × pm_H}, K36 x0 x1 x2 x3 h = some r → pm_to pt_P (pt_G (tm_r w)) (d + 6) (pt_g281, []) (tm_m (36, [(0, .inr (.inr x0)), (1, .inl x1), (2, .inl x2), (3, .inl x3)], [])) h (tm_e r)) {x0 : Option Nat} {x1 : Int32} {x2 : Int32} {x3 : Int32} {h : pm_H} {r : tm_O × pm_H} (hr : l281_78 K26 K36 x0 x1 x2 x3 h = some r) : pm_to pt_P (pt_G (tm_r w)) (d + 6) (pt_g281, []) (tm_m (78, [(0, .inr (.inr x0)), (1, .inl x1), (2, .inl x2), (3, .inl x3)], [])) h (tm_e r) := by
  unfold l281_78 at hr
  refine tm_n 2 (F' := (36, [(3, .inl (x3 + (1 : Int32))), (0, .inr (.inr x0)), (1, .inl x1), (2, .inl x2)], [])) rfl ?_
  refine tm_cut (a := [(0, .inr (.inr x0)), (1, .inl x1), (2, .inl x2), (3, .inl (x3 + (1 : Int32)))]) rfl (tm_sbs [1, 2, 3, 0] rfl) ?_
  exact hK36 hr
set_option maxRecDepth 20000 in
def l281_36 (K26 : Option Nat → Int32 → Int32 → pm_H → tm_L) : Nat → Option Nat → Int32 → Int32 → Int32 → pm_H → tm_L
  | 0 => fun _ _ _ _ _ => none
  | n + 1 => fun x0 x1 x2 x3 h => (lf_I h x0 [10, 32]).bind fun v1 => if v1 ≤ x3 then K26 x0 x1 (x2 + (1 : Int32)) h else (lf_R h x0 [10, 36]).bind fun v2 => (la_I h .iaload v2 x3).bind fun v3 => if v3 = x2 then if lc_of h x0 = some 10 then lb_I (ll_285 x0 x3 h) (fun v5 h6 => if v5 < (0 : Int32) then l281_78 K26 (l281_36 K26 n) x0 x1 x2 x3 h6 else (lf_R h6 x0 [10, 37]).bind fun v8 => if lc_of h6 x0 = some 10 then lb_I (ll_285 x0 x3 h6) (fun v10 h11 => if lc_of h11 x0 = some 10 then lb_J (ll_293 x0 x1 v10 h11) (fun v14 h15 => (la_S pt_P h15 .lastore v8 x3 (.inr (.inl v14))).bind fun h17 => l281_78 K26 (l281_36 K26 n) x0 x1 x2 x3 h17) else none) else none) else none else l281_78 K26 (l281_36 K26 n) x0 x1 x2 x3 h
set_option maxRecDepth 20000 in
theorem l281_36_t {w : Option Nat} {d : Nat} {K26 : Option Nat → Int32 → Int32 → pm_H → tm_L} (hK26 : ∀ {x0 : Option Nat} {x1 : Int32} {x2 : Int32}  {h : pm_H} {r : tm_O × pm_H}, K26 x0 x1 x2 h = some r → pm_to pt_P (pt_G (tm_r w)) (d + 6) (pt_g281, []) (tm_m (26, [(0, .inr (.inr x0)), (1, .inl x1), (2, .inl x2)], [])) h (tm_e r)) : ∀ (n : Nat) {x0 : Option Nat} {x1 : Int32} {x2 : Int32} {x3 : Int32} {h : pm_H} {r : tm_O × pm_H}, l281_36 K26 n x0 x1 x2 x3 h = some r → pm_to pt_P (pt_G (tm_r w)) (d + 6) (pt_g281, []) (tm_m (36, [(0, .inr (.inr x0)), (1, .inl x1), (2, .inl x2), (3, .inl x3)], [])) h (tm_e r) := by
  intro n
  induction n with
  | zero => intro x0 x1 x2 x3 h r hr; cases hr
  | succ n ih =>
    intro x0 x1 x2 x3 h r hr
    unfold l281_36 at hr
    refine tm_n 2 (F' := (38, [(0, .inr (.inr x0)), (1, .inl x1), (2, .inl x2), (3, .inl x3)], [.inr (.inr x0), .inl x3])) rfl ?_
    obtain ⟨v1, qv1, hr⟩ := Option.bind_eq_some_iff.mp hr
    refine tm_getf rfl (lf_I_V qv1) ?_
    by_cases c26 : v1 ≤ x3
    · rw [if_pos c26] at hr
      refine tm_icT rfl c26 ?_
      refine tm_n 2 (F' := (26, [(2, .inl (x2 + (1 : Int32))), (0, .inr (.inr x0)), (1, .inl x1), (3, .inl x3)], [])) rfl ?_
      refine tm_cut (a := [(0, .inr (.inr x0)), (1, .inl x1), (2, .inl (x2 + (1 : Int32)))]) rfl (tm_sbs [1, 2, 0] rfl) ?_
      exact hK26 hr
    · rw [if_neg c26] at hr
      refine tm_icF rfl c26 ?_
      refine tm_n 1 (F' := (45, [(0, .inr (.inr x0)), (1, .inl x1), (2, .inl x2), (3, .inl x3)], [.inr (.inr x0)])) rfl ?_
      obtain ⟨v2, qv2, hr⟩ := Option.bind_eq_some_iff.mp hr
      refine tm_getf rfl (lf_R_V qv2) ?_
      refine tm_n 1 (F' := (49, [(0, .inr (.inr x0)), (1, .inl x1), (2, .inl x2), (3, .inl x3)], [.inl x3, .inr (.inr v2)])) rfl ?_
      obtain ⟨v3, qv3, hr⟩ := Option.bind_eq_some_iff.mp hr
      refine tm_ald rfl rfl (la_I_V qv3) ?_
      refine tm_n 1 (F' := (51, [(0, .inr (.inr x0)), (1, .inl x1), (2, .inl x2), (3, .inl x3)], [.inl x2, .inl v3])) rfl ?_
      by_cases c25 : v3 = x2
      · rw [if_pos c25] at hr
        refine tm_icF rfl (fun q => q c25) ?_
        refine tm_n 2 (F' := (56, [(0, .inr (.inr x0)), (1, .inl x1), (2, .inl x2), (3, .inl x3)], [.inl x3, .inr (.inr x0)])) rfl ?_
        by_cases c4 : lc_of h x0 = some 10
        · rw [if_pos c4] at hr
          rcases lb_I_s hr with ⟨v5, h6, m7, hr⟩ | ⟨a23, h6, z24, z24l, m7, qz24, rfl⟩
          · try dsimp only at hr
            refine tm_call rfl rfl (tm_callV rfl rfl c4 rfl rfl) (lq_285 m7) ?_
            by_cases c22 : v5 < (0 : Int32)
            · rw [if_pos c22] at hr
              refine tm_ifT rfl c22 ?_
              refine tm_cut (a := [(0, .inr (.inr x0)), (1, .inl x1), (2, .inl x2), (3, .inl x3)]) rfl (tm_sbs [0, 1, 2, 3] rfl) ?_
              exact l281_78_t hK26 (fun hr => ih hr) hr
            · rw [if_neg c22] at hr
              refine tm_ifF rfl c22 ?_
              refine tm_n 1 (F' := (63, [(0, .inr (.inr x0)), (1, .inl x1), (2, .inl x2), (3, .inl x3)], [.inr (.inr x0)])) rfl ?_
              obtain ⟨v8, qv8, hr⟩ := Option.bind_eq_some_iff.mp hr
              refine tm_getf rfl (lf_R_V qv8) ?_
              refine tm_n 5 (F' := (71, [(0, .inr (.inr x0)), (1, .inl x1), (2, .inl x2), (3, .inl x3)], [.inl x3, .inr (.inr x0), .inl x1, .inr (.inr x0), .inl x3, .inr (.inr v8)])) rfl ?_
              by_cases c9 : lc_of h6 x0 = some 10
              · rw [if_pos c9] at hr
                rcases lb_I_s hr with ⟨v10, h11, m12, hr⟩ | ⟨a20, h11, z21, z21l, m12, qz21, rfl⟩
                · try dsimp only at hr
                  refine tm_call rfl rfl (tm_callV rfl rfl c9 rfl rfl) (lq_285 m12) ?_
                  by_cases c13 : lc_of h11 x0 = some 10
                  · rw [if_pos c13] at hr
                    rcases lb_J_s hr with ⟨v14, h15, m16, hr⟩ | ⟨a18, h15, z19, z19l, m16, qz19, rfl⟩
                    · try dsimp only at hr
                      refine tm_call rfl rfl (tm_callV rfl rfl c13 rfl rfl) (lq_293 m16) ?_
                      obtain ⟨h17, qh17, hr⟩ := Option.bind_eq_some_iff.mp hr
                      refine tm_ast rfl rfl qh17 ?_
                      refine tm_cut (a := [(0, .inr (.inr x0)), (1, .inl x1), (2, .inl x2), (3, .inl x3)]) rfl (tm_sbs [0, 1, 2, 3] rfl) ?_
                      exact l281_78_t hK26 (fun hr => ih hr) hr
                    · exact tm_callT rfl rfl (tm_callV rfl rfl c13 rfl rfl) (lq_293 m16) qz19 rfl
                  · rw [if_neg c13] at hr
                    cases hr
                · exact tm_callT rfl rfl (tm_callV rfl rfl c9 rfl rfl) (lq_285 m12) qz21 rfl
              · rw [if_neg c9] at hr
                cases hr
          · exact tm_callT rfl rfl (tm_callV rfl rfl c4 rfl rfl) (lq_285 m7) qz24 rfl
        · rw [if_neg c4] at hr
          cases hr
      · rw [if_neg c25] at hr
        refine tm_icT rfl c25 ?_
        refine tm_cut (a := [(0, .inr (.inr x0)), (1, .inl x1), (2, .inl x2), (3, .inl x3)]) rfl (tm_sbs [0, 1, 2, 3] rfl) ?_
        exact l281_78_t hK26 (fun hr => ih hr) hr
set_option maxRecDepth 20000 in
def l281_26 : Nat → Option Nat → Int32 → Int32 → pm_H → tm_L
  | 0 => fun _ _ _ _ => none
  | n + 1 => fun x0 x1 x2 h => (lf_I h x0 [10, 32]).bind fun v1 => if v1 < x2 then l281_92 lf_N x0 (0 : Int32) h else l281_36 (l281_26 n) lf_N x0 x1 x2 (0 : Int32) h
set_option maxRecDepth 20000 in
theorem l281_26_t {w : Option Nat} {d : Nat} : ∀ (n : Nat) {x0 : Option Nat} {x1 : Int32} {x2 : Int32} {h : pm_H} {r : tm_O × pm_H}, l281_26 n x0 x1 x2 h = some r → pm_to pt_P (pt_G (tm_r w)) (d + 6) (pt_g281, []) (tm_m (26, [(0, .inr (.inr x0)), (1, .inl x1), (2, .inl x2)], [])) h (tm_e r) := by
  intro n
  induction n with
  | zero => intro x0 x1 x2 h r hr; cases hr
  | succ n ih =>
    intro x0 x1 x2 h r hr
    unfold l281_26 at hr
    refine tm_n 2 (F' := (28, [(0, .inr (.inr x0)), (1, .inl x1), (2, .inl x2)], [.inr (.inr x0), .inl x2])) rfl ?_
    obtain ⟨v1, qv1, hr⟩ := Option.bind_eq_some_iff.mp hr
    refine tm_getf rfl (lf_I_V qv1) ?_
    by_cases c2 : v1 < x2
    · rw [if_pos c2] at hr
      refine tm_icT rfl c2 ?_
      refine tm_n 2 (F' := (92, [(2, .inl (0 : Int32)), (0, .inr (.inr x0)), (1, .inl x1)], [])) rfl ?_
      refine tm_cut (a := [(0, .inr (.inr x0)), (2, .inl (0 : Int32))]) rfl (tm_sbs [1, 0] rfl) ?_
      exact l281_92_t lf_N hr
    · rw [if_neg c2] at hr
      refine tm_icF rfl c2 ?_
      refine tm_n 2 (F' := (36, [(3, .inl (0 : Int32)), (0, .inr (.inr x0)), (1, .inl x1), (2, .inl x2)], [])) rfl ?_
      refine tm_cut (a := [(0, .inr (.inr x0)), (1, .inl x1), (2, .inl x2), (3, .inl (0 : Int32))]) rfl (tm_sbs [1, 2, 3, 0] rfl) ?_
      exact l281_36_t (fun hr => ih hr) lf_N hr
set_option maxRecDepth 20000 in
def ll_281 (a0 : Option Nat) (a1 : Int32) (h : pm_H) : tm_L := (lf_I h a0 [10, 31]).bind fun v1 => if v1 = a1 then some (.inl none, h) else (lf_P 81 h a0 [0, 10, 31] (.inl a1)).bind fun h2 => if lc_of h2 a0 = some 10 then lb_V (ll_282 a0 a1 h2) (fun h5 => if lc_of h5 a0 = some 10 then lb_V (ll_284 a0 a1 h5) (fun h9 => l281_26 lf_N a0 a1 (0 : Int32) h9) else none) else none
set_option maxRecDepth 20000 in
theorem lq_281 {w : Option Nat} {d : Nat} {a0 : Option Nat} {a1 : Int32} {h : pm_H} {r : tm_O × pm_H} (hr : ll_281 a0 a1 h = some r) : tm_run pt_P (pt_G (tm_r w)) (d + 6) 281 [.inr (.inr a0), .inl a1] h r := by
  unfold ll_281 at hr
  show pm_to pt_P (pt_G (tm_r w)) (d + 6) (pt_g281, []) (tm_m (0, [(0, .inr (.inr a0)), (1, .inl a1)], [])) h (tm_e r)
  refine tm_n 1 (F' := (1, [(0, .inr (.inr a0)), (1, .inl a1)], [.inr (.inr a0)])) rfl ?_
  obtain ⟨v1, qv1, hr⟩ := Option.bind_eq_some_iff.mp hr
  refine tm_getf rfl (lf_I_V qv1) ?_
  refine tm_n 1 (F' := (5, [(0, .inr (.inr a0)), (1, .inl a1)], [.inl a1, .inl v1])) rfl ?_
  by_cases c15 : v1 = a1
  · rw [if_pos c15] at hr
    refine tm_icF rfl (fun q => q c15) ?_
    cases hr
    exact tm_retV rfl
  · rw [if_neg c15] at hr
    refine tm_icT rfl c15 ?_
    refine tm_n 2 (F' := (11, [(0, .inr (.inr a0)), (1, .inl a1)], [.inl a1, .inr (.inr a0)])) rfl ?_
    obtain ⟨h2, qh2, hr⟩ := Option.bind_eq_some_iff.mp hr
    refine tm_putf rfl qh2 ?_
    refine tm_n 2 (F' := (16, [(0, .inr (.inr a0)), (1, .inl a1)], [.inl a1, .inr (.inr a0)])) rfl ?_
    by_cases c3 : lc_of h2 a0 = some 10
    · rw [if_pos c3] at hr
      rcases lb_V_s hr with ⟨h5, m6, hr⟩ | ⟨a13, h5, z14, z14l, m6, qz14, rfl⟩
      · try dsimp only at hr
        refine tm_call rfl rfl (tm_callV rfl rfl c3 rfl rfl) (lq_282 m6) ?_
        refine tm_n 2 (F' := (21, [(0, .inr (.inr a0)), (1, .inl a1)], [.inl a1, .inr (.inr a0)])) rfl ?_
        by_cases c7 : lc_of h5 a0 = some 10
        · rw [if_pos c7] at hr
          rcases lb_V_s hr with ⟨h9, m10, hr⟩ | ⟨a11, h9, z12, z12l, m10, qz12, rfl⟩
          · try dsimp only at hr
            refine tm_call rfl rfl (tm_callV rfl rfl c7 rfl rfl) (lq_284 m10) ?_
            refine tm_n 2 (F' := (26, [(2, .inl (0 : Int32)), (0, .inr (.inr a0)), (1, .inl a1)], [])) rfl ?_
            refine tm_cut (a := [(0, .inr (.inr a0)), (1, .inl a1), (2, .inl (0 : Int32))]) rfl (tm_sbs [1, 2, 0] rfl) ?_
            exact l281_26_t lf_N hr
          · exact tm_callT rfl rfl (tm_callV rfl rfl c7 rfl rfl) (lq_284 m10) qz12 rfl
        · rw [if_neg c7] at hr
          cases hr
      · exact tm_callT rfl rfl (tm_callV rfl rfl c3 rfl rfl) (lq_282 m6) qz14 rfl
    · rw [if_neg c3] at hr
      cases hr
-- OfficeSheetModel.asked(III)I
set_option maxRecDepth 20000 in
def l280_41 (x0 : Option Nat) (x1 : Int32) (x2 : Int32) (x3 : Int32) (s0 : Int32) (s1 : Option Nat) (h : pm_H) : tm_L := (lf_P 81 h s1 [0, 10, 0] (.inl s0)).bind fun h1 => (lf_I h1 x0 [10, 0]).bind fun v2 => if v2 ≤ (0 : Int32) then if lc_of h1 x0 = some 10 then lb_V (ll_281 x0 x1 h1) (fun h5 => if lc_of h5 x0 = some 10 then lb_I (ll_242 x0 x1 (0 : Int32) x2 h5) (fun v8 h9 => if lc_of h9 x0 = some 10 then lb_I (ll_242 x0 x1 (1 : Int32) x3 h9) (fun v12 h13 => if lc_of h13 x0 = some 10 then lb_I (ll_283 x0 v8 v12 h13) (fun v16 h17 => some (.inl (some (.inl v16)), h17)) else none) else none) else none) else none else some (.inl (some (.inl (-1 : Int32))), h1)
set_option maxRecDepth 20000 in
theorem l280_41_t {w : Option Nat} {d : Nat} {x0 : Option Nat} {x1 : Int32} {x2 : Int32} {x3 : Int32} {s0 : Int32} {s1 : Option Nat} {h : pm_H} {r : tm_O × pm_H} (hr : l280_41 x0 x1 x2 x3 s0 s1 h = some r) : pm_to pt_P (pt_G (tm_r w)) (d + 7) (pt_g280, []) (tm_m (41, [(0, .inr (.inr x0)), (1, .inl x1), (2, .inl x2), (3, .inl x3)], [.inl s0, .inr (.inr s1)])) h (tm_e r) := by
  unfold l280_41 at hr
  obtain ⟨h1, qh1, hr⟩ := Option.bind_eq_some_iff.mp hr
  refine tm_putf rfl qh1 ?_
  refine tm_n 1 (F' := (45, [(0, .inr (.inr x0)), (1, .inl x1), (2, .inl x2), (3, .inl x3)], [.inr (.inr x0)])) rfl ?_
  obtain ⟨v2, qv2, hr⟩ := Option.bind_eq_some_iff.mp hr
  refine tm_getf rfl (lf_I_V qv2) ?_
  by_cases c27 : v2 ≤ (0 : Int32)
  · rw [if_pos c27] at hr
    refine tm_ifT rfl c27 ?_
    refine tm_n 2 (F' := (55, [(0, .inr (.inr x0)), (1, .inl x1), (2, .inl x2), (3, .inl x3)], [.inl x1, .inr (.inr x0)])) rfl ?_
    by_cases c3 : lc_of h1 x0 = some 10
    · rw [if_pos c3] at hr
      rcases lb_V_s hr with ⟨h5, m6, hr⟩ | ⟨a25, h5, z26, z26l, m6, qz26, rfl⟩
      · try dsimp only at hr
        refine tm_call rfl rfl (tm_callV rfl rfl c3 rfl rfl) (lq_281 m6) ?_
        refine tm_n 5 (F' := (63, [(0, .inr (.inr x0)), (1, .inl x1), (2, .inl x2), (3, .inl x3)], [.inl x2, .inl (0 : Int32), .inl x1, .inr (.inr x0), .inr (.inr x0)])) rfl ?_
        by_cases c7 : lc_of h5 x0 = some 10
        · rw [if_pos c7] at hr
          rcases lb_I_s hr with ⟨v8, h9, m10, hr⟩ | ⟨a23, h9, z24, z24l, m10, qz24, rfl⟩
          · try dsimp only at hr
            refine tm_call rfl rfl (tm_callV rfl rfl c7 rfl rfl) (lq_242 m10) ?_
            refine tm_n 4 (F' := (70, [(0, .inr (.inr x0)), (1, .inl x1), (2, .inl x2), (3, .inl x3)], [.inl x3, .inl (1 : Int32), .inl x1, .inr (.inr x0), .inl v8, .inr (.inr x0)])) rfl ?_
            by_cases c11 : lc_of h9 x0 = some 10
            · rw [if_pos c11] at hr
              rcases lb_I_s hr with ⟨v12, h13, m14, hr⟩ | ⟨a21, h13, z22, z22l, m14, qz22, rfl⟩
              · try dsimp only at hr
                refine tm_call rfl rfl (tm_callV rfl rfl c11 rfl rfl) (lq_242 m14) ?_
                by_cases c15 : lc_of h13 x0 = some 10
                · rw [if_pos c15] at hr
                  rcases lb_I_s hr with ⟨v16, h17, m18, hr⟩ | ⟨a19, h17, z20, z20l, m18, qz20, rfl⟩
                  · try dsimp only at hr
                    refine tm_call rfl rfl (tm_callV rfl rfl c15 rfl rfl) (lq_283 m18) ?_
                    cases hr
                    exact tm_retI rfl rfl
                  · exact tm_callT rfl rfl (tm_callV rfl rfl c15 rfl rfl) (lq_283 m18) qz20 rfl
                · rw [if_neg c15] at hr
                  cases hr
              · exact tm_callT rfl rfl (tm_callV rfl rfl c11 rfl rfl) (lq_242 m14) qz22 rfl
            · rw [if_neg c11] at hr
              cases hr
          · exact tm_callT rfl rfl (tm_callV rfl rfl c7 rfl rfl) (lq_242 m10) qz24 rfl
        · rw [if_neg c7] at hr
          cases hr
      · exact tm_callT rfl rfl (tm_callV rfl rfl c3 rfl rfl) (lq_281 m6) qz26 rfl
    · rw [if_neg c3] at hr
      cases hr
  · rw [if_neg c27] at hr
    refine tm_ifF rfl c27 ?_
    refine tm_n 1 (F' := (52, [(0, .inr (.inr x0)), (1, .inl x1), (2, .inl x2), (3, .inl x3)], [.inl (-1 : Int32)])) rfl ?_
    cases hr
    exact tm_retI rfl rfl
set_option maxRecDepth 20000 in
def l280_36 (x0 : Option Nat) (x1 : Int32) (x2 : Int32) (x3 : Int32) (s0 : Option Nat) (h : pm_H) : tm_L := l280_41 x0 x1 x2 x3 (2 : Int32) s0 h
set_option maxRecDepth 20000 in
theorem l280_36_t {w : Option Nat} {d : Nat} {x0 : Option Nat} {x1 : Int32} {x2 : Int32} {x3 : Int32} {s0 : Option Nat} {h : pm_H} {r : tm_O × pm_H} (hr : l280_36 x0 x1 x2 x3 s0 h = some r) : pm_to pt_P (pt_G (tm_r w)) (d + 7) (pt_g280, []) (tm_m (36, [(0, .inr (.inr x0)), (1, .inl x1), (2, .inl x2), (3, .inl x3)], [.inr (.inr s0)])) h (tm_e r) := by
  unfold l280_36 at hr
  refine tm_n 2 (F' := (41, [(0, .inr (.inr x0)), (1, .inl x1), (2, .inl x2), (3, .inl x3)], [.inl (2 : Int32), .inr (.inr s0)])) rfl ?_
  refine tm_cut (a := [(0, .inr (.inr x0)), (1, .inl x1), (2, .inl x2), (3, .inl x3)]) rfl (tm_sbs [0, 1, 2, 3] rfl) ?_
  exact l280_41_t hr
set_option maxRecDepth 20000 in
def ll_280 (a0 : Option Nat) (a1 : Int32) (a2 : Int32) (a3 : Int32) (h : pm_H) : tm_L := lb_I (ll_237 a1 h) (fun v1 h2 => if v1 = (0 : Int32) then l280_41 a0 a1 a2 a3 (1 : Int32) a0 h2 else if lc_of h2 a0 = some 10 then lb_I (ll_239 a0 a1 (0 : Int32) a2 h2) (fun v5 h6 => if v5 = (0 : Int32) then l280_36 a0 a1 a2 a3 a0 h6 else if lc_of h6 a0 = some 10 then lb_I (ll_239 a0 a1 (1 : Int32) a3 h6) (fun v9 h10 => if v9 = (0 : Int32) then l280_36 a0 a1 a2 a3 a0 h10 else l280_41 a0 a1 a2 a3 (0 : Int32) a0 h10) else none) else none)
set_option maxRecDepth 20000 in
theorem lq_280 {w : Option Nat} {d : Nat} {a0 : Option Nat} {a1 : Int32} {a2 : Int32} {a3 : Int32} {h : pm_H} {r : tm_O × pm_H} (hr : ll_280 a0 a1 a2 a3 h = some r) : tm_run pt_P (pt_G (tm_r w)) (d + 7) 280 [.inr (.inr a0), .inl a1, .inl a2, .inl a3] h r := by
  unfold ll_280 at hr
  show pm_to pt_P (pt_G (tm_r w)) (d + 7) (pt_g280, []) (tm_m (0, [(0, .inr (.inr a0)), (1, .inl a1), (2, .inl a2), (3, .inl a3)], [])) h (tm_e r)
  refine tm_n 1 (F' := (1, [(0, .inr (.inr a0)), (1, .inl a1), (2, .inl a2), (3, .inl a3)], [.inl a1])) rfl ?_
  rcases lb_I_s hr with ⟨v1, h2, m3, hr⟩ | ⟨a19, h2, z20, z20l, m3, qz20, rfl⟩
  · try dsimp only at hr
    refine tm_call rfl rfl (tm_callS rfl rfl) (lq_237 m3) ?_
    refine tm_n 3 (F' := (9, [(4, .inl v1), (0, .inr (.inr a0)), (1, .inl a1), (2, .inl a2), (3, .inl a3)], [.inl v1, .inr (.inr a0)])) rfl ?_
    by_cases c18 : v1 = (0 : Int32)
    · rw [if_pos c18] at hr
      refine tm_ifF rfl (fun q => q c18) ?_
      refine tm_n 2 (F' := (41, [(4, .inl v1), (0, .inr (.inr a0)), (1, .inl a1), (2, .inl a2), (3, .inl a3)], [.inl (1 : Int32), .inr (.inr a0)])) rfl ?_
      refine tm_cut (a := [(0, .inr (.inr a0)), (1, .inl a1), (2, .inl a2), (3, .inl a3)]) rfl (tm_sbs [1, 2, 3, 4] rfl) ?_
      exact l280_41_t hr
    · rw [if_neg c18] at hr
      refine tm_ifT rfl c18 ?_
      refine tm_n 4 (F' := (20, [(4, .inl v1), (0, .inr (.inr a0)), (1, .inl a1), (2, .inl a2), (3, .inl a3)], [.inl a2, .inl (0 : Int32), .inl a1, .inr (.inr a0), .inr (.inr a0)])) rfl ?_
      by_cases c4 : lc_of h2 a0 = some 10
      · rw [if_pos c4] at hr
        rcases lb_I_s hr with ⟨v5, h6, m7, hr⟩ | ⟨a16, h6, z17, z17l, m7, qz17, rfl⟩
        · try dsimp only at hr
          refine tm_call rfl rfl (tm_callV rfl rfl c4 rfl rfl) (lq_239 m7) ?_
          by_cases c15 : v5 = (0 : Int32)
          · rw [if_pos c15] at hr
            refine tm_ifT rfl c15 ?_
            refine tm_cut (a := [(0, .inr (.inr a0)), (1, .inl a1), (2, .inl a2), (3, .inl a3)]) rfl (tm_sbs [1, 2, 3, 4] rfl) ?_
            exact l280_36_t hr
          · rw [if_neg c15] at hr
            refine tm_ifF rfl c15 ?_
            refine tm_n 4 (F' := (30, [(4, .inl v1), (0, .inr (.inr a0)), (1, .inl a1), (2, .inl a2), (3, .inl a3)], [.inl a3, .inl (1 : Int32), .inl a1, .inr (.inr a0), .inr (.inr a0)])) rfl ?_
            by_cases c8 : lc_of h6 a0 = some 10
            · rw [if_pos c8] at hr
              rcases lb_I_s hr with ⟨v9, h10, m11, hr⟩ | ⟨a13, h10, z14, z14l, m11, qz14, rfl⟩
              · try dsimp only at hr
                refine tm_call rfl rfl (tm_callV rfl rfl c8 rfl rfl) (lq_239 m11) ?_
                by_cases c12 : v9 = (0 : Int32)
                · rw [if_pos c12] at hr
                  refine tm_ifF rfl (fun q => q c12) ?_
                  refine tm_cut (a := [(0, .inr (.inr a0)), (1, .inl a1), (2, .inl a2), (3, .inl a3)]) rfl (tm_sbs [1, 2, 3, 4] rfl) ?_
                  exact l280_36_t hr
                · rw [if_neg c12] at hr
                  refine tm_ifT rfl c12 ?_
                  refine tm_n 1 (F' := (41, [(4, .inl v1), (0, .inr (.inr a0)), (1, .inl a1), (2, .inl a2), (3, .inl a3)], [.inl (0 : Int32), .inr (.inr a0)])) rfl ?_
                  refine tm_cut (a := [(0, .inr (.inr a0)), (1, .inl a1), (2, .inl a2), (3, .inl a3)]) rfl (tm_sbs [1, 2, 3, 4] rfl) ?_
                  exact l280_41_t hr
              · exact tm_callT rfl rfl (tm_callV rfl rfl c8 rfl rfl) (lq_239 m11) qz14 rfl
            · rw [if_neg c8] at hr
              cases hr
        · exact tm_callT rfl rfl (tm_callV rfl rfl c4 rfl rfl) (lq_239 m7) qz17 rfl
      · rw [if_neg c4] at hr
        cases hr
  · exact tm_callT rfl rfl (tm_callS rfl rfl) (lq_237 m3) qz20 rfl
-- OfficeSheetModel.value(III)I
set_option maxRecDepth 20000 in
def ll_279 (a0 : Option Nat) (a1 : Int32) (a2 : Int32) (a3 : Int32) (h : pm_H) : tm_L := if lc_of h a0 = some 10 then lb_I (ll_280 a0 a1 a2 a3 h) (fun v2 h3 => if v2 < (0 : Int32) then some (.inl (some (.inl (0 : Int32))), h3) else (lf_R h3 a0 [10, 37]).bind fun v5 => (la_J h3 .laload v5 v2).bind fun v6 => if (lg_cmp v6 (4000000000 : Int64)) < (0 : Int32) then (lf_R h3 a0 [10, 37]).bind fun v7 => (la_J h3 .laload v7 v2).bind fun v8 => some (.inl (some (.inl (Int64.toInt32 v8))), h3) else some (.inl (some (.inl (0 : Int32))), h3)) else none
set_option maxRecDepth 20000 in
theorem lq_279 {w : Option Nat} {d : Nat} {a0 : Option Nat} {a1 : Int32} {a2 : Int32} {a3 : Int32} {h : pm_H} {r : tm_O × pm_H} (hr : ll_279 a0 a1 a2 a3 h = some r) : tm_run pt_P (pt_G (tm_r w)) (d + 8) 279 [.inr (.inr a0), .inl a1, .inl a2, .inl a3] h r := by
  unfold ll_279 at hr
  show pm_to pt_P (pt_G (tm_r w)) (d + 8) (pt_g279, []) (tm_m (0, [(0, .inr (.inr a0)), (1, .inl a1), (2, .inl a2), (3, .inl a3)], [])) h (tm_e r)
  refine tm_n 4 (F' := (4, [(0, .inr (.inr a0)), (1, .inl a1), (2, .inl a2), (3, .inl a3)], [.inl a3, .inl a2, .inl a1, .inr (.inr a0)])) rfl ?_
  by_cases c1 : lc_of h a0 = some 10
  · rw [if_pos c1] at hr
    rcases lb_I_s hr with ⟨v2, h3, m4, hr⟩ | ⟨a11, h3, z12, z12l, m4, qz12, rfl⟩
    · try dsimp only at hr
      refine tm_call rfl rfl (tm_callV rfl rfl c1 rfl rfl) (lq_280 m4) ?_
      refine tm_n 2 (F' := (11, [(4, .inl v2), (0, .inr (.inr a0)), (1, .inl a1), (2, .inl a2), (3, .inl a3)], [.inl v2])) rfl ?_
      by_cases c10 : v2 < (0 : Int32)
      · rw [if_pos c10] at hr
        refine tm_ifT rfl c10 ?_
        refine tm_n 2 (F' := (40, [(4, .inl v2), (0, .inr (.inr a0)), (1, .inl a1), (2, .inl a2), (3, .inl a3)], [.inl (0 : Int32)])) rfl ?_
        cases hr
        exact tm_retI rfl rfl
      · rw [if_neg c10] at hr
        refine tm_ifF rfl c10 ?_
        refine tm_n 1 (F' := (15, [(4, .inl v2), (0, .inr (.inr a0)), (1, .inl a1), (2, .inl a2), (3, .inl a3)], [.inr (.inr a0)])) rfl ?_
        obtain ⟨v5, qv5, hr⟩ := Option.bind_eq_some_iff.mp hr
        refine tm_getf rfl (lf_R_V qv5) ?_
        refine tm_n 1 (F' := (20, [(4, .inl v2), (0, .inr (.inr a0)), (1, .inl a1), (2, .inl a2), (3, .inl a3)], [.inl v2, .inr (.inr v5)])) rfl ?_
        obtain ⟨v6, qv6, hr⟩ := Option.bind_eq_some_iff.mp hr
        refine tm_ald rfl rfl (la_J_V qv6) ?_
        refine tm_n 2 (F' := (25, [(4, .inl v2), (0, .inr (.inr a0)), (1, .inl a1), (2, .inl a2), (3, .inl a3)], [.inl (lg_cmp v6 (4000000000 : Int64))])) rfl ?_
        by_cases c9 : (lg_cmp v6 (4000000000 : Int64)) < (0 : Int32)
        · rw [if_pos c9] at hr
          refine tm_ifT rfl c9 ?_
          refine tm_n 1 (F' := (33, [(4, .inl v2), (0, .inr (.inr a0)), (1, .inl a1), (2, .inl a2), (3, .inl a3)], [.inr (.inr a0)])) rfl ?_
          obtain ⟨v7, qv7, hr⟩ := Option.bind_eq_some_iff.mp hr
          refine tm_getf rfl (lf_R_V qv7) ?_
          refine tm_n 1 (F' := (38, [(4, .inl v2), (0, .inr (.inr a0)), (1, .inl a1), (2, .inl a2), (3, .inl a3)], [.inl v2, .inr (.inr v7)])) rfl ?_
          obtain ⟨v8, qv8, hr⟩ := Option.bind_eq_some_iff.mp hr
          refine tm_ald rfl rfl (la_J_V qv8) ?_
          refine tm_n 1 (F' := (40, [(4, .inl v2), (0, .inr (.inr a0)), (1, .inl a1), (2, .inl a2), (3, .inl a3)], [.inl (Int64.toInt32 v8)])) rfl ?_
          cases hr
          exact tm_retI rfl rfl
        · rw [if_neg c9] at hr
          refine tm_ifF rfl c9 ?_
          refine tm_n 2 (F' := (40, [(4, .inl v2), (0, .inr (.inr a0)), (1, .inl a1), (2, .inl a2), (3, .inl a3)], [.inl (0 : Int32)])) rfl ?_
          cases hr
          exact tm_retI rfl rfl
    · exact tm_callT rfl rfl (tm_callV rfl rfl c1 rfl rfl) (lq_280 m4) qz12 rfl
  · rw [if_neg c1] at hr
    cases hr
-- OfficeSheetModel.error(III)I
set_option maxRecDepth 20000 in
def ll_299 (a0 : Option Nat) (a1 : Int32) (a2 : Int32) (a3 : Int32) (h : pm_H) : tm_L := if lc_of h a0 = some 10 then lb_I (ll_280 a0 a1 a2 a3 h) (fun v2 h3 => if v2 < (0 : Int32) then some (.inl (some (.inl (0 : Int32))), h3) else (lf_R h3 a0 [10, 37]).bind fun v5 => (la_J h3 .laload v5 v2).bind fun v6 => if (0 : Int32) ≤ (lg_cmp v6 (4000000000 : Int64)) then (lf_R h3 a0 [10, 37]).bind fun v7 => (la_J h3 .laload v7 v2).bind fun v8 => some (.inl (some (.inl (Int64.toInt32 (v8 - (4000000000 : Int64))))), h3) else some (.inl (some (.inl (0 : Int32))), h3)) else none
set_option maxRecDepth 20000 in
theorem lq_299 {w : Option Nat} {d : Nat} {a0 : Option Nat} {a1 : Int32} {a2 : Int32} {a3 : Int32} {h : pm_H} {r : tm_O × pm_H} (hr : ll_299 a0 a1 a2 a3 h = some r) : tm_run pt_P (pt_G (tm_r w)) (d + 8) 299 [.inr (.inr a0), .inl a1, .inl a2, .inl a3] h r := by
  unfold ll_299 at hr
  show pm_to pt_P (pt_G (tm_r w)) (d + 8) (pt_g299, []) (tm_m (0, [(0, .inr (.inr a0)), (1, .inl a1), (2, .inl a2), (3, .inl a3)], [])) h (tm_e r)
  refine tm_n 4 (F' := (4, [(0, .inr (.inr a0)), (1, .inl a1), (2, .inl a2), (3, .inl a3)], [.inl a3, .inl a2, .inl a1, .inr (.inr a0)])) rfl ?_
  by_cases c1 : lc_of h a0 = some 10
  · rw [if_pos c1] at hr
    rcases lb_I_s hr with ⟨v2, h3, m4, hr⟩ | ⟨a11, h3, z12, z12l, m4, qz12, rfl⟩
    · try dsimp only at hr
      refine tm_call rfl rfl (tm_callV rfl rfl c1 rfl rfl) (lq_280 m4) ?_
      refine tm_n 2 (F' := (11, [(4, .inl v2), (0, .inr (.inr a0)), (1, .inl a1), (2, .inl a2), (3, .inl a3)], [.inl v2])) rfl ?_
      by_cases c10 : v2 < (0 : Int32)
      · rw [if_pos c10] at hr
        refine tm_ifT rfl c10 ?_
        refine tm_n 2 (F' := (44, [(4, .inl v2), (0, .inr (.inr a0)), (1, .inl a1), (2, .inl a2), (3, .inl a3)], [.inl (0 : Int32)])) rfl ?_
        cases hr
        exact tm_retI rfl rfl
      · rw [if_neg c10] at hr
        refine tm_ifF rfl c10 ?_
        refine tm_n 1 (F' := (15, [(4, .inl v2), (0, .inr (.inr a0)), (1, .inl a1), (2, .inl a2), (3, .inl a3)], [.inr (.inr a0)])) rfl ?_
        obtain ⟨v5, qv5, hr⟩ := Option.bind_eq_some_iff.mp hr
        refine tm_getf rfl (lf_R_V qv5) ?_
        refine tm_n 1 (F' := (20, [(4, .inl v2), (0, .inr (.inr a0)), (1, .inl a1), (2, .inl a2), (3, .inl a3)], [.inl v2, .inr (.inr v5)])) rfl ?_
        obtain ⟨v6, qv6, hr⟩ := Option.bind_eq_some_iff.mp hr
        refine tm_ald rfl rfl (la_J_V qv6) ?_
        refine tm_n 2 (F' := (25, [(4, .inl v2), (0, .inr (.inr a0)), (1, .inl a1), (2, .inl a2), (3, .inl a3)], [.inl (lg_cmp v6 (4000000000 : Int64))])) rfl ?_
        by_cases c9 : (0 : Int32) ≤ (lg_cmp v6 (4000000000 : Int64))
        · rw [if_pos c9] at hr
          refine tm_ifT rfl c9 ?_
          refine tm_n 1 (F' := (33, [(4, .inl v2), (0, .inr (.inr a0)), (1, .inl a1), (2, .inl a2), (3, .inl a3)], [.inr (.inr a0)])) rfl ?_
          obtain ⟨v7, qv7, hr⟩ := Option.bind_eq_some_iff.mp hr
          refine tm_getf rfl (lf_R_V qv7) ?_
          refine tm_n 1 (F' := (38, [(4, .inl v2), (0, .inr (.inr a0)), (1, .inl a1), (2, .inl a2), (3, .inl a3)], [.inl v2, .inr (.inr v7)])) rfl ?_
          obtain ⟨v8, qv8, hr⟩ := Option.bind_eq_some_iff.mp hr
          refine tm_ald rfl rfl (la_J_V qv8) ?_
          refine tm_n 3 (F' := (44, [(4, .inl v2), (0, .inr (.inr a0)), (1, .inl a1), (2, .inl a2), (3, .inl a3)], [.inl (Int64.toInt32 (v8 - (4000000000 : Int64)))])) rfl ?_
          cases hr
          exact tm_retI rfl rfl
        · rw [if_neg c9] at hr
          refine tm_ifF rfl c9 ?_
          refine tm_n 2 (F' := (44, [(4, .inl v2), (0, .inr (.inr a0)), (1, .inl a1), (2, .inl a2), (3, .inl a3)], [.inl (0 : Int32)])) rfl ?_
          cases hr
          exact tm_retI rfl rfl
    · exact tm_callT rfl rfl (tm_callV rfl rfl c1 rfl rfl) (lq_280 m4) qz12 rfl
  · rw [if_neg c1] at hr
    cases hr
-- OfficeSheetModel.writes(III)Z
set_option maxRecDepth 20000 in
def ll_301 (a0 : Option Nat) (a1 : Int32) (a2 : Int32) (a3 : Int32) (h : pm_H) : tm_L := (lf_R h a0 [10, 1]).bind fun v1 => (la_I h .iaload v1 a2).bind fun v2 => if v2 = (6 : Int32) then if lc_of h a0 = some 10 then lb_I (ll_244 a0 a1 a2 h) (fun v4 h5 => if v4 = (0 : Int32) then some (.inl (some (.inl (0 : Int32))), h5) else (lf_R h5 a0 [10, 5]).bind fun v7 => (la_I h5 .iaload v7 a2).bind fun v8 => (lf_R h5 a0 [10, 33]).bind fun v9 => (la_I h5 .iaload v9 a3).bind fun v10 => if v8 = v10 then (lf_R h5 a0 [10, 6]).bind fun v11 => (la_I h5 .iaload v11 a2).bind fun v12 => (lf_R h5 a0 [10, 34]).bind fun v13 => (la_I h5 .iaload v13 a3).bind fun v14 => if v12 = v14 then some (.inl (some (.inl (1 : Int32))), h5) else some (.inl (some (.inl (0 : Int32))), h5) else some (.inl (some (.inl (0 : Int32))), h5)) else none else some (.inl (some (.inl (0 : Int32))), h)
set_option maxRecDepth 20000 in
theorem lq_301 {w : Option Nat} {d : Nat} {a0 : Option Nat} {a1 : Int32} {a2 : Int32} {a3 : Int32} {h : pm_H} {r : tm_O × pm_H} (hr : ll_301 a0 a1 a2 a3 h = some r) : tm_run pt_P (pt_G (tm_r w)) (d + 1) 301 [.inr (.inr a0), .inl a1, .inl a2, .inl a3] h r := by
  unfold ll_301 at hr
  show pm_to pt_P (pt_G (tm_r w)) (d + 1) (pt_g301, []) (tm_m (0, [(0, .inr (.inr a0)), (1, .inl a1), (2, .inl a2), (3, .inl a3)], [])) h (tm_e r)
  refine tm_n 1 (F' := (1, [(0, .inr (.inr a0)), (1, .inl a1), (2, .inl a2), (3, .inl a3)], [.inr (.inr a0)])) rfl ?_
  obtain ⟨v1, qv1, hr⟩ := Option.bind_eq_some_iff.mp hr
  refine tm_getf rfl (lf_R_V qv1) ?_
  refine tm_n 1 (F' := (5, [(0, .inr (.inr a0)), (1, .inl a1), (2, .inl a2), (3, .inl a3)], [.inl a2, .inr (.inr v1)])) rfl ?_
  obtain ⟨v2, qv2, hr⟩ := Option.bind_eq_some_iff.mp hr
  refine tm_ald rfl rfl (la_I_V qv2) ?_
  refine tm_n 1 (F' := (8, [(0, .inr (.inr a0)), (1, .inl a1), (2, .inl a2), (3, .inl a3)], [.inl (6 : Int32), .inl v2])) rfl ?_
  by_cases c20 : v2 = (6 : Int32)
  · rw [if_pos c20] at hr
    refine tm_icF rfl (fun q => q c20) ?_
    refine tm_n 3 (F' := (14, [(0, .inr (.inr a0)), (1, .inl a1), (2, .inl a2), (3, .inl a3)], [.inl a2, .inl a1, .inr (.inr a0)])) rfl ?_
    by_cases c3 : lc_of h a0 = some 10
    · rw [if_pos c3] at hr
      rcases lb_I_s hr with ⟨v4, h5, m6, hr⟩ | ⟨a18, h5, z19, z19l, m6, qz19, rfl⟩
      · try dsimp only at hr
        refine tm_call rfl rfl (tm_callV rfl rfl c3 rfl rfl) (lq_244 m6) ?_
        by_cases c17 : v4 = (0 : Int32)
        · rw [if_pos c17] at hr
          refine tm_ifT rfl c17 ?_
          refine tm_n 1 (F' := (55, [(0, .inr (.inr a0)), (1, .inl a1), (2, .inl a2), (3, .inl a3)], [.inl (0 : Int32)])) rfl ?_
          cases hr
          exact tm_retI rfl rfl
        · rw [if_neg c17] at hr
          refine tm_ifF rfl c17 ?_
          refine tm_n 1 (F' := (21, [(0, .inr (.inr a0)), (1, .inl a1), (2, .inl a2), (3, .inl a3)], [.inr (.inr a0)])) rfl ?_
          obtain ⟨v7, qv7, hr⟩ := Option.bind_eq_some_iff.mp hr
          refine tm_getf rfl (lf_R_V qv7) ?_
          refine tm_n 1 (F' := (25, [(0, .inr (.inr a0)), (1, .inl a1), (2, .inl a2), (3, .inl a3)], [.inl a2, .inr (.inr v7)])) rfl ?_
          obtain ⟨v8, qv8, hr⟩ := Option.bind_eq_some_iff.mp hr
          refine tm_ald rfl rfl (la_I_V qv8) ?_
          refine tm_n 1 (F' := (27, [(0, .inr (.inr a0)), (1, .inl a1), (2, .inl a2), (3, .inl a3)], [.inr (.inr a0), .inl v8])) rfl ?_
          obtain ⟨v9, qv9, hr⟩ := Option.bind_eq_some_iff.mp hr
          refine tm_getf rfl (lf_R_V qv9) ?_
          refine tm_n 1 (F' := (31, [(0, .inr (.inr a0)), (1, .inl a1), (2, .inl a2), (3, .inl a3)], [.inl a3, .inr (.inr v9), .inl v8])) rfl ?_
          obtain ⟨v10, qv10, hr⟩ := Option.bind_eq_some_iff.mp hr
          refine tm_ald rfl rfl (la_I_V qv10) ?_
          by_cases c16 : v8 = v10
          · rw [if_pos c16] at hr
            refine tm_icF rfl (fun q => q c16) ?_
            refine tm_n 1 (F' := (36, [(0, .inr (.inr a0)), (1, .inl a1), (2, .inl a2), (3, .inl a3)], [.inr (.inr a0)])) rfl ?_
            obtain ⟨v11, qv11, hr⟩ := Option.bind_eq_some_iff.mp hr
            refine tm_getf rfl (lf_R_V qv11) ?_
            refine tm_n 1 (F' := (40, [(0, .inr (.inr a0)), (1, .inl a1), (2, .inl a2), (3, .inl a3)], [.inl a2, .inr (.inr v11)])) rfl ?_
            obtain ⟨v12, qv12, hr⟩ := Option.bind_eq_some_iff.mp hr
            refine tm_ald rfl rfl (la_I_V qv12) ?_
            refine tm_n 1 (F' := (42, [(0, .inr (.inr a0)), (1, .inl a1), (2, .inl a2), (3, .inl a3)], [.inr (.inr a0), .inl v12])) rfl ?_
            obtain ⟨v13, qv13, hr⟩ := Option.bind_eq_some_iff.mp hr
            refine tm_getf rfl (lf_R_V qv13) ?_
            refine tm_n 1 (F' := (46, [(0, .inr (.inr a0)), (1, .inl a1), (2, .inl a2), (3, .inl a3)], [.inl a3, .inr (.inr v13), .inl v12])) rfl ?_
            obtain ⟨v14, qv14, hr⟩ := Option.bind_eq_some_iff.mp hr
            refine tm_ald rfl rfl (la_I_V qv14) ?_
            by_cases c15 : v12 = v14
            · rw [if_pos c15] at hr
              refine tm_icF rfl (fun q => q c15) ?_
              refine tm_n 2 (F' := (55, [(0, .inr (.inr a0)), (1, .inl a1), (2, .inl a2), (3, .inl a3)], [.inl (1 : Int32)])) rfl ?_
              cases hr
              exact tm_retI rfl rfl
            · rw [if_neg c15] at hr
              refine tm_icT rfl c15 ?_
              refine tm_n 1 (F' := (55, [(0, .inr (.inr a0)), (1, .inl a1), (2, .inl a2), (3, .inl a3)], [.inl (0 : Int32)])) rfl ?_
              cases hr
              exact tm_retI rfl rfl
          · rw [if_neg c16] at hr
            refine tm_icT rfl c16 ?_
            refine tm_n 1 (F' := (55, [(0, .inr (.inr a0)), (1, .inl a1), (2, .inl a2), (3, .inl a3)], [.inl (0 : Int32)])) rfl ?_
            cases hr
            exact tm_retI rfl rfl
      · exact tm_callT rfl rfl (tm_callV rfl rfl c3 rfl rfl) (lq_244 m6) qz19 rfl
    · rw [if_neg c3] at hr
      cases hr
  · rw [if_neg c20] at hr
    refine tm_icT rfl c20 ?_
    refine tm_n 1 (F' := (55, [(0, .inr (.inr a0)), (1, .inl a1), (2, .inl a2), (3, .inl a3)], [.inl (0 : Int32)])) rfl ?_
    cases hr
    exact tm_retI rfl rfl
-- OfficeSheetModel.also(III)I
set_option maxRecDepth 20000 in
def l300_135 (K15 : Option Nat → Int32 → Int32 → Int32 → Int32 → pm_H → tm_L) (K61 : Option Nat → Int32 → Int32 → Int32 → Int32 → Int32 → Int32 → pm_H → tm_L) (x0 : Option Nat) (x1 : Int32) (x4 : Int32) (x6 : Int32) (s0 : Int32) (h : pm_H) : tm_L := K15 x0 x1 x4 s0 (x6 + (1 : Int32)) h
set_option maxRecDepth 20000 in
theorem l300_135_t {w : Option Nat} {d : Nat} {K15 : Option Nat → Int32 → Int32 → Int32 → Int32 → pm_H → tm_L} {K61 : Option Nat → Int32 → Int32 → Int32 → Int32 → Int32 → Int32 → pm_H → tm_L} (hK15 : ∀ {x0 : Option Nat} {x1 : Int32} {x4 : Int32} {x5 : Int32} {x6 : Int32}  {h : pm_H} {r : tm_O × pm_H}, K15 x0 x1 x4 x5 x6 h = some r → pm_to pt_P (pt_G (tm_r w)) (d + 8) (pt_g300, []) (tm_m (15, [(0, .inr (.inr x0)), (1, .inl x1), (4, .inl x4), (5, .inl x5), (6, .inl x6)], [])) h (tm_e r)) (hK61 : ∀ {x0 : Option Nat} {x1 : Int32} {x4 : Int32} {x5 : Int32} {x6 : Int32} {x7 : Int32} {x8 : Int32}  {h : pm_H} {r : tm_O × pm_H}, K61 x0 x1 x4 x5 x6 x7 x8 h = some r → pm_to pt_P (pt_G (tm_r w)) (d + 8) (pt_g300, []) (tm_m (61, [(0, .inr (.inr x0)), (1, .inl x1), (4, .inl x4), (5, .inl x5), (6, .inl x6), (7, .inl x7), (8, .inl x8)], [])) h (tm_e r)) {x0 : Option Nat} {x1 : Int32} {x4 : Int32} {x6 : Int32} {s0 : Int32} {h : pm_H} {r : tm_O × pm_H} (hr : l300_135 K15 K61 x0 x1 x4 x6 s0 h = some r) : pm_to pt_P (pt_G (tm_r w)) (d + 8) (pt_g300, []) (tm_m (135, [(0, .inr (.inr x0)), (1, .inl x1), (4, .inl x4), (6, .inl x6)], [.inl s0])) h (tm_e r) := by
  unfold l300_135 at hr
  refine tm_n 3 (F' := (15, [(6, .inl (x6 + (1 : Int32))), (5, .inl s0), (0, .inr (.inr x0)), (1, .inl x1), (4, .inl x4)], [])) rfl ?_
  refine tm_cut (a := [(0, .inr (.inr x0)), (1, .inl x1), (4, .inl x4), (5, .inl s0), (6, .inl (x6 + (1 : Int32)))]) rfl (tm_sbs [2, 3, 4, 1, 0] rfl) ?_
  exact hK15 hr
set_option maxRecDepth 20000 in
def l300_121 (K15 : Option Nat → Int32 → Int32 → Int32 → Int32 → pm_H → tm_L) (K61 : Option Nat → Int32 → Int32 → Int32 → Int32 → Int32 → Int32 → pm_H → tm_L) (x0 : Option Nat) (x1 : Int32) (x4 : Int32) (x5 : Int32) (x6 : Int32) (x7 : Int32) (h : pm_H) : tm_L := if x7 = (0 : Int32) then l300_135 K15 K61 x0 x1 x4 x6 x5 h else l300_135 K15 K61 x0 x1 x4 x6 (x5 + (1 : Int32)) h
set_option maxRecDepth 20000 in
theorem l300_121_t {w : Option Nat} {d : Nat} {K15 : Option Nat → Int32 → Int32 → Int32 → Int32 → pm_H → tm_L} {K61 : Option Nat → Int32 → Int32 → Int32 → Int32 → Int32 → Int32 → pm_H → tm_L} (hK15 : ∀ {x0 : Option Nat} {x1 : Int32} {x4 : Int32} {x5 : Int32} {x6 : Int32}  {h : pm_H} {r : tm_O × pm_H}, K15 x0 x1 x4 x5 x6 h = some r → pm_to pt_P (pt_G (tm_r w)) (d + 8) (pt_g300, []) (tm_m (15, [(0, .inr (.inr x0)), (1, .inl x1), (4, .inl x4), (5, .inl x5), (6, .inl x6)], [])) h (tm_e r)) (hK61 : ∀ {x0 : Option Nat} {x1 : Int32} {x4 : Int32} {x5 : Int32} {x6 : Int32} {x7 : Int32} {x8 : Int32}  {h : pm_H} {r : tm_O × pm_H}, K61 x0 x1 x4 x5 x6 x7 x8 h = some r → pm_to pt_P (pt_G (tm_r w)) (d + 8) (pt_g300, []) (tm_m (61, [(0, .inr (.inr x0)), (1, .inl x1), (4, .inl x4), (5, .inl x5), (6, .inl x6), (7, .inl x7), (8, .inl x8)], [])) h (tm_e r)) {x0 : Option Nat} {x1 : Int32} {x4 : Int32} {x5 : Int32} {x6 : Int32} {x7 : Int32} {h : pm_H} {r : tm_O × pm_H} (hr : l300_121 K15 K61 x0 x1 x4 x5 x6 x7 h = some r) : pm_to pt_P (pt_G (tm_r w)) (d + 8) (pt_g300, []) (tm_m (121, [(0, .inr (.inr x0)), (1, .inl x1), (4, .inl x4), (5, .inl x5), (6, .inl x6), (7, .inl x7)], [])) h (tm_e r) := by
  unfold l300_121 at hr
  refine tm_n 1 (F' := (123, [(0, .inr (.inr x0)), (1, .inl x1), (4, .inl x4), (5, .inl x5), (6, .inl x6), (7, .inl x7)], [.inl x7])) rfl ?_
  by_cases c1 : x7 = (0 : Int32)
  · rw [if_pos c1] at hr
    refine tm_ifT rfl c1 ?_
    refine tm_n 1 (F' := (135, [(0, .inr (.inr x0)), (1, .inl x1), (4, .inl x4), (5, .inl x5), (6, .inl x6), (7, .inl x7)], [.inl x5])) rfl ?_
    refine tm_cut (a := [(0, .inr (.inr x0)), (1, .inl x1), (4, .inl x4), (6, .inl x6)]) rfl (tm_sbs [0, 1, 2, 4] rfl) ?_
    exact l300_135_t hK15 hK61 hr
  · rw [if_neg c1] at hr
    refine tm_ifF rfl c1 ?_
    refine tm_n 4 (F' := (135, [(0, .inr (.inr x0)), (1, .inl x1), (4, .inl x4), (5, .inl x5), (6, .inl x6), (7, .inl x7)], [.inl (x5 + (1 : Int32))])) rfl ?_
    refine tm_cut (a := [(0, .inr (.inr x0)), (1, .inl x1), (4, .inl x4), (6, .inl x6)]) rfl (tm_sbs [0, 1, 2, 4] rfl) ?_
    exact l300_135_t hK15 hK61 hr
set_option maxRecDepth 20000 in
def l300_113 (K15 : Option Nat → Int32 → Int32 → Int32 → Int32 → pm_H → tm_L) (K61 : Option Nat → Int32 → Int32 → Int32 → Int32 → Int32 → Int32 → pm_H → tm_L) (x0 : Option Nat) (x1 : Int32) (x4 : Int32) (x5 : Int32) (x6 : Int32) (x8 : Int32) (s0 : Int32) (h : pm_H) : tm_L := K61 x0 x1 x4 x5 x6 s0 (x8 + (1 : Int32)) h
set_option maxRecDepth 20000 in
theorem l300_113_t {w : Option Nat} {d : Nat} {K15 : Option Nat → Int32 → Int32 → Int32 → Int32 → pm_H → tm_L} {K61 : Option Nat → Int32 → Int32 → Int32 → Int32 → Int32 → Int32 → pm_H → tm_L} (hK15 : ∀ {x0 : Option Nat} {x1 : Int32} {x4 : Int32} {x5 : Int32} {x6 : Int32}  {h : pm_H} {r : tm_O × pm_H}, K15 x0 x1 x4 x5 x6 h = some r → pm_to pt_P (pt_G (tm_r w)) (d + 8) (pt_g300, []) (tm_m (15, [(0, .inr (.inr x0)), (1, .inl x1), (4, .inl x4), (5, .inl x5), (6, .inl x6)], [])) h (tm_e r)) (hK61 : ∀ {x0 : Option Nat} {x1 : Int32} {x4 : Int32} {x5 : Int32} {x6 : Int32} {x7 : Int32} {x8 : Int32}  {h : pm_H} {r : tm_O × pm_H}, K61 x0 x1 x4 x5 x6 x7 x8 h = some r → pm_to pt_P (pt_G (tm_r w)) (d + 8) (pt_g300, []) (tm_m (61, [(0, .inr (.inr x0)), (1, .inl x1), (4, .inl x4), (5, .inl x5), (6, .inl x6), (7, .inl x7), (8, .inl x8)], [])) h (tm_e r)) {x0 : Option Nat} {x1 : Int32} {x4 : Int32} {x5 : Int32} {x6 : Int32} {x8 : Int32} {s0 : Int32} {h : pm_H} {r : tm_O × pm_H} (hr : l300_113 K15 K61 x0 x1 x4 x5 x6 x8 s0 h = some r) : pm_to pt_P (pt_G (tm_r w)) (d + 8) (pt_g300, []) (tm_m (113, [(0, .inr (.inr x0)), (1, .inl x1), (4, .inl x4), (5, .inl x5), (6, .inl x6), (8, .inl x8)], [.inl s0])) h (tm_e r) := by
  unfold l300_113 at hr
  refine tm_n 3 (F' := (61, [(8, .inl (x8 + (1 : Int32))), (7, .inl s0), (0, .inr (.inr x0)), (1, .inl x1), (4, .inl x4), (5, .inl x5), (6, .inl x6)], [])) rfl ?_
  refine tm_cut (a := [(0, .inr (.inr x0)), (1, .inl x1), (4, .inl x4), (5, .inl x5), (6, .inl x6), (7, .inl s0), (8, .inl (x8 + (1 : Int32)))]) rfl (tm_sbs [2, 3, 4, 5, 6, 1, 0] rfl) ?_
  exact hK61 hr
set_option maxRecDepth 20000 in
def l300_108 (K15 : Option Nat → Int32 → Int32 → Int32 → Int32 → pm_H → tm_L) (K61 : Option Nat → Int32 → Int32 → Int32 → Int32 → Int32 → Int32 → pm_H → tm_L) (x0 : Option Nat) (x1 : Int32) (x4 : Int32) (x5 : Int32) (x6 : Int32) (x8 : Int32) (h : pm_H) : tm_L := l300_113 K15 K61 x0 x1 x4 x5 x6 x8 (1 : Int32) h
set_option maxRecDepth 20000 in
theorem l300_108_t {w : Option Nat} {d : Nat} {K15 : Option Nat → Int32 → Int32 → Int32 → Int32 → pm_H → tm_L} {K61 : Option Nat → Int32 → Int32 → Int32 → Int32 → Int32 → Int32 → pm_H → tm_L} (hK15 : ∀ {x0 : Option Nat} {x1 : Int32} {x4 : Int32} {x5 : Int32} {x6 : Int32}  {h : pm_H} {r : tm_O × pm_H}, K15 x0 x1 x4 x5 x6 h = some r → pm_to pt_P (pt_G (tm_r w)) (d + 8) (pt_g300, []) (tm_m (15, [(0, .inr (.inr x0)), (1, .inl x1), (4, .inl x4), (5, .inl x5), (6, .inl x6)], [])) h (tm_e r)) (hK61 : ∀ {x0 : Option Nat} {x1 : Int32} {x4 : Int32} {x5 : Int32} {x6 : Int32} {x7 : Int32} {x8 : Int32}  {h : pm_H} {r : tm_O × pm_H}, K61 x0 x1 x4 x5 x6 x7 x8 h = some r → pm_to pt_P (pt_G (tm_r w)) (d + 8) (pt_g300, []) (tm_m (61, [(0, .inr (.inr x0)), (1, .inl x1), (4, .inl x4), (5, .inl x5), (6, .inl x6), (7, .inl x7), (8, .inl x8)], [])) h (tm_e r)) {x0 : Option Nat} {x1 : Int32} {x4 : Int32} {x5 : Int32} {x6 : Int32} {x8 : Int32} {h : pm_H} {r : tm_O × pm_H} (hr : l300_108 K15 K61 x0 x1 x4 x5 x6 x8 h = some r) : pm_to pt_P (pt_G (tm_r w)) (d + 8) (pt_g300, []) (tm_m (108, [(0, .inr (.inr x0)), (1, .inl x1), (4, .inl x4), (5, .inl x5), (6, .inl x6), (8, .inl x8)], [])) h (tm_e r) := by
  unfold l300_108 at hr
  refine tm_n 2 (F' := (113, [(0, .inr (.inr x0)), (1, .inl x1), (4, .inl x4), (5, .inl x5), (6, .inl x6), (8, .inl x8)], [.inl (1 : Int32)])) rfl ?_
  refine tm_cut (a := [(0, .inr (.inr x0)), (1, .inl x1), (4, .inl x4), (5, .inl x5), (6, .inl x6), (8, .inl x8)]) rfl (tm_sbs [0, 1, 2, 3, 4, 5] rfl) ?_
  exact l300_113_t hK15 hK61 hr
set_option maxRecDepth 20000 in
def l300_61 (K15 : Option Nat → Int32 → Int32 → Int32 → Int32 → pm_H → tm_L) : Nat → Option Nat → Int32 → Int32 → Int32 → Int32 → Int32 → Int32 → pm_H → tm_L
  | 0 => fun _ _ _ _ _ _ _ _ => none
  | n + 1 => fun x0 x1 x4 x5 x6 x7 x8 h => if (120 : Int32) ≤ x8 then l300_121 K15 (l300_61 K15 n) x0 x1 x4 x5 x6 x7 h else if x7 = (0 : Int32) then l300_121 K15 (l300_61 K15 n) x0 x1 x4 x5 x6 x7 h else if lc_of h x0 = some 10 then lb_I (ll_301 x0 x1 x8 x4 h) (fun v2 h3 => if v2 = (0 : Int32) then l300_108 K15 (l300_61 K15 n) x0 x1 x4 x5 x6 x8 h3 else (lf_R h3 x0 [10, 4]).bind fun v5 => (la_I h3 .iaload v5 (((3 : Int32) * x8) + (x6 / (40 : Int32)))).bind fun v6 => if (x6 - x6 / (40 : Int32) * (40 : Int32)) < v6 then l300_113 K15 (l300_61 K15 n) x0 x1 x4 x5 x6 x8 (0 : Int32) h3 else l300_108 K15 (l300_61 K15 n) x0 x1 x4 x5 x6 x8 h3) else none
set_option maxRecDepth 20000 in
theorem l300_61_t {w : Option Nat} {d : Nat} {K15 : Option Nat → Int32 → Int32 → Int32 → Int32 → pm_H → tm_L} (hK15 : ∀ {x0 : Option Nat} {x1 : Int32} {x4 : Int32} {x5 : Int32} {x6 : Int32}  {h : pm_H} {r : tm_O × pm_H}, K15 x0 x1 x4 x5 x6 h = some r → pm_to pt_P (pt_G (tm_r w)) (d + 8) (pt_g300, []) (tm_m (15, [(0, .inr (.inr x0)), (1, .inl x1), (4, .inl x4), (5, .inl x5), (6, .inl x6)], [])) h (tm_e r)) : ∀ (n : Nat) {x0 : Option Nat} {x1 : Int32} {x4 : Int32} {x5 : Int32} {x6 : Int32} {x7 : Int32} {x8 : Int32} {h : pm_H} {r : tm_O × pm_H}, l300_61 K15 n x0 x1 x4 x5 x6 x7 x8 h = some r → pm_to pt_P (pt_G (tm_r w)) (d + 8) (pt_g300, []) (tm_m (61, [(0, .inr (.inr x0)), (1, .inl x1), (4, .inl x4), (5, .inl x5), (6, .inl x6), (7, .inl x7), (8, .inl x8)], [])) h (tm_e r) := by
  intro n
  induction n with
  | zero => intro x0 x1 x4 x5 x6 x7 x8 h r hr; cases hr
  | succ n ih =>
    intro x0 x1 x4 x5 x6 x7 x8 h r hr
    unfold l300_61 at hr
    refine tm_n 2 (F' := (65, [(0, .inr (.inr x0)), (1, .inl x1), (4, .inl x4), (5, .inl x5), (6, .inl x6), (7, .inl x7), (8, .inl x8)], [.inl (120 : Int32), .inl x8])) rfl ?_
    by_cases c12 : (120 : Int32) ≤ x8
    · rw [if_pos c12] at hr
      refine tm_icT rfl c12 ?_
      refine tm_cut (a := [(0, .inr (.inr x0)), (1, .inl x1), (4, .inl x4), (5, .inl x5), (6, .inl x6), (7, .inl x7)]) rfl (tm_sbs [0, 1, 2, 3, 4, 5] rfl) ?_
      exact l300_121_t hK15 (fun hr => ih hr) hr
    · rw [if_neg c12] at hr
      refine tm_icF rfl c12 ?_
      refine tm_n 1 (F' := (70, [(0, .inr (.inr x0)), (1, .inl x1), (4, .inl x4), (5, .inl x5), (6, .inl x6), (7, .inl x7), (8, .inl x8)], [.inl x7])) rfl ?_
      by_cases c11 : x7 = (0 : Int32)
      · rw [if_pos c11] at hr
        refine tm_ifT rfl c11 ?_
        refine tm_cut (a := [(0, .inr (.inr x0)), (1, .inl x1), (4, .inl x4), (5, .inl x5), (6, .inl x6), (7, .inl x7)]) rfl (tm_sbs [0, 1, 2, 3, 4, 5] rfl) ?_
        exact l300_121_t hK15 (fun hr => ih hr) hr
      · rw [if_neg c11] at hr
        refine tm_ifF rfl c11 ?_
        refine tm_n 4 (F' := (79, [(0, .inr (.inr x0)), (1, .inl x1), (4, .inl x4), (5, .inl x5), (6, .inl x6), (7, .inl x7), (8, .inl x8)], [.inl x4, .inl x8, .inl x1, .inr (.inr x0)])) rfl ?_
        by_cases c1 : lc_of h x0 = some 10
        · rw [if_pos c1] at hr
          rcases lb_I_s hr with ⟨v2, h3, m4, hr⟩ | ⟨a9, h3, z10, z10l, m4, qz10, rfl⟩
          · try dsimp only at hr
            refine tm_call rfl rfl (tm_callV rfl rfl c1 rfl rfl) (lq_301 m4) ?_
            by_cases c8 : v2 = (0 : Int32)
            · rw [if_pos c8] at hr
              refine tm_ifT rfl c8 ?_
              refine tm_cut (a := [(0, .inr (.inr x0)), (1, .inl x1), (4, .inl x4), (5, .inl x5), (6, .inl x6), (8, .inl x8)]) rfl (tm_sbs [0, 1, 2, 3, 4, 6] rfl) ?_
              exact l300_108_t hK15 (fun hr => ih hr) hr
            · rw [if_neg c8] at hr
              refine tm_ifF rfl c8 ?_
              refine tm_n 1 (F' := (86, [(0, .inr (.inr x0)), (1, .inl x1), (4, .inl x4), (5, .inl x5), (6, .inl x6), (7, .inl x7), (8, .inl x8)], [.inr (.inr x0)])) rfl ?_
              obtain ⟨v5, qv5, hr⟩ := Option.bind_eq_some_iff.mp hr
              refine tm_getf rfl (lf_R_V qv5) ?_
              refine tm_n 7 (F' := (99, [(0, .inr (.inr x0)), (1, .inl x1), (4, .inl x4), (5, .inl x5), (6, .inl x6), (7, .inl x7), (8, .inl x8)], [.inl (((3 : Int32) * x8) + (x6 / (40 : Int32))), .inr (.inr v5)])) rfl ?_
              obtain ⟨v6, qv6, hr⟩ := Option.bind_eq_some_iff.mp hr
              refine tm_ald rfl rfl (la_I_V qv6) ?_
              refine tm_n 3 (F' := (105, [(0, .inr (.inr x0)), (1, .inl x1), (4, .inl x4), (5, .inl x5), (6, .inl x6), (7, .inl x7), (8, .inl x8)], [.inl (x6 - x6 / (40 : Int32) * (40 : Int32)), .inl v6])) rfl ?_
              by_cases c7 : (x6 - x6 / (40 : Int32) * (40 : Int32)) < v6
              · rw [if_pos c7] at hr
                refine tm_icT rfl c7 ?_
                refine tm_n 1 (F' := (113, [(0, .inr (.inr x0)), (1, .inl x1), (4, .inl x4), (5, .inl x5), (6, .inl x6), (7, .inl x7), (8, .inl x8)], [.inl (0 : Int32)])) rfl ?_
                refine tm_cut (a := [(0, .inr (.inr x0)), (1, .inl x1), (4, .inl x4), (5, .inl x5), (6, .inl x6), (8, .inl x8)]) rfl (tm_sbs [0, 1, 2, 3, 4, 6] rfl) ?_
                exact l300_113_t hK15 (fun hr => ih hr) hr
              · rw [if_neg c7] at hr
                refine tm_icF rfl c7 ?_
                refine tm_cut (a := [(0, .inr (.inr x0)), (1, .inl x1), (4, .inl x4), (5, .inl x5), (6, .inl x6), (8, .inl x8)]) rfl (tm_sbs [0, 1, 2, 3, 4, 6] rfl) ?_
                exact l300_108_t hK15 (fun hr => ih hr) hr
          · exact tm_callT rfl rfl (tm_callV rfl rfl c1 rfl rfl) (lq_301 m4) qz10 rfl
        · rw [if_neg c1] at hr
          cases hr
set_option maxRecDepth 20000 in
def l300_56 (K15 : Option Nat → Int32 → Int32 → Int32 → Int32 → pm_H → tm_L) (x0 : Option Nat) (x1 : Int32) (x4 : Int32) (x5 : Int32) (x6 : Int32) (s0 : Int32) (h : pm_H) : tm_L := l300_61 K15 lf_N x0 x1 x4 x5 x6 s0 (0 : Int32) h
set_option maxRecDepth 20000 in
theorem l300_56_t {w : Option Nat} {d : Nat} {K15 : Option Nat → Int32 → Int32 → Int32 → Int32 → pm_H → tm_L} (hK15 : ∀ {x0 : Option Nat} {x1 : Int32} {x4 : Int32} {x5 : Int32} {x6 : Int32}  {h : pm_H} {r : tm_O × pm_H}, K15 x0 x1 x4 x5 x6 h = some r → pm_to pt_P (pt_G (tm_r w)) (d + 8) (pt_g300, []) (tm_m (15, [(0, .inr (.inr x0)), (1, .inl x1), (4, .inl x4), (5, .inl x5), (6, .inl x6)], [])) h (tm_e r)) {x0 : Option Nat} {x1 : Int32} {x4 : Int32} {x5 : Int32} {x6 : Int32} {s0 : Int32} {h : pm_H} {r : tm_O × pm_H} (hr : l300_56 K15 x0 x1 x4 x5 x6 s0 h = some r) : pm_to pt_P (pt_G (tm_r w)) (d + 8) (pt_g300, []) (tm_m (56, [(0, .inr (.inr x0)), (1, .inl x1), (4, .inl x4), (5, .inl x5), (6, .inl x6)], [.inl s0])) h (tm_e r) := by
  unfold l300_56 at hr
  refine tm_n 3 (F' := (61, [(8, .inl (0 : Int32)), (7, .inl s0), (0, .inr (.inr x0)), (1, .inl x1), (4, .inl x4), (5, .inl x5), (6, .inl x6)], [])) rfl ?_
  refine tm_cut (a := [(0, .inr (.inr x0)), (1, .inl x1), (4, .inl x4), (5, .inl x5), (6, .inl x6), (7, .inl s0), (8, .inl (0 : Int32))]) rfl (tm_sbs [2, 3, 4, 5, 6, 1, 0] rfl) ?_
  exact l300_61_t hK15 lf_N hr
set_option maxRecDepth 20000 in
def l300_55 (K15 : Option Nat → Int32 → Int32 → Int32 → Int32 → pm_H → tm_L) (x0 : Option Nat) (x1 : Int32) (x4 : Int32) (x5 : Int32) (x6 : Int32) (h : pm_H) : tm_L := l300_56 K15 x0 x1 x4 x5 x6 (0 : Int32) h
set_option maxRecDepth 20000 in
theorem l300_55_t {w : Option Nat} {d : Nat} {K15 : Option Nat → Int32 → Int32 → Int32 → Int32 → pm_H → tm_L} (hK15 : ∀ {x0 : Option Nat} {x1 : Int32} {x4 : Int32} {x5 : Int32} {x6 : Int32}  {h : pm_H} {r : tm_O × pm_H}, K15 x0 x1 x4 x5 x6 h = some r → pm_to pt_P (pt_G (tm_r w)) (d + 8) (pt_g300, []) (tm_m (15, [(0, .inr (.inr x0)), (1, .inl x1), (4, .inl x4), (5, .inl x5), (6, .inl x6)], [])) h (tm_e r)) {x0 : Option Nat} {x1 : Int32} {x4 : Int32} {x5 : Int32} {x6 : Int32} {h : pm_H} {r : tm_O × pm_H} (hr : l300_55 K15 x0 x1 x4 x5 x6 h = some r) : pm_to pt_P (pt_G (tm_r w)) (d + 8) (pt_g300, []) (tm_m (55, [(0, .inr (.inr x0)), (1, .inl x1), (4, .inl x4), (5, .inl x5), (6, .inl x6)], [])) h (tm_e r) := by
  unfold l300_55 at hr
  refine tm_n 1 (F' := (56, [(0, .inr (.inr x0)), (1, .inl x1), (4, .inl x4), (5, .inl x5), (6, .inl x6)], [.inl (0 : Int32)])) rfl ?_
  refine tm_cut (a := [(0, .inr (.inr x0)), (1, .inl x1), (4, .inl x4), (5, .inl x5), (6, .inl x6)]) rfl (tm_sbs [0, 1, 2, 3, 4] rfl) ?_
  exact l300_56_t hK15 hr
set_option maxRecDepth 20000 in
def l300_15 : Nat → Option Nat → Int32 → Int32 → Int32 → Int32 → pm_H → tm_L
  | 0 => fun _ _ _ _ _ _ => none
  | n + 1 => fun x0 x1 x4 x5 x6 h => if (120 : Int32) ≤ x6 then some (.inl (some (.inl x5)), h) else if x4 < (0 : Int32) then some (.inl (some (.inl x5)), h) else if lc_of h x0 = some 10 then lb_I (ll_301 x0 x1 x6 x4 h) (fun v2 h3 => if v2 = (0 : Int32) then l300_55 (l300_15 n) x0 x1 x4 x5 x6 h3 else (lf_R h3 x0 [10, 35]).bind fun v5 => (la_I h3 .iaload v5 x4).bind fun v6 => if x6 = v6 then l300_55 (l300_15 n) x0 x1 x4 x5 x6 h3 else l300_56 (l300_15 n) x0 x1 x4 x5 x6 (1 : Int32) h3) else none
set_option maxRecDepth 20000 in
theorem l300_15_t {w : Option Nat} {d : Nat} : ∀ (n : Nat) {x0 : Option Nat} {x1 : Int32} {x4 : Int32} {x5 : Int32} {x6 : Int32} {h : pm_H} {r : tm_O × pm_H}, l300_15 n x0 x1 x4 x5 x6 h = some r → pm_to pt_P (pt_G (tm_r w)) (d + 8) (pt_g300, []) (tm_m (15, [(0, .inr (.inr x0)), (1, .inl x1), (4, .inl x4), (5, .inl x5), (6, .inl x6)], [])) h (tm_e r) := by
  intro n
  induction n with
  | zero => intro x0 x1 x4 x5 x6 h r hr; cases hr
  | succ n ih =>
    intro x0 x1 x4 x5 x6 h r hr
    unfold l300_15 at hr
    refine tm_n 2 (F' := (19, [(0, .inr (.inr x0)), (1, .inl x1), (4, .inl x4), (5, .inl x5), (6, .inl x6)], [.inl (120 : Int32), .inl x6])) rfl ?_
    by_cases c12 : (120 : Int32) ≤ x6
    · rw [if_pos c12] at hr
      refine tm_icT rfl c12 ?_
      refine tm_n 1 (F' := (145, [(0, .inr (.inr x0)), (1, .inl x1), (4, .inl x4), (5, .inl x5), (6, .inl x6)], [.inl x5])) rfl ?_
      cases hr
      exact tm_retI rfl rfl
    · rw [if_neg c12] at hr
      refine tm_icF rfl c12 ?_
      refine tm_n 1 (F' := (24, [(0, .inr (.inr x0)), (1, .inl x1), (4, .inl x4), (5, .inl x5), (6, .inl x6)], [.inl x4])) rfl ?_
      by_cases c11 : x4 < (0 : Int32)
      · rw [if_pos c11] at hr
        refine tm_ifT rfl c11 ?_
        refine tm_n 1 (F' := (145, [(0, .inr (.inr x0)), (1, .inl x1), (4, .inl x4), (5, .inl x5), (6, .inl x6)], [.inl x5])) rfl ?_
        cases hr
        exact tm_retI rfl rfl
      · rw [if_neg c11] at hr
        refine tm_ifF rfl c11 ?_
        refine tm_n 4 (F' := (33, [(0, .inr (.inr x0)), (1, .inl x1), (4, .inl x4), (5, .inl x5), (6, .inl x6)], [.inl x4, .inl x6, .inl x1, .inr (.inr x0)])) rfl ?_
        by_cases c1 : lc_of h x0 = some 10
        · rw [if_pos c1] at hr
          rcases lb_I_s hr with ⟨v2, h3, m4, hr⟩ | ⟨a9, h3, z10, z10l, m4, qz10, rfl⟩
          · try dsimp only at hr
            refine tm_call rfl rfl (tm_callV rfl rfl c1 rfl rfl) (lq_301 m4) ?_
            by_cases c8 : v2 = (0 : Int32)
            · rw [if_pos c8] at hr
              refine tm_ifT rfl c8 ?_
              refine tm_cut (a := [(0, .inr (.inr x0)), (1, .inl x1), (4, .inl x4), (5, .inl x5), (6, .inl x6)]) rfl (tm_sbs [0, 1, 2, 3, 4] rfl) ?_
              exact l300_55_t (fun hr => ih hr) hr
            · rw [if_neg c8] at hr
              refine tm_ifF rfl c8 ?_
              refine tm_n 2 (F' := (42, [(0, .inr (.inr x0)), (1, .inl x1), (4, .inl x4), (5, .inl x5), (6, .inl x6)], [.inr (.inr x0), .inl x6])) rfl ?_
              obtain ⟨v5, qv5, hr⟩ := Option.bind_eq_some_iff.mp hr
              refine tm_getf rfl (lf_R_V qv5) ?_
              refine tm_n 1 (F' := (47, [(0, .inr (.inr x0)), (1, .inl x1), (4, .inl x4), (5, .inl x5), (6, .inl x6)], [.inl x4, .inr (.inr v5), .inl x6])) rfl ?_
              obtain ⟨v6, qv6, hr⟩ := Option.bind_eq_some_iff.mp hr
              refine tm_ald rfl rfl (la_I_V qv6) ?_
              by_cases c7 : x6 = v6
              · rw [if_pos c7] at hr
                refine tm_icT rfl c7 ?_
                refine tm_cut (a := [(0, .inr (.inr x0)), (1, .inl x1), (4, .inl x4), (5, .inl x5), (6, .inl x6)]) rfl (tm_sbs [0, 1, 2, 3, 4] rfl) ?_
                exact l300_55_t (fun hr => ih hr) hr
              · rw [if_neg c7] at hr
                refine tm_icF rfl c7 ?_
                refine tm_n 2 (F' := (56, [(0, .inr (.inr x0)), (1, .inl x1), (4, .inl x4), (5, .inl x5), (6, .inl x6)], [.inl (1 : Int32)])) rfl ?_
                refine tm_cut (a := [(0, .inr (.inr x0)), (1, .inl x1), (4, .inl x4), (5, .inl x5), (6, .inl x6)]) rfl (tm_sbs [0, 1, 2, 3, 4] rfl) ?_
                exact l300_56_t (fun hr => ih hr) hr
          · exact tm_callT rfl rfl (tm_callV rfl rfl c1 rfl rfl) (lq_301 m4) qz10 rfl
        · rw [if_neg c1] at hr
          cases hr
set_option maxRecDepth 20000 in
def ll_300 (a0 : Option Nat) (a1 : Int32) (a2 : Int32) (a3 : Int32) (h : pm_H) : tm_L := if lc_of h a0 = some 10 then lb_I (ll_280 a0 a1 a2 a3 h) (fun v2 h3 => l300_15 lf_N a0 a1 v2 (0 : Int32) (0 : Int32) h3) else none
set_option maxRecDepth 20000 in
theorem lq_300 {w : Option Nat} {d : Nat} {a0 : Option Nat} {a1 : Int32} {a2 : Int32} {a3 : Int32} {h : pm_H} {r : tm_O × pm_H} (hr : ll_300 a0 a1 a2 a3 h = some r) : tm_run pt_P (pt_G (tm_r w)) (d + 8) 300 [.inr (.inr a0), .inl a1, .inl a2, .inl a3] h r := by
  unfold ll_300 at hr
  show pm_to pt_P (pt_G (tm_r w)) (d + 8) (pt_g300, []) (tm_m (0, [(0, .inr (.inr a0)), (1, .inl a1), (2, .inl a2), (3, .inl a3)], [])) h (tm_e r)
  refine tm_n 4 (F' := (4, [(0, .inr (.inr a0)), (1, .inl a1), (2, .inl a2), (3, .inl a3)], [.inl a3, .inl a2, .inl a1, .inr (.inr a0)])) rfl ?_
  by_cases c1 : lc_of h a0 = some 10
  · rw [if_pos c1] at hr
    rcases lb_I_s hr with ⟨v2, h3, m4, hr⟩ | ⟨a5, h3, z6, z6l, m4, qz6, rfl⟩
    · try dsimp only at hr
      refine tm_call rfl rfl (tm_callV rfl rfl c1 rfl rfl) (lq_280 m4) ?_
      refine tm_n 5 (F' := (15, [(6, .inl (0 : Int32)), (5, .inl (0 : Int32)), (4, .inl v2), (0, .inr (.inr a0)), (1, .inl a1), (2, .inl a2), (3, .inl a3)], [])) rfl ?_
      refine tm_cut (a := [(0, .inr (.inr a0)), (1, .inl a1), (4, .inl v2), (5, .inl (0 : Int32)), (6, .inl (0 : Int32))]) rfl (tm_sbs [3, 4, 2, 1, 0] rfl) ?_
      exact l300_15_t lf_N hr
    · exact tm_callT rfl rfl (tm_callV rfl rfl c1 rfl rfl) (lq_280 m4) qz6 rfl
  · rw [if_neg c1] at hr
    cases hr
-- OfficeSheetModel.say(I)V
set_option maxRecDepth 20000 in
def ll_303 (a0 : Option Nat) (a1 : Int32) (h : pm_H) : tm_L := (lf_R h a0 [10, 40]).bind fun v1 => (lf_I h a0 [10, 39]).bind fun v2 => (la_S pt_P h .iastore v1 v2 (.inl a1)).bind fun h3 => (lf_I h3 a0 [10, 39]).bind fun v4 => (lf_P 81 h3 a0 [0, 10, 39] (.inl (v4 + (1 : Int32)))).bind fun h5 => some (.inl none, h5)
set_option maxRecDepth 20000 in
theorem lq_303 {w : Option Nat} {d : Nat} {a0 : Option Nat} {a1 : Int32} {h : pm_H} {r : tm_O × pm_H} (hr : ll_303 a0 a1 h = some r) : tm_run pt_P (pt_G (tm_r w)) (d + 0) 303 [.inr (.inr a0), .inl a1] h r := by
  unfold ll_303 at hr
  show pm_to pt_P (pt_G (tm_r w)) (d + 0) (pt_g303, []) (tm_m (0, [(0, .inr (.inr a0)), (1, .inl a1)], [])) h (tm_e r)
  refine tm_n 1 (F' := (1, [(0, .inr (.inr a0)), (1, .inl a1)], [.inr (.inr a0)])) rfl ?_
  obtain ⟨v1, qv1, hr⟩ := Option.bind_eq_some_iff.mp hr
  refine tm_getf rfl (lf_R_V qv1) ?_
  refine tm_n 1 (F' := (5, [(0, .inr (.inr a0)), (1, .inl a1)], [.inr (.inr a0), .inr (.inr v1)])) rfl ?_
  obtain ⟨v2, qv2, hr⟩ := Option.bind_eq_some_iff.mp hr
  refine tm_getf rfl (lf_I_V qv2) ?_
  refine tm_n 1 (F' := (9, [(0, .inr (.inr a0)), (1, .inl a1)], [.inl a1, .inl v2, .inr (.inr v1)])) rfl ?_
  obtain ⟨h3, qh3, hr⟩ := Option.bind_eq_some_iff.mp hr
  refine tm_ast rfl rfl qh3 ?_
  refine tm_n 2 (F' := (12, [(0, .inr (.inr a0)), (1, .inl a1)], [.inr (.inr a0), .inr (.inr a0)])) rfl ?_
  obtain ⟨v4, qv4, hr⟩ := Option.bind_eq_some_iff.mp hr
  refine tm_getf rfl (lf_I_V qv4) ?_
  refine tm_n 2 (F' := (17, [(0, .inr (.inr a0)), (1, .inl a1)], [.inl (v4 + (1 : Int32)), .inr (.inr a0)])) rfl ?_
  obtain ⟨h5, qh5, hr⟩ := Option.bind_eq_some_iff.mp hr
  refine tm_putf rfl qh5 ?_
  cases hr
  exact tm_retV rfl
-- OfficeSheetModel.plan(I)V
set_option maxRecDepth 20000 in
def ll_304 (a0 : Option Nat) (a1 : Int32) (h : pm_H) : tm_L := (lf_R h a0 [10, 42]).bind fun v1 => (lf_I h a0 [10, 43]).bind fun v2 => (la_S pt_P h .iastore v1 v2 (.inl a1)).bind fun h3 => (lf_I h3 a0 [10, 43]).bind fun v4 => (lf_P 81 h3 a0 [0, 10, 43] (.inl (v4 + (1 : Int32)))).bind fun h5 => some (.inl none, h5)
set_option maxRecDepth 20000 in
theorem lq_304 {w : Option Nat} {d : Nat} {a0 : Option Nat} {a1 : Int32} {h : pm_H} {r : tm_O × pm_H} (hr : ll_304 a0 a1 h = some r) : tm_run pt_P (pt_G (tm_r w)) (d + 0) 304 [.inr (.inr a0), .inl a1] h r := by
  unfold ll_304 at hr
  show pm_to pt_P (pt_G (tm_r w)) (d + 0) (pt_g304, []) (tm_m (0, [(0, .inr (.inr a0)), (1, .inl a1)], [])) h (tm_e r)
  refine tm_n 1 (F' := (1, [(0, .inr (.inr a0)), (1, .inl a1)], [.inr (.inr a0)])) rfl ?_
  obtain ⟨v1, qv1, hr⟩ := Option.bind_eq_some_iff.mp hr
  refine tm_getf rfl (lf_R_V qv1) ?_
  refine tm_n 1 (F' := (5, [(0, .inr (.inr a0)), (1, .inl a1)], [.inr (.inr a0), .inr (.inr v1)])) rfl ?_
  obtain ⟨v2, qv2, hr⟩ := Option.bind_eq_some_iff.mp hr
  refine tm_getf rfl (lf_I_V qv2) ?_
  refine tm_n 1 (F' := (9, [(0, .inr (.inr a0)), (1, .inl a1)], [.inl a1, .inl v2, .inr (.inr v1)])) rfl ?_
  obtain ⟨h3, qh3, hr⟩ := Option.bind_eq_some_iff.mp hr
  refine tm_ast rfl rfl qh3 ?_
  refine tm_n 2 (F' := (12, [(0, .inr (.inr a0)), (1, .inl a1)], [.inr (.inr a0), .inr (.inr a0)])) rfl ?_
  obtain ⟨v4, qv4, hr⟩ := Option.bind_eq_some_iff.mp hr
  refine tm_getf rfl (lf_I_V qv4) ?_
  refine tm_n 2 (F' := (17, [(0, .inr (.inr a0)), (1, .inl a1)], [.inl (v4 + (1 : Int32)), .inr (.inr a0)])) rfl ?_
  obtain ⟨h5, qh5, hr⟩ := Option.bind_eq_some_iff.mp hr
  refine tm_putf rfl qh5 ?_
  cases hr
  exact tm_retV rfl
-- OfficeSheetModel.sayWhole(I)V
set_option maxRecDepth 20000 in
def l307_18 : Nat → Option Nat → Int32 → Int32 → pm_H → tm_L
  | 0 => fun _ _ _ _ => none
  | n + 1 => fun x0 x1 x2 h => if x2 ≤ (0 : Int32) then some (.inl none, h) else if x2 = 0 then none else if lc_of h x0 = some 10 then lb_V (ll_303 x0 ((48 : Int32) + ((x1 / x2) - (x1 / x2) / (10 : Int32) * (10 : Int32))) h) (fun h4 => l307_18 n x0 x1 (x2 / (10 : Int32)) h4) else none
set_option maxRecDepth 20000 in
theorem l307_18_t {w : Option Nat} {d : Nat} : ∀ (n : Nat) {x0 : Option Nat} {x1 : Int32} {x2 : Int32} {h : pm_H} {r : tm_O × pm_H}, l307_18 n x0 x1 x2 h = some r → pm_to pt_P (pt_G (tm_r w)) (d + 1) (pt_g307, []) (tm_m (18, [(0, .inr (.inr x0)), (1, .inl x1), (2, .inl x2)], [])) h (tm_e r) := by
  intro n
  induction n with
  | zero => intro x0 x1 x2 h r hr; cases hr
  | succ n ih =>
    intro x0 x1 x2 h r hr
    unfold l307_18 at hr
    refine tm_n 1 (F' := (19, [(0, .inr (.inr x0)), (1, .inl x1), (2, .inl x2)], [.inl x2])) rfl ?_
    by_cases c8 : x2 ≤ (0 : Int32)
    · rw [if_pos c8] at hr
      refine tm_ifT rfl c8 ?_
      cases hr
      exact tm_retV rfl
    · rw [if_neg c8] at hr
      refine tm_ifF rfl c8 ?_
      refine tm_n 4 (F' := (27, [(0, .inr (.inr x0)), (1, .inl x1), (2, .inl x2)], [.inl x2, .inl x1, .inl (48 : Int32), .inr (.inr x0)])) rfl ?_
      by_cases c1 : x2 = 0
      · rw [if_pos c1] at hr
        cases hr
      · rw [if_neg c1] at hr
        refine tm_idiv rfl c1 ?_
        refine tm_n 3 (F' := (32, [(0, .inr (.inr x0)), (1, .inl x1), (2, .inl x2)], [.inl ((48 : Int32) + ((x1 / x2) - (x1 / x2) / (10 : Int32) * (10 : Int32))), .inr (.inr x0)])) rfl ?_
        by_cases c2 : lc_of h x0 = some 10
        · rw [if_pos c2] at hr
          rcases lb_V_s hr with ⟨h4, m5, hr⟩ | ⟨a6, h4, z7, z7l, m5, qz7, rfl⟩
          · try dsimp only at hr
            refine tm_call rfl rfl (tm_callV rfl rfl c2 rfl rfl) (lq_303 m5) ?_
            refine tm_n 5 (F' := (18, [(2, .inl (x2 / (10 : Int32))), (0, .inr (.inr x0)), (1, .inl x1)], [])) rfl ?_
            refine tm_cut (a := [(0, .inr (.inr x0)), (1, .inl x1), (2, .inl (x2 / (10 : Int32)))]) rfl (tm_sbs [1, 2, 0] rfl) ?_
            exact ih hr
          · exact tm_callT rfl rfl (tm_callV rfl rfl c2 rfl rfl) (lq_303 m5) qz7 rfl
        · rw [if_neg c2] at hr
          cases hr
set_option maxRecDepth 20000 in
def l307_2 : Nat → Option Nat → Int32 → Int32 → pm_H → tm_L
  | 0 => fun _ _ _ _ => none
  | n + 1 => fun x0 x1 x2 h => if x2 = 0 then none else if (x1 / x2) ≤ (9 : Int32) then l307_18 lf_N x0 x1 x2 h else l307_2 n x0 x1 (x2 * (10 : Int32)) h
set_option maxRecDepth 20000 in
theorem l307_2_t {w : Option Nat} {d : Nat} : ∀ (n : Nat) {x0 : Option Nat} {x1 : Int32} {x2 : Int32} {h : pm_H} {r : tm_O × pm_H}, l307_2 n x0 x1 x2 h = some r → pm_to pt_P (pt_G (tm_r w)) (d + 1) (pt_g307, []) (tm_m (2, [(0, .inr (.inr x0)), (1, .inl x1), (2, .inl x2)], [])) h (tm_e r) := by
  intro n
  induction n with
  | zero => intro x0 x1 x2 h r hr; cases hr
  | succ n ih =>
    intro x0 x1 x2 h r hr
    unfold l307_2 at hr
    refine tm_n 2 (F' := (4, [(0, .inr (.inr x0)), (1, .inl x1), (2, .inl x2)], [.inl x2, .inl x1])) rfl ?_
    by_cases c1 : x2 = 0
    · rw [if_pos c1] at hr
      cases hr
    · rw [if_neg c1] at hr
      refine tm_idiv rfl c1 ?_
      refine tm_n 1 (F' := (7, [(0, .inr (.inr x0)), (1, .inl x1), (2, .inl x2)], [.inl (9 : Int32), .inl (x1 / x2)])) rfl ?_
      by_cases c2 : (x1 / x2) ≤ (9 : Int32)
      · rw [if_pos c2] at hr
        refine tm_icT rfl c2 ?_
        refine tm_cut (a := [(0, .inr (.inr x0)), (1, .inl x1), (2, .inl x2)]) rfl (tm_sbs [0, 1, 2] rfl) ?_
        exact l307_18_t lf_N hr
      · rw [if_neg c2] at hr
        refine tm_icF rfl c2 ?_
        refine tm_n 5 (F' := (2, [(2, .inl (x2 * (10 : Int32))), (0, .inr (.inr x0)), (1, .inl x1)], [])) rfl ?_
        refine tm_cut (a := [(0, .inr (.inr x0)), (1, .inl x1), (2, .inl (x2 * (10 : Int32)))]) rfl (tm_sbs [1, 2, 0] rfl) ?_
        exact ih hr
set_option maxRecDepth 20000 in
def ll_307 (a0 : Option Nat) (a1 : Int32) (h : pm_H) : tm_L := l307_2 lf_N a0 a1 (1 : Int32) h
set_option maxRecDepth 20000 in
theorem lq_307 {w : Option Nat} {d : Nat} {a0 : Option Nat} {a1 : Int32} {h : pm_H} {r : tm_O × pm_H} (hr : ll_307 a0 a1 h = some r) : tm_run pt_P (pt_G (tm_r w)) (d + 1) 307 [.inr (.inr a0), .inl a1] h r := by
  unfold ll_307 at hr
  show pm_to pt_P (pt_G (tm_r w)) (d + 1) (pt_g307, []) (tm_m (0, [(0, .inr (.inr a0)), (1, .inl a1)], [])) h (tm_e r)
  refine tm_n 2 (F' := (2, [(2, .inl (1 : Int32)), (0, .inr (.inr a0)), (1, .inl a1)], [])) rfl ?_
  refine tm_cut (a := [(0, .inr (.inr a0)), (1, .inl a1), (2, .inl (1 : Int32))]) rfl (tm_sbs [1, 2, 0] rfl) ?_
  exact l307_2_t lf_N hr
-- OfficeSheetModel.sayNumber(I)V
set_option maxRecDepth 20000 in
def l306_46 : Nat → Option Nat → Int32 → pm_H → tm_L
  | 0 => fun _ _ _ => none
  | n + 1 => fun x0 x3 h => if x3 ≤ (0 : Int32) then some (.inl none, h) else if lc_of h x0 = some 10 then lb_V (ll_303 x0 ((48 : Int32) + (x3 / (1000 : Int32))) h) (fun h3 => l306_46 n x0 ((x3 - x3 / (1000 : Int32) * (1000 : Int32)) * (10 : Int32)) h3) else none
set_option maxRecDepth 20000 in
theorem l306_46_t {w : Option Nat} {d : Nat} : ∀ (n : Nat) {x0 : Option Nat} {x3 : Int32} {h : pm_H} {r : tm_O × pm_H}, l306_46 n x0 x3 h = some r → pm_to pt_P (pt_G (tm_r w)) (d + 2) (pt_g306, []) (tm_m (46, [(0, .inr (.inr x0)), (3, .inl x3)], [])) h (tm_e r) := by
  intro n
  induction n with
  | zero => intro x0 x3 h r hr; cases hr
  | succ n ih =>
    intro x0 x3 h r hr
    unfold l306_46 at hr
    refine tm_n 1 (F' := (47, [(0, .inr (.inr x0)), (3, .inl x3)], [.inl x3])) rfl ?_
    by_cases c7 : x3 ≤ (0 : Int32)
    · rw [if_pos c7] at hr
      refine tm_ifT rfl c7 ?_
      cases hr
      exact tm_retV rfl
    · rw [if_neg c7] at hr
      refine tm_ifF rfl c7 ?_
      refine tm_n 6 (F' := (59, [(0, .inr (.inr x0)), (3, .inl x3)], [.inl ((48 : Int32) + (x3 / (1000 : Int32))), .inr (.inr x0)])) rfl ?_
      by_cases c1 : lc_of h x0 = some 10
      · rw [if_pos c1] at hr
        rcases lb_V_s hr with ⟨h3, m4, hr⟩ | ⟨a5, h3, z6, z6l, m4, qz6, rfl⟩
        · try dsimp only at hr
          refine tm_call rfl rfl (tm_callV rfl rfl c1 rfl rfl) (lq_303 m4) ?_
          refine tm_n 7 (F' := (46, [(3, .inl ((x3 - x3 / (1000 : Int32) * (1000 : Int32)) * (10 : Int32))), (0, .inr (.inr x0))], [])) rfl ?_
          refine tm_cut (a := [(0, .inr (.inr x0)), (3, .inl ((x3 - x3 / (1000 : Int32) * (1000 : Int32)) * (10 : Int32)))]) rfl (tm_sbs [1, 0] rfl) ?_
          exact ih hr
        · exact tm_callT rfl rfl (tm_callV rfl rfl c1 rfl rfl) (lq_303 m4) qz6 rfl
      · rw [if_neg c1] at hr
        cases hr
set_option maxRecDepth 20000 in
def l306_21 (x0 : Option Nat) (x2 : Int32) (h : pm_H) : tm_L := if lc_of h x0 = some 10 then lb_V (ll_307 x0 (x2 / (10000 : Int32)) h) (fun h3 => if (x2 - x2 / (10000 : Int32) * (10000 : Int32)) ≤ (0 : Int32) then l306_46 lf_N x0 (x2 - x2 / (10000 : Int32) * (10000 : Int32)) h3 else if lc_of h3 x0 = some 10 then lb_V (ll_303 x0 (46 : Int32) h3) (fun h7 => l306_46 lf_N x0 (x2 - x2 / (10000 : Int32) * (10000 : Int32)) h7) else none) else none
set_option maxRecDepth 20000 in
theorem l306_21_t {w : Option Nat} {d : Nat} {x0 : Option Nat} {x2 : Int32} {h : pm_H} {r : tm_O × pm_H} (hr : l306_21 x0 x2 h = some r) : pm_to pt_P (pt_G (tm_r w)) (d + 2) (pt_g306, []) (tm_m (21, [(0, .inr (.inr x0)), (2, .inl x2)], [])) h (tm_e r) := by
  unfold l306_21 at hr
  refine tm_n 4 (F' := (27, [(0, .inr (.inr x0)), (2, .inl x2)], [.inl (x2 / (10000 : Int32)), .inr (.inr x0)])) rfl ?_
  by_cases c1 : lc_of h x0 = some 10
  · rw [if_pos c1] at hr
    rcases lb_V_s hr with ⟨h3, m4, hr⟩ | ⟨a12, h3, z13, z13l, m4, qz13, rfl⟩
    · try dsimp only at hr
      refine tm_call rfl rfl (tm_callV rfl rfl c1 rfl rfl) (lq_307 m4) ?_
      refine tm_n 5 (F' := (37, [(3, .inl (x2 - x2 / (10000 : Int32) * (10000 : Int32))), (0, .inr (.inr x0)), (2, .inl x2)], [.inl (x2 - x2 / (10000 : Int32) * (10000 : Int32))])) rfl ?_
      by_cases c11 : (x2 - x2 / (10000 : Int32) * (10000 : Int32)) ≤ (0 : Int32)
      · rw [if_pos c11] at hr
        refine tm_ifT rfl c11 ?_
        refine tm_cut (a := [(0, .inr (.inr x0)), (3, .inl (x2 - x2 / (10000 : Int32) * (10000 : Int32)))]) rfl (tm_sbs [1, 0] rfl) ?_
        exact l306_46_t lf_N hr
      · rw [if_neg c11] at hr
        refine tm_ifF rfl c11 ?_
        refine tm_n 2 (F' := (43, [(3, .inl (x2 - x2 / (10000 : Int32) * (10000 : Int32))), (0, .inr (.inr x0)), (2, .inl x2)], [.inl (46 : Int32), .inr (.inr x0)])) rfl ?_
        by_cases c5 : lc_of h3 x0 = some 10
        · rw [if_pos c5] at hr
          rcases lb_V_s hr with ⟨h7, m8, hr⟩ | ⟨a9, h7, z10, z10l, m8, qz10, rfl⟩
          · try dsimp only at hr
            refine tm_call rfl rfl (tm_callV rfl rfl c5 rfl rfl) (lq_303 m8) ?_
            refine tm_cut (a := [(0, .inr (.inr x0)), (3, .inl (x2 - x2 / (10000 : Int32) * (10000 : Int32)))]) rfl (tm_sbs [1, 0] rfl) ?_
            exact l306_46_t lf_N hr
          · exact tm_callT rfl rfl (tm_callV rfl rfl c5 rfl rfl) (lq_303 m8) qz10 rfl
        · rw [if_neg c5] at hr
          cases hr
    · exact tm_callT rfl rfl (tm_callV rfl rfl c1 rfl rfl) (lq_307 m4) qz13 rfl
  · rw [if_neg c1] at hr
    cases hr
set_option maxRecDepth 20000 in
def l306_10 (x0 : Option Nat) (x1 : Int32) (s0 : Int32) (h : pm_H) : tm_L := if (0 : Int32) ≤ x1 then l306_21 x0 s0 h else if lc_of h x0 = some 10 then lb_V (ll_303 x0 (45 : Int32) h) (fun h3 => l306_21 x0 s0 h3) else none
set_option maxRecDepth 20000 in
theorem l306_10_t {w : Option Nat} {d : Nat} {x0 : Option Nat} {x1 : Int32} {s0 : Int32} {h : pm_H} {r : tm_O × pm_H} (hr : l306_10 x0 x1 s0 h = some r) : pm_to pt_P (pt_G (tm_r w)) (d + 2) (pt_g306, []) (tm_m (10, [(0, .inr (.inr x0)), (1, .inl x1)], [.inl s0])) h (tm_e r) := by
  unfold l306_10 at hr
  refine tm_n 2 (F' := (12, [(2, .inl s0), (0, .inr (.inr x0)), (1, .inl x1)], [.inl x1])) rfl ?_
  by_cases c7 : (0 : Int32) ≤ x1
  · rw [if_pos c7] at hr
    refine tm_ifT rfl c7 ?_
    refine tm_cut (a := [(0, .inr (.inr x0)), (2, .inl s0)]) rfl (tm_sbs [1, 0] rfl) ?_
    exact l306_21_t hr
  · rw [if_neg c7] at hr
    refine tm_ifF rfl c7 ?_
    refine tm_n 2 (F' := (18, [(2, .inl s0), (0, .inr (.inr x0)), (1, .inl x1)], [.inl (45 : Int32), .inr (.inr x0)])) rfl ?_
    by_cases c1 : lc_of h x0 = some 10
    · rw [if_pos c1] at hr
      rcases lb_V_s hr with ⟨h3, m4, hr⟩ | ⟨a5, h3, z6, z6l, m4, qz6, rfl⟩
      · try dsimp only at hr
        refine tm_call rfl rfl (tm_callV rfl rfl c1 rfl rfl) (lq_303 m4) ?_
        refine tm_cut (a := [(0, .inr (.inr x0)), (2, .inl s0)]) rfl (tm_sbs [1, 0] rfl) ?_
        exact l306_21_t hr
      · exact tm_callT rfl rfl (tm_callV rfl rfl c1 rfl rfl) (lq_303 m4) qz6 rfl
    · rw [if_neg c1] at hr
      cases hr
set_option maxRecDepth 20000 in
def ll_306 (a0 : Option Nat) (a1 : Int32) (h : pm_H) : tm_L := if (0 : Int32) ≤ a1 then l306_10 a0 a1 a1 h else l306_10 a0 a1 (-a1) h
set_option maxRecDepth 20000 in
theorem lq_306 {w : Option Nat} {d : Nat} {a0 : Option Nat} {a1 : Int32} {h : pm_H} {r : tm_O × pm_H} (hr : ll_306 a0 a1 h = some r) : tm_run pt_P (pt_G (tm_r w)) (d + 2) 306 [.inr (.inr a0), .inl a1] h r := by
  unfold ll_306 at hr
  show pm_to pt_P (pt_G (tm_r w)) (d + 2) (pt_g306, []) (tm_m (0, [(0, .inr (.inr a0)), (1, .inl a1)], [])) h (tm_e r)
  refine tm_n 1 (F' := (1, [(0, .inr (.inr a0)), (1, .inl a1)], [.inl a1])) rfl ?_
  by_cases c1 : (0 : Int32) ≤ a1
  · rw [if_pos c1] at hr
    refine tm_ifT rfl c1 ?_
    refine tm_n 1 (F' := (10, [(0, .inr (.inr a0)), (1, .inl a1)], [.inl a1])) rfl ?_
    refine tm_cut (a := [(0, .inr (.inr a0)), (1, .inl a1)]) rfl (tm_sbs [0, 1] rfl) ?_
    exact l306_10_t hr
  · rw [if_neg c1] at hr
    refine tm_ifF rfl c1 ?_
    refine tm_n 3 (F' := (10, [(0, .inr (.inr a0)), (1, .inl a1)], [.inl (-a1)])) rfl ?_
    refine tm_cut (a := [(0, .inr (.inr a0)), (1, .inl a1)]) rfl (tm_sbs [0, 1] rfl) ?_
    exact l306_10_t hr
-- OfficeSheetModel.canName(II)Z
set_option maxRecDepth 20000 in
def ll_308 (a0 : Option Nat) (a1 : Int32) (a2 : Int32) (h : pm_H) : tm_L := if lc_of h a0 = some 10 then lb_I (ll_287 a0 a1 a2 h) (fun v2 h3 => if v2 = (0 : Int32) then some (.inl (some (.inl (0 : Int32))), h3) else if lc_of h3 a0 = some 10 then lb_I (ll_288 a0 a1 (1 : Int32) (a2 / (128 : Int32)) h3) (fun v6 h7 => if (26 : Int32) ≤ v6 then some (.inl (some (.inl (0 : Int32))), h7) else some (.inl (some (.inl (1 : Int32))), h7)) else none) else none
set_option maxRecDepth 20000 in
theorem lq_308 {w : Option Nat} {d : Nat} {a0 : Option Nat} {a1 : Int32} {a2 : Int32} {h : pm_H} {r : tm_O × pm_H} (hr : ll_308 a0 a1 a2 h = some r) : tm_run pt_P (pt_G (tm_r w)) (d + 3) 308 [.inr (.inr a0), .inl a1, .inl a2] h r := by
  unfold ll_308 at hr
  show pm_to pt_P (pt_G (tm_r w)) (d + 3) (pt_g308, []) (tm_m (0, [(0, .inr (.inr a0)), (1, .inl a1), (2, .inl a2)], [])) h (tm_e r)
  refine tm_n 3 (F' := (3, [(0, .inr (.inr a0)), (1, .inl a1), (2, .inl a2)], [.inl a2, .inl a1, .inr (.inr a0)])) rfl ?_
  by_cases c1 : lc_of h a0 = some 10
  · rw [if_pos c1] at hr
    rcases lb_I_s hr with ⟨v2, h3, m4, hr⟩ | ⟨a13, h3, z14, z14l, m4, qz14, rfl⟩
    · try dsimp only at hr
      refine tm_call rfl rfl (tm_callV rfl rfl c1 rfl rfl) (lq_287 m4) ?_
      by_cases c12 : v2 = (0 : Int32)
      · rw [if_pos c12] at hr
        refine tm_ifT rfl c12 ?_
        refine tm_n 1 (F' := (30, [(0, .inr (.inr a0)), (1, .inl a1), (2, .inl a2)], [.inl (0 : Int32)])) rfl ?_
        cases hr
        exact tm_retI rfl rfl
      · rw [if_neg c12] at hr
        refine tm_ifF rfl c12 ?_
        refine tm_n 6 (F' := (17, [(0, .inr (.inr a0)), (1, .inl a1), (2, .inl a2)], [.inl (a2 / (128 : Int32)), .inl (1 : Int32), .inl a1, .inr (.inr a0)])) rfl ?_
        by_cases c5 : lc_of h3 a0 = some 10
        · rw [if_pos c5] at hr
          rcases lb_I_s hr with ⟨v6, h7, m8, hr⟩ | ⟨a10, h7, z11, z11l, m8, qz11, rfl⟩
          · try dsimp only at hr
            refine tm_call rfl rfl (tm_callV rfl rfl c5 rfl rfl) (lq_288 m8) ?_
            refine tm_n 1 (F' := (22, [(0, .inr (.inr a0)), (1, .inl a1), (2, .inl a2)], [.inl (26 : Int32), .inl v6])) rfl ?_
            by_cases c9 : (26 : Int32) ≤ v6
            · rw [if_pos c9] at hr
              refine tm_icT rfl c9 ?_
              refine tm_n 1 (F' := (30, [(0, .inr (.inr a0)), (1, .inl a1), (2, .inl a2)], [.inl (0 : Int32)])) rfl ?_
              cases hr
              exact tm_retI rfl rfl
            · rw [if_neg c9] at hr
              refine tm_icF rfl c9 ?_
              refine tm_n 2 (F' := (30, [(0, .inr (.inr a0)), (1, .inl a1), (2, .inl a2)], [.inl (1 : Int32)])) rfl ?_
              cases hr
              exact tm_retI rfl rfl
          · exact tm_callT rfl rfl (tm_callV rfl rfl c5 rfl rfl) (lq_288 m8) qz11 rfl
        · rw [if_neg c5] at hr
          cases hr
    · exact tm_callT rfl rfl (tm_callV rfl rfl c1 rfl rfl) (lq_287 m4) qz14 rfl
  · rw [if_neg c1] at hr
    cases hr
-- OfficeSheetModel.sayName(II)V
set_option maxRecDepth 20000 in
def ll_309 (a0 : Option Nat) (a1 : Int32) (a2 : Int32) (h : pm_H) : tm_L := if lc_of h a0 = some 10 then lb_I (ll_288 a0 a1 (1 : Int32) (a2 / (128 : Int32)) h) (fun v2 h3 => if lc_of h3 a0 = some 10 then lb_V (ll_303 a0 ((65 : Int32) + v2) h3) (fun h7 => if lc_of h7 a0 = some 10 then lb_I (ll_288 a0 a1 (0 : Int32) (a2 - a2 / (128 : Int32) * (128 : Int32)) h7) (fun v10 h11 => if lc_of h11 a0 = some 10 then lb_V (ll_307 a0 (v10 + (1 : Int32)) h11) (fun h15 => some (.inl none, h15)) else none) else none) else none) else none
set_option maxRecDepth 20000 in
theorem lq_309 {w : Option Nat} {d : Nat} {a0 : Option Nat} {a1 : Int32} {a2 : Int32} {h : pm_H} {r : tm_O × pm_H} (hr : ll_309 a0 a1 a2 h = some r) : tm_run pt_P (pt_G (tm_r w)) (d + 2) 309 [.inr (.inr a0), .inl a1, .inl a2] h r := by
  unfold ll_309 at hr
  show pm_to pt_P (pt_G (tm_r w)) (d + 2) (pt_g309, []) (tm_m (0, [(0, .inr (.inr a0)), (1, .inl a1), (2, .inl a2)], [])) h (tm_e r)
  refine tm_n 8 (F' := (11, [(0, .inr (.inr a0)), (1, .inl a1), (2, .inl a2)], [.inl (a2 / (128 : Int32)), .inl (1 : Int32), .inl a1, .inr (.inr a0), .inl (65 : Int32), .inr (.inr a0)])) rfl ?_
  by_cases c1 : lc_of h a0 = some 10
  · rw [if_pos c1] at hr
    rcases lb_I_s hr with ⟨v2, h3, m4, hr⟩ | ⟨a23, h3, z24, z24l, m4, qz24, rfl⟩
    · try dsimp only at hr
      refine tm_call rfl rfl (tm_callV rfl rfl c1 rfl rfl) (lq_288 m4) ?_
      refine tm_n 1 (F' := (15, [(0, .inr (.inr a0)), (1, .inl a1), (2, .inl a2)], [.inl ((65 : Int32) + v2), .inr (.inr a0)])) rfl ?_
      by_cases c5 : lc_of h3 a0 = some 10
      · rw [if_pos c5] at hr
        rcases lb_V_s hr with ⟨h7, m8, hr⟩ | ⟨a21, h7, z22, z22l, m8, qz22, rfl⟩
        · try dsimp only at hr
          refine tm_call rfl rfl (tm_callV rfl rfl c5 rfl rfl) (lq_303 m8) ?_
          refine tm_n 7 (F' := (27, [(0, .inr (.inr a0)), (1, .inl a1), (2, .inl a2)], [.inl (a2 - a2 / (128 : Int32) * (128 : Int32)), .inl (0 : Int32), .inl a1, .inr (.inr a0), .inr (.inr a0)])) rfl ?_
          by_cases c9 : lc_of h7 a0 = some 10
          · rw [if_pos c9] at hr
            rcases lb_I_s hr with ⟨v10, h11, m12, hr⟩ | ⟨a19, h11, z20, z20l, m12, qz20, rfl⟩
            · try dsimp only at hr
              refine tm_call rfl rfl (tm_callV rfl rfl c9 rfl rfl) (lq_288 m12) ?_
              refine tm_n 2 (F' := (32, [(0, .inr (.inr a0)), (1, .inl a1), (2, .inl a2)], [.inl (v10 + (1 : Int32)), .inr (.inr a0)])) rfl ?_
              by_cases c13 : lc_of h11 a0 = some 10
              · rw [if_pos c13] at hr
                rcases lb_V_s hr with ⟨h15, m16, hr⟩ | ⟨a17, h15, z18, z18l, m16, qz18, rfl⟩
                · try dsimp only at hr
                  refine tm_call rfl rfl (tm_callV rfl rfl c13 rfl rfl) (lq_307 m16) ?_
                  cases hr
                  exact tm_retV rfl
                · exact tm_callT rfl rfl (tm_callV rfl rfl c13 rfl rfl) (lq_307 m16) qz18 rfl
              · rw [if_neg c13] at hr
                cases hr
            · exact tm_callT rfl rfl (tm_callV rfl rfl c9 rfl rfl) (lq_288 m12) qz20 rfl
          · rw [if_neg c9] at hr
            cases hr
        · exact tm_callT rfl rfl (tm_callV rfl rfl c5 rfl rfl) (lq_303 m8) qz22 rfl
      · rw [if_neg c5] at hr
        cases hr
    · exact tm_callT rfl rfl (tm_callV rfl rfl c1 rfl rfl) (lq_288 m4) qz24 rfl
  · rw [if_neg c1] at hr
    cases hr
-- OfficeSheetModel.sayBlock(III)V
set_option maxRecDepth 20000 in
def l310_72 (x0 : Option Nat) (h : pm_H) : tm_L := if lc_of h x0 = some 10 then lb_V (ll_303 x0 (41 : Int32) h) (fun h3 => some (.inl none, h3)) else none
set_option maxRecDepth 20000 in
theorem l310_72_t {w : Option Nat} {d : Nat} {x0 : Option Nat} {h : pm_H} {r : tm_O × pm_H} (hr : l310_72 x0 h = some r) : pm_to pt_P (pt_G (tm_r w)) (d + 4) (pt_g310, []) (tm_m (72, [(0, .inr (.inr x0))], [])) h (tm_e r) := by
  unfold l310_72 at hr
  refine tm_n 2 (F' := (75, [(0, .inr (.inr x0))], [.inl (41 : Int32), .inr (.inr x0)])) rfl ?_
  by_cases c1 : lc_of h x0 = some 10
  · rw [if_pos c1] at hr
    rcases lb_V_s hr with ⟨h3, m4, hr⟩ | ⟨a5, h3, z6, z6l, m4, qz6, rfl⟩
    · try dsimp only at hr
      refine tm_call rfl rfl (tm_callV rfl rfl c1 rfl rfl) (lq_303 m4) ?_
      cases hr
      exact tm_retV rfl
    · exact tm_callT rfl rfl (tm_callV rfl rfl c1 rfl rfl) (lq_303 m4) qz6 rfl
  · rw [if_neg c1] at hr
    cases hr
set_option maxRecDepth 20000 in
def l310_66 (x0 : Option Nat) (h : pm_H) : tm_L := if lc_of h x0 = some 10 then lb_V (ll_303 x0 (35 : Int32) h) (fun h3 => l310_72 x0 h3) else none
set_option maxRecDepth 20000 in
theorem l310_66_t {w : Option Nat} {d : Nat} {x0 : Option Nat} {h : pm_H} {r : tm_O × pm_H} (hr : l310_66 x0 h = some r) : pm_to pt_P (pt_G (tm_r w)) (d + 4) (pt_g310, []) (tm_m (66, [(0, .inr (.inr x0))], [])) h (tm_e r) := by
  unfold l310_66 at hr
  refine tm_n 2 (F' := (69, [(0, .inr (.inr x0))], [.inl (35 : Int32), .inr (.inr x0)])) rfl ?_
  by_cases c1 : lc_of h x0 = some 10
  · rw [if_pos c1] at hr
    rcases lb_V_s hr with ⟨h3, m4, hr⟩ | ⟨a5, h3, z6, z6l, m4, qz6, rfl⟩
    · try dsimp only at hr
      refine tm_call rfl rfl (tm_callV rfl rfl c1 rfl rfl) (lq_303 m4) ?_
      refine tm_cut (a := [(0, .inr (.inr x0))]) rfl (tm_sbs [0] rfl) ?_
      exact l310_72_t hr
    · exact tm_callT rfl rfl (tm_callV rfl rfl c1 rfl rfl) (lq_303 m4) qz6 rfl
  · rw [if_neg c1] at hr
    cases hr
set_option maxRecDepth 20000 in
def ll_310 (a0 : Option Nat) (a1 : Int32) (a2 : Int32) (a3 : Int32) (h : pm_H) : tm_L := if lc_of h a0 = some 10 then lb_V (ll_303 a0 a2 h) (fun h3 => if lc_of h3 a0 = some 10 then lb_V (ll_303 a0 (40 : Int32) h3) (fun h7 => if lc_of h7 a0 = some 10 then lb_I (ll_308 a0 a1 (a3 - a3 / (16384 : Int32) * (16384 : Int32)) h7) (fun v10 h11 => if v10 = (0 : Int32) then l310_66 a0 h11 else if lc_of h11 a0 = some 10 then lb_I (ll_308 a0 a1 (a3 / (16384 : Int32)) h11) (fun v14 h15 => if v14 = (0 : Int32) then l310_66 a0 h15 else if lc_of h15 a0 = some 10 then lb_V (ll_309 a0 a1 (a3 - a3 / (16384 : Int32) * (16384 : Int32)) h15) (fun h19 => if lc_of h19 a0 = some 10 then lb_V (ll_303 a0 (58 : Int32) h19) (fun h23 => if lc_of h23 a0 = some 10 then lb_V (ll_309 a0 a1 (a3 / (16384 : Int32)) h23) (fun h27 => l310_72 a0 h27) else none) else none) else none) else none) else none) else none) else none
set_option maxRecDepth 20000 in
theorem lq_310 {w : Option Nat} {d : Nat} {a0 : Option Nat} {a1 : Int32} {a2 : Int32} {a3 : Int32} {h : pm_H} {r : tm_O × pm_H} (hr : ll_310 a0 a1 a2 a3 h = some r) : tm_run pt_P (pt_G (tm_r w)) (d + 4) 310 [.inr (.inr a0), .inl a1, .inl a2, .inl a3] h r := by
  unfold ll_310 at hr
  show pm_to pt_P (pt_G (tm_r w)) (d + 4) (pt_g310, []) (tm_m (0, [(0, .inr (.inr a0)), (1, .inl a1), (2, .inl a2), (3, .inl a3)], [])) h (tm_e r)
  refine tm_n 2 (F' := (2, [(0, .inr (.inr a0)), (1, .inl a1), (2, .inl a2), (3, .inl a3)], [.inl a2, .inr (.inr a0)])) rfl ?_
  by_cases c1 : lc_of h a0 = some 10
  · rw [if_pos c1] at hr
    rcases lb_V_s hr with ⟨h3, m4, hr⟩ | ⟨a43, h3, z44, z44l, m4, qz44, rfl⟩
    · try dsimp only at hr
      refine tm_call rfl rfl (tm_callV rfl rfl c1 rfl rfl) (lq_303 m4) ?_
      refine tm_n 2 (F' := (8, [(0, .inr (.inr a0)), (1, .inl a1), (2, .inl a2), (3, .inl a3)], [.inl (40 : Int32), .inr (.inr a0)])) rfl ?_
      by_cases c5 : lc_of h3 a0 = some 10
      · rw [if_pos c5] at hr
        rcases lb_V_s hr with ⟨h7, m8, hr⟩ | ⟨a41, h7, z42, z42l, m8, qz42, rfl⟩
        · try dsimp only at hr
          refine tm_call rfl rfl (tm_callV rfl rfl c5 rfl rfl) (lq_303 m8) ?_
          refine tm_n 5 (F' := (18, [(0, .inr (.inr a0)), (1, .inl a1), (2, .inl a2), (3, .inl a3)], [.inl (a3 - a3 / (16384 : Int32) * (16384 : Int32)), .inl a1, .inr (.inr a0)])) rfl ?_
          by_cases c9 : lc_of h7 a0 = some 10
          · rw [if_pos c9] at hr
            rcases lb_I_s hr with ⟨v10, h11, m12, hr⟩ | ⟨a39, h11, z40, z40l, m12, qz40, rfl⟩
            · try dsimp only at hr
              refine tm_call rfl rfl (tm_callV rfl rfl c9 rfl rfl) (lq_308 m12) ?_
              by_cases c38 : v10 = (0 : Int32)
              · rw [if_pos c38] at hr
                refine tm_ifT rfl c38 ?_
                refine tm_cut (a := [(0, .inr (.inr a0))]) rfl (tm_sbs [0] rfl) ?_
                exact l310_66_t hr
              · rw [if_neg c38] at hr
                refine tm_ifF rfl c38 ?_
                refine tm_n 5 (F' := (31, [(0, .inr (.inr a0)), (1, .inl a1), (2, .inl a2), (3, .inl a3)], [.inl (a3 / (16384 : Int32)), .inl a1, .inr (.inr a0)])) rfl ?_
                by_cases c13 : lc_of h11 a0 = some 10
                · rw [if_pos c13] at hr
                  rcases lb_I_s hr with ⟨v14, h15, m16, hr⟩ | ⟨a36, h15, z37, z37l, m16, qz37, rfl⟩
                  · try dsimp only at hr
                    refine tm_call rfl rfl (tm_callV rfl rfl c13 rfl rfl) (lq_308 m16) ?_
                    by_cases c35 : v14 = (0 : Int32)
                    · rw [if_pos c35] at hr
                      refine tm_ifT rfl c35 ?_
                      refine tm_cut (a := [(0, .inr (.inr a0))]) rfl (tm_sbs [0] rfl) ?_
                      exact l310_66_t hr
                    · rw [if_neg c35] at hr
                      refine tm_ifF rfl c35 ?_
                      refine tm_n 5 (F' := (44, [(0, .inr (.inr a0)), (1, .inl a1), (2, .inl a2), (3, .inl a3)], [.inl (a3 - a3 / (16384 : Int32) * (16384 : Int32)), .inl a1, .inr (.inr a0)])) rfl ?_
                      by_cases c17 : lc_of h15 a0 = some 10
                      · rw [if_pos c17] at hr
                        rcases lb_V_s hr with ⟨h19, m20, hr⟩ | ⟨a33, h19, z34, z34l, m20, qz34, rfl⟩
                        · try dsimp only at hr
                          refine tm_call rfl rfl (tm_callV rfl rfl c17 rfl rfl) (lq_309 m20) ?_
                          refine tm_n 2 (F' := (50, [(0, .inr (.inr a0)), (1, .inl a1), (2, .inl a2), (3, .inl a3)], [.inl (58 : Int32), .inr (.inr a0)])) rfl ?_
                          by_cases c21 : lc_of h19 a0 = some 10
                          · rw [if_pos c21] at hr
                            rcases lb_V_s hr with ⟨h23, m24, hr⟩ | ⟨a31, h23, z32, z32l, m24, qz32, rfl⟩
                            · try dsimp only at hr
                              refine tm_call rfl rfl (tm_callV rfl rfl c21 rfl rfl) (lq_303 m24) ?_
                              refine tm_n 5 (F' := (60, [(0, .inr (.inr a0)), (1, .inl a1), (2, .inl a2), (3, .inl a3)], [.inl (a3 / (16384 : Int32)), .inl a1, .inr (.inr a0)])) rfl ?_
                              by_cases c25 : lc_of h23 a0 = some 10
                              · rw [if_pos c25] at hr
                                rcases lb_V_s hr with ⟨h27, m28, hr⟩ | ⟨a29, h27, z30, z30l, m28, qz30, rfl⟩
                                · try dsimp only at hr
                                  refine tm_call rfl rfl (tm_callV rfl rfl c25 rfl rfl) (lq_309 m28) ?_
                                  refine tm_n 1 (F' := (72, [(0, .inr (.inr a0)), (1, .inl a1), (2, .inl a2), (3, .inl a3)], [])) rfl ?_
                                  refine tm_cut (a := [(0, .inr (.inr a0))]) rfl (tm_sbs [0] rfl) ?_
                                  exact l310_72_t hr
                                · exact tm_callT rfl rfl (tm_callV rfl rfl c25 rfl rfl) (lq_309 m28) qz30 rfl
                              · rw [if_neg c25] at hr
                                cases hr
                            · exact tm_callT rfl rfl (tm_callV rfl rfl c21 rfl rfl) (lq_303 m24) qz32 rfl
                          · rw [if_neg c21] at hr
                            cases hr
                        · exact tm_callT rfl rfl (tm_callV rfl rfl c17 rfl rfl) (lq_309 m20) qz34 rfl
                      · rw [if_neg c17] at hr
                        cases hr
                  · exact tm_callT rfl rfl (tm_callV rfl rfl c13 rfl rfl) (lq_308 m16) qz37 rfl
                · rw [if_neg c13] at hr
                  cases hr
            · exact tm_callT rfl rfl (tm_callV rfl rfl c9 rfl rfl) (lq_308 m12) qz40 rfl
          · rw [if_neg c9] at hr
            cases hr
        · exact tm_callT rfl rfl (tm_callV rfl rfl c5 rfl rfl) (lq_303 m8) qz42 rfl
      · rw [if_neg c5] at hr
        cases hr
    · exact tm_callT rfl rfl (tm_callV rfl rfl c1 rfl rfl) (lq_303 m4) qz44 rfl
  · rw [if_neg c1] at hr
    cases hr
-- OfficeSheetModel.planPart(IZ)V
set_option maxRecDepth 20000 in
def l312_10 (x0 : Option Nat) (x1 : Int32) (x2 : Int32) (h : pm_H) : tm_L := if lc_of h x0 = some 10 then lb_V (ll_304 x0 x1 h) (fun h3 => if x2 = (0 : Int32) then some (.inl none, h3) else if lc_of h3 x0 = some 10 then lb_V (ll_304 x0 (-40 : Int32) h3) (fun h7 => some (.inl none, h7)) else none) else none
set_option maxRecDepth 20000 in
theorem l312_10_t {w : Option Nat} {d : Nat} {x0 : Option Nat} {x1 : Int32} {x2 : Int32} {h : pm_H} {r : tm_O × pm_H} (hr : l312_10 x0 x1 x2 h = some r) : pm_to pt_P (pt_G (tm_r w)) (d + 1) (pt_g312, []) (tm_m (10, [(0, .inr (.inr x0)), (1, .inl x1), (2, .inl x2)], [])) h (tm_e r) := by
  unfold l312_10 at hr
  refine tm_n 2 (F' := (12, [(0, .inr (.inr x0)), (1, .inl x1), (2, .inl x2)], [.inl x1, .inr (.inr x0)])) rfl ?_
  by_cases c1 : lc_of h x0 = some 10
  · rw [if_pos c1] at hr
    rcases lb_V_s hr with ⟨h3, m4, hr⟩ | ⟨a12, h3, z13, z13l, m4, qz13, rfl⟩
    · try dsimp only at hr
      refine tm_call rfl rfl (tm_callV rfl rfl c1 rfl rfl) (lq_304 m4) ?_
      refine tm_n 1 (F' := (16, [(0, .inr (.inr x0)), (1, .inl x1), (2, .inl x2)], [.inl x2])) rfl ?_
      by_cases c11 : x2 = (0 : Int32)
      · rw [if_pos c11] at hr
        refine tm_ifT rfl c11 ?_
        cases hr
        exact tm_retV rfl
      · rw [if_neg c11] at hr
        refine tm_ifF rfl c11 ?_
        refine tm_n 2 (F' := (22, [(0, .inr (.inr x0)), (1, .inl x1), (2, .inl x2)], [.inl (-40 : Int32), .inr (.inr x0)])) rfl ?_
        by_cases c5 : lc_of h3 x0 = some 10
        · rw [if_pos c5] at hr
          rcases lb_V_s hr with ⟨h7, m8, hr⟩ | ⟨a9, h7, z10, z10l, m8, qz10, rfl⟩
          · try dsimp only at hr
            refine tm_call rfl rfl (tm_callV rfl rfl c5 rfl rfl) (lq_304 m8) ?_
            cases hr
            exact tm_retV rfl
          · exact tm_callT rfl rfl (tm_callV rfl rfl c5 rfl rfl) (lq_304 m8) qz10 rfl
        · rw [if_neg c5] at hr
          cases hr
    · exact tm_callT rfl rfl (tm_callV rfl rfl c1 rfl rfl) (lq_304 m4) qz13 rfl
  · rw [if_neg c1] at hr
    cases hr
set_option maxRecDepth 20000 in
def ll_312 (a0 : Option Nat) (a1 : Int32) (a2 : Int32) (h : pm_H) : tm_L := if a2 = (0 : Int32) then l312_10 a0 a1 a2 h else if lc_of h a0 = some 10 then lb_V (ll_304 a0 (-41 : Int32) h) (fun h3 => l312_10 a0 a1 a2 h3) else none
set_option maxRecDepth 20000 in
theorem lq_312 {w : Option Nat} {d : Nat} {a0 : Option Nat} {a1 : Int32} {a2 : Int32} {h : pm_H} {r : tm_O × pm_H} (hr : ll_312 a0 a1 a2 h = some r) : tm_run pt_P (pt_G (tm_r w)) (d + 1) 312 [.inr (.inr a0), .inl a1, .inl a2] h r := by
  unfold ll_312 at hr
  show pm_to pt_P (pt_G (tm_r w)) (d + 1) (pt_g312, []) (tm_m (0, [(0, .inr (.inr a0)), (1, .inl a1), (2, .inl a2)], [])) h (tm_e r)
  refine tm_n 1 (F' := (1, [(0, .inr (.inr a0)), (1, .inl a1), (2, .inl a2)], [.inl a2])) rfl ?_
  by_cases c7 : a2 = (0 : Int32)
  · rw [if_pos c7] at hr
    refine tm_ifT rfl c7 ?_
    refine tm_cut (a := [(0, .inr (.inr a0)), (1, .inl a1), (2, .inl a2)]) rfl (tm_sbs [0, 1, 2] rfl) ?_
    exact l312_10_t hr
  · rw [if_neg c7] at hr
    refine tm_ifF rfl c7 ?_
    refine tm_n 2 (F' := (7, [(0, .inr (.inr a0)), (1, .inl a1), (2, .inl a2)], [.inl (-41 : Int32), .inr (.inr a0)])) rfl ?_
    by_cases c1 : lc_of h a0 = some 10
    · rw [if_pos c1] at hr
      rcases lb_V_s hr with ⟨h3, m4, hr⟩ | ⟨a5, h3, z6, z6l, m4, qz6, rfl⟩
      · try dsimp only at hr
        refine tm_call rfl rfl (tm_callV rfl rfl c1 rfl rfl) (lq_304 m4) ?_
        refine tm_cut (a := [(0, .inr (.inr a0)), (1, .inl a1), (2, .inl a2)]) rfl (tm_sbs [0, 1, 2] rfl) ?_
        exact l312_10_t hr
      · exact tm_callT rfl rfl (tm_callV rfl rfl c1 rfl rfl) (lq_304 m4) qz6 rfl
    · rw [if_neg c1] at hr
      cases hr
-- OfficeSheetModel.saySign(III)V
set_option maxRecDepth 20000 in
def l311_51 (s0 : Int32) (s1 : Int32) (s2 : Option Nat) (h : pm_H) : tm_L := if lc_of h s2 = some 10 then lb_V (ll_312 s2 s1 s0 h) (fun h3 => some (.inl none, h3)) else none
set_option maxRecDepth 20000 in
theorem l311_51_t {w : Option Nat} {d : Nat} {s0 : Int32} {s1 : Int32} {s2 : Option Nat} {h : pm_H} {r : tm_O × pm_H} (hr : l311_51 s0 s1 s2 h = some r) : pm_to pt_P (pt_G (tm_r w)) (d + 2) (pt_g311, []) (tm_m (51, [], [.inl s0, .inl s1, .inr (.inr s2)])) h (tm_e r) := by
  unfold l311_51 at hr
  by_cases c1 : lc_of h s2 = some 10
  · rw [if_pos c1] at hr
    rcases lb_V_s hr with ⟨h3, m4, hr⟩ | ⟨a5, h3, z6, z6l, m4, qz6, rfl⟩
    · try dsimp only at hr
      refine tm_call rfl rfl (tm_callV rfl rfl c1 rfl rfl) (lq_312 m4) ?_
      cases hr
      exact tm_retV rfl
    · exact tm_callT rfl rfl (tm_callV rfl rfl c1 rfl rfl) (lq_312 m4) qz6 rfl
  · rw [if_neg c1] at hr
    cases hr
set_option maxRecDepth 20000 in
def l311_46 (s0 : Int32) (s1 : Option Nat) (h : pm_H) : tm_L := l311_51 (1 : Int32) s0 s1 h
set_option maxRecDepth 20000 in
theorem l311_46_t {w : Option Nat} {d : Nat} {s0 : Int32} {s1 : Option Nat} {h : pm_H} {r : tm_O × pm_H} (hr : l311_46 s0 s1 h = some r) : pm_to pt_P (pt_G (tm_r w)) (d + 2) (pt_g311, []) (tm_m (46, [], [.inl s0, .inr (.inr s1)])) h (tm_e r) := by
  unfold l311_46 at hr
  refine tm_n 2 (F' := (51, [], [.inl (1 : Int32), .inl s0, .inr (.inr s1)])) rfl ?_
  refine tm_cut (a := []) rfl (tm_sbs [] rfl) ?_
  exact l311_51_t hr
set_option maxRecDepth 20000 in
def l311_155 (s0 : Int32) (s1 : Int32) (s2 : Option Nat) (h : pm_H) : tm_L := if lc_of h s2 = some 10 then lb_V (ll_312 s2 s1 s0 h) (fun h3 => some (.inl none, h3)) else none
set_option maxRecDepth 20000 in
theorem l311_155_t {w : Option Nat} {d : Nat} {s0 : Int32} {s1 : Int32} {s2 : Option Nat} {h : pm_H} {r : tm_O × pm_H} (hr : l311_155 s0 s1 s2 h = some r) : pm_to pt_P (pt_G (tm_r w)) (d + 2) (pt_g311, []) (tm_m (155, [], [.inl s0, .inl s1, .inr (.inr s2)])) h (tm_e r) := by
  unfold l311_155 at hr
  by_cases c1 : lc_of h s2 = some 10
  · rw [if_pos c1] at hr
    rcases lb_V_s hr with ⟨h3, m4, hr⟩ | ⟨a5, h3, z6, z6l, m4, qz6, rfl⟩
    · try dsimp only at hr
      refine tm_call rfl rfl (tm_callV rfl rfl c1 rfl rfl) (lq_312 m4) ?_
      cases hr
      exact tm_retV rfl
    · exact tm_callT rfl rfl (tm_callV rfl rfl c1 rfl rfl) (lq_312 m4) qz6 rfl
  · rw [if_neg c1] at hr
    cases hr
set_option maxRecDepth 20000 in
def l311_154 (s0 : Int32) (s1 : Option Nat) (h : pm_H) : tm_L := l311_155 (0 : Int32) s0 s1 h
set_option maxRecDepth 20000 in
theorem l311_154_t {w : Option Nat} {d : Nat} {s0 : Int32} {s1 : Option Nat} {h : pm_H} {r : tm_O × pm_H} (hr : l311_154 s0 s1 h = some r) : pm_to pt_P (pt_G (tm_r w)) (d + 2) (pt_g311, []) (tm_m (154, [], [.inl s0, .inr (.inr s1)])) h (tm_e r) := by
  unfold l311_154 at hr
  refine tm_n 1 (F' := (155, [], [.inl (0 : Int32), .inl s0, .inr (.inr s1)])) rfl ?_
  refine tm_cut (a := []) rfl (tm_sbs [] rfl) ?_
  exact l311_155_t hr
set_option maxRecDepth 20000 in
def l311_127 (x0 : Option Nat) (x3 : Int32) (x5 : Int32) (x6 : Int32) (x7 : Int32) (s0 : Int32) (s1 : Int32) (s2 : Option Nat) (h : pm_H) : tm_L := if lc_of h s2 = some 10 then lb_V (ll_312 s2 s1 s0 h) (fun h3 => if lc_of h3 x0 = some 10 then lb_V (ll_304 x0 (-x3) h3) (fun h7 => if x6 = (1 : Int32) then if x7 = (0 : Int32) then l311_155 (1 : Int32) x5 x0 h7 else l311_154 x5 x0 h7 else l311_154 x5 x0 h7) else none) else none
set_option maxRecDepth 20000 in
theorem l311_127_t {w : Option Nat} {d : Nat} {x0 : Option Nat} {x3 : Int32} {x5 : Int32} {x6 : Int32} {x7 : Int32} {s0 : Int32} {s1 : Int32} {s2 : Option Nat} {h : pm_H} {r : tm_O × pm_H} (hr : l311_127 x0 x3 x5 x6 x7 s0 s1 s2 h = some r) : pm_to pt_P (pt_G (tm_r w)) (d + 2) (pt_g311, []) (tm_m (127, [(0, .inr (.inr x0)), (3, .inl x3), (5, .inl x5), (6, .inl x6), (7, .inl x7)], [.inl s0, .inl s1, .inr (.inr s2)])) h (tm_e r) := by
  unfold l311_127 at hr
  by_cases c1 : lc_of h s2 = some 10
  · rw [if_pos c1] at hr
    rcases lb_V_s hr with ⟨h3, m4, hr⟩ | ⟨a13, h3, z14, z14l, m4, qz14, rfl⟩
    · try dsimp only at hr
      refine tm_call rfl rfl (tm_callV rfl rfl c1 rfl rfl) (lq_312 m4) ?_
      refine tm_n 3 (F' := (133, [(0, .inr (.inr x0)), (3, .inl x3), (5, .inl x5), (6, .inl x6), (7, .inl x7)], [.inl (-x3), .inr (.inr x0)])) rfl ?_
      by_cases c5 : lc_of h3 x0 = some 10
      · rw [if_pos c5] at hr
        rcases lb_V_s hr with ⟨h7, m8, hr⟩ | ⟨a11, h7, z12, z12l, m8, qz12, rfl⟩
        · try dsimp only at hr
          refine tm_call rfl rfl (tm_callV rfl rfl c5 rfl rfl) (lq_304 m8) ?_
          refine tm_n 4 (F' := (142, [(0, .inr (.inr x0)), (3, .inl x3), (5, .inl x5), (6, .inl x6), (7, .inl x7)], [.inl (1 : Int32), .inl x6, .inl x5, .inr (.inr x0)])) rfl ?_
          by_cases c10 : x6 = (1 : Int32)
          · rw [if_pos c10] at hr
            refine tm_icF rfl (fun q => q c10) ?_
            refine tm_n 1 (F' := (147, [(0, .inr (.inr x0)), (3, .inl x3), (5, .inl x5), (6, .inl x6), (7, .inl x7)], [.inl x7, .inl x5, .inr (.inr x0)])) rfl ?_
            by_cases c9 : x7 = (0 : Int32)
            · rw [if_pos c9] at hr
              refine tm_ifF rfl (fun q => q c9) ?_
              refine tm_n 2 (F' := (155, [(0, .inr (.inr x0)), (3, .inl x3), (5, .inl x5), (6, .inl x6), (7, .inl x7)], [.inl (1 : Int32), .inl x5, .inr (.inr x0)])) rfl ?_
              refine tm_cut (a := []) rfl (tm_sbs [] rfl) ?_
              exact l311_155_t hr
            · rw [if_neg c9] at hr
              refine tm_ifT rfl c9 ?_
              refine tm_cut (a := []) rfl (tm_sbs [] rfl) ?_
              exact l311_154_t hr
          · rw [if_neg c10] at hr
            refine tm_icT rfl c10 ?_
            refine tm_cut (a := []) rfl (tm_sbs [] rfl) ?_
            exact l311_154_t hr
        · exact tm_callT rfl rfl (tm_callV rfl rfl c5 rfl rfl) (lq_304 m8) qz12 rfl
      · rw [if_neg c5] at hr
        cases hr
    · exact tm_callT rfl rfl (tm_callV rfl rfl c1 rfl rfl) (lq_312 m4) qz14 rfl
  · rw [if_neg c1] at hr
    cases hr
set_option maxRecDepth 20000 in
def l311_122 (x0 : Option Nat) (x3 : Int32) (x5 : Int32) (x6 : Int32) (x7 : Int32) (s0 : Int32) (s1 : Option Nat) (h : pm_H) : tm_L := l311_127 x0 x3 x5 x6 x7 (1 : Int32) s0 s1 h
set_option maxRecDepth 20000 in
theorem l311_122_t {w : Option Nat} {d : Nat} {x0 : Option Nat} {x3 : Int32} {x5 : Int32} {x6 : Int32} {x7 : Int32} {s0 : Int32} {s1 : Option Nat} {h : pm_H} {r : tm_O × pm_H} (hr : l311_122 x0 x3 x5 x6 x7 s0 s1 h = some r) : pm_to pt_P (pt_G (tm_r w)) (d + 2) (pt_g311, []) (tm_m (122, [(0, .inr (.inr x0)), (3, .inl x3), (5, .inl x5), (6, .inl x6), (7, .inl x7)], [.inl s0, .inr (.inr s1)])) h (tm_e r) := by
  unfold l311_122 at hr
  refine tm_n 2 (F' := (127, [(0, .inr (.inr x0)), (3, .inl x3), (5, .inl x5), (6, .inl x6), (7, .inl x7)], [.inl (1 : Int32), .inl s0, .inr (.inr s1)])) rfl ?_
  refine tm_cut (a := [(0, .inr (.inr x0)), (3, .inl x3), (5, .inl x5), (6, .inl x6), (7, .inl x7)]) rfl (tm_sbs [0, 1, 2, 3, 4] rfl) ?_
  exact l311_127_t hr
set_option maxRecDepth 20000 in
def l311_126 (x0 : Option Nat) (x3 : Int32) (x5 : Int32) (x6 : Int32) (x7 : Int32) (s0 : Int32) (s1 : Option Nat) (h : pm_H) : tm_L := l311_127 x0 x3 x5 x6 x7 (0 : Int32) s0 s1 h
set_option maxRecDepth 20000 in
theorem l311_126_t {w : Option Nat} {d : Nat} {x0 : Option Nat} {x3 : Int32} {x5 : Int32} {x6 : Int32} {x7 : Int32} {s0 : Int32} {s1 : Option Nat} {h : pm_H} {r : tm_O × pm_H} (hr : l311_126 x0 x3 x5 x6 x7 s0 s1 h = some r) : pm_to pt_P (pt_G (tm_r w)) (d + 2) (pt_g311, []) (tm_m (126, [(0, .inr (.inr x0)), (3, .inl x3), (5, .inl x5), (6, .inl x6), (7, .inl x7)], [.inl s0, .inr (.inr s1)])) h (tm_e r) := by
  unfold l311_126 at hr
  refine tm_n 1 (F' := (127, [(0, .inr (.inr x0)), (3, .inl x3), (5, .inl x5), (6, .inl x6), (7, .inl x7)], [.inl (0 : Int32), .inl s0, .inr (.inr s1)])) rfl ?_
  refine tm_cut (a := [(0, .inr (.inr x0)), (3, .inl x3), (5, .inl x5), (6, .inl x6), (7, .inl x7)]) rfl (tm_sbs [0, 1, 2, 3, 4] rfl) ?_
  exact l311_127_t hr
set_option maxRecDepth 20000 in
def l311_99 (x0 : Option Nat) (x2 : Int32) (x3 : Int32) (x4 : Int32) (x5 : Int32) (x6 : Int32) (s0 : Int32) (h : pm_H) : tm_L := if x4 = (1 : Int32) then l311_122 x0 x3 x5 x6 s0 (x2 - (1 : Int32)) x0 h else if x4 = (2 : Int32) then if s0 = (0 : Int32) then l311_122 x0 x3 x5 x6 s0 (x2 - (1 : Int32)) x0 h else l311_126 x0 x3 x5 x6 s0 (x2 - (1 : Int32)) x0 h else l311_126 x0 x3 x5 x6 s0 (x2 - (1 : Int32)) x0 h
set_option maxRecDepth 20000 in
theorem l311_99_t {w : Option Nat} {d : Nat} {x0 : Option Nat} {x2 : Int32} {x3 : Int32} {x4 : Int32} {x5 : Int32} {x6 : Int32} {s0 : Int32} {h : pm_H} {r : tm_O × pm_H} (hr : l311_99 x0 x2 x3 x4 x5 x6 s0 h = some r) : pm_to pt_P (pt_G (tm_r w)) (d + 2) (pt_g311, []) (tm_m (99, [(0, .inr (.inr x0)), (2, .inl x2), (3, .inl x3), (4, .inl x4), (5, .inl x5), (6, .inl x6)], [.inl s0])) h (tm_e r) := by
  unfold l311_99 at hr
  refine tm_n 7 (F' := (108, [(7, .inl s0), (0, .inr (.inr x0)), (2, .inl x2), (3, .inl x3), (4, .inl x4), (5, .inl x5), (6, .inl x6)], [.inl (1 : Int32), .inl x4, .inl (x2 - (1 : Int32)), .inr (.inr x0)])) rfl ?_
  by_cases c3 : x4 = (1 : Int32)
  · rw [if_pos c3] at hr
    refine tm_icT rfl c3 ?_
    refine tm_cut (a := [(0, .inr (.inr x0)), (3, .inl x3), (5, .inl x5), (6, .inl x6), (7, .inl s0)]) rfl (tm_sbs [1, 3, 5, 6, 0] rfl) ?_
    exact l311_122_t hr
  · rw [if_neg c3] at hr
    refine tm_icF rfl c3 ?_
    refine tm_n 2 (F' := (114, [(7, .inl s0), (0, .inr (.inr x0)), (2, .inl x2), (3, .inl x3), (4, .inl x4), (5, .inl x5), (6, .inl x6)], [.inl (2 : Int32), .inl x4, .inl (x2 - (1 : Int32)), .inr (.inr x0)])) rfl ?_
    by_cases c2 : x4 = (2 : Int32)
    · rw [if_pos c2] at hr
      refine tm_icF rfl (fun q => q c2) ?_
      refine tm_n 1 (F' := (119, [(7, .inl s0), (0, .inr (.inr x0)), (2, .inl x2), (3, .inl x3), (4, .inl x4), (5, .inl x5), (6, .inl x6)], [.inl s0, .inl (x2 - (1 : Int32)), .inr (.inr x0)])) rfl ?_
      by_cases c1 : s0 = (0 : Int32)
      · rw [if_pos c1] at hr
        refine tm_ifF rfl (fun q => q c1) ?_
        refine tm_cut (a := [(0, .inr (.inr x0)), (3, .inl x3), (5, .inl x5), (6, .inl x6), (7, .inl s0)]) rfl (tm_sbs [1, 3, 5, 6, 0] rfl) ?_
        exact l311_122_t hr
      · rw [if_neg c1] at hr
        refine tm_ifT rfl c1 ?_
        refine tm_cut (a := [(0, .inr (.inr x0)), (3, .inl x3), (5, .inl x5), (6, .inl x6), (7, .inl s0)]) rfl (tm_sbs [1, 3, 5, 6, 0] rfl) ?_
        exact l311_126_t hr
    · rw [if_neg c2] at hr
      refine tm_icT rfl c2 ?_
      refine tm_cut (a := [(0, .inr (.inr x0)), (3, .inl x3), (5, .inl x5), (6, .inl x6), (7, .inl s0)]) rfl (tm_sbs [1, 3, 5, 6, 0] rfl) ?_
      exact l311_126_t hr
set_option maxRecDepth 20000 in
def ll_311 (a0 : Option Nat) (a1 : Int32) (a2 : Int32) (a3 : Int32) (h : pm_H) : tm_L := (lf_R h a0 [10, 14]).bind fun v1 => (la_I h .iaload v1 ((((20 : Int32) * a1) + a2) - (1 : Int32))).bind fun v2 => lb_I (ll_277 v2 h) (fun v3 h4 => if a3 = (126 : Int32) then if lc_of h4 a0 = some 10 then lb_V (ll_303 a0 (45 : Int32) h4) (fun h8 => if v3 = (1 : Int32) then l311_46 (a2 - (1 : Int32)) a0 h8 else if v3 = (2 : Int32) then l311_46 (a2 - (1 : Int32)) a0 h8 else l311_51 (0 : Int32) (a2 - (1 : Int32)) a0 h8) else none else (lf_R h4 a0 [10, 41]).bind fun v14 => (la_I h4 .iaload v14 (a2 - (1 : Int32))).bind fun v15 => (lf_R h4 a0 [10, 14]).bind fun v16 => (la_I h4 .iaload v16 (((20 : Int32) * a1) + ((a2 - (1 : Int32)) - v15))).bind fun v17 => lb_I (ll_277 v17 h4) (fun v18 h19 => lb_I (ll_277 a3 h19) (fun v21 h22 => if v21 = (1 : Int32) then l311_99 a0 a2 a3 v3 ((a2 - (1 : Int32)) - v15) v18 (1 : Int32) h22 else l311_99 a0 a2 a3 v3 ((a2 - (1 : Int32)) - v15) v18 (0 : Int32) h22)))
set_option maxRecDepth 20000 in
theorem lq_311 {w : Option Nat} {d : Nat} {a0 : Option Nat} {a1 : Int32} {a2 : Int32} {a3 : Int32} {h : pm_H} {r : tm_O × pm_H} (hr : ll_311 a0 a1 a2 a3 h = some r) : tm_run pt_P (pt_G (tm_r w)) (d + 2) 311 [.inr (.inr a0), .inl a1, .inl a2, .inl a3] h r := by
  unfold ll_311 at hr
  show pm_to pt_P (pt_G (tm_r w)) (d + 2) (pt_g311, []) (tm_m (0, [(0, .inr (.inr a0)), (1, .inl a1), (2, .inl a2), (3, .inl a3)], [])) h (tm_e r)
  refine tm_n 1 (F' := (1, [(0, .inr (.inr a0)), (1, .inl a1), (2, .inl a2), (3, .inl a3)], [.inr (.inr a0)])) rfl ?_
  obtain ⟨v1, qv1, hr⟩ := Option.bind_eq_some_iff.mp hr
  refine tm_getf rfl (lf_R_V qv1) ?_
  refine tm_n 7 (F' := (12, [(0, .inr (.inr a0)), (1, .inl a1), (2, .inl a2), (3, .inl a3)], [.inl ((((20 : Int32) * a1) + a2) - (1 : Int32)), .inr (.inr v1)])) rfl ?_
  obtain ⟨v2, qv2, hr⟩ := Option.bind_eq_some_iff.mp hr
  refine tm_ald rfl rfl (la_I_V qv2) ?_
  rcases lb_I_s hr with ⟨v3, h4, m5, hr⟩ | ⟨a30, h4, z31, z31l, m5, qz31, rfl⟩
  · try dsimp only at hr
    refine tm_call rfl rfl (tm_callS rfl rfl) (lq_277 m5) ?_
    refine tm_n 3 (F' := (21, [(4, .inl v3), (0, .inr (.inr a0)), (1, .inl a1), (2, .inl a2), (3, .inl a3)], [.inl (126 : Int32), .inl a3])) rfl ?_
    by_cases c29 : a3 = (126 : Int32)
    · rw [if_pos c29] at hr
      refine tm_icF rfl (fun q => q c29) ?_
      refine tm_n 2 (F' := (27, [(4, .inl v3), (0, .inr (.inr a0)), (1, .inl a1), (2, .inl a2), (3, .inl a3)], [.inl (45 : Int32), .inr (.inr a0)])) rfl ?_
      by_cases c6 : lc_of h4 a0 = some 10
      · rw [if_pos c6] at hr
        rcases lb_V_s hr with ⟨h8, m9, hr⟩ | ⟨a12, h8, z13, z13l, m9, qz13, rfl⟩
        · try dsimp only at hr
          refine tm_call rfl rfl (tm_callV rfl rfl c6 rfl rfl) (lq_303 m9) ?_
          refine tm_n 6 (F' := (37, [(4, .inl v3), (0, .inr (.inr a0)), (1, .inl a1), (2, .inl a2), (3, .inl a3)], [.inl (1 : Int32), .inl v3, .inl (a2 - (1 : Int32)), .inr (.inr a0)])) rfl ?_
          by_cases c11 : v3 = (1 : Int32)
          · rw [if_pos c11] at hr
            refine tm_icT rfl c11 ?_
            refine tm_cut (a := []) rfl (tm_sbs [] rfl) ?_
            exact l311_46_t hr
          · rw [if_neg c11] at hr
            refine tm_icF rfl c11 ?_
            refine tm_n 2 (F' := (43, [(4, .inl v3), (0, .inr (.inr a0)), (1, .inl a1), (2, .inl a2), (3, .inl a3)], [.inl (2 : Int32), .inl v3, .inl (a2 - (1 : Int32)), .inr (.inr a0)])) rfl ?_
            by_cases c10 : v3 = (2 : Int32)
            · rw [if_pos c10] at hr
              refine tm_icF rfl (fun q => q c10) ?_
              refine tm_cut (a := []) rfl (tm_sbs [] rfl) ?_
              exact l311_46_t hr
            · rw [if_neg c10] at hr
              refine tm_icT rfl c10 ?_
              refine tm_n 1 (F' := (51, [(4, .inl v3), (0, .inr (.inr a0)), (1, .inl a1), (2, .inl a2), (3, .inl a3)], [.inl (0 : Int32), .inl (a2 - (1 : Int32)), .inr (.inr a0)])) rfl ?_
              refine tm_cut (a := []) rfl (tm_sbs [] rfl) ?_
              exact l311_51_t hr
        · exact tm_callT rfl rfl (tm_callV rfl rfl c6 rfl rfl) (lq_303 m9) qz13 rfl
      · rw [if_neg c6] at hr
        cases hr
    · rw [if_neg c29] at hr
      refine tm_icT rfl c29 ?_
      refine tm_n 4 (F' := (59, [(4, .inl v3), (0, .inr (.inr a0)), (1, .inl a1), (2, .inl a2), (3, .inl a3)], [.inr (.inr a0), .inl (a2 - (1 : Int32))])) rfl ?_
      obtain ⟨v14, qv14, hr⟩ := Option.bind_eq_some_iff.mp hr
      refine tm_getf rfl (lf_R_V qv14) ?_
      refine tm_n 3 (F' := (65, [(4, .inl v3), (0, .inr (.inr a0)), (1, .inl a1), (2, .inl a2), (3, .inl a3)], [.inl (a2 - (1 : Int32)), .inr (.inr v14), .inl (a2 - (1 : Int32))])) rfl ?_
      obtain ⟨v15, qv15, hr⟩ := Option.bind_eq_some_iff.mp hr
      refine tm_ald rfl rfl (la_I_V qv15) ?_
      refine tm_n 3 (F' := (70, [(5, .inl ((a2 - (1 : Int32)) - v15)), (4, .inl v3), (0, .inr (.inr a0)), (1, .inl a1), (2, .inl a2), (3, .inl a3)], [.inr (.inr a0)])) rfl ?_
      obtain ⟨v16, qv16, hr⟩ := Option.bind_eq_some_iff.mp hr
      refine tm_getf rfl (lf_R_V qv16) ?_
      refine tm_n 5 (F' := (80, [(5, .inl ((a2 - (1 : Int32)) - v15)), (4, .inl v3), (0, .inr (.inr a0)), (1, .inl a1), (2, .inl a2), (3, .inl a3)], [.inl (((20 : Int32) * a1) + ((a2 - (1 : Int32)) - v15)), .inr (.inr v16)])) rfl ?_
      obtain ⟨v17, qv17, hr⟩ := Option.bind_eq_some_iff.mp hr
      refine tm_ald rfl rfl (la_I_V qv17) ?_
      rcases lb_I_s hr with ⟨v18, h19, m20, hr⟩ | ⟨a27, h19, z28, z28l, m20, qz28, rfl⟩
      · try dsimp only at hr
        refine tm_call rfl rfl (tm_callS rfl rfl) (lq_277 m20) ?_
        refine tm_n 2 (F' := (87, [(6, .inl v18), (5, .inl ((a2 - (1 : Int32)) - v15)), (4, .inl v3), (0, .inr (.inr a0)), (1, .inl a1), (2, .inl a2), (3, .inl a3)], [.inl a3])) rfl ?_
        rcases lb_I_s hr with ⟨v21, h22, m23, hr⟩ | ⟨a25, h22, z26, z26l, m23, qz26, rfl⟩
        · try dsimp only at hr
          refine tm_call rfl rfl (tm_callS rfl rfl) (lq_277 m23) ?_
          refine tm_n 1 (F' := (91, [(6, .inl v18), (5, .inl ((a2 - (1 : Int32)) - v15)), (4, .inl v3), (0, .inr (.inr a0)), (1, .inl a1), (2, .inl a2), (3, .inl a3)], [.inl (1 : Int32), .inl v21])) rfl ?_
          by_cases c24 : v21 = (1 : Int32)
          · rw [if_pos c24] at hr
            refine tm_icF rfl (fun q => q c24) ?_
            refine tm_n 2 (F' := (99, [(6, .inl v18), (5, .inl ((a2 - (1 : Int32)) - v15)), (4, .inl v3), (0, .inr (.inr a0)), (1, .inl a1), (2, .inl a2), (3, .inl a3)], [.inl (1 : Int32)])) rfl ?_
            refine tm_cut (a := [(0, .inr (.inr a0)), (2, .inl a2), (3, .inl a3), (4, .inl v3), (5, .inl ((a2 - (1 : Int32)) - v15)), (6, .inl v18)]) rfl (tm_sbs [3, 5, 6, 2, 1, 0] rfl) ?_
            exact l311_99_t hr
          · rw [if_neg c24] at hr
            refine tm_icT rfl c24 ?_
            refine tm_n 1 (F' := (99, [(6, .inl v18), (5, .inl ((a2 - (1 : Int32)) - v15)), (4, .inl v3), (0, .inr (.inr a0)), (1, .inl a1), (2, .inl a2), (3, .inl a3)], [.inl (0 : Int32)])) rfl ?_
            refine tm_cut (a := [(0, .inr (.inr a0)), (2, .inl a2), (3, .inl a3), (4, .inl v3), (5, .inl ((a2 - (1 : Int32)) - v15)), (6, .inl v18)]) rfl (tm_sbs [3, 5, 6, 2, 1, 0] rfl) ?_
            exact l311_99_t hr
        · exact tm_callT rfl rfl (tm_callS rfl rfl) (lq_277 m23) qz26 rfl
      · exact tm_callT rfl rfl (tm_callS rfl rfl) (lq_277 m20) qz28 rfl
  · exact tm_callT rfl rfl (tm_callS rfl rfl) (lq_277 m5) qz31 rfl
-- OfficeSheetModel.sayPart(III)V
set_option maxRecDepth 20000 in
def ll_305 (a0 : Option Nat) (a1 : Int32) (a2 : Int32) (a3 : Int32) (h : pm_H) : tm_L := (lf_R h a0 [10, 14]).bind fun v1 => (la_I h .iaload v1 (((20 : Int32) * a2) + a3)).bind fun v2 => (lf_R h a0 [10, 15]).bind fun v3 => (la_I h .iaload v3 (((20 : Int32) * a2) + a3)).bind fun v4 => if v2 = (97 : Int32) then if lc_of h a0 = some 10 then lb_V (ll_306 a0 v4 h) (fun h7 => some (.inl none, h7)) else none else if v2 = (114 : Int32) then if lc_of h a0 = some 10 then lb_I (ll_308 a0 a1 v4 h) (fun v12 h13 => if v12 = (0 : Int32) then if lc_of h13 a0 = some 10 then lb_V (ll_303 a0 (35 : Int32) h13) (fun h17 => some (.inl none, h17)) else none else if lc_of h13 a0 = some 10 then lb_V (ll_309 a0 a1 v4 h13) (fun h23 => some (.inl none, h23)) else none) else none else lb_I (ll_289 v2 h) (fun v30 h31 => if v30 = (0 : Int32) then if lc_of h31 a0 = some 10 then lb_V (ll_311 a0 a2 a3 v2 h31) (fun h35 => some (.inl none, h35)) else none else if lc_of h31 a0 = some 10 then lb_V (ll_310 a0 a1 v2 v4 h31) (fun h41 => some (.inl none, h41)) else none)
set_option maxRecDepth 20000 in
theorem lq_305 {w : Option Nat} {d : Nat} {a0 : Option Nat} {a1 : Int32} {a2 : Int32} {a3 : Int32} {h : pm_H} {r : tm_O × pm_H} (hr : ll_305 a0 a1 a2 a3 h = some r) : tm_run pt_P (pt_G (tm_r w)) (d + 5) 305 [.inr (.inr a0), .inl a1, .inl a2, .inl a3] h r := by
  unfold ll_305 at hr
  show pm_to pt_P (pt_G (tm_r w)) (d + 5) (pt_g305, []) (tm_m (0, [(0, .inr (.inr a0)), (1, .inl a1), (2, .inl a2), (3, .inl a3)], [])) h (tm_e r)
  refine tm_n 1 (F' := (1, [(0, .inr (.inr a0)), (1, .inl a1), (2, .inl a2), (3, .inl a3)], [.inr (.inr a0)])) rfl ?_
  obtain ⟨v1, qv1, hr⟩ := Option.bind_eq_some_iff.mp hr
  refine tm_getf rfl (lf_R_V qv1) ?_
  refine tm_n 5 (F' := (10, [(0, .inr (.inr a0)), (1, .inl a1), (2, .inl a2), (3, .inl a3)], [.inl (((20 : Int32) * a2) + a3), .inr (.inr v1)])) rfl ?_
  obtain ⟨v2, qv2, hr⟩ := Option.bind_eq_some_iff.mp hr
  refine tm_ald rfl rfl (la_I_V qv2) ?_
  refine tm_n 2 (F' := (14, [(4, .inl v2), (0, .inr (.inr a0)), (1, .inl a1), (2, .inl a2), (3, .inl a3)], [.inr (.inr a0)])) rfl ?_
  obtain ⟨v3, qv3, hr⟩ := Option.bind_eq_some_iff.mp hr
  refine tm_getf rfl (lf_R_V qv3) ?_
  refine tm_n 5 (F' := (23, [(4, .inl v2), (0, .inr (.inr a0)), (1, .inl a1), (2, .inl a2), (3, .inl a3)], [.inl (((20 : Int32) * a2) + a3), .inr (.inr v3)])) rfl ?_
  obtain ⟨v4, qv4, hr⟩ := Option.bind_eq_some_iff.mp hr
  refine tm_ald rfl rfl (la_I_V qv4) ?_
  refine tm_n 3 (F' := (30, [(5, .inl v4), (4, .inl v2), (0, .inr (.inr a0)), (1, .inl a1), (2, .inl a2), (3, .inl a3)], [.inl (97 : Int32), .inl v2])) rfl ?_
  by_cases c49 : v2 = (97 : Int32)
  · rw [if_pos c49] at hr
    refine tm_icF rfl (fun q => q c49) ?_
    refine tm_n 2 (F' := (36, [(5, .inl v4), (4, .inl v2), (0, .inr (.inr a0)), (1, .inl a1), (2, .inl a2), (3, .inl a3)], [.inl v4, .inr (.inr a0)])) rfl ?_
    by_cases c5 : lc_of h a0 = some 10
    · rw [if_pos c5] at hr
      rcases lb_V_s hr with ⟨h7, m8, hr⟩ | ⟨a9, h7, z10, z10l, m8, qz10, rfl⟩
      · try dsimp only at hr
        refine tm_call rfl rfl (tm_callV rfl rfl c5 rfl rfl) (lq_306 m8) ?_
        refine tm_n 1 (F' := (106, [(5, .inl v4), (4, .inl v2), (0, .inr (.inr a0)), (1, .inl a1), (2, .inl a2), (3, .inl a3)], [])) rfl ?_
        cases hr
        exact tm_retV rfl
      · exact tm_callT rfl rfl (tm_callV rfl rfl c5 rfl rfl) (lq_306 m8) qz10 rfl
    · rw [if_neg c5] at hr
      cases hr
  · rw [if_neg c49] at hr
    refine tm_icT rfl c49 ?_
    refine tm_n 2 (F' := (46, [(5, .inl v4), (4, .inl v2), (0, .inr (.inr a0)), (1, .inl a1), (2, .inl a2), (3, .inl a3)], [.inl (114 : Int32), .inl v2])) rfl ?_
    by_cases c48 : v2 = (114 : Int32)
    · rw [if_pos c48] at hr
      refine tm_icF rfl (fun q => q c48) ?_
      refine tm_n 3 (F' := (53, [(5, .inl v4), (4, .inl v2), (0, .inr (.inr a0)), (1, .inl a1), (2, .inl a2), (3, .inl a3)], [.inl v4, .inl a1, .inr (.inr a0)])) rfl ?_
      by_cases c11 : lc_of h a0 = some 10
      · rw [if_pos c11] at hr
        rcases lb_I_s hr with ⟨v12, h13, m14, hr⟩ | ⟨a28, h13, z29, z29l, m14, qz29, rfl⟩
        · try dsimp only at hr
          refine tm_call rfl rfl (tm_callV rfl rfl c11 rfl rfl) (lq_308 m14) ?_
          by_cases c27 : v12 = (0 : Int32)
          · rw [if_pos c27] at hr
            refine tm_ifT rfl c27 ?_
            refine tm_n 2 (F' := (72, [(5, .inl v4), (4, .inl v2), (0, .inr (.inr a0)), (1, .inl a1), (2, .inl a2), (3, .inl a3)], [.inl (35 : Int32), .inr (.inr a0)])) rfl ?_
            by_cases c15 : lc_of h13 a0 = some 10
            · rw [if_pos c15] at hr
              rcases lb_V_s hr with ⟨h17, m18, hr⟩ | ⟨a19, h17, z20, z20l, m18, qz20, rfl⟩
              · try dsimp only at hr
                refine tm_call rfl rfl (tm_callV rfl rfl c15 rfl rfl) (lq_303 m18) ?_
                refine tm_n 1 (F' := (106, [(5, .inl v4), (4, .inl v2), (0, .inr (.inr a0)), (1, .inl a1), (2, .inl a2), (3, .inl a3)], [])) rfl ?_
                cases hr
                exact tm_retV rfl
              · exact tm_callT rfl rfl (tm_callV rfl rfl c15 rfl rfl) (lq_303 m18) qz20 rfl
            · rw [if_neg c15] at hr
              cases hr
          · rw [if_neg c27] at hr
            refine tm_ifF rfl c27 ?_
            refine tm_n 3 (F' := (63, [(5, .inl v4), (4, .inl v2), (0, .inr (.inr a0)), (1, .inl a1), (2, .inl a2), (3, .inl a3)], [.inl v4, .inl a1, .inr (.inr a0)])) rfl ?_
            by_cases c21 : lc_of h13 a0 = some 10
            · rw [if_pos c21] at hr
              rcases lb_V_s hr with ⟨h23, m24, hr⟩ | ⟨a25, h23, z26, z26l, m24, qz26, rfl⟩
              · try dsimp only at hr
                refine tm_call rfl rfl (tm_callV rfl rfl c21 rfl rfl) (lq_309 m24) ?_
                refine tm_n 1 (F' := (106, [(5, .inl v4), (4, .inl v2), (0, .inr (.inr a0)), (1, .inl a1), (2, .inl a2), (3, .inl a3)], [])) rfl ?_
                cases hr
                exact tm_retV rfl
              · exact tm_callT rfl rfl (tm_callV rfl rfl c21 rfl rfl) (lq_309 m24) qz26 rfl
            · rw [if_neg c21] at hr
              cases hr
        · exact tm_callT rfl rfl (tm_callV rfl rfl c11 rfl rfl) (lq_308 m14) qz29 rfl
      · rw [if_neg c11] at hr
        cases hr
    · rw [if_neg c48] at hr
      refine tm_icT rfl c48 ?_
      refine tm_n 1 (F' := (80, [(5, .inl v4), (4, .inl v2), (0, .inr (.inr a0)), (1, .inl a1), (2, .inl a2), (3, .inl a3)], [.inl v2])) rfl ?_
      rcases lb_I_s hr with ⟨v30, h31, m32, hr⟩ | ⟨a46, h31, z47, z47l, m32, qz47, rfl⟩
      · try dsimp only at hr
        refine tm_call rfl rfl (tm_callS rfl rfl) (lq_289 m32) ?_
        by_cases c45 : v30 = (0 : Int32)
        · rw [if_pos c45] at hr
          refine tm_ifT rfl c45 ?_
          refine tm_n 4 (F' := (103, [(5, .inl v4), (4, .inl v2), (0, .inr (.inr a0)), (1, .inl a1), (2, .inl a2), (3, .inl a3)], [.inl v2, .inl a3, .inl a2, .inr (.inr a0)])) rfl ?_
          by_cases c33 : lc_of h31 a0 = some 10
          · rw [if_pos c33] at hr
            rcases lb_V_s hr with ⟨h35, m36, hr⟩ | ⟨a37, h35, z38, z38l, m36, qz38, rfl⟩
            · try dsimp only at hr
              refine tm_call rfl rfl (tm_callV rfl rfl c33 rfl rfl) (lq_311 m36) ?_
              cases hr
              exact tm_retV rfl
            · exact tm_callT rfl rfl (tm_callV rfl rfl c33 rfl rfl) (lq_311 m36) qz38 rfl
          · rw [if_neg c33] at hr
            cases hr
        · rw [if_neg c45] at hr
          refine tm_ifF rfl c45 ?_
          refine tm_n 4 (F' := (92, [(5, .inl v4), (4, .inl v2), (0, .inr (.inr a0)), (1, .inl a1), (2, .inl a2), (3, .inl a3)], [.inl v4, .inl v2, .inl a1, .inr (.inr a0)])) rfl ?_
          by_cases c39 : lc_of h31 a0 = some 10
          · rw [if_pos c39] at hr
            rcases lb_V_s hr with ⟨h41, m42, hr⟩ | ⟨a43, h41, z44, z44l, m42, qz44, rfl⟩
            · try dsimp only at hr
              refine tm_call rfl rfl (tm_callV rfl rfl c39 rfl rfl) (lq_310 m42) ?_
              refine tm_n 1 (F' := (106, [(5, .inl v4), (4, .inl v2), (0, .inr (.inr a0)), (1, .inl a1), (2, .inl a2), (3, .inl a3)], [])) rfl ?_
              cases hr
              exact tm_retV rfl
            · exact tm_callT rfl rfl (tm_callV rfl rfl c39 rfl rfl) (lq_310 m42) qz44 rfl
          · rw [if_neg c39] at hr
            cases hr
      · exact tm_callT rfl rfl (tm_callS rfl rfl) (lq_289 m32) qz47 rfl
