/-! lifted: 241, 246, 249, 250, 248, 247, 236, 251, 252, 255, 254 -/
-- OfficeSheetModel.placeOf(III)I
set_option maxRecDepth 20000 in
def ll_241 (a0 : Option Nat) (a1 : Int32) (a2 : Int32) (a3 : Int32) (h : pm_H) : tm_L := if (0 : Int32) ≤ a3 then (lf_R h a0 [10, 7]).bind fun v1 => if lc_of h a0 = some 10 then lb_I (ll_242 a0 a1 a2 a3 h) (fun v3 h4 => if lc_of h4 a0 = some 10 then lb_I (ll_243 a0 a1 v3 (1 : Int32) h4) (fun v7 h8 => (la_I h8 .iaload v1 v7).bind fun v10 => some (.inl (some (.inl v10)), h8)) else none) else none else some (.inl (some (.inl (-1 : Int32))), h)
set_option maxRecDepth 20000 in
theorem lq_241 {w : Option Nat} {d : Nat} {a0 : Option Nat} {a1 : Int32} {a2 : Int32} {a3 : Int32} {h : pm_H} {r : tm_O × pm_H} (hr : ll_241 a0 a1 a2 a3 h = some r) : tm_run pt_P (pt_G (tm_r w)) (d + 2) 241 [.inr (.inr a0), .inl a1, .inl a2, .inl a3] h r := by
  unfold ll_241 at hr
  show pm_to pt_P (pt_G (tm_r w)) (d + 2) (pt_g241, []) (tm_m (0, [(0, .inr (.inr a0)), (1, .inl a1), (2, .inl a2), (3, .inl a3)], [])) h (tm_e r)
  refine tm_n 1 (F' := (1, [(0, .inr (.inr a0)), (1, .inl a1), (2, .inl a2), (3, .inl a3)], [.inl a3])) rfl ?_
  by_cases c15 : (0 : Int32) ≤ a3
  · rw [if_pos c15] at hr
    refine tm_ifT rfl c15 ?_
    refine tm_n 1 (F' := (9, [(0, .inr (.inr a0)), (1, .inl a1), (2, .inl a2), (3, .inl a3)], [.inr (.inr a0)])) rfl ?_
    obtain ⟨v1, qv1, hr⟩ := Option.bind_eq_some_iff.mp hr
    refine tm_getf rfl (lf_R_V qv1) ?_
    refine tm_n 6 (F' := (18, [(0, .inr (.inr a0)), (1, .inl a1), (2, .inl a2), (3, .inl a3)], [.inl a3, .inl a2, .inl a1, .inr (.inr a0), .inl a1, .inr (.inr a0), .inr (.inr v1)])) rfl ?_
    by_cases c2 : lc_of h a0 = some 10
    · rw [if_pos c2] at hr
      rcases lb_I_s hr with ⟨v3, h4, m5, hr⟩ | ⟨a13, h4, z14, z14l, m5, qz14, rfl⟩
      · try dsimp only at hr
        refine tm_call rfl rfl (tm_callV rfl rfl c2 rfl rfl) (lq_242 m5) ?_
        refine tm_n 1 (F' := (22, [(0, .inr (.inr a0)), (1, .inl a1), (2, .inl a2), (3, .inl a3)], [.inl (1 : Int32), .inl v3, .inl a1, .inr (.inr a0), .inr (.inr v1)])) rfl ?_
        by_cases c6 : lc_of h4 a0 = some 10
        · rw [if_pos c6] at hr
          rcases lb_I_s hr with ⟨v7, h8, m9, hr⟩ | ⟨a11, h8, z12, z12l, m9, qz12, rfl⟩
          · try dsimp only at hr
            refine tm_call rfl rfl (tm_callV rfl rfl c6 rfl rfl) (lq_243 m9) ?_
            obtain ⟨v10, qv10, hr⟩ := Option.bind_eq_some_iff.mp hr
            refine tm_ald rfl rfl (la_I_V qv10) ?_
            cases hr
            exact tm_retI rfl rfl
          · exact tm_callT rfl rfl (tm_callV rfl rfl c6 rfl rfl) (lq_243 m9) qz12 rfl
        · rw [if_neg c6] at hr
          cases hr
      · exact tm_callT rfl rfl (tm_callV rfl rfl c2 rfl rfl) (lq_242 m5) qz14 rfl
    · rw [if_neg c2] at hr
      cases hr
  · rw [if_neg c15] at hr
    refine tm_ifF rfl c15 ?_
    refine tm_n 2 (F' := (26, [(0, .inr (.inr a0)), (1, .inl a1), (2, .inl a2), (3, .inl a3)], [.inl (-1 : Int32)])) rfl ?_
    cases hr
    exact tm_retI rfl rfl
-- OfficeSheetModel.begin(IIII)I
set_option maxRecDepth 20000 in
def l246_117 : Nat → Option Nat → Int32 → Int32 → Int32 → pm_H → tm_L
  | 0 => fun _ _ _ _ _ => none
  | n + 1 => fun x0 x1 x5 x6 h => if (3 : Int32) ≤ x6 then some (.inl (some (.inl x5)), h) else (lf_R h x0 [10, 4]).bind fun v1 => (lf_R h x0 [10, 16]).bind fun v2 => (la_I h .iaload v2 (((3 : Int32) * x1) + x6)).bind fun v3 => (la_S pt_P h .iastore v1 (((3 : Int32) * x5) + x6) (.inl v3)).bind fun h4 => l246_117 n x0 x1 x5 (x6 + (1 : Int32)) h4
set_option maxRecDepth 20000 in
theorem l246_117_t {w : Option Nat} {d : Nat} : ∀ (n : Nat) {x0 : Option Nat} {x1 : Int32} {x5 : Int32} {x6 : Int32} {h : pm_H} {r : tm_O × pm_H}, l246_117 n x0 x1 x5 x6 h = some r → pm_to pt_P (pt_G (tm_r w)) (d + 0) (pt_g246, []) (tm_m (117, [(0, .inr (.inr x0)), (1, .inl x1), (5, .inl x5), (6, .inl x6)], [])) h (tm_e r) := by
  intro n
  induction n with
  | zero => intro x0 x1 x5 x6 h r hr; cases hr
  | succ n ih =>
    intro x0 x1 x5 x6 h r hr
    unfold l246_117 at hr
    refine tm_n 2 (F' := (120, [(0, .inr (.inr x0)), (1, .inl x1), (5, .inl x5), (6, .inl x6)], [.inl (3 : Int32), .inl x6])) rfl ?_
    by_cases c5 : (3 : Int32) ≤ x6
    · rw [if_pos c5] at hr
      refine tm_icT rfl c5 ?_
      refine tm_n 1 (F' := (154, [(0, .inr (.inr x0)), (1, .inl x1), (5, .inl x5), (6, .inl x6)], [.inl x5])) rfl ?_
      cases hr
      exact tm_retI rfl rfl
    · rw [if_neg c5] at hr
      refine tm_icF rfl c5 ?_
      refine tm_n 1 (F' := (124, [(0, .inr (.inr x0)), (1, .inl x1), (5, .inl x5), (6, .inl x6)], [.inr (.inr x0)])) rfl ?_
      obtain ⟨v1, qv1, hr⟩ := Option.bind_eq_some_iff.mp hr
      refine tm_getf rfl (lf_R_V qv1) ?_
      refine tm_n 6 (F' := (135, [(0, .inr (.inr x0)), (1, .inl x1), (5, .inl x5), (6, .inl x6)], [.inr (.inr x0), .inl (((3 : Int32) * x5) + x6), .inr (.inr v1)])) rfl ?_
      obtain ⟨v2, qv2, hr⟩ := Option.bind_eq_some_iff.mp hr
      refine tm_getf rfl (lf_R_V qv2) ?_
      refine tm_n 5 (F' := (144, [(0, .inr (.inr x0)), (1, .inl x1), (5, .inl x5), (6, .inl x6)], [.inl (((3 : Int32) * x1) + x6), .inr (.inr v2), .inl (((3 : Int32) * x5) + x6), .inr (.inr v1)])) rfl ?_
      obtain ⟨v3, qv3, hr⟩ := Option.bind_eq_some_iff.mp hr
      refine tm_ald rfl rfl (la_I_V qv3) ?_
      obtain ⟨h4, qh4, hr⟩ := Option.bind_eq_some_iff.mp hr
      refine tm_ast rfl rfl qh4 ?_
      refine tm_n 2 (F' := (117, [(6, .inl (x6 + (1 : Int32))), (0, .inr (.inr x0)), (1, .inl x1), (5, .inl x5)], [])) rfl ?_
      refine tm_cut (a := [(0, .inr (.inr x0)), (1, .inl x1), (5, .inl x5), (6, .inl (x6 + (1 : Int32)))]) rfl (tm_sbs [1, 2, 3, 0] rfl) ?_
      exact ih hr
set_option maxRecDepth 20000 in
def l246_64 (x0 : Option Nat) (x1 : Int32) (x5 : Int32) (s0 : Int32) (s1 : Int32) (s2 : Option Nat) (h : pm_H) : tm_L := (la_S pt_P h .iastore s2 s1 (.inl s0)).bind fun h1 => (lf_R h1 x0 [10, 6]).bind fun v2 => (la_S pt_P h1 .iastore v2 x5 (.inl (-1 : Int32))).bind fun h3 => (lf_R h3 x0 [10, 7]).bind fun v4 => (la_S pt_P h3 .iastore v4 x5 (.inl x5)).bind fun h5 => (lf_R h5 x0 [10, 8]).bind fun v6 => (la_S pt_P h5 .iastore v6 x5 (.inl (-1 : Int32))).bind fun h7 => (lf_R h7 x0 [10, 9]).bind fun v8 => (la_S pt_P h7 .iastore v8 x5 (.inl (-1 : Int32))).bind fun h9 => (lf_R h9 x0 [10, 10]).bind fun v10 => (la_S pt_P h9 .iastore v10 x5 (.inl (-1 : Int32))).bind fun h11 => (lf_R h11 x0 [10, 11]).bind fun v12 => (la_S pt_P h11 .iastore v12 x5 (.inl (-1 : Int32))).bind fun h13 => l246_117 lf_N x0 x1 x5 (0 : Int32) h13
set_option maxRecDepth 20000 in
theorem l246_64_t {w : Option Nat} {d : Nat} {x0 : Option Nat} {x1 : Int32} {x5 : Int32} {s0 : Int32} {s1 : Int32} {s2 : Option Nat} {h : pm_H} {r : tm_O × pm_H} (hr : l246_64 x0 x1 x5 s0 s1 s2 h = some r) : pm_to pt_P (pt_G (tm_r w)) (d + 0) (pt_g246, []) (tm_m (64, [(0, .inr (.inr x0)), (1, .inl x1), (5, .inl x5)], [.inl s0, .inl s1, .inr (.inr s2)])) h (tm_e r) := by
  unfold l246_64 at hr
  obtain ⟨h1, qh1, hr⟩ := Option.bind_eq_some_iff.mp hr
  refine tm_ast rfl rfl qh1 ?_
  refine tm_n 1 (F' := (66, [(0, .inr (.inr x0)), (1, .inl x1), (5, .inl x5)], [.inr (.inr x0)])) rfl ?_
  obtain ⟨v2, qv2, hr⟩ := Option.bind_eq_some_iff.mp hr
  refine tm_getf rfl (lf_R_V qv2) ?_
  refine tm_n 2 (F' := (72, [(0, .inr (.inr x0)), (1, .inl x1), (5, .inl x5)], [.inl (-1 : Int32), .inl x5, .inr (.inr v2)])) rfl ?_
  obtain ⟨h3, qh3, hr⟩ := Option.bind_eq_some_iff.mp hr
  refine tm_ast rfl rfl qh3 ?_
  refine tm_n 1 (F' := (74, [(0, .inr (.inr x0)), (1, .inl x1), (5, .inl x5)], [.inr (.inr x0)])) rfl ?_
  obtain ⟨v4, qv4, hr⟩ := Option.bind_eq_some_iff.mp hr
  refine tm_getf rfl (lf_R_V qv4) ?_
  refine tm_n 2 (F' := (81, [(0, .inr (.inr x0)), (1, .inl x1), (5, .inl x5)], [.inl x5, .inl x5, .inr (.inr v4)])) rfl ?_
  obtain ⟨h5, qh5, hr⟩ := Option.bind_eq_some_iff.mp hr
  refine tm_ast rfl rfl qh5 ?_
  refine tm_n 1 (F' := (83, [(0, .inr (.inr x0)), (1, .inl x1), (5, .inl x5)], [.inr (.inr x0)])) rfl ?_
  obtain ⟨v6, qv6, hr⟩ := Option.bind_eq_some_iff.mp hr
  refine tm_getf rfl (lf_R_V qv6) ?_
  refine tm_n 2 (F' := (89, [(0, .inr (.inr x0)), (1, .inl x1), (5, .inl x5)], [.inl (-1 : Int32), .inl x5, .inr (.inr v6)])) rfl ?_
  obtain ⟨h7, qh7, hr⟩ := Option.bind_eq_some_iff.mp hr
  refine tm_ast rfl rfl qh7 ?_
  refine tm_n 1 (F' := (91, [(0, .inr (.inr x0)), (1, .inl x1), (5, .inl x5)], [.inr (.inr x0)])) rfl ?_
  obtain ⟨v8, qv8, hr⟩ := Option.bind_eq_some_iff.mp hr
  refine tm_getf rfl (lf_R_V qv8) ?_
  refine tm_n 2 (F' := (97, [(0, .inr (.inr x0)), (1, .inl x1), (5, .inl x5)], [.inl (-1 : Int32), .inl x5, .inr (.inr v8)])) rfl ?_
  obtain ⟨h9, qh9, hr⟩ := Option.bind_eq_some_iff.mp hr
  refine tm_ast rfl rfl qh9 ?_
  refine tm_n 1 (F' := (99, [(0, .inr (.inr x0)), (1, .inl x1), (5, .inl x5)], [.inr (.inr x0)])) rfl ?_
  obtain ⟨v10, qv10, hr⟩ := Option.bind_eq_some_iff.mp hr
  refine tm_getf rfl (lf_R_V qv10) ?_
  refine tm_n 2 (F' := (105, [(0, .inr (.inr x0)), (1, .inl x1), (5, .inl x5)], [.inl (-1 : Int32), .inl x5, .inr (.inr v10)])) rfl ?_
  obtain ⟨h11, qh11, hr⟩ := Option.bind_eq_some_iff.mp hr
  refine tm_ast rfl rfl qh11 ?_
  refine tm_n 1 (F' := (107, [(0, .inr (.inr x0)), (1, .inl x1), (5, .inl x5)], [.inr (.inr x0)])) rfl ?_
  obtain ⟨v12, qv12, hr⟩ := Option.bind_eq_some_iff.mp hr
  refine tm_getf rfl (lf_R_V qv12) ?_
  refine tm_n 2 (F' := (113, [(0, .inr (.inr x0)), (1, .inl x1), (5, .inl x5)], [.inl (-1 : Int32), .inl x5, .inr (.inr v12)])) rfl ?_
  obtain ⟨h13, qh13, hr⟩ := Option.bind_eq_some_iff.mp hr
  refine tm_ast rfl rfl qh13 ?_
  refine tm_n 2 (F' := (117, [(6, .inl (0 : Int32)), (0, .inr (.inr x0)), (1, .inl x1), (5, .inl x5)], [])) rfl ?_
  refine tm_cut (a := [(0, .inr (.inr x0)), (1, .inl x1), (5, .inl x5), (6, .inl (0 : Int32))]) rfl (tm_sbs [1, 2, 3, 0] rfl) ?_
  exact l246_117_t lf_N hr
set_option maxRecDepth 20000 in
def ll_246 (a0 : Option Nat) (a1 : Int32) (a2 : Int32) (a3 : Int32) (a4 : Int32) (h : pm_H) : tm_L := (lf_R h a0 [10, 16]).bind fun v1 => (la_I h .iaload v1 ((4 : Int32) * a1)).bind fun v2 => (lf_R h a0 [10, 1]).bind fun v3 => (la_S pt_P h .iastore v3 (((40 : Int32) * a1) + v2) (.inl a2)).bind fun h4 => (lf_R h4 a0 [10, 2]).bind fun v5 => (la_S pt_P h4 .iastore v5 (((40 : Int32) * a1) + v2) (.inl a3)).bind fun h6 => (lf_R h6 a0 [10, 3]).bind fun v7 => (lf_R h6 a0 [10, 17]).bind fun v8 => (la_I h6 .iaload v8 a1).bind fun v9 => (la_S pt_P h6 .iastore v7 (((40 : Int32) * a1) + v2) (.inl (v9 + (1 : Int32)))).bind fun h10 => (lf_R h10 a0 [10, 5]).bind fun v11 => if (0 : Int32) ≤ a4 then l246_64 a0 a1 (((40 : Int32) * a1) + v2) a4 (((40 : Int32) * a1) + v2) v11 h10 else l246_64 a0 a1 (((40 : Int32) * a1) + v2) (((40 : Int32) * a1) + v2) (((40 : Int32) * a1) + v2) v11 h10
set_option maxRecDepth 20000 in
theorem lq_246 {w : Option Nat} {d : Nat} {a0 : Option Nat} {a1 : Int32} {a2 : Int32} {a3 : Int32} {a4 : Int32} {h : pm_H} {r : tm_O × pm_H} (hr : ll_246 a0 a1 a2 a3 a4 h = some r) : tm_run pt_P (pt_G (tm_r w)) (d + 0) 246 [.inr (.inr a0), .inl a1, .inl a2, .inl a3, .inl a4] h r := by
  unfold ll_246 at hr
  show pm_to pt_P (pt_G (tm_r w)) (d + 0) (pt_g246, []) (tm_m (0, [(0, .inr (.inr a0)), (1, .inl a1), (2, .inl a2), (3, .inl a3), (4, .inl a4)], [])) h (tm_e r)
  refine tm_n 4 (F' := (5, [(0, .inr (.inr a0)), (1, .inl a1), (2, .inl a2), (3, .inl a3), (4, .inl a4)], [.inr (.inr a0), .inl ((40 : Int32) * a1)])) rfl ?_
  obtain ⟨v1, qv1, hr⟩ := Option.bind_eq_some_iff.mp hr
  refine tm_getf rfl (lf_R_V qv1) ?_
  refine tm_n 3 (F' := (11, [(0, .inr (.inr a0)), (1, .inl a1), (2, .inl a2), (3, .inl a3), (4, .inl a4)], [.inl ((4 : Int32) * a1), .inr (.inr v1), .inl ((40 : Int32) * a1)])) rfl ?_
  obtain ⟨v2, qv2, hr⟩ := Option.bind_eq_some_iff.mp hr
  refine tm_ald rfl rfl (la_I_V qv2) ?_
  refine tm_n 3 (F' := (16, [(5, .inl (((40 : Int32) * a1) + v2)), (0, .inr (.inr a0)), (1, .inl a1), (2, .inl a2), (3, .inl a3), (4, .inl a4)], [.inr (.inr a0)])) rfl ?_
  obtain ⟨v3, qv3, hr⟩ := Option.bind_eq_some_iff.mp hr
  refine tm_getf rfl (lf_R_V qv3) ?_
  refine tm_n 2 (F' := (22, [(5, .inl (((40 : Int32) * a1) + v2)), (0, .inr (.inr a0)), (1, .inl a1), (2, .inl a2), (3, .inl a3), (4, .inl a4)], [.inl a2, .inl (((40 : Int32) * a1) + v2), .inr (.inr v3)])) rfl ?_
  obtain ⟨h4, qh4, hr⟩ := Option.bind_eq_some_iff.mp hr
  refine tm_ast rfl rfl qh4 ?_
  refine tm_n 1 (F' := (24, [(5, .inl (((40 : Int32) * a1) + v2)), (0, .inr (.inr a0)), (1, .inl a1), (2, .inl a2), (3, .inl a3), (4, .inl a4)], [.inr (.inr a0)])) rfl ?_
  obtain ⟨v5, qv5, hr⟩ := Option.bind_eq_some_iff.mp hr
  refine tm_getf rfl (lf_R_V qv5) ?_
  refine tm_n 2 (F' := (30, [(5, .inl (((40 : Int32) * a1) + v2)), (0, .inr (.inr a0)), (1, .inl a1), (2, .inl a2), (3, .inl a3), (4, .inl a4)], [.inl a3, .inl (((40 : Int32) * a1) + v2), .inr (.inr v5)])) rfl ?_
  obtain ⟨h6, qh6, hr⟩ := Option.bind_eq_some_iff.mp hr
  refine tm_ast rfl rfl qh6 ?_
  refine tm_n 1 (F' := (32, [(5, .inl (((40 : Int32) * a1) + v2)), (0, .inr (.inr a0)), (1, .inl a1), (2, .inl a2), (3, .inl a3), (4, .inl a4)], [.inr (.inr a0)])) rfl ?_
  obtain ⟨v7, qv7, hr⟩ := Option.bind_eq_some_iff.mp hr
  refine tm_getf rfl (lf_R_V qv7) ?_
  refine tm_n 2 (F' := (38, [(5, .inl (((40 : Int32) * a1) + v2)), (0, .inr (.inr a0)), (1, .inl a1), (2, .inl a2), (3, .inl a3), (4, .inl a4)], [.inr (.inr a0), .inl (((40 : Int32) * a1) + v2), .inr (.inr v7)])) rfl ?_
  obtain ⟨v8, qv8, hr⟩ := Option.bind_eq_some_iff.mp hr
  refine tm_getf rfl (lf_R_V qv8) ?_
  refine tm_n 1 (F' := (42, [(5, .inl (((40 : Int32) * a1) + v2)), (0, .inr (.inr a0)), (1, .inl a1), (2, .inl a2), (3, .inl a3), (4, .inl a4)], [.inl a1, .inr (.inr v8), .inl (((40 : Int32) * a1) + v2), .inr (.inr v7)])) rfl ?_
  obtain ⟨v9, qv9, hr⟩ := Option.bind_eq_some_iff.mp hr
  refine tm_ald rfl rfl (la_I_V qv9) ?_
  refine tm_n 2 (F' := (45, [(5, .inl (((40 : Int32) * a1) + v2)), (0, .inr (.inr a0)), (1, .inl a1), (2, .inl a2), (3, .inl a3), (4, .inl a4)], [.inl (v9 + (1 : Int32)), .inl (((40 : Int32) * a1) + v2), .inr (.inr v7)])) rfl ?_
  obtain ⟨h10, qh10, hr⟩ := Option.bind_eq_some_iff.mp hr
  refine tm_ast rfl rfl qh10 ?_
  refine tm_n 1 (F' := (47, [(5, .inl (((40 : Int32) * a1) + v2)), (0, .inr (.inr a0)), (1, .inl a1), (2, .inl a2), (3, .inl a3), (4, .inl a4)], [.inr (.inr a0)])) rfl ?_
  obtain ⟨v11, qv11, hr⟩ := Option.bind_eq_some_iff.mp hr
  refine tm_getf rfl (lf_R_V qv11) ?_
  refine tm_n 2 (F' := (54, [(5, .inl (((40 : Int32) * a1) + v2)), (0, .inr (.inr a0)), (1, .inl a1), (2, .inl a2), (3, .inl a3), (4, .inl a4)], [.inl a4, .inl (((40 : Int32) * a1) + v2), .inr (.inr v11)])) rfl ?_
  by_cases c12 : (0 : Int32) ≤ a4
  · rw [if_pos c12] at hr
    refine tm_ifT rfl c12 ?_
    refine tm_n 1 (F' := (64, [(5, .inl (((40 : Int32) * a1) + v2)), (0, .inr (.inr a0)), (1, .inl a1), (2, .inl a2), (3, .inl a3), (4, .inl a4)], [.inl a4, .inl (((40 : Int32) * a1) + v2), .inr (.inr v11)])) rfl ?_
    refine tm_cut (a := [(0, .inr (.inr a0)), (1, .inl a1), (5, .inl (((40 : Int32) * a1) + v2))]) rfl (tm_sbs [1, 2, 0] rfl) ?_
    exact l246_64_t hr
  · rw [if_neg c12] at hr
    refine tm_ifF rfl c12 ?_
    refine tm_n 2 (F' := (64, [(5, .inl (((40 : Int32) * a1) + v2)), (0, .inr (.inr a0)), (1, .inl a1), (2, .inl a2), (3, .inl a3), (4, .inl a4)], [.inl (((40 : Int32) * a1) + v2), .inl (((40 : Int32) * a1) + v2), .inr (.inr v11)])) rfl ?_
    refine tm_cut (a := [(0, .inr (.inr a0)), (1, .inl a1), (5, .inl (((40 : Int32) * a1) + v2))]) rfl (tm_sbs [1, 2, 0] rfl) ?_
    exact l246_64_t hr
-- OfficeSheetModel.child(IIII)I
set_option maxRecDepth 20000 in
def l249_114 (K6 : Option Nat → Int32 → Int32 → Int32 → Int32 → Int32 → Int32 → pm_H → tm_L) (x0 : Option Nat) (x1 : Int32) (x2 : Int32) (x3 : Int32) (x4 : Int32) (x5 : Int32) (x6 : Int32) (h : pm_H) : tm_L := K6 x0 x1 x2 x3 x4 x5 (x6 + (1 : Int32)) h
set_option maxRecDepth 20000 in
theorem l249_114_t {w : Option Nat} {d : Nat} {K6 : Option Nat → Int32 → Int32 → Int32 → Int32 → Int32 → Int32 → pm_H → tm_L} (hK6 : ∀ {x0 : Option Nat} {x1 : Int32} {x2 : Int32} {x3 : Int32} {x4 : Int32} {x5 : Int32} {x6 : Int32}  {h : pm_H} {r : tm_O × pm_H}, K6 x0 x1 x2 x3 x4 x5 x6 h = some r → pm_to pt_P (pt_G (tm_r w)) (d + 1) (pt_g249, []) (tm_m (6, [(0, .inr (.inr x0)), (1, .inl x1), (2, .inl x2), (3, .inl x3), (4, .inl x4), (5, .inl x5), (6, .inl x6)], [])) h (tm_e r)) {x0 : Option Nat} {x1 : Int32} {x2 : Int32} {x3 : Int32} {x4 : Int32} {x5 : Int32} {x6 : Int32} {h : pm_H} {r : tm_O × pm_H} (hr : l249_114 K6 x0 x1 x2 x3 x4 x5 x6 h = some r) : pm_to pt_P (pt_G (tm_r w)) (d + 1) (pt_g249, []) (tm_m (114, [(0, .inr (.inr x0)), (1, .inl x1), (2, .inl x2), (3, .inl x3), (4, .inl x4), (5, .inl x5), (6, .inl x6)], [])) h (tm_e r) := by
  unfold l249_114 at hr
  refine tm_n 2 (F' := (6, [(6, .inl (x6 + (1 : Int32))), (0, .inr (.inr x0)), (1, .inl x1), (2, .inl x2), (3, .inl x3), (4, .inl x4), (5, .inl x5)], [])) rfl ?_
  refine tm_cut (a := [(0, .inr (.inr x0)), (1, .inl x1), (2, .inl x2), (3, .inl x3), (4, .inl x4), (5, .inl x5), (6, .inl (x6 + (1 : Int32)))]) rfl (tm_sbs [1, 2, 3, 4, 5, 6, 0] rfl) ?_
  exact hK6 hr
set_option maxRecDepth 20000 in
def l249_110 (K6 : Option Nat → Int32 → Int32 → Int32 → Int32 → Int32 → Int32 → pm_H → tm_L) (x0 : Option Nat) (x1 : Int32) (x2 : Int32) (x3 : Int32) (x4 : Int32) (x6 : Int32) (h : pm_H) : tm_L := l249_114 K6 x0 x1 x2 x3 x4 x6 x6 h
set_option maxRecDepth 20000 in
theorem l249_110_t {w : Option Nat} {d : Nat} {K6 : Option Nat → Int32 → Int32 → Int32 → Int32 → Int32 → Int32 → pm_H → tm_L} (hK6 : ∀ {x0 : Option Nat} {x1 : Int32} {x2 : Int32} {x3 : Int32} {x4 : Int32} {x5 : Int32} {x6 : Int32}  {h : pm_H} {r : tm_O × pm_H}, K6 x0 x1 x2 x3 x4 x5 x6 h = some r → pm_to pt_P (pt_G (tm_r w)) (d + 1) (pt_g249, []) (tm_m (6, [(0, .inr (.inr x0)), (1, .inl x1), (2, .inl x2), (3, .inl x3), (4, .inl x4), (5, .inl x5), (6, .inl x6)], [])) h (tm_e r)) {x0 : Option Nat} {x1 : Int32} {x2 : Int32} {x3 : Int32} {x4 : Int32} {x6 : Int32} {h : pm_H} {r : tm_O × pm_H} (hr : l249_110 K6 x0 x1 x2 x3 x4 x6 h = some r) : pm_to pt_P (pt_G (tm_r w)) (d + 1) (pt_g249, []) (tm_m (110, [(0, .inr (.inr x0)), (1, .inl x1), (2, .inl x2), (3, .inl x3), (4, .inl x4), (6, .inl x6)], [])) h (tm_e r) := by
  unfold l249_110 at hr
  refine tm_n 2 (F' := (114, [(5, .inl x6), (0, .inr (.inr x0)), (1, .inl x1), (2, .inl x2), (3, .inl x3), (4, .inl x4), (6, .inl x6)], [])) rfl ?_
  refine tm_cut (a := [(0, .inr (.inr x0)), (1, .inl x1), (2, .inl x2), (3, .inl x3), (4, .inl x4), (5, .inl x6), (6, .inl x6)]) rfl (tm_sbs [1, 2, 3, 4, 5, 0, 6] rfl) ?_
  exact l249_114_t hK6 hr
set_option maxRecDepth 20000 in
def l249_40 (K6 : Option Nat → Int32 → Int32 → Int32 → Int32 → Int32 → Int32 → pm_H → tm_L) (x0 : Option Nat) (x1 : Int32) (x2 : Int32) (x3 : Int32) (x4 : Int32) (x5 : Int32) (x6 : Int32) (s0 : Int32) (h : pm_H) : tm_L := if s0 = (0 : Int32) then l249_114 K6 x0 x1 x2 x3 x4 x5 x6 h else if lc_of h x0 = some 10 then lb_I (ll_244 x0 x1 x6 h) (fun v2 h3 => if v2 = (0 : Int32) then l249_114 K6 x0 x1 x2 x3 x4 x5 x6 h3 else (lf_R h3 x0 [10, 2]).bind fun v5 => (la_I h3 .iaload v5 x6).bind fun v6 => if v6 = x2 then (lf_R h3 x0 [10, 8]).bind fun v7 => (la_I h3 .iaload v7 x6).bind fun v8 => if v8 = x3 then if lc_of h3 x0 = some 10 then lb_I (ll_245 x0 x6 h3) (fun v10 h11 => if x4 ≤ v10 then l249_114 K6 x0 x1 x2 x3 x4 x5 x6 h11 else if x5 < (0 : Int32) then l249_110 K6 x0 x1 x2 x3 x4 x6 h11 else if lc_of h11 x0 = some 10 then lb_I (ll_245 x0 x6 h11) (fun v14 h15 => if lc_of h15 x0 = some 10 then lb_I (ll_245 x0 x5 h15) (fun v18 h19 => if v14 ≤ v18 then l249_114 K6 x0 x1 x2 x3 x4 x5 x6 h19 else l249_110 K6 x0 x1 x2 x3 x4 x6 h19) else none) else none) else none else l249_114 K6 x0 x1 x2 x3 x4 x5 x6 h3 else l249_114 K6 x0 x1 x2 x3 x4 x5 x6 h3) else none
set_option maxRecDepth 20000 in
theorem l249_40_t {w : Option Nat} {d : Nat} {K6 : Option Nat → Int32 → Int32 → Int32 → Int32 → Int32 → Int32 → pm_H → tm_L} (hK6 : ∀ {x0 : Option Nat} {x1 : Int32} {x2 : Int32} {x3 : Int32} {x4 : Int32} {x5 : Int32} {x6 : Int32}  {h : pm_H} {r : tm_O × pm_H}, K6 x0 x1 x2 x3 x4 x5 x6 h = some r → pm_to pt_P (pt_G (tm_r w)) (d + 1) (pt_g249, []) (tm_m (6, [(0, .inr (.inr x0)), (1, .inl x1), (2, .inl x2), (3, .inl x3), (4, .inl x4), (5, .inl x5), (6, .inl x6)], [])) h (tm_e r)) {x0 : Option Nat} {x1 : Int32} {x2 : Int32} {x3 : Int32} {x4 : Int32} {x5 : Int32} {x6 : Int32} {s0 : Int32} {h : pm_H} {r : tm_O × pm_H} (hr : l249_40 K6 x0 x1 x2 x3 x4 x5 x6 s0 h = some r) : pm_to pt_P (pt_G (tm_r w)) (d + 1) (pt_g249, []) (tm_m (40, [(0, .inr (.inr x0)), (1, .inl x1), (2, .inl x2), (3, .inl x3), (4, .inl x4), (5, .inl x5), (6, .inl x6)], [.inl s0])) h (tm_e r) := by
  unfold l249_40 at hr
  refine tm_n 2 (F' := (44, [(7, .inl s0), (0, .inr (.inr x0)), (1, .inl x1), (2, .inl x2), (3, .inl x3), (4, .inl x4), (5, .inl x5), (6, .inl x6)], [.inl s0])) rfl ?_
  by_cases c35 : s0 = (0 : Int32)
  · rw [if_pos c35] at hr
    refine tm_ifT rfl c35 ?_
    refine tm_cut (a := [(0, .inr (.inr x0)), (1, .inl x1), (2, .inl x2), (3, .inl x3), (4, .inl x4), (5, .inl x5), (6, .inl x6)]) rfl (tm_sbs [1, 2, 3, 4, 5, 6, 7] rfl) ?_
    exact l249_114_t hK6 hr
  · rw [if_neg c35] at hr
    refine tm_ifF rfl c35 ?_
    refine tm_n 3 (F' := (51, [(7, .inl s0), (0, .inr (.inr x0)), (1, .inl x1), (2, .inl x2), (3, .inl x3), (4, .inl x4), (5, .inl x5), (6, .inl x6)], [.inl x6, .inl x1, .inr (.inr x0)])) rfl ?_
    by_cases c1 : lc_of h x0 = some 10
    · rw [if_pos c1] at hr
      rcases lb_I_s hr with ⟨v2, h3, m4, hr⟩ | ⟨a33, h3, z34, z34l, m4, qz34, rfl⟩
      · try dsimp only at hr
        refine tm_call rfl rfl (tm_callV rfl rfl c1 rfl rfl) (lq_244 m4) ?_
        by_cases c32 : v2 = (0 : Int32)
        · rw [if_pos c32] at hr
          refine tm_ifT rfl c32 ?_
          refine tm_cut (a := [(0, .inr (.inr x0)), (1, .inl x1), (2, .inl x2), (3, .inl x3), (4, .inl x4), (5, .inl x5), (6, .inl x6)]) rfl (tm_sbs [1, 2, 3, 4, 5, 6, 7] rfl) ?_
          exact l249_114_t hK6 hr
        · rw [if_neg c32] at hr
          refine tm_ifF rfl c32 ?_
          refine tm_n 1 (F' := (58, [(7, .inl s0), (0, .inr (.inr x0)), (1, .inl x1), (2, .inl x2), (3, .inl x3), (4, .inl x4), (5, .inl x5), (6, .inl x6)], [.inr (.inr x0)])) rfl ?_
          obtain ⟨v5, qv5, hr⟩ := Option.bind_eq_some_iff.mp hr
          refine tm_getf rfl (lf_R_V qv5) ?_
          refine tm_n 1 (F' := (63, [(7, .inl s0), (0, .inr (.inr x0)), (1, .inl x1), (2, .inl x2), (3, .inl x3), (4, .inl x4), (5, .inl x5), (6, .inl x6)], [.inl x6, .inr (.inr v5)])) rfl ?_
          obtain ⟨v6, qv6, hr⟩ := Option.bind_eq_some_iff.mp hr
          refine tm_ald rfl rfl (la_I_V qv6) ?_
          refine tm_n 1 (F' := (65, [(7, .inl s0), (0, .inr (.inr x0)), (1, .inl x1), (2, .inl x2), (3, .inl x3), (4, .inl x4), (5, .inl x5), (6, .inl x6)], [.inl x2, .inl v6])) rfl ?_
          by_cases c31 : v6 = x2
          · rw [if_pos c31] at hr
            refine tm_icF rfl (fun q => q c31) ?_
            refine tm_n 1 (F' := (69, [(7, .inl s0), (0, .inr (.inr x0)), (1, .inl x1), (2, .inl x2), (3, .inl x3), (4, .inl x4), (5, .inl x5), (6, .inl x6)], [.inr (.inr x0)])) rfl ?_
            obtain ⟨v7, qv7, hr⟩ := Option.bind_eq_some_iff.mp hr
            refine tm_getf rfl (lf_R_V qv7) ?_
            refine tm_n 1 (F' := (74, [(7, .inl s0), (0, .inr (.inr x0)), (1, .inl x1), (2, .inl x2), (3, .inl x3), (4, .inl x4), (5, .inl x5), (6, .inl x6)], [.inl x6, .inr (.inr v7)])) rfl ?_
            obtain ⟨v8, qv8, hr⟩ := Option.bind_eq_some_iff.mp hr
            refine tm_ald rfl rfl (la_I_V qv8) ?_
            refine tm_n 1 (F' := (76, [(7, .inl s0), (0, .inr (.inr x0)), (1, .inl x1), (2, .inl x2), (3, .inl x3), (4, .inl x4), (5, .inl x5), (6, .inl x6)], [.inl x3, .inl v8])) rfl ?_
            by_cases c30 : v8 = x3
            · rw [if_pos c30] at hr
              refine tm_icF rfl (fun q => q c30) ?_
              refine tm_n 2 (F' := (82, [(7, .inl s0), (0, .inr (.inr x0)), (1, .inl x1), (2, .inl x2), (3, .inl x3), (4, .inl x4), (5, .inl x5), (6, .inl x6)], [.inl x6, .inr (.inr x0)])) rfl ?_
              by_cases c9 : lc_of h3 x0 = some 10
              · rw [if_pos c9] at hr
                rcases lb_I_s hr with ⟨v10, h11, m12, hr⟩ | ⟨a28, h11, z29, z29l, m12, qz29, rfl⟩
                · try dsimp only at hr
                  refine tm_call rfl rfl (tm_callV rfl rfl c9 rfl rfl) (lq_245 m12) ?_
                  refine tm_n 1 (F' := (87, [(7, .inl s0), (0, .inr (.inr x0)), (1, .inl x1), (2, .inl x2), (3, .inl x3), (4, .inl x4), (5, .inl x5), (6, .inl x6)], [.inl x4, .inl v10])) rfl ?_
                  by_cases c27 : x4 ≤ v10
                  · rw [if_pos c27] at hr
                    refine tm_icT rfl c27 ?_
                    refine tm_cut (a := [(0, .inr (.inr x0)), (1, .inl x1), (2, .inl x2), (3, .inl x3), (4, .inl x4), (5, .inl x5), (6, .inl x6)]) rfl (tm_sbs [1, 2, 3, 4, 5, 6, 7] rfl) ?_
                    exact l249_114_t hK6 hr
                  · rw [if_neg c27] at hr
                    refine tm_icF rfl c27 ?_
                    refine tm_n 1 (F' := (92, [(7, .inl s0), (0, .inr (.inr x0)), (1, .inl x1), (2, .inl x2), (3, .inl x3), (4, .inl x4), (5, .inl x5), (6, .inl x6)], [.inl x5])) rfl ?_
                    by_cases c26 : x5 < (0 : Int32)
                    · rw [if_pos c26] at hr
                      refine tm_ifT rfl c26 ?_
                      refine tm_cut (a := [(0, .inr (.inr x0)), (1, .inl x1), (2, .inl x2), (3, .inl x3), (4, .inl x4), (6, .inl x6)]) rfl (tm_sbs [1, 2, 3, 4, 5, 7] rfl) ?_
                      exact l249_110_t hK6 hr
                    · rw [if_neg c26] at hr
                      refine tm_ifF rfl c26 ?_
                      refine tm_n 2 (F' := (98, [(7, .inl s0), (0, .inr (.inr x0)), (1, .inl x1), (2, .inl x2), (3, .inl x3), (4, .inl x4), (5, .inl x5), (6, .inl x6)], [.inl x6, .inr (.inr x0)])) rfl ?_
                      by_cases c13 : lc_of h11 x0 = some 10
                      · rw [if_pos c13] at hr
                        rcases lb_I_s hr with ⟨v14, h15, m16, hr⟩ | ⟨a24, h15, z25, z25l, m16, qz25, rfl⟩
                        · try dsimp only at hr
                          refine tm_call rfl rfl (tm_callV rfl rfl c13 rfl rfl) (lq_245 m16) ?_
                          refine tm_n 2 (F' := (104, [(7, .inl s0), (0, .inr (.inr x0)), (1, .inl x1), (2, .inl x2), (3, .inl x3), (4, .inl x4), (5, .inl x5), (6, .inl x6)], [.inl x5, .inr (.inr x0), .inl v14])) rfl ?_
                          by_cases c17 : lc_of h15 x0 = some 10
                          · rw [if_pos c17] at hr
                            rcases lb_I_s hr with ⟨v18, h19, m20, hr⟩ | ⟨a22, h19, z23, z23l, m20, qz23, rfl⟩
                            · try dsimp only at hr
                              refine tm_call rfl rfl (tm_callV rfl rfl c17 rfl rfl) (lq_245 m20) ?_
                              by_cases c21 : v14 ≤ v18
                              · rw [if_pos c21] at hr
                                refine tm_icT rfl c21 ?_
                                refine tm_cut (a := [(0, .inr (.inr x0)), (1, .inl x1), (2, .inl x2), (3, .inl x3), (4, .inl x4), (5, .inl x5), (6, .inl x6)]) rfl (tm_sbs [1, 2, 3, 4, 5, 6, 7] rfl) ?_
                                exact l249_114_t hK6 hr
                              · rw [if_neg c21] at hr
                                refine tm_icF rfl c21 ?_
                                refine tm_cut (a := [(0, .inr (.inr x0)), (1, .inl x1), (2, .inl x2), (3, .inl x3), (4, .inl x4), (6, .inl x6)]) rfl (tm_sbs [1, 2, 3, 4, 5, 7] rfl) ?_
                                exact l249_110_t hK6 hr
                            · exact tm_callT rfl rfl (tm_callV rfl rfl c17 rfl rfl) (lq_245 m20) qz23 rfl
                          · rw [if_neg c17] at hr
                            cases hr
                        · exact tm_callT rfl rfl (tm_callV rfl rfl c13 rfl rfl) (lq_245 m16) qz25 rfl
                      · rw [if_neg c13] at hr
                        cases hr
                · exact tm_callT rfl rfl (tm_callV rfl rfl c9 rfl rfl) (lq_245 m12) qz29 rfl
              · rw [if_neg c9] at hr
                cases hr
            · rw [if_neg c30] at hr
              refine tm_icT rfl c30 ?_
              refine tm_cut (a := [(0, .inr (.inr x0)), (1, .inl x1), (2, .inl x2), (3, .inl x3), (4, .inl x4), (5, .inl x5), (6, .inl x6)]) rfl (tm_sbs [1, 2, 3, 4, 5, 6, 7] rfl) ?_
              exact l249_114_t hK6 hr
          · rw [if_neg c31] at hr
            refine tm_icT rfl c31 ?_
            refine tm_cut (a := [(0, .inr (.inr x0)), (1, .inl x1), (2, .inl x2), (3, .inl x3), (4, .inl x4), (5, .inl x5), (6, .inl x6)]) rfl (tm_sbs [1, 2, 3, 4, 5, 6, 7] rfl) ?_
            exact l249_114_t hK6 hr
      · exact tm_callT rfl rfl (tm_callV rfl rfl c1 rfl rfl) (lq_244 m4) qz34 rfl
    · rw [if_neg c1] at hr
      cases hr
set_option maxRecDepth 20000 in
def l249_35 (K6 : Option Nat → Int32 → Int32 → Int32 → Int32 → Int32 → Int32 → pm_H → tm_L) (x0 : Option Nat) (x1 : Int32) (x2 : Int32) (x3 : Int32) (x4 : Int32) (x5 : Int32) (x6 : Int32) (h : pm_H) : tm_L := l249_40 K6 x0 x1 x2 x3 x4 x5 x6 (1 : Int32) h
set_option maxRecDepth 20000 in
theorem l249_35_t {w : Option Nat} {d : Nat} {K6 : Option Nat → Int32 → Int32 → Int32 → Int32 → Int32 → Int32 → pm_H → tm_L} (hK6 : ∀ {x0 : Option Nat} {x1 : Int32} {x2 : Int32} {x3 : Int32} {x4 : Int32} {x5 : Int32} {x6 : Int32}  {h : pm_H} {r : tm_O × pm_H}, K6 x0 x1 x2 x3 x4 x5 x6 h = some r → pm_to pt_P (pt_G (tm_r w)) (d + 1) (pt_g249, []) (tm_m (6, [(0, .inr (.inr x0)), (1, .inl x1), (2, .inl x2), (3, .inl x3), (4, .inl x4), (5, .inl x5), (6, .inl x6)], [])) h (tm_e r)) {x0 : Option Nat} {x1 : Int32} {x2 : Int32} {x3 : Int32} {x4 : Int32} {x5 : Int32} {x6 : Int32} {h : pm_H} {r : tm_O × pm_H} (hr : l249_35 K6 x0 x1 x2 x3 x4 x5 x6 h = some r) : pm_to pt_P (pt_G (tm_r w)) (d + 1) (pt_g249, []) (tm_m (35, [(0, .inr (.inr x0)), (1, .inl x1), (2, .inl x2), (3, .inl x3), (4, .inl x4), (5, .inl x5), (6, .inl x6)], [])) h (tm_e r) := by
  unfold l249_35 at hr
  refine tm_n 2 (F' := (40, [(0, .inr (.inr x0)), (1, .inl x1), (2, .inl x2), (3, .inl x3), (4, .inl x4), (5, .inl x5), (6, .inl x6)], [.inl (1 : Int32)])) rfl ?_
  refine tm_cut (a := [(0, .inr (.inr x0)), (1, .inl x1), (2, .inl x2), (3, .inl x3), (4, .inl x4), (5, .inl x5), (6, .inl x6)]) rfl (tm_sbs [0, 1, 2, 3, 4, 5, 6] rfl) ?_
  exact l249_40_t hK6 hr
set_option maxRecDepth 20000 in
def l249_6 : Nat → Option Nat → Int32 → Int32 → Int32 → Int32 → Int32 → Int32 → pm_H → tm_L
  | 0 => fun _ _ _ _ _ _ _ _ => none
  | n + 1 => fun x0 x1 x2 x3 x4 x5 x6 h => if (120 : Int32) ≤ x6 then some (.inl (some (.inl x5)), h) else (lf_R h x0 [10, 1]).bind fun v1 => (la_I h .iaload v1 x6).bind fun v2 => if v2 = (1 : Int32) then l249_35 (l249_6 n) x0 x1 x2 x3 x4 x5 x6 h else (lf_R h x0 [10, 1]).bind fun v3 => (la_I h .iaload v3 x6).bind fun v4 => if v4 = (2 : Int32) then l249_35 (l249_6 n) x0 x1 x2 x3 x4 x5 x6 h else l249_40 (l249_6 n) x0 x1 x2 x3 x4 x5 x6 (0 : Int32) h
set_option maxRecDepth 20000 in
theorem l249_6_t {w : Option Nat} {d : Nat} : ∀ (n : Nat) {x0 : Option Nat} {x1 : Int32} {x2 : Int32} {x3 : Int32} {x4 : Int32} {x5 : Int32} {x6 : Int32} {h : pm_H} {r : tm_O × pm_H}, l249_6 n x0 x1 x2 x3 x4 x5 x6 h = some r → pm_to pt_P (pt_G (tm_r w)) (d + 1) (pt_g249, []) (tm_m (6, [(0, .inr (.inr x0)), (1, .inl x1), (2, .inl x2), (3, .inl x3), (4, .inl x4), (5, .inl x5), (6, .inl x6)], [])) h (tm_e r) := by
  intro n
  induction n with
  | zero => intro x0 x1 x2 x3 x4 x5 x6 h r hr; cases hr
  | succ n ih =>
    intro x0 x1 x2 x3 x4 x5 x6 h r hr
    unfold l249_6 at hr
    refine tm_n 2 (F' := (10, [(0, .inr (.inr x0)), (1, .inl x1), (2, .inl x2), (3, .inl x3), (4, .inl x4), (5, .inl x5), (6, .inl x6)], [.inl (120 : Int32), .inl x6])) rfl ?_
    by_cases c7 : (120 : Int32) ≤ x6
    · rw [if_pos c7] at hr
      refine tm_icT rfl c7 ?_
      refine tm_n 1 (F' := (122, [(0, .inr (.inr x0)), (1, .inl x1), (2, .inl x2), (3, .inl x3), (4, .inl x4), (5, .inl x5), (6, .inl x6)], [.inl x5])) rfl ?_
      cases hr
      exact tm_retI rfl rfl
    · rw [if_neg c7] at hr
      refine tm_icF rfl c7 ?_
      refine tm_n 1 (F' := (14, [(0, .inr (.inr x0)), (1, .inl x1), (2, .inl x2), (3, .inl x3), (4, .inl x4), (5, .inl x5), (6, .inl x6)], [.inr (.inr x0)])) rfl ?_
      obtain ⟨v1, qv1, hr⟩ := Option.bind_eq_some_iff.mp hr
      refine tm_getf rfl (lf_R_V qv1) ?_
      refine tm_n 1 (F' := (19, [(0, .inr (.inr x0)), (1, .inl x1), (2, .inl x2), (3, .inl x3), (4, .inl x4), (5, .inl x5), (6, .inl x6)], [.inl x6, .inr (.inr v1)])) rfl ?_
      obtain ⟨v2, qv2, hr⟩ := Option.bind_eq_some_iff.mp hr
      refine tm_ald rfl rfl (la_I_V qv2) ?_
      refine tm_n 1 (F' := (21, [(0, .inr (.inr x0)), (1, .inl x1), (2, .inl x2), (3, .inl x3), (4, .inl x4), (5, .inl x5), (6, .inl x6)], [.inl (1 : Int32), .inl v2])) rfl ?_
      by_cases c6 : v2 = (1 : Int32)
      · rw [if_pos c6] at hr
        refine tm_icT rfl c6 ?_
        refine tm_cut (a := [(0, .inr (.inr x0)), (1, .inl x1), (2, .inl x2), (3, .inl x3), (4, .inl x4), (5, .inl x5), (6, .inl x6)]) rfl (tm_sbs [0, 1, 2, 3, 4, 5, 6] rfl) ?_
        exact l249_35_t (fun hr => ih hr) hr
      · rw [if_neg c6] at hr
        refine tm_icF rfl c6 ?_
        refine tm_n 1 (F' := (25, [(0, .inr (.inr x0)), (1, .inl x1), (2, .inl x2), (3, .inl x3), (4, .inl x4), (5, .inl x5), (6, .inl x6)], [.inr (.inr x0)])) rfl ?_
        obtain ⟨v3, qv3, hr⟩ := Option.bind_eq_some_iff.mp hr
        refine tm_getf rfl (lf_R_V qv3) ?_
        refine tm_n 1 (F' := (30, [(0, .inr (.inr x0)), (1, .inl x1), (2, .inl x2), (3, .inl x3), (4, .inl x4), (5, .inl x5), (6, .inl x6)], [.inl x6, .inr (.inr v3)])) rfl ?_
        obtain ⟨v4, qv4, hr⟩ := Option.bind_eq_some_iff.mp hr
        refine tm_ald rfl rfl (la_I_V qv4) ?_
        refine tm_n 1 (F' := (32, [(0, .inr (.inr x0)), (1, .inl x1), (2, .inl x2), (3, .inl x3), (4, .inl x4), (5, .inl x5), (6, .inl x6)], [.inl (2 : Int32), .inl v4])) rfl ?_
        by_cases c5 : v4 = (2 : Int32)
        · rw [if_pos c5] at hr
          refine tm_icF rfl (fun q => q c5) ?_
          refine tm_cut (a := [(0, .inr (.inr x0)), (1, .inl x1), (2, .inl x2), (3, .inl x3), (4, .inl x4), (5, .inl x5), (6, .inl x6)]) rfl (tm_sbs [0, 1, 2, 3, 4, 5, 6] rfl) ?_
          exact l249_35_t (fun hr => ih hr) hr
        · rw [if_neg c5] at hr
          refine tm_icT rfl c5 ?_
          refine tm_n 1 (F' := (40, [(0, .inr (.inr x0)), (1, .inl x1), (2, .inl x2), (3, .inl x3), (4, .inl x4), (5, .inl x5), (6, .inl x6)], [.inl (0 : Int32)])) rfl ?_
          refine tm_cut (a := [(0, .inr (.inr x0)), (1, .inl x1), (2, .inl x2), (3, .inl x3), (4, .inl x4), (5, .inl x5), (6, .inl x6)]) rfl (tm_sbs [0, 1, 2, 3, 4, 5, 6] rfl) ?_
          exact l249_40_t (fun hr => ih hr) hr
set_option maxRecDepth 20000 in
def ll_249 (a0 : Option Nat) (a1 : Int32) (a2 : Int32) (a3 : Int32) (a4 : Int32) (h : pm_H) : tm_L := l249_6 lf_N a0 a1 a2 a3 a4 (-1 : Int32) (0 : Int32) h
set_option maxRecDepth 20000 in
theorem lq_249 {w : Option Nat} {d : Nat} {a0 : Option Nat} {a1 : Int32} {a2 : Int32} {a3 : Int32} {a4 : Int32} {h : pm_H} {r : tm_O × pm_H} (hr : ll_249 a0 a1 a2 a3 a4 h = some r) : tm_run pt_P (pt_G (tm_r w)) (d + 1) 249 [.inr (.inr a0), .inl a1, .inl a2, .inl a3, .inl a4] h r := by
  unfold ll_249 at hr
  show pm_to pt_P (pt_G (tm_r w)) (d + 1) (pt_g249, []) (tm_m (0, [(0, .inr (.inr a0)), (1, .inl a1), (2, .inl a2), (3, .inl a3), (4, .inl a4)], [])) h (tm_e r)
  refine tm_n 4 (F' := (6, [(6, .inl (0 : Int32)), (5, .inl (-1 : Int32)), (0, .inr (.inr a0)), (1, .inl a1), (2, .inl a2), (3, .inl a3), (4, .inl a4)], [])) rfl ?_
  refine tm_cut (a := [(0, .inr (.inr a0)), (1, .inl a1), (2, .inl a2), (3, .inl a3), (4, .inl a4), (5, .inl (-1 : Int32)), (6, .inl (0 : Int32))]) rfl (tm_sbs [2, 3, 4, 5, 6, 1, 0] rfl) ?_
  exact l249_6_t lf_N hr
-- OfficeSheetModel.visit(III)V
set_option maxRecDepth 20000 in
def ll_250 (a0 : Option Nat) (a1 : Int32) (a2 : Int32) (a3 : Int32) (h : pm_H) : tm_L := (lf_R h a0 [10, 5]).bind fun v1 => (la_I h .iaload v1 a3).bind fun v2 => (lf_R h a0 [10, 7]).bind fun v3 => if lc_of h a0 = some 10 then lb_I (ll_243 a0 a1 v2 (1 : Int32) h) (fun v5 h6 => (la_I h6 .iaload v3 v5).bind fun v8 => if v8 = a3 then (lf_R h6 a0 [10, 1]).bind fun v9 => if lc_of h6 a0 = some 10 then lb_I (ll_243 a0 a1 v2 (0 : Int32) h6) (fun v11 h12 => (la_I h12 .iaload v9 v11).bind fun v14 => if v14 = (5 : Int32) then some (.inl none, h12) else (lf_R h12 a0 [10, 19]).bind fun v15 => (lf_R h12 a0 [10, 20]).bind fun v16 => (la_I h12 .iaload v16 (((2 : Int32) * a1) + a2)).bind fun v17 => (la_S pt_P h12 .iastore v15 ((((240 : Int32) * a1) + ((120 : Int32) * a2)) + v17) (.inl v2)).bind fun h18 => (lf_R h18 a0 [10, 20]).bind fun v19 => (la_I h18 .iaload v19 (((2 : Int32) * a1) + a2)).bind fun v20 => (la_S pt_P h18 .iastore v19 (((2 : Int32) * a1) + a2) (.inl (v20 + (1 : Int32)))).bind fun h21 => some (.inl none, h21)) else none else some (.inl none, h6)) else none
set_option maxRecDepth 20000 in
theorem lq_250 {w : Option Nat} {d : Nat} {a0 : Option Nat} {a1 : Int32} {a2 : Int32} {a3 : Int32} {h : pm_H} {r : tm_O × pm_H} (hr : ll_250 a0 a1 a2 a3 h = some r) : tm_run pt_P (pt_G (tm_r w)) (d + 2) 250 [.inr (.inr a0), .inl a1, .inl a2, .inl a3] h r := by
  unfold ll_250 at hr
  show pm_to pt_P (pt_G (tm_r w)) (d + 2) (pt_g250, []) (tm_m (0, [(0, .inr (.inr a0)), (1, .inl a1), (2, .inl a2), (3, .inl a3)], [])) h (tm_e r)
  refine tm_n 1 (F' := (1, [(0, .inr (.inr a0)), (1, .inl a1), (2, .inl a2), (3, .inl a3)], [.inr (.inr a0)])) rfl ?_
  obtain ⟨v1, qv1, hr⟩ := Option.bind_eq_some_iff.mp hr
  refine tm_getf rfl (lf_R_V qv1) ?_
  refine tm_n 1 (F' := (5, [(0, .inr (.inr a0)), (1, .inl a1), (2, .inl a2), (3, .inl a3)], [.inl a3, .inr (.inr v1)])) rfl ?_
  obtain ⟨v2, qv2, hr⟩ := Option.bind_eq_some_iff.mp hr
  refine tm_ald rfl rfl (la_I_V qv2) ?_
  refine tm_n 2 (F' := (9, [(4, .inl v2), (0, .inr (.inr a0)), (1, .inl a1), (2, .inl a2), (3, .inl a3)], [.inr (.inr a0)])) rfl ?_
  obtain ⟨v3, qv3, hr⟩ := Option.bind_eq_some_iff.mp hr
  refine tm_getf rfl (lf_R_V qv3) ?_
  refine tm_n 4 (F' := (17, [(4, .inl v2), (0, .inr (.inr a0)), (1, .inl a1), (2, .inl a2), (3, .inl a3)], [.inl (1 : Int32), .inl v2, .inl a1, .inr (.inr a0), .inr (.inr v3)])) rfl ?_
  by_cases c4 : lc_of h a0 = some 10
  · rw [if_pos c4] at hr
    rcases lb_I_s hr with ⟨v5, h6, m7, hr⟩ | ⟨a26, h6, z27, z27l, m7, qz27, rfl⟩
    · try dsimp only at hr
      refine tm_call rfl rfl (tm_callV rfl rfl c4 rfl rfl) (lq_243 m7) ?_
      obtain ⟨v8, qv8, hr⟩ := Option.bind_eq_some_iff.mp hr
      refine tm_ald rfl rfl (la_I_V qv8) ?_
      refine tm_n 1 (F' := (22, [(4, .inl v2), (0, .inr (.inr a0)), (1, .inl a1), (2, .inl a2), (3, .inl a3)], [.inl a3, .inl v8])) rfl ?_
      by_cases c25 : v8 = a3
      · rw [if_pos c25] at hr
        refine tm_icF rfl (fun q => q c25) ?_
        refine tm_n 1 (F' := (26, [(4, .inl v2), (0, .inr (.inr a0)), (1, .inl a1), (2, .inl a2), (3, .inl a3)], [.inr (.inr a0)])) rfl ?_
        obtain ⟨v9, qv9, hr⟩ := Option.bind_eq_some_iff.mp hr
        refine tm_getf rfl (lf_R_V qv9) ?_
        refine tm_n 4 (F' := (34, [(4, .inl v2), (0, .inr (.inr a0)), (1, .inl a1), (2, .inl a2), (3, .inl a3)], [.inl (0 : Int32), .inl v2, .inl a1, .inr (.inr a0), .inr (.inr v9)])) rfl ?_
        by_cases c10 : lc_of h6 a0 = some 10
        · rw [if_pos c10] at hr
          rcases lb_I_s hr with ⟨v11, h12, m13, hr⟩ | ⟨a23, h12, z24, z24l, m13, qz24, rfl⟩
          · try dsimp only at hr
            refine tm_call rfl rfl (tm_callV rfl rfl c10 rfl rfl) (lq_243 m13) ?_
            obtain ⟨v14, qv14, hr⟩ := Option.bind_eq_some_iff.mp hr
            refine tm_ald rfl rfl (la_I_V qv14) ?_
            refine tm_n 1 (F' := (39, [(4, .inl v2), (0, .inr (.inr a0)), (1, .inl a1), (2, .inl a2), (3, .inl a3)], [.inl (5 : Int32), .inl v14])) rfl ?_
            by_cases c22 : v14 = (5 : Int32)
            · rw [if_pos c22] at hr
              refine tm_icT rfl c22 ?_
              cases hr
              exact tm_retV rfl
            · rw [if_neg c22] at hr
              refine tm_icF rfl c22 ?_
              refine tm_n 1 (F' := (43, [(4, .inl v2), (0, .inr (.inr a0)), (1, .inl a1), (2, .inl a2), (3, .inl a3)], [.inr (.inr a0)])) rfl ?_
              obtain ⟨v15, qv15, hr⟩ := Option.bind_eq_some_iff.mp hr
              refine tm_getf rfl (lf_R_V qv15) ?_
              refine tm_n 8 (F' := (57, [(4, .inl v2), (0, .inr (.inr a0)), (1, .inl a1), (2, .inl a2), (3, .inl a3)], [.inr (.inr a0), .inl (((240 : Int32) * a1) + ((120 : Int32) * a2)), .inr (.inr v15)])) rfl ?_
              obtain ⟨v16, qv16, hr⟩ := Option.bind_eq_some_iff.mp hr
              refine tm_getf rfl (lf_R_V qv16) ?_
              refine tm_n 5 (F' := (65, [(4, .inl v2), (0, .inr (.inr a0)), (1, .inl a1), (2, .inl a2), (3, .inl a3)], [.inl (((2 : Int32) * a1) + a2), .inr (.inr v16), .inl (((240 : Int32) * a1) + ((120 : Int32) * a2)), .inr (.inr v15)])) rfl ?_
              obtain ⟨v17, qv17, hr⟩ := Option.bind_eq_some_iff.mp hr
              refine tm_ald rfl rfl (la_I_V qv17) ?_
              refine tm_n 2 (F' := (69, [(4, .inl v2), (0, .inr (.inr a0)), (1, .inl a1), (2, .inl a2), (3, .inl a3)], [.inl v2, .inl ((((240 : Int32) * a1) + ((120 : Int32) * a2)) + v17), .inr (.inr v15)])) rfl ?_
              obtain ⟨h18, qh18, hr⟩ := Option.bind_eq_some_iff.mp hr
              refine tm_ast rfl rfl qh18 ?_
              refine tm_n 1 (F' := (71, [(4, .inl v2), (0, .inr (.inr a0)), (1, .inl a1), (2, .inl a2), (3, .inl a3)], [.inr (.inr a0)])) rfl ?_
              obtain ⟨v19, qv19, hr⟩ := Option.bind_eq_some_iff.mp hr
              refine tm_getf rfl (lf_R_V qv19) ?_
              refine tm_n 6 (F' := (80, [(4, .inl v2), (0, .inr (.inr a0)), (1, .inl a1), (2, .inl a2), (3, .inl a3)], [.inl (((2 : Int32) * a1) + a2), .inr (.inr v19), .inl (((2 : Int32) * a1) + a2), .inr (.inr v19)])) rfl ?_
              obtain ⟨v20, qv20, hr⟩ := Option.bind_eq_some_iff.mp hr
              refine tm_ald rfl rfl (la_I_V qv20) ?_
              refine tm_n 2 (F' := (83, [(4, .inl v2), (0, .inr (.inr a0)), (1, .inl a1), (2, .inl a2), (3, .inl a3)], [.inl (v20 + (1 : Int32)), .inl (((2 : Int32) * a1) + a2), .inr (.inr v19)])) rfl ?_
              obtain ⟨h21, qh21, hr⟩ := Option.bind_eq_some_iff.mp hr
              refine tm_ast rfl rfl qh21 ?_
              cases hr
              exact tm_retV rfl
          · exact tm_callT rfl rfl (tm_callV rfl rfl c10 rfl rfl) (lq_243 m13) qz24 rfl
        · rw [if_neg c10] at hr
          cases hr
      · rw [if_neg c25] at hr
        refine tm_icT rfl c25 ?_
        cases hr
        exact tm_retV rfl
    · exact tm_callT rfl rfl (tm_callV rfl rfl c4 rfl rfl) (lq_243 m7) qz27 rfl
  · rw [if_neg c4] at hr
    cases hr
-- OfficeSheetModel.show(II)V
set_option maxRecDepth 20000 in
def l248_91 (K22 : Option Nat → Int32 → Int32 → Int32 → pm_H → tm_L) (K48 : Option Nat → Int32 → Int32 → Int32 → Int32 → pm_H → tm_L) (x0 : Option Nat) (x1 : Int32) (x2 : Int32) (x4 : Int32) (h : pm_H) : tm_L := K22 x0 x1 x2 x4 h
set_option maxRecDepth 20000 in
theorem l248_91_t {w : Option Nat} {d : Nat} {K22 : Option Nat → Int32 → Int32 → Int32 → pm_H → tm_L} {K48 : Option Nat → Int32 → Int32 → Int32 → Int32 → pm_H → tm_L} (hK22 : ∀ {x0 : Option Nat} {x1 : Int32} {x2 : Int32} {x3 : Int32}  {h : pm_H} {r : tm_O × pm_H}, K22 x0 x1 x2 x3 h = some r → pm_to pt_P (pt_G (tm_r w)) (d + 3) (pt_g248, []) (tm_m (22, [(0, .inr (.inr x0)), (1, .inl x1), (2, .inl x2), (3, .inl x3)], [])) h (tm_e r)) (hK48 : ∀ {x0 : Option Nat} {x1 : Int32} {x2 : Int32} {x4 : Int32} {x5 : Int32}  {h : pm_H} {r : tm_O × pm_H}, K48 x0 x1 x2 x4 x5 h = some r → pm_to pt_P (pt_G (tm_r w)) (d + 3) (pt_g248, []) (tm_m (48, [(0, .inr (.inr x0)), (1, .inl x1), (2, .inl x2), (4, .inl x4), (5, .inl x5)], [])) h (tm_e r)) {x0 : Option Nat} {x1 : Int32} {x2 : Int32} {x4 : Int32} {h : pm_H} {r : tm_O × pm_H} (hr : l248_91 K22 K48 x0 x1 x2 x4 h = some r) : pm_to pt_P (pt_G (tm_r w)) (d + 3) (pt_g248, []) (tm_m (91, [(0, .inr (.inr x0)), (1, .inl x1), (2, .inl x2), (4, .inl x4)], [])) h (tm_e r) := by
  unfold l248_91 at hr
  refine tm_n 3 (F' := (22, [(3, .inl x4), (0, .inr (.inr x0)), (1, .inl x1), (2, .inl x2), (4, .inl x4)], [])) rfl ?_
  refine tm_cut (a := [(0, .inr (.inr x0)), (1, .inl x1), (2, .inl x2), (3, .inl x4)]) rfl (tm_sbs [1, 2, 3, 0] rfl) ?_
  exact hK22 hr
set_option maxRecDepth 20000 in
def l248_48 (K22 : Option Nat → Int32 → Int32 → Int32 → pm_H → tm_L) : Nat → Option Nat → Int32 → Int32 → Int32 → Int32 → pm_H → tm_L
  | 0 => fun _ _ _ _ _ _ => none
  | n + 1 => fun x0 x1 x2 x4 x5 h => if (0 : Int32) ≤ x4 then l248_91 K22 (l248_48 K22 n) x0 x1 x2 x4 h else if x5 < (0 : Int32) then l248_91 K22 (l248_48 K22 n) x0 x1 x2 x4 h else (lf_R h x0 [10, 8]).bind fun v1 => (la_I h .iaload v1 x5).bind fun v2 => if lc_of h x0 = some 10 then lb_I (ll_245 x0 x5 h) (fun v4 h5 => if lc_of h5 x0 = some 10 then lb_I (ll_249 x0 x1 x2 v2 v4 h5) (fun v8 h9 => (lf_R h9 x0 [10, 8]).bind fun v11 => (la_I h9 .iaload v11 x5).bind fun v12 => l248_48 K22 n x0 x1 x2 v8 v12 h9) else none) else none
set_option maxRecDepth 20000 in
theorem l248_48_t {w : Option Nat} {d : Nat} {K22 : Option Nat → Int32 → Int32 → Int32 → pm_H → tm_L} (hK22 : ∀ {x0 : Option Nat} {x1 : Int32} {x2 : Int32} {x3 : Int32}  {h : pm_H} {r : tm_O × pm_H}, K22 x0 x1 x2 x3 h = some r → pm_to pt_P (pt_G (tm_r w)) (d + 3) (pt_g248, []) (tm_m (22, [(0, .inr (.inr x0)), (1, .inl x1), (2, .inl x2), (3, .inl x3)], [])) h (tm_e r)) : ∀ (n : Nat) {x0 : Option Nat} {x1 : Int32} {x2 : Int32} {x4 : Int32} {x5 : Int32} {h : pm_H} {r : tm_O × pm_H}, l248_48 K22 n x0 x1 x2 x4 x5 h = some r → pm_to pt_P (pt_G (tm_r w)) (d + 3) (pt_g248, []) (tm_m (48, [(0, .inr (.inr x0)), (1, .inl x1), (2, .inl x2), (4, .inl x4), (5, .inl x5)], [])) h (tm_e r) := by
  intro n
  induction n with
  | zero => intro x0 x1 x2 x4 x5 h r hr; cases hr
  | succ n ih =>
    intro x0 x1 x2 x4 x5 h r hr
    unfold l248_48 at hr
    refine tm_n 1 (F' := (50, [(0, .inr (.inr x0)), (1, .inl x1), (2, .inl x2), (4, .inl x4), (5, .inl x5)], [.inl x4])) rfl ?_
    by_cases c18 : (0 : Int32) ≤ x4
    · rw [if_pos c18] at hr
      refine tm_ifT rfl c18 ?_
      refine tm_cut (a := [(0, .inr (.inr x0)), (1, .inl x1), (2, .inl x2), (4, .inl x4)]) rfl (tm_sbs [0, 1, 2, 3] rfl) ?_
      exact l248_91_t hK22 (fun hr => ih hr) hr
    · rw [if_neg c18] at hr
      refine tm_ifF rfl c18 ?_
      refine tm_n 1 (F' := (55, [(0, .inr (.inr x0)), (1, .inl x1), (2, .inl x2), (4, .inl x4), (5, .inl x5)], [.inl x5])) rfl ?_
      by_cases c17 : x5 < (0 : Int32)
      · rw [if_pos c17] at hr
        refine tm_ifT rfl c17 ?_
        refine tm_cut (a := [(0, .inr (.inr x0)), (1, .inl x1), (2, .inl x2), (4, .inl x4)]) rfl (tm_sbs [0, 1, 2, 3] rfl) ?_
        exact l248_91_t hK22 (fun hr => ih hr) hr
      · rw [if_neg c17] at hr
        refine tm_ifF rfl c17 ?_
        refine tm_n 4 (F' := (62, [(0, .inr (.inr x0)), (1, .inl x1), (2, .inl x2), (4, .inl x4), (5, .inl x5)], [.inr (.inr x0), .inl x2, .inl x1, .inr (.inr x0)])) rfl ?_
        obtain ⟨v1, qv1, hr⟩ := Option.bind_eq_some_iff.mp hr
        refine tm_getf rfl (lf_R_V qv1) ?_
        refine tm_n 1 (F' := (67, [(0, .inr (.inr x0)), (1, .inl x1), (2, .inl x2), (4, .inl x4), (5, .inl x5)], [.inl x5, .inr (.inr v1), .inl x2, .inl x1, .inr (.inr x0)])) rfl ?_
        obtain ⟨v2, qv2, hr⟩ := Option.bind_eq_some_iff.mp hr
        refine tm_ald rfl rfl (la_I_V qv2) ?_
        refine tm_n 2 (F' := (71, [(0, .inr (.inr x0)), (1, .inl x1), (2, .inl x2), (4, .inl x4), (5, .inl x5)], [.inl x5, .inr (.inr x0), .inl v2, .inl x2, .inl x1, .inr (.inr x0)])) rfl ?_
        by_cases c3 : lc_of h x0 = some 10
        · rw [if_pos c3] at hr
          rcases lb_I_s hr with ⟨v4, h5, m6, hr⟩ | ⟨a15, h5, z16, z16l, m6, qz16, rfl⟩
          · try dsimp only at hr
            refine tm_call rfl rfl (tm_callV rfl rfl c3 rfl rfl) (lq_245 m6) ?_
            by_cases c7 : lc_of h5 x0 = some 10
            · rw [if_pos c7] at hr
              rcases lb_I_s hr with ⟨v8, h9, m10, hr⟩ | ⟨a13, h9, z14, z14l, m10, qz14, rfl⟩
              · try dsimp only at hr
                refine tm_call rfl rfl (tm_callV rfl rfl c7 rfl rfl) (lq_249 m10) ?_
                refine tm_n 2 (F' := (80, [(4, .inl v8), (0, .inr (.inr x0)), (1, .inl x1), (2, .inl x2), (5, .inl x5)], [.inr (.inr x0)])) rfl ?_
                obtain ⟨v11, qv11, hr⟩ := Option.bind_eq_some_iff.mp hr
                refine tm_getf rfl (lf_R_V qv11) ?_
                refine tm_n 1 (F' := (85, [(4, .inl v8), (0, .inr (.inr x0)), (1, .inl x1), (2, .inl x2), (5, .inl x5)], [.inl x5, .inr (.inr v11)])) rfl ?_
                obtain ⟨v12, qv12, hr⟩ := Option.bind_eq_some_iff.mp hr
                refine tm_ald rfl rfl (la_I_V qv12) ?_
                refine tm_n 2 (F' := (48, [(5, .inl v12), (4, .inl v8), (0, .inr (.inr x0)), (1, .inl x1), (2, .inl x2)], [])) rfl ?_
                refine tm_cut (a := [(0, .inr (.inr x0)), (1, .inl x1), (2, .inl x2), (4, .inl v8), (5, .inl v12)]) rfl (tm_sbs [2, 3, 4, 1, 0] rfl) ?_
                exact ih hr
              · exact tm_callT rfl rfl (tm_callV rfl rfl c7 rfl rfl) (lq_249 m10) qz14 rfl
            · rw [if_neg c7] at hr
              cases hr
          · exact tm_callT rfl rfl (tm_callV rfl rfl c3 rfl rfl) (lq_245 m6) qz16 rfl
        · rw [if_neg c3] at hr
          cases hr
set_option maxRecDepth 20000 in
def l248_22 : Nat → Option Nat → Int32 → Int32 → Int32 → pm_H → tm_L
  | 0 => fun _ _ _ _ _ => none
  | n + 1 => fun x0 x1 x2 x3 h => if x3 < (0 : Int32) then some (.inl none, h) else if lc_of h x0 = some 10 then lb_V (ll_250 x0 x1 x2 x3 h) (fun h3 => if lc_of h3 x0 = some 10 then lb_I (ll_249 x0 x1 x2 x3 (1000 : Int32) h3) (fun v6 h7 => l248_48 (l248_22 n) lf_N x0 x1 x2 v6 x3 h7) else none) else none
set_option maxRecDepth 20000 in
theorem l248_22_t {w : Option Nat} {d : Nat} : ∀ (n : Nat) {x0 : Option Nat} {x1 : Int32} {x2 : Int32} {x3 : Int32} {h : pm_H} {r : tm_O × pm_H}, l248_22 n x0 x1 x2 x3 h = some r → pm_to pt_P (pt_G (tm_r w)) (d + 3) (pt_g248, []) (tm_m (22, [(0, .inr (.inr x0)), (1, .inl x1), (2, .inl x2), (3, .inl x3)], [])) h (tm_e r) := by
  intro n
  induction n with
  | zero => intro x0 x1 x2 x3 h r hr; cases hr
  | succ n ih =>
    intro x0 x1 x2 x3 h r hr
    unfold l248_22 at hr
    refine tm_n 1 (F' := (23, [(0, .inr (.inr x0)), (1, .inl x1), (2, .inl x2), (3, .inl x3)], [.inl x3])) rfl ?_
    by_cases c13 : x3 < (0 : Int32)
    · rw [if_pos c13] at hr
      refine tm_ifT rfl c13 ?_
      cases hr
      exact tm_retV rfl
    · rw [if_neg c13] at hr
      refine tm_ifF rfl c13 ?_
      refine tm_n 4 (F' := (30, [(0, .inr (.inr x0)), (1, .inl x1), (2, .inl x2), (3, .inl x3)], [.inl x3, .inl x2, .inl x1, .inr (.inr x0)])) rfl ?_
      by_cases c1 : lc_of h x0 = some 10
      · rw [if_pos c1] at hr
        rcases lb_V_s hr with ⟨h3, m4, hr⟩ | ⟨a11, h3, z12, z12l, m4, qz12, rfl⟩
        · try dsimp only at hr
          refine tm_call rfl rfl (tm_callV rfl rfl c1 rfl rfl) (lq_250 m4) ?_
          refine tm_n 5 (F' := (40, [(0, .inr (.inr x0)), (1, .inl x1), (2, .inl x2), (3, .inl x3)], [.inl (1000 : Int32), .inl x3, .inl x2, .inl x1, .inr (.inr x0)])) rfl ?_
          by_cases c5 : lc_of h3 x0 = some 10
          · rw [if_pos c5] at hr
            rcases lb_I_s hr with ⟨v6, h7, m8, hr⟩ | ⟨a9, h7, z10, z10l, m8, qz10, rfl⟩
            · try dsimp only at hr
              refine tm_call rfl rfl (tm_callV rfl rfl c5 rfl rfl) (lq_249 m8) ?_
              refine tm_n 3 (F' := (48, [(5, .inl x3), (4, .inl v6), (0, .inr (.inr x0)), (1, .inl x1), (2, .inl x2), (3, .inl x3)], [])) rfl ?_
              refine tm_cut (a := [(0, .inr (.inr x0)), (1, .inl x1), (2, .inl x2), (4, .inl v6), (5, .inl x3)]) rfl (tm_sbs [2, 3, 4, 1, 0] rfl) ?_
              exact l248_48_t (fun hr => ih hr) lf_N hr
            · exact tm_callT rfl rfl (tm_callV rfl rfl c5 rfl rfl) (lq_249 m8) qz10 rfl
          · rw [if_neg c5] at hr
            cases hr
        · exact tm_callT rfl rfl (tm_callV rfl rfl c1 rfl rfl) (lq_250 m4) qz12 rfl
      · rw [if_neg c1] at hr
        cases hr
set_option maxRecDepth 20000 in
def ll_248 (a0 : Option Nat) (a1 : Int32) (a2 : Int32) (h : pm_H) : tm_L := (lf_R h a0 [10, 20]).bind fun v1 => (la_S pt_P h .iastore v1 (((2 : Int32) * a1) + a2) (.inl (0 : Int32))).bind fun h2 => if lc_of h2 a0 = some 10 then lb_I (ll_249 a0 a1 a2 (-1 : Int32) (1000 : Int32) h2) (fun v4 h5 => l248_22 lf_N a0 a1 a2 v4 h5) else none
set_option maxRecDepth 20000 in
theorem lq_248 {w : Option Nat} {d : Nat} {a0 : Option Nat} {a1 : Int32} {a2 : Int32} {h : pm_H} {r : tm_O × pm_H} (hr : ll_248 a0 a1 a2 h = some r) : tm_run pt_P (pt_G (tm_r w)) (d + 3) 248 [.inr (.inr a0), .inl a1, .inl a2] h r := by
  unfold ll_248 at hr
  show pm_to pt_P (pt_G (tm_r w)) (d + 3) (pt_g248, []) (tm_m (0, [(0, .inr (.inr a0)), (1, .inl a1), (2, .inl a2)], [])) h (tm_e r)
  refine tm_n 1 (F' := (1, [(0, .inr (.inr a0)), (1, .inl a1), (2, .inl a2)], [.inr (.inr a0)])) rfl ?_
  obtain ⟨v1, qv1, hr⟩ := Option.bind_eq_some_iff.mp hr
  refine tm_getf rfl (lf_R_V qv1) ?_
  refine tm_n 6 (F' := (10, [(0, .inr (.inr a0)), (1, .inl a1), (2, .inl a2)], [.inl (0 : Int32), .inl (((2 : Int32) * a1) + a2), .inr (.inr v1)])) rfl ?_
  obtain ⟨h2, qh2, hr⟩ := Option.bind_eq_some_iff.mp hr
  refine tm_ast rfl rfl qh2 ?_
  refine tm_n 5 (F' := (18, [(0, .inr (.inr a0)), (1, .inl a1), (2, .inl a2)], [.inl (1000 : Int32), .inl (-1 : Int32), .inl a2, .inl a1, .inr (.inr a0)])) rfl ?_
  by_cases c3 : lc_of h2 a0 = some 10
  · rw [if_pos c3] at hr
    rcases lb_I_s hr with ⟨v4, h5, m6, hr⟩ | ⟨a7, h5, z8, z8l, m6, qz8, rfl⟩
    · try dsimp only at hr
      refine tm_call rfl rfl (tm_callV rfl rfl c3 rfl rfl) (lq_249 m6) ?_
      refine tm_n 1 (F' := (22, [(3, .inl v4), (0, .inr (.inr a0)), (1, .inl a1), (2, .inl a2)], [])) rfl ?_
      refine tm_cut (a := [(0, .inr (.inr a0)), (1, .inl a1), (2, .inl a2), (3, .inl v4)]) rfl (tm_sbs [1, 2, 3, 0] rfl) ?_
      exact l248_22_t lf_N hr
    · exact tm_callT rfl rfl (tm_callV rfl rfl c3 rfl rfl) (lq_249 m6) qz8 rfl
  · rw [if_neg c3] at hr
    cases hr
-- OfficeSheetModel.take(II)V
set_option maxRecDepth 20000 in
def l247_84 (s0 : Int32) (s1 : Option Nat) (h : pm_H) : tm_L := (lf_P 81 h s1 [0, 10, 31] (.inl s0)).bind fun h1 => some (.inl none, h1)
set_option maxRecDepth 20000 in
theorem l247_84_t {w : Option Nat} {d : Nat} {s0 : Int32} {s1 : Option Nat} {h : pm_H} {r : tm_O × pm_H} (hr : l247_84 s0 s1 h = some r) : pm_to pt_P (pt_G (tm_r w)) (d + 4) (pt_g247, []) (tm_m (84, [], [.inl s0, .inr (.inr s1)])) h (tm_e r) := by
  unfold l247_84 at hr
  obtain ⟨h1, qh1, hr⟩ := Option.bind_eq_some_iff.mp hr
  refine tm_putf rfl qh1 ?_
  cases hr
  exact tm_retV rfl
set_option maxRecDepth 20000 in
def l247_54 (x0 : Option Nat) (x1 : Int32) (s0 : Int32) (s1 : Int32) (s2 : Option Nat) (h : pm_H) : tm_L := (la_S pt_P h .iastore s2 s1 (.inl s0)).bind fun h1 => if lc_of h1 x0 = some 10 then lb_V (ll_248 x0 x1 (0 : Int32) h1) (fun h4 => if lc_of h4 x0 = some 10 then lb_V (ll_248 x0 x1 (1 : Int32) h4) (fun h8 => (lf_I h8 x0 [10, 31]).bind fun v10 => if v10 = x1 then l247_84 (-1 : Int32) x0 h8 else (lf_I h8 x0 [10, 31]).bind fun v11 => l247_84 v11 x0 h8) else none) else none
set_option maxRecDepth 20000 in
theorem l247_54_t {w : Option Nat} {d : Nat} {x0 : Option Nat} {x1 : Int32} {s0 : Int32} {s1 : Int32} {s2 : Option Nat} {h : pm_H} {r : tm_O × pm_H} (hr : l247_54 x0 x1 s0 s1 s2 h = some r) : pm_to pt_P (pt_G (tm_r w)) (d + 4) (pt_g247, []) (tm_m (54, [(0, .inr (.inr x0)), (1, .inl x1)], [.inl s0, .inl s1, .inr (.inr s2)])) h (tm_e r) := by
  unfold l247_54 at hr
  obtain ⟨h1, qh1, hr⟩ := Option.bind_eq_some_iff.mp hr
  refine tm_ast rfl rfl qh1 ?_
  refine tm_n 3 (F' := (58, [(0, .inr (.inr x0)), (1, .inl x1)], [.inl (0 : Int32), .inl x1, .inr (.inr x0)])) rfl ?_
  by_cases c2 : lc_of h1 x0 = some 10
  · rw [if_pos c2] at hr
    rcases lb_V_s hr with ⟨h4, m5, hr⟩ | ⟨a15, h4, z16, z16l, m5, qz16, rfl⟩
    · try dsimp only at hr
      refine tm_call rfl rfl (tm_callV rfl rfl c2 rfl rfl) (lq_248 m5) ?_
      refine tm_n 3 (F' := (64, [(0, .inr (.inr x0)), (1, .inl x1)], [.inl (1 : Int32), .inl x1, .inr (.inr x0)])) rfl ?_
      by_cases c6 : lc_of h4 x0 = some 10
      · rw [if_pos c6] at hr
        rcases lb_V_s hr with ⟨h8, m9, hr⟩ | ⟨a13, h8, z14, z14l, m9, qz14, rfl⟩
        · try dsimp only at hr
          refine tm_call rfl rfl (tm_callV rfl rfl c6 rfl rfl) (lq_248 m9) ?_
          refine tm_n 2 (F' := (69, [(0, .inr (.inr x0)), (1, .inl x1)], [.inr (.inr x0), .inr (.inr x0)])) rfl ?_
          obtain ⟨v10, qv10, hr⟩ := Option.bind_eq_some_iff.mp hr
          refine tm_getf rfl (lf_I_V qv10) ?_
          refine tm_n 1 (F' := (73, [(0, .inr (.inr x0)), (1, .inl x1)], [.inl x1, .inl v10, .inr (.inr x0)])) rfl ?_
          by_cases c12 : v10 = x1
          · rw [if_pos c12] at hr
            refine tm_icF rfl (fun q => q c12) ?_
            refine tm_n 2 (F' := (84, [(0, .inr (.inr x0)), (1, .inl x1)], [.inl (-1 : Int32), .inr (.inr x0)])) rfl ?_
            refine tm_cut (a := []) rfl (tm_sbs [] rfl) ?_
            exact l247_84_t hr
          · rw [if_neg c12] at hr
            refine tm_icT rfl c12 ?_
            refine tm_n 1 (F' := (81, [(0, .inr (.inr x0)), (1, .inl x1)], [.inr (.inr x0), .inr (.inr x0)])) rfl ?_
            obtain ⟨v11, qv11, hr⟩ := Option.bind_eq_some_iff.mp hr
            refine tm_getf rfl (lf_I_V qv11) ?_
            refine tm_cut (a := []) rfl (tm_sbs [] rfl) ?_
            exact l247_84_t hr
        · exact tm_callT rfl rfl (tm_callV rfl rfl c6 rfl rfl) (lq_248 m9) qz14 rfl
      · rw [if_neg c6] at hr
        cases hr
    · exact tm_callT rfl rfl (tm_callV rfl rfl c2 rfl rfl) (lq_248 m5) qz16 rfl
  · rw [if_neg c2] at hr
    cases hr
set_option maxRecDepth 20000 in
def ll_247 (a0 : Option Nat) (a1 : Int32) (a2 : Int32) (h : pm_H) : tm_L := (lf_R h a0 [10, 16]).bind fun v1 => (la_S pt_P h .iastore v1 (((3 : Int32) * a1) + (a2 / (40 : Int32))) (.inl ((a2 - a2 / (40 : Int32) * (40 : Int32)) + (1 : Int32)))).bind fun h2 => (lf_R h2 a0 [10, 17]).bind fun v3 => (lf_R h2 a0 [10, 17]).bind fun v4 => (la_I h2 .iaload v4 a1).bind fun v5 => (lf_R h2 a0 [10, 3]).bind fun v6 => (la_I h2 .iaload v6 a2).bind fun v7 => if v5 ≤ v7 then (lf_R h2 a0 [10, 3]).bind fun v8 => (la_I h2 .iaload v8 a2).bind fun v9 => l247_54 a0 a1 v9 a1 v3 h2 else (lf_R h2 a0 [10, 17]).bind fun v10 => (la_I h2 .iaload v10 a1).bind fun v11 => l247_54 a0 a1 v11 a1 v3 h2
set_option maxRecDepth 20000 in
theorem lq_247 {w : Option Nat} {d : Nat} {a0 : Option Nat} {a1 : Int32} {a2 : Int32} {h : pm_H} {r : tm_O × pm_H} (hr : ll_247 a0 a1 a2 h = some r) : tm_run pt_P (pt_G (tm_r w)) (d + 4) 247 [.inr (.inr a0), .inl a1, .inl a2] h r := by
  unfold ll_247 at hr
  show pm_to pt_P (pt_G (tm_r w)) (d + 4) (pt_g247, []) (tm_m (0, [(0, .inr (.inr a0)), (1, .inl a1), (2, .inl a2)], [])) h (tm_e r)
  refine tm_n 1 (F' := (1, [(0, .inr (.inr a0)), (1, .inl a1), (2, .inl a2)], [.inr (.inr a0)])) rfl ?_
  obtain ⟨v1, qv1, hr⟩ := Option.bind_eq_some_iff.mp hr
  refine tm_getf rfl (lf_R_V qv1) ?_
  refine tm_n 12 (F' := (18, [(0, .inr (.inr a0)), (1, .inl a1), (2, .inl a2)], [.inl ((a2 - a2 / (40 : Int32) * (40 : Int32)) + (1 : Int32)), .inl (((3 : Int32) * a1) + (a2 / (40 : Int32))), .inr (.inr v1)])) rfl ?_
  obtain ⟨h2, qh2, hr⟩ := Option.bind_eq_some_iff.mp hr
  refine tm_ast rfl rfl qh2 ?_
  refine tm_n 1 (F' := (20, [(0, .inr (.inr a0)), (1, .inl a1), (2, .inl a2)], [.inr (.inr a0)])) rfl ?_
  obtain ⟨v3, qv3, hr⟩ := Option.bind_eq_some_iff.mp hr
  refine tm_getf rfl (lf_R_V qv3) ?_
  refine tm_n 2 (F' := (25, [(0, .inr (.inr a0)), (1, .inl a1), (2, .inl a2)], [.inr (.inr a0), .inl a1, .inr (.inr v3)])) rfl ?_
  obtain ⟨v4, qv4, hr⟩ := Option.bind_eq_some_iff.mp hr
  refine tm_getf rfl (lf_R_V qv4) ?_
  refine tm_n 1 (F' := (29, [(0, .inr (.inr a0)), (1, .inl a1), (2, .inl a2)], [.inl a1, .inr (.inr v4), .inl a1, .inr (.inr v3)])) rfl ?_
  obtain ⟨v5, qv5, hr⟩ := Option.bind_eq_some_iff.mp hr
  refine tm_ald rfl rfl (la_I_V qv5) ?_
  refine tm_n 1 (F' := (31, [(0, .inr (.inr a0)), (1, .inl a1), (2, .inl a2)], [.inr (.inr a0), .inl v5, .inl a1, .inr (.inr v3)])) rfl ?_
  obtain ⟨v6, qv6, hr⟩ := Option.bind_eq_some_iff.mp hr
  refine tm_getf rfl (lf_R_V qv6) ?_
  refine tm_n 1 (F' := (35, [(0, .inr (.inr a0)), (1, .inl a1), (2, .inl a2)], [.inl a2, .inr (.inr v6), .inl v5, .inl a1, .inr (.inr v3)])) rfl ?_
  obtain ⟨v7, qv7, hr⟩ := Option.bind_eq_some_iff.mp hr
  refine tm_ald rfl rfl (la_I_V qv7) ?_
  by_cases c12 : v5 ≤ v7
  · rw [if_pos c12] at hr
    refine tm_icT rfl c12 ?_
    refine tm_n 1 (F' := (49, [(0, .inr (.inr a0)), (1, .inl a1), (2, .inl a2)], [.inr (.inr a0), .inl a1, .inr (.inr v3)])) rfl ?_
    obtain ⟨v8, qv8, hr⟩ := Option.bind_eq_some_iff.mp hr
    refine tm_getf rfl (lf_R_V qv8) ?_
    refine tm_n 1 (F' := (53, [(0, .inr (.inr a0)), (1, .inl a1), (2, .inl a2)], [.inl a2, .inr (.inr v8), .inl a1, .inr (.inr v3)])) rfl ?_
    obtain ⟨v9, qv9, hr⟩ := Option.bind_eq_some_iff.mp hr
    refine tm_ald rfl rfl (la_I_V qv9) ?_
    refine tm_cut (a := [(0, .inr (.inr a0)), (1, .inl a1)]) rfl (tm_sbs [0, 1] rfl) ?_
    exact l247_54_t hr
  · rw [if_neg c12] at hr
    refine tm_icF rfl c12 ?_
    refine tm_n 1 (F' := (40, [(0, .inr (.inr a0)), (1, .inl a1), (2, .inl a2)], [.inr (.inr a0), .inl a1, .inr (.inr v3)])) rfl ?_
    obtain ⟨v10, qv10, hr⟩ := Option.bind_eq_some_iff.mp hr
    refine tm_getf rfl (lf_R_V qv10) ?_
    refine tm_n 1 (F' := (44, [(0, .inr (.inr a0)), (1, .inl a1), (2, .inl a2)], [.inl a1, .inr (.inr v10), .inl a1, .inr (.inr v3)])) rfl ?_
    obtain ⟨v11, qv11, hr⟩ := Option.bind_eq_some_iff.mp hr
    refine tm_ald rfl rfl (la_I_V qv11) ?_
    refine tm_n 1 (F' := (54, [(0, .inr (.inr a0)), (1, .inl a1), (2, .inl a2)], [.inl v11, .inl a1, .inr (.inr v3)])) rfl ?_
    refine tm_cut (a := [(0, .inr (.inr a0)), (1, .inl a1)]) rfl (tm_sbs [0, 1] rfl) ?_
    exact l247_54_t hr
-- OfficeSheetModel.put(III)I
set_option maxRecDepth 20000 in
def l236_86 (x0 : Option Nat) (x1 : Int32) (x2 : Int32) (x3 : Int32) (s0 : Int32) (s1 : Option Nat) (h : pm_H) : tm_L := (lf_P 81 h s1 [0, 10, 0] (.inl s0)).bind fun h1 => (lf_I h1 x0 [10, 0]).bind fun v2 => if v2 ≤ (0 : Int32) then if lc_of h1 x0 = some 10 then lb_I (ll_241 x0 x1 x2 x3 h1) (fun v4 h5 => if lc_of h5 x0 = some 10 then lb_I (ll_246 x0 x1 (1 : Int32) x2 (-1 : Int32) h5) (fun v8 h9 => (lf_R h9 x0 [10, 8]).bind fun v11 => (la_S pt_P h9 .iastore v11 v8 (.inl v4)).bind fun h12 => if lc_of h12 x0 = some 10 then lb_V (ll_247 x0 x1 v8 h12) (fun h15 => some (.inl (some (.inl ((((100 : Int32) * x1) + (v8 - v8 / (40 : Int32) * (40 : Int32))) + (1 : Int32)))), h15)) else none) else none) else none else some (.inl (some (.inl (0 : Int32))), h1)
set_option maxRecDepth 20000 in
theorem l236_86_t {w : Option Nat} {d : Nat} {x0 : Option Nat} {x1 : Int32} {x2 : Int32} {x3 : Int32} {s0 : Int32} {s1 : Option Nat} {h : pm_H} {r : tm_O × pm_H} (hr : l236_86 x0 x1 x2 x3 s0 s1 h = some r) : pm_to pt_P (pt_G (tm_r w)) (d + 5) (pt_g236, []) (tm_m (86, [(0, .inr (.inr x0)), (1, .inl x1), (2, .inl x2), (3, .inl x3)], [.inl s0, .inr (.inr s1)])) h (tm_e r) := by
  unfold l236_86 at hr
  obtain ⟨h1, qh1, hr⟩ := Option.bind_eq_some_iff.mp hr
  refine tm_putf rfl qh1 ?_
  refine tm_n 1 (F' := (90, [(0, .inr (.inr x0)), (1, .inl x1), (2, .inl x2), (3, .inl x3)], [.inr (.inr x0)])) rfl ?_
  obtain ⟨v2, qv2, hr⟩ := Option.bind_eq_some_iff.mp hr
  refine tm_getf rfl (lf_I_V qv2) ?_
  by_cases c23 : v2 ≤ (0 : Int32)
  · rw [if_pos c23] at hr
    refine tm_ifT rfl c23 ?_
    refine tm_n 4 (F' := (102, [(0, .inr (.inr x0)), (1, .inl x1), (2, .inl x2), (3, .inl x3)], [.inl x3, .inl x2, .inl x1, .inr (.inr x0)])) rfl ?_
    by_cases c3 : lc_of h1 x0 = some 10
    · rw [if_pos c3] at hr
      rcases lb_I_s hr with ⟨v4, h5, m6, hr⟩ | ⟨a21, h5, z22, z22l, m6, qz22, rfl⟩
      · try dsimp only at hr
        refine tm_call rfl rfl (tm_callV rfl rfl c3 rfl rfl) (lq_241 m6) ?_
        refine tm_n 6 (F' := (112, [(5, .inl v4), (0, .inr (.inr x0)), (1, .inl x1), (2, .inl x2), (3, .inl x3)], [.inl (-1 : Int32), .inl x2, .inl (1 : Int32), .inl x1, .inr (.inr x0)])) rfl ?_
        by_cases c7 : lc_of h5 x0 = some 10
        · rw [if_pos c7] at hr
          rcases lb_I_s hr with ⟨v8, h9, m10, hr⟩ | ⟨a19, h9, z20, z20l, m10, qz20, rfl⟩
          · try dsimp only at hr
            refine tm_call rfl rfl (tm_callV rfl rfl c7 rfl rfl) (lq_246 m10) ?_
            refine tm_n 2 (F' := (118, [(6, .inl v8), (5, .inl v4), (0, .inr (.inr x0)), (1, .inl x1), (2, .inl x2), (3, .inl x3)], [.inr (.inr x0)])) rfl ?_
            obtain ⟨v11, qv11, hr⟩ := Option.bind_eq_some_iff.mp hr
            refine tm_getf rfl (lf_R_V qv11) ?_
            refine tm_n 2 (F' := (125, [(6, .inl v8), (5, .inl v4), (0, .inr (.inr x0)), (1, .inl x1), (2, .inl x2), (3, .inl x3)], [.inl v4, .inl v8, .inr (.inr v11)])) rfl ?_
            obtain ⟨h12, qh12, hr⟩ := Option.bind_eq_some_iff.mp hr
            refine tm_ast rfl rfl qh12 ?_
            refine tm_n 3 (F' := (130, [(6, .inl v8), (5, .inl v4), (0, .inr (.inr x0)), (1, .inl x1), (2, .inl x2), (3, .inl x3)], [.inl v8, .inl x1, .inr (.inr x0)])) rfl ?_
            by_cases c13 : lc_of h12 x0 = some 10
            · rw [if_pos c13] at hr
              rcases lb_V_s hr with ⟨h15, m16, hr⟩ | ⟨a17, h15, z18, z18l, m16, qz18, rfl⟩
              · try dsimp only at hr
                refine tm_call rfl rfl (tm_callV rfl rfl c13 rfl rfl) (lq_247 m16) ?_
                refine tm_n 9 (F' := (145, [(6, .inl v8), (5, .inl v4), (0, .inr (.inr x0)), (1, .inl x1), (2, .inl x2), (3, .inl x3)], [.inl ((((100 : Int32) * x1) + (v8 - v8 / (40 : Int32) * (40 : Int32))) + (1 : Int32))])) rfl ?_
                cases hr
                exact tm_retI rfl rfl
              · exact tm_callT rfl rfl (tm_callV rfl rfl c13 rfl rfl) (lq_247 m16) qz18 rfl
            · rw [if_neg c13] at hr
              cases hr
          · exact tm_callT rfl rfl (tm_callV rfl rfl c7 rfl rfl) (lq_246 m10) qz20 rfl
        · rw [if_neg c7] at hr
          cases hr
      · exact tm_callT rfl rfl (tm_callV rfl rfl c3 rfl rfl) (lq_241 m6) qz22 rfl
    · rw [if_neg c3] at hr
      cases hr
  · rw [if_neg c23] at hr
    refine tm_ifF rfl c23 ?_
    refine tm_n 1 (F' := (97, [(0, .inr (.inr x0)), (1, .inl x1), (2, .inl x2), (3, .inl x3)], [.inl (0 : Int32)])) rfl ?_
    cases hr
    exact tm_retI rfl rfl
set_option maxRecDepth 20000 in
def l236_81 (x0 : Option Nat) (x1 : Int32) (x2 : Int32) (x3 : Int32) (s0 : Option Nat) (h : pm_H) : tm_L := l236_86 x0 x1 x2 x3 (3 : Int32) s0 h
set_option maxRecDepth 20000 in
theorem l236_81_t {w : Option Nat} {d : Nat} {x0 : Option Nat} {x1 : Int32} {x2 : Int32} {x3 : Int32} {s0 : Option Nat} {h : pm_H} {r : tm_O × pm_H} (hr : l236_81 x0 x1 x2 x3 s0 h = some r) : pm_to pt_P (pt_G (tm_r w)) (d + 5) (pt_g236, []) (tm_m (81, [(0, .inr (.inr x0)), (1, .inl x1), (2, .inl x2), (3, .inl x3)], [.inr (.inr s0)])) h (tm_e r) := by
  unfold l236_81 at hr
  refine tm_n 2 (F' := (86, [(0, .inr (.inr x0)), (1, .inl x1), (2, .inl x2), (3, .inl x3)], [.inl (3 : Int32), .inr (.inr s0)])) rfl ?_
  refine tm_cut (a := [(0, .inr (.inr x0)), (1, .inl x1), (2, .inl x2), (3, .inl x3)]) rfl (tm_sbs [0, 1, 2, 3] rfl) ?_
  exact l236_86_t hr
set_option maxRecDepth 20000 in
def l236_78 (x0 : Option Nat) (x1 : Int32) (x2 : Int32) (x3 : Int32) (s0 : Int32) (s1 : Int32) (s2 : Option Nat) (h : pm_H) : tm_L := if s1 < s0 then l236_86 x0 x1 x2 x3 (0 : Int32) s2 h else l236_81 x0 x1 x2 x3 s2 h
set_option maxRecDepth 20000 in
theorem l236_78_t {w : Option Nat} {d : Nat} {x0 : Option Nat} {x1 : Int32} {x2 : Int32} {x3 : Int32} {s0 : Int32} {s1 : Int32} {s2 : Option Nat} {h : pm_H} {r : tm_O × pm_H} (hr : l236_78 x0 x1 x2 x3 s0 s1 s2 h = some r) : pm_to pt_P (pt_G (tm_r w)) (d + 5) (pt_g236, []) (tm_m (78, [(0, .inr (.inr x0)), (1, .inl x1), (2, .inl x2), (3, .inl x3)], [.inl s0, .inl s1, .inr (.inr s2)])) h (tm_e r) := by
  unfold l236_78 at hr
  by_cases c1 : s1 < s0
  · rw [if_pos c1] at hr
    refine tm_icT rfl c1 ?_
    refine tm_n 1 (F' := (86, [(0, .inr (.inr x0)), (1, .inl x1), (2, .inl x2), (3, .inl x3)], [.inl (0 : Int32), .inr (.inr s2)])) rfl ?_
    refine tm_cut (a := [(0, .inr (.inr x0)), (1, .inl x1), (2, .inl x2), (3, .inl x3)]) rfl (tm_sbs [0, 1, 2, 3] rfl) ?_
    exact l236_86_t hr
  · rw [if_neg c1] at hr
    refine tm_icF rfl c1 ?_
    refine tm_cut (a := [(0, .inr (.inr x0)), (1, .inl x1), (2, .inl x2), (3, .inl x3)]) rfl (tm_sbs [0, 1, 2, 3] rfl) ?_
    exact l236_81_t hr
set_option maxRecDepth 20000 in
def l236_50 (x0 : Option Nat) (x1 : Int32) (x2 : Int32) (x3 : Int32) (s0 : Option Nat) (h : pm_H) : tm_L := if lc_of h x0 = some 10 then lb_I (ll_240 x0 x1 h) (fun v2 h3 => if v2 = (0 : Int32) then (lf_R h3 x0 [10, 20]).bind fun v5 => (la_I h3 .iaload v5 (((2 : Int32) * x1) + x2)).bind fun v6 => if x2 = (0 : Int32) then l236_78 x0 x1 x2 x3 (9 : Int32) v6 s0 h3 else l236_78 x0 x1 x2 x3 (5 : Int32) v6 s0 h3 else l236_81 x0 x1 x2 x3 s0 h3) else none
set_option maxRecDepth 20000 in
theorem l236_50_t {w : Option Nat} {d : Nat} {x0 : Option Nat} {x1 : Int32} {x2 : Int32} {x3 : Int32} {s0 : Option Nat} {h : pm_H} {r : tm_O × pm_H} (hr : l236_50 x0 x1 x2 x3 s0 h = some r) : pm_to pt_P (pt_G (tm_r w)) (d + 5) (pt_g236, []) (tm_m (50, [(0, .inr (.inr x0)), (1, .inl x1), (2, .inl x2), (3, .inl x3)], [.inr (.inr s0)])) h (tm_e r) := by
  unfold l236_50 at hr
  refine tm_n 2 (F' := (52, [(0, .inr (.inr x0)), (1, .inl x1), (2, .inl x2), (3, .inl x3)], [.inl x1, .inr (.inr x0), .inr (.inr s0)])) rfl ?_
  by_cases c1 : lc_of h x0 = some 10
  · rw [if_pos c1] at hr
    rcases lb_I_s hr with ⟨v2, h3, m4, hr⟩ | ⟨a9, h3, z10, z10l, m4, qz10, rfl⟩
    · try dsimp only at hr
      refine tm_call rfl rfl (tm_callV rfl rfl c1 rfl rfl) (lq_240 m4) ?_
      by_cases c8 : v2 = (0 : Int32)
      · rw [if_pos c8] at hr
        refine tm_ifF rfl (fun q => q c8) ?_
        refine tm_n 1 (F' := (59, [(0, .inr (.inr x0)), (1, .inl x1), (2, .inl x2), (3, .inl x3)], [.inr (.inr x0), .inr (.inr s0)])) rfl ?_
        obtain ⟨v5, qv5, hr⟩ := Option.bind_eq_some_iff.mp hr
        refine tm_getf rfl (lf_R_V qv5) ?_
        refine tm_n 5 (F' := (67, [(0, .inr (.inr x0)), (1, .inl x1), (2, .inl x2), (3, .inl x3)], [.inl (((2 : Int32) * x1) + x2), .inr (.inr v5), .inr (.inr s0)])) rfl ?_
        obtain ⟨v6, qv6, hr⟩ := Option.bind_eq_some_iff.mp hr
        refine tm_ald rfl rfl (la_I_V qv6) ?_
        refine tm_n 1 (F' := (69, [(0, .inr (.inr x0)), (1, .inl x1), (2, .inl x2), (3, .inl x3)], [.inl x2, .inl v6, .inr (.inr s0)])) rfl ?_
        by_cases c7 : x2 = (0 : Int32)
        · rw [if_pos c7] at hr
          refine tm_ifF rfl (fun q => q c7) ?_
          refine tm_n 2 (F' := (78, [(0, .inr (.inr x0)), (1, .inl x1), (2, .inl x2), (3, .inl x3)], [.inl (9 : Int32), .inl v6, .inr (.inr s0)])) rfl ?_
          refine tm_cut (a := [(0, .inr (.inr x0)), (1, .inl x1), (2, .inl x2), (3, .inl x3)]) rfl (tm_sbs [0, 1, 2, 3] rfl) ?_
          exact l236_78_t hr
        · rw [if_neg c7] at hr
          refine tm_ifT rfl c7 ?_
          refine tm_n 1 (F' := (78, [(0, .inr (.inr x0)), (1, .inl x1), (2, .inl x2), (3, .inl x3)], [.inl (5 : Int32), .inl v6, .inr (.inr s0)])) rfl ?_
          refine tm_cut (a := [(0, .inr (.inr x0)), (1, .inl x1), (2, .inl x2), (3, .inl x3)]) rfl (tm_sbs [0, 1, 2, 3] rfl) ?_
          exact l236_78_t hr
      · rw [if_neg c8] at hr
        refine tm_ifT rfl c8 ?_
        refine tm_cut (a := [(0, .inr (.inr x0)), (1, .inl x1), (2, .inl x2), (3, .inl x3)]) rfl (tm_sbs [0, 1, 2, 3] rfl) ?_
        exact l236_81_t hr
    · exact tm_callT rfl rfl (tm_callV rfl rfl c1 rfl rfl) (lq_240 m4) qz10 rfl
  · rw [if_neg c1] at hr
    cases hr
set_option maxRecDepth 20000 in
def l236_19 (x0 : Option Nat) (x1 : Int32) (x2 : Int32) (x3 : Int32) (s0 : Int32) (h : pm_H) : tm_L := if s0 = (0 : Int32) then l236_86 x0 x1 x2 x3 (1 : Int32) x0 h else if x3 = (-1 : Int32) then l236_50 x0 x1 x2 x3 x0 h else if lc_of h x0 = some 10 then lb_I (ll_239 x0 x1 x2 x3 h) (fun v2 h3 => if v2 = (0 : Int32) then l236_86 x0 x1 x2 x3 (2 : Int32) x0 h3 else l236_50 x0 x1 x2 x3 x0 h3) else none
set_option maxRecDepth 20000 in
theorem l236_19_t {w : Option Nat} {d : Nat} {x0 : Option Nat} {x1 : Int32} {x2 : Int32} {x3 : Int32} {s0 : Int32} {h : pm_H} {r : tm_O × pm_H} (hr : l236_19 x0 x1 x2 x3 s0 h = some r) : pm_to pt_P (pt_G (tm_r w)) (d + 5) (pt_g236, []) (tm_m (19, [(0, .inr (.inr x0)), (1, .inl x1), (2, .inl x2), (3, .inl x3)], [.inl s0])) h (tm_e r) := by
  unfold l236_19 at hr
  refine tm_n 3 (F' := (24, [(4, .inl s0), (0, .inr (.inr x0)), (1, .inl x1), (2, .inl x2), (3, .inl x3)], [.inl s0, .inr (.inr x0)])) rfl ?_
  by_cases c9 : s0 = (0 : Int32)
  · rw [if_pos c9] at hr
    refine tm_ifF rfl (fun q => q c9) ?_
    refine tm_n 2 (F' := (86, [(4, .inl s0), (0, .inr (.inr x0)), (1, .inl x1), (2, .inl x2), (3, .inl x3)], [.inl (1 : Int32), .inr (.inr x0)])) rfl ?_
    refine tm_cut (a := [(0, .inr (.inr x0)), (1, .inl x1), (2, .inl x2), (3, .inl x3)]) rfl (tm_sbs [1, 2, 3, 4] rfl) ?_
    exact l236_86_t hr
  · rw [if_neg c9] at hr
    refine tm_ifT rfl c9 ?_
    refine tm_n 2 (F' := (33, [(4, .inl s0), (0, .inr (.inr x0)), (1, .inl x1), (2, .inl x2), (3, .inl x3)], [.inl (-1 : Int32), .inl x3, .inr (.inr x0)])) rfl ?_
    by_cases c8 : x3 = (-1 : Int32)
    · rw [if_pos c8] at hr
      refine tm_icT rfl c8 ?_
      refine tm_cut (a := [(0, .inr (.inr x0)), (1, .inl x1), (2, .inl x2), (3, .inl x3)]) rfl (tm_sbs [1, 2, 3, 4] rfl) ?_
      exact l236_50_t hr
    · rw [if_neg c8] at hr
      refine tm_icF rfl c8 ?_
      refine tm_n 4 (F' := (40, [(4, .inl s0), (0, .inr (.inr x0)), (1, .inl x1), (2, .inl x2), (3, .inl x3)], [.inl x3, .inl x2, .inl x1, .inr (.inr x0), .inr (.inr x0)])) rfl ?_
      by_cases c1 : lc_of h x0 = some 10
      · rw [if_pos c1] at hr
        rcases lb_I_s hr with ⟨v2, h3, m4, hr⟩ | ⟨a6, h3, z7, z7l, m4, qz7, rfl⟩
        · try dsimp only at hr
          refine tm_call rfl rfl (tm_callV rfl rfl c1 rfl rfl) (lq_239 m4) ?_
          by_cases c5 : v2 = (0 : Int32)
          · rw [if_pos c5] at hr
            refine tm_ifF rfl (fun q => q c5) ?_
            refine tm_n 2 (F' := (86, [(4, .inl s0), (0, .inr (.inr x0)), (1, .inl x1), (2, .inl x2), (3, .inl x3)], [.inl (2 : Int32), .inr (.inr x0)])) rfl ?_
            refine tm_cut (a := [(0, .inr (.inr x0)), (1, .inl x1), (2, .inl x2), (3, .inl x3)]) rfl (tm_sbs [1, 2, 3, 4] rfl) ?_
            exact l236_86_t hr
          · rw [if_neg c5] at hr
            refine tm_ifT rfl c5 ?_
            refine tm_cut (a := [(0, .inr (.inr x0)), (1, .inl x1), (2, .inl x2), (3, .inl x3)]) rfl (tm_sbs [1, 2, 3, 4] rfl) ?_
            exact l236_50_t hr
        · exact tm_callT rfl rfl (tm_callV rfl rfl c1 rfl rfl) (lq_239 m4) qz7 rfl
      · rw [if_neg c1] at hr
        cases hr
set_option maxRecDepth 20000 in
def l236_18 (x0 : Option Nat) (x1 : Int32) (x2 : Int32) (x3 : Int32) (h : pm_H) : tm_L := l236_19 x0 x1 x2 x3 (0 : Int32) h
set_option maxRecDepth 20000 in
theorem l236_18_t {w : Option Nat} {d : Nat} {x0 : Option Nat} {x1 : Int32} {x2 : Int32} {x3 : Int32} {h : pm_H} {r : tm_O × pm_H} (hr : l236_18 x0 x1 x2 x3 h = some r) : pm_to pt_P (pt_G (tm_r w)) (d + 5) (pt_g236, []) (tm_m (18, [(0, .inr (.inr x0)), (1, .inl x1), (2, .inl x2), (3, .inl x3)], [])) h (tm_e r) := by
  unfold l236_18 at hr
  refine tm_n 1 (F' := (19, [(0, .inr (.inr x0)), (1, .inl x1), (2, .inl x2), (3, .inl x3)], [.inl (0 : Int32)])) rfl ?_
  refine tm_cut (a := [(0, .inr (.inr x0)), (1, .inl x1), (2, .inl x2), (3, .inl x3)]) rfl (tm_sbs [0, 1, 2, 3] rfl) ?_
  exact l236_19_t hr
set_option maxRecDepth 20000 in
def ll_236 (a0 : Option Nat) (a1 : Int32) (a2 : Int32) (a3 : Int32) (h : pm_H) : tm_L := lb_I (ll_237 a1 h) (fun v1 h2 => if v1 = (0 : Int32) then l236_18 a0 a1 a2 a3 h2 else lb_I (ll_238 a2 h2) (fun v4 h5 => if v4 = (0 : Int32) then l236_18 a0 a1 a2 a3 h5 else l236_19 a0 a1 a2 a3 (1 : Int32) h5))
set_option maxRecDepth 20000 in
theorem lq_236 {w : Option Nat} {d : Nat} {a0 : Option Nat} {a1 : Int32} {a2 : Int32} {a3 : Int32} {h : pm_H} {r : tm_O × pm_H} (hr : ll_236 a0 a1 a2 a3 h = some r) : tm_run pt_P (pt_G (tm_r w)) (d + 5) 236 [.inr (.inr a0), .inl a1, .inl a2, .inl a3] h r := by
  unfold ll_236 at hr
  show pm_to pt_P (pt_G (tm_r w)) (d + 5) (pt_g236, []) (tm_m (0, [(0, .inr (.inr a0)), (1, .inl a1), (2, .inl a2), (3, .inl a3)], [])) h (tm_e r)
  refine tm_n 1 (F' := (1, [(0, .inr (.inr a0)), (1, .inl a1), (2, .inl a2), (3, .inl a3)], [.inl a1])) rfl ?_
  rcases lb_I_s hr with ⟨v1, h2, m3, hr⟩ | ⟨a11, h2, z12, z12l, m3, qz12, rfl⟩
  · try dsimp only at hr
    refine tm_call rfl rfl (tm_callS rfl rfl) (lq_237 m3) ?_
    by_cases c10 : v1 = (0 : Int32)
    · rw [if_pos c10] at hr
      refine tm_ifT rfl c10 ?_
      refine tm_cut (a := [(0, .inr (.inr a0)), (1, .inl a1), (2, .inl a2), (3, .inl a3)]) rfl (tm_sbs [0, 1, 2, 3] rfl) ?_
      exact l236_18_t hr
    · rw [if_neg c10] at hr
      refine tm_ifF rfl c10 ?_
      refine tm_n 1 (F' := (8, [(0, .inr (.inr a0)), (1, .inl a1), (2, .inl a2), (3, .inl a3)], [.inl a2])) rfl ?_
      rcases lb_I_s hr with ⟨v4, h5, m6, hr⟩ | ⟨a8, h5, z9, z9l, m6, qz9, rfl⟩
      · try dsimp only at hr
        refine tm_call rfl rfl (tm_callS rfl rfl) (lq_238 m6) ?_
        by_cases c7 : v4 = (0 : Int32)
        · rw [if_pos c7] at hr
          refine tm_ifT rfl c7 ?_
          refine tm_cut (a := [(0, .inr (.inr a0)), (1, .inl a1), (2, .inl a2), (3, .inl a3)]) rfl (tm_sbs [0, 1, 2, 3] rfl) ?_
          exact l236_18_t hr
        · rw [if_neg c7] at hr
          refine tm_ifF rfl c7 ?_
          refine tm_n 2 (F' := (19, [(0, .inr (.inr a0)), (1, .inl a1), (2, .inl a2), (3, .inl a3)], [.inl (1 : Int32)])) rfl ?_
          refine tm_cut (a := [(0, .inr (.inr a0)), (1, .inl a1), (2, .inl a2), (3, .inl a3)]) rfl (tm_sbs [0, 1, 2, 3] rfl) ?_
          exact l236_19_t hr
      · exact tm_callT rfl rfl (tm_callS rfl rfl) (lq_238 m6) qz9 rfl
  · exact tm_callT rfl rfl (tm_callS rfl rfl) (lq_237 m3) qz12 rfl
-- OfficeSheetModel.move(IIII)V
set_option maxRecDepth 20000 in
def l251_75 (x0 : Option Nat) (x1 : Int32) (x2 : Int32) (x3 : Int32) (x4 : Int32) (s0 : Int32) (s1 : Option Nat) (h : pm_H) : tm_L := (lf_P 81 h s1 [0, 10, 0] (.inl s0)).bind fun h1 => (lf_I h1 x0 [10, 0]).bind fun v2 => if v2 ≤ (0 : Int32) then if lc_of h1 x0 = some 10 then lb_I (ll_241 x0 x1 x2 x4 h1) (fun v4 h5 => if lc_of h5 x0 = some 10 then lb_I (ll_241 x0 x1 x2 x3 h5) (fun v8 h9 => if lc_of h9 x0 = some 10 then lb_I (ll_242 x0 x1 x2 x3 h9) (fun v12 h13 => if lc_of h13 x0 = some 10 then lb_I (ll_246 x0 x1 (2 : Int32) x2 v12 h13) (fun v16 h17 => (lf_R h17 x0 [10, 8]).bind fun v19 => (la_S pt_P h17 .iastore v19 v16 (.inl v4)).bind fun h20 => (lf_R h20 x0 [10, 9]).bind fun v21 => (la_S pt_P h20 .iastore v21 v16 (.inl v8)).bind fun h22 => if lc_of h22 x0 = some 10 then lb_V (ll_247 x0 x1 v16 h22) (fun h25 => some (.inl none, h25)) else none) else none) else none) else none) else none else some (.inl none, h1)
set_option maxRecDepth 20000 in
theorem l251_75_t {w : Option Nat} {d : Nat} {x0 : Option Nat} {x1 : Int32} {x2 : Int32} {x3 : Int32} {x4 : Int32} {s0 : Int32} {s1 : Option Nat} {h : pm_H} {r : tm_O × pm_H} (hr : l251_75 x0 x1 x2 x3 x4 s0 s1 h = some r) : pm_to pt_P (pt_G (tm_r w)) (d + 5) (pt_g251, []) (tm_m (75, [(0, .inr (.inr x0)), (1, .inl x1), (2, .inl x2), (3, .inl x3), (4, .inl x4)], [.inl s0, .inr (.inr s1)])) h (tm_e r) := by
  unfold l251_75 at hr
  obtain ⟨h1, qh1, hr⟩ := Option.bind_eq_some_iff.mp hr
  refine tm_putf rfl qh1 ?_
  refine tm_n 1 (F' := (79, [(0, .inr (.inr x0)), (1, .inl x1), (2, .inl x2), (3, .inl x3), (4, .inl x4)], [.inr (.inr x0)])) rfl ?_
  obtain ⟨v2, qv2, hr⟩ := Option.bind_eq_some_iff.mp hr
  refine tm_getf rfl (lf_I_V qv2) ?_
  by_cases c37 : v2 ≤ (0 : Int32)
  · rw [if_pos c37] at hr
    refine tm_ifT rfl c37 ?_
    refine tm_n 4 (F' := (91, [(0, .inr (.inr x0)), (1, .inl x1), (2, .inl x2), (3, .inl x3), (4, .inl x4)], [.inl x4, .inl x2, .inl x1, .inr (.inr x0)])) rfl ?_
    by_cases c3 : lc_of h1 x0 = some 10
    · rw [if_pos c3] at hr
      rcases lb_I_s hr with ⟨v4, h5, m6, hr⟩ | ⟨a35, h5, z36, z36l, m6, qz36, rfl⟩
      · try dsimp only at hr
        refine tm_call rfl rfl (tm_callV rfl rfl c3 rfl rfl) (lq_241 m6) ?_
        refine tm_n 5 (F' := (100, [(6, .inl v4), (0, .inr (.inr x0)), (1, .inl x1), (2, .inl x2), (3, .inl x3), (4, .inl x4)], [.inl x3, .inl x2, .inl x1, .inr (.inr x0)])) rfl ?_
        by_cases c7 : lc_of h5 x0 = some 10
        · rw [if_pos c7] at hr
          rcases lb_I_s hr with ⟨v8, h9, m10, hr⟩ | ⟨a33, h9, z34, z34l, m10, qz34, rfl⟩
          · try dsimp only at hr
            refine tm_call rfl rfl (tm_callV rfl rfl c7 rfl rfl) (lq_241 m10) ?_
            refine tm_n 9 (F' := (113, [(7, .inl v8), (6, .inl v4), (0, .inr (.inr x0)), (1, .inl x1), (2, .inl x2), (3, .inl x3), (4, .inl x4)], [.inl x3, .inl x2, .inl x1, .inr (.inr x0), .inl x2, .inl (2 : Int32), .inl x1, .inr (.inr x0)])) rfl ?_
            by_cases c11 : lc_of h9 x0 = some 10
            · rw [if_pos c11] at hr
              rcases lb_I_s hr with ⟨v12, h13, m14, hr⟩ | ⟨a31, h13, z32, z32l, m14, qz32, rfl⟩
              · try dsimp only at hr
                refine tm_call rfl rfl (tm_callV rfl rfl c11 rfl rfl) (lq_242 m14) ?_
                by_cases c15 : lc_of h13 x0 = some 10
                · rw [if_pos c15] at hr
                  rcases lb_I_s hr with ⟨v16, h17, m18, hr⟩ | ⟨a29, h17, z30, z30l, m18, qz30, rfl⟩
                  · try dsimp only at hr
                    refine tm_call rfl rfl (tm_callV rfl rfl c15 rfl rfl) (lq_246 m18) ?_
                    refine tm_n 2 (F' := (122, [(8, .inl v16), (7, .inl v8), (6, .inl v4), (0, .inr (.inr x0)), (1, .inl x1), (2, .inl x2), (3, .inl x3), (4, .inl x4)], [.inr (.inr x0)])) rfl ?_
                    obtain ⟨v19, qv19, hr⟩ := Option.bind_eq_some_iff.mp hr
                    refine tm_getf rfl (lf_R_V qv19) ?_
                    refine tm_n 2 (F' := (129, [(8, .inl v16), (7, .inl v8), (6, .inl v4), (0, .inr (.inr x0)), (1, .inl x1), (2, .inl x2), (3, .inl x3), (4, .inl x4)], [.inl v4, .inl v16, .inr (.inr v19)])) rfl ?_
                    obtain ⟨h20, qh20, hr⟩ := Option.bind_eq_some_iff.mp hr
                    refine tm_ast rfl rfl qh20 ?_
                    refine tm_n 1 (F' := (131, [(8, .inl v16), (7, .inl v8), (6, .inl v4), (0, .inr (.inr x0)), (1, .inl x1), (2, .inl x2), (3, .inl x3), (4, .inl x4)], [.inr (.inr x0)])) rfl ?_
                    obtain ⟨v21, qv21, hr⟩ := Option.bind_eq_some_iff.mp hr
                    refine tm_getf rfl (lf_R_V qv21) ?_
                    refine tm_n 2 (F' := (138, [(8, .inl v16), (7, .inl v8), (6, .inl v4), (0, .inr (.inr x0)), (1, .inl x1), (2, .inl x2), (3, .inl x3), (4, .inl x4)], [.inl v8, .inl v16, .inr (.inr v21)])) rfl ?_
                    obtain ⟨h22, qh22, hr⟩ := Option.bind_eq_some_iff.mp hr
                    refine tm_ast rfl rfl qh22 ?_
                    refine tm_n 3 (F' := (143, [(8, .inl v16), (7, .inl v8), (6, .inl v4), (0, .inr (.inr x0)), (1, .inl x1), (2, .inl x2), (3, .inl x3), (4, .inl x4)], [.inl v16, .inl x1, .inr (.inr x0)])) rfl ?_
                    by_cases c23 : lc_of h22 x0 = some 10
                    · rw [if_pos c23] at hr
                      rcases lb_V_s hr with ⟨h25, m26, hr⟩ | ⟨a27, h25, z28, z28l, m26, qz28, rfl⟩
                      · try dsimp only at hr
                        refine tm_call rfl rfl (tm_callV rfl rfl c23 rfl rfl) (lq_247 m26) ?_
                        cases hr
                        exact tm_retV rfl
                      · exact tm_callT rfl rfl (tm_callV rfl rfl c23 rfl rfl) (lq_247 m26) qz28 rfl
                    · rw [if_neg c23] at hr
                      cases hr
                  · exact tm_callT rfl rfl (tm_callV rfl rfl c15 rfl rfl) (lq_246 m18) qz30 rfl
                · rw [if_neg c15] at hr
                  cases hr
              · exact tm_callT rfl rfl (tm_callV rfl rfl c11 rfl rfl) (lq_242 m14) qz32 rfl
            · rw [if_neg c11] at hr
              cases hr
          · exact tm_callT rfl rfl (tm_callV rfl rfl c7 rfl rfl) (lq_241 m10) qz34 rfl
        · rw [if_neg c7] at hr
          cases hr
      · exact tm_callT rfl rfl (tm_callV rfl rfl c3 rfl rfl) (lq_241 m6) qz36 rfl
    · rw [if_neg c3] at hr
      cases hr
  · rw [if_neg c37] at hr
    refine tm_ifF rfl c37 ?_
    cases hr
    exact tm_retV rfl
set_option maxRecDepth 20000 in
def l251_58 (x0 : Option Nat) (x1 : Int32) (x2 : Int32) (x3 : Int32) (x4 : Int32) (s0 : Option Nat) (h : pm_H) : tm_L := l251_75 x0 x1 x2 x3 x4 (2 : Int32) s0 h
set_option maxRecDepth 20000 in
theorem l251_58_t {w : Option Nat} {d : Nat} {x0 : Option Nat} {x1 : Int32} {x2 : Int32} {x3 : Int32} {x4 : Int32} {s0 : Option Nat} {h : pm_H} {r : tm_O × pm_H} (hr : l251_58 x0 x1 x2 x3 x4 s0 h = some r) : pm_to pt_P (pt_G (tm_r w)) (d + 5) (pt_g251, []) (tm_m (58, [(0, .inr (.inr x0)), (1, .inl x1), (2, .inl x2), (3, .inl x3), (4, .inl x4)], [.inr (.inr s0)])) h (tm_e r) := by
  unfold l251_58 at hr
  refine tm_n 2 (F' := (75, [(0, .inr (.inr x0)), (1, .inl x1), (2, .inl x2), (3, .inl x3), (4, .inl x4)], [.inl (2 : Int32), .inr (.inr s0)])) rfl ?_
  refine tm_cut (a := [(0, .inr (.inr x0)), (1, .inl x1), (2, .inl x2), (3, .inl x3), (4, .inl x4)]) rfl (tm_sbs [0, 1, 2, 3, 4] rfl) ?_
  exact l251_75_t hr
set_option maxRecDepth 20000 in
def l251_62 (x0 : Option Nat) (x1 : Int32) (x2 : Int32) (x3 : Int32) (x4 : Int32) (s0 : Option Nat) (h : pm_H) : tm_L := if lc_of h x0 = some 10 then lb_I (ll_240 x0 x1 h) (fun v2 h3 => if v2 = (0 : Int32) then l251_75 x0 x1 x2 x3 x4 (0 : Int32) s0 h3 else l251_75 x0 x1 x2 x3 x4 (3 : Int32) s0 h3) else none
set_option maxRecDepth 20000 in
theorem l251_62_t {w : Option Nat} {d : Nat} {x0 : Option Nat} {x1 : Int32} {x2 : Int32} {x3 : Int32} {x4 : Int32} {s0 : Option Nat} {h : pm_H} {r : tm_O × pm_H} (hr : l251_62 x0 x1 x2 x3 x4 s0 h = some r) : pm_to pt_P (pt_G (tm_r w)) (d + 5) (pt_g251, []) (tm_m (62, [(0, .inr (.inr x0)), (1, .inl x1), (2, .inl x2), (3, .inl x3), (4, .inl x4)], [.inr (.inr s0)])) h (tm_e r) := by
  unfold l251_62 at hr
  refine tm_n 2 (F' := (64, [(0, .inr (.inr x0)), (1, .inl x1), (2, .inl x2), (3, .inl x3), (4, .inl x4)], [.inl x1, .inr (.inr x0), .inr (.inr s0)])) rfl ?_
  by_cases c1 : lc_of h x0 = some 10
  · rw [if_pos c1] at hr
    rcases lb_I_s hr with ⟨v2, h3, m4, hr⟩ | ⟨a6, h3, z7, z7l, m4, qz7, rfl⟩
    · try dsimp only at hr
      refine tm_call rfl rfl (tm_callV rfl rfl c1 rfl rfl) (lq_240 m4) ?_
      by_cases c5 : v2 = (0 : Int32)
      · rw [if_pos c5] at hr
        refine tm_ifT rfl c5 ?_
        refine tm_n 1 (F' := (75, [(0, .inr (.inr x0)), (1, .inl x1), (2, .inl x2), (3, .inl x3), (4, .inl x4)], [.inl (0 : Int32), .inr (.inr s0)])) rfl ?_
        refine tm_cut (a := [(0, .inr (.inr x0)), (1, .inl x1), (2, .inl x2), (3, .inl x3), (4, .inl x4)]) rfl (tm_sbs [0, 1, 2, 3, 4] rfl) ?_
        exact l251_75_t hr
      · rw [if_neg c5] at hr
        refine tm_ifF rfl c5 ?_
        refine tm_n 2 (F' := (75, [(0, .inr (.inr x0)), (1, .inl x1), (2, .inl x2), (3, .inl x3), (4, .inl x4)], [.inl (3 : Int32), .inr (.inr s0)])) rfl ?_
        refine tm_cut (a := [(0, .inr (.inr x0)), (1, .inl x1), (2, .inl x2), (3, .inl x3), (4, .inl x4)]) rfl (tm_sbs [0, 1, 2, 3, 4] rfl) ?_
        exact l251_75_t hr
    · exact tm_callT rfl rfl (tm_callV rfl rfl c1 rfl rfl) (lq_240 m4) qz7 rfl
  · rw [if_neg c1] at hr
    cases hr
set_option maxRecDepth 20000 in
def l251_19 (x0 : Option Nat) (x1 : Int32) (x2 : Int32) (x3 : Int32) (x4 : Int32) (s0 : Int32) (h : pm_H) : tm_L := if s0 = (0 : Int32) then l251_75 x0 x1 x2 x3 x4 (1 : Int32) x0 h else if lc_of h x0 = some 10 then lb_I (ll_239 x0 x1 x2 x3 h) (fun v2 h3 => if v2 = (0 : Int32) then l251_58 x0 x1 x2 x3 x4 x0 h3 else if x4 = (-1 : Int32) then l251_62 x0 x1 x2 x3 x4 x0 h3 else if lc_of h3 x0 = some 10 then lb_I (ll_239 x0 x1 x2 x4 h3) (fun v6 h7 => if v6 = (0 : Int32) then l251_58 x0 x1 x2 x3 x4 x0 h7 else l251_62 x0 x1 x2 x3 x4 x0 h7) else none) else none
set_option maxRecDepth 20000 in
theorem l251_19_t {w : Option Nat} {d : Nat} {x0 : Option Nat} {x1 : Int32} {x2 : Int32} {x3 : Int32} {x4 : Int32} {s0 : Int32} {h : pm_H} {r : tm_O × pm_H} (hr : l251_19 x0 x1 x2 x3 x4 s0 h = some r) : pm_to pt_P (pt_G (tm_r w)) (d + 5) (pt_g251, []) (tm_m (19, [(0, .inr (.inr x0)), (1, .inl x1), (2, .inl x2), (3, .inl x3), (4, .inl x4)], [.inl s0])) h (tm_e r) := by
  unfold l251_19 at hr
  refine tm_n 3 (F' := (24, [(5, .inl s0), (0, .inr (.inr x0)), (1, .inl x1), (2, .inl x2), (3, .inl x3), (4, .inl x4)], [.inl s0, .inr (.inr x0)])) rfl ?_
  by_cases c16 : s0 = (0 : Int32)
  · rw [if_pos c16] at hr
    refine tm_ifF rfl (fun q => q c16) ?_
    refine tm_n 2 (F' := (75, [(5, .inl s0), (0, .inr (.inr x0)), (1, .inl x1), (2, .inl x2), (3, .inl x3), (4, .inl x4)], [.inl (1 : Int32), .inr (.inr x0)])) rfl ?_
    refine tm_cut (a := [(0, .inr (.inr x0)), (1, .inl x1), (2, .inl x2), (3, .inl x3), (4, .inl x4)]) rfl (tm_sbs [1, 2, 3, 4, 5] rfl) ?_
    exact l251_75_t hr
  · rw [if_neg c16] at hr
    refine tm_ifT rfl c16 ?_
    refine tm_n 4 (F' := (35, [(5, .inl s0), (0, .inr (.inr x0)), (1, .inl x1), (2, .inl x2), (3, .inl x3), (4, .inl x4)], [.inl x3, .inl x2, .inl x1, .inr (.inr x0), .inr (.inr x0)])) rfl ?_
    by_cases c1 : lc_of h x0 = some 10
    · rw [if_pos c1] at hr
      rcases lb_I_s hr with ⟨v2, h3, m4, hr⟩ | ⟨a14, h3, z15, z15l, m4, qz15, rfl⟩
      · try dsimp only at hr
        refine tm_call rfl rfl (tm_callV rfl rfl c1 rfl rfl) (lq_239 m4) ?_
        by_cases c13 : v2 = (0 : Int32)
        · rw [if_pos c13] at hr
          refine tm_ifT rfl c13 ?_
          refine tm_cut (a := [(0, .inr (.inr x0)), (1, .inl x1), (2, .inl x2), (3, .inl x3), (4, .inl x4)]) rfl (tm_sbs [1, 2, 3, 4, 5] rfl) ?_
          exact l251_58_t hr
        · rw [if_neg c13] at hr
          refine tm_ifF rfl c13 ?_
          refine tm_n 2 (F' := (44, [(5, .inl s0), (0, .inr (.inr x0)), (1, .inl x1), (2, .inl x2), (3, .inl x3), (4, .inl x4)], [.inl (-1 : Int32), .inl x4, .inr (.inr x0)])) rfl ?_
          by_cases c12 : x4 = (-1 : Int32)
          · rw [if_pos c12] at hr
            refine tm_icT rfl c12 ?_
            refine tm_cut (a := [(0, .inr (.inr x0)), (1, .inl x1), (2, .inl x2), (3, .inl x3), (4, .inl x4)]) rfl (tm_sbs [1, 2, 3, 4, 5] rfl) ?_
            exact l251_62_t hr
          · rw [if_neg c12] at hr
            refine tm_icF rfl c12 ?_
            refine tm_n 4 (F' := (52, [(5, .inl s0), (0, .inr (.inr x0)), (1, .inl x1), (2, .inl x2), (3, .inl x3), (4, .inl x4)], [.inl x4, .inl x2, .inl x1, .inr (.inr x0), .inr (.inr x0)])) rfl ?_
            by_cases c5 : lc_of h3 x0 = some 10
            · rw [if_pos c5] at hr
              rcases lb_I_s hr with ⟨v6, h7, m8, hr⟩ | ⟨a10, h7, z11, z11l, m8, qz11, rfl⟩
              · try dsimp only at hr
                refine tm_call rfl rfl (tm_callV rfl rfl c5 rfl rfl) (lq_239 m8) ?_
                by_cases c9 : v6 = (0 : Int32)
                · rw [if_pos c9] at hr
                  refine tm_ifF rfl (fun q => q c9) ?_
                  refine tm_cut (a := [(0, .inr (.inr x0)), (1, .inl x1), (2, .inl x2), (3, .inl x3), (4, .inl x4)]) rfl (tm_sbs [1, 2, 3, 4, 5] rfl) ?_
                  exact l251_58_t hr
                · rw [if_neg c9] at hr
                  refine tm_ifT rfl c9 ?_
                  refine tm_cut (a := [(0, .inr (.inr x0)), (1, .inl x1), (2, .inl x2), (3, .inl x3), (4, .inl x4)]) rfl (tm_sbs [1, 2, 3, 4, 5] rfl) ?_
                  exact l251_62_t hr
              · exact tm_callT rfl rfl (tm_callV rfl rfl c5 rfl rfl) (lq_239 m8) qz11 rfl
            · rw [if_neg c5] at hr
              cases hr
      · exact tm_callT rfl rfl (tm_callV rfl rfl c1 rfl rfl) (lq_239 m4) qz15 rfl
    · rw [if_neg c1] at hr
      cases hr
set_option maxRecDepth 20000 in
def l251_18 (x0 : Option Nat) (x1 : Int32) (x2 : Int32) (x3 : Int32) (x4 : Int32) (h : pm_H) : tm_L := l251_19 x0 x1 x2 x3 x4 (0 : Int32) h
set_option maxRecDepth 20000 in
theorem l251_18_t {w : Option Nat} {d : Nat} {x0 : Option Nat} {x1 : Int32} {x2 : Int32} {x3 : Int32} {x4 : Int32} {h : pm_H} {r : tm_O × pm_H} (hr : l251_18 x0 x1 x2 x3 x4 h = some r) : pm_to pt_P (pt_G (tm_r w)) (d + 5) (pt_g251, []) (tm_m (18, [(0, .inr (.inr x0)), (1, .inl x1), (2, .inl x2), (3, .inl x3), (4, .inl x4)], [])) h (tm_e r) := by
  unfold l251_18 at hr
  refine tm_n 1 (F' := (19, [(0, .inr (.inr x0)), (1, .inl x1), (2, .inl x2), (3, .inl x3), (4, .inl x4)], [.inl (0 : Int32)])) rfl ?_
  refine tm_cut (a := [(0, .inr (.inr x0)), (1, .inl x1), (2, .inl x2), (3, .inl x3), (4, .inl x4)]) rfl (tm_sbs [0, 1, 2, 3, 4] rfl) ?_
  exact l251_19_t hr
set_option maxRecDepth 20000 in
def ll_251 (a0 : Option Nat) (a1 : Int32) (a2 : Int32) (a3 : Int32) (a4 : Int32) (h : pm_H) : tm_L := lb_I (ll_237 a1 h) (fun v1 h2 => if v1 = (0 : Int32) then l251_18 a0 a1 a2 a3 a4 h2 else lb_I (ll_238 a2 h2) (fun v4 h5 => if v4 = (0 : Int32) then l251_18 a0 a1 a2 a3 a4 h5 else l251_19 a0 a1 a2 a3 a4 (1 : Int32) h5))
set_option maxRecDepth 20000 in
theorem lq_251 {w : Option Nat} {d : Nat} {a0 : Option Nat} {a1 : Int32} {a2 : Int32} {a3 : Int32} {a4 : Int32} {h : pm_H} {r : tm_O × pm_H} (hr : ll_251 a0 a1 a2 a3 a4 h = some r) : tm_run pt_P (pt_G (tm_r w)) (d + 5) 251 [.inr (.inr a0), .inl a1, .inl a2, .inl a3, .inl a4] h r := by
  unfold ll_251 at hr
  show pm_to pt_P (pt_G (tm_r w)) (d + 5) (pt_g251, []) (tm_m (0, [(0, .inr (.inr a0)), (1, .inl a1), (2, .inl a2), (3, .inl a3), (4, .inl a4)], [])) h (tm_e r)
  refine tm_n 1 (F' := (1, [(0, .inr (.inr a0)), (1, .inl a1), (2, .inl a2), (3, .inl a3), (4, .inl a4)], [.inl a1])) rfl ?_
  rcases lb_I_s hr with ⟨v1, h2, m3, hr⟩ | ⟨a11, h2, z12, z12l, m3, qz12, rfl⟩
  · try dsimp only at hr
    refine tm_call rfl rfl (tm_callS rfl rfl) (lq_237 m3) ?_
    by_cases c10 : v1 = (0 : Int32)
    · rw [if_pos c10] at hr
      refine tm_ifT rfl c10 ?_
      refine tm_cut (a := [(0, .inr (.inr a0)), (1, .inl a1), (2, .inl a2), (3, .inl a3), (4, .inl a4)]) rfl (tm_sbs [0, 1, 2, 3, 4] rfl) ?_
      exact l251_18_t hr
    · rw [if_neg c10] at hr
      refine tm_ifF rfl c10 ?_
      refine tm_n 1 (F' := (8, [(0, .inr (.inr a0)), (1, .inl a1), (2, .inl a2), (3, .inl a3), (4, .inl a4)], [.inl a2])) rfl ?_
      rcases lb_I_s hr with ⟨v4, h5, m6, hr⟩ | ⟨a8, h5, z9, z9l, m6, qz9, rfl⟩
      · try dsimp only at hr
        refine tm_call rfl rfl (tm_callS rfl rfl) (lq_238 m6) ?_
        by_cases c7 : v4 = (0 : Int32)
        · rw [if_pos c7] at hr
          refine tm_ifT rfl c7 ?_
          refine tm_cut (a := [(0, .inr (.inr a0)), (1, .inl a1), (2, .inl a2), (3, .inl a3), (4, .inl a4)]) rfl (tm_sbs [0, 1, 2, 3, 4] rfl) ?_
          exact l251_18_t hr
        · rw [if_neg c7] at hr
          refine tm_ifF rfl c7 ?_
          refine tm_n 2 (F' := (19, [(0, .inr (.inr a0)), (1, .inl a1), (2, .inl a2), (3, .inl a3), (4, .inl a4)], [.inl (1 : Int32)])) rfl ?_
          refine tm_cut (a := [(0, .inr (.inr a0)), (1, .inl a1), (2, .inl a2), (3, .inl a3), (4, .inl a4)]) rfl (tm_sbs [0, 1, 2, 3, 4] rfl) ?_
          exact l251_19_t hr
      · exact tm_callT rfl rfl (tm_callS rfl rfl) (lq_238 m6) qz9 rfl
  · exact tm_callT rfl rfl (tm_callS rfl rfl) (lq_237 m3) qz12 rfl
-- OfficeSheetModel.remove(III)V
set_option maxRecDepth 20000 in
def l252_58 (x0 : Option Nat) (x1 : Int32) (x2 : Int32) (x3 : Int32) (s0 : Int32) (s1 : Option Nat) (h : pm_H) : tm_L := (lf_P 81 h s1 [0, 10, 0] (.inl s0)).bind fun h1 => (lf_I h1 x0 [10, 0]).bind fun v2 => if v2 = (0 : Int32) then if lc_of h1 x0 = some 10 then lb_I (ll_242 x0 x1 x2 x3 h1) (fun v4 h5 => if lc_of h5 x0 = some 10 then lb_I (ll_246 x0 x1 (5 : Int32) x2 v4 h5) (fun v8 h9 => if lc_of h9 x0 = some 10 then lb_V (ll_247 x0 x1 v8 h9) (fun h13 => some (.inl none, h13)) else none) else none) else none else some (.inl none, h1)
set_option maxRecDepth 20000 in
theorem l252_58_t {w : Option Nat} {d : Nat} {x0 : Option Nat} {x1 : Int32} {x2 : Int32} {x3 : Int32} {s0 : Int32} {s1 : Option Nat} {h : pm_H} {r : tm_O × pm_H} (hr : l252_58 x0 x1 x2 x3 s0 s1 h = some r) : pm_to pt_P (pt_G (tm_r w)) (d + 5) (pt_g252, []) (tm_m (58, [(0, .inr (.inr x0)), (1, .inl x1), (2, .inl x2), (3, .inl x3)], [.inl s0, .inr (.inr s1)])) h (tm_e r) := by
  unfold l252_58 at hr
  obtain ⟨h1, qh1, hr⟩ := Option.bind_eq_some_iff.mp hr
  refine tm_putf rfl qh1 ?_
  refine tm_n 1 (F' := (62, [(0, .inr (.inr x0)), (1, .inl x1), (2, .inl x2), (3, .inl x3)], [.inr (.inr x0)])) rfl ?_
  obtain ⟨v2, qv2, hr⟩ := Option.bind_eq_some_iff.mp hr
  refine tm_getf rfl (lf_I_V qv2) ?_
  by_cases c21 : v2 = (0 : Int32)
  · rw [if_pos c21] at hr
    refine tm_ifF rfl (fun q => q c21) ?_
    refine tm_n 10 (F' := (78, [(0, .inr (.inr x0)), (1, .inl x1), (2, .inl x2), (3, .inl x3)], [.inl x3, .inl x2, .inl x1, .inr (.inr x0), .inl x2, .inl (5 : Int32), .inl x1, .inr (.inr x0), .inl x1, .inr (.inr x0)])) rfl ?_
    by_cases c3 : lc_of h1 x0 = some 10
    · rw [if_pos c3] at hr
      rcases lb_I_s hr with ⟨v4, h5, m6, hr⟩ | ⟨a19, h5, z20, z20l, m6, qz20, rfl⟩
      · try dsimp only at hr
        refine tm_call rfl rfl (tm_callV rfl rfl c3 rfl rfl) (lq_242 m6) ?_
        by_cases c7 : lc_of h5 x0 = some 10
        · rw [if_pos c7] at hr
          rcases lb_I_s hr with ⟨v8, h9, m10, hr⟩ | ⟨a17, h9, z18, z18l, m10, qz18, rfl⟩
          · try dsimp only at hr
            refine tm_call rfl rfl (tm_callV rfl rfl c7 rfl rfl) (lq_246 m10) ?_
            by_cases c11 : lc_of h9 x0 = some 10
            · rw [if_pos c11] at hr
              rcases lb_V_s hr with ⟨h13, m14, hr⟩ | ⟨a15, h13, z16, z16l, m14, qz16, rfl⟩
              · try dsimp only at hr
                refine tm_call rfl rfl (tm_callV rfl rfl c11 rfl rfl) (lq_247 m14) ?_
                cases hr
                exact tm_retV rfl
              · exact tm_callT rfl rfl (tm_callV rfl rfl c11 rfl rfl) (lq_247 m14) qz16 rfl
            · rw [if_neg c11] at hr
              cases hr
          · exact tm_callT rfl rfl (tm_callV rfl rfl c7 rfl rfl) (lq_246 m10) qz18 rfl
        · rw [if_neg c7] at hr
          cases hr
      · exact tm_callT rfl rfl (tm_callV rfl rfl c3 rfl rfl) (lq_242 m6) qz20 rfl
    · rw [if_neg c3] at hr
      cases hr
  · rw [if_neg c21] at hr
    refine tm_ifT rfl c21 ?_
    cases hr
    exact tm_retV rfl
set_option maxRecDepth 20000 in
def l252_19 (x0 : Option Nat) (x1 : Int32) (x2 : Int32) (x3 : Int32) (s0 : Int32) (h : pm_H) : tm_L := if s0 = (0 : Int32) then l252_58 x0 x1 x2 x3 (1 : Int32) x0 h else if lc_of h x0 = some 10 then lb_I (ll_239 x0 x1 x2 x3 h) (fun v2 h3 => if v2 = (0 : Int32) then l252_58 x0 x1 x2 x3 (2 : Int32) x0 h3 else if lc_of h3 x0 = some 10 then lb_I (ll_240 x0 x1 h3) (fun v6 h7 => if v6 = (0 : Int32) then l252_58 x0 x1 x2 x3 (0 : Int32) x0 h7 else l252_58 x0 x1 x2 x3 (3 : Int32) x0 h7) else none) else none
set_option maxRecDepth 20000 in
theorem l252_19_t {w : Option Nat} {d : Nat} {x0 : Option Nat} {x1 : Int32} {x2 : Int32} {x3 : Int32} {s0 : Int32} {h : pm_H} {r : tm_O × pm_H} (hr : l252_19 x0 x1 x2 x3 s0 h = some r) : pm_to pt_P (pt_G (tm_r w)) (d + 5) (pt_g252, []) (tm_m (19, [(0, .inr (.inr x0)), (1, .inl x1), (2, .inl x2), (3, .inl x3)], [.inl s0])) h (tm_e r) := by
  unfold l252_19 at hr
  refine tm_n 3 (F' := (24, [(4, .inl s0), (0, .inr (.inr x0)), (1, .inl x1), (2, .inl x2), (3, .inl x3)], [.inl s0, .inr (.inr x0)])) rfl ?_
  by_cases c15 : s0 = (0 : Int32)
  · rw [if_pos c15] at hr
    refine tm_ifF rfl (fun q => q c15) ?_
    refine tm_n 2 (F' := (58, [(4, .inl s0), (0, .inr (.inr x0)), (1, .inl x1), (2, .inl x2), (3, .inl x3)], [.inl (1 : Int32), .inr (.inr x0)])) rfl ?_
    refine tm_cut (a := [(0, .inr (.inr x0)), (1, .inl x1), (2, .inl x2), (3, .inl x3)]) rfl (tm_sbs [1, 2, 3, 4] rfl) ?_
    exact l252_58_t hr
  · rw [if_neg c15] at hr
    refine tm_ifT rfl c15 ?_
    refine tm_n 4 (F' := (35, [(4, .inl s0), (0, .inr (.inr x0)), (1, .inl x1), (2, .inl x2), (3, .inl x3)], [.inl x3, .inl x2, .inl x1, .inr (.inr x0), .inr (.inr x0)])) rfl ?_
    by_cases c1 : lc_of h x0 = some 10
    · rw [if_pos c1] at hr
      rcases lb_I_s hr with ⟨v2, h3, m4, hr⟩ | ⟨a13, h3, z14, z14l, m4, qz14, rfl⟩
      · try dsimp only at hr
        refine tm_call rfl rfl (tm_callV rfl rfl c1 rfl rfl) (lq_239 m4) ?_
        by_cases c12 : v2 = (0 : Int32)
        · rw [if_pos c12] at hr
          refine tm_ifF rfl (fun q => q c12) ?_
          refine tm_n 2 (F' := (58, [(4, .inl s0), (0, .inr (.inr x0)), (1, .inl x1), (2, .inl x2), (3, .inl x3)], [.inl (2 : Int32), .inr (.inr x0)])) rfl ?_
          refine tm_cut (a := [(0, .inr (.inr x0)), (1, .inl x1), (2, .inl x2), (3, .inl x3)]) rfl (tm_sbs [1, 2, 3, 4] rfl) ?_
          exact l252_58_t hr
        · rw [if_neg c12] at hr
          refine tm_ifT rfl c12 ?_
          refine tm_n 2 (F' := (47, [(4, .inl s0), (0, .inr (.inr x0)), (1, .inl x1), (2, .inl x2), (3, .inl x3)], [.inl x1, .inr (.inr x0), .inr (.inr x0)])) rfl ?_
          by_cases c5 : lc_of h3 x0 = some 10
          · rw [if_pos c5] at hr
            rcases lb_I_s hr with ⟨v6, h7, m8, hr⟩ | ⟨a10, h7, z11, z11l, m8, qz11, rfl⟩
            · try dsimp only at hr
              refine tm_call rfl rfl (tm_callV rfl rfl c5 rfl rfl) (lq_240 m8) ?_
              by_cases c9 : v6 = (0 : Int32)
              · rw [if_pos c9] at hr
                refine tm_ifT rfl c9 ?_
                refine tm_n 1 (F' := (58, [(4, .inl s0), (0, .inr (.inr x0)), (1, .inl x1), (2, .inl x2), (3, .inl x3)], [.inl (0 : Int32), .inr (.inr x0)])) rfl ?_
                refine tm_cut (a := [(0, .inr (.inr x0)), (1, .inl x1), (2, .inl x2), (3, .inl x3)]) rfl (tm_sbs [1, 2, 3, 4] rfl) ?_
                exact l252_58_t hr
              · rw [if_neg c9] at hr
                refine tm_ifF rfl c9 ?_
                refine tm_n 2 (F' := (58, [(4, .inl s0), (0, .inr (.inr x0)), (1, .inl x1), (2, .inl x2), (3, .inl x3)], [.inl (3 : Int32), .inr (.inr x0)])) rfl ?_
                refine tm_cut (a := [(0, .inr (.inr x0)), (1, .inl x1), (2, .inl x2), (3, .inl x3)]) rfl (tm_sbs [1, 2, 3, 4] rfl) ?_
                exact l252_58_t hr
            · exact tm_callT rfl rfl (tm_callV rfl rfl c5 rfl rfl) (lq_240 m8) qz11 rfl
          · rw [if_neg c5] at hr
            cases hr
      · exact tm_callT rfl rfl (tm_callV rfl rfl c1 rfl rfl) (lq_239 m4) qz14 rfl
    · rw [if_neg c1] at hr
      cases hr
set_option maxRecDepth 20000 in
def l252_18 (x0 : Option Nat) (x1 : Int32) (x2 : Int32) (x3 : Int32) (h : pm_H) : tm_L := l252_19 x0 x1 x2 x3 (0 : Int32) h
set_option maxRecDepth 20000 in
theorem l252_18_t {w : Option Nat} {d : Nat} {x0 : Option Nat} {x1 : Int32} {x2 : Int32} {x3 : Int32} {h : pm_H} {r : tm_O × pm_H} (hr : l252_18 x0 x1 x2 x3 h = some r) : pm_to pt_P (pt_G (tm_r w)) (d + 5) (pt_g252, []) (tm_m (18, [(0, .inr (.inr x0)), (1, .inl x1), (2, .inl x2), (3, .inl x3)], [])) h (tm_e r) := by
  unfold l252_18 at hr
  refine tm_n 1 (F' := (19, [(0, .inr (.inr x0)), (1, .inl x1), (2, .inl x2), (3, .inl x3)], [.inl (0 : Int32)])) rfl ?_
  refine tm_cut (a := [(0, .inr (.inr x0)), (1, .inl x1), (2, .inl x2), (3, .inl x3)]) rfl (tm_sbs [0, 1, 2, 3] rfl) ?_
  exact l252_19_t hr
set_option maxRecDepth 20000 in
def ll_252 (a0 : Option Nat) (a1 : Int32) (a2 : Int32) (a3 : Int32) (h : pm_H) : tm_L := lb_I (ll_237 a1 h) (fun v1 h2 => if v1 = (0 : Int32) then l252_18 a0 a1 a2 a3 h2 else lb_I (ll_238 a2 h2) (fun v4 h5 => if v4 = (0 : Int32) then l252_18 a0 a1 a2 a3 h5 else l252_19 a0 a1 a2 a3 (1 : Int32) h5))
set_option maxRecDepth 20000 in
theorem lq_252 {w : Option Nat} {d : Nat} {a0 : Option Nat} {a1 : Int32} {a2 : Int32} {a3 : Int32} {h : pm_H} {r : tm_O × pm_H} (hr : ll_252 a0 a1 a2 a3 h = some r) : tm_run pt_P (pt_G (tm_r w)) (d + 5) 252 [.inr (.inr a0), .inl a1, .inl a2, .inl a3] h r := by
  unfold ll_252 at hr
  show pm_to pt_P (pt_G (tm_r w)) (d + 5) (pt_g252, []) (tm_m (0, [(0, .inr (.inr a0)), (1, .inl a1), (2, .inl a2), (3, .inl a3)], [])) h (tm_e r)
  refine tm_n 1 (F' := (1, [(0, .inr (.inr a0)), (1, .inl a1), (2, .inl a2), (3, .inl a3)], [.inl a1])) rfl ?_
  rcases lb_I_s hr with ⟨v1, h2, m3, hr⟩ | ⟨a11, h2, z12, z12l, m3, qz12, rfl⟩
  · try dsimp only at hr
    refine tm_call rfl rfl (tm_callS rfl rfl) (lq_237 m3) ?_
    by_cases c10 : v1 = (0 : Int32)
    · rw [if_pos c10] at hr
      refine tm_ifT rfl c10 ?_
      refine tm_cut (a := [(0, .inr (.inr a0)), (1, .inl a1), (2, .inl a2), (3, .inl a3)]) rfl (tm_sbs [0, 1, 2, 3] rfl) ?_
      exact l252_18_t hr
    · rw [if_neg c10] at hr
      refine tm_ifF rfl c10 ?_
      refine tm_n 1 (F' := (8, [(0, .inr (.inr a0)), (1, .inl a1), (2, .inl a2), (3, .inl a3)], [.inl a2])) rfl ?_
      rcases lb_I_s hr with ⟨v4, h5, m6, hr⟩ | ⟨a8, h5, z9, z9l, m6, qz9, rfl⟩
      · try dsimp only at hr
        refine tm_call rfl rfl (tm_callS rfl rfl) (lq_238 m6) ?_
        by_cases c7 : v4 = (0 : Int32)
        · rw [if_pos c7] at hr
          refine tm_ifT rfl c7 ?_
          refine tm_cut (a := [(0, .inr (.inr a0)), (1, .inl a1), (2, .inl a2), (3, .inl a3)]) rfl (tm_sbs [0, 1, 2, 3] rfl) ?_
          exact l252_18_t hr
        · rw [if_neg c7] at hr
          refine tm_ifF rfl c7 ?_
          refine tm_n 2 (F' := (19, [(0, .inr (.inr a0)), (1, .inl a1), (2, .inl a2), (3, .inl a3)], [.inl (1 : Int32)])) rfl ?_
          refine tm_cut (a := [(0, .inr (.inr a0)), (1, .inl a1), (2, .inl a2), (3, .inl a3)]) rfl (tm_sbs [0, 1, 2, 3] rfl) ?_
          exact l252_19_t hr
      · exact tm_callT rfl rfl (tm_callS rfl rfl) (lq_238 m6) qz9 rfl
  · exact tm_callT rfl rfl (tm_callS rfl rfl) (lq_237 m3) qz12 rfl
-- OfficeSheetModel.latestWrite(III)I
set_option maxRecDepth 20000 in
def l255_81 (K6 : Option Nat → Int32 → Int32 → Int32 → Int32 → Int32 → pm_H → tm_L) (x0 : Option Nat) (x1 : Int32) (x2 : Int32) (x3 : Int32) (x4 : Int32) (x5 : Int32) (h : pm_H) : tm_L := K6 x0 x1 x2 x3 x4 (x5 + (1 : Int32)) h
set_option maxRecDepth 20000 in
theorem l255_81_t {w : Option Nat} {d : Nat} {K6 : Option Nat → Int32 → Int32 → Int32 → Int32 → Int32 → pm_H → tm_L} (hK6 : ∀ {x0 : Option Nat} {x1 : Int32} {x2 : Int32} {x3 : Int32} {x4 : Int32} {x5 : Int32}  {h : pm_H} {r : tm_O × pm_H}, K6 x0 x1 x2 x3 x4 x5 h = some r → pm_to pt_P (pt_G (tm_r w)) (d + 1) (pt_g255, []) (tm_m (6, [(0, .inr (.inr x0)), (1, .inl x1), (2, .inl x2), (3, .inl x3), (4, .inl x4), (5, .inl x5)], [])) h (tm_e r)) {x0 : Option Nat} {x1 : Int32} {x2 : Int32} {x3 : Int32} {x4 : Int32} {x5 : Int32} {h : pm_H} {r : tm_O × pm_H} (hr : l255_81 K6 x0 x1 x2 x3 x4 x5 h = some r) : pm_to pt_P (pt_G (tm_r w)) (d + 1) (pt_g255, []) (tm_m (81, [(0, .inr (.inr x0)), (1, .inl x1), (2, .inl x2), (3, .inl x3), (4, .inl x4), (5, .inl x5)], [])) h (tm_e r) := by
  unfold l255_81 at hr
  refine tm_n 2 (F' := (6, [(5, .inl (x5 + (1 : Int32))), (0, .inr (.inr x0)), (1, .inl x1), (2, .inl x2), (3, .inl x3), (4, .inl x4)], [])) rfl ?_
  refine tm_cut (a := [(0, .inr (.inr x0)), (1, .inl x1), (2, .inl x2), (3, .inl x3), (4, .inl x4), (5, .inl (x5 + (1 : Int32)))]) rfl (tm_sbs [1, 2, 3, 4, 5, 0] rfl) ?_
  exact hK6 hr
set_option maxRecDepth 20000 in
def l255_77 (K6 : Option Nat → Int32 → Int32 → Int32 → Int32 → Int32 → pm_H → tm_L) (x0 : Option Nat) (x1 : Int32) (x2 : Int32) (x3 : Int32) (x5 : Int32) (h : pm_H) : tm_L := l255_81 K6 x0 x1 x2 x3 x5 x5 h
set_option maxRecDepth 20000 in
theorem l255_77_t {w : Option Nat} {d : Nat} {K6 : Option Nat → Int32 → Int32 → Int32 → Int32 → Int32 → pm_H → tm_L} (hK6 : ∀ {x0 : Option Nat} {x1 : Int32} {x2 : Int32} {x3 : Int32} {x4 : Int32} {x5 : Int32}  {h : pm_H} {r : tm_O × pm_H}, K6 x0 x1 x2 x3 x4 x5 h = some r → pm_to pt_P (pt_G (tm_r w)) (d + 1) (pt_g255, []) (tm_m (6, [(0, .inr (.inr x0)), (1, .inl x1), (2, .inl x2), (3, .inl x3), (4, .inl x4), (5, .inl x5)], [])) h (tm_e r)) {x0 : Option Nat} {x1 : Int32} {x2 : Int32} {x3 : Int32} {x5 : Int32} {h : pm_H} {r : tm_O × pm_H} (hr : l255_77 K6 x0 x1 x2 x3 x5 h = some r) : pm_to pt_P (pt_G (tm_r w)) (d + 1) (pt_g255, []) (tm_m (77, [(0, .inr (.inr x0)), (1, .inl x1), (2, .inl x2), (3, .inl x3), (5, .inl x5)], [])) h (tm_e r) := by
  unfold l255_77 at hr
  refine tm_n 2 (F' := (81, [(4, .inl x5), (0, .inr (.inr x0)), (1, .inl x1), (2, .inl x2), (3, .inl x3), (5, .inl x5)], [])) rfl ?_
  refine tm_cut (a := [(0, .inr (.inr x0)), (1, .inl x1), (2, .inl x2), (3, .inl x3), (4, .inl x5), (5, .inl x5)]) rfl (tm_sbs [1, 2, 3, 4, 0, 5] rfl) ?_
  exact l255_81_t hK6 hr
set_option maxRecDepth 20000 in
def l255_6 : Nat → Option Nat → Int32 → Int32 → Int32 → Int32 → Int32 → pm_H → tm_L
  | 0 => fun _ _ _ _ _ _ _ => none
  | n + 1 => fun x0 x1 x2 x3 x4 x5 h => if (120 : Int32) ≤ x5 then some (.inl (some (.inl x4)), h) else (lf_R h x0 [10, 1]).bind fun v1 => (la_I h .iaload v1 x5).bind fun v2 => if v2 = (6 : Int32) then if lc_of h x0 = some 10 then lb_I (ll_244 x0 x1 x5 h) (fun v4 h5 => if v4 = (0 : Int32) then l255_81 (l255_6 n) x0 x1 x2 x3 x4 x5 h5 else (lf_R h5 x0 [10, 5]).bind fun v7 => (la_I h5 .iaload v7 x5).bind fun v8 => if v8 = x2 then (lf_R h5 x0 [10, 6]).bind fun v9 => (la_I h5 .iaload v9 x5).bind fun v10 => if v10 = x3 then if x4 < (0 : Int32) then l255_77 (l255_6 n) x0 x1 x2 x3 x5 h5 else if lc_of h5 x0 = some 10 then lb_I (ll_245 x0 x5 h5) (fun v12 h13 => if lc_of h13 x0 = some 10 then lb_I (ll_245 x0 x4 h13) (fun v16 h17 => if v12 ≤ v16 then l255_81 (l255_6 n) x0 x1 x2 x3 x4 x5 h17 else l255_77 (l255_6 n) x0 x1 x2 x3 x5 h17) else none) else none else l255_81 (l255_6 n) x0 x1 x2 x3 x4 x5 h5 else l255_81 (l255_6 n) x0 x1 x2 x3 x4 x5 h5) else none else l255_81 (l255_6 n) x0 x1 x2 x3 x4 x5 h
set_option maxRecDepth 20000 in
theorem l255_6_t {w : Option Nat} {d : Nat} : ∀ (n : Nat) {x0 : Option Nat} {x1 : Int32} {x2 : Int32} {x3 : Int32} {x4 : Int32} {x5 : Int32} {h : pm_H} {r : tm_O × pm_H}, l255_6 n x0 x1 x2 x3 x4 x5 h = some r → pm_to pt_P (pt_G (tm_r w)) (d + 1) (pt_g255, []) (tm_m (6, [(0, .inr (.inr x0)), (1, .inl x1), (2, .inl x2), (3, .inl x3), (4, .inl x4), (5, .inl x5)], [])) h (tm_e r) := by
  intro n
  induction n with
  | zero => intro x0 x1 x2 x3 x4 x5 h r hr; cases hr
  | succ n ih =>
    intro x0 x1 x2 x3 x4 x5 h r hr
    unfold l255_6 at hr
    refine tm_n 2 (F' := (10, [(0, .inr (.inr x0)), (1, .inl x1), (2, .inl x2), (3, .inl x3), (4, .inl x4), (5, .inl x5)], [.inl (120 : Int32), .inl x5])) rfl ?_
    by_cases c31 : (120 : Int32) ≤ x5
    · rw [if_pos c31] at hr
      refine tm_icT rfl c31 ?_
      refine tm_n 1 (F' := (89, [(0, .inr (.inr x0)), (1, .inl x1), (2, .inl x2), (3, .inl x3), (4, .inl x4), (5, .inl x5)], [.inl x4])) rfl ?_
      cases hr
      exact tm_retI rfl rfl
    · rw [if_neg c31] at hr
      refine tm_icF rfl c31 ?_
      refine tm_n 1 (F' := (14, [(0, .inr (.inr x0)), (1, .inl x1), (2, .inl x2), (3, .inl x3), (4, .inl x4), (5, .inl x5)], [.inr (.inr x0)])) rfl ?_
      obtain ⟨v1, qv1, hr⟩ := Option.bind_eq_some_iff.mp hr
      refine tm_getf rfl (lf_R_V qv1) ?_
      refine tm_n 1 (F' := (19, [(0, .inr (.inr x0)), (1, .inl x1), (2, .inl x2), (3, .inl x3), (4, .inl x4), (5, .inl x5)], [.inl x5, .inr (.inr v1)])) rfl ?_
      obtain ⟨v2, qv2, hr⟩ := Option.bind_eq_some_iff.mp hr
      refine tm_ald rfl rfl (la_I_V qv2) ?_
      refine tm_n 1 (F' := (22, [(0, .inr (.inr x0)), (1, .inl x1), (2, .inl x2), (3, .inl x3), (4, .inl x4), (5, .inl x5)], [.inl (6 : Int32), .inl v2])) rfl ?_
      by_cases c30 : v2 = (6 : Int32)
      · rw [if_pos c30] at hr
        refine tm_icF rfl (fun q => q c30) ?_
        refine tm_n 3 (F' := (29, [(0, .inr (.inr x0)), (1, .inl x1), (2, .inl x2), (3, .inl x3), (4, .inl x4), (5, .inl x5)], [.inl x5, .inl x1, .inr (.inr x0)])) rfl ?_
        by_cases c3 : lc_of h x0 = some 10
        · rw [if_pos c3] at hr
          rcases lb_I_s hr with ⟨v4, h5, m6, hr⟩ | ⟨a28, h5, z29, z29l, m6, qz29, rfl⟩
          · try dsimp only at hr
            refine tm_call rfl rfl (tm_callV rfl rfl c3 rfl rfl) (lq_244 m6) ?_
            by_cases c27 : v4 = (0 : Int32)
            · rw [if_pos c27] at hr
              refine tm_ifT rfl c27 ?_
              refine tm_cut (a := [(0, .inr (.inr x0)), (1, .inl x1), (2, .inl x2), (3, .inl x3), (4, .inl x4), (5, .inl x5)]) rfl (tm_sbs [0, 1, 2, 3, 4, 5] rfl) ?_
              exact l255_81_t (fun hr => ih hr) hr
            · rw [if_neg c27] at hr
              refine tm_ifF rfl c27 ?_
              refine tm_n 1 (F' := (36, [(0, .inr (.inr x0)), (1, .inl x1), (2, .inl x2), (3, .inl x3), (4, .inl x4), (5, .inl x5)], [.inr (.inr x0)])) rfl ?_
              obtain ⟨v7, qv7, hr⟩ := Option.bind_eq_some_iff.mp hr
              refine tm_getf rfl (lf_R_V qv7) ?_
              refine tm_n 1 (F' := (41, [(0, .inr (.inr x0)), (1, .inl x1), (2, .inl x2), (3, .inl x3), (4, .inl x4), (5, .inl x5)], [.inl x5, .inr (.inr v7)])) rfl ?_
              obtain ⟨v8, qv8, hr⟩ := Option.bind_eq_some_iff.mp hr
              refine tm_ald rfl rfl (la_I_V qv8) ?_
              refine tm_n 1 (F' := (43, [(0, .inr (.inr x0)), (1, .inl x1), (2, .inl x2), (3, .inl x3), (4, .inl x4), (5, .inl x5)], [.inl x2, .inl v8])) rfl ?_
              by_cases c26 : v8 = x2
              · rw [if_pos c26] at hr
                refine tm_icF rfl (fun q => q c26) ?_
                refine tm_n 1 (F' := (47, [(0, .inr (.inr x0)), (1, .inl x1), (2, .inl x2), (3, .inl x3), (4, .inl x4), (5, .inl x5)], [.inr (.inr x0)])) rfl ?_
                obtain ⟨v9, qv9, hr⟩ := Option.bind_eq_some_iff.mp hr
                refine tm_getf rfl (lf_R_V qv9) ?_
                refine tm_n 1 (F' := (52, [(0, .inr (.inr x0)), (1, .inl x1), (2, .inl x2), (3, .inl x3), (4, .inl x4), (5, .inl x5)], [.inl x5, .inr (.inr v9)])) rfl ?_
                obtain ⟨v10, qv10, hr⟩ := Option.bind_eq_some_iff.mp hr
                refine tm_ald rfl rfl (la_I_V qv10) ?_
                refine tm_n 1 (F' := (54, [(0, .inr (.inr x0)), (1, .inl x1), (2, .inl x2), (3, .inl x3), (4, .inl x4), (5, .inl x5)], [.inl x3, .inl v10])) rfl ?_
                by_cases c25 : v10 = x3
                · rw [if_pos c25] at hr
                  refine tm_icF rfl (fun q => q c25) ?_
                  refine tm_n 1 (F' := (59, [(0, .inr (.inr x0)), (1, .inl x1), (2, .inl x2), (3, .inl x3), (4, .inl x4), (5, .inl x5)], [.inl x4])) rfl ?_
                  by_cases c24 : x4 < (0 : Int32)
                  · rw [if_pos c24] at hr
                    refine tm_ifT rfl c24 ?_
                    refine tm_cut (a := [(0, .inr (.inr x0)), (1, .inl x1), (2, .inl x2), (3, .inl x3), (5, .inl x5)]) rfl (tm_sbs [0, 1, 2, 3, 5] rfl) ?_
                    exact l255_77_t (fun hr => ih hr) hr
                  · rw [if_neg c24] at hr
                    refine tm_ifF rfl c24 ?_
                    refine tm_n 2 (F' := (65, [(0, .inr (.inr x0)), (1, .inl x1), (2, .inl x2), (3, .inl x3), (4, .inl x4), (5, .inl x5)], [.inl x5, .inr (.inr x0)])) rfl ?_
                    by_cases c11 : lc_of h5 x0 = some 10
                    · rw [if_pos c11] at hr
                      rcases lb_I_s hr with ⟨v12, h13, m14, hr⟩ | ⟨a22, h13, z23, z23l, m14, qz23, rfl⟩
                      · try dsimp only at hr
                        refine tm_call rfl rfl (tm_callV rfl rfl c11 rfl rfl) (lq_245 m14) ?_
                        refine tm_n 2 (F' := (71, [(0, .inr (.inr x0)), (1, .inl x1), (2, .inl x2), (3, .inl x3), (4, .inl x4), (5, .inl x5)], [.inl x4, .inr (.inr x0), .inl v12])) rfl ?_
                        by_cases c15 : lc_of h13 x0 = some 10
                        · rw [if_pos c15] at hr
                          rcases lb_I_s hr with ⟨v16, h17, m18, hr⟩ | ⟨a20, h17, z21, z21l, m18, qz21, rfl⟩
                          · try dsimp only at hr
                            refine tm_call rfl rfl (tm_callV rfl rfl c15 rfl rfl) (lq_245 m18) ?_
                            by_cases c19 : v12 ≤ v16
                            · rw [if_pos c19] at hr
                              refine tm_icT rfl c19 ?_
                              refine tm_cut (a := [(0, .inr (.inr x0)), (1, .inl x1), (2, .inl x2), (3, .inl x3), (4, .inl x4), (5, .inl x5)]) rfl (tm_sbs [0, 1, 2, 3, 4, 5] rfl) ?_
                              exact l255_81_t (fun hr => ih hr) hr
                            · rw [if_neg c19] at hr
                              refine tm_icF rfl c19 ?_
                              refine tm_cut (a := [(0, .inr (.inr x0)), (1, .inl x1), (2, .inl x2), (3, .inl x3), (5, .inl x5)]) rfl (tm_sbs [0, 1, 2, 3, 5] rfl) ?_
                              exact l255_77_t (fun hr => ih hr) hr
                          · exact tm_callT rfl rfl (tm_callV rfl rfl c15 rfl rfl) (lq_245 m18) qz21 rfl
                        · rw [if_neg c15] at hr
                          cases hr
                      · exact tm_callT rfl rfl (tm_callV rfl rfl c11 rfl rfl) (lq_245 m14) qz23 rfl
                    · rw [if_neg c11] at hr
                      cases hr
                · rw [if_neg c25] at hr
                  refine tm_icT rfl c25 ?_
                  refine tm_cut (a := [(0, .inr (.inr x0)), (1, .inl x1), (2, .inl x2), (3, .inl x3), (4, .inl x4), (5, .inl x5)]) rfl (tm_sbs [0, 1, 2, 3, 4, 5] rfl) ?_
                  exact l255_81_t (fun hr => ih hr) hr
              · rw [if_neg c26] at hr
                refine tm_icT rfl c26 ?_
                refine tm_cut (a := [(0, .inr (.inr x0)), (1, .inl x1), (2, .inl x2), (3, .inl x3), (4, .inl x4), (5, .inl x5)]) rfl (tm_sbs [0, 1, 2, 3, 4, 5] rfl) ?_
                exact l255_81_t (fun hr => ih hr) hr
          · exact tm_callT rfl rfl (tm_callV rfl rfl c3 rfl rfl) (lq_244 m6) qz29 rfl
        · rw [if_neg c3] at hr
          cases hr
      · rw [if_neg c30] at hr
        refine tm_icT rfl c30 ?_
        refine tm_cut (a := [(0, .inr (.inr x0)), (1, .inl x1), (2, .inl x2), (3, .inl x3), (4, .inl x4), (5, .inl x5)]) rfl (tm_sbs [0, 1, 2, 3, 4, 5] rfl) ?_
        exact l255_81_t (fun hr => ih hr) hr
set_option maxRecDepth 20000 in
def ll_255 (a0 : Option Nat) (a1 : Int32) (a2 : Int32) (a3 : Int32) (h : pm_H) : tm_L := l255_6 lf_N a0 a1 a2 a3 (-1 : Int32) (0 : Int32) h
set_option maxRecDepth 20000 in
theorem lq_255 {w : Option Nat} {d : Nat} {a0 : Option Nat} {a1 : Int32} {a2 : Int32} {a3 : Int32} {h : pm_H} {r : tm_O × pm_H} (hr : ll_255 a0 a1 a2 a3 h = some r) : tm_run pt_P (pt_G (tm_r w)) (d + 1) 255 [.inr (.inr a0), .inl a1, .inl a2, .inl a3] h r := by
  unfold ll_255 at hr
  show pm_to pt_P (pt_G (tm_r w)) (d + 1) (pt_g255, []) (tm_m (0, [(0, .inr (.inr a0)), (1, .inl a1), (2, .inl a2), (3, .inl a3)], [])) h (tm_e r)
  refine tm_n 4 (F' := (6, [(5, .inl (0 : Int32)), (4, .inl (-1 : Int32)), (0, .inr (.inr a0)), (1, .inl a1), (2, .inl a2), (3, .inl a3)], [])) rfl ?_
  refine tm_cut (a := [(0, .inr (.inr a0)), (1, .inl a1), (2, .inl a2), (3, .inl a3), (4, .inl (-1 : Int32)), (5, .inl (0 : Int32))]) rfl (tm_sbs [2, 3, 4, 5, 1, 0] rfl) ?_
  exact l255_6_t lf_N hr
-- OfficeSheetModel.takeBack(II)Z
set_option maxRecDepth 20000 in
def l254_204 (x0 : Option Nat) (x1 : Int32) (x5 : Int32) (h : pm_H) : tm_L := if lc_of h x0 = some 10 then lb_V (ll_247 x0 x1 x5 h) (fun h3 => some (.inl (some (.inl (1 : Int32))), h3)) else none
set_option maxRecDepth 20000 in
theorem l254_204_t {w : Option Nat} {d : Nat} {x0 : Option Nat} {x1 : Int32} {x5 : Int32} {h : pm_H} {r : tm_O × pm_H} (hr : l254_204 x0 x1 x5 h = some r) : pm_to pt_P (pt_G (tm_r w)) (d + 5) (pt_g254, []) (tm_m (204, [(0, .inr (.inr x0)), (1, .inl x1), (5, .inl x5)], [])) h (tm_e r) := by
  unfold l254_204 at hr
  refine tm_n 3 (F' := (208, [(0, .inr (.inr x0)), (1, .inl x1), (5, .inl x5)], [.inl x5, .inl x1, .inr (.inr x0)])) rfl ?_
  by_cases c1 : lc_of h x0 = some 10
  · rw [if_pos c1] at hr
    rcases lb_V_s hr with ⟨h3, m4, hr⟩ | ⟨a5, h3, z6, z6l, m4, qz6, rfl⟩
    · try dsimp only at hr
      refine tm_call rfl rfl (tm_callV rfl rfl c1 rfl rfl) (lq_247 m4) ?_
      refine tm_n 1 (F' := (212, [(0, .inr (.inr x0)), (1, .inl x1), (5, .inl x5)], [.inl (1 : Int32)])) rfl ?_
      cases hr
      exact tm_retI rfl rfl
    · exact tm_callT rfl rfl (tm_callV rfl rfl c1 rfl rfl) (lq_247 m4) qz6 rfl
  · rw [if_neg c1] at hr
    cases hr
set_option maxRecDepth 20000 in
def l254_178 (x0 : Option Nat) (x1 : Int32) (x2 : Int32) (x5 : Int32) (h : pm_H) : tm_L := (lf_R h x0 [10, 7]).bind fun v1 => (lf_R h x0 [10, 9]).bind fun v2 => (la_I h .iaload v2 x2).bind fun v3 => (la_S pt_P h .iastore v1 x5 (.inl v3)).bind fun h4 => (lf_R h4 x0 [10, 9]).bind fun v5 => (lf_R h4 x0 [10, 7]).bind fun v6 => (la_I h4 .iaload v6 x2).bind fun v7 => (la_S pt_P h4 .iastore v5 x5 (.inl v7)).bind fun h8 => l254_204 x0 x1 x5 h8
set_option maxRecDepth 20000 in
theorem l254_178_t {w : Option Nat} {d : Nat} {x0 : Option Nat} {x1 : Int32} {x2 : Int32} {x5 : Int32} {h : pm_H} {r : tm_O × pm_H} (hr : l254_178 x0 x1 x2 x5 h = some r) : pm_to pt_P (pt_G (tm_r w)) (d + 5) (pt_g254, []) (tm_m (178, [(0, .inr (.inr x0)), (1, .inl x1), (2, .inl x2), (5, .inl x5)], [])) h (tm_e r) := by
  unfold l254_178 at hr
  refine tm_n 1 (F' := (179, [(0, .inr (.inr x0)), (1, .inl x1), (2, .inl x2), (5, .inl x5)], [.inr (.inr x0)])) rfl ?_
  obtain ⟨v1, qv1, hr⟩ := Option.bind_eq_some_iff.mp hr
  refine tm_getf rfl (lf_R_V qv1) ?_
  refine tm_n 2 (F' := (185, [(0, .inr (.inr x0)), (1, .inl x1), (2, .inl x2), (5, .inl x5)], [.inr (.inr x0), .inl x5, .inr (.inr v1)])) rfl ?_
  obtain ⟨v2, qv2, hr⟩ := Option.bind_eq_some_iff.mp hr
  refine tm_getf rfl (lf_R_V qv2) ?_
  refine tm_n 1 (F' := (189, [(0, .inr (.inr x0)), (1, .inl x1), (2, .inl x2), (5, .inl x5)], [.inl x2, .inr (.inr v2), .inl x5, .inr (.inr v1)])) rfl ?_
  obtain ⟨v3, qv3, hr⟩ := Option.bind_eq_some_iff.mp hr
  refine tm_ald rfl rfl (la_I_V qv3) ?_
  obtain ⟨h4, qh4, hr⟩ := Option.bind_eq_some_iff.mp hr
  refine tm_ast rfl rfl qh4 ?_
  refine tm_n 1 (F' := (192, [(0, .inr (.inr x0)), (1, .inl x1), (2, .inl x2), (5, .inl x5)], [.inr (.inr x0)])) rfl ?_
  obtain ⟨v5, qv5, hr⟩ := Option.bind_eq_some_iff.mp hr
  refine tm_getf rfl (lf_R_V qv5) ?_
  refine tm_n 2 (F' := (198, [(0, .inr (.inr x0)), (1, .inl x1), (2, .inl x2), (5, .inl x5)], [.inr (.inr x0), .inl x5, .inr (.inr v5)])) rfl ?_
  obtain ⟨v6, qv6, hr⟩ := Option.bind_eq_some_iff.mp hr
  refine tm_getf rfl (lf_R_V qv6) ?_
  refine tm_n 1 (F' := (202, [(0, .inr (.inr x0)), (1, .inl x1), (2, .inl x2), (5, .inl x5)], [.inl x2, .inr (.inr v6), .inl x5, .inr (.inr v5)])) rfl ?_
  obtain ⟨v7, qv7, hr⟩ := Option.bind_eq_some_iff.mp hr
  refine tm_ald rfl rfl (la_I_V qv7) ?_
  obtain ⟨h8, qh8, hr⟩ := Option.bind_eq_some_iff.mp hr
  refine tm_ast rfl rfl qh8 ?_
  refine tm_cut (a := [(0, .inr (.inr x0)), (1, .inl x1), (5, .inl x5)]) rfl (tm_sbs [0, 1, 3] rfl) ?_
  exact l254_204_t hr
set_option maxRecDepth 20000 in
def l254_168 (x0 : Option Nat) (x1 : Int32) (x2 : Int32) (x3 : Int32) (x5 : Int32) (h : pm_H) : tm_L := if x3 = (2 : Int32) then l254_178 x0 x1 x2 x5 h else if x3 = (3 : Int32) then l254_178 x0 x1 x2 x5 h else l254_204 x0 x1 x5 h
set_option maxRecDepth 20000 in
theorem l254_168_t {w : Option Nat} {d : Nat} {x0 : Option Nat} {x1 : Int32} {x2 : Int32} {x3 : Int32} {x5 : Int32} {h : pm_H} {r : tm_O × pm_H} (hr : l254_168 x0 x1 x2 x3 x5 h = some r) : pm_to pt_P (pt_G (tm_r w)) (d + 5) (pt_g254, []) (tm_m (168, [(0, .inr (.inr x0)), (1, .inl x1), (2, .inl x2), (3, .inl x3), (5, .inl x5)], [])) h (tm_e r) := by
  unfold l254_168 at hr
  refine tm_n 2 (F' := (170, [(0, .inr (.inr x0)), (1, .inl x1), (2, .inl x2), (3, .inl x3), (5, .inl x5)], [.inl (2 : Int32), .inl x3])) rfl ?_
  by_cases c2 : x3 = (2 : Int32)
  · rw [if_pos c2] at hr
    refine tm_icT rfl c2 ?_
    refine tm_cut (a := [(0, .inr (.inr x0)), (1, .inl x1), (2, .inl x2), (5, .inl x5)]) rfl (tm_sbs [0, 1, 2, 4] rfl) ?_
    exact l254_178_t hr
  · rw [if_neg c2] at hr
    refine tm_icF rfl c2 ?_
    refine tm_n 2 (F' := (175, [(0, .inr (.inr x0)), (1, .inl x1), (2, .inl x2), (3, .inl x3), (5, .inl x5)], [.inl (3 : Int32), .inl x3])) rfl ?_
    by_cases c1 : x3 = (3 : Int32)
    · rw [if_pos c1] at hr
      refine tm_icF rfl (fun q => q c1) ?_
      refine tm_cut (a := [(0, .inr (.inr x0)), (1, .inl x1), (2, .inl x2), (5, .inl x5)]) rfl (tm_sbs [0, 1, 2, 4] rfl) ?_
      exact l254_178_t hr
    · rw [if_neg c1] at hr
      refine tm_icT rfl c1 ?_
      refine tm_cut (a := [(0, .inr (.inr x0)), (1, .inl x1), (5, .inl x5)]) rfl (tm_sbs [0, 1, 4] rfl) ?_
      exact l254_204_t hr
set_option maxRecDepth 20000 in
def l254_106 (x0 : Option Nat) (x1 : Int32) (x2 : Int32) (x3 : Int32) (s0 : Int32) (s1 : Int32) (s2 : Option Nat) (h : pm_H) : tm_L := (lf_R h x0 [10, 2]).bind fun v1 => (la_I h .iaload v1 x2).bind fun v2 => (lf_R h x0 [10, 5]).bind fun v3 => (la_I h .iaload v3 x2).bind fun v4 => if lc_of h s2 = some 10 then lb_I (ll_246 s2 s1 s0 v2 v4 h) (fun v6 h7 => if x3 = (6 : Int32) then (lf_R h7 x0 [10, 6]).bind fun v9 => (lf_R h7 x0 [10, 6]).bind fun v10 => (la_I h7 .iaload v10 x2).bind fun v11 => (la_S pt_P h7 .iastore v9 v6 (.inl v11)).bind fun h12 => (lf_R h12 x0 [10, 10]).bind fun v13 => (lf_R h12 x0 [10, 11]).bind fun v14 => (la_I h12 .iaload v14 x2).bind fun v15 => (la_S pt_P h12 .iastore v13 v6 (.inl v15)).bind fun h16 => (lf_R h16 x0 [10, 11]).bind fun v17 => (lf_R h16 x0 [10, 10]).bind fun v18 => (la_I h16 .iaload v18 x2).bind fun v19 => (la_S pt_P h16 .iastore v17 v6 (.inl v19)).bind fun h20 => l254_168 x0 x1 x2 x3 v6 h20 else l254_168 x0 x1 x2 x3 v6 h7) else none
set_option maxRecDepth 20000 in
theorem l254_106_t {w : Option Nat} {d : Nat} {x0 : Option Nat} {x1 : Int32} {x2 : Int32} {x3 : Int32} {s0 : Int32} {s1 : Int32} {s2 : Option Nat} {h : pm_H} {r : tm_O × pm_H} (hr : l254_106 x0 x1 x2 x3 s0 s1 s2 h = some r) : pm_to pt_P (pt_G (tm_r w)) (d + 5) (pt_g254, []) (tm_m (106, [(0, .inr (.inr x0)), (1, .inl x1), (2, .inl x2), (3, .inl x3)], [.inl s0, .inl s1, .inr (.inr s2)])) h (tm_e r) := by
  unfold l254_106 at hr
  refine tm_n 1 (F' := (107, [(0, .inr (.inr x0)), (1, .inl x1), (2, .inl x2), (3, .inl x3)], [.inr (.inr x0), .inl s0, .inl s1, .inr (.inr s2)])) rfl ?_
  obtain ⟨v1, qv1, hr⟩ := Option.bind_eq_some_iff.mp hr
  refine tm_getf rfl (lf_R_V qv1) ?_
  refine tm_n 1 (F' := (111, [(0, .inr (.inr x0)), (1, .inl x1), (2, .inl x2), (3, .inl x3)], [.inl x2, .inr (.inr v1), .inl s0, .inl s1, .inr (.inr s2)])) rfl ?_
  obtain ⟨v2, qv2, hr⟩ := Option.bind_eq_some_iff.mp hr
  refine tm_ald rfl rfl (la_I_V qv2) ?_
  refine tm_n 1 (F' := (113, [(0, .inr (.inr x0)), (1, .inl x1), (2, .inl x2), (3, .inl x3)], [.inr (.inr x0), .inl v2, .inl s0, .inl s1, .inr (.inr s2)])) rfl ?_
  obtain ⟨v3, qv3, hr⟩ := Option.bind_eq_some_iff.mp hr
  refine tm_getf rfl (lf_R_V qv3) ?_
  refine tm_n 1 (F' := (117, [(0, .inr (.inr x0)), (1, .inl x1), (2, .inl x2), (3, .inl x3)], [.inl x2, .inr (.inr v3), .inl v2, .inl s0, .inl s1, .inr (.inr s2)])) rfl ?_
  obtain ⟨v4, qv4, hr⟩ := Option.bind_eq_some_iff.mp hr
  refine tm_ald rfl rfl (la_I_V qv4) ?_
  by_cases c5 : lc_of h s2 = some 10
  · rw [if_pos c5] at hr
    rcases lb_I_s hr with ⟨v6, h7, m8, hr⟩ | ⟨a22, h7, z23, z23l, m8, qz23, rfl⟩
    · try dsimp only at hr
      refine tm_call rfl rfl (tm_callV rfl rfl c5 rfl rfl) (lq_246 m8) ?_
      refine tm_n 3 (F' := (126, [(5, .inl v6), (0, .inr (.inr x0)), (1, .inl x1), (2, .inl x2), (3, .inl x3)], [.inl (6 : Int32), .inl x3])) rfl ?_
      by_cases c21 : x3 = (6 : Int32)
      · rw [if_pos c21] at hr
        refine tm_icF rfl (fun q => q c21) ?_
        refine tm_n 1 (F' := (130, [(5, .inl v6), (0, .inr (.inr x0)), (1, .inl x1), (2, .inl x2), (3, .inl x3)], [.inr (.inr x0)])) rfl ?_
        obtain ⟨v9, qv9, hr⟩ := Option.bind_eq_some_iff.mp hr
        refine tm_getf rfl (lf_R_V qv9) ?_
        refine tm_n 2 (F' := (136, [(5, .inl v6), (0, .inr (.inr x0)), (1, .inl x1), (2, .inl x2), (3, .inl x3)], [.inr (.inr x0), .inl v6, .inr (.inr v9)])) rfl ?_
        obtain ⟨v10, qv10, hr⟩ := Option.bind_eq_some_iff.mp hr
        refine tm_getf rfl (lf_R_V qv10) ?_
        refine tm_n 1 (F' := (140, [(5, .inl v6), (0, .inr (.inr x0)), (1, .inl x1), (2, .inl x2), (3, .inl x3)], [.inl x2, .inr (.inr v10), .inl v6, .inr (.inr v9)])) rfl ?_
        obtain ⟨v11, qv11, hr⟩ := Option.bind_eq_some_iff.mp hr
        refine tm_ald rfl rfl (la_I_V qv11) ?_
        obtain ⟨h12, qh12, hr⟩ := Option.bind_eq_some_iff.mp hr
        refine tm_ast rfl rfl qh12 ?_
        refine tm_n 1 (F' := (143, [(5, .inl v6), (0, .inr (.inr x0)), (1, .inl x1), (2, .inl x2), (3, .inl x3)], [.inr (.inr x0)])) rfl ?_
        obtain ⟨v13, qv13, hr⟩ := Option.bind_eq_some_iff.mp hr
        refine tm_getf rfl (lf_R_V qv13) ?_
        refine tm_n 2 (F' := (149, [(5, .inl v6), (0, .inr (.inr x0)), (1, .inl x1), (2, .inl x2), (3, .inl x3)], [.inr (.inr x0), .inl v6, .inr (.inr v13)])) rfl ?_
        obtain ⟨v14, qv14, hr⟩ := Option.bind_eq_some_iff.mp hr
        refine tm_getf rfl (lf_R_V qv14) ?_
        refine tm_n 1 (F' := (153, [(5, .inl v6), (0, .inr (.inr x0)), (1, .inl x1), (2, .inl x2), (3, .inl x3)], [.inl x2, .inr (.inr v14), .inl v6, .inr (.inr v13)])) rfl ?_
        obtain ⟨v15, qv15, hr⟩ := Option.bind_eq_some_iff.mp hr
        refine tm_ald rfl rfl (la_I_V qv15) ?_
        obtain ⟨h16, qh16, hr⟩ := Option.bind_eq_some_iff.mp hr
        refine tm_ast rfl rfl qh16 ?_
        refine tm_n 1 (F' := (156, [(5, .inl v6), (0, .inr (.inr x0)), (1, .inl x1), (2, .inl x2), (3, .inl x3)], [.inr (.inr x0)])) rfl ?_
        obtain ⟨v17, qv17, hr⟩ := Option.bind_eq_some_iff.mp hr
        refine tm_getf rfl (lf_R_V qv17) ?_
        refine tm_n 2 (F' := (162, [(5, .inl v6), (0, .inr (.inr x0)), (1, .inl x1), (2, .inl x2), (3, .inl x3)], [.inr (.inr x0), .inl v6, .inr (.inr v17)])) rfl ?_
        obtain ⟨v18, qv18, hr⟩ := Option.bind_eq_some_iff.mp hr
        refine tm_getf rfl (lf_R_V qv18) ?_
        refine tm_n 1 (F' := (166, [(5, .inl v6), (0, .inr (.inr x0)), (1, .inl x1), (2, .inl x2), (3, .inl x3)], [.inl x2, .inr (.inr v18), .inl v6, .inr (.inr v17)])) rfl ?_
        obtain ⟨v19, qv19, hr⟩ := Option.bind_eq_some_iff.mp hr
        refine tm_ald rfl rfl (la_I_V qv19) ?_
        obtain ⟨h20, qh20, hr⟩ := Option.bind_eq_some_iff.mp hr
        refine tm_ast rfl rfl qh20 ?_
        refine tm_cut (a := [(0, .inr (.inr x0)), (1, .inl x1), (2, .inl x2), (3, .inl x3), (5, .inl v6)]) rfl (tm_sbs [1, 2, 3, 4, 0] rfl) ?_
        exact l254_168_t hr
      · rw [if_neg c21] at hr
        refine tm_icT rfl c21 ?_
        refine tm_cut (a := [(0, .inr (.inr x0)), (1, .inl x1), (2, .inl x2), (3, .inl x3), (5, .inl v6)]) rfl (tm_sbs [1, 2, 3, 4, 0] rfl) ?_
        exact l254_168_t hr
    · exact tm_callT rfl rfl (tm_callV rfl rfl c5 rfl rfl) (lq_246 m8) qz23 rfl
  · rw [if_neg c5] at hr
    cases hr
set_option maxRecDepth 20000 in
def l254_92 (x0 : Option Nat) (x1 : Int32) (x2 : Int32) (x3 : Int32) (s0 : Int32) (s1 : Option Nat) (h : pm_H) : tm_L := l254_106 x0 x1 x2 x3 (3 : Int32) s0 s1 h
set_option maxRecDepth 20000 in
theorem l254_92_t {w : Option Nat} {d : Nat} {x0 : Option Nat} {x1 : Int32} {x2 : Int32} {x3 : Int32} {s0 : Int32} {s1 : Option Nat} {h : pm_H} {r : tm_O × pm_H} (hr : l254_92 x0 x1 x2 x3 s0 s1 h = some r) : pm_to pt_P (pt_G (tm_r w)) (d + 5) (pt_g254, []) (tm_m (92, [(0, .inr (.inr x0)), (1, .inl x1), (2, .inl x2), (3, .inl x3)], [.inl s0, .inr (.inr s1)])) h (tm_e r) := by
  unfold l254_92 at hr
  refine tm_n 2 (F' := (106, [(0, .inr (.inr x0)), (1, .inl x1), (2, .inl x2), (3, .inl x3)], [.inl (3 : Int32), .inl s0, .inr (.inr s1)])) rfl ?_
  refine tm_cut (a := [(0, .inr (.inr x0)), (1, .inl x1), (2, .inl x2), (3, .inl x3)]) rfl (tm_sbs [0, 1, 2, 3] rfl) ?_
  exact l254_106_t hr
set_option maxRecDepth 20000 in
def l254_59 (x0 : Option Nat) (x1 : Int32) (x2 : Int32) (x3 : Int32) (s0 : Int32) (h : pm_H) : tm_L := if s0 = x2 then if x3 = (6 : Int32) then l254_106 x0 x1 x2 x3 (6 : Int32) x1 x0 h else if x3 = (2 : Int32) then l254_92 x0 x1 x2 x3 x1 x0 h else if x3 = (3 : Int32) then l254_92 x0 x1 x2 x3 x1 x0 h else if x3 = (5 : Int32) then l254_106 x0 x1 x2 x3 (4 : Int32) x1 x0 h else l254_106 x0 x1 x2 x3 (5 : Int32) x1 x0 h else some (.inl (some (.inl (0 : Int32))), h)
set_option maxRecDepth 20000 in
theorem l254_59_t {w : Option Nat} {d : Nat} {x0 : Option Nat} {x1 : Int32} {x2 : Int32} {x3 : Int32} {s0 : Int32} {h : pm_H} {r : tm_O × pm_H} (hr : l254_59 x0 x1 x2 x3 s0 h = some r) : pm_to pt_P (pt_G (tm_r w)) (d + 5) (pt_g254, []) (tm_m (59, [(0, .inr (.inr x0)), (1, .inl x1), (2, .inl x2), (3, .inl x3)], [.inl s0])) h (tm_e r) := by
  unfold l254_59 at hr
  refine tm_n 3 (F' := (64, [(4, .inl s0), (0, .inr (.inr x0)), (1, .inl x1), (2, .inl x2), (3, .inl x3)], [.inl x2, .inl s0])) rfl ?_
  by_cases c5 : s0 = x2
  · rw [if_pos c5] at hr
    refine tm_icT rfl c5 ?_
    refine tm_n 4 (F' := (74, [(4, .inl s0), (0, .inr (.inr x0)), (1, .inl x1), (2, .inl x2), (3, .inl x3)], [.inl (6 : Int32), .inl x3, .inl x1, .inr (.inr x0)])) rfl ?_
    by_cases c4 : x3 = (6 : Int32)
    · rw [if_pos c4] at hr
      refine tm_icF rfl (fun q => q c4) ?_
      refine tm_n 2 (F' := (106, [(4, .inl s0), (0, .inr (.inr x0)), (1, .inl x1), (2, .inl x2), (3, .inl x3)], [.inl (6 : Int32), .inl x1, .inr (.inr x0)])) rfl ?_
      refine tm_cut (a := [(0, .inr (.inr x0)), (1, .inl x1), (2, .inl x2), (3, .inl x3)]) rfl (tm_sbs [1, 2, 3, 4] rfl) ?_
      exact l254_106_t hr
    · rw [if_neg c4] at hr
      refine tm_icT rfl c4 ?_
      refine tm_n 2 (F' := (84, [(4, .inl s0), (0, .inr (.inr x0)), (1, .inl x1), (2, .inl x2), (3, .inl x3)], [.inl (2 : Int32), .inl x3, .inl x1, .inr (.inr x0)])) rfl ?_
      by_cases c3 : x3 = (2 : Int32)
      · rw [if_pos c3] at hr
        refine tm_icT rfl c3 ?_
        refine tm_cut (a := [(0, .inr (.inr x0)), (1, .inl x1), (2, .inl x2), (3, .inl x3)]) rfl (tm_sbs [1, 2, 3, 4] rfl) ?_
        exact l254_92_t hr
      · rw [if_neg c3] at hr
        refine tm_icF rfl c3 ?_
        refine tm_n 2 (F' := (89, [(4, .inl s0), (0, .inr (.inr x0)), (1, .inl x1), (2, .inl x2), (3, .inl x3)], [.inl (3 : Int32), .inl x3, .inl x1, .inr (.inr x0)])) rfl ?_
        by_cases c2 : x3 = (3 : Int32)
        · rw [if_pos c2] at hr
          refine tm_icF rfl (fun q => q c2) ?_
          refine tm_cut (a := [(0, .inr (.inr x0)), (1, .inl x1), (2, .inl x2), (3, .inl x3)]) rfl (tm_sbs [1, 2, 3, 4] rfl) ?_
          exact l254_92_t hr
        · rw [if_neg c2] at hr
          refine tm_icT rfl c2 ?_
          refine tm_n 2 (F' := (98, [(4, .inl s0), (0, .inr (.inr x0)), (1, .inl x1), (2, .inl x2), (3, .inl x3)], [.inl (5 : Int32), .inl x3, .inl x1, .inr (.inr x0)])) rfl ?_
          by_cases c1 : x3 = (5 : Int32)
          · rw [if_pos c1] at hr
            refine tm_icF rfl (fun q => q c1) ?_
            refine tm_n 2 (F' := (106, [(4, .inl s0), (0, .inr (.inr x0)), (1, .inl x1), (2, .inl x2), (3, .inl x3)], [.inl (4 : Int32), .inl x1, .inr (.inr x0)])) rfl ?_
            refine tm_cut (a := [(0, .inr (.inr x0)), (1, .inl x1), (2, .inl x2), (3, .inl x3)]) rfl (tm_sbs [1, 2, 3, 4] rfl) ?_
            exact l254_106_t hr
          · rw [if_neg c1] at hr
            refine tm_icT rfl c1 ?_
            refine tm_n 1 (F' := (106, [(4, .inl s0), (0, .inr (.inr x0)), (1, .inl x1), (2, .inl x2), (3, .inl x3)], [.inl (5 : Int32), .inl x1, .inr (.inr x0)])) rfl ?_
            refine tm_cut (a := [(0, .inr (.inr x0)), (1, .inl x1), (2, .inl x2), (3, .inl x3)]) rfl (tm_sbs [1, 2, 3, 4] rfl) ?_
            exact l254_106_t hr
  · rw [if_neg c5] at hr
    refine tm_icF rfl c5 ?_
    refine tm_n 1 (F' := (68, [(4, .inl s0), (0, .inr (.inr x0)), (1, .inl x1), (2, .inl x2), (3, .inl x3)], [.inl (0 : Int32)])) rfl ?_
    cases hr
    exact tm_retI rfl rfl
set_option maxRecDepth 20000 in
def l254_56 (x0 : Option Nat) (x1 : Int32) (x2 : Int32) (x3 : Int32) (s0 : Int32) (s1 : Int32) (s2 : Int32) (s3 : Option Nat) (h : pm_H) : tm_L := if lc_of h s3 = some 10 then lb_I (ll_243 s3 s2 s1 s0 h) (fun v2 h3 => l254_59 x0 x1 x2 x3 v2 h3) else none
set_option maxRecDepth 20000 in
theorem l254_56_t {w : Option Nat} {d : Nat} {x0 : Option Nat} {x1 : Int32} {x2 : Int32} {x3 : Int32} {s0 : Int32} {s1 : Int32} {s2 : Int32} {s3 : Option Nat} {h : pm_H} {r : tm_O × pm_H} (hr : l254_56 x0 x1 x2 x3 s0 s1 s2 s3 h = some r) : pm_to pt_P (pt_G (tm_r w)) (d + 5) (pt_g254, []) (tm_m (56, [(0, .inr (.inr x0)), (1, .inl x1), (2, .inl x2), (3, .inl x3)], [.inl s0, .inl s1, .inl s2, .inr (.inr s3)])) h (tm_e r) := by
  unfold l254_56 at hr
  by_cases c1 : lc_of h s3 = some 10
  · rw [if_pos c1] at hr
    rcases lb_I_s hr with ⟨v2, h3, m4, hr⟩ | ⟨a5, h3, z6, z6l, m4, qz6, rfl⟩
    · try dsimp only at hr
      refine tm_call rfl rfl (tm_callV rfl rfl c1 rfl rfl) (lq_243 m4) ?_
      refine tm_cut (a := [(0, .inr (.inr x0)), (1, .inl x1), (2, .inl x2), (3, .inl x3)]) rfl (tm_sbs [0, 1, 2, 3] rfl) ?_
      exact l254_59_t hr
    · exact tm_callT rfl rfl (tm_callV rfl rfl c1 rfl rfl) (lq_243 m4) qz6 rfl
  · rw [if_neg c1] at hr
    cases hr
set_option maxRecDepth 20000 in
def l254_51 (x0 : Option Nat) (x1 : Int32) (x2 : Int32) (x3 : Int32) (s0 : Int32) (s1 : Int32) (s2 : Option Nat) (h : pm_H) : tm_L := l254_56 x0 x1 x2 x3 (1 : Int32) s0 s1 s2 h
set_option maxRecDepth 20000 in
theorem l254_51_t {w : Option Nat} {d : Nat} {x0 : Option Nat} {x1 : Int32} {x2 : Int32} {x3 : Int32} {s0 : Int32} {s1 : Int32} {s2 : Option Nat} {h : pm_H} {r : tm_O × pm_H} (hr : l254_51 x0 x1 x2 x3 s0 s1 s2 h = some r) : pm_to pt_P (pt_G (tm_r w)) (d + 5) (pt_g254, []) (tm_m (51, [(0, .inr (.inr x0)), (1, .inl x1), (2, .inl x2), (3, .inl x3)], [.inl s0, .inl s1, .inr (.inr s2)])) h (tm_e r) := by
  unfold l254_51 at hr
  refine tm_n 2 (F' := (56, [(0, .inr (.inr x0)), (1, .inl x1), (2, .inl x2), (3, .inl x3)], [.inl (1 : Int32), .inl s0, .inl s1, .inr (.inr s2)])) rfl ?_
  refine tm_cut (a := [(0, .inr (.inr x0)), (1, .inl x1), (2, .inl x2), (3, .inl x3)]) rfl (tm_sbs [0, 1, 2, 3] rfl) ?_
  exact l254_56_t hr
set_option maxRecDepth 20000 in
def ll_254 (a0 : Option Nat) (a1 : Int32) (a2 : Int32) (h : pm_H) : tm_L := (lf_R h a0 [10, 1]).bind fun v1 => (la_I h .iaload v1 a2).bind fun v2 => if v2 = (6 : Int32) then (lf_R h a0 [10, 5]).bind fun v3 => (la_I h .iaload v3 a2).bind fun v4 => (lf_R h a0 [10, 6]).bind fun v5 => (la_I h .iaload v5 a2).bind fun v6 => if lc_of h a0 = some 10 then lb_I (ll_255 a0 a1 v4 v6 h) (fun v8 h9 => l254_59 a0 a1 a2 v2 v8 h9) else none else (lf_R h a0 [10, 5]).bind fun v13 => (la_I h .iaload v13 a2).bind fun v14 => if v2 = (2 : Int32) then l254_51 a0 a1 a2 v2 v14 a1 a0 h else if v2 = (3 : Int32) then l254_51 a0 a1 a2 v2 v14 a1 a0 h else l254_56 a0 a1 a2 v2 (0 : Int32) v14 a1 a0 h
set_option maxRecDepth 20000 in
theorem lq_254 {w : Option Nat} {d : Nat} {a0 : Option Nat} {a1 : Int32} {a2 : Int32} {h : pm_H} {r : tm_O × pm_H} (hr : ll_254 a0 a1 a2 h = some r) : tm_run pt_P (pt_G (tm_r w)) (d + 5) 254 [.inr (.inr a0), .inl a1, .inl a2] h r := by
  unfold ll_254 at hr
  show pm_to pt_P (pt_G (tm_r w)) (d + 5) (pt_g254, []) (tm_m (0, [(0, .inr (.inr a0)), (1, .inl a1), (2, .inl a2)], [])) h (tm_e r)
  refine tm_n 1 (F' := (1, [(0, .inr (.inr a0)), (1, .inl a1), (2, .inl a2)], [.inr (.inr a0)])) rfl ?_
  obtain ⟨v1, qv1, hr⟩ := Option.bind_eq_some_iff.mp hr
  refine tm_getf rfl (lf_R_V qv1) ?_
  refine tm_n 1 (F' := (5, [(0, .inr (.inr a0)), (1, .inl a1), (2, .inl a2)], [.inl a2, .inr (.inr v1)])) rfl ?_
  obtain ⟨v2, qv2, hr⟩ := Option.bind_eq_some_iff.mp hr
  refine tm_ald rfl rfl (la_I_V qv2) ?_
  refine tm_n 3 (F' := (10, [(3, .inl v2), (0, .inr (.inr a0)), (1, .inl a1), (2, .inl a2)], [.inl (6 : Int32), .inl v2])) rfl ?_
  by_cases c17 : v2 = (6 : Int32)
  · rw [if_pos c17] at hr
    refine tm_icF rfl (fun q => q c17) ?_
    refine tm_n 3 (F' := (16, [(3, .inl v2), (0, .inr (.inr a0)), (1, .inl a1), (2, .inl a2)], [.inr (.inr a0), .inl a1, .inr (.inr a0)])) rfl ?_
    obtain ⟨v3, qv3, hr⟩ := Option.bind_eq_some_iff.mp hr
    refine tm_getf rfl (lf_R_V qv3) ?_
    refine tm_n 1 (F' := (20, [(3, .inl v2), (0, .inr (.inr a0)), (1, .inl a1), (2, .inl a2)], [.inl a2, .inr (.inr v3), .inl a1, .inr (.inr a0)])) rfl ?_
    obtain ⟨v4, qv4, hr⟩ := Option.bind_eq_some_iff.mp hr
    refine tm_ald rfl rfl (la_I_V qv4) ?_
    refine tm_n 1 (F' := (22, [(3, .inl v2), (0, .inr (.inr a0)), (1, .inl a1), (2, .inl a2)], [.inr (.inr a0), .inl v4, .inl a1, .inr (.inr a0)])) rfl ?_
    obtain ⟨v5, qv5, hr⟩ := Option.bind_eq_some_iff.mp hr
    refine tm_getf rfl (lf_R_V qv5) ?_
    refine tm_n 1 (F' := (26, [(3, .inl v2), (0, .inr (.inr a0)), (1, .inl a1), (2, .inl a2)], [.inl a2, .inr (.inr v5), .inl v4, .inl a1, .inr (.inr a0)])) rfl ?_
    obtain ⟨v6, qv6, hr⟩ := Option.bind_eq_some_iff.mp hr
    refine tm_ald rfl rfl (la_I_V qv6) ?_
    by_cases c7 : lc_of h a0 = some 10
    · rw [if_pos c7] at hr
      rcases lb_I_s hr with ⟨v8, h9, m10, hr⟩ | ⟨a11, h9, z12, z12l, m10, qz12, rfl⟩
      · try dsimp only at hr
        refine tm_call rfl rfl (tm_callV rfl rfl c7 rfl rfl) (lq_255 m10) ?_
        refine tm_n 1 (F' := (59, [(3, .inl v2), (0, .inr (.inr a0)), (1, .inl a1), (2, .inl a2)], [.inl v8])) rfl ?_
        refine tm_cut (a := [(0, .inr (.inr a0)), (1, .inl a1), (2, .inl a2), (3, .inl v2)]) rfl (tm_sbs [1, 2, 3, 0] rfl) ?_
        exact l254_59_t hr
      · exact tm_callT rfl rfl (tm_callV rfl rfl c7 rfl rfl) (lq_255 m10) qz12 rfl
    · rw [if_neg c7] at hr
      cases hr
  · rw [if_neg c17] at hr
    refine tm_icT rfl c17 ?_
    refine tm_n 3 (F' := (36, [(3, .inl v2), (0, .inr (.inr a0)), (1, .inl a1), (2, .inl a2)], [.inr (.inr a0), .inl a1, .inr (.inr a0)])) rfl ?_
    obtain ⟨v13, qv13, hr⟩ := Option.bind_eq_some_iff.mp hr
    refine tm_getf rfl (lf_R_V qv13) ?_
    refine tm_n 1 (F' := (40, [(3, .inl v2), (0, .inr (.inr a0)), (1, .inl a1), (2, .inl a2)], [.inl a2, .inr (.inr v13), .inl a1, .inr (.inr a0)])) rfl ?_
    obtain ⟨v14, qv14, hr⟩ := Option.bind_eq_some_iff.mp hr
    refine tm_ald rfl rfl (la_I_V qv14) ?_
    refine tm_n 2 (F' := (43, [(3, .inl v2), (0, .inr (.inr a0)), (1, .inl a1), (2, .inl a2)], [.inl (2 : Int32), .inl v2, .inl v14, .inl a1, .inr (.inr a0)])) rfl ?_
    by_cases c16 : v2 = (2 : Int32)
    · rw [if_pos c16] at hr
      refine tm_icT rfl c16 ?_
      refine tm_cut (a := [(0, .inr (.inr a0)), (1, .inl a1), (2, .inl a2), (3, .inl v2)]) rfl (tm_sbs [1, 2, 3, 0] rfl) ?_
      exact l254_51_t hr
    · rw [if_neg c16] at hr
      refine tm_icF rfl c16 ?_
      refine tm_n 2 (F' := (48, [(3, .inl v2), (0, .inr (.inr a0)), (1, .inl a1), (2, .inl a2)], [.inl (3 : Int32), .inl v2, .inl v14, .inl a1, .inr (.inr a0)])) rfl ?_
      by_cases c15 : v2 = (3 : Int32)
      · rw [if_pos c15] at hr
        refine tm_icF rfl (fun q => q c15) ?_
        refine tm_cut (a := [(0, .inr (.inr a0)), (1, .inl a1), (2, .inl a2), (3, .inl v2)]) rfl (tm_sbs [1, 2, 3, 0] rfl) ?_
        exact l254_51_t hr
      · rw [if_neg c15] at hr
        refine tm_icT rfl c15 ?_
        refine tm_n 1 (F' := (56, [(3, .inl v2), (0, .inr (.inr a0)), (1, .inl a1), (2, .inl a2)], [.inl (0 : Int32), .inl v14, .inl a1, .inr (.inr a0)])) rfl ?_
        refine tm_cut (a := [(0, .inr (.inr a0)), (1, .inl a1), (2, .inl a2), (3, .inl v2)]) rfl (tm_sbs [1, 2, 3, 0] rfl) ?_
        exact l254_56_t hr
