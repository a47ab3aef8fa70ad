/-! lifted: 302, 313, 67, 72, 74 -/
-- OfficeSheetModel.print(III)I
set_option maxRecDepth 20000 in
def l302_239 (K187 : Option Nat → Int32 → Int32 → pm_H → tm_L) (x0 : Option Nat) (x1 : Int32) (x5 : Int32) (h : pm_H) : tm_L := K187 x0 x1 x5 h
set_option maxRecDepth 20000 in
theorem l302_239_t {w : Option Nat} {d : Nat} {K187 : Option Nat → Int32 → Int32 → pm_H → tm_L} (hK187 : ∀ {x0 : Option Nat} {x1 : Int32} {x5 : Int32}  {h : pm_H} {r : tm_O × pm_H}, K187 x0 x1 x5 h = some r → pm_to pt_P (pt_G (tm_r w)) (d + 8) (pt_g302, []) (tm_m (187, [(0, .inr (.inr x0)), (1, .inl x1), (5, .inl x5)], [])) h (tm_e r)) {x0 : Option Nat} {x1 : Int32} {x5 : Int32} {h : pm_H} {r : tm_O × pm_H} (hr : l302_239 K187 x0 x1 x5 h = some r) : pm_to pt_P (pt_G (tm_r w)) (d + 8) (pt_g302, []) (tm_m (239, [(0, .inr (.inr x0)), (1, .inl x1), (5, .inl x5)], [])) h (tm_e r) := by
  unfold l302_239 at hr
  refine tm_n 1 (F' := (187, [(0, .inr (.inr x0)), (1, .inl x1), (5, .inl x5)], [])) rfl ?_
  refine tm_cut (a := [(0, .inr (.inr x0)), (1, .inl x1), (5, .inl x5)]) rfl (tm_sbs [0, 1, 2] rfl) ?_
  exact hK187 hr
set_option maxRecDepth 20000 in
def l302_187 : Nat → Option Nat → Int32 → Int32 → pm_H → tm_L
  | 0 => fun _ _ _ _ => none
  | n + 1 => fun x0 x1 x5 h => (lf_I h x0 [10, 43]).bind fun v1 => if v1 ≤ (0 : Int32) then (lf_I h x0 [10, 39]).bind fun v2 => some (.inl (some (.inl v2)), h) else (lf_I h x0 [10, 43]).bind fun v3 => (lf_P 81 h x0 [0, 10, 43] (.inl (v3 - (1 : Int32)))).bind fun h4 => (lf_R h4 x0 [10, 42]).bind fun v5 => (lf_I h4 x0 [10, 43]).bind fun v6 => (la_I h4 .iaload v5 v6).bind fun v7 => if (0 : Int32) ≤ v7 then if lc_of h4 x0 = some 10 then lb_V (ll_305 x0 x1 x5 v7 h4) (fun h10 => l302_239 (l302_187 n) x0 x1 x5 h10) else none else if lc_of h4 x0 = some 10 then lb_V (ll_303 x0 (-v7) h4) (fun h16 => l302_239 (l302_187 n) x0 x1 x5 h16) else none
set_option maxRecDepth 20000 in
theorem l302_187_t {w : Option Nat} {d : Nat} : ∀ (n : Nat) {x0 : Option Nat} {x1 : Int32} {x5 : Int32} {h : pm_H} {r : tm_O × pm_H}, l302_187 n x0 x1 x5 h = some r → pm_to pt_P (pt_G (tm_r w)) (d + 8) (pt_g302, []) (tm_m (187, [(0, .inr (.inr x0)), (1, .inl x1), (5, .inl x5)], [])) h (tm_e r) := by
  intro n
  induction n with
  | zero => intro x0 x1 x5 h r hr; cases hr
  | succ n ih =>
    intro x0 x1 x5 h r hr
    unfold l302_187 at hr
    refine tm_n 1 (F' := (188, [(0, .inr (.inr x0)), (1, .inl x1), (5, .inl x5)], [.inr (.inr x0)])) rfl ?_
    obtain ⟨v1, qv1, hr⟩ := Option.bind_eq_some_iff.mp hr
    refine tm_getf rfl (lf_I_V qv1) ?_
    by_cases c21 : v1 ≤ (0 : Int32)
    · rw [if_pos c21] at hr
      refine tm_ifT rfl c21 ?_
      refine tm_n 1 (F' := (243, [(0, .inr (.inr x0)), (1, .inl x1), (5, .inl x5)], [.inr (.inr x0)])) rfl ?_
      obtain ⟨v2, qv2, hr⟩ := Option.bind_eq_some_iff.mp hr
      refine tm_getf rfl (lf_I_V qv2) ?_
      cases hr
      exact tm_retI rfl rfl
    · rw [if_neg c21] at hr
      refine tm_ifF rfl c21 ?_
      refine tm_n 2 (F' := (196, [(0, .inr (.inr x0)), (1, .inl x1), (5, .inl x5)], [.inr (.inr x0), .inr (.inr x0)])) rfl ?_
      obtain ⟨v3, qv3, hr⟩ := Option.bind_eq_some_iff.mp hr
      refine tm_getf rfl (lf_I_V qv3) ?_
      refine tm_n 2 (F' := (201, [(0, .inr (.inr x0)), (1, .inl x1), (5, .inl x5)], [.inl (v3 - (1 : Int32)), .inr (.inr x0)])) rfl ?_
      obtain ⟨h4, qh4, hr⟩ := Option.bind_eq_some_iff.mp hr
      refine tm_putf rfl qh4 ?_
      refine tm_n 1 (F' := (205, [(0, .inr (.inr x0)), (1, .inl x1), (5, .inl x5)], [.inr (.inr x0)])) rfl ?_
      obtain ⟨v5, qv5, hr⟩ := Option.bind_eq_some_iff.mp hr
      refine tm_getf rfl (lf_R_V qv5) ?_
      refine tm_n 1 (F' := (209, [(0, .inr (.inr x0)), (1, .inl x1), (5, .inl x5)], [.inr (.inr x0), .inr (.inr v5)])) rfl ?_
      obtain ⟨v6, qv6, hr⟩ := Option.bind_eq_some_iff.mp hr
      refine tm_getf rfl (lf_I_V qv6) ?_
      obtain ⟨v7, qv7, hr⟩ := Option.bind_eq_some_iff.mp hr
      refine tm_ald rfl rfl (la_I_V qv7) ?_
      refine tm_n 2 (F' := (217, [(6, .inl v7), (0, .inr (.inr x0)), (1, .inl x1), (5, .inl x5)], [.inl v7])) rfl ?_
      by_cases c20 : (0 : Int32) ≤ v7
      · rw [if_pos c20] at hr
        refine tm_ifT rfl c20 ?_
        refine tm_n 4 (F' := (236, [(6, .inl v7), (0, .inr (.inr x0)), (1, .inl x1), (5, .inl x5)], [.inl v7, .inl x5, .inl x1, .inr (.inr x0)])) rfl ?_
        by_cases c8 : lc_of h4 x0 = some 10
        · rw [if_pos c8] at hr
          rcases lb_V_s hr with ⟨h10, m11, hr⟩ | ⟨a12, h10, z13, z13l, m11, qz13, rfl⟩
          · try dsimp only at hr
            refine tm_call rfl rfl (tm_callV rfl rfl c8 rfl rfl) (lq_305 m11) ?_
            refine tm_cut (a := [(0, .inr (.inr x0)), (1, .inl x1), (5, .inl x5)]) rfl (tm_sbs [1, 2, 3] rfl) ?_
            exact l302_239_t (fun hr => ih hr) hr
          · exact tm_callT rfl rfl (tm_callV rfl rfl c8 rfl rfl) (lq_305 m11) qz13 rfl
        · rw [if_neg c8] at hr
          cases hr
      · rw [if_neg c20] at hr
        refine tm_ifF rfl c20 ?_
        refine tm_n 3 (F' := (224, [(6, .inl v7), (0, .inr (.inr x0)), (1, .inl x1), (5, .inl x5)], [.inl (-v7), .inr (.inr x0)])) rfl ?_
        by_cases c14 : lc_of h4 x0 = some 10
        · rw [if_pos c14] at hr
          rcases lb_V_s hr with ⟨h16, m17, hr⟩ | ⟨a18, h16, z19, z19l, m17, qz19, rfl⟩
          · try dsimp only at hr
            refine tm_call rfl rfl (tm_callV rfl rfl c14 rfl rfl) (lq_303 m17) ?_
            refine tm_n 1 (F' := (239, [(6, .inl v7), (0, .inr (.inr x0)), (1, .inl x1), (5, .inl x5)], [])) rfl ?_
            refine tm_cut (a := [(0, .inr (.inr x0)), (1, .inl x1), (5, .inl x5)]) rfl (tm_sbs [1, 2, 3] rfl) ?_
            exact l302_239_t (fun hr => ih hr) hr
          · exact tm_callT rfl rfl (tm_callV rfl rfl c14 rfl rfl) (lq_303 m17) qz19 rfl
        · rw [if_neg c14] at hr
          cases hr
set_option maxRecDepth 20000 in
def l302_147 (K66 : Option Nat → Int32 → Int32 → Int32 → pm_H → tm_L) (x0 : Option Nat) (x1 : Int32) (x5 : Int32) (x6 : Int32) (x8 : Int32) (s0 : Int32) (h : pm_H) : tm_L := (lf_R h x0 [10, 41]).bind fun v1 => (la_S pt_P h .iastore v1 x6 (.inl (((1 : Int32) + x8) + s0))).bind fun h2 => K66 x0 x1 x5 (x6 + (1 : Int32)) h2
set_option maxRecDepth 20000 in
theorem l302_147_t {w : Option Nat} {d : Nat} {K66 : Option Nat → Int32 → Int32 → Int32 → pm_H → tm_L} (hK66 : ∀ {x0 : Option Nat} {x1 : Int32} {x5 : Int32} {x6 : Int32}  {h : pm_H} {r : tm_O × pm_H}, K66 x0 x1 x5 x6 h = some r → pm_to pt_P (pt_G (tm_r w)) (d + 8) (pt_g302, []) (tm_m (66, [(0, .inr (.inr x0)), (1, .inl x1), (5, .inl x5), (6, .inl x6)], [])) h (tm_e r)) {x0 : Option Nat} {x1 : Int32} {x5 : Int32} {x6 : Int32} {x8 : Int32} {s0 : Int32} {h : pm_H} {r : tm_O × pm_H} (hr : l302_147 K66 x0 x1 x5 x6 x8 s0 h = some r) : pm_to pt_P (pt_G (tm_r w)) (d + 8) (pt_g302, []) (tm_m (147, [(0, .inr (.inr x0)), (1, .inl x1), (5, .inl x5), (6, .inl x6), (8, .inl x8)], [.inl s0])) h (tm_e r) := by
  unfold l302_147 at hr
  refine tm_n 2 (F' := (150, [(9, .inl s0), (0, .inr (.inr x0)), (1, .inl x1), (5, .inl x5), (6, .inl x6), (8, .inl x8)], [.inr (.inr x0)])) rfl ?_
  obtain ⟨v1, qv1, hr⟩ := Option.bind_eq_some_iff.mp hr
  refine tm_getf rfl (lf_R_V qv1) ?_
  refine tm_n 6 (F' := (162, [(9, .inl s0), (0, .inr (.inr x0)), (1, .inl x1), (5, .inl x5), (6, .inl x6), (8, .inl x8)], [.inl (((1 : Int32) + x8) + s0), .inl x6, .inr (.inr v1)])) rfl ?_
  obtain ⟨h2, qh2, hr⟩ := Option.bind_eq_some_iff.mp hr
  refine tm_ast rfl rfl qh2 ?_
  refine tm_n 2 (F' := (66, [(6, .inl (x6 + (1 : Int32))), (9, .inl s0), (0, .inr (.inr x0)), (1, .inl x1), (5, .inl x5), (8, .inl x8)], [])) rfl ?_
  refine tm_cut (a := [(0, .inr (.inr x0)), (1, .inl x1), (5, .inl x5), (6, .inl (x6 + (1 : Int32)))]) rfl (tm_sbs [2, 3, 4, 0] rfl) ?_
  exact hK66 hr
set_option maxRecDepth 20000 in
def l302_131 (K66 : Option Nat → Int32 → Int32 → Int32 → pm_H → tm_L) (x0 : Option Nat) (x1 : Int32) (x5 : Int32) (x6 : Int32) (x8 : Int32) (h : pm_H) : tm_L := l302_147 K66 x0 x1 x5 x6 x8 (0 : Int32) h
set_option maxRecDepth 20000 in
theorem l302_131_t {w : Option Nat} {d : Nat} {K66 : Option Nat → Int32 → Int32 → Int32 → pm_H → tm_L} (hK66 : ∀ {x0 : Option Nat} {x1 : Int32} {x5 : Int32} {x6 : Int32}  {h : pm_H} {r : tm_O × pm_H}, K66 x0 x1 x5 x6 h = some r → pm_to pt_P (pt_G (tm_r w)) (d + 8) (pt_g302, []) (tm_m (66, [(0, .inr (.inr x0)), (1, .inl x1), (5, .inl x5), (6, .inl x6)], [])) h (tm_e r)) {x0 : Option Nat} {x1 : Int32} {x5 : Int32} {x6 : Int32} {x8 : Int32} {h : pm_H} {r : tm_O × pm_H} (hr : l302_131 K66 x0 x1 x5 x6 x8 h = some r) : pm_to pt_P (pt_G (tm_r w)) (d + 8) (pt_g302, []) (tm_m (131, [(0, .inr (.inr x0)), (1, .inl x1), (5, .inl x5), (6, .inl x6), (8, .inl x8)], [])) h (tm_e r) := by
  unfold l302_131 at hr
  refine tm_n 2 (F' := (147, [(0, .inr (.inr x0)), (1, .inl x1), (5, .inl x5), (6, .inl x6), (8, .inl x8)], [.inl (0 : Int32)])) rfl ?_
  refine tm_cut (a := [(0, .inr (.inr x0)), (1, .inl x1), (5, .inl x5), (6, .inl x6), (8, .inl x8)]) rfl (tm_sbs [0, 1, 2, 3, 4] rfl) ?_
  exact l302_147_t hK66 hr
set_option maxRecDepth 20000 in
def l302_114 (K66 : Option Nat → Int32 → Int32 → Int32 → pm_H → tm_L) (x0 : Option Nat) (x1 : Int32) (x5 : Int32) (x6 : Int32) (x7 : Int32) (s0 : Int32) (h : pm_H) : tm_L := lb_I (ll_277 x7 h) (fun v1 h2 => if v1 = (0 : Int32) then l302_131 K66 x0 x1 x5 x6 s0 h2 else if x7 = (126 : Int32) then l302_131 K66 x0 x1 x5 x6 s0 h2 else (lf_R h2 x0 [10, 41]).bind fun v4 => (la_I h2 .iaload v4 ((x6 - (1 : Int32)) - s0)).bind fun v5 => l302_147 K66 x0 x1 x5 x6 s0 v5 h2)
set_option maxRecDepth 20000 in
theorem l302_114_t {w : Option Nat} {d : Nat} {K66 : Option Nat → Int32 → Int32 → Int32 → pm_H → tm_L} (hK66 : ∀ {x0 : Option Nat} {x1 : Int32} {x5 : Int32} {x6 : Int32}  {h : pm_H} {r : tm_O × pm_H}, K66 x0 x1 x5 x6 h = some r → pm_to pt_P (pt_G (tm_r w)) (d + 8) (pt_g302, []) (tm_m (66, [(0, .inr (.inr x0)), (1, .inl x1), (5, .inl x5), (6, .inl x6)], [])) h (tm_e r)) {x0 : Option Nat} {x1 : Int32} {x5 : Int32} {x6 : Int32} {x7 : Int32} {s0 : Int32} {h : pm_H} {r : tm_O × pm_H} (hr : l302_114 K66 x0 x1 x5 x6 x7 s0 h = some r) : pm_to pt_P (pt_G (tm_r w)) (d + 8) (pt_g302, []) (tm_m (114, [(0, .inr (.inr x0)), (1, .inl x1), (5, .inl x5), (6, .inl x6), (7, .inl x7)], [.inl s0])) h (tm_e r) := by
  unfold l302_114 at hr
  refine tm_n 2 (F' := (118, [(8, .inl s0), (0, .inr (.inr x0)), (1, .inl x1), (5, .inl x5), (6, .inl x6), (7, .inl x7)], [.inl x7])) rfl ?_
  rcases lb_I_s hr with ⟨v1, h2, m3, hr⟩ | ⟨a8, h2, z9, z9l, m3, qz9, rfl⟩
  · try dsimp only at hr
    refine tm_call rfl rfl (tm_callS rfl rfl) (lq_277 m3) ?_
    by_cases c7 : v1 = (0 : Int32)
    · rw [if_pos c7] at hr
      refine tm_ifT rfl c7 ?_
      refine tm_cut (a := [(0, .inr (.inr x0)), (1, .inl x1), (5, .inl x5), (6, .inl x6), (8, .inl s0)]) rfl (tm_sbs [1, 2, 3, 4, 0] rfl) ?_
      exact l302_131_t hK66 hr
    · rw [if_neg c7] at hr
      refine tm_ifF rfl c7 ?_
      refine tm_n 2 (F' := (128, [(8, .inl s0), (0, .inr (.inr x0)), (1, .inl x1), (5, .inl x5), (6, .inl x6), (7, .inl x7)], [.inl (126 : Int32), .inl x7])) rfl ?_
      by_cases c6 : x7 = (126 : Int32)
      · rw [if_pos c6] at hr
        refine tm_icF rfl (fun q => q c6) ?_
        refine tm_cut (a := [(0, .inr (.inr x0)), (1, .inl x1), (5, .inl x5), (6, .inl x6), (8, .inl s0)]) rfl (tm_sbs [1, 2, 3, 4, 0] rfl) ?_
        exact l302_131_t hK66 hr
      · rw [if_neg c6] at hr
        refine tm_icT rfl c6 ?_
        refine tm_n 1 (F' := (136, [(8, .inl s0), (0, .inr (.inr x0)), (1, .inl x1), (5, .inl x5), (6, .inl x6), (7, .inl x7)], [.inr (.inr x0)])) rfl ?_
        obtain ⟨v4, qv4, hr⟩ := Option.bind_eq_some_iff.mp hr
        refine tm_getf rfl (lf_R_V qv4) ?_
        refine tm_n 5 (F' := (146, [(8, .inl s0), (0, .inr (.inr x0)), (1, .inl x1), (5, .inl x5), (6, .inl x6), (7, .inl x7)], [.inl ((x6 - (1 : Int32)) - s0), .inr (.inr v4)])) rfl ?_
        obtain ⟨v5, qv5, hr⟩ := Option.bind_eq_some_iff.mp hr
        refine tm_ald rfl rfl (la_I_V qv5) ?_
        refine tm_cut (a := [(0, .inr (.inr x0)), (1, .inl x1), (5, .inl x5), (6, .inl x6), (8, .inl s0)]) rfl (tm_sbs [1, 2, 3, 4, 0] rfl) ?_
        exact l302_147_t hK66 hr
  · exact tm_callT rfl rfl (tm_callS rfl rfl) (lq_277 m3) qz9 rfl
set_option maxRecDepth 20000 in
def l302_66 : Nat → Option Nat → Int32 → Int32 → Int32 → pm_H → tm_L
  | 0 => fun _ _ _ _ _ => none
  | n + 1 => fun x0 x1 x5 x6 h => (lf_R h x0 [10, 13]).bind fun v1 => (la_I h .iaload v1 x5).bind fun v2 => if v2 ≤ x6 then (lf_P 81 h x0 [0, 10, 43] (.inl (0 : Int32))).bind fun h3 => (lf_R h3 x0 [10, 13]).bind fun v4 => (la_I h3 .iaload v4 x5).bind fun v5 => if lc_of h3 x0 = some 10 then lb_V (ll_304 x0 (v5 - (1 : Int32)) h3) (fun h8 => l302_187 lf_N x0 x1 x5 h8) else none else (lf_R h x0 [10, 14]).bind fun v12 => (la_I h .iaload v12 (((20 : Int32) * x5) + x6)).bind fun v13 => lb_I (ll_277 v13 h) (fun v14 h15 => if v14 = (0 : Int32) then l302_114 (l302_66 n) x0 x1 x5 x6 v13 (0 : Int32) h15 else (lf_R h15 x0 [10, 41]).bind fun v17 => (la_I h15 .iaload v17 (x6 - (1 : Int32))).bind fun v18 => l302_114 (l302_66 n) x0 x1 x5 x6 v13 v18 h15)
set_option maxRecDepth 20000 in
theorem l302_66_t {w : Option Nat} {d : Nat} : ∀ (n : Nat) {x0 : Option Nat} {x1 : Int32} {x5 : Int32} {x6 : Int32} {h : pm_H} {r : tm_O × pm_H}, l302_66 n x0 x1 x5 x6 h = some r → pm_to pt_P (pt_G (tm_r w)) (d + 8) (pt_g302, []) (tm_m (66, [(0, .inr (.inr x0)), (1, .inl x1), (5, .inl x5), (6, .inl x6)], [])) h (tm_e r) := by
  intro n
  induction n with
  | zero => intro x0 x1 x5 x6 h r hr; cases hr
  | succ n ih =>
    intro x0 x1 x5 x6 h r hr
    unfold l302_66 at hr
    refine tm_n 2 (F' := (69, [(0, .inr (.inr x0)), (1, .inl x1), (5, .inl x5), (6, .inl x6)], [.inr (.inr x0), .inl x6])) rfl ?_
    obtain ⟨v1, qv1, hr⟩ := Option.bind_eq_some_iff.mp hr
    refine tm_getf rfl (lf_R_V qv1) ?_
    refine tm_n 1 (F' := (74, [(0, .inr (.inr x0)), (1, .inl x1), (5, .inl x5), (6, .inl x6)], [.inl x5, .inr (.inr v1), .inl x6])) rfl ?_
    obtain ⟨v2, qv2, hr⟩ := Option.bind_eq_some_iff.mp hr
    refine tm_ald rfl rfl (la_I_V qv2) ?_
    by_cases c22 : v2 ≤ x6
    · rw [if_pos c22] at hr
      refine tm_icT rfl c22 ?_
      refine tm_n 2 (F' := (171, [(0, .inr (.inr x0)), (1, .inl x1), (5, .inl x5), (6, .inl x6)], [.inl (0 : Int32), .inr (.inr x0)])) rfl ?_
      obtain ⟨h3, qh3, hr⟩ := Option.bind_eq_some_iff.mp hr
      refine tm_putf rfl qh3 ?_
      refine tm_n 2 (F' := (176, [(0, .inr (.inr x0)), (1, .inl x1), (5, .inl x5), (6, .inl x6)], [.inr (.inr x0), .inr (.inr x0)])) rfl ?_
      obtain ⟨v4, qv4, hr⟩ := Option.bind_eq_some_iff.mp hr
      refine tm_getf rfl (lf_R_V qv4) ?_
      refine tm_n 1 (F' := (181, [(0, .inr (.inr x0)), (1, .inl x1), (5, .inl x5), (6, .inl x6)], [.inl x5, .inr (.inr v4), .inr (.inr x0)])) rfl ?_
      obtain ⟨v5, qv5, hr⟩ := Option.bind_eq_some_iff.mp hr
      refine tm_ald rfl rfl (la_I_V qv5) ?_
      refine tm_n 2 (F' := (184, [(0, .inr (.inr x0)), (1, .inl x1), (5, .inl x5), (6, .inl x6)], [.inl (v5 - (1 : Int32)), .inr (.inr x0)])) rfl ?_
      by_cases c6 : lc_of h3 x0 = some 10
      · rw [if_pos c6] at hr
        rcases lb_V_s hr with ⟨h8, m9, hr⟩ | ⟨a10, h8, z11, z11l, m9, qz11, rfl⟩
        · try dsimp only at hr
          refine tm_call rfl rfl (tm_callV rfl rfl c6 rfl rfl) (lq_304 m9) ?_
          refine tm_cut (a := [(0, .inr (.inr x0)), (1, .inl x1), (5, .inl x5)]) rfl (tm_sbs [0, 1, 2] rfl) ?_
          exact l302_187_t lf_N hr
        · exact tm_callT rfl rfl (tm_callV rfl rfl c6 rfl rfl) (lq_304 m9) qz11 rfl
      · rw [if_neg c6] at hr
        cases hr
    · rw [if_neg c22] at hr
      refine tm_icF rfl c22 ?_
      refine tm_n 1 (F' := (79, [(0, .inr (.inr x0)), (1, .inl x1), (5, .inl x5), (6, .inl x6)], [.inr (.inr x0)])) rfl ?_
      obtain ⟨v12, qv12, hr⟩ := Option.bind_eq_some_iff.mp hr
      refine tm_getf rfl (lf_R_V qv12) ?_
      refine tm_n 5 (F' := (90, [(0, .inr (.inr x0)), (1, .inl x1), (5, .inl x5), (6, .inl x6)], [.inl (((20 : Int32) * x5) + x6), .inr (.inr v12)])) rfl ?_
      obtain ⟨v13, qv13, hr⟩ := Option.bind_eq_some_iff.mp hr
      refine tm_ald rfl rfl (la_I_V qv13) ?_
      refine tm_n 2 (F' := (95, [(7, .inl v13), (0, .inr (.inr x0)), (1, .inl x1), (5, .inl x5), (6, .inl x6)], [.inl v13])) rfl ?_
      rcases lb_I_s hr with ⟨v14, h15, m16, hr⟩ | ⟨a20, h15, z21, z21l, m16, qz21, rfl⟩
      · try dsimp only at hr
        refine tm_call rfl rfl (tm_callS rfl rfl) (lq_277 m16) ?_
        by_cases c19 : v14 = (0 : Int32)
        · rw [if_pos c19] at hr
          refine tm_ifF rfl (fun q => q c19) ?_
          refine tm_n 2 (F' := (114, [(7, .inl v13), (0, .inr (.inr x0)), (1, .inl x1), (5, .inl x5), (6, .inl x6)], [.inl (0 : Int32)])) rfl ?_
          refine tm_cut (a := [(0, .inr (.inr x0)), (1, .inl x1), (5, .inl x5), (6, .inl x6), (7, .inl v13)]) rfl (tm_sbs [1, 2, 3, 4, 0] rfl) ?_
          exact l302_114_t (fun hr => ih hr) hr
        · rw [if_neg c19] at hr
          refine tm_ifT rfl c19 ?_
          refine tm_n 1 (F' := (106, [(7, .inl v13), (0, .inr (.inr x0)), (1, .inl x1), (5, .inl x5), (6, .inl x6)], [.inr (.inr x0)])) rfl ?_
          obtain ⟨v17, qv17, hr⟩ := Option.bind_eq_some_iff.mp hr
          refine tm_getf rfl (lf_R_V qv17) ?_
          refine tm_n 3 (F' := (113, [(7, .inl v13), (0, .inr (.inr x0)), (1, .inl x1), (5, .inl x5), (6, .inl x6)], [.inl (x6 - (1 : Int32)), .inr (.inr v17)])) rfl ?_
          obtain ⟨v18, qv18, hr⟩ := Option.bind_eq_some_iff.mp hr
          refine tm_ald rfl rfl (la_I_V qv18) ?_
          refine tm_cut (a := [(0, .inr (.inr x0)), (1, .inl x1), (5, .inl x5), (6, .inl x6), (7, .inl v13)]) rfl (tm_sbs [1, 2, 3, 4, 0] rfl) ?_
          exact l302_114_t (fun hr => ih hr) hr
      · exact tm_callT rfl rfl (tm_callS rfl rfl) (lq_277 m16) qz21 rfl
set_option maxRecDepth 20000 in
def l302_63 (x0 : Option Nat) (x1 : Int32) (x5 : Int32) (h : pm_H) : tm_L := l302_66 lf_N x0 x1 x5 (0 : Int32) h
set_option maxRecDepth 20000 in
theorem l302_63_t {w : Option Nat} {d : Nat} {x0 : Option Nat} {x1 : Int32} {x5 : Int32} {h : pm_H} {r : tm_O × pm_H} (hr : l302_63 x0 x1 x5 h = some r) : pm_to pt_P (pt_G (tm_r w)) (d + 8) (pt_g302, []) (tm_m (63, [(0, .inr (.inr x0)), (1, .inl x1), (5, .inl x5)], [])) h (tm_e r) := by
  unfold l302_63 at hr
  refine tm_n 2 (F' := (66, [(6, .inl (0 : Int32)), (0, .inr (.inr x0)), (1, .inl x1), (5, .inl x5)], [])) rfl ?_
  refine tm_cut (a := [(0, .inr (.inr x0)), (1, .inl x1), (5, .inl x5), (6, .inl (0 : Int32))]) rfl (tm_sbs [1, 2, 3, 0] rfl) ?_
  exact l302_66_t lf_N hr
set_option maxRecDepth 20000 in
def l302_38 (x0 : Option Nat) (x1 : Int32) (s0 : Int32) (h : pm_H) : tm_L := if (0 : Int32) ≤ s0 then (lf_R h x0 [10, 12]).bind fun v1 => (la_I h .baload v1 s0).bind fun v2 => if v2 = (0 : Int32) then l302_63 x0 x1 s0 h else if lc_of h x0 = some 10 then lb_V (ll_303 x0 (61 : Int32) h) (fun h5 => l302_63 x0 x1 s0 h5) else none else some (.inl (some (.inl (0 : Int32))), h)
set_option maxRecDepth 20000 in
theorem l302_38_t {w : Option Nat} {d : Nat} {x0 : Option Nat} {x1 : Int32} {s0 : Int32} {h : pm_H} {r : tm_O × pm_H} (hr : l302_38 x0 x1 s0 h = some r) : pm_to pt_P (pt_G (tm_r w)) (d + 8) (pt_g302, []) (tm_m (38, [(0, .inr (.inr x0)), (1, .inl x1)], [.inl s0])) h (tm_e r) := by
  unfold l302_38 at hr
  refine tm_n 2 (F' := (42, [(5, .inl s0), (0, .inr (.inr x0)), (1, .inl x1)], [.inl s0])) rfl ?_
  by_cases c10 : (0 : Int32) ≤ s0
  · rw [if_pos c10] at hr
    refine tm_ifT rfl c10 ?_
    refine tm_n 1 (F' := (48, [(5, .inl s0), (0, .inr (.inr x0)), (1, .inl x1)], [.inr (.inr x0)])) rfl ?_
    obtain ⟨v1, qv1, hr⟩ := Option.bind_eq_some_iff.mp hr
    refine tm_getf rfl (lf_R_V qv1) ?_
    refine tm_n 1 (F' := (53, [(5, .inl s0), (0, .inr (.inr x0)), (1, .inl x1)], [.inl s0, .inr (.inr v1)])) rfl ?_
    obtain ⟨v2, qv2, hr⟩ := Option.bind_eq_some_iff.mp hr
    refine tm_ald rfl rfl (la_I_V qv2) ?_
    by_cases c9 : v2 = (0 : Int32)
    · rw [if_pos c9] at hr
      refine tm_ifT rfl c9 ?_
      refine tm_cut (a := [(0, .inr (.inr x0)), (1, .inl x1), (5, .inl s0)]) rfl (tm_sbs [1, 2, 0] rfl) ?_
      exact l302_63_t hr
    · rw [if_neg c9] at hr
      refine tm_ifF rfl c9 ?_
      refine tm_n 2 (F' := (60, [(5, .inl s0), (0, .inr (.inr x0)), (1, .inl x1)], [.inl (61 : Int32), .inr (.inr x0)])) rfl ?_
      by_cases c3 : lc_of h x0 = some 10
      · rw [if_pos c3] at hr
        rcases lb_V_s hr with ⟨h5, m6, hr⟩ | ⟨a7, h5, z8, z8l, m6, qz8, rfl⟩
        · try dsimp only at hr
          refine tm_call rfl rfl (tm_callV rfl rfl c3 rfl rfl) (lq_303 m6) ?_
          refine tm_cut (a := [(0, .inr (.inr x0)), (1, .inl x1), (5, .inl s0)]) rfl (tm_sbs [1, 2, 0] rfl) ?_
          exact l302_63_t hr
        · exact tm_callT rfl rfl (tm_callV rfl rfl c3 rfl rfl) (lq_303 m6) qz8 rfl
      · rw [if_neg c3] at hr
        cases hr
  · rw [if_neg c10] at hr
    refine tm_ifF rfl c10 ?_
    refine tm_n 1 (F' := (46, [(5, .inl s0), (0, .inr (.inr x0)), (1, .inl x1)], [.inl (0 : Int32)])) rfl ?_
    cases hr
    exact tm_retI rfl rfl
set_option maxRecDepth 20000 in
def ll_302 (a0 : Option Nat) (a1 : Int32) (a2 : Int32) (a3 : Int32) (h : pm_H) : tm_L := if lc_of h a0 = some 10 then lb_I (ll_280 a0 a1 a2 a3 h) (fun v2 h3 => (lf_I h3 a0 [10, 0]).bind fun v5 => if v5 ≤ (0 : Int32) then (lf_P 81 h3 a0 [0, 10, 39] (.inl (0 : Int32))).bind fun h6 => if (0 : Int32) ≤ v2 then if lc_of h6 a0 = some 10 then lb_I (ll_285 a0 v2 h6) (fun v8 h9 => l302_38 a0 a1 v8 h9) else none else l302_38 a0 a1 (-1 : Int32) h6 else some (.inl (some (.inl (0 : Int32))), h3)) else none
set_option maxRecDepth 20000 in
theorem lq_302 {w : Option Nat} {d : Nat} {a0 : Option Nat} {a1 : Int32} {a2 : Int32} {a3 : Int32} {h : pm_H} {r : tm_O × pm_H} (hr : ll_302 a0 a1 a2 a3 h = some r) : tm_run pt_P (pt_G (tm_r w)) (d + 8) 302 [.inr (.inr a0), .inl a1, .inl a2, .inl a3] h r := by
  unfold ll_302 at hr
  show pm_to pt_P (pt_G (tm_r w)) (d + 8) (pt_g302, []) (tm_m (0, [(0, .inr (.inr a0)), (1, .inl a1), (2, .inl a2), (3, .inl a3)], [])) h (tm_e r)
  refine tm_n 4 (F' := (4, [(0, .inr (.inr a0)), (1, .inl a1), (2, .inl a2), (3, .inl a3)], [.inl a3, .inl a2, .inl a1, .inr (.inr a0)])) rfl ?_
  by_cases c1 : lc_of h a0 = some 10
  · rw [if_pos c1] at hr
    rcases lb_I_s hr with ⟨v2, h3, m4, hr⟩ | ⟨a15, h3, z16, z16l, m4, qz16, rfl⟩
    · try dsimp only at hr
      refine tm_call rfl rfl (tm_callV rfl rfl c1 rfl rfl) (lq_280 m4) ?_
      refine tm_n 2 (F' := (10, [(4, .inl v2), (0, .inr (.inr a0)), (1, .inl a1), (2, .inl a2), (3, .inl a3)], [.inr (.inr a0)])) rfl ?_
      obtain ⟨v5, qv5, hr⟩ := Option.bind_eq_some_iff.mp hr
      refine tm_getf rfl (lf_I_V qv5) ?_
      by_cases c14 : v5 ≤ (0 : Int32)
      · rw [if_pos c14] at hr
        refine tm_ifT rfl c14 ?_
        refine tm_n 2 (F' := (20, [(4, .inl v2), (0, .inr (.inr a0)), (1, .inl a1), (2, .inl a2), (3, .inl a3)], [.inl (0 : Int32), .inr (.inr a0)])) rfl ?_
        obtain ⟨h6, qh6, hr⟩ := Option.bind_eq_some_iff.mp hr
        refine tm_putf rfl qh6 ?_
        refine tm_n 1 (F' := (25, [(4, .inl v2), (0, .inr (.inr a0)), (1, .inl a1), (2, .inl a2), (3, .inl a3)], [.inl v2])) rfl ?_
        by_cases c13 : (0 : Int32) ≤ v2
        · rw [if_pos c13] at hr
          refine tm_ifT rfl c13 ?_
          refine tm_n 2 (F' := (35, [(4, .inl v2), (0, .inr (.inr a0)), (1, .inl a1), (2, .inl a2), (3, .inl a3)], [.inl v2, .inr (.inr a0)])) rfl ?_
          by_cases c7 : lc_of h6 a0 = some 10
          · rw [if_pos c7] at hr
            rcases lb_I_s hr with ⟨v8, h9, m10, hr⟩ | ⟨a11, h9, z12, z12l, m10, qz12, rfl⟩
            · try dsimp only at hr
              refine tm_call rfl rfl (tm_callV rfl rfl c7 rfl rfl) (lq_285 m10) ?_
              refine tm_cut (a := [(0, .inr (.inr a0)), (1, .inl a1)]) rfl (tm_sbs [1, 2] rfl) ?_
              exact l302_38_t hr
            · exact tm_callT rfl rfl (tm_callV rfl rfl c7 rfl rfl) (lq_285 m10) qz12 rfl
          · rw [if_neg c7] at hr
            cases hr
        · rw [if_neg c13] at hr
          refine tm_ifF rfl c13 ?_
          refine tm_n 2 (F' := (38, [(4, .inl v2), (0, .inr (.inr a0)), (1, .inl a1), (2, .inl a2), (3, .inl a3)], [.inl (-1 : Int32)])) rfl ?_
          refine tm_cut (a := [(0, .inr (.inr a0)), (1, .inl a1)]) rfl (tm_sbs [1, 2] rfl) ?_
          exact l302_38_t hr
      · rw [if_neg c14] at hr
        refine tm_ifF rfl c14 ?_
        refine tm_n 1 (F' := (17, [(4, .inl v2), (0, .inr (.inr a0)), (1, .inl a1), (2, .inl a2), (3, .inl a3)], [.inl (0 : Int32)])) rfl ?_
        cases hr
        exact tm_retI rfl rfl
    · exact tm_callT rfl rfl (tm_callV rfl rfl c1 rfl rfl) (lq_280 m4) qz16 rfl
  · rw [if_neg c1] at hr
    cases hr
-- OfficeSheetModel.out(I)I
set_option maxRecDepth 20000 in
def l313_18 (x0 : Option Nat) (x1 : Int32) (s0 : Int32) (s1 : Option Nat) (h : pm_H) : tm_L := (lf_P 81 h s1 [0, 10, 0] (.inl s0)).bind fun h1 => (lf_I h1 x0 [10, 0]).bind fun v2 => if v2 ≤ (0 : Int32) then (lf_R h1 x0 [10, 40]).bind fun v3 => (la_I h1 .iaload v3 x1).bind fun v4 => some (.inl (some (.inl v4)), h1) else some (.inl (some (.inl (0 : Int32))), h1)
set_option maxRecDepth 20000 in
theorem l313_18_t {w : Option Nat} {d : Nat} {x0 : Option Nat} {x1 : Int32} {s0 : Int32} {s1 : Option Nat} {h : pm_H} {r : tm_O × pm_H} (hr : l313_18 x0 x1 s0 s1 h = some r) : pm_to pt_P (pt_G (tm_r w)) (d + 0) (pt_g313, []) (tm_m (18, [(0, .inr (.inr x0)), (1, .inl x1)], [.inl s0, .inr (.inr s1)])) h (tm_e r) := by
  unfold l313_18 at hr
  obtain ⟨h1, qh1, hr⟩ := Option.bind_eq_some_iff.mp hr
  refine tm_putf rfl qh1 ?_
  refine tm_n 1 (F' := (22, [(0, .inr (.inr x0)), (1, .inl x1)], [.inr (.inr x0)])) rfl ?_
  obtain ⟨v2, qv2, hr⟩ := Option.bind_eq_some_iff.mp hr
  refine tm_getf rfl (lf_I_V qv2) ?_
  by_cases c5 : v2 ≤ (0 : Int32)
  · rw [if_pos c5] at hr
    refine tm_ifT rfl c5 ?_
    refine tm_n 1 (F' := (33, [(0, .inr (.inr x0)), (1, .inl x1)], [.inr (.inr x0)])) rfl ?_
    obtain ⟨v3, qv3, hr⟩ := Option.bind_eq_some_iff.mp hr
    refine tm_getf rfl (lf_R_V qv3) ?_
    refine tm_n 1 (F' := (37, [(0, .inr (.inr x0)), (1, .inl x1)], [.inl x1, .inr (.inr v3)])) rfl ?_
    obtain ⟨v4, qv4, hr⟩ := Option.bind_eq_some_iff.mp hr
    refine tm_ald rfl rfl (la_I_V qv4) ?_
    cases hr
    exact tm_retI rfl rfl
  · rw [if_neg c5] at hr
    refine tm_ifF rfl c5 ?_
    refine tm_n 2 (F' := (38, [(0, .inr (.inr x0)), (1, .inl x1)], [.inl (0 : Int32)])) rfl ?_
    cases hr
    exact tm_retI rfl rfl
set_option maxRecDepth 20000 in
def l313_13 (x0 : Option Nat) (x1 : Int32) (s0 : Option Nat) (h : pm_H) : tm_L := l313_18 x0 x1 (1 : Int32) s0 h
set_option maxRecDepth 20000 in
theorem l313_13_t {w : Option Nat} {d : Nat} {x0 : Option Nat} {x1 : Int32} {s0 : Option Nat} {h : pm_H} {r : tm_O × pm_H} (hr : l313_13 x0 x1 s0 h = some r) : pm_to pt_P (pt_G (tm_r w)) (d + 0) (pt_g313, []) (tm_m (13, [(0, .inr (.inr x0)), (1, .inl x1)], [.inr (.inr s0)])) h (tm_e r) := by
  unfold l313_13 at hr
  refine tm_n 2 (F' := (18, [(0, .inr (.inr x0)), (1, .inl x1)], [.inl (1 : Int32), .inr (.inr s0)])) rfl ?_
  refine tm_cut (a := [(0, .inr (.inr x0)), (1, .inl x1)]) rfl (tm_sbs [0, 1] rfl) ?_
  exact l313_18_t hr
set_option maxRecDepth 20000 in
def ll_313 (a0 : Option Nat) (a1 : Int32) (h : pm_H) : tm_L := if a1 < (0 : Int32) then l313_13 a0 a1 a0 h else (lf_I h a0 [10, 39]).bind fun v1 => if a1 < v1 then l313_18 a0 a1 (0 : Int32) a0 h else l313_13 a0 a1 a0 h
set_option maxRecDepth 20000 in
theorem lq_313 {w : Option Nat} {d : Nat} {a0 : Option Nat} {a1 : Int32} {h : pm_H} {r : tm_O × pm_H} (hr : ll_313 a0 a1 h = some r) : tm_run pt_P (pt_G (tm_r w)) (d + 0) 313 [.inr (.inr a0), .inl a1] h r := by
  unfold ll_313 at hr
  show pm_to pt_P (pt_G (tm_r w)) (d + 0) (pt_g313, []) (tm_m (0, [(0, .inr (.inr a0)), (1, .inl a1)], [])) h (tm_e r)
  refine tm_n 2 (F' := (2, [(0, .inr (.inr a0)), (1, .inl a1)], [.inl a1, .inr (.inr a0)])) rfl ?_
  by_cases c3 : a1 < (0 : Int32)
  · rw [if_pos c3] at hr
    refine tm_ifT rfl c3 ?_
    refine tm_cut (a := [(0, .inr (.inr a0)), (1, .inl a1)]) rfl (tm_sbs [0, 1] rfl) ?_
    exact l313_13_t hr
  · rw [if_neg c3] at hr
    refine tm_ifF rfl c3 ?_
    refine tm_n 2 (F' := (7, [(0, .inr (.inr a0)), (1, .inl a1)], [.inr (.inr a0), .inl a1, .inr (.inr a0)])) rfl ?_
    obtain ⟨v1, qv1, hr⟩ := Option.bind_eq_some_iff.mp hr
    refine tm_getf rfl (lf_I_V qv1) ?_
    by_cases c2 : a1 < v1
    · rw [if_pos c2] at hr
      refine tm_icT rfl c2 ?_
      refine tm_n 1 (F' := (18, [(0, .inr (.inr a0)), (1, .inl a1)], [.inl (0 : Int32), .inr (.inr a0)])) rfl ?_
      refine tm_cut (a := [(0, .inr (.inr a0)), (1, .inl a1)]) rfl (tm_sbs [0, 1] rfl) ?_
      exact l313_18_t hr
    · rw [if_neg c2] at hr
      refine tm_icF rfl c2 ?_
      refine tm_cut (a := [(0, .inr (.inr a0)), (1, .inl a1)]) rfl (tm_sbs [0, 1] rfl) ?_
      exact l313_13_t hr
-- java/lang/AbstractStringBuilder.getValue()[B
set_option maxRecDepth 20000 in
def ll_67 (a0 : Option Nat) (h : pm_H) : tm_L := (lf_R h a0 [11, 0]).bind fun v1 => some (.inl (some (.inr (.inr v1))), h)
set_option maxRecDepth 20000 in
theorem lq_67 {w : Option Nat} {d : Nat} {a0 : Option Nat} {h : pm_H} {r : tm_O × pm_H} (hr : ll_67 a0 h = some r) : tm_run pt_P (pt_G (tm_r w)) (d + 0) 67 [.inr (.inr a0)] h r := by
  unfold ll_67 at hr
  show pm_to pt_P (pt_G (tm_r w)) (d + 0) (pt_g67, []) (tm_m (0, [(0, .inr (.inr a0))], [])) h (tm_e r)
  refine tm_n 1 (F' := (1, [(0, .inr (.inr a0))], [.inr (.inr a0)])) rfl ?_
  obtain ⟨v1, qv1, hr⟩ := Option.bind_eq_some_iff.mp hr
  refine tm_getf rfl (lf_R_V qv1) ?_
  cases hr
  exact tm_retR rfl
-- java/lang/StringUTF16.compress([BI[BII)I
set_option maxRecDepth 20000 in
def l72_10 (w : Option Nat) : Nat → Option Nat → Int32 → Option Nat → Int32 → Int32 → Int32 → pm_H → tm_L
  | 0 => fun _ _ _ _ _ _ _ => none
  | n + 1 => fun x0 x1 x2 x3 x4 x5 h => if x4 ≤ x5 then some (.inl (some (.inl x4)), h) else lb_I (ll_73 x0 x1 h) (fun v1 h2 => if v1 ≤ (255 : Int32) then (la_S pt_P h2 .bastore x2 x3 (.inl (Int8.toInt32 (Int32.toInt8 v1)))).bind fun h4 => l72_10 w n x0 (x1 + (1 : Int32)) x2 (x3 + (1 : Int32)) x4 (x5 + (1 : Int32)) h4 else some (.inl (some (.inl x5)), h2))
set_option maxRecDepth 20000 in
theorem l72_10_t {w : Option Nat} {d : Nat} : ∀ (n : Nat) {x0 : Option Nat} {x1 : Int32} {x2 : Option Nat} {x3 : Int32} {x4 : Int32} {x5 : Int32} {h : pm_H} {r : tm_O × pm_H}, l72_10 w n x0 x1 x2 x3 x4 x5 h = some r → pm_to pt_P (pt_G (tm_r w)) (d + 3) (pt_g72, []) (tm_m (10, [(0, .inr (.inr x0)), (1, .inl x1), (2, .inr (.inr x2)), (3, .inl x3), (4, .inl x4), (5, .inl x5)], [])) h (tm_e r) := by
  intro n
  induction n with
  | zero => intro x0 x1 x2 x3 x4 x5 h r hr; cases hr
  | succ n ih =>
    intro x0 x1 x2 x3 x4 x5 h r hr
    unfold l72_10 at hr
    refine tm_n 2 (F' := (14, [(0, .inr (.inr x0)), (1, .inl x1), (2, .inr (.inr x2)), (3, .inl x3), (4, .inl x4), (5, .inl x5)], [.inl x4, .inl x5])) rfl ?_
    by_cases c8 : x4 ≤ x5
    · rw [if_pos c8] at hr
      refine tm_icT rfl c8 ?_
      refine tm_n 1 (F' := (55, [(0, .inr (.inr x0)), (1, .inl x1), (2, .inr (.inr x2)), (3, .inl x3), (4, .inl x4), (5, .inl x5)], [.inl x4])) rfl ?_
      cases hr
      exact tm_retI rfl rfl
    · rw [if_neg c8] at hr
      refine tm_icF rfl c8 ?_
      refine tm_n 2 (F' := (19, [(0, .inr (.inr x0)), (1, .inl x1), (2, .inr (.inr x2)), (3, .inl x3), (4, .inl x4), (5, .inl x5)], [.inl x1, .inr (.inr x0)])) rfl ?_
      rcases lb_I_s hr with ⟨v1, h2, m3, hr⟩ | ⟨a6, h2, z7, z7l, m3, qz7, rfl⟩
      · try dsimp only at hr
        refine tm_call rfl rfl (tm_callS rfl rfl) (lq_73 m3) ?_
        refine tm_n 3 (F' := (29, [(6, .inl v1), (0, .inr (.inr x0)), (1, .inl x1), (2, .inr (.inr x2)), (3, .inl x3), (4, .inl x4), (5, .inl x5)], [.inl (255 : Int32), .inl v1])) rfl ?_
        by_cases c5 : v1 ≤ (255 : Int32)
        · rw [if_pos c5] at hr
          refine tm_icT rfl c5 ?_
          refine tm_n 4 (F' := (40, [(6, .inl v1), (0, .inr (.inr x0)), (1, .inl x1), (2, .inr (.inr x2)), (3, .inl x3), (4, .inl x4), (5, .inl x5)], [.inl (Int8.toInt32 (Int32.toInt8 v1)), .inl x3, .inr (.inr x2)])) rfl ?_
          obtain ⟨h4, qh4, hr⟩ := Option.bind_eq_some_iff.mp hr
          refine tm_ast rfl rfl qh4 ?_
          refine tm_n 4 (F' := (10, [(5, .inl (x5 + (1 : Int32))), (3, .inl (x3 + (1 : Int32))), (1, .inl (x1 + (1 : Int32))), (6, .inl v1), (0, .inr (.inr x0)), (2, .inr (.inr x2)), (4, .inl x4)], [])) rfl ?_
          refine tm_cut (a := [(0, .inr (.inr x0)), (1, .inl (x1 + (1 : Int32))), (2, .inr (.inr x2)), (3, .inl (x3 + (1 : Int32))), (4, .inl x4), (5, .inl (x5 + (1 : Int32)))]) rfl (tm_sbs [4, 2, 5, 1, 6, 0] rfl) ?_
          exact ih hr
        · rw [if_neg c5] at hr
          refine tm_icF rfl c5 ?_
          refine tm_n 1 (F' := (34, [(6, .inl v1), (0, .inr (.inr x0)), (1, .inl x1), (2, .inr (.inr x2)), (3, .inl x3), (4, .inl x4), (5, .inl x5)], [.inl x5])) rfl ?_
          cases hr
          exact tm_retI rfl rfl
      · exact tm_callT rfl rfl (tm_callS rfl rfl) (lq_73 m3) qz7 rfl
set_option maxRecDepth 20000 in
def ll_72 (w : Option Nat) (a0 : Option Nat) (a1 : Int32) (a2 : Option Nat) (a3 : Int32) (a4 : Int32) (h : pm_H) : tm_L := lb_V (ll_33 w a1 a4 a0 h) (fun h2 => l72_10 w lf_N a0 a1 a2 a3 a4 (0 : Int32) h2)
set_option maxRecDepth 20000 in
theorem lq_72 {w : Option Nat} {d : Nat} {a0 : Option Nat} {a1 : Int32} {a2 : Option Nat} {a3 : Int32} {a4 : Int32} {h : pm_H} {r : tm_O × pm_H} (hr : ll_72 w a0 a1 a2 a3 a4 h = some r) : tm_run pt_P (pt_G (tm_r w)) (d + 3) 72 [.inr (.inr a0), .inl a1, .inr (.inr a2), .inl a3, .inl a4] h r := by
  unfold ll_72 at hr
  show pm_to pt_P (pt_G (tm_r w)) (d + 3) (pt_g72, []) (tm_m (0, [(0, .inr (.inr a0)), (1, .inl a1), (2, .inr (.inr a2)), (3, .inl a3), (4, .inl a4)], [])) h (tm_e r)
  refine tm_n 3 (F' := (4, [(0, .inr (.inr a0)), (1, .inl a1), (2, .inr (.inr a2)), (3, .inl a3), (4, .inl a4)], [.inr (.inr a0), .inl a4, .inl a1])) rfl ?_
  rcases lb_V_s hr with ⟨h2, m3, hr⟩ | ⟨a4, h2, z5, z5l, m3, qz5, rfl⟩
  · try dsimp only at hr
    refine tm_call rfl rfl (tm_callS rfl rfl) (lq_33 m3) ?_
    refine tm_n 2 (F' := (10, [(5, .inl (0 : Int32)), (0, .inr (.inr a0)), (1, .inl a1), (2, .inr (.inr a2)), (3, .inl a3), (4, .inl a4)], [])) rfl ?_
    refine tm_cut (a := [(0, .inr (.inr a0)), (1, .inl a1), (2, .inr (.inr a2)), (3, .inl a3), (4, .inl a4), (5, .inl (0 : Int32))]) rfl (tm_sbs [1, 2, 3, 4, 5, 0] rfl) ?_
    exact l72_10_t lf_N hr
  · exact tm_callT rfl rfl (tm_callS rfl rfl) (lq_33 m3) qz5 rfl
-- java/lang/StringUTF16.coderFromArrayLen([BI)B
set_option maxRecDepth 20000 in
def ll_74 (a0 : Option Nat) (a1 : Int32) (h : pm_H) : tm_L := (la_len h a0).bind fun v1 => if pm_fit 4 (.int (Int8.toInt32 (Int32.toInt8 ((a1 - v1).toUInt32 >>> (Int32.toUInt32 (31 : Int32) &&& Int32.toUInt32 31)).toInt32))) = true then some (.inl (some (.inl (Int8.toInt32 (Int32.toInt8 ((a1 - v1).toUInt32 >>> (Int32.toUInt32 (31 : Int32) &&& Int32.toUInt32 31)).toInt32)))), h) else none
set_option maxRecDepth 20000 in
theorem lq_74 {w : Option Nat} {d : Nat} {a0 : Option Nat} {a1 : Int32} {h : pm_H} {r : tm_O × pm_H} (hr : ll_74 a0 a1 h = some r) : tm_run pt_P (pt_G (tm_r w)) (d + 0) 74 [.inr (.inr a0), .inl a1] h r := by
  unfold ll_74 at hr
  show pm_to pt_P (pt_G (tm_r w)) (d + 0) (pt_g74, []) (tm_m (0, [(0, .inr (.inr a0)), (1, .inl a1)], [])) h (tm_e r)
  refine tm_n 2 (F' := (2, [(0, .inr (.inr a0)), (1, .inl a1)], [.inr (.inr a0), .inl a1])) rfl ?_
  obtain ⟨v1, qv1, hr⟩ := Option.bind_eq_some_iff.mp hr
  refine tm_alen rfl qv1 ?_
  refine tm_n 4 (F' := (8, [(0, .inr (.inr a0)), (1, .inl a1)], [.inl (Int8.toInt32 (Int32.toInt8 ((a1 - v1).toUInt32 >>> (Int32.toUInt32 (31 : Int32) &&& Int32.toUInt32 31)).toInt32))])) rfl ?_
  by_cases c2 : pm_fit 4 (.int (Int8.toInt32 (Int32.toInt8 ((a1 - v1).toUInt32 >>> (Int32.toUInt32 (31 : Int32) &&& Int32.toUInt32 31)).toInt32))) = true
  · rw [if_pos c2] at hr
    cases hr
    exact tm_retI rfl c2
  · rw [if_neg c2] at hr
    cases hr
