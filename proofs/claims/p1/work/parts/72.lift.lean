/-! lifted: 109, 108, 107, 106, 105, 101, 112, 114, 117, 116, 115, 113, 118, 119, 121, 122, 120, 111, 100, 93, 80, 79, 125, 124, 123 -/
-- java/util/Arrays.copyOf([Ljava/lang/Object;I)[Ljava/lang/Object;
set_option maxRecDepth 20000 in
def ll_109 (a0 : Option Nat) (a1 : Int32) (h : pm_H) : tm_L := if lf_gc h a0 = true then lb_R (ll_110 a0 a1 (some 79) h) (fun v2 h3 => some (.inl (some (.inr (.inr v2))), h3)) else none
set_option maxRecDepth 20000 in
theorem lq_109 {w : Option Nat} {d : Nat} {a0 : Option Nat} {a1 : Int32} {h : pm_H} {r : tm_O × pm_H} (hr : ll_109 a0 a1 h = some r) : tm_run pt_P (pt_G (tm_r w)) (d + 2) 109 [.inr (.inr a0), .inl a1] h r := by
  unfold ll_109 at hr
  show pm_to pt_P (pt_G (tm_r w)) (d + 2) (pt_g109, []) (tm_m (0, [(0, .inr (.inr a0)), (1, .inl a1)], [])) h (tm_e r)
  refine tm_n 3 (F' := (3, [(0, .inr (.inr a0)), (1, .inl a1)], [.inr (.inr a0), .inl a1, .inr (.inr a0)])) rfl ?_
  by_cases c1 : lf_gc h a0 = true
  · rw [if_pos c1] at hr
    refine tm_gcl rfl rfl c1 ?_
    rcases lb_R_s hr with ⟨v2, h3, m4, hr⟩ | ⟨a5, h3, z6, z6l, m4, qz6, rfl⟩
    · try dsimp only at hr
      refine tm_call rfl rfl (tm_callS rfl rfl) (lq_110 m4) ?_
      cases hr
      exact tm_retR rfl
    · exact tm_callT rfl rfl (tm_callS rfl rfl) (lq_110 m4) qz6 rfl
  · rw [if_neg c1] at hr
    cases hr
-- java/util/ArrayList.grow(I)[Ljava/lang/Object;
set_option maxRecDepth 20000 in
def l108_20 (x0 : Option Nat) (x1 : Int32) (x2 : Int32) (h : pm_H) : tm_L := lb_I (ll_23 x2 (x1 - x2) (x2 >>> ((1 : Int32) &&& 31)) h) (fun v1 h2 => (lf_R h2 x0 [12, 0]).bind fun v4 => lb_R (ll_109 v4 v1 h2) (fun v5 h6 => (lf_P 81 h6 x0 [2, 12, 0] (.inr (.inr v5))).bind fun h8 => some (.inl (some (.inr (.inr v5))), h8)))
set_option maxRecDepth 20000 in
theorem l108_20_t {w : Option Nat} {d : Nat} {x0 : Option Nat} {x1 : Int32} {x2 : Int32} {h : pm_H} {r : tm_O × pm_H} (hr : l108_20 x0 x1 x2 h = some r) : pm_to pt_P (pt_G (tm_r w)) (d + 3) (pt_g108, []) (tm_m (20, [(0, .inr (.inr x0)), (1, .inl x1), (2, .inl x2)], [])) h (tm_e r) := by
  unfold l108_20 at hr
  refine tm_n 7 (F' := (27, [(0, .inr (.inr x0)), (1, .inl x1), (2, .inl x2)], [.inl (x2 >>> ((1 : Int32) &&& 31)), .inl (x1 - x2), .inl x2])) rfl ?_
  rcases lb_I_s hr with ⟨v1, h2, m3, hr⟩ | ⟨a11, h2, z12, z12l, m3, qz12, rfl⟩
  · try dsimp only at hr
    refine tm_call rfl rfl (tm_callS rfl rfl) (lq_23 m3) ?_
    refine tm_n 3 (F' := (33, [(3, .inl v1), (0, .inr (.inr x0)), (1, .inl x1), (2, .inl x2)], [.inr (.inr x0), .inr (.inr x0)])) rfl ?_
    obtain ⟨v4, qv4, hr⟩ := Option.bind_eq_some_iff.mp hr
    refine tm_getf rfl (lf_R_V qv4) ?_
    refine tm_n 1 (F' := (37, [(3, .inl v1), (0, .inr (.inr x0)), (1, .inl x1), (2, .inl x2)], [.inl v1, .inr (.inr v4), .inr (.inr x0)])) rfl ?_
    rcases lb_R_s hr with ⟨v5, h6, m7, hr⟩ | ⟨a9, h6, z10, z10l, m7, qz10, rfl⟩
    · try dsimp only at hr
      refine tm_call rfl rfl (tm_callS rfl rfl) (lq_109 m7) ?_
      refine tm_n 1 (F' := (41, [(3, .inl v1), (0, .inr (.inr x0)), (1, .inl x1), (2, .inl x2)], [.inr (.inr v5), .inr (.inr x0), .inr (.inr v5)])) rfl ?_
      obtain ⟨h8, qh8, hr⟩ := Option.bind_eq_some_iff.mp hr
      refine tm_putf rfl qh8 ?_
      cases hr
      exact tm_retR rfl
    · exact tm_callT rfl rfl (tm_callS rfl rfl) (lq_109 m7) qz10 rfl
  · exact tm_callT rfl rfl (tm_callS rfl rfl) (lq_23 m3) qz12 rfl
set_option maxRecDepth 20000 in
def ll_108 (a0 : Option Nat) (a1 : Int32) (h : pm_H) : tm_L := (lf_R h a0 [12, 0]).bind fun v1 => (la_len h v1).bind fun v2 => if (0 : Int32) < v2 then l108_20 a0 a1 v2 h else (lf_R h a0 [12, 0]).bind fun v3 => lb_A (tm_acm v3 (some 20)) (lb_I (ll_24 (10 : Int32) a1 h) (fun v5 h6 => (lf_na h6 13 (.null) v5).bind fun h8 => (lf_P 81 h8 a0 [2, 12, 0] (.inr (.inr (some h6.1.length)))).bind fun h9 => some (.inl (some (.inr (.inr (some h6.1.length)))), h9))) (l108_20 a0 a1 v2 h)
set_option maxRecDepth 20000 in
theorem lq_108 {w : Option Nat} {d : Nat} {a0 : Option Nat} {a1 : Int32} {h : pm_H} {r : tm_O × pm_H} (hr : ll_108 a0 a1 h = some r) : tm_run pt_P (pt_G (tm_r w)) (d + 3) 108 [.inr (.inr a0), .inl a1] h r := by
  unfold ll_108 at hr
  show pm_to pt_P (pt_G (tm_r w)) (d + 3) (pt_g108, []) (tm_m (0, [(0, .inr (.inr a0)), (1, .inl a1)], [])) h (tm_e r)
  refine tm_n 1 (F' := (1, [(0, .inr (.inr a0)), (1, .inl a1)], [.inr (.inr a0)])) rfl ?_
  obtain ⟨v1, qv1, hr⟩ := Option.bind_eq_some_iff.mp hr
  refine tm_getf rfl (lf_R_V qv1) ?_
  obtain ⟨v2, qv2, hr⟩ := Option.bind_eq_some_iff.mp hr
  refine tm_alen rfl qv2 ?_
  refine tm_n 2 (F' := (7, [(2, .inl v2), (0, .inr (.inr a0)), (1, .inl a1)], [.inl v2])) rfl ?_
  by_cases c12 : (0 : Int32) < v2
  · rw [if_pos c12] at hr
    refine tm_ifT rfl c12 ?_
    refine tm_cut (a := [(0, .inr (.inr a0)), (1, .inl a1), (2, .inl v2)]) rfl (tm_sbs [1, 2, 0] rfl) ?_
    exact l108_20_t hr
  · rw [if_neg c12] at hr
    refine tm_ifF rfl c12 ?_
    refine tm_n 1 (F' := (11, [(2, .inl v2), (0, .inr (.inr a0)), (1, .inl a1)], [.inr (.inr a0)])) rfl ?_
    obtain ⟨v3, qv3, hr⟩ := Option.bind_eq_some_iff.mp hr
    refine tm_getf rfl (lf_R_V qv3) ?_
    refine tm_n 1 (F' := (17, [(2, .inl v2), (0, .inr (.inr a0)), (1, .inl a1)], [.inr (.inr (some 20)), .inr (.inr v3)])) rfl ?_
    rcases lb_A_s hr with ⟨c4, hr⟩ | ⟨c4, hr⟩
    · refine tm_aeT rfl c4 ?_
      refine tm_n 3 (F' := (49, [(2, .inl v2), (0, .inr (.inr a0)), (1, .inl a1)], [.inl a1, .inl (10 : Int32), .inr (.inr a0)])) rfl ?_
      rcases lb_I_s hr with ⟨v5, h6, m7, hr⟩ | ⟨a10, h6, z11, z11l, m7, qz11, rfl⟩
      · try dsimp only at hr
        refine tm_call rfl rfl (tm_callS rfl rfl) (lq_24 m7) ?_
        obtain ⟨h8, qh8, hr⟩ := Option.bind_eq_some_iff.mp hr
        refine tm_anew rfl qh8 ?_
        refine tm_n 1 (F' := (56, [(2, .inl v2), (0, .inr (.inr a0)), (1, .inl a1)], [.inr (.inr (some h6.1.length)), .inr (.inr a0), .inr (.inr (some h6.1.length))])) rfl ?_
        obtain ⟨h9, qh9, hr⟩ := Option.bind_eq_some_iff.mp hr
        refine tm_putf rfl qh9 ?_
        cases hr
        exact tm_retR rfl
      · exact tm_callT rfl rfl (tm_callS rfl rfl) (lq_24 m7) qz11 rfl
    · refine tm_aeF rfl c4 ?_
      refine tm_cut (a := [(0, .inr (.inr a0)), (1, .inl a1), (2, .inl v2)]) rfl (tm_sbs [1, 2, 0] rfl) ?_
      exact l108_20_t hr
-- java/util/ArrayList.grow()[Ljava/lang/Object;
set_option maxRecDepth 20000 in
def ll_107 (a0 : Option Nat) (h : pm_H) : tm_L := (lf_I h a0 [12, 1]).bind fun v1 => if lc_of h a0 = some 12 then lb_R (ll_108 a0 (v1 + (1 : Int32)) h) (fun v3 h4 => some (.inl (some (.inr (.inr v3))), h4)) else none
set_option maxRecDepth 20000 in
theorem lq_107 {w : Option Nat} {d : Nat} {a0 : Option Nat} {h : pm_H} {r : tm_O × pm_H} (hr : ll_107 a0 h = some r) : tm_run pt_P (pt_G (tm_r w)) (d + 4) 107 [.inr (.inr a0)] h r := by
  unfold ll_107 at hr
  show pm_to pt_P (pt_G (tm_r w)) (d + 4) (pt_g107, []) (tm_m (0, [(0, .inr (.inr a0))], [])) h (tm_e r)
  refine tm_n 2 (F' := (2, [(0, .inr (.inr a0))], [.inr (.inr a0), .inr (.inr a0)])) rfl ?_
  obtain ⟨v1, qv1, hr⟩ := Option.bind_eq_some_iff.mp hr
  refine tm_getf rfl (lf_I_V qv1) ?_
  refine tm_n 2 (F' := (7, [(0, .inr (.inr a0))], [.inl (v1 + (1 : Int32)), .inr (.inr a0)])) rfl ?_
  by_cases c2 : lc_of h a0 = some 12
  · rw [if_pos c2] at hr
    rcases lb_R_s hr with ⟨v3, h4, m5, hr⟩ | ⟨a6, h4, z7, z7l, m5, qz7, rfl⟩
    · try dsimp only at hr
      refine tm_call rfl rfl (tm_callV rfl rfl c2 rfl rfl) (lq_108 m5) ?_
      cases hr
      exact tm_retR rfl
    · exact tm_callT rfl rfl (tm_callV rfl rfl c2 rfl rfl) (lq_108 m5) qz7 rfl
  · rw [if_neg c2] at hr
    cases hr
-- java/util/ArrayList.add(Ljava/lang/Object;[Ljava/lang/Object;I)V
set_option maxRecDepth 20000 in
def l106_11 (x0 : Option Nat) (x1 : Option Nat) (x2 : Option Nat) (x3 : Int32) (h : pm_H) : tm_L := (la_S pt_P h .aastore x2 x3 (.inr (.inr x1))).bind fun h1 => (lf_P 81 h1 x0 [0, 12, 1] (.inl (x3 + (1 : Int32)))).bind fun h2 => some (.inl none, h2)
set_option maxRecDepth 20000 in
theorem l106_11_t {w : Option Nat} {d : Nat} {x0 : Option Nat} {x1 : Option Nat} {x2 : Option Nat} {x3 : Int32} {h : pm_H} {r : tm_O × pm_H} (hr : l106_11 x0 x1 x2 x3 h = some r) : pm_to pt_P (pt_G (tm_r w)) (d + 5) (pt_g106, []) (tm_m (11, [(0, .inr (.inr x0)), (1, .inr (.inr x1)), (2, .inr (.inr x2)), (3, .inl x3)], [])) h (tm_e r) := by
  unfold l106_11 at hr
  refine tm_n 3 (F' := (14, [(0, .inr (.inr x0)), (1, .inr (.inr x1)), (2, .inr (.inr x2)), (3, .inl x3)], [.inr (.inr x1), .inl x3, .inr (.inr x2)])) rfl ?_
  obtain ⟨h1, qh1, hr⟩ := Option.bind_eq_some_iff.mp hr
  refine tm_ast rfl rfl qh1 ?_
  refine tm_n 4 (F' := (19, [(0, .inr (.inr x0)), (1, .inr (.inr x1)), (2, .inr (.inr x2)), (3, .inl x3)], [.inl (x3 + (1 : Int32)), .inr (.inr x0)])) rfl ?_
  obtain ⟨h2, qh2, hr⟩ := Option.bind_eq_some_iff.mp hr
  refine tm_putf rfl qh2 ?_
  cases hr
  exact tm_retV rfl
set_option maxRecDepth 20000 in
def ll_106 (a0 : Option Nat) (a1 : Option Nat) (a2 : Option Nat) (a3 : Int32) (h : pm_H) : tm_L := (la_len h a2).bind fun v1 => if a3 = v1 then if lc_of h a0 = some 12 then lb_R (ll_107 a0 h) (fun v3 h4 => l106_11 a0 a1 v3 a3 h4) else none else l106_11 a0 a1 a2 a3 h
set_option maxRecDepth 20000 in
theorem lq_106 {w : Option Nat} {d : Nat} {a0 : Option Nat} {a1 : Option Nat} {a2 : Option Nat} {a3 : Int32} {h : pm_H} {r : tm_O × pm_H} (hr : ll_106 a0 a1 a2 a3 h = some r) : tm_run pt_P (pt_G (tm_r w)) (d + 5) 106 [.inr (.inr a0), .inr (.inr a1), .inr (.inr a2), .inl a3] h r := by
  unfold ll_106 at hr
  show pm_to pt_P (pt_G (tm_r w)) (d + 5) (pt_g106, []) (tm_m (0, [(0, .inr (.inr a0)), (1, .inr (.inr a1)), (2, .inr (.inr a2)), (3, .inl a3)], [])) h (tm_e r)
  refine tm_n 2 (F' := (2, [(0, .inr (.inr a0)), (1, .inr (.inr a1)), (2, .inr (.inr a2)), (3, .inl a3)], [.inr (.inr a2), .inl a3])) rfl ?_
  obtain ⟨v1, qv1, hr⟩ := Option.bind_eq_some_iff.mp hr
  refine tm_alen rfl qv1 ?_
  by_cases c8 : a3 = v1
  · rw [if_pos c8] at hr
    refine tm_icF rfl (fun q => q c8) ?_
    refine tm_n 1 (F' := (7, [(0, .inr (.inr a0)), (1, .inr (.inr a1)), (2, .inr (.inr a2)), (3, .inl a3)], [.inr (.inr a0)])) rfl ?_
    by_cases c2 : lc_of h a0 = some 12
    · rw [if_pos c2] at hr
      rcases lb_R_s hr with ⟨v3, h4, m5, hr⟩ | ⟨a6, h4, z7, z7l, m5, qz7, rfl⟩
      · try dsimp only at hr
        refine tm_call rfl rfl (tm_callV rfl rfl c2 rfl rfl) (lq_107 m5) ?_
        refine tm_n 1 (F' := (11, [(2, .inr (.inr v3)), (0, .inr (.inr a0)), (1, .inr (.inr a1)), (3, .inl a3)], [])) rfl ?_
        refine tm_cut (a := [(0, .inr (.inr a0)), (1, .inr (.inr a1)), (2, .inr (.inr v3)), (3, .inl a3)]) rfl (tm_sbs [1, 2, 0, 3] rfl) ?_
        exact l106_11_t hr
      · exact tm_callT rfl rfl (tm_callV rfl rfl c2 rfl rfl) (lq_107 m5) qz7 rfl
    · rw [if_neg c2] at hr
      cases hr
  · rw [if_neg c8] at hr
    refine tm_icT rfl c8 ?_
    refine tm_cut (a := [(0, .inr (.inr a0)), (1, .inr (.inr a1)), (2, .inr (.inr a2)), (3, .inl a3)]) rfl (tm_sbs [0, 1, 2, 3] rfl) ?_
    exact l106_11_t hr
-- java/util/ArrayList.add(Ljava/lang/Object;)Z
set_option maxRecDepth 20000 in
def ll_105 (a0 : Option Nat) (a1 : Option Nat) (h : pm_H) : tm_L := (lf_I h a0 [12, 2]).bind fun v1 => (lf_P 81 h a0 [0, 12, 2] (.inl (v1 + (1 : Int32)))).bind fun h2 => (lf_R h2 a0 [12, 0]).bind fun v3 => (lf_I h2 a0 [12, 1]).bind fun v4 => if lc_of h2 a0 = some 12 then lb_V (ll_106 a0 a1 v3 v4 h2) (fun h7 => some (.inl (some (.inl (1 : Int32))), h7)) else none
set_option maxRecDepth 20000 in
theorem lq_105 {w : Option Nat} {d : Nat} {a0 : Option Nat} {a1 : Option Nat} {h : pm_H} {r : tm_O × pm_H} (hr : ll_105 a0 a1 h = some r) : tm_run pt_P (pt_G (tm_r w)) (d + 6) 105 [.inr (.inr a0), .inr (.inr a1)] h r := by
  unfold ll_105 at hr
  show pm_to pt_P (pt_G (tm_r w)) (d + 6) (pt_g105, []) (tm_m (0, [(0, .inr (.inr a0)), (1, .inr (.inr a1))], [])) h (tm_e r)
  refine tm_n 2 (F' := (2, [(0, .inr (.inr a0)), (1, .inr (.inr a1))], [.inr (.inr a0), .inr (.inr a0)])) rfl ?_
  obtain ⟨v1, qv1, hr⟩ := Option.bind_eq_some_iff.mp hr
  refine tm_getf rfl (lf_I_V qv1) ?_
  refine tm_n 2 (F' := (7, [(0, .inr (.inr a0)), (1, .inr (.inr a1))], [.inl (v1 + (1 : Int32)), .inr (.inr a0)])) rfl ?_
  obtain ⟨h2, qh2, hr⟩ := Option.bind_eq_some_iff.mp hr
  refine tm_putf rfl qh2 ?_
  refine tm_n 3 (F' := (13, [(0, .inr (.inr a0)), (1, .inr (.inr a1))], [.inr (.inr a0), .inr (.inr a1), .inr (.inr a0)])) rfl ?_
  obtain ⟨v3, qv3, hr⟩ := Option.bind_eq_some_iff.mp hr
  refine tm_getf rfl (lf_R_V qv3) ?_
  refine tm_n 1 (F' := (17, [(0, .inr (.inr a0)), (1, .inr (.inr a1))], [.inr (.inr a0), .inr (.inr v3), .inr (.inr a1), .inr (.inr a0)])) rfl ?_
  obtain ⟨v4, qv4, hr⟩ := Option.bind_eq_some_iff.mp hr
  refine tm_getf rfl (lf_I_V qv4) ?_
  by_cases c5 : lc_of h2 a0 = some 12
  · rw [if_pos c5] at hr
    rcases lb_V_s hr with ⟨h7, m8, hr⟩ | ⟨a9, h7, z10, z10l, m8, qz10, rfl⟩
    · try dsimp only at hr
      refine tm_call rfl rfl (tm_callV rfl rfl c5 rfl rfl) (lq_106 m8) ?_
      refine tm_n 1 (F' := (24, [(0, .inr (.inr a0)), (1, .inr (.inr a1))], [.inl (1 : Int32)])) rfl ?_
      cases hr
      exact tm_retI rfl rfl
    · exact tm_callT rfl rfl (tm_callV rfl rfl c5 rfl rfl) (lq_106 m8) qz10 rfl
  · rw [if_neg c5] at hr
    cases hr
-- OfficeSheet$Office.learnWrite(LOfficeSheet$Act;)V
set_option maxRecDepth 20000 in
def l101_2 : Nat → Option Nat → Option Nat → Int32 → pm_H → tm_L
  | 0 => fun _ _ _ _ => none
  | n + 1 => fun x0 x1 x2 h => (lf_R h x0 [4, 4]).bind fun v1 => if lc_of h v1 = some 12 then lb_I (ll_86 v1 h) (fun v3 h4 => if v3 ≤ x2 then (lf_R h4 x0 [4, 4]).bind fun v6 => if lc_of h4 v6 = some 12 then lb_I (ll_105 v6 x1 h4) (fun v8 h9 => some (.inl none, h9)) else none else (lf_R h4 x0 [4, 4]).bind fun v13 => if lc_of h4 v13 = some 12 then lb_R (ll_87 v13 x2 h4) (fun v15 h16 => if lf_cc 81 h16 v15 [7] = true then (lf_R h16 x1 [7, 8]).bind fun v19 => (lf_R h16 x1 [7, 9]).bind fun v20 => if lc_of h16 v15 = some 7 then lb_I (ll_102 v15 v19 v20 h16) (fun v22 h23 => if v22 = (0 : Int32) then l101_2 n x0 x1 (x2 + (1 : Int32)) h23 else if lc_of h23 x1 = some 7 then lb_I (ll_103 x1 v15 h23) (fun v26 h27 => if v26 = (0 : Int32) then some (.inl none, h27) else (lf_R h27 x0 [4, 4]).bind fun v29 => if lc_of h27 v29 = some 12 then lb_R (ll_104 v29 x2 x1 h27) (fun v31 h32 => some (.inl none, h32)) else none) else none) else none else none) else none) else none
set_option maxRecDepth 20000 in
theorem l101_2_t {w : Option Nat} {d : Nat} : ∀ (n : Nat) {x0 : Option Nat} {x1 : Option Nat} {x2 : Int32} {h : pm_H} {r : tm_O × pm_H}, l101_2 n x0 x1 x2 h = some r → pm_to pt_P (pt_G (tm_r w)) (d + 7) (pt_g101, []) (tm_m (2, [(0, .inr (.inr x0)), (1, .inr (.inr x1)), (2, .inl x2)], [])) h (tm_e r) := by
  intro n
  induction n with
  | zero => intro x0 x1 x2 h r hr; cases hr
  | succ n ih =>
    intro x0 x1 x2 h r hr
    unfold l101_2 at hr
    refine tm_n 2 (F' := (4, [(0, .inr (.inr x0)), (1, .inr (.inr x1)), (2, .inl x2)], [.inr (.inr x0), .inl x2])) rfl ?_
    obtain ⟨v1, qv1, hr⟩ := Option.bind_eq_some_iff.mp hr
    refine tm_getf rfl (lf_R_V qv1) ?_
    by_cases c2 : lc_of h v1 = some 12
    · rw [if_pos c2] at hr
      rcases lb_I_s hr with ⟨v3, h4, m5, hr⟩ | ⟨a45, h4, z46, z46l, m5, qz46, rfl⟩
      · try dsimp only at hr
        refine tm_call rfl rfl (tm_callV rfl rfl c2 rfl rfl) (lq_86 m5) ?_
        by_cases c44 : v3 ≤ x2
        · rw [if_pos c44] at hr
          refine tm_icT rfl c44 ?_
          refine tm_n 1 (F' := (66, [(0, .inr (.inr x0)), (1, .inr (.inr x1)), (2, .inl x2)], [.inr (.inr x0)])) rfl ?_
          obtain ⟨v6, qv6, hr⟩ := Option.bind_eq_some_iff.mp hr
          refine tm_getf rfl (lf_R_V qv6) ?_
          refine tm_n 1 (F' := (70, [(0, .inr (.inr x0)), (1, .inr (.inr x1)), (2, .inl x2)], [.inr (.inr x1), .inr (.inr v6)])) rfl ?_
          by_cases c7 : lc_of h4 v6 = some 12
          · rw [if_pos c7] at hr
            rcases lb_I_s hr with ⟨v8, h9, m10, hr⟩ | ⟨a11, h9, z12, z12l, m10, qz12, rfl⟩
            · try dsimp only at hr
              refine tm_call rfl rfl (tm_callV rfl rfl c7 rfl rfl) (lq_105 m10) ?_
              refine tm_n 1 (F' := (74, [(0, .inr (.inr x0)), (1, .inr (.inr x1)), (2, .inl x2)], [])) rfl ?_
              cases hr
              exact tm_retV rfl
            · exact tm_callT rfl rfl (tm_callV rfl rfl c7 rfl rfl) (lq_105 m10) qz12 rfl
          · rw [if_neg c7] at hr
            cases hr
        · rw [if_neg c44] at hr
          refine tm_icF rfl c44 ?_
          refine tm_n 1 (F' := (14, [(0, .inr (.inr x0)), (1, .inr (.inr x1)), (2, .inl x2)], [.inr (.inr x0)])) rfl ?_
          obtain ⟨v13, qv13, hr⟩ := Option.bind_eq_some_iff.mp hr
          refine tm_getf rfl (lf_R_V qv13) ?_
          refine tm_n 1 (F' := (18, [(0, .inr (.inr x0)), (1, .inr (.inr x1)), (2, .inl x2)], [.inl x2, .inr (.inr v13)])) rfl ?_
          by_cases c14 : lc_of h4 v13 = some 12
          · rw [if_pos c14] at hr
            rcases lb_R_s hr with ⟨v15, h16, m17, hr⟩ | ⟨a42, h16, z43, z43l, m17, qz43, rfl⟩
            · try dsimp only at hr
              refine tm_call rfl rfl (tm_callV rfl rfl c14 rfl rfl) (lq_87 m17) ?_
              by_cases c18 : lf_cc 81 h16 v15 [7] = true
              · rw [if_pos c18] at hr
                refine tm_cc rfl c18 ?_
                refine tm_n 3 (F' := (27, [(3, .inr (.inr v15)), (0, .inr (.inr x0)), (1, .inr (.inr x1)), (2, .inl x2)], [.inr (.inr x1), .inr (.inr v15)])) rfl ?_
                obtain ⟨v19, qv19, hr⟩ := Option.bind_eq_some_iff.mp hr
                refine tm_getf rfl (lf_R_V qv19) ?_
                refine tm_n 1 (F' := (31, [(3, .inr (.inr v15)), (0, .inr (.inr x0)), (1, .inr (.inr x1)), (2, .inl x2)], [.inr (.inr x1), .inr (.inr v19), .inr (.inr v15)])) rfl ?_
                obtain ⟨v20, qv20, hr⟩ := Option.bind_eq_some_iff.mp hr
                refine tm_getf rfl (lf_R_V qv20) ?_
                by_cases c21 : lc_of h16 v15 = some 7
                · rw [if_pos c21] at hr
                  rcases lb_I_s hr with ⟨v22, h23, m24, hr⟩ | ⟨a40, h23, z41, z41l, m24, qz41, rfl⟩
                  · try dsimp only at hr
                    refine tm_call rfl rfl (tm_callV rfl rfl c21 rfl rfl) (lq_102 m24) ?_
                    by_cases c39 : v22 = (0 : Int32)
                    · rw [if_pos c39] at hr
                      refine tm_ifT rfl c39 ?_
                      refine tm_n 2 (F' := (2, [(2, .inl (x2 + (1 : Int32))), (3, .inr (.inr v15)), (0, .inr (.inr x0)), (1, .inr (.inr x1))], [])) rfl ?_
                      refine tm_cut (a := [(0, .inr (.inr x0)), (1, .inr (.inr x1)), (2, .inl (x2 + (1 : Int32)))]) rfl (tm_sbs [2, 3, 0] rfl) ?_
                      exact ih hr
                    · rw [if_neg c39] at hr
                      refine tm_ifF rfl c39 ?_
                      refine tm_n 2 (F' := (42, [(3, .inr (.inr v15)), (0, .inr (.inr x0)), (1, .inr (.inr x1)), (2, .inl x2)], [.inr (.inr v15), .inr (.inr x1)])) rfl ?_
                      by_cases c25 : lc_of h23 x1 = some 7
                      · rw [if_pos c25] at hr
                        rcases lb_I_s hr with ⟨v26, h27, m28, hr⟩ | ⟨a37, h27, z38, z38l, m28, qz38, rfl⟩
                        · try dsimp only at hr
                          refine tm_call rfl rfl (tm_callV rfl rfl c25 rfl rfl) (lq_103 m28) ?_
                          by_cases c36 : v26 = (0 : Int32)
                          · rw [if_pos c36] at hr
                            refine tm_ifT rfl c36 ?_
                            cases hr
                            exact tm_retV rfl
                          · rw [if_neg c36] at hr
                            refine tm_ifF rfl c36 ?_
                            refine tm_n 1 (F' := (49, [(3, .inr (.inr v15)), (0, .inr (.inr x0)), (1, .inr (.inr x1)), (2, .inl x2)], [.inr (.inr x0)])) rfl ?_
                            obtain ⟨v29, qv29, hr⟩ := Option.bind_eq_some_iff.mp hr
                            refine tm_getf rfl (lf_R_V qv29) ?_
                            refine tm_n 2 (F' := (54, [(3, .inr (.inr v15)), (0, .inr (.inr x0)), (1, .inr (.inr x1)), (2, .inl x2)], [.inr (.inr x1), .inl x2, .inr (.inr v29)])) rfl ?_
                            by_cases c30 : lc_of h27 v29 = some 12
                            · rw [if_pos c30] at hr
                              rcases lb_R_s hr with ⟨v31, h32, m33, hr⟩ | ⟨a34, h32, z35, z35l, m33, qz35, rfl⟩
                              · try dsimp only at hr
                                refine tm_call rfl rfl (tm_callV rfl rfl c30 rfl rfl) (lq_104 m33) ?_
                                refine tm_n 1 (F' := (58, [(3, .inr (.inr v15)), (0, .inr (.inr x0)), (1, .inr (.inr x1)), (2, .inl x2)], [])) rfl ?_
                                cases hr
                                exact tm_retV rfl
                              · exact tm_callT rfl rfl (tm_callV rfl rfl c30 rfl rfl) (lq_104 m33) qz35 rfl
                            · rw [if_neg c30] at hr
                              cases hr
                        · exact tm_callT rfl rfl (tm_callV rfl rfl c25 rfl rfl) (lq_103 m28) qz38 rfl
                      · rw [if_neg c25] at hr
                        cases hr
                  · exact tm_callT rfl rfl (tm_callV rfl rfl c21 rfl rfl) (lq_102 m24) qz41 rfl
                · rw [if_neg c21] at hr
                  cases hr
              · rw [if_neg c18] at hr
                cases hr
            · exact tm_callT rfl rfl (tm_callV rfl rfl c14 rfl rfl) (lq_87 m17) qz43 rfl
          · rw [if_neg c14] at hr
            cases hr
      · exact tm_callT rfl rfl (tm_callV rfl rfl c2 rfl rfl) (lq_86 m5) qz46 rfl
    · rw [if_neg c2] at hr
      cases hr
set_option maxRecDepth 20000 in
def ll_101 (a0 : Option Nat) (a1 : Option Nat) (h : pm_H) : tm_L := l101_2 lf_N a0 a1 (0 : Int32) h
set_option maxRecDepth 20000 in
theorem lq_101 {w : Option Nat} {d : Nat} {a0 : Option Nat} {a1 : Option Nat} {h : pm_H} {r : tm_O × pm_H} (hr : ll_101 a0 a1 h = some r) : tm_run pt_P (pt_G (tm_r w)) (d + 7) 101 [.inr (.inr a0), .inr (.inr a1)] h r := by
  unfold ll_101 at hr
  show pm_to pt_P (pt_G (tm_r w)) (d + 7) (pt_g101, []) (tm_m (0, [(0, .inr (.inr a0)), (1, .inr (.inr a1))], [])) h (tm_e r)
  refine tm_n 2 (F' := (2, [(2, .inl (0 : Int32)), (0, .inr (.inr a0)), (1, .inr (.inr a1))], [])) rfl ?_
  refine tm_cut (a := [(0, .inr (.inr a0)), (1, .inr (.inr a1)), (2, .inl (0 : Int32))]) rfl (tm_sbs [1, 2, 0] rfl) ?_
  exact l101_2_t lf_N hr
-- OfficeSheet$ActKind.makesPlace()Z
set_option maxRecDepth 20000 in
def ll_112 (a0 : Option Nat) (h : pm_H) : tm_L := lb_A (tm_acm a0 (some 1)) (some (.inl (some (.inl (1 : Int32))), h)) (lb_A (tm_acm a0 (some 2)) (some (.inl (some (.inl (1 : Int32))), h)) (some (.inl (some (.inl (0 : Int32))), h)))
set_option maxRecDepth 20000 in
theorem lq_112 {w : Option Nat} {d : Nat} {a0 : Option Nat} {h : pm_H} {r : tm_O × pm_H} (hr : ll_112 a0 h = some r) : tm_run pt_P (pt_G (tm_r w)) (d + 0) 112 [.inr (.inr a0)] h r := by
  unfold ll_112 at hr
  show pm_to pt_P (pt_G (tm_r w)) (d + 0) (pt_g112, []) (tm_m (0, [(0, .inr (.inr a0))], [])) h (tm_e r)
  refine tm_n 2 (F' := (4, [(0, .inr (.inr a0))], [.inr (.inr (some 1)), .inr (.inr a0)])) rfl ?_
  rcases lb_A_s hr with ⟨c1, hr⟩ | ⟨c1, hr⟩
  · refine tm_aeT rfl c1 ?_
    refine tm_n 2 (F' := (19, [(0, .inr (.inr a0))], [.inl (1 : Int32)])) rfl ?_
    cases hr
    exact tm_retI rfl rfl
  · refine tm_aeF rfl c1 ?_
    refine tm_n 2 (F' := (11, [(0, .inr (.inr a0))], [.inr (.inr (some 2)), .inr (.inr a0)])) rfl ?_
    rcases lb_A_s hr with ⟨c2, hr⟩ | ⟨c2, hr⟩
    · refine tm_anF rfl c2 ?_
      refine tm_n 2 (F' := (19, [(0, .inr (.inr a0))], [.inl (1 : Int32)])) rfl ?_
      cases hr
      exact tm_retI rfl rfl
    · refine tm_anT rfl c2 ?_
      refine tm_n 1 (F' := (19, [(0, .inr (.inr a0))], [.inl (0 : Int32)])) rfl ?_
      cases hr
      exact tm_retI rfl rfl
-- OfficeSheet$Axis.orderOf(LOfficeSheet$Place;)I
set_option maxRecDepth 20000 in
def l114_2 : Nat → Option Nat → Option Nat → Int32 → pm_H → tm_L
  | 0 => fun _ _ _ _ => none
  | n + 1 => fun x0 x1 x2 h => (lf_R h x0 [5, 0]).bind fun v1 => if lc_of h v1 = some 12 then lb_I (ll_86 v1 h) (fun v3 h4 => if v3 ≤ x2 then some (.inl (some (.inl (-1 : Int32))), h4) else (lf_R h4 x0 [5, 0]).bind fun v6 => if lc_of h4 v6 = some 12 then lb_R (ll_87 v6 x2 h4) (fun v8 h9 => lb_A (tm_acm v8 x1) (some (.inl (some (.inl x2)), h9)) (l114_2 n x0 x1 (x2 + (1 : Int32)) h9)) else none) else none
set_option maxRecDepth 20000 in
theorem l114_2_t {w : Option Nat} {d : Nat} : ∀ (n : Nat) {x0 : Option Nat} {x1 : Option Nat} {x2 : Int32} {h : pm_H} {r : tm_O × pm_H}, l114_2 n x0 x1 x2 h = some r → pm_to pt_P (pt_G (tm_r w)) (d + 3) (pt_g114, []) (tm_m (2, [(0, .inr (.inr x0)), (1, .inr (.inr x1)), (2, .inl x2)], [])) h (tm_e r) := by
  intro n
  induction n with
  | zero => intro x0 x1 x2 h r hr; cases hr
  | succ n ih =>
    intro x0 x1 x2 h r hr
    unfold l114_2 at hr
    refine tm_n 2 (F' := (4, [(0, .inr (.inr x0)), (1, .inr (.inr x1)), (2, .inl x2)], [.inr (.inr x0), .inl x2])) rfl ?_
    obtain ⟨v1, qv1, hr⟩ := Option.bind_eq_some_iff.mp hr
    refine tm_getf rfl (lf_R_V qv1) ?_
    by_cases c2 : lc_of h v1 = some 12
    · rw [if_pos c2] at hr
      rcases lb_I_s hr with ⟨v3, h4, m5, hr⟩ | ⟨a15, h4, z16, z16l, m5, qz16, rfl⟩
      · try dsimp only at hr
        refine tm_call rfl rfl (tm_callV rfl rfl c2 rfl rfl) (lq_86 m5) ?_
        by_cases c14 : v3 ≤ x2
        · rw [if_pos c14] at hr
          refine tm_icT rfl c14 ?_
          refine tm_n 1 (F' := (34, [(0, .inr (.inr x0)), (1, .inr (.inr x1)), (2, .inl x2)], [.inl (-1 : Int32)])) rfl ?_
          cases hr
          exact tm_retI rfl rfl
        · rw [if_neg c14] at hr
          refine tm_icF rfl c14 ?_
          refine tm_n 1 (F' := (14, [(0, .inr (.inr x0)), (1, .inr (.inr x1)), (2, .inl x2)], [.inr (.inr x0)])) rfl ?_
          obtain ⟨v6, qv6, hr⟩ := Option.bind_eq_some_iff.mp hr
          refine tm_getf rfl (lf_R_V qv6) ?_
          refine tm_n 1 (F' := (18, [(0, .inr (.inr x0)), (1, .inr (.inr x1)), (2, .inl x2)], [.inl x2, .inr (.inr v6)])) rfl ?_
          by_cases c7 : lc_of h4 v6 = some 12
          · rw [if_pos c7] at hr
            rcases lb_R_s hr with ⟨v8, h9, m10, hr⟩ | ⟨a12, h9, z13, z13l, m10, qz13, rfl⟩
            · try dsimp only at hr
              refine tm_call rfl rfl (tm_callV rfl rfl c7 rfl rfl) (lq_87 m10) ?_
              refine tm_n 1 (F' := (22, [(0, .inr (.inr x0)), (1, .inr (.inr x1)), (2, .inl x2)], [.inr (.inr x1), .inr (.inr v8)])) rfl ?_
              rcases lb_A_s hr with ⟨c11, hr⟩ | ⟨c11, hr⟩
              · refine tm_anF rfl c11 ?_
                refine tm_n 1 (F' := (26, [(0, .inr (.inr x0)), (1, .inr (.inr x1)), (2, .inl x2)], [.inl x2])) rfl ?_
                cases hr
                exact tm_retI rfl rfl
              · refine tm_anT rfl c11 ?_
                refine tm_n 2 (F' := (2, [(2, .inl (x2 + (1 : Int32))), (0, .inr (.inr x0)), (1, .inr (.inr x1))], [])) rfl ?_
                refine tm_cut (a := [(0, .inr (.inr x0)), (1, .inr (.inr x1)), (2, .inl (x2 + (1 : Int32)))]) rfl (tm_sbs [1, 2, 0] rfl) ?_
                exact ih hr
            · exact tm_callT rfl rfl (tm_callV rfl rfl c7 rfl rfl) (lq_87 m10) qz13 rfl
          · rw [if_neg c7] at hr
            cases hr
      · exact tm_callT rfl rfl (tm_callV rfl rfl c2 rfl rfl) (lq_86 m5) qz16 rfl
    · rw [if_neg c2] at hr
      cases hr
set_option maxRecDepth 20000 in
def ll_114 (a0 : Option Nat) (a1 : Option Nat) (h : pm_H) : tm_L := l114_2 lf_N a0 a1 (0 : Int32) h
set_option maxRecDepth 20000 in
theorem lq_114 {w : Option Nat} {d : Nat} {a0 : Option Nat} {a1 : Option Nat} {h : pm_H} {r : tm_O × pm_H} (hr : ll_114 a0 a1 h = some r) : tm_run pt_P (pt_G (tm_r w)) (d + 3) 114 [.inr (.inr a0), .inr (.inr a1)] h r := by
  unfold ll_114 at hr
  show pm_to pt_P (pt_G (tm_r w)) (d + 3) (pt_g114, []) (tm_m (0, [(0, .inr (.inr a0)), (1, .inr (.inr a1))], [])) h (tm_e r)
  refine tm_n 2 (F' := (2, [(2, .inl (0 : Int32)), (0, .inr (.inr a0)), (1, .inr (.inr a1))], [])) rfl ?_
  refine tm_cut (a := [(0, .inr (.inr a0)), (1, .inr (.inr a1)), (2, .inl (0 : Int32))]) rfl (tm_sbs [1, 2, 0] rfl) ?_
  exact l114_2_t lf_N hr
-- java/util/ArrayList.outOfBoundsMsg(I)Ljava/lang/String;
set_option maxRecDepth 20000 in
def ll_117 (w : Option Nat) (a0 : Option Nat) (a1 : Int32) (h : pm_H) : tm_L := lb_h (lf_new h 11 4 [.null, .int 0, .int 0, .int 0]) fun h1 => lb_V (ll_3 (some h.1.length) h1) (fun h3 => if lc_of h3 (some h.1.length) = some 11 then lb_R (ll_46 w (some h.1.length) (some 43) h3) (fun v6 h7 => if lc_of h7 v6 = some 11 then lb_R (ll_58 w v6 a1 h7) (fun v10 h11 => if lc_of h11 v10 = some 11 then lb_R (ll_46 w v10 (some 44) h11) (fun v14 h15 => (lf_I h15 a0 [12, 1]).bind fun v17 => if lc_of h15 v14 = some 11 then lb_R (ll_58 w v14 v17 h15) (fun v19 h20 => if lc_of h20 v19 = some 11 then none else none) else none) else none) else none) else none)
set_option maxRecDepth 20000 in
theorem lq_117 {w : Option Nat} {d : Nat} {a0 : Option Nat} {a1 : Int32} {h : pm_H} {r : tm_O × pm_H} (hr : ll_117 w a0 a1 h = some r) : tm_run pt_P (pt_G (tm_r w)) (d + 10) 117 [.inr (.inr a0), .inl a1] h r := by
  unfold ll_117 at hr
  show pm_to pt_P (pt_G (tm_r w)) (d + 10) (pt_g117, []) (tm_m (0, [(0, .inr (.inr a0)), (1, .inl a1)], [])) h (tm_e r)
  obtain ⟨h1, eh1, hr⟩ := lb_h_s hr
  refine tm_new rfl ?_
  rw [← eh1]
  refine tm_n 1 (F' := (4, [(0, .inr (.inr a0)), (1, .inl a1)], [.inr (.inr (some h.1.length)), .inr (.inr (some h.1.length))])) rfl ?_
  rcases lb_V_s hr with ⟨h3, m4, hr⟩ | ⟨a31, h3, z32, z32l, m4, qz32, rfl⟩
  · try dsimp only at hr
    refine tm_call rfl rfl (tm_callP rfl rfl rfl) (lq_3 m4) ?_
    refine tm_n 1 (F' := (9, [(0, .inr (.inr a0)), (1, .inl a1)], [.inr (.inr (some 43)), .inr (.inr (some h.1.length))])) rfl ?_
    by_cases c5 : lc_of h3 (some h.1.length) = some 11
    · rw [if_pos c5] at hr
      rcases lb_R_s hr with ⟨v6, h7, m8, hr⟩ | ⟨a29, h7, z30, z30l, m8, qz30, rfl⟩
      · try dsimp only at hr
        refine tm_call rfl rfl (tm_callV rfl rfl c5 rfl rfl) (lq_46 m8) ?_
        refine tm_n 1 (F' := (13, [(0, .inr (.inr a0)), (1, .inl a1)], [.inl a1, .inr (.inr v6)])) rfl ?_
        by_cases c9 : lc_of h7 v6 = some 11
        · rw [if_pos c9] at hr
          rcases lb_R_s hr with ⟨v10, h11, m12, hr⟩ | ⟨a27, h11, z28, z28l, m12, qz28, rfl⟩
          · try dsimp only at hr
            refine tm_call rfl rfl (tm_callV rfl rfl c9 rfl rfl) (lq_58 m12) ?_
            refine tm_n 1 (F' := (18, [(0, .inr (.inr a0)), (1, .inl a1)], [.inr (.inr (some 44)), .inr (.inr v10)])) rfl ?_
            by_cases c13 : lc_of h11 v10 = some 11
            · rw [if_pos c13] at hr
              rcases lb_R_s hr with ⟨v14, h15, m16, hr⟩ | ⟨a25, h15, z26, z26l, m16, qz26, rfl⟩
              · try dsimp only at hr
                refine tm_call rfl rfl (tm_callV rfl rfl c13 rfl rfl) (lq_46 m16) ?_
                refine tm_n 1 (F' := (22, [(0, .inr (.inr a0)), (1, .inl a1)], [.inr (.inr a0), .inr (.inr v14)])) rfl ?_
                obtain ⟨v17, qv17, hr⟩ := Option.bind_eq_some_iff.mp hr
                refine tm_getf rfl (lf_I_V qv17) ?_
                by_cases c18 : lc_of h15 v14 = some 11
                · rw [if_pos c18] at hr
                  rcases lb_R_s hr with ⟨v19, h20, m21, hr⟩ | ⟨a23, h20, z24, z24l, m21, qz24, rfl⟩
                  · try dsimp only at hr
                    refine tm_call rfl rfl (tm_callV rfl rfl c18 rfl rfl) (lq_58 m21) ?_
                    by_cases c22 : lc_of h20 v19 = some 11
                    · rw [if_pos c22] at hr
                      cases hr
                    · rw [if_neg c22] at hr
                      cases hr
                  · exact tm_callT rfl rfl (tm_callV rfl rfl c18 rfl rfl) (lq_58 m21) qz24 rfl
                · rw [if_neg c18] at hr
                  cases hr
              · exact tm_callT rfl rfl (tm_callV rfl rfl c13 rfl rfl) (lq_46 m16) qz26 rfl
            · rw [if_neg c13] at hr
              cases hr
          · exact tm_callT rfl rfl (tm_callV rfl rfl c9 rfl rfl) (lq_58 m12) qz28 rfl
        · rw [if_neg c9] at hr
          cases hr
      · exact tm_callT rfl rfl (tm_callV rfl rfl c5 rfl rfl) (lq_46 m8) qz30 rfl
    · rw [if_neg c5] at hr
      cases hr
  · exact tm_callT rfl rfl (tm_callP rfl rfl rfl) (lq_3 m4) qz32 rfl
-- java/util/ArrayList.rangeCheckForAdd(I)V
set_option maxRecDepth 20000 in
def ll_116 (w : Option Nat) (a0 : Option Nat) (a1 : Int32) (h : pm_H) : tm_L := (lf_I h a0 [12, 1]).bind fun v1 => if v1 < a1 then none else if (0 : Int32) ≤ a1 then some (.inl none, h) else none
set_option maxRecDepth 20000 in
theorem lq_116 {w : Option Nat} {d : Nat} {a0 : Option Nat} {a1 : Int32} {h : pm_H} {r : tm_O × pm_H} (hr : ll_116 w a0 a1 h = some r) : tm_run pt_P (pt_G (tm_r w)) (d + 11) 116 [.inr (.inr a0), .inl a1] h r := by
  unfold ll_116 at hr
  show pm_to pt_P (pt_G (tm_r w)) (d + 11) (pt_g116, []) (tm_m (0, [(0, .inr (.inr a0)), (1, .inl a1)], [])) h (tm_e r)
  refine tm_n 2 (F' := (2, [(0, .inr (.inr a0)), (1, .inl a1)], [.inr (.inr a0), .inl a1])) rfl ?_
  obtain ⟨v1, qv1, hr⟩ := Option.bind_eq_some_iff.mp hr
  refine tm_getf rfl (lf_I_V qv1) ?_
  by_cases c3 : v1 < a1
  · rw [if_pos c3] at hr
    refine tm_icT rfl c3 ?_
    cases hr
  · rw [if_neg c3] at hr
    refine tm_icF rfl c3 ?_
    refine tm_n 1 (F' := (9, [(0, .inr (.inr a0)), (1, .inl a1)], [.inl a1])) rfl ?_
    by_cases c2 : (0 : Int32) ≤ a1
    · rw [if_pos c2] at hr
      refine tm_ifT rfl c2 ?_
      cases hr
      exact tm_retV rfl
    · rw [if_neg c2] at hr
      refine tm_ifF rfl c2 ?_
      cases hr
-- java/util/ArrayList.add(ILjava/lang/Object;)V
set_option maxRecDepth 20000 in
def l115_38 (w : Option Nat) (x0 : Option Nat) (x1 : Int32) (x2 : Option Nat) (x3 : Int32) (x4 : Option Nat) (h : pm_H) : tm_L := (lf_cp pt_P h x4 x1 x4 (x1 + (1 : Int32)) (x3 - x1)).bind fun h1 => (la_S pt_P h1 .aastore x4 x1 (.inr (.inr x2))).bind fun h2 => (lf_P 81 h2 x0 [0, 12, 1] (.inl (x3 + (1 : Int32)))).bind fun h3 => some (.inl none, h3)
set_option maxRecDepth 20000 in
theorem l115_38_t {w : Option Nat} {d : Nat} {x0 : Option Nat} {x1 : Int32} {x2 : Option Nat} {x3 : Int32} {x4 : Option Nat} {h : pm_H} {r : tm_O × pm_H} (hr : l115_38 w x0 x1 x2 x3 x4 h = some r) : pm_to pt_P (pt_G (tm_r w)) (d + 12) (pt_g115, []) (tm_m (38, [(0, .inr (.inr x0)), (1, .inl x1), (2, .inr (.inr x2)), (3, .inl x3), (4, .inr (.inr x4))], [])) h (tm_e r) := by
  unfold l115_38 at hr
  refine tm_n 9 (F' := (49, [(0, .inr (.inr x0)), (1, .inl x1), (2, .inr (.inr x2)), (3, .inl x3), (4, .inr (.inr x4))], [.inl (x3 - x1), .inl (x1 + (1 : Int32)), .inr (.inr x4), .inl x1, .inr (.inr x4)])) rfl ?_
  obtain ⟨h1, qh1, hr⟩ := Option.bind_eq_some_iff.mp hr
  refine tm_acp rfl rfl qh1 ?_
  refine tm_n 3 (F' := (56, [(0, .inr (.inr x0)), (1, .inl x1), (2, .inr (.inr x2)), (3, .inl x3), (4, .inr (.inr x4))], [.inr (.inr x2), .inl x1, .inr (.inr x4)])) rfl ?_
  obtain ⟨h2, qh2, hr⟩ := Option.bind_eq_some_iff.mp hr
  refine tm_ast rfl rfl qh2 ?_
  refine tm_n 4 (F' := (61, [(0, .inr (.inr x0)), (1, .inl x1), (2, .inr (.inr x2)), (3, .inl x3), (4, .inr (.inr x4))], [.inl (x3 + (1 : Int32)), .inr (.inr x0)])) rfl ?_
  obtain ⟨h3, qh3, hr⟩ := Option.bind_eq_some_iff.mp hr
  refine tm_putf rfl qh3 ?_
  cases hr
  exact tm_retV rfl
set_option maxRecDepth 20000 in
def ll_115 (w : Option Nat) (a0 : Option Nat) (a1 : Int32) (a2 : Option Nat) (h : pm_H) : tm_L := if lc_of h a0 = some 12 then lb_V (ll_116 w a0 a1 h) (fun h3 => (lf_I h3 a0 [12, 2]).bind fun v5 => (lf_P 81 h3 a0 [0, 12, 2] (.inl (v5 + (1 : Int32)))).bind fun h6 => (lf_I h6 a0 [12, 1]).bind fun v7 => (lf_R h6 a0 [12, 0]).bind fun v8 => (la_len h6 v8).bind fun v9 => if v7 = v9 then if lc_of h6 a0 = some 12 then lb_R (ll_107 a0 h6) (fun v11 h12 => l115_38 w a0 a1 a2 v7 v11 h12) else none else l115_38 w a0 a1 a2 v7 v8 h6) else none
set_option maxRecDepth 20000 in
theorem lq_115 {w : Option Nat} {d : Nat} {a0 : Option Nat} {a1 : Int32} {a2 : Option Nat} {h : pm_H} {r : tm_O × pm_H} (hr : ll_115 w a0 a1 a2 h = some r) : tm_run pt_P (pt_G (tm_r w)) (d + 12) 115 [.inr (.inr a0), .inl a1, .inr (.inr a2)] h r := by
  unfold ll_115 at hr
  show pm_to pt_P (pt_G (tm_r w)) (d + 12) (pt_g115, []) (tm_m (0, [(0, .inr (.inr a0)), (1, .inl a1), (2, .inr (.inr a2))], [])) h (tm_e r)
  refine tm_n 2 (F' := (2, [(0, .inr (.inr a0)), (1, .inl a1), (2, .inr (.inr a2))], [.inl a1, .inr (.inr a0)])) rfl ?_
  by_cases c1 : lc_of h a0 = some 12
  · rw [if_pos c1] at hr
    rcases lb_V_s hr with ⟨h3, m4, hr⟩ | ⟨a17, h3, z18, z18l, m4, qz18, rfl⟩
    · try dsimp only at hr
      refine tm_call rfl rfl (tm_callV rfl rfl c1 rfl rfl) (lq_116 m4) ?_
      refine tm_n 2 (F' := (7, [(0, .inr (.inr a0)), (1, .inl a1), (2, .inr (.inr a2))], [.inr (.inr a0), .inr (.inr a0)])) rfl ?_
      obtain ⟨v5, qv5, hr⟩ := Option.bind_eq_some_iff.mp hr
      refine tm_getf rfl (lf_I_V qv5) ?_
      refine tm_n 2 (F' := (12, [(0, .inr (.inr a0)), (1, .inl a1), (2, .inr (.inr a2))], [.inl (v5 + (1 : Int32)), .inr (.inr a0)])) rfl ?_
      obtain ⟨h6, qh6, hr⟩ := Option.bind_eq_some_iff.mp hr
      refine tm_putf rfl qh6 ?_
      refine tm_n 1 (F' := (16, [(0, .inr (.inr a0)), (1, .inl a1), (2, .inr (.inr a2))], [.inr (.inr a0)])) rfl ?_
      obtain ⟨v7, qv7, hr⟩ := Option.bind_eq_some_iff.mp hr
      refine tm_getf rfl (lf_I_V qv7) ?_
      refine tm_n 3 (F' := (22, [(3, .inl v7), (0, .inr (.inr a0)), (1, .inl a1), (2, .inr (.inr a2))], [.inr (.inr a0), .inl v7])) rfl ?_
      obtain ⟨v8, qv8, hr⟩ := Option.bind_eq_some_iff.mp hr
      refine tm_getf rfl (lf_R_V qv8) ?_
      refine tm_n 2 (F' := (28, [(4, .inr (.inr v8)), (3, .inl v7), (0, .inr (.inr a0)), (1, .inl a1), (2, .inr (.inr a2))], [.inr (.inr v8), .inl v7])) rfl ?_
      obtain ⟨v9, qv9, hr⟩ := Option.bind_eq_some_iff.mp hr
      refine tm_alen rfl qv9 ?_
      by_cases c16 : v7 = v9
      · rw [if_pos c16] at hr
        refine tm_icF rfl (fun q => q c16) ?_
        refine tm_n 1 (F' := (33, [(4, .inr (.inr v8)), (3, .inl v7), (0, .inr (.inr a0)), (1, .inl a1), (2, .inr (.inr a2))], [.inr (.inr a0)])) rfl ?_
        by_cases c10 : lc_of h6 a0 = some 12
        · rw [if_pos c10] at hr
          rcases lb_R_s hr with ⟨v11, h12, m13, hr⟩ | ⟨a14, h12, z15, z15l, m13, qz15, rfl⟩
          · try dsimp only at hr
            refine tm_call rfl rfl (tm_callV rfl rfl c10 rfl rfl) (lq_107 m13) ?_
            refine tm_n 1 (F' := (38, [(4, .inr (.inr v11)), (3, .inl v7), (0, .inr (.inr a0)), (1, .inl a1), (2, .inr (.inr a2))], [])) rfl ?_
            refine tm_cut (a := [(0, .inr (.inr a0)), (1, .inl a1), (2, .inr (.inr a2)), (3, .inl v7), (4, .inr (.inr v11))]) rfl (tm_sbs [2, 3, 4, 1, 0] rfl) ?_
            exact l115_38_t hr
          · exact tm_callT rfl rfl (tm_callV rfl rfl c10 rfl rfl) (lq_107 m13) qz15 rfl
        · rw [if_neg c10] at hr
          cases hr
      · rw [if_neg c16] at hr
        refine tm_icT rfl c16 ?_
        refine tm_cut (a := [(0, .inr (.inr a0)), (1, .inl a1), (2, .inr (.inr a2)), (3, .inl v7), (4, .inr (.inr v8))]) rfl (tm_sbs [2, 3, 4, 1, 0] rfl) ?_
        exact l115_38_t hr
    · exact tm_callT rfl rfl (tm_callV rfl rfl c1 rfl rfl) (lq_116 m4) qz18 rfl
  · rw [if_neg c1] at hr
    cases hr
-- OfficeSheet$Axis.insert(LOfficeSheet$Place;)V
set_option maxRecDepth 20000 in
def l113_49 (w : Option Nat) (x0 : Option Nat) (x1 : Option Nat) (x2 : Int32) (h : pm_H) : tm_L := (lf_R h x0 [5, 0]).bind fun v1 => if lc_of h v1 = some 12 then lb_V (ll_115 w v1 x2 x1 h) (fun h4 => some (.inl none, h4)) else none
set_option maxRecDepth 20000 in
theorem l113_49_t {w : Option Nat} {d : Nat} {x0 : Option Nat} {x1 : Option Nat} {x2 : Int32} {h : pm_H} {r : tm_O × pm_H} (hr : l113_49 w x0 x1 x2 h = some r) : pm_to pt_P (pt_G (tm_r w)) (d + 13) (pt_g113, []) (tm_m (49, [(0, .inr (.inr x0)), (1, .inr (.inr x1)), (2, .inl x2)], [])) h (tm_e r) := by
  unfold l113_49 at hr
  refine tm_n 1 (F' := (50, [(0, .inr (.inr x0)), (1, .inr (.inr x1)), (2, .inl x2)], [.inr (.inr x0)])) rfl ?_
  obtain ⟨v1, qv1, hr⟩ := Option.bind_eq_some_iff.mp hr
  refine tm_getf rfl (lf_R_V qv1) ?_
  refine tm_n 2 (F' := (55, [(0, .inr (.inr x0)), (1, .inr (.inr x1)), (2, .inl x2)], [.inr (.inr x1), .inl x2, .inr (.inr v1)])) rfl ?_
  by_cases c2 : lc_of h v1 = some 12
  · rw [if_pos c2] at hr
    rcases lb_V_s hr with ⟨h4, m5, hr⟩ | ⟨a6, h4, z7, z7l, m5, qz7, rfl⟩
    · try dsimp only at hr
      refine tm_call rfl rfl (tm_callV rfl rfl c2 rfl rfl) (lq_115 m5) ?_
      cases hr
      exact tm_retV rfl
    · exact tm_callT rfl rfl (tm_callV rfl rfl c2 rfl rfl) (lq_115 m5) qz7 rfl
  · rw [if_neg c2] at hr
    cases hr
set_option maxRecDepth 20000 in
def l113_11 (w : Option Nat) : Nat → Option Nat → Option Nat → Int32 → pm_H → tm_L
  | 0 => fun _ _ _ _ => none
  | n + 1 => fun x0 x1 x2 h => (lf_R h x0 [5, 0]).bind fun v1 => if lc_of h v1 = some 12 then lb_I (ll_86 v1 h) (fun v3 h4 => if v3 ≤ x2 then l113_49 w x0 x1 x2 h4 else (lf_R h4 x0 [5, 0]).bind fun v6 => if lc_of h4 v6 = some 12 then lb_R (ll_87 v6 x2 h4) (fun v8 h9 => if lf_cc 81 h9 v8 [8] = true then (lf_I h9 v8 [8, 2]).bind fun v12 => (lf_I h9 x1 [8, 2]).bind fun v13 => if v12 ≤ v13 then l113_49 w x0 x1 x2 h9 else l113_11 w n x0 x1 (x2 + (1 : Int32)) h9 else none) else none) else none
set_option maxRecDepth 20000 in
theorem l113_11_t {w : Option Nat} {d : Nat} : ∀ (n : Nat) {x0 : Option Nat} {x1 : Option Nat} {x2 : Int32} {h : pm_H} {r : tm_O × pm_H}, l113_11 w n x0 x1 x2 h = some r → pm_to pt_P (pt_G (tm_r w)) (d + 13) (pt_g113, []) (tm_m (11, [(0, .inr (.inr x0)), (1, .inr (.inr x1)), (2, .inl x2)], [])) h (tm_e r) := by
  intro n
  induction n with
  | zero => intro x0 x1 x2 h r hr; cases hr
  | succ n ih =>
    intro x0 x1 x2 h r hr
    unfold l113_11 at hr
    refine tm_n 2 (F' := (13, [(0, .inr (.inr x0)), (1, .inr (.inr x1)), (2, .inl x2)], [.inr (.inr x0), .inl x2])) rfl ?_
    obtain ⟨v1, qv1, hr⟩ := Option.bind_eq_some_iff.mp hr
    refine tm_getf rfl (lf_R_V qv1) ?_
    by_cases c2 : lc_of h v1 = some 12
    · rw [if_pos c2] at hr
      rcases lb_I_s hr with ⟨v3, h4, m5, hr⟩ | ⟨a18, h4, z19, z19l, m5, qz19, rfl⟩
      · try dsimp only at hr
        refine tm_call rfl rfl (tm_callV rfl rfl c2 rfl rfl) (lq_86 m5) ?_
        by_cases c17 : v3 ≤ x2
        · rw [if_pos c17] at hr
          refine tm_icT rfl c17 ?_
          refine tm_cut (a := [(0, .inr (.inr x0)), (1, .inr (.inr x1)), (2, .inl x2)]) rfl (tm_sbs [0, 1, 2] rfl) ?_
          exact l113_49_t hr
        · rw [if_neg c17] at hr
          refine tm_icF rfl c17 ?_
          refine tm_n 1 (F' := (23, [(0, .inr (.inr x0)), (1, .inr (.inr x1)), (2, .inl x2)], [.inr (.inr x0)])) rfl ?_
          obtain ⟨v6, qv6, hr⟩ := Option.bind_eq_some_iff.mp hr
          refine tm_getf rfl (lf_R_V qv6) ?_
          refine tm_n 1 (F' := (27, [(0, .inr (.inr x0)), (1, .inr (.inr x1)), (2, .inl x2)], [.inl x2, .inr (.inr v6)])) rfl ?_
          by_cases c7 : lc_of h4 v6 = some 12
          · rw [if_pos c7] at hr
            rcases lb_R_s hr with ⟨v8, h9, m10, hr⟩ | ⟨a15, h9, z16, z16l, m10, qz16, rfl⟩
            · try dsimp only at hr
              refine tm_call rfl rfl (tm_callV rfl rfl c7 rfl rfl) (lq_87 m10) ?_
              by_cases c11 : lf_cc 81 h9 v8 [8] = true
              · rw [if_pos c11] at hr
                refine tm_cc rfl c11 ?_
                obtain ⟨v12, qv12, hr⟩ := Option.bind_eq_some_iff.mp hr
                refine tm_getf rfl (lf_I_V qv12) ?_
                refine tm_n 1 (F' := (37, [(0, .inr (.inr x0)), (1, .inr (.inr x1)), (2, .inl x2)], [.inr (.inr x1), .inl v12])) rfl ?_
                obtain ⟨v13, qv13, hr⟩ := Option.bind_eq_some_iff.mp hr
                refine tm_getf rfl (lf_I_V qv13) ?_
                by_cases c14 : v12 ≤ v13
                · rw [if_pos c14] at hr
                  refine tm_icT rfl c14 ?_
                  refine tm_cut (a := [(0, .inr (.inr x0)), (1, .inr (.inr x1)), (2, .inl x2)]) rfl (tm_sbs [0, 1, 2] rfl) ?_
                  exact l113_49_t hr
                · rw [if_neg c14] at hr
                  refine tm_icF rfl c14 ?_
                  refine tm_n 2 (F' := (11, [(2, .inl (x2 + (1 : Int32))), (0, .inr (.inr x0)), (1, .inr (.inr x1))], [])) rfl ?_
                  refine tm_cut (a := [(0, .inr (.inr x0)), (1, .inr (.inr x1)), (2, .inl (x2 + (1 : Int32)))]) rfl (tm_sbs [1, 2, 0] rfl) ?_
                  exact ih hr
              · rw [if_neg c11] at hr
                cases hr
            · exact tm_callT rfl rfl (tm_callV rfl rfl c7 rfl rfl) (lq_87 m10) qz16 rfl
          · rw [if_neg c7] at hr
            cases hr
      · exact tm_callT rfl rfl (tm_callV rfl rfl c2 rfl rfl) (lq_86 m5) qz19 rfl
    · rw [if_neg c2] at hr
      cases hr
set_option maxRecDepth 20000 in
def ll_113 (w : Option Nat) (a0 : Option Nat) (a1 : Option Nat) (h : pm_H) : tm_L := (lf_R h a1 [8, 1]).bind fun v1 => if lc_of h a0 = some 5 then lb_I (ll_114 a0 v1 h) (fun v3 h4 => l113_11 w lf_N a0 a1 (v3 + (1 : Int32)) h4) else none
set_option maxRecDepth 20000 in
theorem lq_113 {w : Option Nat} {d : Nat} {a0 : Option Nat} {a1 : Option Nat} {h : pm_H} {r : tm_O × pm_H} (hr : ll_113 w a0 a1 h = some r) : tm_run pt_P (pt_G (tm_r w)) (d + 13) 113 [.inr (.inr a0), .inr (.inr a1)] h r := by
  unfold ll_113 at hr
  show pm_to pt_P (pt_G (tm_r w)) (d + 13) (pt_g113, []) (tm_m (0, [(0, .inr (.inr a0)), (1, .inr (.inr a1))], [])) h (tm_e r)
  refine tm_n 2 (F' := (2, [(0, .inr (.inr a0)), (1, .inr (.inr a1))], [.inr (.inr a1), .inr (.inr a0)])) rfl ?_
  obtain ⟨v1, qv1, hr⟩ := Option.bind_eq_some_iff.mp hr
  refine tm_getf rfl (lf_R_V qv1) ?_
  by_cases c2 : lc_of h a0 = some 5
  · rw [if_pos c2] at hr
    rcases lb_I_s hr with ⟨v3, h4, m5, hr⟩ | ⟨a6, h4, z7, z7l, m5, qz7, rfl⟩
    · try dsimp only at hr
      refine tm_call rfl rfl (tm_callV rfl rfl c2 rfl rfl) (lq_114 m5) ?_
      refine tm_n 3 (F' := (11, [(2, .inl (v3 + (1 : Int32))), (0, .inr (.inr a0)), (1, .inr (.inr a1))], [])) rfl ?_
      refine tm_cut (a := [(0, .inr (.inr a0)), (1, .inr (.inr a1)), (2, .inl (v3 + (1 : Int32)))]) rfl (tm_sbs [1, 2, 0] rfl) ?_
      exact l113_11_t lf_N hr
    · exact tm_callT rfl rfl (tm_callV rfl rfl c2 rfl rfl) (lq_114 m5) qz7 rfl
  · rw [if_neg c2] at hr
    cases hr
-- OfficeSheet$ActKind.speaksOfPlace()Z
set_option maxRecDepth 20000 in
def ll_118 (a0 : Option Nat) (h : pm_H) : tm_L := if lc_of h a0 = some 18 then lb_I (ll_112 a0 h) (fun v2 h3 => if v2 = (0 : Int32) then lb_A (tm_acm a0 (some 3)) (some (.inl (some (.inl (1 : Int32))), h3)) (some (.inl (some (.inl (0 : Int32))), h3)) else some (.inl (some (.inl (1 : Int32))), h3)) else none
set_option maxRecDepth 20000 in
theorem lq_118 {w : Option Nat} {d : Nat} {a0 : Option Nat} {h : pm_H} {r : tm_O × pm_H} (hr : ll_118 a0 h = some r) : tm_run pt_P (pt_G (tm_r w)) (d + 1) 118 [.inr (.inr a0)] h r := by
  unfold ll_118 at hr
  show pm_to pt_P (pt_G (tm_r w)) (d + 1) (pt_g118, []) (tm_m (0, [(0, .inr (.inr a0))], [])) h (tm_e r)
  refine tm_n 1 (F' := (1, [(0, .inr (.inr a0))], [.inr (.inr a0)])) rfl ?_
  by_cases c1 : lc_of h a0 = some 18
  · rw [if_pos c1] at hr
    rcases lb_I_s hr with ⟨v2, h3, m4, hr⟩ | ⟨a7, h3, z8, z8l, m4, qz8, rfl⟩
    · try dsimp only at hr
      refine tm_call rfl rfl (tm_callV rfl rfl c1 rfl rfl) (lq_112 m4) ?_
      by_cases c6 : v2 = (0 : Int32)
      · rw [if_pos c6] at hr
        refine tm_ifF rfl (fun q => q c6) ?_
        refine tm_n 2 (F' := (11, [(0, .inr (.inr a0))], [.inr (.inr (some 3)), .inr (.inr a0)])) rfl ?_
        rcases lb_A_s hr with ⟨c5, hr⟩ | ⟨c5, hr⟩
        · refine tm_anF rfl c5 ?_
          refine tm_n 2 (F' := (19, [(0, .inr (.inr a0))], [.inl (1 : Int32)])) rfl ?_
          cases hr
          exact tm_retI rfl rfl
        · refine tm_anT rfl c5 ?_
          refine tm_n 1 (F' := (19, [(0, .inr (.inr a0))], [.inl (0 : Int32)])) rfl ?_
          cases hr
          exact tm_retI rfl rfl
      · rw [if_neg c6] at hr
        refine tm_ifT rfl c6 ?_
        refine tm_n 2 (F' := (19, [(0, .inr (.inr a0))], [.inl (1 : Int32)])) rfl ?_
        cases hr
        exact tm_retI rfl rfl
    · exact tm_callT rfl rfl (tm_callV rfl rfl c1 rfl rfl) (lq_112 m4) qz8 rfl
  · rw [if_neg c1] at hr
    cases hr
-- OfficeSheet$ActKind.speaksOfBeing()Z
set_option maxRecDepth 20000 in
def ll_119 (a0 : Option Nat) (h : pm_H) : tm_L := lb_A (tm_acm a0 (some 1)) (some (.inl (some (.inl (1 : Int32))), h)) (lb_A (tm_acm a0 (some 4)) (some (.inl (some (.inl (1 : Int32))), h)) (lb_A (tm_acm a0 (some 5)) (some (.inl (some (.inl (1 : Int32))), h)) (some (.inl (some (.inl (0 : Int32))), h))))
set_option maxRecDepth 20000 in
theorem lq_119 {w : Option Nat} {d : Nat} {a0 : Option Nat} {h : pm_H} {r : tm_O × pm_H} (hr : ll_119 a0 h = some r) : tm_run pt_P (pt_G (tm_r w)) (d + 0) 119 [.inr (.inr a0)] h r := by
  unfold ll_119 at hr
  show pm_to pt_P (pt_G (tm_r w)) (d + 0) (pt_g119, []) (tm_m (0, [(0, .inr (.inr a0))], [])) h (tm_e r)
  refine tm_n 2 (F' := (4, [(0, .inr (.inr a0))], [.inr (.inr (some 1)), .inr (.inr a0)])) rfl ?_
  rcases lb_A_s hr with ⟨c1, hr⟩ | ⟨c1, hr⟩
  · refine tm_aeT rfl c1 ?_
    refine tm_n 2 (F' := (26, [(0, .inr (.inr a0))], [.inl (1 : Int32)])) rfl ?_
    cases hr
    exact tm_retI rfl rfl
  · refine tm_aeF rfl c1 ?_
    refine tm_n 2 (F' := (11, [(0, .inr (.inr a0))], [.inr (.inr (some 4)), .inr (.inr a0)])) rfl ?_
    rcases lb_A_s hr with ⟨c2, hr⟩ | ⟨c2, hr⟩
    · refine tm_aeT rfl c2 ?_
      refine tm_n 2 (F' := (26, [(0, .inr (.inr a0))], [.inl (1 : Int32)])) rfl ?_
      cases hr
      exact tm_retI rfl rfl
    · refine tm_aeF rfl c2 ?_
      refine tm_n 2 (F' := (18, [(0, .inr (.inr a0))], [.inr (.inr (some 5)), .inr (.inr a0)])) rfl ?_
      rcases lb_A_s hr with ⟨c3, hr⟩ | ⟨c3, hr⟩
      · refine tm_anF rfl c3 ?_
        refine tm_n 2 (F' := (26, [(0, .inr (.inr a0))], [.inl (1 : Int32)])) rfl ?_
        cases hr
        exact tm_retI rfl rfl
      · refine tm_anT rfl c3 ?_
        refine tm_n 1 (F' := (26, [(0, .inr (.inr a0))], [.inl (0 : Int32)])) rfl ?_
        cases hr
        exact tm_retI rfl rfl
-- java/util/ArrayList.clear()V
set_option maxRecDepth 20000 in
def l121_27 : Nat → Option Nat → Int32 → Int32 → pm_H → tm_L
  | 0 => fun _ _ _ _ => none
  | n + 1 => fun x1 x2 x3 h => if x2 ≤ x3 then some (.inl none, h) else (la_S pt_P h .aastore x1 x3 (.inr (.inr none))).bind fun h1 => l121_27 n x1 x2 (x3 + (1 : Int32)) h1
set_option maxRecDepth 20000 in
theorem l121_27_t {w : Option Nat} {d : Nat} : ∀ (n : Nat) {x1 : Option Nat} {x2 : Int32} {x3 : Int32} {h : pm_H} {r : tm_O × pm_H}, l121_27 n x1 x2 x3 h = some r → pm_to pt_P (pt_G (tm_r w)) (d + 0) (pt_g121, []) (tm_m (27, [(1, .inr (.inr x1)), (2, .inl x2), (3, .inl x3)], [])) h (tm_e r) := by
  intro n
  induction n with
  | zero => intro x1 x2 x3 h r hr; cases hr
  | succ n ih =>
    intro x1 x2 x3 h r hr
    unfold l121_27 at hr
    refine tm_n 2 (F' := (29, [(1, .inr (.inr x1)), (2, .inl x2), (3, .inl x3)], [.inl x2, .inl x3])) rfl ?_
    by_cases c2 : x2 ≤ x3
    · rw [if_pos c2] at hr
      refine tm_icT rfl c2 ?_
      cases hr
      exact tm_retV rfl
    · rw [if_neg c2] at hr
      refine tm_icF rfl c2 ?_
      refine tm_n 3 (F' := (35, [(1, .inr (.inr x1)), (2, .inl x2), (3, .inl x3)], [.inr (.inr none), .inl x3, .inr (.inr x1)])) rfl ?_
      obtain ⟨h1, qh1, hr⟩ := Option.bind_eq_some_iff.mp hr
      refine tm_ast rfl rfl qh1 ?_
      refine tm_n 2 (F' := (27, [(3, .inl (x3 + (1 : Int32))), (1, .inr (.inr x1)), (2, .inl x2)], [])) rfl ?_
      refine tm_cut (a := [(1, .inr (.inr x1)), (2, .inl x2), (3, .inl (x3 + (1 : Int32)))]) rfl (tm_sbs [1, 2, 0] rfl) ?_
      exact ih hr
set_option maxRecDepth 20000 in
def ll_121 (a0 : Option Nat) (h : pm_H) : tm_L := (lf_I h a0 [12, 2]).bind fun v1 => (lf_P 81 h a0 [0, 12, 2] (.inl (v1 + (1 : Int32)))).bind fun h2 => (lf_R h2 a0 [12, 0]).bind fun v3 => (lf_I h2 a0 [12, 1]).bind fun v4 => (lf_P 81 h2 a0 [0, 12, 1] (.inl (0 : Int32))).bind fun h5 => l121_27 lf_N v3 v4 (0 : Int32) h5
set_option maxRecDepth 20000 in
theorem lq_121 {w : Option Nat} {d : Nat} {a0 : Option Nat} {h : pm_H} {r : tm_O × pm_H} (hr : ll_121 a0 h = some r) : tm_run pt_P (pt_G (tm_r w)) (d + 0) 121 [.inr (.inr a0)] h r := by
  unfold ll_121 at hr
  show pm_to pt_P (pt_G (tm_r w)) (d + 0) (pt_g121, []) (tm_m (0, [(0, .inr (.inr a0))], [])) h (tm_e r)
  refine tm_n 2 (F' := (2, [(0, .inr (.inr a0))], [.inr (.inr a0), .inr (.inr a0)])) rfl ?_
  obtain ⟨v1, qv1, hr⟩ := Option.bind_eq_some_iff.mp hr
  refine tm_getf rfl (lf_I_V qv1) ?_
  refine tm_n 2 (F' := (7, [(0, .inr (.inr a0))], [.inl (v1 + (1 : Int32)), .inr (.inr a0)])) rfl ?_
  obtain ⟨h2, qh2, hr⟩ := Option.bind_eq_some_iff.mp hr
  refine tm_putf rfl qh2 ?_
  refine tm_n 1 (F' := (11, [(0, .inr (.inr a0))], [.inr (.inr a0)])) rfl ?_
  obtain ⟨v3, qv3, hr⟩ := Option.bind_eq_some_iff.mp hr
  refine tm_getf rfl (lf_R_V qv3) ?_
  refine tm_n 2 (F' := (16, [(1, .inr (.inr v3)), (0, .inr (.inr a0))], [.inr (.inr a0)])) rfl ?_
  obtain ⟨v4, qv4, hr⟩ := Option.bind_eq_some_iff.mp hr
  refine tm_getf rfl (lf_I_V qv4) ?_
  refine tm_n 4 (F' := (23, [(2, .inl v4), (1, .inr (.inr v3)), (0, .inr (.inr a0))], [.inl (0 : Int32), .inr (.inr a0), .inl (0 : Int32)])) rfl ?_
  obtain ⟨h5, qh5, hr⟩ := Option.bind_eq_some_iff.mp hr
  refine tm_putf rfl qh5 ?_
  refine tm_n 1 (F' := (27, [(3, .inl (0 : Int32)), (2, .inl v4), (1, .inr (.inr v3)), (0, .inr (.inr a0))], [])) rfl ?_
  refine tm_cut (a := [(1, .inr (.inr v3)), (2, .inl v4), (3, .inl (0 : Int32))]) rfl (tm_sbs [2, 1, 0] rfl) ?_
  exact l121_27_t lf_N hr
-- OfficeSheet$Axis.isThere(LOfficeSheet$Line;)Z
set_option maxRecDepth 20000 in
def ll_122 (a0 : Option Nat) (a1 : Option Nat) (h : pm_H) : tm_L := (lf_R h a0 [5, 3]).bind fun v1 => (lf_I h a1 [6, 2]).bind fun v2 => (la_R h .aaload v1 v2).bind fun v3 => match v3 with | none => (some (.inl (some (.inl (0 : Int32))), h)) | some a4 => ((lf_R h (some a4) [7, 0]).bind fun v5 => lb_A (tm_acm v5 (some 5)) (some (.inl (some (.inl (0 : Int32))), h)) (some (.inl (some (.inl (1 : Int32))), h)))
set_option maxRecDepth 20000 in
theorem lq_122 {w : Option Nat} {d : Nat} {a0 : Option Nat} {a1 : Option Nat} {h : pm_H} {r : tm_O × pm_H} (hr : ll_122 a0 a1 h = some r) : tm_run pt_P (pt_G (tm_r w)) (d + 0) 122 [.inr (.inr a0), .inr (.inr a1)] h r := by
  unfold ll_122 at hr
  show pm_to pt_P (pt_G (tm_r w)) (d + 0) (pt_g122, []) (tm_m (0, [(0, .inr (.inr a0)), (1, .inr (.inr a1))], [])) h (tm_e r)
  refine tm_n 1 (F' := (1, [(0, .inr (.inr a0)), (1, .inr (.inr a1))], [.inr (.inr a0)])) rfl ?_
  obtain ⟨v1, qv1, hr⟩ := Option.bind_eq_some_iff.mp hr
  refine tm_getf rfl (lf_R_V qv1) ?_
  refine tm_n 1 (F' := (5, [(0, .inr (.inr a0)), (1, .inr (.inr a1))], [.inr (.inr a1), .inr (.inr v1)])) rfl ?_
  obtain ⟨v2, qv2, hr⟩ := Option.bind_eq_some_iff.mp hr
  refine tm_getf rfl (lf_I_V qv2) ?_
  obtain ⟨v3, qv3, hr⟩ := Option.bind_eq_some_iff.mp hr
  refine tm_ald rfl rfl (la_R_V qv3) ?_
  refine tm_n 2 (F' := (11, [(2, .inr (.inr v3)), (0, .inr (.inr a0)), (1, .inr (.inr a1))], [.inr (.inr v3)])) rfl ?_
  cases v3 with
  | none =>
    try dsimp only at hr
    refine tm_nuT rfl ?_
    refine tm_n 1 (F' := (29, [(2, .inr (.inr none)), (0, .inr (.inr a0)), (1, .inr (.inr a1))], [.inl (0 : Int32)])) rfl ?_
    cases hr
    exact tm_retI rfl rfl
  | some a4 =>
    try dsimp only at hr
    refine tm_nuF rfl ?_
    refine tm_n 1 (F' := (15, [(2, .inr (.inr (some a4))), (0, .inr (.inr a0)), (1, .inr (.inr a1))], [.inr (.inr (some a4))])) rfl ?_
    obtain ⟨v5, qv5, hr⟩ := Option.bind_eq_some_iff.mp hr
    refine tm_getf rfl (lf_R_V qv5) ?_
    refine tm_n 1 (F' := (21, [(2, .inr (.inr (some a4))), (0, .inr (.inr a0)), (1, .inr (.inr a1))], [.inr (.inr (some 5)), .inr (.inr v5)])) rfl ?_
    rcases lb_A_s hr with ⟨c6, hr⟩ | ⟨c6, hr⟩
    · refine tm_aeT rfl c6 ?_
      refine tm_n 1 (F' := (29, [(2, .inr (.inr (some a4))), (0, .inr (.inr a0)), (1, .inr (.inr a1))], [.inl (0 : Int32)])) rfl ?_
      cases hr
      exact tm_retI rfl rfl
    · refine tm_aeF rfl c6 ?_
      refine tm_n 2 (F' := (29, [(2, .inr (.inr (some a4))), (0, .inr (.inr a0)), (1, .inr (.inr a1))], [.inl (1 : Int32)])) rfl ?_
      cases hr
      exact tm_retI rfl rfl
-- OfficeSheet$Axis.showAnew()V
set_option maxRecDepth 20000 in
def l120_94 (K17 : Option Nat → Int32 → pm_H → tm_L) (x0 : Option Nat) (x1 : Int32) (h : pm_H) : tm_L := K17 x0 (x1 + (1 : Int32)) h
set_option maxRecDepth 20000 in
theorem l120_94_t {w : Option Nat} {d : Nat} {K17 : Option Nat → Int32 → pm_H → tm_L} (hK17 : ∀ {x0 : Option Nat} {x1 : Int32}  {h : pm_H} {r : tm_O × pm_H}, K17 x0 x1 h = some r → pm_to pt_P (pt_G (tm_r w)) (d + 7) (pt_g120, []) (tm_m (17, [(0, .inr (.inr x0)), (1, .inl x1)], [])) h (tm_e r)) {x0 : Option Nat} {x1 : Int32} {h : pm_H} {r : tm_O × pm_H} (hr : l120_94 K17 x0 x1 h = some r) : pm_to pt_P (pt_G (tm_r w)) (d + 7) (pt_g120, []) (tm_m (94, [(0, .inr (.inr x0)), (1, .inl x1)], [])) h (tm_e r) := by
  unfold l120_94 at hr
  refine tm_n 2 (F' := (17, [(1, .inl (x1 + (1 : Int32))), (0, .inr (.inr x0))], [])) rfl ?_
  refine tm_cut (a := [(0, .inr (.inr x0)), (1, .inl (x1 + (1 : Int32)))]) rfl (tm_sbs [1, 0] rfl) ?_
  exact hK17 hr
set_option maxRecDepth 20000 in
def l120_17 : Nat → Option Nat → Int32 → pm_H → tm_L
  | 0 => fun _ _ _ => none
  | n + 1 => fun x0 x1 h => (lf_R h x0 [5, 0]).bind fun v1 => if lc_of h v1 = some 12 then lb_I (ll_86 v1 h) (fun v3 h4 => if v3 ≤ x1 then some (.inl none, h4) else (lf_R h4 x0 [5, 0]).bind fun v6 => if lc_of h4 v6 = some 12 then lb_R (ll_87 v6 x1 h4) (fun v8 h9 => if lf_cc 81 h9 v8 [8] = true then (lf_R h9 v8 [8, 0]).bind fun v12 => if lc_of h9 x0 = some 5 then lb_R (ll_90 x0 v12 h9) (fun v14 h15 => lb_A (tm_acm v14 v8) ((lf_R h15 v8 [8, 0]).bind fun v18 => if lc_of h15 x0 = some 5 then lb_I (ll_122 x0 v18 h15) (fun v20 h21 => if v20 = (0 : Int32) then l120_94 (l120_17 n) x0 x1 h21 else (lf_R h21 x0 [5, 4]).bind fun v23 => (lf_R h21 v8 [8, 0]).bind fun v24 => (lf_I h21 v24 [6, 2]).bind fun v25 => (lf_R h21 x0 [5, 1]).bind fun v26 => if lc_of h21 v26 = some 12 then lb_I (ll_86 v26 h21) (fun v28 h29 => (la_S pt_P h29 .iastore v23 v25 (.inl v28)).bind fun h31 => (lf_R h31 x0 [5, 1]).bind fun v32 => (lf_R h31 v8 [8, 0]).bind fun v33 => if lc_of h31 v32 = some 12 then lb_I (ll_105 v32 v33 h31) (fun v35 h36 => l120_94 (l120_17 n) x0 x1 h36) else none) else none) else none) (l120_94 (l120_17 n) x0 x1 h15)) else none else none) else none) else none
set_option maxRecDepth 20000 in
theorem l120_17_t {w : Option Nat} {d : Nat} : ∀ (n : Nat) {x0 : Option Nat} {x1 : Int32} {h : pm_H} {r : tm_O × pm_H}, l120_17 n x0 x1 h = some r → pm_to pt_P (pt_G (tm_r w)) (d + 7) (pt_g120, []) (tm_m (17, [(0, .inr (.inr x0)), (1, .inl x1)], [])) h (tm_e r) := by
  intro n
  induction n with
  | zero => intro x0 x1 h r hr; cases hr
  | succ n ih =>
    intro x0 x1 h r hr
    unfold l120_17 at hr
    refine tm_n 2 (F' := (19, [(0, .inr (.inr x0)), (1, .inl x1)], [.inr (.inr x0), .inl x1])) rfl ?_
    obtain ⟨v1, qv1, hr⟩ := Option.bind_eq_some_iff.mp hr
    refine tm_getf rfl (lf_R_V qv1) ?_
    by_cases c2 : lc_of h v1 = some 12
    · rw [if_pos c2] at hr
      rcases lb_I_s hr with ⟨v3, h4, m5, hr⟩ | ⟨a50, h4, z51, z51l, m5, qz51, rfl⟩
      · try dsimp only at hr
        refine tm_call rfl rfl (tm_callV rfl rfl c2 rfl rfl) (lq_86 m5) ?_
        by_cases c49 : v3 ≤ x1
        · rw [if_pos c49] at hr
          refine tm_icT rfl c49 ?_
          cases hr
          exact tm_retV rfl
        · rw [if_neg c49] at hr
          refine tm_icF rfl c49 ?_
          refine tm_n 1 (F' := (29, [(0, .inr (.inr x0)), (1, .inl x1)], [.inr (.inr x0)])) rfl ?_
          obtain ⟨v6, qv6, hr⟩ := Option.bind_eq_some_iff.mp hr
          refine tm_getf rfl (lf_R_V qv6) ?_
          refine tm_n 1 (F' := (33, [(0, .inr (.inr x0)), (1, .inl x1)], [.inl x1, .inr (.inr v6)])) rfl ?_
          by_cases c7 : lc_of h4 v6 = some 12
          · rw [if_pos c7] at hr
            rcases lb_R_s hr with ⟨v8, h9, m10, hr⟩ | ⟨a47, h9, z48, z48l, m10, qz48, rfl⟩
            · try dsimp only at hr
              refine tm_call rfl rfl (tm_callV rfl rfl c7 rfl rfl) (lq_87 m10) ?_
              by_cases c11 : lf_cc 81 h9 v8 [8] = true
              · rw [if_pos c11] at hr
                refine tm_cc rfl c11 ?_
                refine tm_n 3 (F' := (42, [(2, .inr (.inr v8)), (0, .inr (.inr x0)), (1, .inl x1)], [.inr (.inr v8), .inr (.inr x0)])) rfl ?_
                obtain ⟨v12, qv12, hr⟩ := Option.bind_eq_some_iff.mp hr
                refine tm_getf rfl (lf_R_V qv12) ?_
                by_cases c13 : lc_of h9 x0 = some 5
                · rw [if_pos c13] at hr
                  rcases lb_R_s hr with ⟨v14, h15, m16, hr⟩ | ⟨a45, h15, z46, z46l, m16, qz46, rfl⟩
                  · try dsimp only at hr
                    refine tm_call rfl rfl (tm_callV rfl rfl c13 rfl rfl) (lq_90 m16) ?_
                    refine tm_n 1 (F' := (49, [(2, .inr (.inr v8)), (0, .inr (.inr x0)), (1, .inl x1)], [.inr (.inr v8), .inr (.inr v14)])) rfl ?_
                    rcases lb_A_s hr with ⟨c17, hr⟩ | ⟨c17, hr⟩
                    · refine tm_anF rfl c17 ?_
                      refine tm_n 2 (F' := (54, [(2, .inr (.inr v8)), (0, .inr (.inr x0)), (1, .inl x1)], [.inr (.inr v8), .inr (.inr x0)])) rfl ?_
                      obtain ⟨v18, qv18, hr⟩ := Option.bind_eq_some_iff.mp hr
                      refine tm_getf rfl (lf_R_V qv18) ?_
                      by_cases c19 : lc_of h15 x0 = some 5
                      · rw [if_pos c19] at hr
                        rcases lb_I_s hr with ⟨v20, h21, m22, hr⟩ | ⟨a43, h21, z44, z44l, m22, qz44, rfl⟩
                        · try dsimp only at hr
                          refine tm_call rfl rfl (tm_callV rfl rfl c19 rfl rfl) (lq_122 m22) ?_
                          by_cases c42 : v20 = (0 : Int32)
                          · rw [if_pos c42] at hr
                            refine tm_ifT rfl c42 ?_
                            refine tm_cut (a := [(0, .inr (.inr x0)), (1, .inl x1)]) rfl (tm_sbs [1, 2] rfl) ?_
                            exact l120_94_t (fun hr => ih hr) hr
                          · rw [if_neg c42] at hr
                            refine tm_ifF rfl c42 ?_
                            refine tm_n 1 (F' := (64, [(2, .inr (.inr v8)), (0, .inr (.inr x0)), (1, .inl x1)], [.inr (.inr x0)])) rfl ?_
                            obtain ⟨v23, qv23, hr⟩ := Option.bind_eq_some_iff.mp hr
                            refine tm_getf rfl (lf_R_V qv23) ?_
                            refine tm_n 1 (F' := (68, [(2, .inr (.inr v8)), (0, .inr (.inr x0)), (1, .inl x1)], [.inr (.inr v8), .inr (.inr v23)])) rfl ?_
                            obtain ⟨v24, qv24, hr⟩ := Option.bind_eq_some_iff.mp hr
                            refine tm_getf rfl (lf_R_V qv24) ?_
                            obtain ⟨v25, qv25, hr⟩ := Option.bind_eq_some_iff.mp hr
                            refine tm_getf rfl (lf_I_V qv25) ?_
                            refine tm_n 1 (F' := (75, [(2, .inr (.inr v8)), (0, .inr (.inr x0)), (1, .inl x1)], [.inr (.inr x0), .inl v25, .inr (.inr v23)])) rfl ?_
                            obtain ⟨v26, qv26, hr⟩ := Option.bind_eq_some_iff.mp hr
                            refine tm_getf rfl (lf_R_V qv26) ?_
                            by_cases c27 : lc_of h21 v26 = some 12
                            · rw [if_pos c27] at hr
                              rcases lb_I_s hr with ⟨v28, h29, m30, hr⟩ | ⟨a40, h29, z41, z41l, m30, qz41, rfl⟩
                              · try dsimp only at hr
                                refine tm_call rfl rfl (tm_callV rfl rfl c27 rfl rfl) (lq_86 m30) ?_
                                obtain ⟨h31, qh31, hr⟩ := Option.bind_eq_some_iff.mp hr
                                refine tm_ast rfl rfl qh31 ?_
                                refine tm_n 1 (F' := (83, [(2, .inr (.inr v8)), (0, .inr (.inr x0)), (1, .inl x1)], [.inr (.inr x0)])) rfl ?_
                                obtain ⟨v32, qv32, hr⟩ := Option.bind_eq_some_iff.mp hr
                                refine tm_getf rfl (lf_R_V qv32) ?_
                                refine tm_n 1 (F' := (87, [(2, .inr (.inr v8)), (0, .inr (.inr x0)), (1, .inl x1)], [.inr (.inr v8), .inr (.inr v32)])) rfl ?_
                                obtain ⟨v33, qv33, hr⟩ := Option.bind_eq_some_iff.mp hr
                                refine tm_getf rfl (lf_R_V qv33) ?_
                                by_cases c34 : lc_of h31 v32 = some 12
                                · rw [if_pos c34] at hr
                                  rcases lb_I_s hr with ⟨v35, h36, m37, hr⟩ | ⟨a38, h36, z39, z39l, m37, qz39, rfl⟩
                                  · try dsimp only at hr
                                    refine tm_call rfl rfl (tm_callV rfl rfl c34 rfl rfl) (lq_105 m37) ?_
                                    refine tm_n 1 (F' := (94, [(2, .inr (.inr v8)), (0, .inr (.inr x0)), (1, .inl x1)], [])) rfl ?_
                                    refine tm_cut (a := [(0, .inr (.inr x0)), (1, .inl x1)]) rfl (tm_sbs [1, 2] rfl) ?_
                                    exact l120_94_t (fun hr => ih hr) hr
                                  · exact tm_callT rfl rfl (tm_callV rfl rfl c34 rfl rfl) (lq_105 m37) qz39 rfl
                                · rw [if_neg c34] at hr
                                  cases hr
                              · exact tm_callT rfl rfl (tm_callV rfl rfl c27 rfl rfl) (lq_86 m30) qz41 rfl
                            · rw [if_neg c27] at hr
                              cases hr
                        · exact tm_callT rfl rfl (tm_callV rfl rfl c19 rfl rfl) (lq_122 m22) qz44 rfl
                      · rw [if_neg c19] at hr
                        cases hr
                    · refine tm_anT rfl c17 ?_
                      refine tm_cut (a := [(0, .inr (.inr x0)), (1, .inl x1)]) rfl (tm_sbs [1, 2] rfl) ?_
                      exact l120_94_t (fun hr => ih hr) hr
                  · exact tm_callT rfl rfl (tm_callV rfl rfl c13 rfl rfl) (lq_90 m16) qz46 rfl
                · rw [if_neg c13] at hr
                  cases hr
              · rw [if_neg c11] at hr
                cases hr
            · exact tm_callT rfl rfl (tm_callV rfl rfl c7 rfl rfl) (lq_87 m10) qz48 rfl
          · rw [if_neg c7] at hr
            cases hr
      · exact tm_callT rfl rfl (tm_callV rfl rfl c2 rfl rfl) (lq_86 m5) qz51 rfl
    · rw [if_neg c2] at hr
      cases hr
set_option maxRecDepth 20000 in
def ll_120 (a0 : Option Nat) (h : pm_H) : tm_L := (lf_R h a0 [5, 1]).bind fun v1 => if lc_of h v1 = some 12 then lb_V (ll_121 v1 h) (fun h4 => (lf_R h4 a0 [5, 4]).bind fun v6 => lb_V (ll_14 v6 (-1 : Int32) h4) (fun h8 => l120_17 lf_N a0 (0 : Int32) h8)) else none
set_option maxRecDepth 20000 in
theorem lq_120 {w : Option Nat} {d : Nat} {a0 : Option Nat} {h : pm_H} {r : tm_O × pm_H} (hr : ll_120 a0 h = some r) : tm_run pt_P (pt_G (tm_r w)) (d + 7) 120 [.inr (.inr a0)] h r := by
  unfold ll_120 at hr
  show pm_to pt_P (pt_G (tm_r w)) (d + 7) (pt_g120, []) (tm_m (0, [(0, .inr (.inr a0))], [])) h (tm_e r)
  refine tm_n 1 (F' := (1, [(0, .inr (.inr a0))], [.inr (.inr a0)])) rfl ?_
  obtain ⟨v1, qv1, hr⟩ := Option.bind_eq_some_iff.mp hr
  refine tm_getf rfl (lf_R_V qv1) ?_
  by_cases c2 : lc_of h v1 = some 12
  · rw [if_pos c2] at hr
    rcases lb_V_s hr with ⟨h4, m5, hr⟩ | ⟨a12, h4, z13, z13l, m5, qz13, rfl⟩
    · try dsimp only at hr
      refine tm_call rfl rfl (tm_callV rfl rfl c2 rfl rfl) (lq_121 m5) ?_
      refine tm_n 1 (F' := (8, [(0, .inr (.inr a0))], [.inr (.inr a0)])) rfl ?_
      obtain ⟨v6, qv6, hr⟩ := Option.bind_eq_some_iff.mp hr
      refine tm_getf rfl (lf_R_V qv6) ?_
      refine tm_n 1 (F' := (12, [(0, .inr (.inr a0))], [.inl (-1 : Int32), .inr (.inr v6)])) rfl ?_
      rcases lb_V_s hr with ⟨h8, m9, hr⟩ | ⟨a10, h8, z11, z11l, m9, qz11, rfl⟩
      · try dsimp only at hr
        refine tm_call rfl rfl (tm_callS rfl rfl) (lq_14 m9) ?_
        refine tm_n 2 (F' := (17, [(1, .inl (0 : Int32)), (0, .inr (.inr a0))], [])) rfl ?_
        refine tm_cut (a := [(0, .inr (.inr a0)), (1, .inl (0 : Int32))]) rfl (tm_sbs [1, 0] rfl) ?_
        exact l120_17_t lf_N hr
      · exact tm_callT rfl rfl (tm_callS rfl rfl) (lq_14 m9) qz11 rfl
    · exact tm_callT rfl rfl (tm_callV rfl rfl c2 rfl rfl) (lq_121 m5) qz13 rfl
  · rw [if_neg c2] at hr
    cases hr
-- OfficeSheet$Axis.learn(LOfficeSheet$Act;)V
set_option maxRecDepth 20000 in
def l111_86 (w : Option Nat) (x0 : Option Nat) (h : pm_H) : tm_L := if lc_of h x0 = some 5 then lb_V (ll_120 x0 h) (fun h3 => some (.inl none, h3)) else none
set_option maxRecDepth 20000 in
theorem l111_86_t {w : Option Nat} {d : Nat} {x0 : Option Nat} {h : pm_H} {r : tm_O × pm_H} (hr : l111_86 w x0 h = some r) : pm_to pt_P (pt_G (tm_r w)) (d + 14) (pt_g111, []) (tm_m (86, [(0, .inr (.inr x0))], [])) h (tm_e r) := by
  unfold l111_86 at hr
  refine tm_n 1 (F' := (87, [(0, .inr (.inr x0))], [.inr (.inr x0)])) rfl ?_
  by_cases c1 : lc_of h x0 = some 5
  · rw [if_pos c1] at hr
    rcases lb_V_s hr with ⟨h3, m4, hr⟩ | ⟨a5, h3, z6, z6l, m4, qz6, rfl⟩
    · try dsimp only at hr
      refine tm_call rfl rfl (tm_callV rfl rfl c1 rfl rfl) (lq_120 m4) ?_
      cases hr
      exact tm_retV rfl
    · exact tm_callT rfl rfl (tm_callV rfl rfl c1 rfl rfl) (lq_120 m4) qz6 rfl
  · rw [if_neg c1] at hr
    cases hr
set_option maxRecDepth 20000 in
def l111_56 (w : Option Nat) (x0 : Option Nat) (x1 : Option Nat) (x2 : Int32) (h : pm_H) : tm_L := (lf_R h x1 [7, 0]).bind fun v1 => if lc_of h v1 = some 18 then lb_I (ll_119 v1 h) (fun v3 h4 => if v3 = (0 : Int32) then l111_86 w x0 h4 else (lf_R h4 x0 [5, 3]).bind fun v6 => (la_R h4 .aaload v6 x2).bind fun v7 => if lc_of h4 x1 = some 7 then lb_I (ll_103 x1 v7 h4) (fun v9 h10 => if v9 = (0 : Int32) then l111_86 w x0 h10 else (lf_R h10 x0 [5, 3]).bind fun v12 => (la_S pt_P h10 .aastore v12 x2 (.inr (.inr x1))).bind fun h13 => l111_86 w x0 h13) else none) else none
set_option maxRecDepth 20000 in
theorem l111_56_t {w : Option Nat} {d : Nat} {x0 : Option Nat} {x1 : Option Nat} {x2 : Int32} {h : pm_H} {r : tm_O × pm_H} (hr : l111_56 w x0 x1 x2 h = some r) : pm_to pt_P (pt_G (tm_r w)) (d + 14) (pt_g111, []) (tm_m (56, [(0, .inr (.inr x0)), (1, .inr (.inr x1)), (2, .inl x2)], [])) h (tm_e r) := by
  unfold l111_56 at hr
  refine tm_n 1 (F' := (57, [(0, .inr (.inr x0)), (1, .inr (.inr x1)), (2, .inl x2)], [.inr (.inr x1)])) rfl ?_
  obtain ⟨v1, qv1, hr⟩ := Option.bind_eq_some_iff.mp hr
  refine tm_getf rfl (lf_R_V qv1) ?_
  by_cases c2 : lc_of h v1 = some 18
  · rw [if_pos c2] at hr
    rcases lb_I_s hr with ⟨v3, h4, m5, hr⟩ | ⟨a18, h4, z19, z19l, m5, qz19, rfl⟩
    · try dsimp only at hr
      refine tm_call rfl rfl (tm_callV rfl rfl c2 rfl rfl) (lq_119 m5) ?_
      by_cases c17 : v3 = (0 : Int32)
      · rw [if_pos c17] at hr
        refine tm_ifT rfl c17 ?_
        refine tm_cut (a := [(0, .inr (.inr x0))]) rfl (tm_sbs [0] rfl) ?_
        exact l111_86_t hr
      · rw [if_neg c17] at hr
        refine tm_ifF rfl c17 ?_
        refine tm_n 2 (F' := (68, [(0, .inr (.inr x0)), (1, .inr (.inr x1)), (2, .inl x2)], [.inr (.inr x0), .inr (.inr x1)])) rfl ?_
        obtain ⟨v6, qv6, hr⟩ := Option.bind_eq_some_iff.mp hr
        refine tm_getf rfl (lf_R_V qv6) ?_
        refine tm_n 1 (F' := (72, [(0, .inr (.inr x0)), (1, .inr (.inr x1)), (2, .inl x2)], [.inl x2, .inr (.inr v6), .inr (.inr x1)])) rfl ?_
        obtain ⟨v7, qv7, hr⟩ := Option.bind_eq_some_iff.mp hr
        refine tm_ald rfl rfl (la_R_V qv7) ?_
        by_cases c8 : lc_of h4 x1 = some 7
        · rw [if_pos c8] at hr
          rcases lb_I_s hr with ⟨v9, h10, m11, hr⟩ | ⟨a15, h10, z16, z16l, m11, qz16, rfl⟩
          · try dsimp only at hr
            refine tm_call rfl rfl (tm_callV rfl rfl c8 rfl rfl) (lq_103 m11) ?_
            by_cases c14 : v9 = (0 : Int32)
            · rw [if_pos c14] at hr
              refine tm_ifT rfl c14 ?_
              refine tm_cut (a := [(0, .inr (.inr x0))]) rfl (tm_sbs [0] rfl) ?_
              exact l111_86_t hr
            · rw [if_neg c14] at hr
              refine tm_ifF rfl c14 ?_
              refine tm_n 1 (F' := (80, [(0, .inr (.inr x0)), (1, .inr (.inr x1)), (2, .inl x2)], [.inr (.inr x0)])) rfl ?_
              obtain ⟨v12, qv12, hr⟩ := Option.bind_eq_some_iff.mp hr
              refine tm_getf rfl (lf_R_V qv12) ?_
              refine tm_n 2 (F' := (85, [(0, .inr (.inr x0)), (1, .inr (.inr x1)), (2, .inl x2)], [.inr (.inr x1), .inl x2, .inr (.inr v12)])) rfl ?_
              obtain ⟨h13, qh13, hr⟩ := Option.bind_eq_some_iff.mp hr
              refine tm_ast rfl rfl qh13 ?_
              refine tm_cut (a := [(0, .inr (.inr x0))]) rfl (tm_sbs [0] rfl) ?_
              exact l111_86_t hr
          · exact tm_callT rfl rfl (tm_callV rfl rfl c8 rfl rfl) (lq_103 m11) qz16 rfl
        · rw [if_neg c8] at hr
          cases hr
    · exact tm_callT rfl rfl (tm_callV rfl rfl c2 rfl rfl) (lq_119 m5) qz19 rfl
  · rw [if_neg c2] at hr
    cases hr
set_option maxRecDepth 20000 in
def l111_26 (w : Option Nat) (x0 : Option Nat) (x1 : Option Nat) (x2 : Int32) (h : pm_H) : tm_L := (lf_R h x1 [7, 0]).bind fun v1 => if lc_of h v1 = some 18 then lb_I (ll_118 v1 h) (fun v3 h4 => if v3 = (0 : Int32) then l111_56 w x0 x1 x2 h4 else (lf_R h4 x0 [5, 2]).bind fun v6 => (la_R h4 .aaload v6 x2).bind fun v7 => if lc_of h4 x1 = some 7 then lb_I (ll_103 x1 v7 h4) (fun v9 h10 => if v9 = (0 : Int32) then l111_56 w x0 x1 x2 h10 else (lf_R h10 x0 [5, 2]).bind fun v12 => (la_S pt_P h10 .aastore v12 x2 (.inr (.inr x1))).bind fun h13 => l111_56 w x0 x1 x2 h13) else none) else none
set_option maxRecDepth 20000 in
theorem l111_26_t {w : Option Nat} {d : Nat} {x0 : Option Nat} {x1 : Option Nat} {x2 : Int32} {h : pm_H} {r : tm_O × pm_H} (hr : l111_26 w x0 x1 x2 h = some r) : pm_to pt_P (pt_G (tm_r w)) (d + 14) (pt_g111, []) (tm_m (26, [(0, .inr (.inr x0)), (1, .inr (.inr x1)), (2, .inl x2)], [])) h (tm_e r) := by
  unfold l111_26 at hr
  refine tm_n 1 (F' := (27, [(0, .inr (.inr x0)), (1, .inr (.inr x1)), (2, .inl x2)], [.inr (.inr x1)])) rfl ?_
  obtain ⟨v1, qv1, hr⟩ := Option.bind_eq_some_iff.mp hr
  refine tm_getf rfl (lf_R_V qv1) ?_
  by_cases c2 : lc_of h v1 = some 18
  · rw [if_pos c2] at hr
    rcases lb_I_s hr with ⟨v3, h4, m5, hr⟩ | ⟨a18, h4, z19, z19l, m5, qz19, rfl⟩
    · try dsimp only at hr
      refine tm_call rfl rfl (tm_callV rfl rfl c2 rfl rfl) (lq_118 m5) ?_
      by_cases c17 : v3 = (0 : Int32)
      · rw [if_pos c17] at hr
        refine tm_ifT rfl c17 ?_
        refine tm_cut (a := [(0, .inr (.inr x0)), (1, .inr (.inr x1)), (2, .inl x2)]) rfl (tm_sbs [0, 1, 2] rfl) ?_
        exact l111_56_t hr
      · rw [if_neg c17] at hr
        refine tm_ifF rfl c17 ?_
        refine tm_n 2 (F' := (38, [(0, .inr (.inr x0)), (1, .inr (.inr x1)), (2, .inl x2)], [.inr (.inr x0), .inr (.inr x1)])) rfl ?_
        obtain ⟨v6, qv6, hr⟩ := Option.bind_eq_some_iff.mp hr
        refine tm_getf rfl (lf_R_V qv6) ?_
        refine tm_n 1 (F' := (42, [(0, .inr (.inr x0)), (1, .inr (.inr x1)), (2, .inl x2)], [.inl x2, .inr (.inr v6), .inr (.inr x1)])) rfl ?_
        obtain ⟨v7, qv7, hr⟩ := Option.bind_eq_some_iff.mp hr
        refine tm_ald rfl rfl (la_R_V qv7) ?_
        by_cases c8 : lc_of h4 x1 = some 7
        · rw [if_pos c8] at hr
          rcases lb_I_s hr with ⟨v9, h10, m11, hr⟩ | ⟨a15, h10, z16, z16l, m11, qz16, rfl⟩
          · try dsimp only at hr
            refine tm_call rfl rfl (tm_callV rfl rfl c8 rfl rfl) (lq_103 m11) ?_
            by_cases c14 : v9 = (0 : Int32)
            · rw [if_pos c14] at hr
              refine tm_ifT rfl c14 ?_
              refine tm_cut (a := [(0, .inr (.inr x0)), (1, .inr (.inr x1)), (2, .inl x2)]) rfl (tm_sbs [0, 1, 2] rfl) ?_
              exact l111_56_t hr
            · rw [if_neg c14] at hr
              refine tm_ifF rfl c14 ?_
              refine tm_n 1 (F' := (50, [(0, .inr (.inr x0)), (1, .inr (.inr x1)), (2, .inl x2)], [.inr (.inr x0)])) rfl ?_
              obtain ⟨v12, qv12, hr⟩ := Option.bind_eq_some_iff.mp hr
              refine tm_getf rfl (lf_R_V qv12) ?_
              refine tm_n 2 (F' := (55, [(0, .inr (.inr x0)), (1, .inr (.inr x1)), (2, .inl x2)], [.inr (.inr x1), .inl x2, .inr (.inr v12)])) rfl ?_
              obtain ⟨h13, qh13, hr⟩ := Option.bind_eq_some_iff.mp hr
              refine tm_ast rfl rfl qh13 ?_
              refine tm_cut (a := [(0, .inr (.inr x0)), (1, .inr (.inr x1)), (2, .inl x2)]) rfl (tm_sbs [0, 1, 2] rfl) ?_
              exact l111_56_t hr
          · exact tm_callT rfl rfl (tm_callV rfl rfl c8 rfl rfl) (lq_103 m11) qz16 rfl
        · rw [if_neg c8] at hr
          cases hr
    · exact tm_callT rfl rfl (tm_callV rfl rfl c2 rfl rfl) (lq_118 m5) qz19 rfl
  · rw [if_neg c2] at hr
    cases hr
set_option maxRecDepth 20000 in
def ll_111 (w : Option Nat) (a0 : Option Nat) (a1 : Option Nat) (h : pm_H) : tm_L := (lf_R h a1 [7, 5]).bind fun v1 => (lf_I h v1 [6, 2]).bind fun v2 => (lf_R h a1 [7, 0]).bind fun v3 => if lc_of h v3 = some 18 then lb_I (ll_112 v3 h) (fun v5 h6 => if v5 = (0 : Int32) then l111_26 w a0 a1 v2 h6 else (lf_R h6 a1 [7, 6]).bind fun v8 => if lc_of h6 a0 = some 5 then lb_V (ll_113 w a0 v8 h6) (fun h11 => l111_26 w a0 a1 v2 h11) else none) else none
set_option maxRecDepth 20000 in
theorem lq_111 {w : Option Nat} {d : Nat} {a0 : Option Nat} {a1 : Option Nat} {h : pm_H} {r : tm_O × pm_H} (hr : ll_111 w a0 a1 h = some r) : tm_run pt_P (pt_G (tm_r w)) (d + 14) 111 [.inr (.inr a0), .inr (.inr a1)] h r := by
  unfold ll_111 at hr
  show pm_to pt_P (pt_G (tm_r w)) (d + 14) (pt_g111, []) (tm_m (0, [(0, .inr (.inr a0)), (1, .inr (.inr a1))], [])) h (tm_e r)
  refine tm_n 1 (F' := (1, [(0, .inr (.inr a0)), (1, .inr (.inr a1))], [.inr (.inr a1)])) rfl ?_
  obtain ⟨v1, qv1, hr⟩ := Option.bind_eq_some_iff.mp hr
  refine tm_getf rfl (lf_R_V qv1) ?_
  obtain ⟨v2, qv2, hr⟩ := Option.bind_eq_some_iff.mp hr
  refine tm_getf rfl (lf_I_V qv2) ?_
  refine tm_n 2 (F' := (9, [(2, .inl v2), (0, .inr (.inr a0)), (1, .inr (.inr a1))], [.inr (.inr a1)])) rfl ?_
  obtain ⟨v3, qv3, hr⟩ := Option.bind_eq_some_iff.mp hr
  refine tm_getf rfl (lf_R_V qv3) ?_
  by_cases c4 : lc_of h v3 = some 18
  · rw [if_pos c4] at hr
    rcases lb_I_s hr with ⟨v5, h6, m7, hr⟩ | ⟨a16, h6, z17, z17l, m7, qz17, rfl⟩
    · try dsimp only at hr
      refine tm_call rfl rfl (tm_callV rfl rfl c4 rfl rfl) (lq_112 m7) ?_
      by_cases c15 : v5 = (0 : Int32)
      · rw [if_pos c15] at hr
        refine tm_ifT rfl c15 ?_
        refine tm_cut (a := [(0, .inr (.inr a0)), (1, .inr (.inr a1)), (2, .inl v2)]) rfl (tm_sbs [1, 2, 0] rfl) ?_
        exact l111_26_t hr
      · rw [if_neg c15] at hr
        refine tm_ifF rfl c15 ?_
        refine tm_n 2 (F' := (20, [(2, .inl v2), (0, .inr (.inr a0)), (1, .inr (.inr a1))], [.inr (.inr a1), .inr (.inr a0)])) rfl ?_
        obtain ⟨v8, qv8, hr⟩ := Option.bind_eq_some_iff.mp hr
        refine tm_getf rfl (lf_R_V qv8) ?_
        by_cases c9 : lc_of h6 a0 = some 5
        · rw [if_pos c9] at hr
          rcases lb_V_s hr with ⟨h11, m12, hr⟩ | ⟨a13, h11, z14, z14l, m12, qz14, rfl⟩
          · try dsimp only at hr
            refine tm_call rfl rfl (tm_callV rfl rfl c9 rfl rfl) (lq_113 m12) ?_
            refine tm_cut (a := [(0, .inr (.inr a0)), (1, .inr (.inr a1)), (2, .inl v2)]) rfl (tm_sbs [1, 2, 0] rfl) ?_
            exact l111_26_t hr
          · exact tm_callT rfl rfl (tm_callV rfl rfl c9 rfl rfl) (lq_113 m12) qz14 rfl
        · rw [if_neg c9] at hr
          cases hr
    · exact tm_callT rfl rfl (tm_callV rfl rfl c4 rfl rfl) (lq_112 m7) qz17 rfl
  · rw [if_neg c4] at hr
    cases hr
-- OfficeSheet$Office.take(LOfficeSheet$Act;)V
set_option maxRecDepth 20000 in
def ll_100 (w : Option Nat) (a0 : Option Nat) (a1 : Option Nat) (h : pm_H) : tm_L := (lf_R h a0 [4, 2]).bind fun v1 => (lf_I h a1 [7, 1]).bind fun v2 => (lf_I h a1 [7, 2]).bind fun v3 => lb_I (ll_95 v2 v3 h) (fun v4 h5 => (la_S pt_P h5 .aastore v1 v4 (.inr (.inr a1))).bind fun h7 => (lf_R h7 a0 [4, 1]).bind fun v8 => (lf_I h7 a1 [7, 1]).bind fun v9 => (lf_I h7 a1 [7, 2]).bind fun v10 => (la_S pt_P h7 .iastore v8 v9 (.inl v10)).bind fun h11 => (lf_I h11 a0 [4, 5]).bind fun v12 => (lf_I h11 a1 [7, 3]).bind fun v13 => lb_I (ll_24 v12 (v13 / (3 : Int32)) h11) (fun v14 h15 => (lf_P 81 h15 a0 [0, 4, 5] (.inl v14)).bind fun h17 => (lf_R h17 a1 [7, 0]).bind fun v18 => lb_A (tm_acm v18 (some 6)) (if lc_of h17 a0 = some 4 then lb_V (ll_101 a0 a1 h17) (fun h22 => some (.inl none, h22)) else none) ((lf_R h17 a0 [4, 3]).bind fun v26 => (lf_R h17 a1 [7, 5]).bind fun v27 => (lf_I h17 v27 [6, 0]).bind fun v28 => (la_R h17 .aaload v26 v28).bind fun v29 => if lc_of h17 v29 = some 5 then lb_V (ll_111 w v29 a1 h17) (fun h32 => some (.inl none, h32)) else none)))
set_option maxRecDepth 20000 in
theorem lq_100 {w : Option Nat} {d : Nat} {a0 : Option Nat} {a1 : Option Nat} {h : pm_H} {r : tm_O × pm_H} (hr : ll_100 w a0 a1 h = some r) : tm_run pt_P (pt_G (tm_r w)) (d + 15) 100 [.inr (.inr a0), .inr (.inr a1)] h r := by
  unfold ll_100 at hr
  show pm_to pt_P (pt_G (tm_r w)) (d + 15) (pt_g100, []) (tm_m (0, [(0, .inr (.inr a0)), (1, .inr (.inr a1))], [])) h (tm_e r)
  refine tm_n 1 (F' := (1, [(0, .inr (.inr a0)), (1, .inr (.inr a1))], [.inr (.inr a0)])) rfl ?_
  obtain ⟨v1, qv1, hr⟩ := Option.bind_eq_some_iff.mp hr
  refine tm_getf rfl (lf_R_V qv1) ?_
  refine tm_n 1 (F' := (5, [(0, .inr (.inr a0)), (1, .inr (.inr a1))], [.inr (.inr a1), .inr (.inr v1)])) rfl ?_
  obtain ⟨v2, qv2, hr⟩ := Option.bind_eq_some_iff.mp hr
  refine tm_getf rfl (lf_I_V qv2) ?_
  refine tm_n 1 (F' := (9, [(0, .inr (.inr a0)), (1, .inr (.inr a1))], [.inr (.inr a1), .inl v2, .inr (.inr v1)])) rfl ?_
  obtain ⟨v3, qv3, hr⟩ := Option.bind_eq_some_iff.mp hr
  refine tm_getf rfl (lf_I_V qv3) ?_
  rcases lb_I_s hr with ⟨v4, h5, m6, hr⟩ | ⟨a38, h5, z39, z39l, m6, qz39, rfl⟩
  · try dsimp only at hr
    refine tm_call rfl rfl (tm_callS rfl rfl) (lq_95 m6) ?_
    refine tm_n 1 (F' := (16, [(0, .inr (.inr a0)), (1, .inr (.inr a1))], [.inr (.inr a1), .inl v4, .inr (.inr v1)])) rfl ?_
    obtain ⟨h7, qh7, hr⟩ := Option.bind_eq_some_iff.mp hr
    refine tm_ast rfl rfl qh7 ?_
    refine tm_n 1 (F' := (18, [(0, .inr (.inr a0)), (1, .inr (.inr a1))], [.inr (.inr a0)])) rfl ?_
    obtain ⟨v8, qv8, hr⟩ := Option.bind_eq_some_iff.mp hr
    refine tm_getf rfl (lf_R_V qv8) ?_
    refine tm_n 1 (F' := (22, [(0, .inr (.inr a0)), (1, .inr (.inr a1))], [.inr (.inr a1), .inr (.inr v8)])) rfl ?_
    obtain ⟨v9, qv9, hr⟩ := Option.bind_eq_some_iff.mp hr
    refine tm_getf rfl (lf_I_V qv9) ?_
    refine tm_n 1 (F' := (26, [(0, .inr (.inr a0)), (1, .inr (.inr a1))], [.inr (.inr a1), .inl v9, .inr (.inr v8)])) rfl ?_
    obtain ⟨v10, qv10, hr⟩ := Option.bind_eq_some_iff.mp hr
    refine tm_getf rfl (lf_I_V qv10) ?_
    obtain ⟨h11, qh11, hr⟩ := Option.bind_eq_some_iff.mp hr
    refine tm_ast rfl rfl qh11 ?_
    refine tm_n 2 (F' := (32, [(0, .inr (.inr a0)), (1, .inr (.inr a1))], [.inr (.inr a0), .inr (.inr a0)])) rfl ?_
    obtain ⟨v12, qv12, hr⟩ := Option.bind_eq_some_iff.mp hr
    refine tm_getf rfl (lf_I_V qv12) ?_
    refine tm_n 1 (F' := (36, [(0, .inr (.inr a0)), (1, .inr (.inr a1))], [.inr (.inr a1), .inl v12, .inr (.inr a0)])) rfl ?_
    obtain ⟨v13, qv13, hr⟩ := Option.bind_eq_some_iff.mp hr
    refine tm_getf rfl (lf_I_V qv13) ?_
    refine tm_n 2 (F' := (41, [(0, .inr (.inr a0)), (1, .inr (.inr a1))], [.inl (v13 / (3 : Int32)), .inl v12, .inr (.inr a0)])) rfl ?_
    rcases lb_I_s hr with ⟨v14, h15, m16, hr⟩ | ⟨a36, h15, z37, z37l, m16, qz37, rfl⟩
    · try dsimp only at hr
      refine tm_call rfl rfl (tm_callS rfl rfl) (lq_24 m16) ?_
      obtain ⟨h17, qh17, hr⟩ := Option.bind_eq_some_iff.mp hr
      refine tm_putf rfl qh17 ?_
      refine tm_n 1 (F' := (48, [(0, .inr (.inr a0)), (1, .inr (.inr a1))], [.inr (.inr a1)])) rfl ?_
      obtain ⟨v18, qv18, hr⟩ := Option.bind_eq_some_iff.mp hr
      refine tm_getf rfl (lf_R_V qv18) ?_
      refine tm_n 1 (F' := (54, [(0, .inr (.inr a0)), (1, .inr (.inr a1))], [.inr (.inr (some 6)), .inr (.inr v18)])) rfl ?_
      rcases lb_A_s hr with ⟨c19, hr⟩ | ⟨c19, hr⟩
      · refine tm_anF rfl c19 ?_
        refine tm_n 2 (F' := (59, [(0, .inr (.inr a0)), (1, .inr (.inr a1))], [.inr (.inr a1), .inr (.inr a0)])) rfl ?_
        by_cases c20 : lc_of h17 a0 = some 4
        · rw [if_pos c20] at hr
          rcases lb_V_s hr with ⟨h22, m23, hr⟩ | ⟨a24, h22, z25, z25l, m23, qz25, rfl⟩
          · try dsimp only at hr
            refine tm_call rfl rfl (tm_callV rfl rfl c20 rfl rfl) (lq_101 m23) ?_
            refine tm_n 1 (F' := (81, [(0, .inr (.inr a0)), (1, .inr (.inr a1))], [])) rfl ?_
            cases hr
            exact tm_retV rfl
          · exact tm_callT rfl rfl (tm_callV rfl rfl c20 rfl rfl) (lq_101 m23) qz25 rfl
        · rw [if_neg c20] at hr
          cases hr
      · refine tm_anT rfl c19 ?_
        refine tm_n 1 (F' := (66, [(0, .inr (.inr a0)), (1, .inr (.inr a1))], [.inr (.inr a0)])) rfl ?_
        obtain ⟨v26, qv26, hr⟩ := Option.bind_eq_some_iff.mp hr
        refine tm_getf rfl (lf_R_V qv26) ?_
        refine tm_n 1 (F' := (70, [(0, .inr (.inr a0)), (1, .inr (.inr a1))], [.inr (.inr a1), .inr (.inr v26)])) rfl ?_
        obtain ⟨v27, qv27, hr⟩ := Option.bind_eq_some_iff.mp hr
        refine tm_getf rfl (lf_R_V qv27) ?_
        obtain ⟨v28, qv28, hr⟩ := Option.bind_eq_some_iff.mp hr
        refine tm_getf rfl (lf_I_V qv28) ?_
        obtain ⟨v29, qv29, hr⟩ := Option.bind_eq_some_iff.mp hr
        refine tm_ald rfl rfl (la_R_V qv29) ?_
        refine tm_n 1 (F' := (78, [(0, .inr (.inr a0)), (1, .inr (.inr a1))], [.inr (.inr a1), .inr (.inr v29)])) rfl ?_
        by_cases c30 : lc_of h17 v29 = some 5
        · rw [if_pos c30] at hr
          rcases lb_V_s hr with ⟨h32, m33, hr⟩ | ⟨a34, h32, z35, z35l, m33, qz35, rfl⟩
          · try dsimp only at hr
            refine tm_call rfl rfl (tm_callV rfl rfl c30 rfl rfl) (lq_111 m33) ?_
            cases hr
            exact tm_retV rfl
          · exact tm_callT rfl rfl (tm_callV rfl rfl c30 rfl rfl) (lq_111 m33) qz35 rfl
        · rw [if_neg c30] at hr
          cases hr
    · exact tm_callT rfl rfl (tm_callS rfl rfl) (lq_24 m16) qz37 rfl
  · exact tm_callT rfl rfl (tm_callS rfl rfl) (lq_95 m6) qz39 rfl
-- OfficeSheet$Office.makeLine(ILOfficeSheet$Place;)LOfficeSheet$Line;
set_option maxRecDepth 20000 in
def ll_93 (w : Option Nat) (a0 : Option Nat) (a1 : Int32) (a2 : Option Nat) (h : pm_H) : tm_L := lb_h (lf_new h 6 3 [.int 0, .int 0, .int 0]) fun h1 => (lf_I h1 a0 [4, 0]).bind fun v2 => if lc_of h1 a0 = some 4 then lb_I (ll_92 a0 h1) (fun v4 h5 => lb_V (ll_94 (some h.1.length) a1 v2 (v4 + (1 : Int32)) h5) (fun h8 => lb_h (lf_new h8 7 12 [.null, .int 0, .int 0, .int 0, .null, .null, .null, .null, .null, .null, .null, .null]) fun h10 => lb_V (ll_96 (some h8.1.length) (some 1) a0 h10) (fun h12 => lb_h (lf_new h12 8 3 [.null, .null, .int 0]) fun h14 => (lf_I h14 (some h8.1.length) [7, 3]).bind fun v15 => lb_V (ll_98 (some h12.1.length) (some h.1.length) a2 v15 h14) (fun h17 => if lc_of h17 (some h8.1.length) = some 7 then lb_V (ll_99 (some h8.1.length) (some h.1.length) (some h12.1.length) none h17) (fun h21 => if lc_of h21 a0 = some 4 then lb_V (ll_100 w a0 (some h8.1.length) h21) (fun h25 => some (.inl (some (.inr (.inr (some h.1.length)))), h25)) else none) else none)))) else none
set_option maxRecDepth 20000 in
theorem lq_93 {w : Option Nat} {d : Nat} {a0 : Option Nat} {a1 : Int32} {a2 : Option Nat} {h : pm_H} {r : tm_O × pm_H} (hr : ll_93 w a0 a1 a2 h = some r) : tm_run pt_P (pt_G (tm_r w)) (d + 16) 93 [.inr (.inr a0), .inl a1, .inr (.inr a2)] h r := by
  unfold ll_93 at hr
  show pm_to pt_P (pt_G (tm_r w)) (d + 16) (pt_g93, []) (tm_m (0, [(0, .inr (.inr a0)), (1, .inl a1), (2, .inr (.inr a2))], [])) h (tm_e r)
  obtain ⟨h1, eh1, hr⟩ := lb_h_s hr
  refine tm_new rfl ?_
  rw [← eh1]
  refine tm_n 3 (F' := (6, [(0, .inr (.inr a0)), (1, .inl a1), (2, .inr (.inr a2))], [.inr (.inr a0), .inl a1, .inr (.inr (some h.1.length)), .inr (.inr (some h.1.length))])) rfl ?_
  obtain ⟨v2, qv2, hr⟩ := Option.bind_eq_some_iff.mp hr
  refine tm_getf rfl (lf_I_V qv2) ?_
  refine tm_n 1 (F' := (10, [(0, .inr (.inr a0)), (1, .inl a1), (2, .inr (.inr a2))], [.inr (.inr a0), .inl v2, .inl a1, .inr (.inr (some h.1.length)), .inr (.inr (some h.1.length))])) rfl ?_
  by_cases c3 : lc_of h1 a0 = some 4
  · rw [if_pos c3] at hr
    rcases lb_I_s hr with ⟨v4, h5, m6, hr⟩ | ⟨a37, h5, z38, z38l, m6, qz38, rfl⟩
    · try dsimp only at hr
      refine tm_call rfl rfl (tm_callV rfl rfl c3 rfl rfl) (lq_92 m6) ?_
      refine tm_n 2 (F' := (15, [(0, .inr (.inr a0)), (1, .inl a1), (2, .inr (.inr a2))], [.inl (v4 + (1 : Int32)), .inl v2, .inl a1, .inr (.inr (some h.1.length)), .inr (.inr (some h.1.length))])) rfl ?_
      rcases lb_V_s hr with ⟨h8, m9, hr⟩ | ⟨a35, h8, z36, z36l, m9, qz36, rfl⟩
      · try dsimp only at hr
        refine tm_call rfl rfl (tm_callP rfl rfl rfl) (lq_94 m9) ?_
        refine tm_n 1 (F' := (19, [(3, .inr (.inr (some h.1.length))), (0, .inr (.inr a0)), (1, .inl a1), (2, .inr (.inr a2))], [])) rfl ?_
        obtain ⟨h10, eh10, hr⟩ := lb_h_s hr
        refine tm_new rfl ?_
        rw [← eh10]
        refine tm_n 3 (F' := (27, [(3, .inr (.inr (some h.1.length))), (0, .inr (.inr a0)), (1, .inl a1), (2, .inr (.inr a2))], [.inr (.inr a0), .inr (.inr (some 1)), .inr (.inr (some h8.1.length)), .inr (.inr (some h8.1.length))])) rfl ?_
        rcases lb_V_s hr with ⟨h12, m13, hr⟩ | ⟨a33, h12, z34, z34l, m13, qz34, rfl⟩
        · try dsimp only at hr
          refine tm_call rfl rfl (tm_callP rfl rfl rfl) (lq_96 m13) ?_
          refine tm_n 3 (F' := (35, [(4, .inr (.inr (some h8.1.length))), (3, .inr (.inr (some h.1.length))), (0, .inr (.inr a0)), (1, .inl a1), (2, .inr (.inr a2))], [.inr (.inr (some h.1.length)), .inr (.inr (some h8.1.length))])) rfl ?_
          obtain ⟨h14, eh14, hr⟩ := lb_h_s hr
          refine tm_new rfl ?_
          rw [← eh14]
          refine tm_n 4 (F' := (43, [(4, .inr (.inr (some h8.1.length))), (3, .inr (.inr (some h.1.length))), (0, .inr (.inr a0)), (1, .inl a1), (2, .inr (.inr a2))], [.inr (.inr (some h8.1.length)), .inr (.inr a2), .inr (.inr (some h.1.length)), .inr (.inr (some h12.1.length)), .inr (.inr (some h12.1.length)), .inr (.inr (some h.1.length)), .inr (.inr (some h8.1.length))])) rfl ?_
          obtain ⟨v15, qv15, hr⟩ := Option.bind_eq_some_iff.mp hr
          refine tm_getf rfl (lf_I_V qv15) ?_
          rcases lb_V_s hr with ⟨h17, m18, hr⟩ | ⟨a31, h17, z32, z32l, m18, qz32, rfl⟩
          · try dsimp only at hr
            refine tm_call rfl rfl (tm_callP rfl rfl rfl) (lq_98 m18) ?_
            refine tm_n 1 (F' := (50, [(4, .inr (.inr (some h8.1.length))), (3, .inr (.inr (some h.1.length))), (0, .inr (.inr a0)), (1, .inl a1), (2, .inr (.inr a2))], [.inr (.inr none), .inr (.inr (some h12.1.length)), .inr (.inr (some h.1.length)), .inr (.inr (some h8.1.length))])) rfl ?_
            by_cases c19 : lc_of h17 (some h8.1.length) = some 7
            · rw [if_pos c19] at hr
              rcases lb_V_s hr with ⟨h21, m22, hr⟩ | ⟨a29, h21, z30, z30l, m22, qz30, rfl⟩
              · try dsimp only at hr
                refine tm_call rfl rfl (tm_callV rfl rfl c19 rfl rfl) (lq_99 m22) ?_
                refine tm_n 2 (F' := (56, [(4, .inr (.inr (some h8.1.length))), (3, .inr (.inr (some h.1.length))), (0, .inr (.inr a0)), (1, .inl a1), (2, .inr (.inr a2))], [.inr (.inr (some h8.1.length)), .inr (.inr a0)])) rfl ?_
                by_cases c23 : lc_of h21 a0 = some 4
                · rw [if_pos c23] at hr
                  rcases lb_V_s hr with ⟨h25, m26, hr⟩ | ⟨a27, h25, z28, z28l, m26, qz28, rfl⟩
                  · try dsimp only at hr
                    refine tm_call rfl rfl (tm_callV rfl rfl c23 rfl rfl) (lq_100 m26) ?_
                    refine tm_n 1 (F' := (60, [(4, .inr (.inr (some h8.1.length))), (3, .inr (.inr (some h.1.length))), (0, .inr (.inr a0)), (1, .inl a1), (2, .inr (.inr a2))], [.inr (.inr (some h.1.length))])) rfl ?_
                    cases hr
                    exact tm_retR rfl
                  · exact tm_callT rfl rfl (tm_callV rfl rfl c23 rfl rfl) (lq_100 m26) qz28 rfl
                · rw [if_neg c23] at hr
                  cases hr
              · exact tm_callT rfl rfl (tm_callV rfl rfl c19 rfl rfl) (lq_99 m22) qz30 rfl
            · rw [if_neg c19] at hr
              cases hr
          · exact tm_callT rfl rfl (tm_callP rfl rfl rfl) (lq_98 m18) qz32 rfl
        · exact tm_callT rfl rfl (tm_callP rfl rfl rfl) (lq_96 m13) qz34 rfl
      · exact tm_callT rfl rfl (tm_callP rfl rfl rfl) (lq_94 m9) qz36 rfl
    · exact tm_callT rfl rfl (tm_callV rfl rfl c3 rfl rfl) (lq_92 m6) qz38 rfl
  · rw [if_neg c3] at hr
    cases hr
-- OfficeSheet.put(III)I
set_option maxRecDepth 20000 in
def l80_43 (w : Option Nat) (x2 : Int32) (x4 : Option Nat) (x6 : Option Nat) (s0 : Int32) (s1 : Int32) (h : pm_H) : tm_L := if s1 < s0 then if lc_of h x4 = some 4 then lb_R (ll_93 w x4 x2 x6 h) (fun v2 h3 => (lf_I h3 v2 [6, 1]).bind fun v5 => some (.inl (some (.inl v5)), h3)) else none else some (.inr h.1.length, lf_new h 15 6 [])
set_option maxRecDepth 20000 in
theorem l80_43_t {w : Option Nat} {d : Nat} {x2 : Int32} {x4 : Option Nat} {x6 : Option Nat} {s0 : Int32} {s1 : Int32} {h : pm_H} {r : tm_O × pm_H} (hr : l80_43 w x2 x4 x6 s0 s1 h = some r) : pm_to pt_P (pt_G (tm_r w)) (d + 17) (pt_g80, []) (tm_m (43, [(2, .inl x2), (4, .inr (.inr x4)), (6, .inr (.inr x6))], [.inl s0, .inl s1])) h (tm_e r) := by
  unfold l80_43 at hr
  by_cases c8 : s1 < s0
  · rw [if_pos c8] at hr
    refine tm_icT rfl c8 ?_
    refine tm_n 3 (F' := (61, [(2, .inl x2), (4, .inr (.inr x4)), (6, .inr (.inr x6))], [.inr (.inr x6), .inl x2, .inr (.inr x4)])) rfl ?_
    by_cases c1 : lc_of h x4 = some 4
    · rw [if_pos c1] at hr
      rcases lb_R_s hr with ⟨v2, h3, m4, hr⟩ | ⟨a6, h3, z7, z7l, m4, qz7, rfl⟩
      · try dsimp only at hr
        refine tm_call rfl rfl (tm_callV rfl rfl c1 rfl rfl) (lq_93 m4) ?_
        obtain ⟨v5, qv5, hr⟩ := Option.bind_eq_some_iff.mp hr
        refine tm_getf rfl (lf_I_V qv5) ?_
        cases hr
        exact tm_retI rfl rfl
      · exact tm_callT rfl rfl (tm_callV rfl rfl c1 rfl rfl) (lq_93 m4) qz7 rfl
    · rw [if_neg c1] at hr
      cases hr
  · rw [if_neg c8] at hr
    refine tm_icF rfl c8 ?_
    cases hr
    exact tm_thr rfl
set_option maxRecDepth 20000 in
def ll_80 (w : Option Nat) (a0 : Option Nat) (a1 : Int32) (a2 : Int32) (a3 : Int32) (h : pm_H) : tm_L := if lc_of h a0 = some 0 then lb_R (ll_81 a0 a1 h) (fun v2 h3 => lb_R (ll_82 v2 a2 h3) (fun v5 h6 => lb_R (ll_83 v5 a3 h6) (fun v8 h9 => lb_V (ll_91 v2 h9) (fun h12 => if lc_of h12 v5 = some 5 then lb_I (ll_85 v5 h12) (fun v15 h16 => if a2 = (0 : Int32) then l80_43 w a2 v2 v8 (9 : Int32) v15 h16 else l80_43 w a2 v2 v8 (5 : Int32) v15 h16) else none)))) else none
set_option maxRecDepth 20000 in
theorem lq_80 {w : Option Nat} {d : Nat} {a0 : Option Nat} {a1 : Int32} {a2 : Int32} {a3 : Int32} {h : pm_H} {r : tm_O × pm_H} (hr : ll_80 w a0 a1 a2 a3 h = some r) : tm_run pt_P (pt_G (tm_r w)) (d + 17) 80 [.inr (.inr a0), .inl a1, .inl a2, .inl a3] h r := by
  unfold ll_80 at hr
  show pm_to pt_P (pt_G (tm_r w)) (d + 17) (pt_g80, []) (tm_m (0, [(0, .inr (.inr a0)), (1, .inl a1), (2, .inl a2), (3, .inl a3)], [])) h (tm_e r)
  refine tm_n 2 (F' := (2, [(0, .inr (.inr a0)), (1, .inl a1), (2, .inl a2), (3, .inl a3)], [.inl a1, .inr (.inr a0)])) rfl ?_
  by_cases c1 : lc_of h a0 = some 0
  · rw [if_pos c1] at hr
    rcases lb_R_s hr with ⟨v2, h3, m4, hr⟩ | ⟨a27, h3, z28, z28l, m4, qz28, rfl⟩
    · try dsimp only at hr
      refine tm_call rfl rfl (tm_callV rfl rfl c1 rfl rfl) (lq_81 m4) ?_
      refine tm_n 3 (F' := (10, [(4, .inr (.inr v2)), (0, .inr (.inr a0)), (1, .inl a1), (2, .inl a2), (3, .inl a3)], [.inl a2, .inr (.inr v2)])) rfl ?_
      rcases lb_R_s hr with ⟨v5, h6, m7, hr⟩ | ⟨a25, h6, z26, z26l, m7, qz26, rfl⟩
      · try dsimp only at hr
        refine tm_call rfl rfl (tm_callS rfl rfl) (lq_82 m7) ?_
        refine tm_n 3 (F' := (18, [(5, .inr (.inr v5)), (4, .inr (.inr v2)), (0, .inr (.inr a0)), (1, .inl a1), (2, .inl a2), (3, .inl a3)], [.inl a3, .inr (.inr v5)])) rfl ?_
        rcases lb_R_s hr with ⟨v8, h9, m10, hr⟩ | ⟨a23, h9, z24, z24l, m10, qz24, rfl⟩
        · try dsimp only at hr
          refine tm_call rfl rfl (tm_callS rfl rfl) (lq_83 m10) ?_
          refine tm_n 2 (F' := (25, [(6, .inr (.inr v8)), (5, .inr (.inr v5)), (4, .inr (.inr v2)), (0, .inr (.inr a0)), (1, .inl a1), (2, .inl a2), (3, .inl a3)], [.inr (.inr v2)])) rfl ?_
          rcases lb_V_s hr with ⟨h12, m13, hr⟩ | ⟨a21, h12, z22, z22l, m13, qz22, rfl⟩
          · try dsimp only at hr
            refine tm_call rfl rfl (tm_callS rfl rfl) (lq_91 m13) ?_
            refine tm_n 1 (F' := (30, [(6, .inr (.inr v8)), (5, .inr (.inr v5)), (4, .inr (.inr v2)), (0, .inr (.inr a0)), (1, .inl a1), (2, .inl a2), (3, .inl a3)], [.inr (.inr v5)])) rfl ?_
            by_cases c14 : lc_of h12 v5 = some 5
            · rw [if_pos c14] at hr
              rcases lb_I_s hr with ⟨v15, h16, m17, hr⟩ | ⟨a19, h16, z20, z20l, m17, qz20, rfl⟩
              · try dsimp only at hr
                refine tm_call rfl rfl (tm_callV rfl rfl c14 rfl rfl) (lq_85 m17) ?_
                refine tm_n 1 (F' := (34, [(6, .inr (.inr v8)), (5, .inr (.inr v5)), (4, .inr (.inr v2)), (0, .inr (.inr a0)), (1, .inl a1), (2, .inl a2), (3, .inl a3)], [.inl a2, .inl v15])) rfl ?_
                by_cases c18 : a2 = (0 : Int32)
                · rw [if_pos c18] at hr
                  refine tm_ifF rfl (fun q => q c18) ?_
                  refine tm_n 2 (F' := (43, [(6, .inr (.inr v8)), (5, .inr (.inr v5)), (4, .inr (.inr v2)), (0, .inr (.inr a0)), (1, .inl a1), (2, .inl a2), (3, .inl a3)], [.inl (9 : Int32), .inl v15])) rfl ?_
                  refine tm_cut (a := [(2, .inl a2), (4, .inr (.inr v2)), (6, .inr (.inr v8))]) rfl (tm_sbs [5, 2, 0] rfl) ?_
                  exact l80_43_t hr
                · rw [if_neg c18] at hr
                  refine tm_ifT rfl c18 ?_
                  refine tm_n 1 (F' := (43, [(6, .inr (.inr v8)), (5, .inr (.inr v5)), (4, .inr (.inr v2)), (0, .inr (.inr a0)), (1, .inl a1), (2, .inl a2), (3, .inl a3)], [.inl (5 : Int32), .inl v15])) rfl ?_
                  refine tm_cut (a := [(2, .inl a2), (4, .inr (.inr v2)), (6, .inr (.inr v8))]) rfl (tm_sbs [5, 2, 0] rfl) ?_
                  exact l80_43_t hr
              · exact tm_callT rfl rfl (tm_callV rfl rfl c14 rfl rfl) (lq_85 m17) qz20 rfl
            · rw [if_neg c14] at hr
              cases hr
          · exact tm_callT rfl rfl (tm_callS rfl rfl) (lq_91 m13) qz22 rfl
        · exact tm_callT rfl rfl (tm_callS rfl rfl) (lq_83 m10) qz24 rfl
      · exact tm_callT rfl rfl (tm_callS rfl rfl) (lq_82 m7) qz26 rfl
    · exact tm_callT rfl rfl (tm_callV rfl rfl c1 rfl rfl) (lq_81 m4) qz28 rfl
  · rw [if_neg c1] at hr
    cases hr
-- OfficeSheetLaw.put(LOfficeSheet;III[J)I
set_option maxRecDepth 20000 in
def ll_79 (w : Option Nat) (a0 : Option Nat) (a1 : Int32) (a2 : Int32) (a3 : Int32) (a4 : Option Nat) (h : pm_H) : tm_L := if lc_of h a0 = some 0 then lh_I (ll_80 w a0 a1 a2 a3 h) (fun v2 h3 => (la_S pt_P h3 .lastore a4 (0 : Int32) (.inr (.inl (Int32.toInt64 v2)))).bind fun h5 => some (.inl (some (.inl (0 : Int32))), h5)) (fun a6 z7 h3 => if z7 = 14 then some (.inl (some (.inl (1 : Int32))), h3) else if z7 = 16 then some (.inl (some (.inl (2 : Int32))), h3) else if z7 = 15 then some (.inl (some (.inl (3 : Int32))), h3) else none) else none
set_option maxRecDepth 20000 in
theorem lq_79 {w : Option Nat} {d : Nat} {a0 : Option Nat} {a1 : Int32} {a2 : Int32} {a3 : Int32} {a4 : Option Nat} {h : pm_H} {r : tm_O × pm_H} (hr : ll_79 w a0 a1 a2 a3 a4 h = some r) : tm_run pt_P (pt_G (tm_r w)) (d + 18) 79 [.inr (.inr a0), .inl a1, .inl a2, .inl a3, .inr (.inr a4)] h r := by
  unfold ll_79 at hr
  show pm_to pt_P (pt_G (tm_r w)) (d + 18) (pt_g79, [(0, 12, 15, [14]), (0, 12, 19, [16]), (0, 12, 23, [15])]) (tm_m (0, [(0, .inr (.inr a0)), (1, .inl a1), (2, .inl a2), (3, .inl a3), (4, .inr (.inr a4))], [])) h (tm_e r)
  refine tm_n 6 (F' := (7, [(0, .inr (.inr a0)), (1, .inl a1), (2, .inl a2), (3, .inl a3), (4, .inr (.inr a4))], [.inl a3, .inl a2, .inl a1, .inr (.inr a0), .inl (0 : Int32), .inr (.inr a4)])) rfl ?_
  by_cases c1 : lc_of h a0 = some 0
  · rw [if_pos c1] at hr
    rcases lh_I_s hr with ⟨v2, h3, m4, hr⟩ | ⟨a6, h3, z7, z7l, m4, qz7, hr⟩
    · try dsimp only at hr
      refine tm_call rfl rfl (tm_callV rfl rfl c1 rfl rfl) (lq_80 m4) ?_
      refine tm_n 1 (F' := (11, [(0, .inr (.inr a0)), (1, .inl a1), (2, .inl a2), (3, .inl a3), (4, .inr (.inr a4))], [.inr (.inl (Int32.toInt64 v2)), .inl (0 : Int32), .inr (.inr a4)])) rfl ?_
      obtain ⟨h5, qh5, hr⟩ := Option.bind_eq_some_iff.mp hr
      refine tm_ast rfl rfl qh5 ?_
      refine tm_n 2 (F' := (28, [(0, .inr (.inr a0)), (1, .inl a1), (2, .inl a2), (3, .inl a3), (4, .inr (.inr a4))], [.inl (0 : Int32)])) rfl ?_
      cases hr
      exact tm_retI rfl rfl
    · try dsimp only at hr
      by_cases c8 : z7 = 14
      · rw [if_pos c8] at hr
        subst c8
        refine tm_callC rfl rfl (tm_callV rfl rfl c1 rfl rfl) (lq_80 m4) qz7 rfl ?_
        refine tm_n 2 (F' := (18, [(5, .inr (.inr (some a6))), (0, .inr (.inr a0)), (1, .inl a1), (2, .inl a2), (3, .inl a3), (4, .inr (.inr a4))], [.inl (1 : Int32)])) rfl ?_
        cases hr
        exact tm_retI rfl rfl
      · rw [if_neg c8] at hr
        by_cases c9 : z7 = 16
        · rw [if_pos c9] at hr
          subst c9
          refine tm_callC rfl rfl (tm_callV rfl rfl c1 rfl rfl) (lq_80 m4) qz7 rfl ?_
          refine tm_n 2 (F' := (22, [(5, .inr (.inr (some a6))), (0, .inr (.inr a0)), (1, .inl a1), (2, .inl a2), (3, .inl a3), (4, .inr (.inr a4))], [.inl (2 : Int32)])) rfl ?_
          cases hr
          exact tm_retI rfl rfl
        · rw [if_neg c9] at hr
          by_cases c10 : z7 = 15
          · rw [if_pos c10] at hr
            subst c10
            refine tm_callC rfl rfl (tm_callV rfl rfl c1 rfl rfl) (lq_80 m4) qz7 rfl ?_
            refine tm_n 2 (F' := (26, [(5, .inr (.inr (some a6))), (0, .inr (.inr a0)), (1, .inl a1), (2, .inl a2), (3, .inl a3), (4, .inr (.inr a4))], [.inl (3 : Int32)])) rfl ?_
            cases hr
            exact tm_retI rfl rfl
          · rw [if_neg c10] at hr
            cases hr
  · rw [if_neg c1] at hr
    cases hr
-- OfficeSheet$Office.makeMove(LOfficeSheet$Line;LOfficeSheet$Place;)V
set_option maxRecDepth 20000 in
def ll_125 (w : Option Nat) (a0 : Option Nat) (a1 : Option Nat) (a2 : Option Nat) (h : pm_H) : tm_L := lb_h (lf_new h 7 12 [.null, .int 0, .int 0, .int 0, .null, .null, .null, .null, .null, .null, .null, .null]) fun h1 => lb_V (ll_96 (some h.1.length) (some 2) a0 h1) (fun h3 => lb_h (lf_new h3 8 3 [.null, .null, .int 0]) fun h5 => (lf_I h5 (some h.1.length) [7, 3]).bind fun v6 => lb_V (ll_98 (some h3.1.length) a1 a2 v6 h5) (fun h8 => (lf_R h8 a0 [4, 3]).bind fun v10 => (lf_I h8 a1 [6, 0]).bind fun v11 => (la_R h8 .aaload v10 v11).bind fun v12 => if lc_of h8 v12 = some 5 then lb_R (ll_90 v12 a1 h8) (fun v14 h15 => if lc_of h15 (some h.1.length) = some 7 then lb_V (ll_99 (some h.1.length) a1 (some h3.1.length) v14 h15) (fun h19 => if lc_of h19 a0 = some 4 then lb_V (ll_100 w a0 (some h.1.length) h19) (fun h23 => some (.inl none, h23)) else none) else none) else none))
set_option maxRecDepth 20000 in
theorem lq_125 {w : Option Nat} {d : Nat} {a0 : Option Nat} {a1 : Option Nat} {a2 : Option Nat} {h : pm_H} {r : tm_O × pm_H} (hr : ll_125 w a0 a1 a2 h = some r) : tm_run pt_P (pt_G (tm_r w)) (d + 16) 125 [.inr (.inr a0), .inr (.inr a1), .inr (.inr a2)] h r := by
  unfold ll_125 at hr
  show pm_to pt_P (pt_G (tm_r w)) (d + 16) (pt_g125, []) (tm_m (0, [(0, .inr (.inr a0)), (1, .inr (.inr a1)), (2, .inr (.inr a2))], [])) h (tm_e r)
  obtain ⟨h1, eh1, hr⟩ := lb_h_s hr
  refine tm_new rfl ?_
  rw [← eh1]
  refine tm_n 3 (F' := (8, [(0, .inr (.inr a0)), (1, .inr (.inr a1)), (2, .inr (.inr a2))], [.inr (.inr a0), .inr (.inr (some 2)), .inr (.inr (some h.1.length)), .inr (.inr (some h.1.length))])) rfl ?_
  rcases lb_V_s hr with ⟨h3, m4, hr⟩ | ⟨a33, h3, z34, z34l, m4, qz34, rfl⟩
  · try dsimp only at hr
    refine tm_call rfl rfl (tm_callP rfl rfl rfl) (lq_96 m4) ?_
    refine tm_n 3 (F' := (14, [(3, .inr (.inr (some h.1.length))), (0, .inr (.inr a0)), (1, .inr (.inr a1)), (2, .inr (.inr a2))], [.inr (.inr a1), .inr (.inr (some h.1.length))])) rfl ?_
    obtain ⟨h5, eh5, hr⟩ := lb_h_s hr
    refine tm_new rfl ?_
    rw [← eh5]
    refine tm_n 4 (F' := (21, [(3, .inr (.inr (some h.1.length))), (0, .inr (.inr a0)), (1, .inr (.inr a1)), (2, .inr (.inr a2))], [.inr (.inr (some h.1.length)), .inr (.inr a2), .inr (.inr a1), .inr (.inr (some h3.1.length)), .inr (.inr (some h3.1.length)), .inr (.inr a1), .inr (.inr (some h.1.length))])) rfl ?_
    obtain ⟨v6, qv6, hr⟩ := Option.bind_eq_some_iff.mp hr
    refine tm_getf rfl (lf_I_V qv6) ?_
    rcases lb_V_s hr with ⟨h8, m9, hr⟩ | ⟨a31, h8, z32, z32l, m9, qz32, rfl⟩
    · try dsimp only at hr
      refine tm_call rfl rfl (tm_callP rfl rfl rfl) (lq_98 m9) ?_
      refine tm_n 1 (F' := (28, [(3, .inr (.inr (some h.1.length))), (0, .inr (.inr a0)), (1, .inr (.inr a1)), (2, .inr (.inr a2))], [.inr (.inr a0), .inr (.inr (some h3.1.length)), .inr (.inr a1), .inr (.inr (some h.1.length))])) rfl ?_
      obtain ⟨v10, qv10, hr⟩ := Option.bind_eq_some_iff.mp hr
      refine tm_getf rfl (lf_R_V qv10) ?_
      refine tm_n 1 (F' := (32, [(3, .inr (.inr (some h.1.length))), (0, .inr (.inr a0)), (1, .inr (.inr a1)), (2, .inr (.inr a2))], [.inr (.inr a1), .inr (.inr v10), .inr (.inr (some h3.1.length)), .inr (.inr a1), .inr (.inr (some h.1.length))])) rfl ?_
      obtain ⟨v11, qv11, hr⟩ := Option.bind_eq_some_iff.mp hr
      refine tm_getf rfl (lf_I_V qv11) ?_
      obtain ⟨v12, qv12, hr⟩ := Option.bind_eq_some_iff.mp hr
      refine tm_ald rfl rfl (la_R_V qv12) ?_
      refine tm_n 1 (F' := (37, [(3, .inr (.inr (some h.1.length))), (0, .inr (.inr a0)), (1, .inr (.inr a1)), (2, .inr (.inr a2))], [.inr (.inr a1), .inr (.inr v12), .inr (.inr (some h3.1.length)), .inr (.inr a1), .inr (.inr (some h.1.length))])) rfl ?_
      by_cases c13 : lc_of h8 v12 = some 5
      · rw [if_pos c13] at hr
        rcases lb_R_s hr with ⟨v14, h15, m16, hr⟩ | ⟨a29, h15, z30, z30l, m16, qz30, rfl⟩
        · try dsimp only at hr
          refine tm_call rfl rfl (tm_callV rfl rfl c13 rfl rfl) (lq_90 m16) ?_
          by_cases c17 : lc_of h15 (some h.1.length) = some 7
          · rw [if_pos c17] at hr
            rcases lb_V_s hr with ⟨h19, m20, hr⟩ | ⟨a27, h19, z28, z28l, m20, qz28, rfl⟩
            · try dsimp only at hr
              refine tm_call rfl rfl (tm_callV rfl rfl c17 rfl rfl) (lq_99 m20) ?_
              refine tm_n 2 (F' := (45, [(3, .inr (.inr (some h.1.length))), (0, .inr (.inr a0)), (1, .inr (.inr a1)), (2, .inr (.inr a2))], [.inr (.inr (some h.1.length)), .inr (.inr a0)])) rfl ?_
              by_cases c21 : lc_of h19 a0 = some 4
              · rw [if_pos c21] at hr
                rcases lb_V_s hr with ⟨h23, m24, hr⟩ | ⟨a25, h23, z26, z26l, m24, qz26, rfl⟩
                · try dsimp only at hr
                  refine tm_call rfl rfl (tm_callV rfl rfl c21 rfl rfl) (lq_100 m24) ?_
                  cases hr
                  exact tm_retV rfl
                · exact tm_callT rfl rfl (tm_callV rfl rfl c21 rfl rfl) (lq_100 m24) qz26 rfl
              · rw [if_neg c21] at hr
                cases hr
            · exact tm_callT rfl rfl (tm_callV rfl rfl c17 rfl rfl) (lq_99 m20) qz28 rfl
          · rw [if_neg c17] at hr
            cases hr
        · exact tm_callT rfl rfl (tm_callV rfl rfl c13 rfl rfl) (lq_90 m16) qz30 rfl
      · rw [if_neg c13] at hr
        cases hr
    · exact tm_callT rfl rfl (tm_callP rfl rfl rfl) (lq_98 m9) qz32 rfl
  · exact tm_callT rfl rfl (tm_callP rfl rfl rfl) (lq_96 m4) qz34 rfl
-- OfficeSheet.move(IIII)V
set_option maxRecDepth 20000 in
def ll_124 (w : Option Nat) (a0 : Option Nat) (a1 : Int32) (a2 : Int32) (a3 : Int32) (a4 : Int32) (h : pm_H) : tm_L := if lc_of h a0 = some 0 then lb_R (ll_81 a0 a1 h) (fun v2 h3 => lb_R (ll_82 v2 a2 h3) (fun v5 h6 => lb_R (ll_84 v5 a3 h6) (fun v8 h9 => lb_R (ll_83 v5 a4 h9) (fun v11 h12 => lb_V (ll_91 v2 h12) (fun h15 => if lc_of h15 v2 = some 4 then lb_V (ll_125 w v2 v8 v11 h15) (fun h19 => some (.inl none, h19)) else none))))) else none
set_option maxRecDepth 20000 in
theorem lq_124 {w : Option Nat} {d : Nat} {a0 : Option Nat} {a1 : Int32} {a2 : Int32} {a3 : Int32} {a4 : Int32} {h : pm_H} {r : tm_O × pm_H} (hr : ll_124 w a0 a1 a2 a3 a4 h = some r) : tm_run pt_P (pt_G (tm_r w)) (d + 17) 124 [.inr (.inr a0), .inl a1, .inl a2, .inl a3, .inl a4] h r := by
  unfold ll_124 at hr
  show pm_to pt_P (pt_G (tm_r w)) (d + 17) (pt_g124, []) (tm_m (0, [(0, .inr (.inr a0)), (1, .inl a1), (2, .inl a2), (3, .inl a3), (4, .inl a4)], [])) h (tm_e r)
  refine tm_n 2 (F' := (2, [(0, .inr (.inr a0)), (1, .inl a1), (2, .inl a2), (3, .inl a3), (4, .inl a4)], [.inl a1, .inr (.inr a0)])) rfl ?_
  by_cases c1 : lc_of h a0 = some 0
  · rw [if_pos c1] at hr
    rcases lb_R_s hr with ⟨v2, h3, m4, hr⟩ | ⟨a31, h3, z32, z32l, m4, qz32, rfl⟩
    · try dsimp only at hr
      refine tm_call rfl rfl (tm_callV rfl rfl c1 rfl rfl) (lq_81 m4) ?_
      refine tm_n 3 (F' := (10, [(5, .inr (.inr v2)), (0, .inr (.inr a0)), (1, .inl a1), (2, .inl a2), (3, .inl a3), (4, .inl a4)], [.inl a2, .inr (.inr v2)])) rfl ?_
      rcases lb_R_s hr with ⟨v5, h6, m7, hr⟩ | ⟨a29, h6, z30, z30l, m7, qz30, rfl⟩
      · try dsimp only at hr
        refine tm_call rfl rfl (tm_callS rfl rfl) (lq_82 m7) ?_
        refine tm_n 3 (F' := (18, [(6, .inr (.inr v5)), (5, .inr (.inr v2)), (0, .inr (.inr a0)), (1, .inl a1), (2, .inl a2), (3, .inl a3), (4, .inl a4)], [.inl a3, .inr (.inr v5)])) rfl ?_
        rcases lb_R_s hr with ⟨v8, h9, m10, hr⟩ | ⟨a27, h9, z28, z28l, m10, qz28, rfl⟩
        · try dsimp only at hr
          refine tm_call rfl rfl (tm_callS rfl rfl) (lq_84 m10) ?_
          refine tm_n 3 (F' := (27, [(7, .inr (.inr v8)), (6, .inr (.inr v5)), (5, .inr (.inr v2)), (0, .inr (.inr a0)), (1, .inl a1), (2, .inl a2), (3, .inl a3), (4, .inl a4)], [.inl a4, .inr (.inr v5)])) rfl ?_
          rcases lb_R_s hr with ⟨v11, h12, m13, hr⟩ | ⟨a25, h12, z26, z26l, m13, qz26, rfl⟩
          · try dsimp only at hr
            refine tm_call rfl rfl (tm_callS rfl rfl) (lq_83 m13) ?_
            refine tm_n 2 (F' := (34, [(8, .inr (.inr v11)), (7, .inr (.inr v8)), (6, .inr (.inr v5)), (5, .inr (.inr v2)), (0, .inr (.inr a0)), (1, .inl a1), (2, .inl a2), (3, .inl a3), (4, .inl a4)], [.inr (.inr v2)])) rfl ?_
            rcases lb_V_s hr with ⟨h15, m16, hr⟩ | ⟨a23, h15, z24, z24l, m16, qz24, rfl⟩
            · try dsimp only at hr
              refine tm_call rfl rfl (tm_callS rfl rfl) (lq_91 m16) ?_
              refine tm_n 3 (F' := (43, [(8, .inr (.inr v11)), (7, .inr (.inr v8)), (6, .inr (.inr v5)), (5, .inr (.inr v2)), (0, .inr (.inr a0)), (1, .inl a1), (2, .inl a2), (3, .inl a3), (4, .inl a4)], [.inr (.inr v11), .inr (.inr v8), .inr (.inr v2)])) rfl ?_
              by_cases c17 : lc_of h15 v2 = some 4
              · rw [if_pos c17] at hr
                rcases lb_V_s hr with ⟨h19, m20, hr⟩ | ⟨a21, h19, z22, z22l, m20, qz22, rfl⟩
                · try dsimp only at hr
                  refine tm_call rfl rfl (tm_callV rfl rfl c17 rfl rfl) (lq_125 m20) ?_
                  cases hr
                  exact tm_retV rfl
                · exact tm_callT rfl rfl (tm_callV rfl rfl c17 rfl rfl) (lq_125 m20) qz22 rfl
              · rw [if_neg c17] at hr
                cases hr
            · exact tm_callT rfl rfl (tm_callS rfl rfl) (lq_91 m16) qz24 rfl
          · exact tm_callT rfl rfl (tm_callS rfl rfl) (lq_83 m13) qz26 rfl
        · exact tm_callT rfl rfl (tm_callS rfl rfl) (lq_84 m10) qz28 rfl
      · exact tm_callT rfl rfl (tm_callS rfl rfl) (lq_82 m7) qz30 rfl
    · exact tm_callT rfl rfl (tm_callV rfl rfl c1 rfl rfl) (lq_81 m4) qz32 rfl
  · rw [if_neg c1] at hr
    cases hr
-- OfficeSheetLaw.move(LOfficeSheet;IIII)I
set_option maxRecDepth 20000 in
def ll_123 (w : Option Nat) (a0 : Option Nat) (a1 : Int32) (a2 : Int32) (a3 : Int32) (a4 : Int32) (h : pm_H) : tm_L := if lc_of h a0 = some 0 then lh_V (ll_124 w a0 a1 a2 a3 a4 h) (fun h3 => some (.inl (some (.inl (0 : Int32))), h3)) (fun a5 z6 h3 => if z6 = 14 then some (.inl (some (.inl (1 : Int32))), h3) else if z6 = 16 then some (.inl (some (.inl (2 : Int32))), h3) else if z6 = 15 then some (.inl (some (.inl (3 : Int32))), h3) else none) else none
set_option maxRecDepth 20000 in
theorem lq_123 {w : Option Nat} {d : Nat} {a0 : Option Nat} {a1 : Int32} {a2 : Int32} {a3 : Int32} {a4 : Int32} {h : pm_H} {r : tm_O × pm_H} (hr : ll_123 w a0 a1 a2 a3 a4 h = some r) : tm_run pt_P (pt_G (tm_r w)) (d + 18) 123 [.inr (.inr a0), .inl a1, .inl a2, .inl a3, .inl a4] h r := by
  unfold ll_123 at hr
  show pm_to pt_P (pt_G (tm_r w)) (d + 18) (pt_g123, [(0, 9, 12, [14]), (0, 9, 16, [16]), (0, 9, 20, [15])]) (tm_m (0, [(0, .inr (.inr a0)), (1, .inl a1), (2, .inl a2), (3, .inl a3), (4, .inl a4)], [])) h (tm_e r)
  refine tm_n 5 (F' := (6, [(0, .inr (.inr a0)), (1, .inl a1), (2, .inl a2), (3, .inl a3), (4, .inl a4)], [.inl a4, .inl a3, .inl a2, .inl a1, .inr (.inr a0)])) rfl ?_
  by_cases c1 : lc_of h a0 = some 0
  · rw [if_pos c1] at hr
    rcases lh_V_s hr with ⟨h3, m4, hr⟩ | ⟨a5, h3, z6, z6l, m4, qz6, hr⟩
    · try dsimp only at hr
      refine tm_call rfl rfl (tm_callV rfl rfl c1 rfl rfl) (lq_124 m4) ?_
      refine tm_n 2 (F' := (25, [(0, .inr (.inr a0)), (1, .inl a1), (2, .inl a2), (3, .inl a3), (4, .inl a4)], [.inl (0 : Int32)])) rfl ?_
      cases hr
      exact tm_retI rfl rfl
    · try dsimp only at hr
      by_cases c7 : z6 = 14
      · rw [if_pos c7] at hr
        subst c7
        refine tm_callC rfl rfl (tm_callV rfl rfl c1 rfl rfl) (lq_124 m4) qz6 rfl ?_
        refine tm_n 2 (F' := (15, [(5, .inr (.inr (some a5))), (0, .inr (.inr a0)), (1, .inl a1), (2, .inl a2), (3, .inl a3), (4, .inl a4)], [.inl (1 : Int32)])) rfl ?_
        cases hr
        exact tm_retI rfl rfl
      · rw [if_neg c7] at hr
        by_cases c8 : z6 = 16
        · rw [if_pos c8] at hr
          subst c8
          refine tm_callC rfl rfl (tm_callV rfl rfl c1 rfl rfl) (lq_124 m4) qz6 rfl ?_
          refine tm_n 2 (F' := (19, [(5, .inr (.inr (some a5))), (0, .inr (.inr a0)), (1, .inl a1), (2, .inl a2), (3, .inl a3), (4, .inl a4)], [.inl (2 : Int32)])) rfl ?_
          cases hr
          exact tm_retI rfl rfl
        · rw [if_neg c8] at hr
          by_cases c9 : z6 = 15
          · rw [if_pos c9] at hr
            subst c9
            refine tm_callC rfl rfl (tm_callV rfl rfl c1 rfl rfl) (lq_124 m4) qz6 rfl ?_
            refine tm_n 2 (F' := (23, [(5, .inr (.inr (some a5))), (0, .inr (.inr a0)), (1, .inl a1), (2, .inl a2), (3, .inl a3), (4, .inl a4)], [.inl (3 : Int32)])) rfl ?_
            cases hr
            exact tm_retI rfl rfl
          · rw [if_neg c9] at hr
            cases hr
  · rw [if_neg c1] at hr
    cases hr
