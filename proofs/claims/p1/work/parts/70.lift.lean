/-! lifted: 6, 5, 4, 3, 2, 7, 8, 12, 11, 10, 14, 13, 9, 1, 18, 17, 24, 25, 23, 22, 27, 26, 21, 28, 29, 34, 36, 35, 33, 37, 32, 31, 30, 41, 40, 39, 38, 20, 19, 16, 15, 52, 51, 50, 49, 48 -/
-- java/lang/StringUTF16.newBytesLength(I)I
set_option maxRecDepth 20000 in
def ll_6 (a0 : Int32) (h : pm_H) : tm_L := if (0 : Int32) ≤ a0 then if a0 < (1073741823 : Int32) then some (.inl (some (.inl (a0 <<< ((1 : Int32) &&& 31)))), h) else none else none
set_option maxRecDepth 20000 in
theorem lq_6 {w : Option Nat} {d : Nat} {a0 : Int32} {h : pm_H} {r : tm_O × pm_H} (hr : ll_6 a0 h = some r) : tm_run pt_P (pt_G (tm_r w)) (d + 0) 6 [.inl a0] h r := by
  unfold ll_6 at hr
  show pm_to pt_P (pt_G (tm_r w)) (d + 0) (pt_g6, []) (tm_m (0, [(0, .inl a0)], [])) h (tm_e r)
  refine tm_n 1 (F' := (1, [(0, .inl a0)], [.inl a0])) rfl ?_
  by_cases c2 : (0 : Int32) ≤ a0
  · rw [if_pos c2] at hr
    refine tm_ifT rfl c2 ?_
    refine tm_n 2 (F' := (15, [(0, .inl a0)], [.inl (1073741823 : Int32), .inl a0])) rfl ?_
    by_cases c1 : a0 < (1073741823 : Int32)
    · rw [if_pos c1] at hr
      refine tm_icT rfl c1 ?_
      refine tm_n 3 (F' := (58, [(0, .inl a0)], [.inl (a0 <<< ((1 : Int32) &&& 31))])) rfl ?_
      cases hr
      exact tm_retI rfl rfl
    · rw [if_neg c1] at hr
      refine tm_icF rfl c1 ?_
      cases hr
  · rw [if_neg c2] at hr
    refine tm_ifF rfl c2 ?_
    cases hr
-- java/lang/StringUTF16.newBytesFor(I)[B
set_option maxRecDepth 20000 in
def ll_5 (a0 : Int32) (h : pm_H) : tm_L := lb_I (ll_6 a0 h) (fun v1 h2 => (lf_na h2 4 (.int 0) v1).bind fun h4 => some (.inl (some (.inr (.inr (some h2.1.length)))), h4))
set_option maxRecDepth 20000 in
theorem lq_5 {w : Option Nat} {d : Nat} {a0 : Int32} {h : pm_H} {r : tm_O × pm_H} (hr : ll_5 a0 h = some r) : tm_run pt_P (pt_G (tm_r w)) (d + 1) 5 [.inl a0] h r := by
  unfold ll_5 at hr
  show pm_to pt_P (pt_G (tm_r w)) (d + 1) (pt_g5, []) (tm_m (0, [(0, .inl a0)], [])) h (tm_e r)
  refine tm_n 1 (F' := (1, [(0, .inl a0)], [.inl a0])) rfl ?_
  rcases lb_I_s hr with ⟨v1, h2, m3, hr⟩ | ⟨a5, h2, z6, z6l, m3, qz6, rfl⟩
  · try dsimp only at hr
    refine tm_call rfl rfl (tm_callS rfl rfl) (lq_6 m3) ?_
    obtain ⟨h4, qh4, hr⟩ := Option.bind_eq_some_iff.mp hr
    refine tm_newarr rfl qh4 ?_
    cases hr
    exact tm_retR rfl
  · exact tm_callT rfl rfl (tm_callS rfl rfl) (lq_6 m3) qz6 rfl
-- java/lang/AbstractStringBuilder.<init>(I)V
set_option maxRecDepth 20000 in
def ll_4 (a0 : Option Nat) (a1 : Int32) (h : pm_H) : tm_L := if Option.isSome a0 = true then (lf_na h 4 (.int 0) a1).bind fun h2 => (lf_P 81 h2 a0 [2, 11, 0] (.inr (.inr (some h.1.length)))).bind fun h3 => (lf_P 81 h3 a0 [4, 11, 1] (.inl (0 : Int32))).bind fun h4 => some (.inl none, h4) else none
set_option maxRecDepth 20000 in
theorem lq_4 {w : Option Nat} {d : Nat} {a0 : Option Nat} {a1 : Int32} {h : pm_H} {r : tm_O × pm_H} (hr : ll_4 a0 a1 h = some r) : tm_run pt_P (pt_G (tm_r w)) (d + 2) 4 [.inr (.inr a0), .inl a1] h r := by
  unfold ll_4 at hr
  show pm_to pt_P (pt_G (tm_r w)) (d + 2) (pt_g4, []) (tm_m (0, [(0, .inr (.inr a0)), (1, .inl a1)], [])) h (tm_e r)
  refine tm_n 1 (F' := (1, [(0, .inr (.inr a0)), (1, .inl a1)], [.inr (.inr a0)])) rfl ?_
  by_cases c1 : Option.isSome a0 = true
  · rw [if_pos c1] at hr
    refine tm_oinit2 rfl c1 rfl ?_
    refine tm_n 1 (F' := (7, [(0, .inr (.inr a0)), (1, .inl a1)], [.inl (1 : Int32)])) rfl ?_
    refine tm_ifF rfl (by simp only [tm_cnd]; decide) ?_
    refine tm_n 2 (F' := (12, [(0, .inr (.inr a0)), (1, .inl a1)], [.inl a1, .inr (.inr a0)])) rfl ?_
    obtain ⟨h2, qh2, hr⟩ := Option.bind_eq_some_iff.mp hr
    refine tm_newarr rfl qh2 ?_
    obtain ⟨h3, qh3, hr⟩ := Option.bind_eq_some_iff.mp hr
    refine tm_putf rfl qh3 ?_
    refine tm_n 2 (F' := (19, [(0, .inr (.inr a0)), (1, .inl a1)], [.inl (0 : Int32), .inr (.inr a0)])) rfl ?_
    obtain ⟨h4, qh4, hr⟩ := Option.bind_eq_some_iff.mp hr
    refine tm_putf rfl qh4 ?_
    refine tm_n 1 (F' := (38, [(0, .inr (.inr a0)), (1, .inl a1)], [])) rfl ?_
    cases hr
    exact tm_retV rfl
  · rw [if_neg c1] at hr
    cases hr
-- java/lang/StringBuilder.<init>()V
set_option maxRecDepth 20000 in
def ll_3 (a0 : Option Nat) (h : pm_H) : tm_L := if Option.isSome a0 = true then lb_V (ll_4 a0 (16 : Int32) h) (fun h3 => some (.inl none, h3)) else none
set_option maxRecDepth 20000 in
theorem lq_3 {w : Option Nat} {d : Nat} {a0 : Option Nat} {h : pm_H} {r : tm_O × pm_H} (hr : ll_3 a0 h = some r) : tm_run pt_P (pt_G (tm_r w)) (d + 3) 3 [.inr (.inr a0)] h r := by
  unfold ll_3 at hr
  show pm_to pt_P (pt_G (tm_r w)) (d + 3) (pt_g3, []) (tm_m (0, [(0, .inr (.inr a0))], [])) h (tm_e r)
  refine tm_n 2 (F' := (3, [(0, .inr (.inr a0))], [.inl (16 : Int32), .inr (.inr a0)])) rfl ?_
  by_cases c1 : Option.isSome a0 = true
  · rw [if_pos c1] at hr
    rcases lb_V_s hr with ⟨h3, m4, hr⟩ | ⟨a5, h3, z6, z6l, m4, qz6, rfl⟩
    · try dsimp only at hr
      refine tm_call rfl rfl (tm_callP2 rfl rfl c1 rfl) (lq_4 m4) ?_
      cases hr
      exact tm_retV rfl
    · exact tm_callT rfl rfl (tm_callP2 rfl rfl c1 rfl) (lq_4 m4) qz6 rfl
  · rw [if_neg c1] at hr
    cases hr
-- OfficeSheet$Reader.<init>()V
set_option maxRecDepth 20000 in
def ll_2 (a0 : Option Nat) (h : pm_H) : tm_L := if Option.isSome a0 = true then lb_h (lf_new h 11 4 [.null, .int 0, .int 0, .int 0]) fun h2 => lb_V (ll_3 (some h.1.length) h2) (fun h4 => (lf_P 81 h4 a0 [2, 1, 0] (.inr (.inr (some h.1.length)))).bind fun h6 => (lf_na h6 0 (.int 0) (22 : Int32)).bind fun h7 => (lf_P 81 h7 a0 [2, 1, 1] (.inr (.inr (some h6.1.length)))).bind fun h8 => (lf_P 81 h8 a0 [0, 1, 2] (.inl (0 : Int32))).bind fun h9 => (lf_P 81 h9 a0 [0, 1, 3] (.inl (0 : Int32))).bind fun h10 => (lf_P 81 h10 a0 [0, 1, 4] (.inl (-1 : Int32))).bind fun h11 => some (.inl none, h11)) else none
set_option maxRecDepth 20000 in
theorem lq_2 {w : Option Nat} {d : Nat} {a0 : Option Nat} {h : pm_H} {r : tm_O × pm_H} (hr : ll_2 a0 h = some r) : tm_run pt_P (pt_G (tm_r w)) (d + 4) 2 [.inr (.inr a0)] h r := by
  unfold ll_2 at hr
  show pm_to pt_P (pt_G (tm_r w)) (d + 4) (pt_g2, []) (tm_m (0, [(0, .inr (.inr a0))], [])) h (tm_e r)
  refine tm_n 1 (F' := (1, [(0, .inr (.inr a0))], [.inr (.inr a0)])) rfl ?_
  by_cases c1 : Option.isSome a0 = true
  · rw [if_pos c1] at hr
    refine tm_oinit2 rfl c1 rfl ?_
    refine tm_n 1 (F' := (5, [(0, .inr (.inr a0))], [.inr (.inr a0)])) rfl ?_
    obtain ⟨h2, eh2, hr⟩ := lb_h_s hr
    refine tm_new rfl ?_
    rw [← eh2]
    refine tm_n 1 (F' := (9, [(0, .inr (.inr a0))], [.inr (.inr (some h.1.length)), .inr (.inr (some h.1.length)), .inr (.inr a0)])) rfl ?_
    rcases lb_V_s hr with ⟨h4, m5, hr⟩ | ⟨a12, h4, z13, z13l, m5, qz13, rfl⟩
    · try dsimp only at hr
      refine tm_call rfl rfl (tm_callP rfl rfl rfl) (lq_3 m5) ?_
      obtain ⟨h6, qh6, hr⟩ := Option.bind_eq_some_iff.mp hr
      refine tm_putf rfl qh6 ?_
      refine tm_n 2 (F' := (18, [(0, .inr (.inr a0))], [.inl (22 : Int32), .inr (.inr a0)])) rfl ?_
      obtain ⟨h7, qh7, hr⟩ := Option.bind_eq_some_iff.mp hr
      refine tm_newarr rfl qh7 ?_
      obtain ⟨h8, qh8, hr⟩ := Option.bind_eq_some_iff.mp hr
      refine tm_putf rfl qh8 ?_
      refine tm_n 2 (F' := (25, [(0, .inr (.inr a0))], [.inl (0 : Int32), .inr (.inr a0)])) rfl ?_
      obtain ⟨h9, qh9, hr⟩ := Option.bind_eq_some_iff.mp hr
      refine tm_putf rfl qh9 ?_
      refine tm_n 2 (F' := (30, [(0, .inr (.inr a0))], [.inl (0 : Int32), .inr (.inr a0)])) rfl ?_
      obtain ⟨h10, qh10, hr⟩ := Option.bind_eq_some_iff.mp hr
      refine tm_putf rfl qh10 ?_
      refine tm_n 2 (F' := (35, [(0, .inr (.inr a0))], [.inl (-1 : Int32), .inr (.inr a0)])) rfl ?_
      obtain ⟨h11, qh11, hr⟩ := Option.bind_eq_some_iff.mp hr
      refine tm_putf rfl qh11 ?_
      cases hr
      exact tm_retV rfl
    · exact tm_callT rfl rfl (tm_callP rfl rfl rfl) (lq_3 m5) qz13 rfl
  · rw [if_neg c1] at hr
    cases hr
-- OfficeSheet$Calculator.<init>()V
set_option maxRecDepth 20000 in
def ll_7 (a0 : Option Nat) (h : pm_H) : tm_L := if Option.isSome a0 = true then (lf_na h 11 (.null) (120 : Int32)).bind fun h2 => (lf_P 81 h2 a0 [2, 2, 0] (.inr (.inr (some h.1.length)))).bind fun h3 => (lf_na h3 1 (.long 0) (120 : Int32)).bind fun h4 => (lf_P 81 h4 a0 [2, 2, 1] (.inr (.inr (some h3.1.length)))).bind fun h5 => (lf_na h5 3 (.int 0) (120 : Int32)).bind fun h6 => (lf_P 81 h6 a0 [2, 2, 2] (.inr (.inr (some h5.1.length)))).bind fun h7 => (lf_P 81 h7 a0 [0, 2, 3] (.inl (0 : Int32))).bind fun h8 => (lf_P 81 h8 a0 [3, 2, 6] (.inl (0 : Int32))).bind fun h9 => some (.inl none, h9) else none
set_option maxRecDepth 20000 in
theorem lq_7 {w : Option Nat} {d : Nat} {a0 : Option Nat} {h : pm_H} {r : tm_O × pm_H} (hr : ll_7 a0 h = some r) : tm_run pt_P (pt_G (tm_r w)) (d + 0) 7 [.inr (.inr a0)] h r := by
  unfold ll_7 at hr
  show pm_to pt_P (pt_G (tm_r w)) (d + 0) (pt_g7, []) (tm_m (0, [(0, .inr (.inr a0))], [])) h (tm_e r)
  refine tm_n 1 (F' := (1, [(0, .inr (.inr a0))], [.inr (.inr a0)])) rfl ?_
  by_cases c1 : Option.isSome a0 = true
  · rw [if_pos c1] at hr
    refine tm_oinit2 rfl c1 rfl ?_
    refine tm_n 2 (F' := (7, [(0, .inr (.inr a0))], [.inl (120 : Int32), .inr (.inr a0)])) rfl ?_
    obtain ⟨h2, qh2, hr⟩ := Option.bind_eq_some_iff.mp hr
    refine tm_anew rfl qh2 ?_
    obtain ⟨h3, qh3, hr⟩ := Option.bind_eq_some_iff.mp hr
    refine tm_putf rfl qh3 ?_
    refine tm_n 2 (F' := (16, [(0, .inr (.inr a0))], [.inl (120 : Int32), .inr (.inr a0)])) rfl ?_
    obtain ⟨h4, qh4, hr⟩ := Option.bind_eq_some_iff.mp hr
    refine tm_newarr rfl qh4 ?_
    obtain ⟨h5, qh5, hr⟩ := Option.bind_eq_some_iff.mp hr
    refine tm_putf rfl qh5 ?_
    refine tm_n 2 (F' := (24, [(0, .inr (.inr a0))], [.inl (120 : Int32), .inr (.inr a0)])) rfl ?_
    obtain ⟨h6, qh6, hr⟩ := Option.bind_eq_some_iff.mp hr
    refine tm_newarr rfl qh6 ?_
    obtain ⟨h7, qh7, hr⟩ := Option.bind_eq_some_iff.mp hr
    refine tm_putf rfl qh7 ?_
    refine tm_n 2 (F' := (31, [(0, .inr (.inr a0))], [.inl (0 : Int32), .inr (.inr a0)])) rfl ?_
    obtain ⟨h8, qh8, hr⟩ := Option.bind_eq_some_iff.mp hr
    refine tm_putf rfl qh8 ?_
    refine tm_n 2 (F' := (36, [(0, .inr (.inr a0))], [.inl (0 : Int32), .inr (.inr a0)])) rfl ?_
    obtain ⟨h9, qh9, hr⟩ := Option.bind_eq_some_iff.mp hr
    refine tm_putf rfl qh9 ?_
    cases hr
    exact tm_retV rfl
  · rw [if_neg c1] at hr
    cases hr
-- OfficeSheet$Writer.<init>()V
set_option maxRecDepth 20000 in
def ll_8 (a0 : Option Nat) (h : pm_H) : tm_L := if Option.isSome a0 = true then lb_h (lf_new h 11 4 [.null, .int 0, .int 0, .int 0]) fun h2 => lb_V (ll_3 (some h.1.length) h2) (fun h4 => (lf_P 81 h4 a0 [2, 3, 0] (.inr (.inr (some h.1.length)))).bind fun h6 => some (.inl none, h6)) else none
set_option maxRecDepth 20000 in
theorem lq_8 {w : Option Nat} {d : Nat} {a0 : Option Nat} {h : pm_H} {r : tm_O × pm_H} (hr : ll_8 a0 h = some r) : tm_run pt_P (pt_G (tm_r w)) (d + 4) 8 [.inr (.inr a0)] h r := by
  unfold ll_8 at hr
  show pm_to pt_P (pt_G (tm_r w)) (d + 4) (pt_g8, []) (tm_m (0, [(0, .inr (.inr a0))], [])) h (tm_e r)
  refine tm_n 1 (F' := (1, [(0, .inr (.inr a0))], [.inr (.inr a0)])) rfl ?_
  by_cases c1 : Option.isSome a0 = true
  · rw [if_pos c1] at hr
    refine tm_oinit2 rfl c1 rfl ?_
    refine tm_n 1 (F' := (5, [(0, .inr (.inr a0))], [.inr (.inr a0)])) rfl ?_
    obtain ⟨h2, eh2, hr⟩ := lb_h_s hr
    refine tm_new rfl ?_
    rw [← eh2]
    refine tm_n 1 (F' := (9, [(0, .inr (.inr a0))], [.inr (.inr (some h.1.length)), .inr (.inr (some h.1.length)), .inr (.inr a0)])) rfl ?_
    rcases lb_V_s hr with ⟨h4, m5, hr⟩ | ⟨a7, h4, z8, z8l, m5, qz8, rfl⟩
    · try dsimp only at hr
      refine tm_call rfl rfl (tm_callP rfl rfl rfl) (lq_3 m5) ?_
      obtain ⟨h6, qh6, hr⟩ := Option.bind_eq_some_iff.mp hr
      refine tm_putf rfl qh6 ?_
      cases hr
      exact tm_retV rfl
    · exact tm_callT rfl rfl (tm_callP rfl rfl rfl) (lq_3 m5) qz8 rfl
  · rw [if_neg c1] at hr
    cases hr
-- java/util/AbstractCollection.<init>()V
set_option maxRecDepth 20000 in
def ll_12 (a0 : Option Nat) (h : pm_H) : tm_L := if Option.isSome a0 = true then some (.inl none, h) else none
set_option maxRecDepth 20000 in
theorem lq_12 {w : Option Nat} {d : Nat} {a0 : Option Nat} {h : pm_H} {r : tm_O × pm_H} (hr : ll_12 a0 h = some r) : tm_run pt_P (pt_G (tm_r w)) (d + 0) 12 [.inr (.inr a0)] h r := by
  unfold ll_12 at hr
  show pm_to pt_P (pt_G (tm_r w)) (d + 0) (pt_g12, []) (tm_m (0, [(0, .inr (.inr a0))], [])) h (tm_e r)
  refine tm_n 1 (F' := (1, [(0, .inr (.inr a0))], [.inr (.inr a0)])) rfl ?_
  by_cases c1 : Option.isSome a0 = true
  · rw [if_pos c1] at hr
    refine tm_oinit2 rfl c1 rfl ?_
    cases hr
    exact tm_retV rfl
  · rw [if_neg c1] at hr
    cases hr
-- java/util/AbstractList.<init>()V
set_option maxRecDepth 20000 in
def ll_11 (a0 : Option Nat) (h : pm_H) : tm_L := if Option.isSome a0 = true then lb_V (ll_12 a0 h) (fun h3 => (lf_P 81 h3 a0 [0, 12, 2] (.inl (0 : Int32))).bind fun h5 => some (.inl none, h5)) else none
set_option maxRecDepth 20000 in
theorem lq_11 {w : Option Nat} {d : Nat} {a0 : Option Nat} {h : pm_H} {r : tm_O × pm_H} (hr : ll_11 a0 h = some r) : tm_run pt_P (pt_G (tm_r w)) (d + 1) 11 [.inr (.inr a0)] h r := by
  unfold ll_11 at hr
  show pm_to pt_P (pt_G (tm_r w)) (d + 1) (pt_g11, []) (tm_m (0, [(0, .inr (.inr a0))], [])) h (tm_e r)
  refine tm_n 1 (F' := (1, [(0, .inr (.inr a0))], [.inr (.inr a0)])) rfl ?_
  by_cases c1 : Option.isSome a0 = true
  · rw [if_pos c1] at hr
    rcases lb_V_s hr with ⟨h3, m4, hr⟩ | ⟨a6, h3, z7, z7l, m4, qz7, rfl⟩
    · try dsimp only at hr
      refine tm_call rfl rfl (tm_callP2 rfl rfl c1 rfl) (lq_12 m4) ?_
      refine tm_n 2 (F' := (6, [(0, .inr (.inr a0))], [.inl (0 : Int32), .inr (.inr a0)])) rfl ?_
      obtain ⟨h5, qh5, hr⟩ := Option.bind_eq_some_iff.mp hr
      refine tm_putf rfl qh5 ?_
      cases hr
      exact tm_retV rfl
    · exact tm_callT rfl rfl (tm_callP2 rfl rfl c1 rfl) (lq_12 m4) qz7 rfl
  · rw [if_neg c1] at hr
    cases hr
-- java/util/ArrayList.<init>()V
set_option maxRecDepth 20000 in
def ll_10 (a0 : Option Nat) (h : pm_H) : tm_L := if Option.isSome a0 = true then lb_V (ll_11 a0 h) (fun h3 => (lf_P 81 h3 a0 [2, 12, 0] (.inr (.inr (some 20)))).bind fun h5 => some (.inl none, h5)) else none
set_option maxRecDepth 20000 in
theorem lq_10 {w : Option Nat} {d : Nat} {a0 : Option Nat} {h : pm_H} {r : tm_O × pm_H} (hr : ll_10 a0 h = some r) : tm_run pt_P (pt_G (tm_r w)) (d + 2) 10 [.inr (.inr a0)] h r := by
  unfold ll_10 at hr
  show pm_to pt_P (pt_G (tm_r w)) (d + 2) (pt_g10, []) (tm_m (0, [(0, .inr (.inr a0))], [])) h (tm_e r)
  refine tm_n 1 (F' := (1, [(0, .inr (.inr a0))], [.inr (.inr a0)])) rfl ?_
  by_cases c1 : Option.isSome a0 = true
  · rw [if_pos c1] at hr
    rcases lb_V_s hr with ⟨h3, m4, hr⟩ | ⟨a6, h3, z7, z7l, m4, qz7, rfl⟩
    · try dsimp only at hr
      refine tm_call rfl rfl (tm_callP2 rfl rfl c1 rfl) (lq_11 m4) ?_
      refine tm_n 2 (F' := (8, [(0, .inr (.inr a0))], [.inr (.inr (some 20)), .inr (.inr a0)])) rfl ?_
      obtain ⟨h5, qh5, hr⟩ := Option.bind_eq_some_iff.mp hr
      refine tm_putf rfl qh5 ?_
      cases hr
      exact tm_retV rfl
    · exact tm_callT rfl rfl (tm_callP2 rfl rfl c1 rfl) (lq_11 m4) qz7 rfl
  · rw [if_neg c1] at hr
    cases hr
-- java/util/Arrays.fill([II)V
set_option maxRecDepth 20000 in
def l14_5 : Nat → Option Nat → Int32 → Int32 → Int32 → pm_H → tm_L
  | 0 => fun _ _ _ _ _ => none
  | n + 1 => fun x0 x1 x2 x3 h => if x3 ≤ x2 then some (.inl none, h) else (la_S pt_P h .iastore x0 x2 (.inl x1)).bind fun h1 => l14_5 n x0 x1 (x2 + (1 : Int32)) x3 h1
set_option maxRecDepth 20000 in
theorem l14_5_t {w : Option Nat} {d : Nat} : ∀ (n : Nat) {x0 : Option Nat} {x1 : Int32} {x2 : Int32} {x3 : Int32} {h : pm_H} {r : tm_O × pm_H}, l14_5 n x0 x1 x2 x3 h = some r → pm_to pt_P (pt_G (tm_r w)) (d + 0) (pt_g14, []) (tm_m (5, [(0, .inr (.inr x0)), (1, .inl x1), (2, .inl x2), (3, .inl x3)], [])) h (tm_e r) := by
  intro n
  induction n with
  | zero => intro x0 x1 x2 x3 h r hr; cases hr
  | succ n ih =>
    intro x0 x1 x2 x3 h r hr
    unfold l14_5 at hr
    refine tm_n 2 (F' := (7, [(0, .inr (.inr x0)), (1, .inl x1), (2, .inl x2), (3, .inl x3)], [.inl x3, .inl x2])) rfl ?_
    by_cases c2 : x3 ≤ x2
    · rw [if_pos c2] at hr
      refine tm_icT rfl c2 ?_
      cases hr
      exact tm_retV rfl
    · rw [if_neg c2] at hr
      refine tm_icF rfl c2 ?_
      refine tm_n 3 (F' := (13, [(0, .inr (.inr x0)), (1, .inl x1), (2, .inl x2), (3, .inl x3)], [.inl x1, .inl x2, .inr (.inr x0)])) rfl ?_
      obtain ⟨h1, qh1, hr⟩ := Option.bind_eq_some_iff.mp hr
      refine tm_ast rfl rfl qh1 ?_
      refine tm_n 2 (F' := (5, [(2, .inl (x2 + (1 : Int32))), (0, .inr (.inr x0)), (1, .inl x1), (3, .inl x3)], [])) rfl ?_
      refine tm_cut (a := [(0, .inr (.inr x0)), (1, .inl x1), (2, .inl (x2 + (1 : Int32))), (3, .inl x3)]) rfl (tm_sbs [1, 2, 0, 3] rfl) ?_
      exact ih hr
set_option maxRecDepth 20000 in
def ll_14 (a0 : Option Nat) (a1 : Int32) (h : pm_H) : tm_L := (la_len h a0).bind fun v1 => l14_5 lf_N a0 a1 (0 : Int32) v1 h
set_option maxRecDepth 20000 in
theorem lq_14 {w : Option Nat} {d : Nat} {a0 : Option Nat} {a1 : Int32} {h : pm_H} {r : tm_O × pm_H} (hr : ll_14 a0 a1 h = some r) : tm_run pt_P (pt_G (tm_r w)) (d + 0) 14 [.inr (.inr a0), .inl a1] h r := by
  unfold ll_14 at hr
  show pm_to pt_P (pt_G (tm_r w)) (d + 0) (pt_g14, []) (tm_m (0, [(0, .inr (.inr a0)), (1, .inl a1)], [])) h (tm_e r)
  refine tm_n 3 (F' := (3, [(2, .inl (0 : Int32)), (0, .inr (.inr a0)), (1, .inl a1)], [.inr (.inr a0)])) rfl ?_
  obtain ⟨v1, qv1, hr⟩ := Option.bind_eq_some_iff.mp hr
  refine tm_alen rfl qv1 ?_
  refine tm_n 1 (F' := (5, [(3, .inl v1), (2, .inl (0 : Int32)), (0, .inr (.inr a0)), (1, .inl a1)], [])) rfl ?_
  refine tm_cut (a := [(0, .inr (.inr a0)), (1, .inl a1), (2, .inl (0 : Int32)), (3, .inl v1)]) rfl (tm_sbs [2, 3, 1, 0] rfl) ?_
  exact l14_5_t lf_N hr
-- OfficeSheet$Axis.<init>()V
set_option maxRecDepth 20000 in
def ll_13 (a0 : Option Nat) (h : pm_H) : tm_L := if Option.isSome a0 = true then lb_h (lf_new h 12 3 [.null, .int 0, .int 0]) fun h2 => lb_V (ll_10 (some h.1.length) h2) (fun h4 => (lf_P 81 h4 a0 [2, 5, 0] (.inr (.inr (some h.1.length)))).bind fun h6 => lb_h (lf_new h6 12 3 [.null, .int 0, .int 0]) fun h7 => lb_V (ll_10 (some h6.1.length) h7) (fun h9 => (lf_P 81 h9 a0 [2, 5, 1] (.inr (.inr (some h6.1.length)))).bind fun h11 => (lf_na h11 11 (.null) (120 : Int32)).bind fun h12 => (lf_P 81 h12 a0 [2, 5, 2] (.inr (.inr (some h11.1.length)))).bind fun h13 => (lf_na h13 11 (.null) (120 : Int32)).bind fun h14 => (lf_P 81 h14 a0 [2, 5, 3] (.inr (.inr (some h13.1.length)))).bind fun h15 => (lf_na h15 0 (.int 0) (120 : Int32)).bind fun h16 => (lf_P 81 h16 a0 [2, 5, 4] (.inr (.inr (some h15.1.length)))).bind fun h17 => (lf_R h17 a0 [5, 4]).bind fun v18 => lb_V (ll_14 v18 (-1 : Int32) h17) (fun h20 => some (.inl none, h20)))) else none
set_option maxRecDepth 20000 in
theorem lq_13 {w : Option Nat} {d : Nat} {a0 : Option Nat} {h : pm_H} {r : tm_O × pm_H} (hr : ll_13 a0 h = some r) : tm_run pt_P (pt_G (tm_r w)) (d + 3) 13 [.inr (.inr a0)] h r := by
  unfold ll_13 at hr
  show pm_to pt_P (pt_G (tm_r w)) (d + 3) (pt_g13, []) (tm_m (0, [(0, .inr (.inr a0))], [])) h (tm_e r)
  refine tm_n 1 (F' := (1, [(0, .inr (.inr a0))], [.inr (.inr a0)])) rfl ?_
  by_cases c1 : Option.isSome a0 = true
  · rw [if_pos c1] at hr
    refine tm_oinit2 rfl c1 rfl ?_
    refine tm_n 1 (F' := (5, [(0, .inr (.inr a0))], [.inr (.inr a0)])) rfl ?_
    obtain ⟨h2, eh2, hr⟩ := lb_h_s hr
    refine tm_new rfl ?_
    rw [← eh2]
    refine tm_n 1 (F' := (9, [(0, .inr (.inr a0))], [.inr (.inr (some h.1.length)), .inr (.inr (some h.1.length)), .inr (.inr a0)])) rfl ?_
    rcases lb_V_s hr with ⟨h4, m5, hr⟩ | ⟨a26, h4, z27, z27l, m5, qz27, rfl⟩
    · try dsimp only at hr
      refine tm_call rfl rfl (tm_callP rfl rfl rfl) (lq_10 m5) ?_
      obtain ⟨h6, qh6, hr⟩ := Option.bind_eq_some_iff.mp hr
      refine tm_putf rfl qh6 ?_
      refine tm_n 1 (F' := (16, [(0, .inr (.inr a0))], [.inr (.inr a0)])) rfl ?_
      obtain ⟨h7, eh7, hr⟩ := lb_h_s hr
      refine tm_new rfl ?_
      rw [← eh7]
      refine tm_n 1 (F' := (20, [(0, .inr (.inr a0))], [.inr (.inr (some h6.1.length)), .inr (.inr (some h6.1.length)), .inr (.inr a0)])) rfl ?_
      rcases lb_V_s hr with ⟨h9, m10, hr⟩ | ⟨a24, h9, z25, z25l, m10, qz25, rfl⟩
      · try dsimp only at hr
        refine tm_call rfl rfl (tm_callP rfl rfl rfl) (lq_10 m10) ?_
        obtain ⟨h11, qh11, hr⟩ := Option.bind_eq_some_iff.mp hr
        refine tm_putf rfl qh11 ?_
        refine tm_n 2 (F' := (29, [(0, .inr (.inr a0))], [.inl (120 : Int32), .inr (.inr a0)])) rfl ?_
        obtain ⟨h12, qh12, hr⟩ := Option.bind_eq_some_iff.mp hr
        refine tm_anew rfl qh12 ?_
        obtain ⟨h13, qh13, hr⟩ := Option.bind_eq_some_iff.mp hr
        refine tm_putf rfl qh13 ?_
        refine tm_n 2 (F' := (38, [(0, .inr (.inr a0))], [.inl (120 : Int32), .inr (.inr a0)])) rfl ?_
        obtain ⟨h14, qh14, hr⟩ := Option.bind_eq_some_iff.mp hr
        refine tm_anew rfl qh14 ?_
        obtain ⟨h15, qh15, hr⟩ := Option.bind_eq_some_iff.mp hr
        refine tm_putf rfl qh15 ?_
        refine tm_n 2 (F' := (47, [(0, .inr (.inr a0))], [.inl (120 : Int32), .inr (.inr a0)])) rfl ?_
        obtain ⟨h16, qh16, hr⟩ := Option.bind_eq_some_iff.mp hr
        refine tm_newarr rfl qh16 ?_
        obtain ⟨h17, qh17, hr⟩ := Option.bind_eq_some_iff.mp hr
        refine tm_putf rfl qh17 ?_
        refine tm_n 1 (F' := (53, [(0, .inr (.inr a0))], [.inr (.inr a0)])) rfl ?_
        obtain ⟨v18, qv18, hr⟩ := Option.bind_eq_some_iff.mp hr
        refine tm_getf rfl (lf_R_V qv18) ?_
        refine tm_n 1 (F' := (57, [(0, .inr (.inr a0))], [.inl (-1 : Int32), .inr (.inr v18)])) rfl ?_
        rcases lb_V_s hr with ⟨h20, m21, hr⟩ | ⟨a22, h20, z23, z23l, m21, qz23, rfl⟩
        · try dsimp only at hr
          refine tm_call rfl rfl (tm_callS rfl rfl) (lq_14 m21) ?_
          cases hr
          exact tm_retV rfl
        · exact tm_callT rfl rfl (tm_callS rfl rfl) (lq_14 m21) qz23 rfl
      · exact tm_callT rfl rfl (tm_callP rfl rfl rfl) (lq_10 m10) qz25 rfl
    · exact tm_callT rfl rfl (tm_callP rfl rfl rfl) (lq_10 m5) qz27 rfl
  · rw [if_neg c1] at hr
    cases hr
-- OfficeSheet$Office.<init>(I)V
set_option maxRecDepth 20000 in
def ll_9 (a0 : Option Nat) (a1 : Int32) (h : pm_H) : tm_L := if Option.isSome a0 = true then (lf_na h 0 (.int 0) (3 : Int32)).bind fun h2 => (lf_P 81 h2 a0 [2, 4, 1] (.inr (.inr (some h.1.length)))).bind fun h3 => (lf_na h3 11 (.null) (120 : Int32)).bind fun h4 => (lf_P 81 h4 a0 [2, 4, 2] (.inr (.inr (some h3.1.length)))).bind fun h5 => (lf_na h5 12 (.null) (2 : Int32)).bind fun h6 => (lf_P 81 h6 a0 [2, 4, 3] (.inr (.inr (some h5.1.length)))).bind fun h7 => lb_h (lf_new h7 12 3 [.null, .int 0, .int 0]) fun h8 => lb_V (ll_10 (some h7.1.length) h8) (fun h10 => (lf_P 81 h10 a0 [2, 4, 4] (.inr (.inr (some h7.1.length)))).bind fun h12 => (lf_P 81 h12 a0 [0, 4, 5] (.inl (0 : Int32))).bind fun h13 => (lf_P 81 h13 a0 [0, 4, 0] (.inl a1)).bind fun h14 => (lf_R h14 a0 [4, 3]).bind fun v15 => lb_h (lf_new h14 5 5 [.null, .null, .null, .null, .null]) fun h16 => lb_V (ll_13 (some h14.1.length) h16) (fun h18 => (la_S pt_P h18 .aastore v15 (0 : Int32) (.inr (.inr (some h14.1.length)))).bind fun h20 => (lf_R h20 a0 [4, 3]).bind fun v21 => lb_h (lf_new h20 5 5 [.null, .null, .null, .null, .null]) fun h22 => lb_V (ll_13 (some h20.1.length) h22) (fun h24 => (la_S pt_P h24 .aastore v21 (1 : Int32) (.inr (.inr (some h20.1.length)))).bind fun h26 => some (.inl none, h26)))) else none
set_option maxRecDepth 20000 in
theorem lq_9 {w : Option Nat} {d : Nat} {a0 : Option Nat} {a1 : Int32} {h : pm_H} {r : tm_O × pm_H} (hr : ll_9 a0 a1 h = some r) : tm_run pt_P (pt_G (tm_r w)) (d + 4) 9 [.inr (.inr a0), .inl a1] h r := by
  unfold ll_9 at hr
  show pm_to pt_P (pt_G (tm_r w)) (d + 4) (pt_g9, []) (tm_m (0, [(0, .inr (.inr a0)), (1, .inl a1)], [])) h (tm_e r)
  refine tm_n 1 (F' := (1, [(0, .inr (.inr a0)), (1, .inl a1)], [.inr (.inr a0)])) rfl ?_
  by_cases c1 : Option.isSome a0 = true
  · rw [if_pos c1] at hr
    refine tm_oinit2 rfl c1 rfl ?_
    refine tm_n 2 (F' := (6, [(0, .inr (.inr a0)), (1, .inl a1)], [.inl (3 : Int32), .inr (.inr a0)])) rfl ?_
    obtain ⟨h2, qh2, hr⟩ := Option.bind_eq_some_iff.mp hr
    refine tm_newarr rfl qh2 ?_
    obtain ⟨h3, qh3, hr⟩ := Option.bind_eq_some_iff.mp hr
    refine tm_putf rfl qh3 ?_
    refine tm_n 2 (F' := (14, [(0, .inr (.inr a0)), (1, .inl a1)], [.inl (120 : Int32), .inr (.inr a0)])) rfl ?_
    obtain ⟨h4, qh4, hr⟩ := Option.bind_eq_some_iff.mp hr
    refine tm_anew rfl qh4 ?_
    obtain ⟨h5, qh5, hr⟩ := Option.bind_eq_some_iff.mp hr
    refine tm_putf rfl qh5 ?_
    refine tm_n 2 (F' := (22, [(0, .inr (.inr a0)), (1, .inl a1)], [.inl (2 : Int32), .inr (.inr a0)])) rfl ?_
    obtain ⟨h6, qh6, hr⟩ := Option.bind_eq_some_iff.mp hr
    refine tm_anew rfl qh6 ?_
    obtain ⟨h7, qh7, hr⟩ := Option.bind_eq_some_iff.mp hr
    refine tm_putf rfl qh7 ?_
    refine tm_n 1 (F' := (29, [(0, .inr (.inr a0)), (1, .inl a1)], [.inr (.inr a0)])) rfl ?_
    obtain ⟨h8, eh8, hr⟩ := lb_h_s hr
    refine tm_new rfl ?_
    rw [← eh8]
    refine tm_n 1 (F' := (33, [(0, .inr (.inr a0)), (1, .inl a1)], [.inr (.inr (some h7.1.length)), .inr (.inr (some h7.1.length)), .inr (.inr a0)])) rfl ?_
    rcases lb_V_s hr with ⟨h10, m11, hr⟩ | ⟨a31, h10, z32, z32l, m11, qz32, rfl⟩
    · try dsimp only at hr
      refine tm_call rfl rfl (tm_callP rfl rfl rfl) (lq_10 m11) ?_
      obtain ⟨h12, qh12, hr⟩ := Option.bind_eq_some_iff.mp hr
      refine tm_putf rfl qh12 ?_
      refine tm_n 2 (F' := (41, [(0, .inr (.inr a0)), (1, .inl a1)], [.inl (0 : Int32), .inr (.inr a0)])) rfl ?_
      obtain ⟨h13, qh13, hr⟩ := Option.bind_eq_some_iff.mp hr
      refine tm_putf rfl qh13 ?_
      refine tm_n 2 (F' := (46, [(0, .inr (.inr a0)), (1, .inl a1)], [.inl a1, .inr (.inr a0)])) rfl ?_
      obtain ⟨h14, qh14, hr⟩ := Option.bind_eq_some_iff.mp hr
      refine tm_putf rfl qh14 ?_
      refine tm_n 1 (F' := (50, [(0, .inr (.inr a0)), (1, .inl a1)], [.inr (.inr a0)])) rfl ?_
      obtain ⟨v15, qv15, hr⟩ := Option.bind_eq_some_iff.mp hr
      refine tm_getf rfl (lf_R_V qv15) ?_
      refine tm_n 1 (F' := (54, [(0, .inr (.inr a0)), (1, .inl a1)], [.inl (0 : Int32), .inr (.inr v15)])) rfl ?_
      obtain ⟨h16, eh16, hr⟩ := lb_h_s hr
      refine tm_new rfl ?_
      rw [← eh16]
      refine tm_n 1 (F' := (58, [(0, .inr (.inr a0)), (1, .inl a1)], [.inr (.inr (some h14.1.length)), .inr (.inr (some h14.1.length)), .inl (0 : Int32), .inr (.inr v15)])) rfl ?_
      rcases lb_V_s hr with ⟨h18, m19, hr⟩ | ⟨a29, h18, z30, z30l, m19, qz30, rfl⟩
      · try dsimp only at hr
        refine tm_call rfl rfl (tm_callP rfl rfl rfl) (lq_13 m19) ?_
        obtain ⟨h20, qh20, hr⟩ := Option.bind_eq_some_iff.mp hr
        refine tm_ast rfl rfl qh20 ?_
        refine tm_n 1 (F' := (63, [(0, .inr (.inr a0)), (1, .inl a1)], [.inr (.inr a0)])) rfl ?_
        obtain ⟨v21, qv21, hr⟩ := Option.bind_eq_some_iff.mp hr
        refine tm_getf rfl (lf_R_V qv21) ?_
        refine tm_n 1 (F' := (67, [(0, .inr (.inr a0)), (1, .inl a1)], [.inl (1 : Int32), .inr (.inr v21)])) rfl ?_
        obtain ⟨h22, eh22, hr⟩ := lb_h_s hr
        refine tm_new rfl ?_
        rw [← eh22]
        refine tm_n 1 (F' := (71, [(0, .inr (.inr a0)), (1, .inl a1)], [.inr (.inr (some h20.1.length)), .inr (.inr (some h20.1.length)), .inl (1 : Int32), .inr (.inr v21)])) rfl ?_
        rcases lb_V_s hr with ⟨h24, m25, hr⟩ | ⟨a27, h24, z28, z28l, m25, qz28, rfl⟩
        · try dsimp only at hr
          refine tm_call rfl rfl (tm_callP rfl rfl rfl) (lq_13 m25) ?_
          obtain ⟨h26, qh26, hr⟩ := Option.bind_eq_some_iff.mp hr
          refine tm_ast rfl rfl qh26 ?_
          cases hr
          exact tm_retV rfl
        · exact tm_callT rfl rfl (tm_callP rfl rfl rfl) (lq_13 m25) qz28 rfl
      · exact tm_callT rfl rfl (tm_callP rfl rfl rfl) (lq_13 m19) qz30 rfl
    · exact tm_callT rfl rfl (tm_callP rfl rfl rfl) (lq_10 m11) qz32 rfl
  · rw [if_neg c1] at hr
    cases hr
-- OfficeSheet.<init>()V
set_option maxRecDepth 20000 in
def l1_47 : Nat → Option Nat → Int32 → pm_H → tm_L
  | 0 => fun _ _ _ => none
  | n + 1 => fun x0 x1 h => if (3 : Int32) ≤ x1 then some (.inl none, h) else (lf_R h x0 [0, 0]).bind fun v1 => lb_h (lf_new h 4 6 [.int 0, .null, .null, .null, .null, .int 0]) fun h2 => lb_V (ll_9 (some h.1.length) x1 h2) (fun h4 => (la_S pt_P h4 .aastore v1 x1 (.inr (.inr (some h.1.length)))).bind fun h6 => l1_47 n x0 (x1 + (1 : Int32)) h6)
set_option maxRecDepth 20000 in
theorem l1_47_t {w : Option Nat} {d : Nat} : ∀ (n : Nat) {x0 : Option Nat} {x1 : Int32} {h : pm_H} {r : tm_O × pm_H}, l1_47 n x0 x1 h = some r → pm_to pt_P (pt_G (tm_r w)) (d + 5) (pt_g1, []) (tm_m (47, [(0, .inr (.inr x0)), (1, .inl x1)], [])) h (tm_e r) := by
  intro n
  induction n with
  | zero => intro x0 x1 h r hr; cases hr
  | succ n ih =>
    intro x0 x1 h r hr
    unfold l1_47 at hr
    refine tm_n 2 (F' := (49, [(0, .inr (.inr x0)), (1, .inl x1)], [.inl (3 : Int32), .inl x1])) rfl ?_
    by_cases c9 : (3 : Int32) ≤ x1
    · rw [if_pos c9] at hr
      refine tm_icT rfl c9 ?_
      cases hr
      exact tm_retV rfl
    · rw [if_neg c9] at hr
      refine tm_icF rfl c9 ?_
      refine tm_n 1 (F' := (53, [(0, .inr (.inr x0)), (1, .inl x1)], [.inr (.inr x0)])) rfl ?_
      obtain ⟨v1, qv1, hr⟩ := Option.bind_eq_some_iff.mp hr
      refine tm_getf rfl (lf_R_V qv1) ?_
      refine tm_n 1 (F' := (57, [(0, .inr (.inr x0)), (1, .inl x1)], [.inl x1, .inr (.inr v1)])) rfl ?_
      obtain ⟨h2, eh2, hr⟩ := lb_h_s hr
      refine tm_new rfl ?_
      rw [← eh2]
      refine tm_n 2 (F' := (62, [(0, .inr (.inr x0)), (1, .inl x1)], [.inl x1, .inr (.inr (some h.1.length)), .inr (.inr (some h.1.length)), .inl x1, .inr (.inr v1)])) rfl ?_
      rcases lb_V_s hr with ⟨h4, m5, hr⟩ | ⟨a7, h4, z8, z8l, m5, qz8, rfl⟩
      · try dsimp only at hr
        refine tm_call rfl rfl (tm_callP rfl rfl rfl) (lq_9 m5) ?_
        obtain ⟨h6, qh6, hr⟩ := Option.bind_eq_some_iff.mp hr
        refine tm_ast rfl rfl qh6 ?_
        refine tm_n 2 (F' := (47, [(1, .inl (x1 + (1 : Int32))), (0, .inr (.inr x0))], [])) rfl ?_
        refine tm_cut (a := [(0, .inr (.inr x0)), (1, .inl (x1 + (1 : Int32)))]) rfl (tm_sbs [1, 0] rfl) ?_
        exact ih hr
      · exact tm_callT rfl rfl (tm_callP rfl rfl rfl) (lq_9 m5) qz8 rfl
set_option maxRecDepth 20000 in
def ll_1 (a0 : Option Nat) (h : pm_H) : tm_L := if Option.isSome a0 = true then (lf_na h 10 (.null) (3 : Int32)).bind fun h2 => (lf_P 81 h2 a0 [2, 0, 0] (.inr (.inr (some h.1.length)))).bind fun h3 => lb_h (lf_new h3 1 7 [.null, .null, .int 0, .int 0, .int 0, .null, .null]) fun h4 => lb_V (ll_2 (some h3.1.length) h4) (fun h6 => (lf_P 81 h6 a0 [2, 0, 1] (.inr (.inr (some h3.1.length)))).bind fun h8 => lb_h (lf_new h8 2 7 [.null, .null, .null, .int 0, .null, .null, .int 0]) fun h9 => lb_V (ll_7 (some h8.1.length) h9) (fun h11 => (lf_P 81 h11 a0 [2, 0, 2] (.inr (.inr (some h8.1.length)))).bind fun h13 => lb_h (lf_new h13 3 3 [.null, .null, .null]) fun h14 => lb_V (ll_8 (some h13.1.length) h14) (fun h16 => (lf_P 81 h16 a0 [2, 0, 3] (.inr (.inr (some h13.1.length)))).bind fun h18 => l1_47 lf_N a0 (0 : Int32) h18))) else none
set_option maxRecDepth 20000 in
theorem lq_1 {w : Option Nat} {d : Nat} {a0 : Option Nat} {h : pm_H} {r : tm_O × pm_H} (hr : ll_1 a0 h = some r) : tm_run pt_P (pt_G (tm_r w)) (d + 5) 1 [.inr (.inr a0)] h r := by
  unfold ll_1 at hr
  show pm_to pt_P (pt_G (tm_r w)) (d + 5) (pt_g1, []) (tm_m (0, [(0, .inr (.inr a0))], [])) h (tm_e r)
  refine tm_n 1 (F' := (1, [(0, .inr (.inr a0))], [.inr (.inr a0)])) rfl ?_
  by_cases c1 : Option.isSome a0 = true
  · rw [if_pos c1] at hr
    refine tm_oinit2 rfl c1 rfl ?_
    refine tm_n 2 (F' := (6, [(0, .inr (.inr a0))], [.inl (3 : Int32), .inr (.inr a0)])) rfl ?_
    obtain ⟨h2, qh2, hr⟩ := Option.bind_eq_some_iff.mp hr
    refine tm_anew rfl qh2 ?_
    obtain ⟨h3, qh3, hr⟩ := Option.bind_eq_some_iff.mp hr
    refine tm_putf rfl qh3 ?_
    refine tm_n 1 (F' := (13, [(0, .inr (.inr a0))], [.inr (.inr a0)])) rfl ?_
    obtain ⟨h4, eh4, hr⟩ := lb_h_s hr
    refine tm_new rfl ?_
    rw [← eh4]
    refine tm_n 1 (F' := (17, [(0, .inr (.inr a0))], [.inr (.inr (some h3.1.length)), .inr (.inr (some h3.1.length)), .inr (.inr a0)])) rfl ?_
    rcases lb_V_s hr with ⟨h6, m7, hr⟩ | ⟨a23, h6, z24, z24l, m7, qz24, rfl⟩
    · try dsimp only at hr
      refine tm_call rfl rfl (tm_callP rfl rfl rfl) (lq_2 m7) ?_
      obtain ⟨h8, qh8, hr⟩ := Option.bind_eq_some_iff.mp hr
      refine tm_putf rfl qh8 ?_
      refine tm_n 1 (F' := (24, [(0, .inr (.inr a0))], [.inr (.inr a0)])) rfl ?_
      obtain ⟨h9, eh9, hr⟩ := lb_h_s hr
      refine tm_new rfl ?_
      rw [← eh9]
      refine tm_n 1 (F' := (28, [(0, .inr (.inr a0))], [.inr (.inr (some h8.1.length)), .inr (.inr (some h8.1.length)), .inr (.inr a0)])) rfl ?_
      rcases lb_V_s hr with ⟨h11, m12, hr⟩ | ⟨a21, h11, z22, z22l, m12, qz22, rfl⟩
      · try dsimp only at hr
        refine tm_call rfl rfl (tm_callP rfl rfl rfl) (lq_7 m12) ?_
        obtain ⟨h13, qh13, hr⟩ := Option.bind_eq_some_iff.mp hr
        refine tm_putf rfl qh13 ?_
        refine tm_n 1 (F' := (35, [(0, .inr (.inr a0))], [.inr (.inr a0)])) rfl ?_
        obtain ⟨h14, eh14, hr⟩ := lb_h_s hr
        refine tm_new rfl ?_
        rw [← eh14]
        refine tm_n 1 (F' := (39, [(0, .inr (.inr a0))], [.inr (.inr (some h13.1.length)), .inr (.inr (some h13.1.length)), .inr (.inr a0)])) rfl ?_
        rcases lb_V_s hr with ⟨h16, m17, hr⟩ | ⟨a19, h16, z20, z20l, m17, qz20, rfl⟩
        · try dsimp only at hr
          refine tm_call rfl rfl (tm_callP rfl rfl rfl) (lq_8 m17) ?_
          obtain ⟨h18, qh18, hr⟩ := Option.bind_eq_some_iff.mp hr
          refine tm_putf rfl qh18 ?_
          refine tm_n 2 (F' := (47, [(1, .inl (0 : Int32)), (0, .inr (.inr a0))], [])) rfl ?_
          refine tm_cut (a := [(0, .inr (.inr a0)), (1, .inl (0 : Int32))]) rfl (tm_sbs [1, 0] rfl) ?_
          exact l1_47_t lf_N hr
        · exact tm_callT rfl rfl (tm_callP rfl rfl rfl) (lq_8 m17) qz20 rfl
      · exact tm_callT rfl rfl (tm_callP rfl rfl rfl) (lq_7 m12) qz22 rfl
    · exact tm_callT rfl rfl (tm_callP rfl rfl rfl) (lq_2 m7) qz24 rfl
  · rw [if_neg c1] at hr
    cases hr
-- java/lang/AbstractStringBuilder.length()I
set_option maxRecDepth 20000 in
def ll_18 (a0 : Option Nat) (h : pm_H) : tm_L := (lf_I h a0 [11, 3]).bind fun v1 => some (.inl (some (.inl v1)), h)
set_option maxRecDepth 20000 in
theorem lq_18 {w : Option Nat} {d : Nat} {a0 : Option Nat} {h : pm_H} {r : tm_O × pm_H} (hr : ll_18 a0 h = some r) : tm_run pt_P (pt_G (tm_r w)) (d + 0) 18 [.inr (.inr a0)] h r := by
  unfold ll_18 at hr
  show pm_to pt_P (pt_G (tm_r w)) (d + 0) (pt_g18, []) (tm_m (0, [(0, .inr (.inr a0))], [])) h (tm_e r)
  refine tm_n 1 (F' := (1, [(0, .inr (.inr a0))], [.inr (.inr a0)])) rfl ?_
  obtain ⟨v1, qv1, hr⟩ := Option.bind_eq_some_iff.mp hr
  refine tm_getf rfl (lf_I_V qv1) ?_
  cases hr
  exact tm_retI rfl rfl
-- java/lang/StringBuilder.length()I
set_option maxRecDepth 20000 in
def ll_17 (a0 : Option Nat) (h : pm_H) : tm_L := if lc_of h a0 = some 11 then lb_I (ll_18 a0 h) (fun v2 h3 => some (.inl (some (.inl v2)), h3)) else none
set_option maxRecDepth 20000 in
theorem lq_17 {w : Option Nat} {d : Nat} {a0 : Option Nat} {h : pm_H} {r : tm_O × pm_H} (hr : ll_17 a0 h = some r) : tm_run pt_P (pt_G (tm_r w)) (d + 1) 17 [.inr (.inr a0)] h r := by
  unfold ll_17 at hr
  show pm_to pt_P (pt_G (tm_r w)) (d + 1) (pt_g17, []) (tm_m (0, [(0, .inr (.inr a0))], [])) h (tm_e r)
  refine tm_n 1 (F' := (1, [(0, .inr (.inr a0))], [.inr (.inr a0)])) rfl ?_
  by_cases c1 : lc_of h a0 = some 11
  · rw [if_pos c1] at hr
    rcases lb_I_s hr with ⟨v2, h3, m4, hr⟩ | ⟨a5, h3, z6, z6l, m4, qz6, rfl⟩
    · try dsimp only at hr
      refine tm_call rfl rfl (tm_callV rfl rfl c1 rfl rfl) (lq_18 m4) ?_
      cases hr
      exact tm_retI rfl rfl
    · exact tm_callT rfl rfl (tm_callV rfl rfl c1 rfl rfl) (lq_18 m4) qz6 rfl
  · rw [if_neg c1] at hr
    cases hr
-- java/lang/Math.max(II)I
set_option maxRecDepth 20000 in
def ll_24 (a0 : Int32) (a1 : Int32) (h : pm_H) : tm_L := if a0 < a1 then some (.inl (some (.inl a1)), h) else some (.inl (some (.inl a0)), h)
set_option maxRecDepth 20000 in
theorem lq_24 {w : Option Nat} {d : Nat} {a0 : Int32} {a1 : Int32} {h : pm_H} {r : tm_O × pm_H} (hr : ll_24 a0 a1 h = some r) : tm_run pt_P (pt_G (tm_r w)) (d + 0) 24 [.inl a0, .inl a1] h r := by
  unfold ll_24 at hr
  show pm_to pt_P (pt_G (tm_r w)) (d + 0) (pt_g24, []) (tm_m (0, [(0, .inl a0), (1, .inl a1)], [])) h (tm_e r)
  refine tm_n 2 (F' := (2, [(0, .inl a0), (1, .inl a1)], [.inl a1, .inl a0])) rfl ?_
  by_cases c1 : a0 < a1
  · rw [if_pos c1] at hr
    refine tm_icT rfl c1 ?_
    refine tm_n 1 (F' := (10, [(0, .inl a0), (1, .inl a1)], [.inl a1])) rfl ?_
    cases hr
    exact tm_retI rfl rfl
  · rw [if_neg c1] at hr
    refine tm_icF rfl c1 ?_
    refine tm_n 2 (F' := (10, [(0, .inl a0), (1, .inl a1)], [.inl a0])) rfl ?_
    cases hr
    exact tm_retI rfl rfl
-- jdk/internal/util/ArraysSupport.hugeLength(II)I
set_option maxRecDepth 20000 in
def ll_25 (a0 : Int32) (a1 : Int32) (h : pm_H) : tm_L := if (0 : Int32) ≤ (a0 + a1) then if (2147483639 : Int32) < (a0 + a1) then some (.inl (some (.inl (a0 + a1))), h) else some (.inl (some (.inl (2147483639 : Int32))), h) else none
set_option maxRecDepth 20000 in
theorem lq_25 {w : Option Nat} {d : Nat} {a0 : Int32} {a1 : Int32} {h : pm_H} {r : tm_O × pm_H} (hr : ll_25 a0 a1 h = some r) : tm_run pt_P (pt_G (tm_r w)) (d + 0) 25 [.inl a0, .inl a1] h r := by
  unfold ll_25 at hr
  show pm_to pt_P (pt_G (tm_r w)) (d + 0) (pt_g25, []) (tm_m (0, [(0, .inl a0), (1, .inl a1)], [])) h (tm_e r)
  refine tm_n 5 (F' := (5, [(2, .inl (a0 + a1)), (0, .inl a0), (1, .inl a1)], [.inl (a0 + a1)])) rfl ?_
  by_cases c2 : (0 : Int32) ≤ (a0 + a1)
  · rw [if_pos c2] at hr
    refine tm_ifT rfl c2 ?_
    refine tm_n 2 (F' := (52, [(2, .inl (a0 + a1)), (0, .inl a0), (1, .inl a1)], [.inl (2147483639 : Int32), .inl (a0 + a1)])) rfl ?_
    by_cases c1 : (2147483639 : Int32) < (a0 + a1)
    · rw [if_pos c1] at hr
      refine tm_icT rfl c1 ?_
      refine tm_n 1 (F' := (59, [(2, .inl (a0 + a1)), (0, .inl a0), (1, .inl a1)], [.inl (a0 + a1)])) rfl ?_
      cases hr
      exact tm_retI rfl rfl
    · rw [if_neg c1] at hr
      refine tm_icF rfl c1 ?_
      refine tm_n 1 (F' := (57, [(2, .inl (a0 + a1)), (0, .inl a0), (1, .inl a1)], [.inl (2147483639 : Int32)])) rfl ?_
      cases hr
      exact tm_retI rfl rfl
  · rw [if_neg c2] at hr
    refine tm_ifF rfl c2 ?_
    cases hr
-- jdk/internal/util/ArraysSupport.newLength(III)I
set_option maxRecDepth 20000 in
def l23_21 (x0 : Int32) (x1 : Int32) (h : pm_H) : tm_L := lb_I (ll_25 x0 x1 h) (fun v1 h2 => some (.inl (some (.inl v1)), h2))
set_option maxRecDepth 20000 in
theorem l23_21_t {w : Option Nat} {d : Nat} {x0 : Int32} {x1 : Int32} {h : pm_H} {r : tm_O × pm_H} (hr : l23_21 x0 x1 h = some r) : pm_to pt_P (pt_G (tm_r w)) (d + 1) (pt_g23, []) (tm_m (21, [(0, .inl x0), (1, .inl x1)], [])) h (tm_e r) := by
  unfold l23_21 at hr
  refine tm_n 2 (F' := (23, [(0, .inl x0), (1, .inl x1)], [.inl x1, .inl x0])) rfl ?_
  rcases lb_I_s hr with ⟨v1, h2, m3, hr⟩ | ⟨a4, h2, z5, z5l, m3, qz5, rfl⟩
  · try dsimp only at hr
    refine tm_call rfl rfl (tm_callS rfl rfl) (lq_25 m3) ?_
    cases hr
    exact tm_retI rfl rfl
  · exact tm_callT rfl rfl (tm_callS rfl rfl) (lq_25 m3) qz5 rfl
set_option maxRecDepth 20000 in
def ll_23 (a0 : Int32) (a1 : Int32) (a2 : Int32) (h : pm_H) : tm_L := lb_I (ll_24 a1 a2 h) (fun v1 h2 => if (a0 + v1) ≤ (0 : Int32) then l23_21 a0 a1 h2 else if (2147483639 : Int32) < (a0 + v1) then l23_21 a0 a1 h2 else some (.inl (some (.inl (a0 + v1))), h2))
set_option maxRecDepth 20000 in
theorem lq_23 {w : Option Nat} {d : Nat} {a0 : Int32} {a1 : Int32} {a2 : Int32} {h : pm_H} {r : tm_O × pm_H} (hr : ll_23 a0 a1 a2 h = some r) : tm_run pt_P (pt_G (tm_r w)) (d + 1) 23 [.inl a0, .inl a1, .inl a2] h r := by
  unfold ll_23 at hr
  show pm_to pt_P (pt_G (tm_r w)) (d + 1) (pt_g23, []) (tm_m (0, [(0, .inl a0), (1, .inl a1), (2, .inl a2)], [])) h (tm_e r)
  refine tm_n 3 (F' := (3, [(0, .inl a0), (1, .inl a1), (2, .inl a2)], [.inl a2, .inl a1, .inl a0])) rfl ?_
  rcases lb_I_s hr with ⟨v1, h2, m3, hr⟩ | ⟨a6, h2, z7, z7l, m3, qz7, rfl⟩
  · try dsimp only at hr
    refine tm_call rfl rfl (tm_callS rfl rfl) (lq_24 m3) ?_
    refine tm_n 4 (F' := (10, [(3, .inl (a0 + v1)), (0, .inl a0), (1, .inl a1), (2, .inl a2)], [.inl (a0 + v1), .inl (0 : Int32)])) rfl ?_
    by_cases c5 : (a0 + v1) ≤ (0 : Int32)
    · rw [if_pos c5] at hr
      refine tm_icT rfl c5 ?_
      refine tm_cut (a := [(0, .inl a0), (1, .inl a1)]) rfl (tm_sbs [1, 2] rfl) ?_
      exact l23_21_t hr
    · rw [if_neg c5] at hr
      refine tm_icF rfl c5 ?_
      refine tm_n 2 (F' := (16, [(3, .inl (a0 + v1)), (0, .inl a0), (1, .inl a1), (2, .inl a2)], [.inl (2147483639 : Int32), .inl (a0 + v1)])) rfl ?_
      by_cases c4 : (2147483639 : Int32) < (a0 + v1)
      · rw [if_pos c4] at hr
        refine tm_icT rfl c4 ?_
        refine tm_cut (a := [(0, .inl a0), (1, .inl a1)]) rfl (tm_sbs [1, 2] rfl) ?_
        exact l23_21_t hr
      · rw [if_neg c4] at hr
        refine tm_icF rfl c4 ?_
        refine tm_n 1 (F' := (20, [(3, .inl (a0 + v1)), (0, .inl a0), (1, .inl a1), (2, .inl a2)], [.inl (a0 + v1)])) rfl ?_
        cases hr
        exact tm_retI rfl rfl
  · exact tm_callT rfl rfl (tm_callS rfl rfl) (lq_24 m3) qz7 rfl
-- java/lang/AbstractStringBuilder.newCapacity(I)I
set_option maxRecDepth 20000 in
def ll_22 (a0 : Option Nat) (a1 : Int32) (h : pm_H) : tm_L := (lf_R h a0 [11, 0]).bind fun v1 => (la_len h v1).bind fun v2 => (lf_I h a0 [11, 1]).bind fun v3 => (lf_I h a0 [11, 1]).bind fun v4 => lb_I (ll_23 v2 ((a1 <<< (v3 &&& 31)) - v2) (v2 + ((2 : Int32) <<< (v4 &&& 31))) h) (fun v5 h6 => if v5 = (2147483647 : Int32) then none else (lf_I h6 a0 [11, 1]).bind fun v8 => some (.inl (some (.inl (v5 >>> (v8 &&& 31)))), h6))
set_option maxRecDepth 20000 in
theorem lq_22 {w : Option Nat} {d : Nat} {a0 : Option Nat} {a1 : Int32} {h : pm_H} {r : tm_O × pm_H} (hr : ll_22 a0 a1 h = some r) : tm_run pt_P (pt_G (tm_r w)) (d + 2) 22 [.inr (.inr a0), .inl a1] h r := by
  unfold ll_22 at hr
  show pm_to pt_P (pt_G (tm_r w)) (d + 2) (pt_g22, []) (tm_m (0, [(0, .inr (.inr a0)), (1, .inl a1)], [])) h (tm_e r)
  refine tm_n 1 (F' := (1, [(0, .inr (.inr a0)), (1, .inl a1)], [.inr (.inr a0)])) rfl ?_
  obtain ⟨v1, qv1, hr⟩ := Option.bind_eq_some_iff.mp hr
  refine tm_getf rfl (lf_R_V qv1) ?_
  obtain ⟨v2, qv2, hr⟩ := Option.bind_eq_some_iff.mp hr
  refine tm_alen rfl qv2 ?_
  refine tm_n 3 (F' := (8, [(2, .inl v2), (0, .inr (.inr a0)), (1, .inl a1)], [.inr (.inr a0), .inl a1])) rfl ?_
  obtain ⟨v3, qv3, hr⟩ := Option.bind_eq_some_iff.mp hr
  refine tm_getf rfl (lf_I_V qv3) ?_
  refine tm_n 11 (F' := (24, [(4, .inl ((a1 <<< (v3 &&& 31)) - v2)), (3, .inl (a1 <<< (v3 &&& 31))), (2, .inl v2), (0, .inr (.inr a0)), (1, .inl a1)], [.inr (.inr a0), .inl (2 : Int32), .inl v2, .inl ((a1 <<< (v3 &&& 31)) - v2), .inl v2])) rfl ?_
  obtain ⟨v4, qv4, hr⟩ := Option.bind_eq_some_iff.mp hr
  refine tm_getf rfl (lf_I_V qv4) ?_
  refine tm_n 2 (F' := (29, [(4, .inl ((a1 <<< (v3 &&& 31)) - v2)), (3, .inl (a1 <<< (v3 &&& 31))), (2, .inl v2), (0, .inr (.inr a0)), (1, .inl a1)], [.inl (v2 + ((2 : Int32) <<< (v4 &&& 31))), .inl ((a1 <<< (v3 &&& 31)) - v2), .inl v2])) rfl ?_
  rcases lb_I_s hr with ⟨v5, h6, m7, hr⟩ | ⟨a10, h6, z11, z11l, m7, qz11, rfl⟩
  · try dsimp only at hr
    refine tm_call rfl rfl (tm_callS rfl rfl) (lq_23 m7) ?_
    refine tm_n 3 (F' := (38, [(5, .inl v5), (4, .inl ((a1 <<< (v3 &&& 31)) - v2)), (3, .inl (a1 <<< (v3 &&& 31))), (2, .inl v2), (0, .inr (.inr a0)), (1, .inl a1)], [.inl (2147483647 : Int32), .inl v5])) rfl ?_
    by_cases c9 : v5 = (2147483647 : Int32)
    · rw [if_pos c9] at hr
      refine tm_icF rfl (fun q => q c9) ?_
      cases hr
    · rw [if_neg c9] at hr
      refine tm_icT rfl c9 ?_
      refine tm_n 2 (F' := (54, [(5, .inl v5), (4, .inl ((a1 <<< (v3 &&& 31)) - v2)), (3, .inl (a1 <<< (v3 &&& 31))), (2, .inl v2), (0, .inr (.inr a0)), (1, .inl a1)], [.inr (.inr a0), .inl v5])) rfl ?_
      obtain ⟨v8, qv8, hr⟩ := Option.bind_eq_some_iff.mp hr
      refine tm_getf rfl (lf_I_V qv8) ?_
      refine tm_n 1 (F' := (58, [(5, .inl v5), (4, .inl ((a1 <<< (v3 &&& 31)) - v2)), (3, .inl (a1 <<< (v3 &&& 31))), (2, .inl v2), (0, .inr (.inr a0)), (1, .inl a1)], [.inl (v5 >>> (v8 &&& 31))])) rfl ?_
      cases hr
      exact tm_retI rfl rfl
  · exact tm_callT rfl rfl (tm_callS rfl rfl) (lq_23 m7) qz11 rfl
-- java/lang/Math.min(II)I
set_option maxRecDepth 20000 in
def ll_27 (a0 : Int32) (a1 : Int32) (h : pm_H) : tm_L := if a1 < a0 then some (.inl (some (.inl a1)), h) else some (.inl (some (.inl a0)), h)
set_option maxRecDepth 20000 in
theorem lq_27 {w : Option Nat} {d : Nat} {a0 : Int32} {a1 : Int32} {h : pm_H} {r : tm_O × pm_H} (hr : ll_27 a0 a1 h = some r) : tm_run pt_P (pt_G (tm_r w)) (d + 0) 27 [.inl a0, .inl a1] h r := by
  unfold ll_27 at hr
  show pm_to pt_P (pt_G (tm_r w)) (d + 0) (pt_g27, []) (tm_m (0, [(0, .inl a0), (1, .inl a1)], [])) h (tm_e r)
  refine tm_n 2 (F' := (2, [(0, .inl a0), (1, .inl a1)], [.inl a1, .inl a0])) rfl ?_
  by_cases c1 : a1 < a0
  · rw [if_pos c1] at hr
    refine tm_icT rfl c1 ?_
    refine tm_n 1 (F' := (10, [(0, .inl a0), (1, .inl a1)], [.inl a1])) rfl ?_
    cases hr
    exact tm_retI rfl rfl
  · rw [if_neg c1] at hr
    refine tm_icF rfl c1 ?_
    refine tm_n 2 (F' := (10, [(0, .inl a0), (1, .inl a1)], [.inl a0])) rfl ?_
    cases hr
    exact tm_retI rfl rfl
-- java/util/Arrays.copyOf([BI)[B
set_option maxRecDepth 20000 in
def ll_26 (a0 : Option Nat) (a1 : Int32) (h : pm_H) : tm_L := (la_len h a0).bind fun v1 => if a1 = v1 then none else (lf_na h 4 (.int 0) a1).bind fun h2 => (la_len h2 a0).bind fun v3 => lb_I (ll_27 v3 a1 h2) (fun v4 h5 => (lf_cp pt_P h5 a0 (0 : Int32) (some h.1.length) (0 : Int32) v4).bind fun h7 => some (.inl (some (.inr (.inr (some h.1.length)))), h7))
set_option maxRecDepth 20000 in
theorem lq_26 {w : Option Nat} {d : Nat} {a0 : Option Nat} {a1 : Int32} {h : pm_H} {r : tm_O × pm_H} (hr : ll_26 a0 a1 h = some r) : tm_run pt_P (pt_G (tm_r w)) (d + 1) 26 [.inr (.inr a0), .inl a1] h r := by
  unfold ll_26 at hr
  show pm_to pt_P (pt_G (tm_r w)) (d + 1) (pt_g26, []) (tm_m (0, [(0, .inr (.inr a0)), (1, .inl a1)], [])) h (tm_e r)
  refine tm_n 2 (F' := (2, [(0, .inr (.inr a0)), (1, .inl a1)], [.inr (.inr a0), .inl a1])) rfl ?_
  obtain ⟨v1, qv1, hr⟩ := Option.bind_eq_some_iff.mp hr
  refine tm_alen rfl qv1 ?_
  by_cases c10 : a1 = v1
  · rw [if_pos c10] at hr
    refine tm_icF rfl (fun q => q c10) ?_
    cases hr
  · rw [if_neg c10] at hr
    refine tm_icT rfl c10 ?_
    refine tm_n 1 (F' := (15, [(0, .inr (.inr a0)), (1, .inl a1)], [.inl a1])) rfl ?_
    obtain ⟨h2, qh2, hr⟩ := Option.bind_eq_some_iff.mp hr
    refine tm_newarr rfl qh2 ?_
    refine tm_n 6 (F' := (23, [(2, .inr (.inr (some h.1.length))), (0, .inr (.inr a0)), (1, .inl a1)], [.inr (.inr a0), .inl (0 : Int32), .inr (.inr (some h.1.length)), .inl (0 : Int32), .inr (.inr a0)])) rfl ?_
    obtain ⟨v3, qv3, hr⟩ := Option.bind_eq_some_iff.mp hr
    refine tm_alen rfl qv3 ?_
    refine tm_n 1 (F' := (25, [(2, .inr (.inr (some h.1.length))), (0, .inr (.inr a0)), (1, .inl a1)], [.inl a1, .inl v3, .inl (0 : Int32), .inr (.inr (some h.1.length)), .inl (0 : Int32), .inr (.inr a0)])) rfl ?_
    rcases lb_I_s hr with ⟨v4, h5, m6, hr⟩ | ⟨a8, h5, z9, z9l, m6, qz9, rfl⟩
    · try dsimp only at hr
      refine tm_call rfl rfl (tm_callS rfl rfl) (lq_27 m6) ?_
      obtain ⟨h7, qh7, hr⟩ := Option.bind_eq_some_iff.mp hr
      refine tm_acp rfl rfl qh7 ?_
      refine tm_n 1 (F' := (32, [(2, .inr (.inr (some h.1.length))), (0, .inr (.inr a0)), (1, .inl a1)], [.inr (.inr (some h.1.length))])) rfl ?_
      cases hr
      exact tm_retR rfl
    · exact tm_callT rfl rfl (tm_callS rfl rfl) (lq_27 m6) qz9 rfl
-- java/lang/AbstractStringBuilder.ensureCapacityInternal(I)V
set_option maxRecDepth 20000 in
def ll_21 (a0 : Option Nat) (a1 : Int32) (h : pm_H) : tm_L := (lf_R h a0 [11, 0]).bind fun v1 => (la_len h v1).bind fun v2 => (lf_I h a0 [11, 1]).bind fun v3 => if (a1 - (v2 >>> (v3 &&& 31))) ≤ (0 : Int32) then some (.inl none, h) else (lf_R h a0 [11, 0]).bind fun v4 => if lc_of h a0 = some 11 then lb_I (ll_22 a0 a1 h) (fun v6 h7 => (lf_I h7 a0 [11, 1]).bind fun v9 => lb_R (ll_26 v4 (v6 <<< (v9 &&& 31)) h7) (fun v10 h11 => (lf_P 81 h11 a0 [2, 11, 0] (.inr (.inr v10))).bind fun h13 => some (.inl none, h13))) else none
set_option maxRecDepth 20000 in
theorem lq_21 {w : Option Nat} {d : Nat} {a0 : Option Nat} {a1 : Int32} {h : pm_H} {r : tm_O × pm_H} (hr : ll_21 a0 a1 h = some r) : tm_run pt_P (pt_G (tm_r w)) (d + 3) 21 [.inr (.inr a0), .inl a1] h r := by
  unfold ll_21 at hr
  show pm_to pt_P (pt_G (tm_r w)) (d + 3) (pt_g21, []) (tm_m (0, [(0, .inr (.inr a0)), (1, .inl a1)], [])) h (tm_e r)
  refine tm_n 1 (F' := (1, [(0, .inr (.inr a0)), (1, .inl a1)], [.inr (.inr a0)])) rfl ?_
  obtain ⟨v1, qv1, hr⟩ := Option.bind_eq_some_iff.mp hr
  refine tm_getf rfl (lf_R_V qv1) ?_
  obtain ⟨v2, qv2, hr⟩ := Option.bind_eq_some_iff.mp hr
  refine tm_alen rfl qv2 ?_
  refine tm_n 1 (F' := (6, [(0, .inr (.inr a0)), (1, .inl a1)], [.inr (.inr a0), .inl v2])) rfl ?_
  obtain ⟨v3, qv3, hr⟩ := Option.bind_eq_some_iff.mp hr
  refine tm_getf rfl (lf_I_V qv3) ?_
  refine tm_n 5 (F' := (14, [(2, .inl (v2 >>> (v3 &&& 31))), (0, .inr (.inr a0)), (1, .inl a1)], [.inl (a1 - (v2 >>> (v3 &&& 31)))])) rfl ?_
  by_cases c18 : (a1 - (v2 >>> (v3 &&& 31))) ≤ (0 : Int32)
  · rw [if_pos c18] at hr
    refine tm_ifT rfl c18 ?_
    cases hr
    exact tm_retV rfl
  · rw [if_neg c18] at hr
    refine tm_ifF rfl c18 ?_
    refine tm_n 2 (F' := (19, [(2, .inl (v2 >>> (v3 &&& 31))), (0, .inr (.inr a0)), (1, .inl a1)], [.inr (.inr a0), .inr (.inr a0)])) rfl ?_
    obtain ⟨v4, qv4, hr⟩ := Option.bind_eq_some_iff.mp hr
    refine tm_getf rfl (lf_R_V qv4) ?_
    refine tm_n 2 (F' := (24, [(2, .inl (v2 >>> (v3 &&& 31))), (0, .inr (.inr a0)), (1, .inl a1)], [.inl a1, .inr (.inr a0), .inr (.inr v4), .inr (.inr a0)])) rfl ?_
    by_cases c5 : lc_of h a0 = some 11
    · rw [if_pos c5] at hr
      rcases lb_I_s hr with ⟨v6, h7, m8, hr⟩ | ⟨a16, h7, z17, z17l, m8, qz17, rfl⟩
      · try dsimp only at hr
        refine tm_call rfl rfl (tm_callV rfl rfl c5 rfl rfl) (lq_22 m8) ?_
        refine tm_n 1 (F' := (28, [(2, .inl (v2 >>> (v3 &&& 31))), (0, .inr (.inr a0)), (1, .inl a1)], [.inr (.inr a0), .inl v6, .inr (.inr v4), .inr (.inr a0)])) rfl ?_
        obtain ⟨v9, qv9, hr⟩ := Option.bind_eq_some_iff.mp hr
        refine tm_getf rfl (lf_I_V qv9) ?_
        refine tm_n 1 (F' := (32, [(2, .inl (v2 >>> (v3 &&& 31))), (0, .inr (.inr a0)), (1, .inl a1)], [.inl (v6 <<< (v9 &&& 31)), .inr (.inr v4), .inr (.inr a0)])) rfl ?_
        rcases lb_R_s hr with ⟨v10, h11, m12, hr⟩ | ⟨a14, h11, z15, z15l, m12, qz15, rfl⟩
        · try dsimp only at hr
          refine tm_call rfl rfl (tm_callS rfl rfl) (lq_26 m12) ?_
          obtain ⟨h13, qh13, hr⟩ := Option.bind_eq_some_iff.mp hr
          refine tm_putf rfl qh13 ?_
          cases hr
          exact tm_retV rfl
        · exact tm_callT rfl rfl (tm_callS rfl rfl) (lq_26 m12) qz15 rfl
      · exact tm_callT rfl rfl (tm_callV rfl rfl c5 rfl rfl) (lq_22 m8) qz17 rfl
    · rw [if_neg c5] at hr
      cases hr
-- java/lang/AbstractStringBuilder.isLatin1()Z
set_option maxRecDepth 20000 in
def ll_28 (a0 : Option Nat) (h : pm_H) : tm_L := (lf_I h a0 [11, 1]).bind fun v1 => if v1 = (0 : Int32) then some (.inl (some (.inl (1 : Int32))), h) else some (.inl (some (.inl (0 : Int32))), h)
set_option maxRecDepth 20000 in
theorem lq_28 {w : Option Nat} {d : Nat} {a0 : Option Nat} {h : pm_H} {r : tm_O × pm_H} (hr : ll_28 a0 h = some r) : tm_run pt_P (pt_G (tm_r w)) (d + 0) 28 [.inr (.inr a0)] h r := by
  unfold ll_28 at hr
  show pm_to pt_P (pt_G (tm_r w)) (d + 0) (pt_g28, []) (tm_m (0, [(0, .inr (.inr a0))], [])) h (tm_e r)
  refine tm_n 1 (F' := (3, [(0, .inr (.inr a0))], [.inl (1 : Int32)])) rfl ?_
  refine tm_ifF rfl (by simp only [tm_cnd]; decide) ?_
  refine tm_n 1 (F' := (7, [(0, .inr (.inr a0))], [.inr (.inr a0)])) rfl ?_
  obtain ⟨v1, qv1, hr⟩ := Option.bind_eq_some_iff.mp hr
  refine tm_getf rfl (lf_I_V qv1) ?_
  by_cases c2 : v1 = (0 : Int32)
  · rw [if_pos c2] at hr
    refine tm_ifF rfl (fun q => q c2) ?_
    refine tm_n 2 (F' := (18, [(0, .inr (.inr a0))], [.inl (1 : Int32)])) rfl ?_
    cases hr
    exact tm_retI rfl rfl
  · rw [if_neg c2] at hr
    refine tm_ifT rfl c2 ?_
    refine tm_n 1 (F' := (18, [(0, .inr (.inr a0))], [.inl (0 : Int32)])) rfl ?_
    cases hr
    exact tm_retI rfl rfl
-- java/lang/StringLatin1.canEncode(C)Z
set_option maxRecDepth 20000 in
def ll_29 (a0 : Int32) (h : pm_H) : tm_L := if (255 : Int32) < a0 then some (.inl (some (.inl (0 : Int32))), h) else some (.inl (some (.inl (1 : Int32))), h)
set_option maxRecDepth 20000 in
theorem lq_29 {w : Option Nat} {d : Nat} {a0 : Int32} {h : pm_H} {r : tm_O × pm_H} (hr : ll_29 a0 h = some r) : tm_run pt_P (pt_G (tm_r w)) (d + 0) 29 [.inl a0] h r := by
  unfold ll_29 at hr
  show pm_to pt_P (pt_G (tm_r w)) (d + 0) (pt_g29, []) (tm_m (0, [(0, .inl a0)], [])) h (tm_e r)
  refine tm_n 2 (F' := (4, [(0, .inl a0)], [.inl (255 : Int32), .inl a0])) rfl ?_
  by_cases c1 : (255 : Int32) < a0
  · rw [if_pos c1] at hr
    refine tm_icT rfl c1 ?_
    refine tm_n 1 (F' := (12, [(0, .inl a0)], [.inl (0 : Int32)])) rfl ?_
    cases hr
    exact tm_retI rfl rfl
  · rw [if_neg c1] at hr
    refine tm_icF rfl c1 ?_
    refine tm_n 2 (F' := (12, [(0, .inl a0)], [.inl (1 : Int32)])) rfl ?_
    cases hr
    exact tm_retI rfl rfl
-- java/lang/StringUTF16.length([B)I
set_option maxRecDepth 20000 in
def ll_34 (a0 : Option Nat) (h : pm_H) : tm_L := (la_len h a0).bind fun v1 => some (.inl (some (.inl (v1 >>> ((1 : Int32) &&& 31)))), h)
set_option maxRecDepth 20000 in
theorem lq_34 {w : Option Nat} {d : Nat} {a0 : Option Nat} {h : pm_H} {r : tm_O × pm_H} (hr : ll_34 a0 h = some r) : tm_run pt_P (pt_G (tm_r w)) (d + 0) 34 [.inr (.inr a0)] h r := by
  unfold ll_34 at hr
  show pm_to pt_P (pt_G (tm_r w)) (d + 0) (pt_g34, []) (tm_m (0, [(0, .inr (.inr a0))], [])) h (tm_e r)
  refine tm_n 1 (F' := (1, [(0, .inr (.inr a0))], [.inr (.inr a0)])) rfl ?_
  obtain ⟨v1, qv1, hr⟩ := Option.bind_eq_some_iff.mp hr
  refine tm_alen rfl qv1 ?_
  refine tm_n 2 (F' := (4, [(0, .inr (.inr a0))], [.inl (v1 >>> ((1 : Int32) &&& 31))])) rfl ?_
  cases hr
  exact tm_retI rfl rfl
-- jdk/internal/util/Preconditions.checkFromIndexSize(IIILjava/util/function/BiFunction;)I
set_option maxRecDepth 20000 in
def l36_15 (x0 : Int32) (x1 : Int32) (x2 : Int32) (x3 : Option Nat) (h : pm_H) : tm_L := none
set_option maxRecDepth 20000 in
theorem l36_15_t {w : Option Nat} {d : Nat} {x0 : Int32} {x1 : Int32} {x2 : Int32} {x3 : Option Nat} {h : pm_H} {r : tm_O × pm_H} (hr : l36_15 x0 x1 x2 x3 h = some r) : pm_to pt_P (pt_G (tm_r w)) (d + 0) (pt_g36, []) (tm_m (15, [(0, .inl x0), (1, .inl x1), (2, .inl x2), (3, .inr (.inr x3))], [])) h (tm_e r) := by
  unfold l36_15 at hr
  cases hr
set_option maxRecDepth 20000 in
def ll_36 (a0 : Int32) (a1 : Int32) (a2 : Int32) (a3 : Option Nat) (h : pm_H) : tm_L := if ((a2 ||| a0) ||| a1) < (0 : Int32) then l36_15 a0 a1 a2 a3 h else if a1 ≤ (a2 - a0) then some (.inl (some (.inl a0)), h) else l36_15 a0 a1 a2 a3 h
set_option maxRecDepth 20000 in
theorem lq_36 {w : Option Nat} {d : Nat} {a0 : Int32} {a1 : Int32} {a2 : Int32} {a3 : Option Nat} {h : pm_H} {r : tm_O × pm_H} (hr : ll_36 a0 a1 a2 a3 h = some r) : tm_run pt_P (pt_G (tm_r w)) (d + 0) 36 [.inl a0, .inl a1, .inl a2, .inr (.inr a3)] h r := by
  unfold ll_36 at hr
  show pm_to pt_P (pt_G (tm_r w)) (d + 0) (pt_g36, []) (tm_m (0, [(0, .inl a0), (1, .inl a1), (2, .inl a2), (3, .inr (.inr a3))], [])) h (tm_e r)
  refine tm_n 5 (F' := (5, [(0, .inl a0), (1, .inl a1), (2, .inl a2), (3, .inr (.inr a3))], [.inl ((a2 ||| a0) ||| a1)])) rfl ?_
  by_cases c2 : ((a2 ||| a0) ||| a1) < (0 : Int32)
  · rw [if_pos c2] at hr
    refine tm_ifT rfl c2 ?_
    refine tm_cut (a := [(0, .inl a0), (1, .inl a1), (2, .inl a2), (3, .inr (.inr a3))]) rfl (tm_sbs [0, 1, 2, 3] rfl) ?_
    exact l36_15_t hr
  · rw [if_neg c2] at hr
    refine tm_ifF rfl c2 ?_
    refine tm_n 4 (F' := (12, [(0, .inl a0), (1, .inl a1), (2, .inl a2), (3, .inr (.inr a3))], [.inl (a2 - a0), .inl a1])) rfl ?_
    by_cases c1 : a1 ≤ (a2 - a0)
    · rw [if_pos c1] at hr
      refine tm_icT rfl c1 ?_
      refine tm_n 1 (F' := (24, [(0, .inl a0), (1, .inl a1), (2, .inl a2), (3, .inr (.inr a3))], [.inl a0])) rfl ?_
      cases hr
      exact tm_retI rfl rfl
    · rw [if_neg c1] at hr
      refine tm_icF rfl c1 ?_
      refine tm_cut (a := [(0, .inl a0), (1, .inl a1), (2, .inl a2), (3, .inr (.inr a3))]) rfl (tm_sbs [0, 1, 2, 3] rfl) ?_
      exact l36_15_t hr
-- java/lang/String.checkBoundsOffCount(III)I
set_option maxRecDepth 20000 in
def ll_35 (w : Option Nat) (a0 : Int32) (a1 : Int32) (a2 : Int32) (h : pm_H) : tm_L := lb_I (ll_36 a0 a1 a2 w h) (fun v1 h2 => some (.inl (some (.inl v1)), h2))
set_option maxRecDepth 20000 in
theorem lq_35 {w : Option Nat} {d : Nat} {a0 : Int32} {a1 : Int32} {a2 : Int32} {h : pm_H} {r : tm_O × pm_H} (hr : ll_35 w a0 a1 a2 h = some r) : tm_run pt_P (pt_G (tm_r w)) (d + 1) 35 [.inl a0, .inl a1, .inl a2] h r := by
  unfold ll_35 at hr
  show pm_to pt_P (pt_G (tm_r w)) (d + 1) (pt_g35.map (pm_sub (tm_r w)), []) (tm_m (0, [(0, .inl a0), (1, .inl a1), (2, .inl a2)], [])) h (tm_e r)
  cases w with
  | none =>
    refine tm_n 4 (F' := (6, [(0, .inl a0), (1, .inl a1), (2, .inl a2)], [.inr (.inr none), .inl a2, .inl a1, .inl a0])) rfl ?_
    rcases lb_I_s hr with ⟨v1, h2, m3, hr⟩ | ⟨a4, h2, z5, z5l, m3, qz5, rfl⟩
    · try dsimp only at hr
      refine tm_call rfl rfl (tm_callS rfl rfl) (lq_36 m3) ?_
      cases hr
      exact tm_retI rfl rfl
    · exact tm_callT rfl rfl (tm_callS rfl rfl) (lq_36 m3) qz5 rfl
  | some w =>
    refine tm_n 4 (F' := (6, [(0, .inl a0), (1, .inl a1), (2, .inl a2)], [.inr (.inr (some w)), .inl a2, .inl a1, .inl a0])) rfl ?_
    rcases lb_I_s hr with ⟨v1, h2, m3, hr⟩ | ⟨a4, h2, z5, z5l, m3, qz5, rfl⟩
    · try dsimp only at hr
      refine tm_call rfl rfl (tm_callS rfl rfl) (lq_36 m3) ?_
      cases hr
      exact tm_retI rfl rfl
    · exact tm_callT rfl rfl (tm_callS rfl rfl) (lq_36 m3) qz5 rfl
-- java/lang/StringUTF16.checkBoundsOffCount(II[B)V
set_option maxRecDepth 20000 in
def ll_33 (w : Option Nat) (a0 : Int32) (a1 : Int32) (a2 : Option Nat) (h : pm_H) : tm_L := lb_I (ll_34 a2 h) (fun v1 h2 => lb_I (ll_35 w a0 a1 v1 h2) (fun v4 h5 => some (.inl none, h5)))
set_option maxRecDepth 20000 in
theorem lq_33 {w : Option Nat} {d : Nat} {a0 : Int32} {a1 : Int32} {a2 : Option Nat} {h : pm_H} {r : tm_O × pm_H} (hr : ll_33 w a0 a1 a2 h = some r) : tm_run pt_P (pt_G (tm_r w)) (d + 2) 33 [.inl a0, .inl a1, .inr (.inr a2)] h r := by
  unfold ll_33 at hr
  show pm_to pt_P (pt_G (tm_r w)) (d + 2) (pt_g33, []) (tm_m (0, [(0, .inl a0), (1, .inl a1), (2, .inr (.inr a2))], [])) h (tm_e r)
  refine tm_n 3 (F' := (3, [(0, .inl a0), (1, .inl a1), (2, .inr (.inr a2))], [.inr (.inr a2), .inl a1, .inl a0])) rfl ?_
  rcases lb_I_s hr with ⟨v1, h2, m3, hr⟩ | ⟨a9, h2, z10, z10l, m3, qz10, rfl⟩
  · try dsimp only at hr
    refine tm_call rfl rfl (tm_callS rfl rfl) (lq_34 m3) ?_
    rcases lb_I_s hr with ⟨v4, h5, m6, hr⟩ | ⟨a7, h5, z8, z8l, m6, qz8, rfl⟩
    · try dsimp only at hr
      refine tm_call rfl rfl (tm_callS rfl rfl) (lq_35 m6) ?_
      refine tm_n 1 (F' := (10, [(0, .inl a0), (1, .inl a1), (2, .inr (.inr a2))], [])) rfl ?_
      cases hr
      exact tm_retV rfl
    · exact tm_callT rfl rfl (tm_callS rfl rfl) (lq_35 m6) qz8 rfl
  · exact tm_callT rfl rfl (tm_callS rfl rfl) (lq_34 m3) qz10 rfl
-- java/lang/StringUTF16.putChar([BII)V
set_option maxRecDepth 20000 in
def ll_37 (a0 : Option Nat) (a1 : Int32) (a2 : Int32) (h : pm_H) : tm_L := none
set_option maxRecDepth 20000 in
theorem lq_37 {w : Option Nat} {d : Nat} {a0 : Option Nat} {a1 : Int32} {a2 : Int32} {h : pm_H} {r : tm_O × pm_H} (hr : ll_37 a0 a1 a2 h = some r) : tm_run pt_P (pt_G (tm_r w)) (d + 1) 37 [.inr (.inr a0), .inl a1, .inl a2] h r := by
  unfold ll_37 at hr
  show pm_to pt_P (pt_G (tm_r w)) (d + 1) (pt_g37, []) (tm_m (0, [(0, .inr (.inr a0)), (1, .inl a1), (2, .inl a2)], [])) h (tm_e r)
  cases hr
-- java/lang/StringUTF16.inflate([BI[BII)V
set_option maxRecDepth 20000 in
def l32_10 (w : Option Nat) : Nat → Option Nat → Int32 → Option Nat → Int32 → Int32 → Int32 → pm_H → tm_L
  | 0 => fun _ _ _ _ _ _ _ => none
  | n + 1 => fun x0 x1 x2 x3 x4 x5 h => if x4 ≤ x5 then some (.inl none, h) else (la_I h .baload x0 x1).bind fun v1 => lb_V (ll_37 x2 x3 (v1 &&& (255 : Int32)) h) (fun h3 => l32_10 w n x0 (x1 + (1 : Int32)) x2 (x3 + (1 : Int32)) x4 (x5 + (1 : Int32)) h3)
set_option maxRecDepth 20000 in
theorem l32_10_t {w : Option Nat} {d : Nat} : ∀ (n : Nat) {x0 : Option Nat} {x1 : Int32} {x2 : Option Nat} {x3 : Int32} {x4 : Int32} {x5 : Int32} {h : pm_H} {r : tm_O × pm_H}, l32_10 w n x0 x1 x2 x3 x4 x5 h = some r → pm_to pt_P (pt_G (tm_r w)) (d + 3) (pt_g32, []) (tm_m (10, [(0, .inr (.inr x0)), (1, .inl x1), (2, .inr (.inr x2)), (3, .inl x3), (4, .inl x4), (5, .inl x5)], [])) h (tm_e r) := by
  intro n
  induction n with
  | zero => intro x0 x1 x2 x3 x4 x5 h r hr; cases hr
  | succ n ih =>
    intro x0 x1 x2 x3 x4 x5 h r hr
    unfold l32_10 at hr
    refine tm_n 2 (F' := (14, [(0, .inr (.inr x0)), (1, .inl x1), (2, .inr (.inr x2)), (3, .inl x3), (4, .inl x4), (5, .inl x5)], [.inl x4, .inl x5])) rfl ?_
    by_cases c7 : x4 ≤ x5
    · rw [if_pos c7] at hr
      refine tm_icT rfl c7 ?_
      cases hr
      exact tm_retV rfl
    · rw [if_neg c7] at hr
      refine tm_icF rfl c7 ?_
      refine tm_n 6 (F' := (27, [(1, .inl (x1 + (1 : Int32))), (3, .inl (x3 + (1 : Int32))), (0, .inr (.inr x0)), (2, .inr (.inr x2)), (4, .inl x4), (5, .inl x5)], [.inl x1, .inr (.inr x0), .inl x3, .inr (.inr x2)])) rfl ?_
      obtain ⟨v1, qv1, hr⟩ := Option.bind_eq_some_iff.mp hr
      refine tm_ald rfl rfl (la_I_V qv1) ?_
      refine tm_n 2 (F' := (32, [(1, .inl (x1 + (1 : Int32))), (3, .inl (x3 + (1 : Int32))), (0, .inr (.inr x0)), (2, .inr (.inr x2)), (4, .inl x4), (5, .inl x5)], [.inl (v1 &&& (255 : Int32)), .inl x3, .inr (.inr x2)])) rfl ?_
      rcases lb_V_s hr with ⟨h3, m4, hr⟩ | ⟨a5, h3, z6, z6l, m4, qz6, rfl⟩
      · try dsimp only at hr
        refine tm_call rfl rfl (tm_callS rfl rfl) (lq_37 m4) ?_
        refine tm_n 2 (F' := (10, [(5, .inl (x5 + (1 : Int32))), (1, .inl (x1 + (1 : Int32))), (3, .inl (x3 + (1 : Int32))), (0, .inr (.inr x0)), (2, .inr (.inr x2)), (4, .inl x4)], [])) rfl ?_
        refine tm_cut (a := [(0, .inr (.inr x0)), (1, .inl (x1 + (1 : Int32))), (2, .inr (.inr x2)), (3, .inl (x3 + (1 : Int32))), (4, .inl x4), (5, .inl (x5 + (1 : Int32)))]) rfl (tm_sbs [3, 1, 4, 2, 5, 0] rfl) ?_
        exact ih hr
      · exact tm_callT rfl rfl (tm_callS rfl rfl) (lq_37 m4) qz6 rfl
set_option maxRecDepth 20000 in
def ll_32 (w : Option Nat) (a0 : Option Nat) (a1 : Int32) (a2 : Option Nat) (a3 : Int32) (a4 : Int32) (h : pm_H) : tm_L := lb_V (ll_33 w a3 a4 a2 h) (fun h2 => l32_10 w lf_N a0 a1 a2 a3 a4 (0 : Int32) h2)
set_option maxRecDepth 20000 in
theorem lq_32 {w : Option Nat} {d : Nat} {a0 : Option Nat} {a1 : Int32} {a2 : Option Nat} {a3 : Int32} {a4 : Int32} {h : pm_H} {r : tm_O × pm_H} (hr : ll_32 w a0 a1 a2 a3 a4 h = some r) : tm_run pt_P (pt_G (tm_r w)) (d + 3) 32 [.inr (.inr a0), .inl a1, .inr (.inr a2), .inl a3, .inl a4] h r := by
  unfold ll_32 at hr
  show pm_to pt_P (pt_G (tm_r w)) (d + 3) (pt_g32, []) (tm_m (0, [(0, .inr (.inr a0)), (1, .inl a1), (2, .inr (.inr a2)), (3, .inl a3), (4, .inl a4)], [])) h (tm_e r)
  refine tm_n 3 (F' := (4, [(0, .inr (.inr a0)), (1, .inl a1), (2, .inr (.inr a2)), (3, .inl a3), (4, .inl a4)], [.inr (.inr a2), .inl a4, .inl a3])) rfl ?_
  rcases lb_V_s hr with ⟨h2, m3, hr⟩ | ⟨a4, h2, z5, z5l, m3, qz5, rfl⟩
  · try dsimp only at hr
    refine tm_call rfl rfl (tm_callS rfl rfl) (lq_33 m3) ?_
    refine tm_n 2 (F' := (10, [(5, .inl (0 : Int32)), (0, .inr (.inr a0)), (1, .inl a1), (2, .inr (.inr a2)), (3, .inl a3), (4, .inl a4)], [])) rfl ?_
    refine tm_cut (a := [(0, .inr (.inr a0)), (1, .inl a1), (2, .inr (.inr a2)), (3, .inl a3), (4, .inl a4), (5, .inl (0 : Int32))]) rfl (tm_sbs [1, 2, 3, 4, 5, 0] rfl) ?_
    exact l32_10_t lf_N hr
  · exact tm_callT rfl rfl (tm_callS rfl rfl) (lq_33 m3) qz5 rfl
-- java/lang/StringLatin1.inflate([BI[BII)V
set_option maxRecDepth 20000 in
def ll_31 (w : Option Nat) (a0 : Option Nat) (a1 : Int32) (a2 : Option Nat) (a3 : Int32) (a4 : Int32) (h : pm_H) : tm_L := lb_V (ll_32 w a0 a1 a2 a3 a4 h) (fun h2 => some (.inl none, h2))
set_option maxRecDepth 20000 in
theorem lq_31 {w : Option Nat} {d : Nat} {a0 : Option Nat} {a1 : Int32} {a2 : Option Nat} {a3 : Int32} {a4 : Int32} {h : pm_H} {r : tm_O × pm_H} (hr : ll_31 w a0 a1 a2 a3 a4 h = some r) : tm_run pt_P (pt_G (tm_r w)) (d + 4) 31 [.inr (.inr a0), .inl a1, .inr (.inr a2), .inl a3, .inl a4] h r := by
  unfold ll_31 at hr
  show pm_to pt_P (pt_G (tm_r w)) (d + 4) (pt_g31, []) (tm_m (0, [(0, .inr (.inr a0)), (1, .inl a1), (2, .inr (.inr a2)), (3, .inl a3), (4, .inl a4)], [])) h (tm_e r)
  refine tm_n 5 (F' := (6, [(0, .inr (.inr a0)), (1, .inl a1), (2, .inr (.inr a2)), (3, .inl a3), (4, .inl a4)], [.inl a4, .inl a3, .inr (.inr a2), .inl a1, .inr (.inr a0)])) rfl ?_
  rcases lb_V_s hr with ⟨h2, m3, hr⟩ | ⟨a4, h2, z5, z5l, m3, qz5, rfl⟩
  · try dsimp only at hr
    refine tm_call rfl rfl (tm_callS rfl rfl) (lq_32 m3) ?_
    cases hr
    exact tm_retV rfl
  · exact tm_callT rfl rfl (tm_callS rfl rfl) (lq_32 m3) qz5 rfl
-- java/lang/AbstractStringBuilder.inflate()V
set_option maxRecDepth 20000 in
def ll_30 (w : Option Nat) (a0 : Option Nat) (h : pm_H) : tm_L := if lc_of h a0 = some 11 then lb_I (ll_28 a0 h) (fun v2 h3 => if v2 = (0 : Int32) then some (.inl none, h3) else (lf_R h3 a0 [11, 0]).bind fun v5 => (la_len h3 v5).bind fun v6 => lb_R (ll_5 v6 h3) (fun v7 h8 => (lf_R h8 a0 [11, 0]).bind fun v10 => (lf_I h8 a0 [11, 3]).bind fun v11 => lb_V (ll_31 w v10 (0 : Int32) v7 (0 : Int32) v11 h8) (fun h13 => (lf_P 81 h13 a0 [2, 11, 0] (.inr (.inr v7))).bind fun h15 => (lf_P 81 h15 a0 [4, 11, 1] (.inl (1 : Int32))).bind fun h16 => some (.inl none, h16)))) else none
set_option maxRecDepth 20000 in
theorem lq_30 {w : Option Nat} {d : Nat} {a0 : Option Nat} {h : pm_H} {r : tm_O × pm_H} (hr : ll_30 w a0 h = some r) : tm_run pt_P (pt_G (tm_r w)) (d + 5) 30 [.inr (.inr a0)] h r := by
  unfold ll_30 at hr
  show pm_to pt_P (pt_G (tm_r w)) (d + 5) (pt_g30, []) (tm_m (0, [(0, .inr (.inr a0))], [])) h (tm_e r)
  refine tm_n 1 (F' := (1, [(0, .inr (.inr a0))], [.inr (.inr a0)])) rfl ?_
  by_cases c1 : lc_of h a0 = some 11
  · rw [if_pos c1] at hr
    rcases lb_I_s hr with ⟨v2, h3, m4, hr⟩ | ⟨a22, h3, z23, z23l, m4, qz23, rfl⟩
    · try dsimp only at hr
      refine tm_call rfl rfl (tm_callV rfl rfl c1 rfl rfl) (lq_28 m4) ?_
      by_cases c21 : v2 = (0 : Int32)
      · rw [if_pos c21] at hr
        refine tm_ifF rfl (fun q => q c21) ?_
        cases hr
        exact tm_retV rfl
      · rw [if_neg c21] at hr
        refine tm_ifT rfl c21 ?_
        refine tm_n 1 (F' := (9, [(0, .inr (.inr a0))], [.inr (.inr a0)])) rfl ?_
        obtain ⟨v5, qv5, hr⟩ := Option.bind_eq_some_iff.mp hr
        refine tm_getf rfl (lf_R_V qv5) ?_
        obtain ⟨v6, qv6, hr⟩ := Option.bind_eq_some_iff.mp hr
        refine tm_alen rfl qv6 ?_
        rcases lb_R_s hr with ⟨v7, h8, m9, hr⟩ | ⟨a19, h8, z20, z20l, m9, qz20, rfl⟩
        · try dsimp only at hr
          refine tm_call rfl rfl (tm_callS rfl rfl) (lq_5 m9) ?_
          refine tm_n 2 (F' := (18, [(1, .inr (.inr v7)), (0, .inr (.inr a0))], [.inr (.inr a0)])) rfl ?_
          obtain ⟨v10, qv10, hr⟩ := Option.bind_eq_some_iff.mp hr
          refine tm_getf rfl (lf_R_V qv10) ?_
          refine tm_n 4 (F' := (25, [(1, .inr (.inr v7)), (0, .inr (.inr a0))], [.inr (.inr a0), .inl (0 : Int32), .inr (.inr v7), .inl (0 : Int32), .inr (.inr v10)])) rfl ?_
          obtain ⟨v11, qv11, hr⟩ := Option.bind_eq_some_iff.mp hr
          refine tm_getf rfl (lf_I_V qv11) ?_
          rcases lb_V_s hr with ⟨h13, m14, hr⟩ | ⟨a17, h13, z18, z18l, m14, qz18, rfl⟩
          · try dsimp only at hr
            refine tm_call rfl rfl (tm_callS rfl rfl) (lq_31 m14) ?_
            refine tm_n 2 (F' := (33, [(1, .inr (.inr v7)), (0, .inr (.inr a0))], [.inr (.inr v7), .inr (.inr a0)])) rfl ?_
            obtain ⟨h15, qh15, hr⟩ := Option.bind_eq_some_iff.mp hr
            refine tm_putf rfl qh15 ?_
            refine tm_n 2 (F' := (38, [(1, .inr (.inr v7)), (0, .inr (.inr a0))], [.inl (1 : Int32), .inr (.inr a0)])) rfl ?_
            obtain ⟨h16, qh16, hr⟩ := Option.bind_eq_some_iff.mp hr
            refine tm_putf rfl qh16 ?_
            cases hr
            exact tm_retV rfl
          · exact tm_callT rfl rfl (tm_callS rfl rfl) (lq_31 m14) qz18 rfl
        · exact tm_callT rfl rfl (tm_callS rfl rfl) (lq_5 m9) qz20 rfl
    · exact tm_callT rfl rfl (tm_callV rfl rfl c1 rfl rfl) (lq_28 m4) qz23 rfl
  · rw [if_neg c1] at hr
    cases hr
-- jdk/internal/util/Preconditions.checkIndex(IILjava/util/function/BiFunction;)I
set_option maxRecDepth 20000 in
def l41_9 (x0 : Int32) (x1 : Int32) (x2 : Option Nat) (h : pm_H) : tm_L := none
set_option maxRecDepth 20000 in
theorem l41_9_t {w : Option Nat} {d : Nat} {x0 : Int32} {x1 : Int32} {x2 : Option Nat} {h : pm_H} {r : tm_O × pm_H} (hr : l41_9 x0 x1 x2 h = some r) : pm_to pt_P (pt_G (tm_r w)) (d + 0) (pt_g41, []) (tm_m (9, [(0, .inl x0), (1, .inl x1), (2, .inr (.inr x2))], [])) h (tm_e r) := by
  unfold l41_9 at hr
  cases hr
set_option maxRecDepth 20000 in
def ll_41 (a0 : Int32) (a1 : Int32) (a2 : Option Nat) (h : pm_H) : tm_L := if a0 < (0 : Int32) then l41_9 a0 a1 a2 h else if a0 < a1 then some (.inl (some (.inl a0)), h) else l41_9 a0 a1 a2 h
set_option maxRecDepth 20000 in
theorem lq_41 {w : Option Nat} {d : Nat} {a0 : Int32} {a1 : Int32} {a2 : Option Nat} {h : pm_H} {r : tm_O × pm_H} (hr : ll_41 a0 a1 a2 h = some r) : tm_run pt_P (pt_G (tm_r w)) (d + 0) 41 [.inl a0, .inl a1, .inr (.inr a2)] h r := by
  unfold ll_41 at hr
  show pm_to pt_P (pt_G (tm_r w)) (d + 0) (pt_g41, []) (tm_m (0, [(0, .inl a0), (1, .inl a1), (2, .inr (.inr a2))], [])) h (tm_e r)
  refine tm_n 1 (F' := (1, [(0, .inl a0), (1, .inl a1), (2, .inr (.inr a2))], [.inl a0])) rfl ?_
  by_cases c2 : a0 < (0 : Int32)
  · rw [if_pos c2] at hr
    refine tm_ifT rfl c2 ?_
    refine tm_cut (a := [(0, .inl a0), (1, .inl a1), (2, .inr (.inr a2))]) rfl (tm_sbs [0, 1, 2] rfl) ?_
    exact l41_9_t hr
  · rw [if_neg c2] at hr
    refine tm_ifF rfl c2 ?_
    refine tm_n 2 (F' := (6, [(0, .inl a0), (1, .inl a1), (2, .inr (.inr a2))], [.inl a1, .inl a0])) rfl ?_
    by_cases c1 : a0 < a1
    · rw [if_pos c1] at hr
      refine tm_icT rfl c1 ?_
      refine tm_n 1 (F' := (17, [(0, .inl a0), (1, .inl a1), (2, .inr (.inr a2))], [.inl a0])) rfl ?_
      cases hr
      exact tm_retI rfl rfl
    · rw [if_neg c1] at hr
      refine tm_icF rfl c1 ?_
      refine tm_cut (a := [(0, .inl a0), (1, .inl a1), (2, .inr (.inr a2))]) rfl (tm_sbs [0, 1, 2] rfl) ?_
      exact l41_9_t hr
-- java/lang/String.checkIndex(II)V
set_option maxRecDepth 20000 in
def ll_40 (w : Option Nat) (a0 : Int32) (a1 : Int32) (h : pm_H) : tm_L := lb_I (ll_41 a0 a1 w h) (fun v1 h2 => some (.inl none, h2))
set_option maxRecDepth 20000 in
theorem lq_40 {w : Option Nat} {d : Nat} {a0 : Int32} {a1 : Int32} {h : pm_H} {r : tm_O × pm_H} (hr : ll_40 w a0 a1 h = some r) : tm_run pt_P (pt_G (tm_r w)) (d + 1) 40 [.inl a0, .inl a1] h r := by
  unfold ll_40 at hr
  show pm_to pt_P (pt_G (tm_r w)) (d + 1) (pt_g40.map (pm_sub (tm_r w)), []) (tm_m (0, [(0, .inl a0), (1, .inl a1)], [])) h (tm_e r)
  cases w with
  | none =>
    refine tm_n 3 (F' := (5, [(0, .inl a0), (1, .inl a1)], [.inr (.inr none), .inl a1, .inl a0])) rfl ?_
    rcases lb_I_s hr with ⟨v1, h2, m3, hr⟩ | ⟨a4, h2, z5, z5l, m3, qz5, rfl⟩
    · try dsimp only at hr
      refine tm_call rfl rfl (tm_callS rfl rfl) (lq_41 m3) ?_
      refine tm_n 1 (F' := (9, [(0, .inl a0), (1, .inl a1)], [])) rfl ?_
      cases hr
      exact tm_retV rfl
    · exact tm_callT rfl rfl (tm_callS rfl rfl) (lq_41 m3) qz5 rfl
  | some w =>
    refine tm_n 3 (F' := (5, [(0, .inl a0), (1, .inl a1)], [.inr (.inr (some w)), .inl a1, .inl a0])) rfl ?_
    rcases lb_I_s hr with ⟨v1, h2, m3, hr⟩ | ⟨a4, h2, z5, z5l, m3, qz5, rfl⟩
    · try dsimp only at hr
      refine tm_call rfl rfl (tm_callS rfl rfl) (lq_41 m3) ?_
      refine tm_n 1 (F' := (9, [(0, .inl a0), (1, .inl a1)], [])) rfl ?_
      cases hr
      exact tm_retV rfl
    · exact tm_callT rfl rfl (tm_callS rfl rfl) (lq_41 m3) qz5 rfl
-- java/lang/StringUTF16.checkIndex(I[B)V
set_option maxRecDepth 20000 in
def ll_39 (w : Option Nat) (a0 : Int32) (a1 : Option Nat) (h : pm_H) : tm_L := lb_I (ll_34 a1 h) (fun v1 h2 => lb_V (ll_40 w a0 v1 h2) (fun h5 => some (.inl none, h5)))
set_option maxRecDepth 20000 in
theorem lq_39 {w : Option Nat} {d : Nat} {a0 : Int32} {a1 : Option Nat} {h : pm_H} {r : tm_O × pm_H} (hr : ll_39 w a0 a1 h = some r) : tm_run pt_P (pt_G (tm_r w)) (d + 2) 39 [.inl a0, .inr (.inr a1)] h r := by
  unfold ll_39 at hr
  show pm_to pt_P (pt_G (tm_r w)) (d + 2) (pt_g39, []) (tm_m (0, [(0, .inl a0), (1, .inr (.inr a1))], [])) h (tm_e r)
  refine tm_n 2 (F' := (2, [(0, .inl a0), (1, .inr (.inr a1))], [.inr (.inr a1), .inl a0])) rfl ?_
  rcases lb_I_s hr with ⟨v1, h2, m3, hr⟩ | ⟨a9, h2, z10, z10l, m3, qz10, rfl⟩
  · try dsimp only at hr
    refine tm_call rfl rfl (tm_callS rfl rfl) (lq_34 m3) ?_
    rcases lb_V_s hr with ⟨h5, m6, hr⟩ | ⟨a7, h5, z8, z8l, m6, qz8, rfl⟩
    · try dsimp only at hr
      refine tm_call rfl rfl (tm_callS rfl rfl) (lq_40 m6) ?_
      cases hr
      exact tm_retV rfl
    · exact tm_callT rfl rfl (tm_callS rfl rfl) (lq_40 m6) qz8 rfl
  · exact tm_callT rfl rfl (tm_callS rfl rfl) (lq_34 m3) qz10 rfl
-- java/lang/StringUTF16.putCharSB([BII)V
set_option maxRecDepth 20000 in
def ll_38 (w : Option Nat) (a0 : Option Nat) (a1 : Int32) (a2 : Int32) (h : pm_H) : tm_L := lb_V (ll_39 w a1 a0 h) (fun h2 => lb_V (ll_37 a0 a1 a2 h2) (fun h5 => some (.inl none, h5)))
set_option maxRecDepth 20000 in
theorem lq_38 {w : Option Nat} {d : Nat} {a0 : Option Nat} {a1 : Int32} {a2 : Int32} {h : pm_H} {r : tm_O × pm_H} (hr : ll_38 w a0 a1 a2 h = some r) : tm_run pt_P (pt_G (tm_r w)) (d + 3) 38 [.inr (.inr a0), .inl a1, .inl a2] h r := by
  unfold ll_38 at hr
  show pm_to pt_P (pt_G (tm_r w)) (d + 3) (pt_g38, []) (tm_m (0, [(0, .inr (.inr a0)), (1, .inl a1), (2, .inl a2)], [])) h (tm_e r)
  refine tm_n 2 (F' := (2, [(0, .inr (.inr a0)), (1, .inl a1), (2, .inl a2)], [.inr (.inr a0), .inl a1])) rfl ?_
  rcases lb_V_s hr with ⟨h2, m3, hr⟩ | ⟨a9, h2, z10, z10l, m3, qz10, rfl⟩
  · try dsimp only at hr
    refine tm_call rfl rfl (tm_callS rfl rfl) (lq_39 m3) ?_
    refine tm_n 3 (F' := (8, [(0, .inr (.inr a0)), (1, .inl a1), (2, .inl a2)], [.inl a2, .inl a1, .inr (.inr a0)])) rfl ?_
    rcases lb_V_s hr with ⟨h5, m6, hr⟩ | ⟨a7, h5, z8, z8l, m6, qz8, rfl⟩
    · try dsimp only at hr
      refine tm_call rfl rfl (tm_callS rfl rfl) (lq_37 m6) ?_
      cases hr
      exact tm_retV rfl
    · exact tm_callT rfl rfl (tm_callS rfl rfl) (lq_37 m6) qz8 rfl
  · exact tm_callT rfl rfl (tm_callS rfl rfl) (lq_39 m3) qz10 rfl
-- java/lang/AbstractStringBuilder.append(C)Ljava/lang/AbstractStringBuilder;
set_option maxRecDepth 20000 in
def l20_56 (w : Option Nat) (x0 : Option Nat) (x1 : Int32) (h : pm_H) : tm_L := (lf_R h x0 [11, 0]).bind fun v1 => (lf_I h x0 [11, 3]).bind fun v2 => (lf_P 81 h x0 [0, 11, 3] (.inl (v2 + (1 : Int32)))).bind fun h3 => lb_V (ll_38 w v1 v2 x1 h3) (fun h5 => some (.inl (some (.inr (.inr x0))), h5))
set_option maxRecDepth 20000 in
theorem l20_56_t {w : Option Nat} {d : Nat} {x0 : Option Nat} {x1 : Int32} {h : pm_H} {r : tm_O × pm_H} (hr : l20_56 w x0 x1 h = some r) : pm_to pt_P (pt_G (tm_r w)) (d + 6) (pt_g20, []) (tm_m (56, [(0, .inr (.inr x0)), (1, .inl x1)], [])) h (tm_e r) := by
  unfold l20_56 at hr
  refine tm_n 1 (F' := (57, [(0, .inr (.inr x0)), (1, .inl x1)], [.inr (.inr x0)])) rfl ?_
  obtain ⟨v1, qv1, hr⟩ := Option.bind_eq_some_iff.mp hr
  refine tm_getf rfl (lf_R_V qv1) ?_
  refine tm_n 2 (F' := (62, [(0, .inr (.inr x0)), (1, .inl x1)], [.inr (.inr x0), .inr (.inr x0), .inr (.inr v1)])) rfl ?_
  obtain ⟨v2, qv2, hr⟩ := Option.bind_eq_some_iff.mp hr
  refine tm_getf rfl (lf_I_V qv2) ?_
  refine tm_n 3 (F' := (68, [(0, .inr (.inr x0)), (1, .inl x1)], [.inl (v2 + (1 : Int32)), .inr (.inr x0), .inl v2, .inr (.inr v1)])) rfl ?_
  obtain ⟨h3, qh3, hr⟩ := Option.bind_eq_some_iff.mp hr
  refine tm_putf rfl qh3 ?_
  refine tm_n 1 (F' := (72, [(0, .inr (.inr x0)), (1, .inl x1)], [.inl x1, .inl v2, .inr (.inr v1)])) rfl ?_
  rcases lb_V_s hr with ⟨h5, m6, hr⟩ | ⟨a7, h5, z8, z8l, m6, qz8, rfl⟩
  · try dsimp only at hr
    refine tm_call rfl rfl (tm_callS rfl rfl) (lq_38 m6) ?_
    refine tm_n 1 (F' := (76, [(0, .inr (.inr x0)), (1, .inl x1)], [.inr (.inr x0)])) rfl ?_
    cases hr
    exact tm_retR rfl
  · exact tm_callT rfl rfl (tm_callS rfl rfl) (lq_38 m6) qz8 rfl
set_option maxRecDepth 20000 in
def l20_45 (w : Option Nat) (x0 : Option Nat) (x1 : Int32) (h : pm_H) : tm_L := if lc_of h x0 = some 11 then lb_I (ll_28 x0 h) (fun v2 h3 => if v2 = (0 : Int32) then l20_56 w x0 x1 h3 else if lc_of h3 x0 = some 11 then lb_V (ll_30 w x0 h3) (fun h7 => l20_56 w x0 x1 h7) else none) else none
set_option maxRecDepth 20000 in
theorem l20_45_t {w : Option Nat} {d : Nat} {x0 : Option Nat} {x1 : Int32} {h : pm_H} {r : tm_O × pm_H} (hr : l20_45 w x0 x1 h = some r) : pm_to pt_P (pt_G (tm_r w)) (d + 6) (pt_g20, []) (tm_m (45, [(0, .inr (.inr x0)), (1, .inl x1)], [])) h (tm_e r) := by
  unfold l20_45 at hr
  refine tm_n 1 (F' := (46, [(0, .inr (.inr x0)), (1, .inl x1)], [.inr (.inr x0)])) rfl ?_
  by_cases c1 : lc_of h x0 = some 11
  · rw [if_pos c1] at hr
    rcases lb_I_s hr with ⟨v2, h3, m4, hr⟩ | ⟨a12, h3, z13, z13l, m4, qz13, rfl⟩
    · try dsimp only at hr
      refine tm_call rfl rfl (tm_callV rfl rfl c1 rfl rfl) (lq_28 m4) ?_
      by_cases c11 : v2 = (0 : Int32)
      · rw [if_pos c11] at hr
        refine tm_ifT rfl c11 ?_
        refine tm_cut (a := [(0, .inr (.inr x0)), (1, .inl x1)]) rfl (tm_sbs [0, 1] rfl) ?_
        exact l20_56_t hr
      · rw [if_neg c11] at hr
        refine tm_ifF rfl c11 ?_
        refine tm_n 1 (F' := (53, [(0, .inr (.inr x0)), (1, .inl x1)], [.inr (.inr x0)])) rfl ?_
        by_cases c5 : lc_of h3 x0 = some 11
        · rw [if_pos c5] at hr
          rcases lb_V_s hr with ⟨h7, m8, hr⟩ | ⟨a9, h7, z10, z10l, m8, qz10, rfl⟩
          · try dsimp only at hr
            refine tm_call rfl rfl (tm_callV rfl rfl c5 rfl rfl) (lq_30 m8) ?_
            refine tm_cut (a := [(0, .inr (.inr x0)), (1, .inl x1)]) rfl (tm_sbs [0, 1] rfl) ?_
            exact l20_56_t hr
          · exact tm_callT rfl rfl (tm_callV rfl rfl c5 rfl rfl) (lq_30 m8) qz10 rfl
        · rw [if_neg c5] at hr
          cases hr
    · exact tm_callT rfl rfl (tm_callV rfl rfl c1 rfl rfl) (lq_28 m4) qz13 rfl
  · rw [if_neg c1] at hr
    cases hr
set_option maxRecDepth 20000 in
def ll_20 (w : Option Nat) (a0 : Option Nat) (a1 : Int32) (h : pm_H) : tm_L := (lf_I h a0 [11, 3]).bind fun v1 => if lc_of h a0 = some 11 then lb_V (ll_21 a0 (v1 + (1 : Int32)) h) (fun h4 => if lc_of h4 a0 = some 11 then lb_I (ll_28 a0 h4) (fun v7 h8 => if v7 = (0 : Int32) then l20_45 w a0 a1 h8 else lb_I (ll_29 a1 h8) (fun v10 h11 => if v10 = (0 : Int32) then l20_45 w a0 a1 h11 else (lf_R h11 a0 [11, 0]).bind fun v13 => (lf_I h11 a0 [11, 3]).bind fun v14 => (lf_P 81 h11 a0 [0, 11, 3] (.inl (v14 + (1 : Int32)))).bind fun h15 => (la_S pt_P h15 .bastore v13 v14 (.inl (Int8.toInt32 (Int32.toInt8 a1)))).bind fun h16 => some (.inl (some (.inr (.inr a0))), h16))) else none) else none
set_option maxRecDepth 20000 in
theorem lq_20 {w : Option Nat} {d : Nat} {a0 : Option Nat} {a1 : Int32} {h : pm_H} {r : tm_O × pm_H} (hr : ll_20 w a0 a1 h = some r) : tm_run pt_P (pt_G (tm_r w)) (d + 6) 20 [.inr (.inr a0), .inl a1] h r := by
  unfold ll_20 at hr
  show pm_to pt_P (pt_G (tm_r w)) (d + 6) (pt_g20, []) (tm_m (0, [(0, .inr (.inr a0)), (1, .inl a1)], [])) h (tm_e r)
  refine tm_n 2 (F' := (2, [(0, .inr (.inr a0)), (1, .inl a1)], [.inr (.inr a0), .inr (.inr a0)])) rfl ?_
  obtain ⟨v1, qv1, hr⟩ := Option.bind_eq_some_iff.mp hr
  refine tm_getf rfl (lf_I_V qv1) ?_
  refine tm_n 2 (F' := (7, [(0, .inr (.inr a0)), (1, .inl a1)], [.inl (v1 + (1 : Int32)), .inr (.inr a0)])) rfl ?_
  by_cases c2 : lc_of h a0 = some 11
  · rw [if_pos c2] at hr
    rcases lb_V_s hr with ⟨h4, m5, hr⟩ | ⟨a23, h4, z24, z24l, m5, qz24, rfl⟩
    · try dsimp only at hr
      refine tm_call rfl rfl (tm_callV rfl rfl c2 rfl rfl) (lq_21 m5) ?_
      refine tm_n 1 (F' := (11, [(0, .inr (.inr a0)), (1, .inl a1)], [.inr (.inr a0)])) rfl ?_
      by_cases c6 : lc_of h4 a0 = some 11
      · rw [if_pos c6] at hr
        rcases lb_I_s hr with ⟨v7, h8, m9, hr⟩ | ⟨a21, h8, z22, z22l, m9, qz22, rfl⟩
        · try dsimp only at hr
          refine tm_call rfl rfl (tm_callV rfl rfl c6 rfl rfl) (lq_28 m9) ?_
          by_cases c20 : v7 = (0 : Int32)
          · rw [if_pos c20] at hr
            refine tm_ifT rfl c20 ?_
            refine tm_cut (a := [(0, .inr (.inr a0)), (1, .inl a1)]) rfl (tm_sbs [0, 1] rfl) ?_
            exact l20_45_t hr
          · rw [if_neg c20] at hr
            refine tm_ifF rfl c20 ?_
            refine tm_n 1 (F' := (18, [(0, .inr (.inr a0)), (1, .inl a1)], [.inl a1])) rfl ?_
            rcases lb_I_s hr with ⟨v10, h11, m12, hr⟩ | ⟨a18, h11, z19, z19l, m12, qz19, rfl⟩
            · try dsimp only at hr
              refine tm_call rfl rfl (tm_callS rfl rfl) (lq_29 m12) ?_
              by_cases c17 : v10 = (0 : Int32)
              · rw [if_pos c17] at hr
                refine tm_ifT rfl c17 ?_
                refine tm_cut (a := [(0, .inr (.inr a0)), (1, .inl a1)]) rfl (tm_sbs [0, 1] rfl) ?_
                exact l20_45_t hr
              · rw [if_neg c17] at hr
                refine tm_ifF rfl c17 ?_
                refine tm_n 1 (F' := (25, [(0, .inr (.inr a0)), (1, .inl a1)], [.inr (.inr a0)])) rfl ?_
                obtain ⟨v13, qv13, hr⟩ := Option.bind_eq_some_iff.mp hr
                refine tm_getf rfl (lf_R_V qv13) ?_
                refine tm_n 2 (F' := (30, [(0, .inr (.inr a0)), (1, .inl a1)], [.inr (.inr a0), .inr (.inr a0), .inr (.inr v13)])) rfl ?_
                obtain ⟨v14, qv14, hr⟩ := Option.bind_eq_some_iff.mp hr
                refine tm_getf rfl (lf_I_V qv14) ?_
                refine tm_n 3 (F' := (36, [(0, .inr (.inr a0)), (1, .inl a1)], [.inl (v14 + (1 : Int32)), .inr (.inr a0), .inl v14, .inr (.inr v13)])) rfl ?_
                obtain ⟨h15, qh15, hr⟩ := Option.bind_eq_some_iff.mp hr
                refine tm_putf rfl qh15 ?_
                refine tm_n 2 (F' := (41, [(0, .inr (.inr a0)), (1, .inl a1)], [.inl (Int8.toInt32 (Int32.toInt8 a1)), .inl v14, .inr (.inr v13)])) rfl ?_
                obtain ⟨h16, qh16, hr⟩ := Option.bind_eq_some_iff.mp hr
                refine tm_ast rfl rfl qh16 ?_
                refine tm_n 2 (F' := (76, [(0, .inr (.inr a0)), (1, .inl a1)], [.inr (.inr a0)])) rfl ?_
                cases hr
                exact tm_retR rfl
            · exact tm_callT rfl rfl (tm_callS rfl rfl) (lq_29 m12) qz19 rfl
        · exact tm_callT rfl rfl (tm_callV rfl rfl c6 rfl rfl) (lq_28 m9) qz22 rfl
      · rw [if_neg c6] at hr
        cases hr
    · exact tm_callT rfl rfl (tm_callV rfl rfl c2 rfl rfl) (lq_21 m5) qz24 rfl
  · rw [if_neg c2] at hr
    cases hr
-- java/lang/StringBuilder.append(C)Ljava/lang/StringBuilder;
set_option maxRecDepth 20000 in
def ll_19 (w : Option Nat) (a0 : Option Nat) (a1 : Int32) (h : pm_H) : tm_L := if lc_of h a0 = some 11 then lb_R (ll_20 w a0 a1 h) (fun v2 h3 => some (.inl (some (.inr (.inr a0))), h3)) else none
set_option maxRecDepth 20000 in
theorem lq_19 {w : Option Nat} {d : Nat} {a0 : Option Nat} {a1 : Int32} {h : pm_H} {r : tm_O × pm_H} (hr : ll_19 w a0 a1 h = some r) : tm_run pt_P (pt_G (tm_r w)) (d + 7) 19 [.inr (.inr a0), .inl a1] h r := by
  unfold ll_19 at hr
  show pm_to pt_P (pt_G (tm_r w)) (d + 7) (pt_g19, []) (tm_m (0, [(0, .inr (.inr a0)), (1, .inl a1)], [])) h (tm_e r)
  refine tm_n 2 (F' := (2, [(0, .inr (.inr a0)), (1, .inl a1)], [.inl a1, .inr (.inr a0)])) rfl ?_
  by_cases c1 : lc_of h a0 = some 11
  · rw [if_pos c1] at hr
    rcases lb_R_s hr with ⟨v2, h3, m4, hr⟩ | ⟨a5, h3, z6, z6l, m4, qz6, rfl⟩
    · try dsimp only at hr
      refine tm_call rfl rfl (tm_callV rfl rfl c1 rfl rfl) (lq_20 m4) ?_
      refine tm_n 2 (F' := (7, [(0, .inr (.inr a0)), (1, .inl a1)], [.inr (.inr a0)])) rfl ?_
      cases hr
      exact tm_retR rfl
    · exact tm_callT rfl rfl (tm_callV rfl rfl c1 rfl rfl) (lq_20 m4) qz6 rfl
  · rw [if_neg c1] at hr
    cases hr
-- OfficeSheet.type(C)I
set_option maxRecDepth 20000 in
def ll_16 (w : Option Nat) (a0 : Option Nat) (a1 : Int32) (h : pm_H) : tm_L := if a1 < (32 : Int32) then some (.inr h.1.length, lf_new h 14 6 []) else if a1 ≤ (126 : Int32) then (lf_R h a0 [0, 1]).bind fun v1 => (lf_R h v1 [1, 0]).bind fun v2 => if lc_of h v2 = some 11 then lb_I (ll_17 v2 h) (fun v4 h5 => if v4 < (20 : Int32) then (lf_R h5 a0 [0, 1]).bind fun v7 => (lf_R h5 v7 [1, 0]).bind fun v8 => if lc_of h5 v8 = some 11 then lb_R (ll_19 w v8 a1 h5) (fun v10 h11 => (lf_R h11 a0 [0, 1]).bind fun v13 => (lf_R h11 v13 [1, 0]).bind fun v14 => if lc_of h11 v14 = some 11 then lb_I (ll_17 v14 h11) (fun v16 h17 => some (.inl (some (.inl v16)), h17)) else none) else none else some (.inr h5.1.length, lf_new h5 15 6 [])) else none else some (.inr h.1.length, lf_new h 14 6 [])
set_option maxRecDepth 20000 in
theorem lq_16 {w : Option Nat} {d : Nat} {a0 : Option Nat} {a1 : Int32} {h : pm_H} {r : tm_O × pm_H} (hr : ll_16 w a0 a1 h = some r) : tm_run pt_P (pt_G (tm_r w)) (d + 8) 16 [.inr (.inr a0), .inl a1] h r := by
  unfold ll_16 at hr
  show pm_to pt_P (pt_G (tm_r w)) (d + 8) (pt_g16, []) (tm_m (0, [(0, .inr (.inr a0)), (1, .inl a1)], [])) h (tm_e r)
  refine tm_n 2 (F' := (3, [(0, .inr (.inr a0)), (1, .inl a1)], [.inl (32 : Int32), .inl a1])) rfl ?_
  by_cases c27 : a1 < (32 : Int32)
  · rw [if_pos c27] at hr
    refine tm_icT rfl c27 ?_
    cases hr
    exact tm_thr rfl
  · rw [if_neg c27] at hr
    refine tm_icF rfl c27 ?_
    refine tm_n 2 (F' := (9, [(0, .inr (.inr a0)), (1, .inl a1)], [.inl (126 : Int32), .inl a1])) rfl ?_
    by_cases c26 : a1 ≤ (126 : Int32)
    · rw [if_pos c26] at hr
      refine tm_icT rfl c26 ?_
      refine tm_n 1 (F' := (23, [(0, .inr (.inr a0)), (1, .inl a1)], [.inr (.inr a0)])) rfl ?_
      obtain ⟨v1, qv1, hr⟩ := Option.bind_eq_some_iff.mp hr
      refine tm_getf rfl (lf_R_V qv1) ?_
      obtain ⟨v2, qv2, hr⟩ := Option.bind_eq_some_iff.mp hr
      refine tm_getf rfl (lf_R_V qv2) ?_
      by_cases c3 : lc_of h v2 = some 11
      · rw [if_pos c3] at hr
        rcases lb_I_s hr with ⟨v4, h5, m6, hr⟩ | ⟨a24, h5, z25, z25l, m6, qz25, rfl⟩
        · try dsimp only at hr
          refine tm_call rfl rfl (tm_callV rfl rfl c3 rfl rfl) (lq_17 m6) ?_
          refine tm_n 1 (F' := (34, [(0, .inr (.inr a0)), (1, .inl a1)], [.inl (20 : Int32), .inl v4])) rfl ?_
          by_cases c23 : v4 < (20 : Int32)
          · rw [if_pos c23] at hr
            refine tm_icT rfl c23 ?_
            refine tm_n 1 (F' := (48, [(0, .inr (.inr a0)), (1, .inl a1)], [.inr (.inr a0)])) rfl ?_
            obtain ⟨v7, qv7, hr⟩ := Option.bind_eq_some_iff.mp hr
            refine tm_getf rfl (lf_R_V qv7) ?_
            obtain ⟨v8, qv8, hr⟩ := Option.bind_eq_some_iff.mp hr
            refine tm_getf rfl (lf_R_V qv8) ?_
            refine tm_n 1 (F' := (55, [(0, .inr (.inr a0)), (1, .inl a1)], [.inl a1, .inr (.inr v8)])) rfl ?_
            by_cases c9 : lc_of h5 v8 = some 11
            · rw [if_pos c9] at hr
              rcases lb_R_s hr with ⟨v10, h11, m12, hr⟩ | ⟨a21, h11, z22, z22l, m12, qz22, rfl⟩
              · try dsimp only at hr
                refine tm_call rfl rfl (tm_callV rfl rfl c9 rfl rfl) (lq_19 m12) ?_
                refine tm_n 2 (F' := (60, [(0, .inr (.inr a0)), (1, .inl a1)], [.inr (.inr a0)])) rfl ?_
                obtain ⟨v13, qv13, hr⟩ := Option.bind_eq_some_iff.mp hr
                refine tm_getf rfl (lf_R_V qv13) ?_
                obtain ⟨v14, qv14, hr⟩ := Option.bind_eq_some_iff.mp hr
                refine tm_getf rfl (lf_R_V qv14) ?_
                by_cases c15 : lc_of h11 v14 = some 11
                · rw [if_pos c15] at hr
                  rcases lb_I_s hr with ⟨v16, h17, m18, hr⟩ | ⟨a19, h17, z20, z20l, m18, qz20, rfl⟩
                  · try dsimp only at hr
                    refine tm_call rfl rfl (tm_callV rfl rfl c15 rfl rfl) (lq_17 m18) ?_
                    cases hr
                    exact tm_retI rfl rfl
                  · exact tm_callT rfl rfl (tm_callV rfl rfl c15 rfl rfl) (lq_17 m18) qz20 rfl
                · rw [if_neg c15] at hr
                  cases hr
              · exact tm_callT rfl rfl (tm_callV rfl rfl c9 rfl rfl) (lq_19 m12) qz22 rfl
            · rw [if_neg c9] at hr
              cases hr
          · rw [if_neg c23] at hr
            refine tm_icF rfl c23 ?_
            cases hr
            exact tm_thr rfl
        · exact tm_callT rfl rfl (tm_callV rfl rfl c3 rfl rfl) (lq_17 m6) qz25 rfl
      · rw [if_neg c3] at hr
        cases hr
    · rw [if_neg c26] at hr
      refine tm_icF rfl c26 ?_
      cases hr
      exact tm_thr rfl
-- OfficeSheetLaw.type(LOfficeSheet;C[J)I
set_option maxRecDepth 20000 in
def ll_15 (w : Option Nat) (a0 : Option Nat) (a1 : Int32) (a2 : Option Nat) (h : pm_H) : tm_L := if lc_of h a0 = some 0 then lh_I (ll_16 w a0 a1 h) (fun v2 h3 => (la_S pt_P h3 .lastore a2 (0 : Int32) (.inr (.inl (Int32.toInt64 v2)))).bind fun h5 => some (.inl (some (.inl (0 : Int32))), h5)) (fun a6 z7 h3 => if z7 = 14 then some (.inl (some (.inl (1 : Int32))), h3) else if z7 = 15 then some (.inl (some (.inl (2 : Int32))), h3) else none) else none
set_option maxRecDepth 20000 in
theorem lq_15 {w : Option Nat} {d : Nat} {a0 : Option Nat} {a1 : Int32} {a2 : Option Nat} {h : pm_H} {r : tm_O × pm_H} (hr : ll_15 w a0 a1 a2 h = some r) : tm_run pt_P (pt_G (tm_r w)) (d + 9) 15 [.inr (.inr a0), .inl a1, .inr (.inr a2)] h r := by
  unfold ll_15 at hr
  show pm_to pt_P (pt_G (tm_r w)) (d + 9) (pt_g15, [(0, 9, 12, [14]), (0, 9, 15, [15])]) (tm_m (0, [(0, .inr (.inr a0)), (1, .inl a1), (2, .inr (.inr a2))], [])) h (tm_e r)
  refine tm_n 4 (F' := (4, [(0, .inr (.inr a0)), (1, .inl a1), (2, .inr (.inr a2))], [.inl a1, .inr (.inr a0), .inl (0 : Int32), .inr (.inr a2)])) rfl ?_
  by_cases c1 : lc_of h a0 = some 0
  · rw [if_pos c1] at hr
    rcases lh_I_s hr with ⟨v2, h3, m4, hr⟩ | ⟨a6, h3, z7, z7l, m4, qz7, hr⟩
    · try dsimp only at hr
      refine tm_call rfl rfl (tm_callV rfl rfl c1 rfl rfl) (lq_16 m4) ?_
      refine tm_n 1 (F' := (8, [(0, .inr (.inr a0)), (1, .inl a1), (2, .inr (.inr a2))], [.inr (.inl (Int32.toInt64 v2)), .inl (0 : Int32), .inr (.inr a2)])) rfl ?_
      obtain ⟨h5, qh5, hr⟩ := Option.bind_eq_some_iff.mp hr
      refine tm_ast rfl rfl qh5 ?_
      refine tm_n 2 (F' := (19, [(0, .inr (.inr a0)), (1, .inl a1), (2, .inr (.inr a2))], [.inl (0 : Int32)])) rfl ?_
      cases hr
      exact tm_retI rfl rfl
    · try dsimp only at hr
      by_cases c8 : z7 = 14
      · rw [if_pos c8] at hr
        subst c8
        refine tm_callC rfl rfl (tm_callV rfl rfl c1 rfl rfl) (lq_16 m4) qz7 rfl ?_
        refine tm_n 2 (F' := (14, [(3, .inr (.inr (some a6))), (0, .inr (.inr a0)), (1, .inl a1), (2, .inr (.inr a2))], [.inl (1 : Int32)])) rfl ?_
        cases hr
        exact tm_retI rfl rfl
      · rw [if_neg c8] at hr
        by_cases c9 : z7 = 15
        · rw [if_pos c9] at hr
          subst c9
          refine tm_callC rfl rfl (tm_callV rfl rfl c1 rfl rfl) (lq_16 m4) qz7 rfl ?_
          refine tm_n 2 (F' := (17, [(3, .inr (.inr (some a6))), (0, .inr (.inr a0)), (1, .inl a1), (2, .inr (.inr a2))], [.inl (2 : Int32)])) rfl ?_
          cases hr
          exact tm_retI rfl rfl
        · rw [if_neg c9] at hr
          cases hr
  · rw [if_neg c1] at hr
    cases hr
-- jdk/internal/util/Preconditions.checkFromToIndex(IIILjava/util/function/BiFunction;)I
set_option maxRecDepth 20000 in
def l52_14 (x0 : Int32) (x1 : Int32) (x2 : Int32) (x3 : Option Nat) (h : pm_H) : tm_L := none
set_option maxRecDepth 20000 in
theorem l52_14_t {w : Option Nat} {d : Nat} {x0 : Int32} {x1 : Int32} {x2 : Int32} {x3 : Option Nat} {h : pm_H} {r : tm_O × pm_H} (hr : l52_14 x0 x1 x2 x3 h = some r) : pm_to pt_P (pt_G (tm_r w)) (d + 0) (pt_g52, []) (tm_m (14, [(0, .inl x0), (1, .inl x1), (2, .inl x2), (3, .inr (.inr x3))], [])) h (tm_e r) := by
  unfold l52_14 at hr
  cases hr
set_option maxRecDepth 20000 in
def ll_52 (a0 : Int32) (a1 : Int32) (a2 : Int32) (a3 : Option Nat) (h : pm_H) : tm_L := if a0 < (0 : Int32) then l52_14 a0 a1 a2 a3 h else if a1 < a0 then l52_14 a0 a1 a2 a3 h else if a1 ≤ a2 then some (.inl (some (.inl a0)), h) else l52_14 a0 a1 a2 a3 h
set_option maxRecDepth 20000 in
theorem lq_52 {w : Option Nat} {d : Nat} {a0 : Int32} {a1 : Int32} {a2 : Int32} {a3 : Option Nat} {h : pm_H} {r : tm_O × pm_H} (hr : ll_52 a0 a1 a2 a3 h = some r) : tm_run pt_P (pt_G (tm_r w)) (d + 0) 52 [.inl a0, .inl a1, .inl a2, .inr (.inr a3)] h r := by
  unfold ll_52 at hr
  show pm_to pt_P (pt_G (tm_r w)) (d + 0) (pt_g52, []) (tm_m (0, [(0, .inl a0), (1, .inl a1), (2, .inl a2), (3, .inr (.inr a3))], [])) h (tm_e r)
  refine tm_n 1 (F' := (1, [(0, .inl a0), (1, .inl a1), (2, .inl a2), (3, .inr (.inr a3))], [.inl a0])) rfl ?_
  by_cases c3 : a0 < (0 : Int32)
  · rw [if_pos c3] at hr
    refine tm_ifT rfl c3 ?_
    refine tm_cut (a := [(0, .inl a0), (1, .inl a1), (2, .inl a2), (3, .inr (.inr a3))]) rfl (tm_sbs [0, 1, 2, 3] rfl) ?_
    exact l52_14_t hr
  · rw [if_neg c3] at hr
    refine tm_ifF rfl c3 ?_
    refine tm_n 2 (F' := (6, [(0, .inl a0), (1, .inl a1), (2, .inl a2), (3, .inr (.inr a3))], [.inl a1, .inl a0])) rfl ?_
    by_cases c2 : a1 < a0
    · rw [if_pos c2] at hr
      refine tm_icT rfl c2 ?_
      refine tm_cut (a := [(0, .inl a0), (1, .inl a1), (2, .inl a2), (3, .inr (.inr a3))]) rfl (tm_sbs [0, 1, 2, 3] rfl) ?_
      exact l52_14_t hr
    · rw [if_neg c2] at hr
      refine tm_icF rfl c2 ?_
      refine tm_n 2 (F' := (11, [(0, .inl a0), (1, .inl a1), (2, .inl a2), (3, .inr (.inr a3))], [.inl a2, .inl a1])) rfl ?_
      by_cases c1 : a1 ≤ a2
      · rw [if_pos c1] at hr
        refine tm_icT rfl c1 ?_
        refine tm_n 1 (F' := (23, [(0, .inl a0), (1, .inl a1), (2, .inl a2), (3, .inr (.inr a3))], [.inl a0])) rfl ?_
        cases hr
        exact tm_retI rfl rfl
      · rw [if_neg c1] at hr
        refine tm_icF rfl c1 ?_
        refine tm_cut (a := [(0, .inl a0), (1, .inl a1), (2, .inl a2), (3, .inr (.inr a3))]) rfl (tm_sbs [0, 1, 2, 3] rfl) ?_
        exact l52_14_t hr
-- java/lang/String.checkBoundsBeginEnd(III)V
set_option maxRecDepth 20000 in
def ll_51 (w : Option Nat) (a0 : Int32) (a1 : Int32) (a2 : Int32) (h : pm_H) : tm_L := lb_I (ll_52 a0 a1 a2 w h) (fun v1 h2 => some (.inl none, h2))
set_option maxRecDepth 20000 in
theorem lq_51 {w : Option Nat} {d : Nat} {a0 : Int32} {a1 : Int32} {a2 : Int32} {h : pm_H} {r : tm_O × pm_H} (hr : ll_51 w a0 a1 a2 h = some r) : tm_run pt_P (pt_G (tm_r w)) (d + 1) 51 [.inl a0, .inl a1, .inl a2] h r := by
  unfold ll_51 at hr
  show pm_to pt_P (pt_G (tm_r w)) (d + 1) (pt_g51.map (pm_sub (tm_r w)), []) (tm_m (0, [(0, .inl a0), (1, .inl a1), (2, .inl a2)], [])) h (tm_e r)
  cases w with
  | none =>
    refine tm_n 4 (F' := (6, [(0, .inl a0), (1, .inl a1), (2, .inl a2)], [.inr (.inr none), .inl a2, .inl a1, .inl a0])) rfl ?_
    rcases lb_I_s hr with ⟨v1, h2, m3, hr⟩ | ⟨a4, h2, z5, z5l, m3, qz5, rfl⟩
    · try dsimp only at hr
      refine tm_call rfl rfl (tm_callS rfl rfl) (lq_52 m3) ?_
      refine tm_n 1 (F' := (10, [(0, .inl a0), (1, .inl a1), (2, .inl a2)], [])) rfl ?_
      cases hr
      exact tm_retV rfl
    · exact tm_callT rfl rfl (tm_callS rfl rfl) (lq_52 m3) qz5 rfl
  | some w =>
    refine tm_n 4 (F' := (6, [(0, .inl a0), (1, .inl a1), (2, .inl a2)], [.inr (.inr (some w)), .inl a2, .inl a1, .inl a0])) rfl ?_
    rcases lb_I_s hr with ⟨v1, h2, m3, hr⟩ | ⟨a4, h2, z5, z5l, m3, qz5, rfl⟩
    · try dsimp only at hr
      refine tm_call rfl rfl (tm_callS rfl rfl) (lq_52 m3) ?_
      refine tm_n 1 (F' := (10, [(0, .inl a0), (1, .inl a1), (2, .inl a2)], [])) rfl ?_
      cases hr
      exact tm_retV rfl
    · exact tm_callT rfl rfl (tm_callS rfl rfl) (lq_52 m3) qz5 rfl
-- java/lang/StringUTF16.checkBoundsBeginEnd(II[B)V
set_option maxRecDepth 20000 in
def ll_50 (w : Option Nat) (a0 : Int32) (a1 : Int32) (a2 : Option Nat) (h : pm_H) : tm_L := lb_I (ll_34 a2 h) (fun v1 h2 => lb_V (ll_51 w a0 a1 v1 h2) (fun h5 => some (.inl none, h5)))
set_option maxRecDepth 20000 in
theorem lq_50 {w : Option Nat} {d : Nat} {a0 : Int32} {a1 : Int32} {a2 : Option Nat} {h : pm_H} {r : tm_O × pm_H} (hr : ll_50 w a0 a1 a2 h = some r) : tm_run pt_P (pt_G (tm_r w)) (d + 2) 50 [.inl a0, .inl a1, .inr (.inr a2)] h r := by
  unfold ll_50 at hr
  show pm_to pt_P (pt_G (tm_r w)) (d + 2) (pt_g50, []) (tm_m (0, [(0, .inl a0), (1, .inl a1), (2, .inr (.inr a2))], [])) h (tm_e r)
  refine tm_n 3 (F' := (3, [(0, .inl a0), (1, .inl a1), (2, .inr (.inr a2))], [.inr (.inr a2), .inl a1, .inl a0])) rfl ?_
  rcases lb_I_s hr with ⟨v1, h2, m3, hr⟩ | ⟨a9, h2, z10, z10l, m3, qz10, rfl⟩
  · try dsimp only at hr
    refine tm_call rfl rfl (tm_callS rfl rfl) (lq_34 m3) ?_
    rcases lb_V_s hr with ⟨h5, m6, hr⟩ | ⟨a7, h5, z8, z8l, m6, qz8, rfl⟩
    · try dsimp only at hr
      refine tm_call rfl rfl (tm_callS rfl rfl) (lq_51 m6) ?_
      cases hr
      exact tm_retV rfl
    · exact tm_callT rfl rfl (tm_callS rfl rfl) (lq_51 m6) qz8 rfl
  · exact tm_callT rfl rfl (tm_callS rfl rfl) (lq_34 m3) qz10 rfl
-- java/lang/StringUTF16.putCharsAt([BICCCC)I
set_option maxRecDepth 20000 in
def ll_49 (w : Option Nat) (a0 : Option Nat) (a1 : Int32) (a2 : Int32) (a3 : Int32) (a4 : Int32) (a5 : Int32) (h : pm_H) : tm_L := lb_V (ll_50 w a1 (a1 + (4 : Int32)) a0 h) (fun h2 => lb_V (ll_37 a0 a1 a2 h2) (fun h5 => lb_V (ll_37 a0 (a1 + (1 : Int32)) a3 h5) (fun h8 => lb_V (ll_37 a0 ((a1 + (1 : Int32)) + (1 : Int32)) a4 h8) (fun h11 => lb_V (ll_37 a0 (((a1 + (1 : Int32)) + (1 : Int32)) + (1 : Int32)) a5 h11) (fun h14 => none)))))
set_option maxRecDepth 20000 in
theorem lq_49 {w : Option Nat} {d : Nat} {a0 : Option Nat} {a1 : Int32} {a2 : Int32} {a3 : Int32} {a4 : Int32} {a5 : Int32} {h : pm_H} {r : tm_O × pm_H} (hr : ll_49 w a0 a1 a2 a3 a4 a5 h = some r) : tm_run pt_P (pt_G (tm_r w)) (d + 3) 49 [.inr (.inr a0), .inl a1, .inl a2, .inl a3, .inl a4, .inl a5] h r := by
  unfold ll_49 at hr
  show pm_to pt_P (pt_G (tm_r w)) (d + 3) (pt_g49, []) (tm_m (0, [(0, .inr (.inr a0)), (1, .inl a1), (2, .inl a2), (3, .inl a3), (4, .inl a4), (5, .inl a5)], [])) h (tm_e r)
  refine tm_n 7 (F' := (9, [(6, .inl (a1 + (4 : Int32))), (0, .inr (.inr a0)), (1, .inl a1), (2, .inl a2), (3, .inl a3), (4, .inl a4), (5, .inl a5)], [.inr (.inr a0), .inl (a1 + (4 : Int32)), .inl a1])) rfl ?_
  rcases lb_V_s hr with ⟨h2, m3, hr⟩ | ⟨a24, h2, z25, z25l, m3, qz25, rfl⟩
  · try dsimp only at hr
    refine tm_call rfl rfl (tm_callS rfl rfl) (lq_50 m3) ?_
    refine tm_n 4 (F' := (18, [(1, .inl (a1 + (1 : Int32))), (6, .inl (a1 + (4 : Int32))), (0, .inr (.inr a0)), (2, .inl a2), (3, .inl a3), (4, .inl a4), (5, .inl a5)], [.inl a2, .inl a1, .inr (.inr a0)])) rfl ?_
    rcases lb_V_s hr with ⟨h5, m6, hr⟩ | ⟨a22, h5, z23, z23l, m6, qz23, rfl⟩
    · try dsimp only at hr
      refine tm_call rfl rfl (tm_callS rfl rfl) (lq_37 m6) ?_
      refine tm_n 4 (F' := (27, [(1, .inl ((a1 + (1 : Int32)) + (1 : Int32))), (6, .inl (a1 + (4 : Int32))), (0, .inr (.inr a0)), (2, .inl a2), (3, .inl a3), (4, .inl a4), (5, .inl a5)], [.inl a3, .inl (a1 + (1 : Int32)), .inr (.inr a0)])) rfl ?_
      rcases lb_V_s hr with ⟨h8, m9, hr⟩ | ⟨a20, h8, z21, z21l, m9, qz21, rfl⟩
      · try dsimp only at hr
        refine tm_call rfl rfl (tm_callS rfl rfl) (lq_37 m9) ?_
        refine tm_n 4 (F' := (37, [(1, .inl (((a1 + (1 : Int32)) + (1 : Int32)) + (1 : Int32))), (6, .inl (a1 + (4 : Int32))), (0, .inr (.inr a0)), (2, .inl a2), (3, .inl a3), (4, .inl a4), (5, .inl a5)], [.inl a4, .inl ((a1 + (1 : Int32)) + (1 : Int32)), .inr (.inr a0)])) rfl ?_
        rcases lb_V_s hr with ⟨h11, m12, hr⟩ | ⟨a18, h11, z19, z19l, m12, qz19, rfl⟩
        · try dsimp only at hr
          refine tm_call rfl rfl (tm_callS rfl rfl) (lq_37 m12) ?_
          refine tm_n 4 (F' := (47, [(1, .inl ((((a1 + (1 : Int32)) + (1 : Int32)) + (1 : Int32)) + (1 : Int32))), (6, .inl (a1 + (4 : Int32))), (0, .inr (.inr a0)), (2, .inl a2), (3, .inl a3), (4, .inl a4), (5, .inl a5)], [.inl a5, .inl (((a1 + (1 : Int32)) + (1 : Int32)) + (1 : Int32)), .inr (.inr a0)])) rfl ?_
          rcases lb_V_s hr with ⟨h14, m15, hr⟩ | ⟨a16, h14, z17, z17l, m15, qz17, rfl⟩
          · try dsimp only at hr
            refine tm_call rfl rfl (tm_callS rfl rfl) (lq_37 m15) ?_
            cases hr
          · exact tm_callT rfl rfl (tm_callS rfl rfl) (lq_37 m15) qz17 rfl
        · exact tm_callT rfl rfl (tm_callS rfl rfl) (lq_37 m12) qz19 rfl
      · exact tm_callT rfl rfl (tm_callS rfl rfl) (lq_37 m9) qz21 rfl
    · exact tm_callT rfl rfl (tm_callS rfl rfl) (lq_37 m6) qz23 rfl
  · exact tm_callT rfl rfl (tm_callS rfl rfl) (lq_50 m3) qz25 rfl
-- java/lang/AbstractStringBuilder.appendNull()Ljava/lang/AbstractStringBuilder;
set_option maxRecDepth 20000 in
def l48_76 (w : Option Nat) (x0 : Option Nat) (x1 : Int32) (h : pm_H) : tm_L := (lf_P 81 h x0 [0, 11, 3] (.inl x1)).bind fun h1 => some (.inl (some (.inr (.inr x0))), h1)
set_option maxRecDepth 20000 in
theorem l48_76_t {w : Option Nat} {d : Nat} {x0 : Option Nat} {x1 : Int32} {h : pm_H} {r : tm_O × pm_H} (hr : l48_76 w x0 x1 h = some r) : pm_to pt_P (pt_G (tm_r w)) (d + 4) (pt_g48, []) (tm_m (76, [(0, .inr (.inr x0)), (1, .inl x1)], [])) h (tm_e r) := by
  unfold l48_76 at hr
  refine tm_n 2 (F' := (78, [(0, .inr (.inr x0)), (1, .inl x1)], [.inl x1, .inr (.inr x0)])) rfl ?_
  obtain ⟨h1, qh1, hr⟩ := Option.bind_eq_some_iff.mp hr
  refine tm_putf rfl qh1 ?_
  refine tm_n 1 (F' := (82, [(0, .inr (.inr x0)), (1, .inl x1)], [.inr (.inr x0)])) rfl ?_
  cases hr
  exact tm_retR rfl
set_option maxRecDepth 20000 in
def ll_48 (w : Option Nat) (a0 : Option Nat) (h : pm_H) : tm_L := (lf_I h a0 [11, 3]).bind fun v1 => if lc_of h a0 = some 11 then lb_V (ll_21 a0 (v1 + (4 : Int32)) h) (fun h4 => (lf_I h4 a0 [11, 3]).bind fun v6 => (lf_R h4 a0 [11, 0]).bind fun v7 => if lc_of h4 a0 = some 11 then lb_I (ll_28 a0 h4) (fun v9 h10 => if v9 = (0 : Int32) then lb_I (ll_49 w v7 v6 (110 : Int32) (117 : Int32) (108 : Int32) (108 : Int32) h10) (fun v12 h13 => l48_76 w a0 v12 h13) else (la_S pt_P h10 .bastore v7 v6 (.inl (110 : Int32))).bind fun h17 => (la_S pt_P h17 .bastore v7 (v6 + (1 : Int32)) (.inl (117 : Int32))).bind fun h18 => (la_S pt_P h18 .bastore v7 ((v6 + (1 : Int32)) + (1 : Int32)) (.inl (108 : Int32))).bind fun h19 => (la_S pt_P h19 .bastore v7 (((v6 + (1 : Int32)) + (1 : Int32)) + (1 : Int32)) (.inl (108 : Int32))).bind fun h20 => l48_76 w a0 ((((v6 + (1 : Int32)) + (1 : Int32)) + (1 : Int32)) + (1 : Int32)) h20) else none) else none
set_option maxRecDepth 20000 in
theorem lq_48 {w : Option Nat} {d : Nat} {a0 : Option Nat} {h : pm_H} {r : tm_O × pm_H} (hr : ll_48 w a0 h = some r) : tm_run pt_P (pt_G (tm_r w)) (d + 4) 48 [.inr (.inr a0)] h r := by
  unfold ll_48 at hr
  show pm_to pt_P (pt_G (tm_r w)) (d + 4) (pt_g48, []) (tm_m (0, [(0, .inr (.inr a0))], [])) h (tm_e r)
  refine tm_n 2 (F' := (2, [(0, .inr (.inr a0))], [.inr (.inr a0), .inr (.inr a0)])) rfl ?_
  obtain ⟨v1, qv1, hr⟩ := Option.bind_eq_some_iff.mp hr
  refine tm_getf rfl (lf_I_V qv1) ?_
  refine tm_n 2 (F' := (7, [(0, .inr (.inr a0))], [.inl (v1 + (4 : Int32)), .inr (.inr a0)])) rfl ?_
  by_cases c2 : lc_of h a0 = some 11
  · rw [if_pos c2] at hr
    rcases lb_V_s hr with ⟨h4, m5, hr⟩ | ⟨a24, h4, z25, z25l, m5, qz25, rfl⟩
    · try dsimp only at hr
      refine tm_call rfl rfl (tm_callV rfl rfl c2 rfl rfl) (lq_21 m5) ?_
      refine tm_n 1 (F' := (11, [(0, .inr (.inr a0))], [.inr (.inr a0)])) rfl ?_
      obtain ⟨v6, qv6, hr⟩ := Option.bind_eq_some_iff.mp hr
      refine tm_getf rfl (lf_I_V qv6) ?_
      refine tm_n 2 (F' := (16, [(1, .inl v6), (0, .inr (.inr a0))], [.inr (.inr a0)])) rfl ?_
      obtain ⟨v7, qv7, hr⟩ := Option.bind_eq_some_iff.mp hr
      refine tm_getf rfl (lf_R_V qv7) ?_
      refine tm_n 2 (F' := (21, [(2, .inr (.inr v7)), (1, .inl v6), (0, .inr (.inr a0))], [.inr (.inr a0)])) rfl ?_
      by_cases c8 : lc_of h4 a0 = some 11
      · rw [if_pos c8] at hr
        rcases lb_I_s hr with ⟨v9, h10, m11, hr⟩ | ⟨a22, h10, z23, z23l, m11, qz23, rfl⟩
        · try dsimp only at hr
          refine tm_call rfl rfl (tm_callV rfl rfl c8 rfl rfl) (lq_28 m11) ?_
          by_cases c21 : v9 = (0 : Int32)
          · rw [if_pos c21] at hr
            refine tm_ifT rfl c21 ?_
            refine tm_n 6 (F' := (72, [(2, .inr (.inr v7)), (1, .inl v6), (0, .inr (.inr a0))], [.inl (108 : Int32), .inl (108 : Int32), .inl (117 : Int32), .inl (110 : Int32), .inl v6, .inr (.inr v7)])) rfl ?_
            rcases lb_I_s hr with ⟨v12, h13, m14, hr⟩ | ⟨a15, h13, z16, z16l, m14, qz16, rfl⟩
            · try dsimp only at hr
              refine tm_call rfl rfl (tm_callS rfl rfl) (lq_49 m14) ?_
              refine tm_n 1 (F' := (76, [(1, .inl v12), (2, .inr (.inr v7)), (0, .inr (.inr a0))], [])) rfl ?_
              refine tm_cut (a := [(0, .inr (.inr a0)), (1, .inl v12)]) rfl (tm_sbs [2, 0] rfl) ?_
              exact l48_76_t hr
            · exact tm_callT rfl rfl (tm_callS rfl rfl) (lq_49 m14) qz16 rfl
          · rw [if_neg c21] at hr
            refine tm_ifF rfl c21 ?_
            refine tm_n 4 (F' := (34, [(1, .inl (v6 + (1 : Int32))), (2, .inr (.inr v7)), (0, .inr (.inr a0))], [.inl (110 : Int32), .inl v6, .inr (.inr v7)])) rfl ?_
            obtain ⟨h17, qh17, hr⟩ := Option.bind_eq_some_iff.mp hr
            refine tm_ast rfl rfl qh17 ?_
            refine tm_n 4 (F' := (42, [(1, .inl ((v6 + (1 : Int32)) + (1 : Int32))), (2, .inr (.inr v7)), (0, .inr (.inr a0))], [.inl (117 : Int32), .inl (v6 + (1 : Int32)), .inr (.inr v7)])) rfl ?_
            obtain ⟨h18, qh18, hr⟩ := Option.bind_eq_some_iff.mp hr
            refine tm_ast rfl rfl qh18 ?_
            refine tm_n 4 (F' := (50, [(1, .inl (((v6 + (1 : Int32)) + (1 : Int32)) + (1 : Int32))), (2, .inr (.inr v7)), (0, .inr (.inr a0))], [.inl (108 : Int32), .inl ((v6 + (1 : Int32)) + (1 : Int32)), .inr (.inr v7)])) rfl ?_
            obtain ⟨h19, qh19, hr⟩ := Option.bind_eq_some_iff.mp hr
            refine tm_ast rfl rfl qh19 ?_
            refine tm_n 4 (F' := (58, [(1, .inl ((((v6 + (1 : Int32)) + (1 : Int32)) + (1 : Int32)) + (1 : Int32))), (2, .inr (.inr v7)), (0, .inr (.inr a0))], [.inl (108 : Int32), .inl (((v6 + (1 : Int32)) + (1 : Int32)) + (1 : Int32)), .inr (.inr v7)])) rfl ?_
            obtain ⟨h20, qh20, hr⟩ := Option.bind_eq_some_iff.mp hr
            refine tm_ast rfl rfl qh20 ?_
            refine tm_n 1 (F' := (76, [(1, .inl ((((v6 + (1 : Int32)) + (1 : Int32)) + (1 : Int32)) + (1 : Int32))), (2, .inr (.inr v7)), (0, .inr (.inr a0))], [])) rfl ?_
            refine tm_cut (a := [(0, .inr (.inr a0)), (1, .inl ((((v6 + (1 : Int32)) + (1 : Int32)) + (1 : Int32)) + (1 : Int32)))]) rfl (tm_sbs [2, 0] rfl) ?_
            exact l48_76_t hr
        · exact tm_callT rfl rfl (tm_callV rfl rfl c8 rfl rfl) (lq_28 m11) qz23 rfl
      · rw [if_neg c8] at hr
        cases hr
    · exact tm_callT rfl rfl (tm_callV rfl rfl c2 rfl rfl) (lq_21 m5) qz25 rfl
  · rw [if_neg c2] at hr
    cases hr
