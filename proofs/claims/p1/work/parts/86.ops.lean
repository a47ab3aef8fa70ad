/-! THE LAW's CALLS: one round of its loop, by the ends of the calls below it -/
theorem la_arr_c {h h' : pm_H} {a : Nat} (e : h'.1[a]? = h.1[a]?) : la_arr h' (some a) = la_arr h (some a) := by
  simp only [la_arr, e]
theorem la_I_c {h h' : pm_H} {i : Instr} {a : Nat} {x : Int32} (e : h'.1[a]? = h.1[a]?) : la_I h' i (some a) x = la_I h i (some a) x := by
  simp only [la_I, la_V, la_arr_c e]
theorem la_len_c {h h' : pm_H} {a : Nat} (e : h'.1[a]? = h.1[a]?) : la_len h' (some a) = la_len h (some a) := by
  simp only [la_len, la_arr_c e]
theorem lg_cmp_self (x : Int64) : lg_cmp x x = 0 := by
  unfold lg_cmp
  rw [if_neg (by simp), if_pos rfl]
/-- what the law compares: k, the class's end; b, the reference's answer -/
def pt_cI (k : Int32) (b : Option tm_V) (h : pm_H) : Prop := ∃ v : Int32, b = some (.inl v) ∧ (k = 0 → la_J h .laload (some 177) 0 = some v.toInt64)
def pt_cB (k : Int32) (b : Option tm_V) (h : pm_H) : Prop := ∃ v : Int32, b = some (.inl v) ∧ (k = 0 → la_J h .laload (some 177) 0 = some (if v = 0 then 0 else 1))
def pt_cV (_ : Int32) (b : Option tm_V) (_ : pm_H) : Prop := b = none
/-- a call of the class, of the reference, and of the reference's 'thrown': they agree -/
def pt_O (w : Option Nat) (cmp : Int32 → Option tm_V → pm_H → Prop) (y1 : Nat) (as1 : List tm_V) (y2 : Nat) (as2 : List tm_V) (h h3 : pm_H) : Prop :=
  ∃ (k : Int32) (h1 : pm_H) (b : Option tm_V) (h2 : pm_H), tx_R w y1 as1 h (.inl (some (.inl k)), h1) ∧ h1.1[0]? = h.1[0]? ∧ lc_of h1 (some 145) = some 10 ∧ tx_R w y2 as2 h1 (.inl b, h2) ∧ lc_of h2 (some 145) = some 10 ∧ tx_R w 235 [.inr (.inr (some 145))] h2 (.inl (some (.inl k)), h3) ∧ cmp k b h3
abbrev pt_KT : Type := Option Nat → Option Nat → Option Nat → Option Nat → Int32 → pm_H → tm_L
theorem ox_0 {w : Option Nat} {K : pt_KT} {x4 a1 : Int32} {h h3 : pm_H} (r1 : la_I h .iaload (some 0) (x4 + 1) = some a1) (ho : pt_O w pt_cI 15 [.inr (.inr (some 81)), .inl (UInt32.toInt32 (Int32.toUInt32 a1 % 65536)), .inr (.inr (some 177))] 262 [.inr (.inr (some 145)), .inl (UInt32.toInt32 (Int32.toUInt32 a1 % 65536))] h h3) : l0_120 (tx w) K (some 0) (some 81) (some 145) (some 177) x4 h = K (some 0) (some 81) (some 145) (some 177) (x4 + 5) h3 := by
  obtain ⟨k, h1, b, h2, e1, c0, c1, e2, c2, e3, v, rfl, hv⟩ := ho
  have s1 := (la_I_c (i := .iaload) (x := x4 + 1) c0).trans r1
  unfold l0_120
  simp only [r1, s1, Option.bind_some, tx_of e1, tx_of e2, tx_of e3, lb_I, c1, c2, if_true]
  by_cases hk : k = 0
  · simp only [hk, if_true, hv hk, Option.bind_some, lg_cmp_self]
    rfl
  · simp only [hk, if_false]
    rfl
theorem ox_1 {w : Option Nat} {K : pt_KT} {x4 a1 : Int32} {h h3 : pm_H} (r1 : la_I h .iaload (some 0) (x4 + 1) = some a1) (ho : pt_O w pt_cV 42 [.inr (.inr (some 81)), .inl a1] 263 [.inr (.inr (some 145)), .inl a1] h h3) : l0_178 (tx w) K (some 0) (some 81) (some 145) (some 177) x4 h = K (some 0) (some 81) (some 145) (some 177) (x4 + 5) h3 := by
  obtain ⟨k, h1, b, h2, e1, c0, c1, e2, c2, e3, rfl⟩ := ho
  have s1 := (la_I_c (i := .iaload) (x := x4 + 1) c0).trans r1
  unfold l0_178
  simp only [r1, s1, Option.bind_some, tx_of e1, tx_of e2, tx_of e3, lb_I, lb_V, c1, c2, if_true]
  rfl
theorem ox_2 {w : Option Nat} {K : pt_KT} {x4 a1 a2 a3 : Int32} {h h3 : pm_H} (r1 : la_I h .iaload (some 0) (x4 + 1) = some a1) (r2 : la_I h .iaload (some 0) (x4 + 2) = some a2) (r3 : la_I h .iaload (some 0) (x4 + 3) = some a3) (ho : pt_O w pt_cI 79 [.inr (.inr (some 81)), .inl a1, .inl a2, .inl a3, .inr (.inr (some 177))] 236 [.inr (.inr (some 145)), .inl a1, .inl a2, .inl a3] h h3) : l0_214 (tx w) K (some 0) (some 81) (some 145) (some 177) x4 h = K (some 0) (some 81) (some 145) (some 177) (x4 + 5) h3 := by
  obtain ⟨k, h1, b, h2, e1, c0, c1, e2, c2, e3, v, rfl, hv⟩ := ho
  have s1 := (la_I_c (i := .iaload) (x := x4 + 1) c0).trans r1
  have s2 := (la_I_c (i := .iaload) (x := x4 + 2) c0).trans r2
  have s3 := (la_I_c (i := .iaload) (x := x4 + 3) c0).trans r3
  unfold l0_214
  simp only [r1, r2, r3, s1, s2, s3, Option.bind_some, tx_of e1, tx_of e2, tx_of e3, lb_I, c1, c2, if_true]
  by_cases hk : k = 0
  · simp only [hk, if_true, hv hk, Option.bind_some, lg_cmp_self]
    rfl
  · simp only [hk, if_false]
    rfl
theorem ox_3 {w : Option Nat} {K : pt_KT} {x4 a1 a2 a3 a4 : Int32} {h h3 : pm_H} (r1 : la_I h .iaload (some 0) (x4 + 1) = some a1) (r2 : la_I h .iaload (some 0) (x4 + 2) = some a2) (r3 : la_I h .iaload (some 0) (x4 + 3) = some a3) (r4 : la_I h .iaload (some 0) (x4 + 4) = some a4) (ho : pt_O w pt_cV 123 [.inr (.inr (some 81)), .inl a1, .inl a2, .inl a3, .inl a4] 251 [.inr (.inr (some 145)), .inl a1, .inl a2, .inl a3, .inl a4] h h3) : l0_294 (tx w) K (some 0) (some 81) (some 145) (some 177) x4 h = K (some 0) (some 81) (some 145) (some 177) (x4 + 5) h3 := by
  obtain ⟨k, h1, b, h2, e1, c0, c1, e2, c2, e3, rfl⟩ := ho
  have s1 := (la_I_c (i := .iaload) (x := x4 + 1) c0).trans r1
  have s2 := (la_I_c (i := .iaload) (x := x4 + 2) c0).trans r2
  have s3 := (la_I_c (i := .iaload) (x := x4 + 3) c0).trans r3
  have s4 := (la_I_c (i := .iaload) (x := x4 + 4) c0).trans r4
  unfold l0_294
  simp only [r1, r2, r3, r4, s1, s2, s3, s4, Option.bind_some, tx_of e1, tx_of e2, tx_of e3, lb_I, lb_V, c1, c2, if_true]
  rfl
theorem ox_4 {w : Option Nat} {K : pt_KT} {x4 a1 a2 a3 : Int32} {h h3 : pm_H} (r1 : la_I h .iaload (some 0) (x4 + 1) = some a1) (r2 : la_I h .iaload (some 0) (x4 + 2) = some a2) (r3 : la_I h .iaload (some 0) (x4 + 3) = some a3) (ho : pt_O w pt_cV 126 [.inr (.inr (some 81)), .inl a1, .inl a2, .inl a3] 252 [.inr (.inr (some 145)), .inl a1, .inl a2, .inl a3] h h3) : l0_366 (tx w) K (some 0) (some 81) (some 145) (some 177) x4 h = K (some 0) (some 81) (some 145) (some 177) (x4 + 5) h3 := by
  obtain ⟨k, h1, b, h2, e1, c0, c1, e2, c2, e3, rfl⟩ := ho
  have s1 := (la_I_c (i := .iaload) (x := x4 + 1) c0).trans r1
  have s2 := (la_I_c (i := .iaload) (x := x4 + 2) c0).trans r2
  have s3 := (la_I_c (i := .iaload) (x := x4 + 3) c0).trans r3
  unfold l0_366
  simp only [r1, r2, r3, s1, s2, s3, Option.bind_some, tx_of e1, tx_of e2, tx_of e3, lb_I, lb_V, c1, c2, if_true]
  rfl
theorem ox_5 {w : Option Nat} {K : pt_KT} {x4 a1 a2 a3 : Int32} {h h3 : pm_H} (r1 : la_I h .iaload (some 0) (x4 + 1) = some a1) (r2 : la_I h .iaload (some 0) (x4 + 2) = some a2) (r3 : la_I h .iaload (some 0) (x4 + 3) = some a3) (ho : pt_O w pt_cI 129 [.inr (.inr (some 81)), .inl a1, .inl a2, .inl a3, .inr (.inr (some 177))] 264 [.inr (.inr (some 145)), .inl a1, .inl a2, .inl a3] h h3) : l0_426 (tx w) K (some 0) (some 81) (some 145) (some 177) x4 h = K (some 0) (some 81) (some 145) (some 177) (x4 + 5) h3 := by
  obtain ⟨k, h1, b, h2, e1, c0, c1, e2, c2, e3, v, rfl, hv⟩ := ho
  have s1 := (la_I_c (i := .iaload) (x := x4 + 1) c0).trans r1
  have s2 := (la_I_c (i := .iaload) (x := x4 + 2) c0).trans r2
  have s3 := (la_I_c (i := .iaload) (x := x4 + 3) c0).trans r3
  unfold l0_426
  simp only [r1, r2, r3, s1, s2, s3, Option.bind_some, tx_of e1, tx_of e2, tx_of e3, lb_I, c1, c2, if_true]
  by_cases hk : k = 0
  · simp only [hk, if_true, hv hk, Option.bind_some, lg_cmp_self]
    rfl
  · simp only [hk, if_false]
    rfl
theorem ox_6 {w : Option Nat} {K : pt_KT} {x4 a1 : Int32} {h h3 : pm_H} (r1 : la_I h .iaload (some 0) (x4 + 1) = some a1) (ho : pt_O w pt_cB 161 [.inr (.inr (some 81)), .inl a1, .inr (.inr (some 177))] 253 [.inr (.inr (some 145)), .inl a1] h h3) : l0_506 (tx w) K (some 0) (some 81) (some 145) (some 177) x4 h = K (some 0) (some 81) (some 145) (some 177) (x4 + 5) h3 := by
  obtain ⟨k, h1, b, h2, e1, c0, c1, e2, c2, e3, v, rfl, hv⟩ := ho
  have s1 := (la_I_c (i := .iaload) (x := x4 + 1) c0).trans r1
  unfold l0_506
  simp only [r1, s1, Option.bind_some, tx_of e1, tx_of e2, tx_of e3, lb_I, c1, c2, if_true]
  by_cases hk : k = 0
  · simp only [hk, if_true, hv hk, Option.bind_some]
    by_cases hv0 : v = 0
    · simp only [hv0, if_true]
      unfold l0_560
      rw [lg_cmp_self, if_pos rfl]
      rfl
    · simp only [hv0, if_false]
      unfold l0_560
      rw [lg_cmp_self, if_pos rfl]
      rfl
  · simp only [hk, if_false]
    rfl
theorem ox_7 {w : Option Nat} {K : pt_KT} {x4 a1 a2 a3 : Int32} {h h3 : pm_H} (r1 : la_I h .iaload (some 0) (x4 + 1) = some a1) (r2 : la_I h .iaload (some 0) (x4 + 2) = some a2) (r3 : la_I h .iaload (some 0) (x4 + 3) = some a3) (ho : pt_O w pt_cI 168 [.inr (.inr (some 81)), .inl a1, .inl a2, .inl a3, .inr (.inr (some 177))] 256 [.inr (.inr (some 145)), .inl a1, .inl a2, .inl a3] h h3) : l0_569 (tx w) K (some 0) (some 81) (some 145) (some 177) x4 h = K (some 0) (some 81) (some 145) (some 177) (x4 + 5) h3 := by
  obtain ⟨k, h1, b, h2, e1, c0, c1, e2, c2, e3, v, rfl, hv⟩ := ho
  have s1 := (la_I_c (i := .iaload) (x := x4 + 1) c0).trans r1
  have s2 := (la_I_c (i := .iaload) (x := x4 + 2) c0).trans r2
  have s3 := (la_I_c (i := .iaload) (x := x4 + 3) c0).trans r3
  unfold l0_569
  simp only [r1, r2, r3, s1, s2, s3, Option.bind_some, tx_of e1, tx_of e2, tx_of e3, lb_I, c1, c2, if_true]
  by_cases hk : k = 0
  · simp only [hk, if_true, hv hk, Option.bind_some, lg_cmp_self]
    rfl
  · simp only [hk, if_false]
    rfl
theorem ox_8 {w : Option Nat} {K : pt_KT} {x4 a1 a2 : Int32} {h h3 : pm_H} (r1 : la_I h .iaload (some 0) (x4 + 1) = some a1) (r2 : la_I h .iaload (some 0) (x4 + 2) = some a2) (ho : pt_O w pt_cI 174 [.inr (.inr (some 81)), .inl a1, .inl a2, .inr (.inr (some 177))] 258 [.inr (.inr (some 145)), .inl a1, .inl a2] h h3) : l0_649 (tx w) K (some 0) (some 81) (some 145) (some 177) x4 h = K (some 0) (some 81) (some 145) (some 177) (x4 + 5) h3 := by
  obtain ⟨k, h1, b, h2, e1, c0, c1, e2, c2, e3, v, rfl, hv⟩ := ho
  have s1 := (la_I_c (i := .iaload) (x := x4 + 1) c0).trans r1
  have s2 := (la_I_c (i := .iaload) (x := x4 + 2) c0).trans r2
  unfold l0_649
  simp only [r1, r2, s1, s2, Option.bind_some, tx_of e1, tx_of e2, tx_of e3, lb_I, c1, c2, if_true]
  by_cases hk : k = 0
  · simp only [hk, if_true, hv hk, Option.bind_some, lg_cmp_self]
    rfl
  · simp only [hk, if_false]
    rfl
theorem ox_9 {w : Option Nat} {K : pt_KT} {x4 a1 : Int32} {h h3 : pm_H} (r1 : la_I h .iaload (some 0) (x4 + 1) = some a1) (ho : pt_O w pt_cI 176 [.inr (.inr (some 81)), .inl a1, .inr (.inr (some 177))] 259 [.inr (.inr (some 145)), .inl a1] h h3) : l0_717 (tx w) K (some 0) (some 81) (some 145) (some 177) x4 h = K (some 0) (some 81) (some 145) (some 177) (x4 + 5) h3 := by
  obtain ⟨k, h1, b, h2, e1, c0, c1, e2, c2, e3, v, rfl, hv⟩ := ho
  have s1 := (la_I_c (i := .iaload) (x := x4 + 1) c0).trans r1
  unfold l0_717
  simp only [r1, s1, Option.bind_some, tx_of e1, tx_of e2, tx_of e3, lb_I, c1, c2, if_true]
  by_cases hk : k = 0
  · simp only [hk, if_true, hv hk, Option.bind_some, lg_cmp_self]
    rfl
  · simp only [hk, if_false]
    rfl
theorem ox_10 {w : Option Nat} {K : pt_KT} {x4 a1 a2 : Int32} {h h3 : pm_H} (r1 : la_I h .iaload (some 0) (x4 + 1) = some a1) (r2 : la_I h .iaload (some 0) (x4 + 2) = some a2) (ho : pt_O w pt_cI 180 [.inr (.inr (some 81)), .inl a1, .inl a2, .inr (.inr (some 177))] 260 [.inr (.inr (some 145)), .inl a1, .inl a2] h h3) : l0_773 (tx w) K (some 0) (some 81) (some 145) (some 177) x4 h = K (some 0) (some 81) (some 145) (some 177) (x4 + 5) h3 := by
  obtain ⟨k, h1, b, h2, e1, c0, c1, e2, c2, e3, v, rfl, hv⟩ := ho
  have s1 := (la_I_c (i := .iaload) (x := x4 + 1) c0).trans r1
  have s2 := (la_I_c (i := .iaload) (x := x4 + 2) c0).trans r2
  unfold l0_773
  simp only [r1, r2, s1, s2, Option.bind_some, tx_of e1, tx_of e2, tx_of e3, lb_I, c1, c2, if_true]
  by_cases hk : k = 0
  · simp only [hk, if_true, hv hk, Option.bind_some, lg_cmp_self]
    rfl
  · simp only [hk, if_false]
    rfl
theorem ox_11 {w : Option Nat} {K : pt_KT} {x4 a1 a2 a3 : Int32} {h h3 : pm_H} (r1 : la_I h .iaload (some 0) (x4 + 1) = some a1) (r2 : la_I h .iaload (some 0) (x4 + 2) = some a2) (r3 : la_I h .iaload (some 0) (x4 + 3) = some a3) (ho : pt_O w pt_cI 182 [.inr (.inr (some 81)), .inl a1, .inl a2, .inl a3, .inr (.inr (some 177))] 261 [.inr (.inr (some 145)), .inl a1, .inl a2, .inl a3] h h3) : l0_841 (tx w) K (some 0) (some 81) (some 145) (some 177) x4 h = K (some 0) (some 81) (some 145) (some 177) (x4 + 5) h3 := by
  obtain ⟨k, h1, b, h2, e1, c0, c1, e2, c2, e3, v, rfl, hv⟩ := ho
  have s1 := (la_I_c (i := .iaload) (x := x4 + 1) c0).trans r1
  have s2 := (la_I_c (i := .iaload) (x := x4 + 2) c0).trans r2
  have s3 := (la_I_c (i := .iaload) (x := x4 + 3) c0).trans r3
  unfold l0_841
  simp only [r1, r2, r3, s1, s2, s3, Option.bind_some, tx_of e1, tx_of e2, tx_of e3, lb_I, c1, c2, if_true]
  by_cases hk : k = 0
  · simp only [hk, if_true, hv hk, Option.bind_some, lg_cmp_self]
    rfl
  · simp only [hk, if_false]
    rfl
theorem ox_12 {w : Option Nat} {K : pt_KT} {x4 a1 a2 a3 : Int32} {h h3 : pm_H} (r1 : la_I h .iaload (some 0) (x4 + 1) = some a1) (r2 : la_I h .iaload (some 0) (x4 + 2) = some a2) (r3 : la_I h .iaload (some 0) (x4 + 3) = some a3) (ho : pt_O w pt_cI 184 [.inr (.inr (some 81)), .inl a1, .inl a2, .inl a3, .inr (.inr (some 177))] 279 [.inr (.inr (some 145)), .inl a1, .inl a2, .inl a3] h h3) : l0_921 (tx w) K (some 0) (some 81) (some 145) (some 177) x4 h = K (some 0) (some 81) (some 145) (some 177) (x4 + 5) h3 := by
  obtain ⟨k, h1, b, h2, e1, c0, c1, e2, c2, e3, v, rfl, hv⟩ := ho
  have s1 := (la_I_c (i := .iaload) (x := x4 + 1) c0).trans r1
  have s2 := (la_I_c (i := .iaload) (x := x4 + 2) c0).trans r2
  have s3 := (la_I_c (i := .iaload) (x := x4 + 3) c0).trans r3
  unfold l0_921
  simp only [r1, r2, r3, s1, s2, s3, Option.bind_some, tx_of e1, tx_of e2, tx_of e3, lb_I, c1, c2, if_true]
  by_cases hk : k = 0
  · simp only [hk, if_true, hv hk, Option.bind_some, lg_cmp_self]
    rfl
  · simp only [hk, if_false]
    rfl
theorem ox_13 {w : Option Nat} {K : pt_KT} {x4 a1 a2 a3 : Int32} {h h3 : pm_H} (r1 : la_I h .iaload (some 0) (x4 + 1) = some a1) (r2 : la_I h .iaload (some 0) (x4 + 2) = some a2) (r3 : la_I h .iaload (some 0) (x4 + 3) = some a3) (ho : pt_O w pt_cI 208 [.inr (.inr (some 81)), .inl a1, .inl a2, .inl a3, .inr (.inr (some 177))] 299 [.inr (.inr (some 145)), .inl a1, .inl a2, .inl a3] h h3) : l0_1001 (tx w) K (some 0) (some 81) (some 145) (some 177) x4 h = K (some 0) (some 81) (some 145) (some 177) (x4 + 5) h3 := by
  obtain ⟨k, h1, b, h2, e1, c0, c1, e2, c2, e3, v, rfl, hv⟩ := ho
  have s1 := (la_I_c (i := .iaload) (x := x4 + 1) c0).trans r1
  have s2 := (la_I_c (i := .iaload) (x := x4 + 2) c0).trans r2
  have s3 := (la_I_c (i := .iaload) (x := x4 + 3) c0).trans r3
  unfold l0_1001
  simp only [r1, r2, r3, s1, s2, s3, Option.bind_some, tx_of e1, tx_of e2, tx_of e3, lb_I, c1, c2, if_true]
  by_cases hk : k = 0
  · simp only [hk, if_true, hv hk, Option.bind_some, lg_cmp_self]
    rfl
  · simp only [hk, if_false]
    rfl
theorem ox_14 {w : Option Nat} {K : pt_KT} {x4 a1 a2 a3 : Int32} {h h3 : pm_H} (r1 : la_I h .iaload (some 0) (x4 + 1) = some a1) (r2 : la_I h .iaload (some 0) (x4 + 2) = some a2) (r3 : la_I h .iaload (some 0) (x4 + 3) = some a3) (ho : pt_O w pt_cI 211 [.inr (.inr (some 81)), .inl a1, .inl a2, .inl a3, .inr (.inr (some 177))] 300 [.inr (.inr (some 145)), .inl a1, .inl a2, .inl a3] h h3) : l0_1081 (tx w) K (some 0) (some 81) (some 145) (some 177) x4 h = K (some 0) (some 81) (some 145) (some 177) (x4 + 5) h3 := by
  obtain ⟨k, h1, b, h2, e1, c0, c1, e2, c2, e3, v, rfl, hv⟩ := ho
  have s1 := (la_I_c (i := .iaload) (x := x4 + 1) c0).trans r1
  have s2 := (la_I_c (i := .iaload) (x := x4 + 2) c0).trans r2
  have s3 := (la_I_c (i := .iaload) (x := x4 + 3) c0).trans r3
  unfold l0_1081
  simp only [r1, r2, r3, s1, s2, s3, Option.bind_some, tx_of e1, tx_of e2, tx_of e3, lb_I, c1, c2, if_true]
  by_cases hk : k = 0
  · simp only [hk, if_true, hv hk, Option.bind_some, lg_cmp_self]
    rfl
  · simp only [hk, if_false]
    rfl
theorem ox_15 {w : Option Nat} {K : pt_KT} {x4 a1 a2 a3 : Int32} {h h3 : pm_H} (r1 : la_I h .iaload (some 0) (x4 + 1) = some a1) (r2 : la_I h .iaload (some 0) (x4 + 2) = some a2) (r3 : la_I h .iaload (some 0) (x4 + 3) = some a3) (ho : pt_O w pt_cI 216 [.inr (.inr (some 81)), .inl a1, .inl a2, .inl a3, .inr (.inr (some 177))] 302 [.inr (.inr (some 145)), .inl a1, .inl a2, .inl a3] h h3) : l0_1161 (tx w) K (some 0) (some 81) (some 145) (some 177) x4 h = K (some 0) (some 81) (some 145) (some 177) (x4 + 5) h3 := by
  obtain ⟨k, h1, b, h2, e1, c0, c1, e2, c2, e3, v, rfl, hv⟩ := ho
  have s1 := (la_I_c (i := .iaload) (x := x4 + 1) c0).trans r1
  have s2 := (la_I_c (i := .iaload) (x := x4 + 2) c0).trans r2
  have s3 := (la_I_c (i := .iaload) (x := x4 + 3) c0).trans r3
  unfold l0_1161
  simp only [r1, r2, r3, s1, s2, s3, Option.bind_some, tx_of e1, tx_of e2, tx_of e3, lb_I, c1, c2, if_true]
  by_cases hk : k = 0
  · simp only [hk, if_true, hv hk, Option.bind_some, lg_cmp_self]
    rfl
  · simp only [hk, if_false]
    rfl
theorem ox_16 {w : Option Nat} {K : pt_KT} {x4 a1 : Int32} {h h3 : pm_H} (r1 : la_I h .iaload (some 0) (x4 + 1) = some a1) (ho : pt_O w pt_cI 232 [.inr (.inr (some 81)), .inl a1, .inr (.inr (some 177))] 313 [.inr (.inr (some 145)), .inl a1] h h3) : l0_1241 (tx w) K (some 0) (some 81) (some 145) (some 177) x4 h = K (some 0) (some 81) (some 145) (some 177) (x4 + 5) h3 := by
  obtain ⟨k, h1, b, h2, e1, c0, c1, e2, c2, e3, v, rfl, hv⟩ := ho
  have s1 := (la_I_c (i := .iaload) (x := x4 + 1) c0).trans r1
  unfold l0_1241
  simp only [r1, s1, Option.bind_some, tx_of e1, tx_of e2, tx_of e3, lb_I, c1, c2, if_true]
  by_cases hk : k = 0
  · simp only [hk, if_true, hv hk, Option.bind_some, lg_cmp_self]
    rfl
  · simp only [hk, if_false]
    rfl
/-- the call that a round of the loop does: v the first of its five ints -/
def pt_Op (w : Option Nat) (v a1 a2 a3 a4 : Int32) (h h3 : pm_H) : Prop :=
  if v &&& 31 = 0 then pt_O w pt_cI 15 [.inr (.inr (some 81)), .inl (UInt32.toInt32 (Int32.toUInt32 a1 % 65536)), .inr (.inr (some 177))] 262 [.inr (.inr (some 145)), .inl (UInt32.toInt32 (Int32.toUInt32 a1 % 65536))] h h3 else
  if v &&& 31 = 1 then pt_O w pt_cV 42 [.inr (.inr (some 81)), .inl a1] 263 [.inr (.inr (some 145)), .inl a1] h h3 else
  if v &&& 31 = 2 then pt_O w pt_cI 79 [.inr (.inr (some 81)), .inl a1, .inl a2, .inl a3, .inr (.inr (some 177))] 236 [.inr (.inr (some 145)), .inl a1, .inl a2, .inl a3] h h3 else
  if v &&& 31 = 3 then pt_O w pt_cV 123 [.inr (.inr (some 81)), .inl a1, .inl a2, .inl a3, .inl a4] 251 [.inr (.inr (some 145)), .inl a1, .inl a2, .inl a3, .inl a4] h h3 else
  if v &&& 31 = 4 then pt_O w pt_cV 126 [.inr (.inr (some 81)), .inl a1, .inl a2, .inl a3] 252 [.inr (.inr (some 145)), .inl a1, .inl a2, .inl a3] h h3 else
  if v &&& 31 = 5 then pt_O w pt_cI 129 [.inr (.inr (some 81)), .inl a1, .inl a2, .inl a3, .inr (.inr (some 177))] 264 [.inr (.inr (some 145)), .inl a1, .inl a2, .inl a3] h h3 else
  if v &&& 31 = 6 then pt_O w pt_cB 161 [.inr (.inr (some 81)), .inl a1, .inr (.inr (some 177))] 253 [.inr (.inr (some 145)), .inl a1] h h3 else
  if v &&& 31 = 7 then pt_O w pt_cI 168 [.inr (.inr (some 81)), .inl a1, .inl a2, .inl a3, .inr (.inr (some 177))] 256 [.inr (.inr (some 145)), .inl a1, .inl a2, .inl a3] h h3 else
  if v &&& 31 = 8 then pt_O w pt_cI 174 [.inr (.inr (some 81)), .inl a1, .inl a2, .inr (.inr (some 177))] 258 [.inr (.inr (some 145)), .inl a1, .inl a2] h h3 else
  if v &&& 31 = 9 then pt_O w pt_cI 176 [.inr (.inr (some 81)), .inl a1, .inr (.inr (some 177))] 259 [.inr (.inr (some 145)), .inl a1] h h3 else
  if v &&& 31 = 10 then pt_O w pt_cI 180 [.inr (.inr (some 81)), .inl a1, .inl a2, .inr (.inr (some 177))] 260 [.inr (.inr (some 145)), .inl a1, .inl a2] h h3 else
  if v &&& 31 = 11 then pt_O w pt_cI 182 [.inr (.inr (some 81)), .inl a1, .inl a2, .inl a3, .inr (.inr (some 177))] 261 [.inr (.inr (some 145)), .inl a1, .inl a2, .inl a3] h h3 else
  if v &&& 31 = 12 then pt_O w pt_cI 184 [.inr (.inr (some 81)), .inl a1, .inl a2, .inl a3, .inr (.inr (some 177))] 279 [.inr (.inr (some 145)), .inl a1, .inl a2, .inl a3] h h3 else
  if v &&& 31 = 13 then pt_O w pt_cI 208 [.inr (.inr (some 81)), .inl a1, .inl a2, .inl a3, .inr (.inr (some 177))] 299 [.inr (.inr (some 145)), .inl a1, .inl a2, .inl a3] h h3 else
  if v &&& 31 = 14 then pt_O w pt_cI 211 [.inr (.inr (some 81)), .inl a1, .inl a2, .inl a3, .inr (.inr (some 177))] 300 [.inr (.inr (some 145)), .inl a1, .inl a2, .inl a3] h h3 else
  if v &&& 31 = 15 then pt_O w pt_cI 216 [.inr (.inr (some 81)), .inl a1, .inl a2, .inl a3, .inr (.inr (some 177))] 302 [.inr (.inr (some 145)), .inl a1, .inl a2, .inl a3] h h3 else
  if v &&& 31 = 16 then pt_O w pt_cI 232 [.inr (.inr (some 81)), .inl a1, .inr (.inr (some 177))] 313 [.inr (.inr (some 145)), .inl a1] h h3 else
  h3 = h
set_option maxHeartbeats 1000000 in
theorem ox_round {w : Option Nat} {n : Nat} {x4 v1 v a1 a2 a3 a4 : Int32} {h h3 : pm_H} (hl : la_len h (some 0) = some v1) (hlt : ¬ (v1 - 5) < x4) (r0 : la_I h .iaload (some 0) x4 = some v) (r1 : la_I h .iaload (some 0) (x4 + 1) = some a1) (r2 : la_I h .iaload (some 0) (x4 + 2) = some a2) (r3 : la_I h .iaload (some 0) (x4 + 3) = some a3) (r4 : la_I h .iaload (some 0) (x4 + 4) = some a4) (ho : pt_Op w v a1 a2 a3 a4 h h3) : l0_23 (tx w) (n + 1) (some 0) (some 81) (some 145) (some 177) x4 h = l0_23 (tx w) n (some 0) (some 81) (some 145) (some 177) (x4 + 5) h3 := by
  rw [l0_23]
  simp only [hl, Option.bind_some, if_neg hlt, r0]
  unfold pt_Op at ho
  by_cases c0 : v &&& 31 = 0
  · rw [if_pos c0] at ho ⊢
    exact ox_0 r1 ho
  rw [if_neg c0] at ho ⊢
  by_cases c1 : v &&& 31 = 1
  · rw [if_pos c1] at ho ⊢
    exact ox_1 r1 ho
  rw [if_neg c1] at ho ⊢
  by_cases c2 : v &&& 31 = 2
  · rw [if_pos c2] at ho ⊢
    exact ox_2 r1 r2 r3 ho
  rw [if_neg c2] at ho ⊢
  by_cases c3 : v &&& 31 = 3
  · rw [if_pos c3] at ho ⊢
    exact ox_3 r1 r2 r3 r4 ho
  rw [if_neg c3] at ho ⊢
  by_cases c4 : v &&& 31 = 4
  · rw [if_pos c4] at ho ⊢
    exact ox_4 r1 r2 r3 ho
  rw [if_neg c4] at ho ⊢
  by_cases c5 : v &&& 31 = 5
  · rw [if_pos c5] at ho ⊢
    exact ox_5 r1 r2 r3 ho
  rw [if_neg c5] at ho ⊢
  by_cases c6 : v &&& 31 = 6
  · rw [if_pos c6] at ho ⊢
    exact ox_6 r1 ho
  rw [if_neg c6] at ho ⊢
  by_cases c7 : v &&& 31 = 7
  · rw [if_pos c7] at ho ⊢
    exact ox_7 r1 r2 r3 ho
  rw [if_neg c7] at ho ⊢
  by_cases c8 : v &&& 31 = 8
  · rw [if_pos c8] at ho ⊢
    exact ox_8 r1 r2 ho
  rw [if_neg c8] at ho ⊢
  by_cases c9 : v &&& 31 = 9
  · rw [if_pos c9] at ho ⊢
    exact ox_9 r1 ho
  rw [if_neg c9] at ho ⊢
  by_cases c10 : v &&& 31 = 10
  · rw [if_pos c10] at ho ⊢
    exact ox_10 r1 r2 ho
  rw [if_neg c10] at ho ⊢
  by_cases c11 : v &&& 31 = 11
  · rw [if_pos c11] at ho ⊢
    exact ox_11 r1 r2 r3 ho
  rw [if_neg c11] at ho ⊢
  by_cases c12 : v &&& 31 = 12
  · rw [if_pos c12] at ho ⊢
    exact ox_12 r1 r2 r3 ho
  rw [if_neg c12] at ho ⊢
  by_cases c13 : v &&& 31 = 13
  · rw [if_pos c13] at ho ⊢
    exact ox_13 r1 r2 r3 ho
  rw [if_neg c13] at ho ⊢
  by_cases c14 : v &&& 31 = 14
  · rw [if_pos c14] at ho ⊢
    exact ox_14 r1 r2 r3 ho
  rw [if_neg c14] at ho ⊢
  by_cases c15 : v &&& 31 = 15
  · rw [if_pos c15] at ho ⊢
    exact ox_15 r1 r2 r3 ho
  rw [if_neg c15] at ho ⊢
  by_cases c16 : v &&& 31 = 16
  · rw [if_pos c16] at ho ⊢
    exact ox_16 r1 ho
  rw [if_neg c16] at ho ⊢
  subst ho
  rfl
