/-! MAKING: objects, and what stays true with one more act -/
section MK
variable {A A' A1 : ah} {h h1 : pm_H} {M M' : aM} {D : aD} {X : ax} {F : fo} {c o i j l p k x : Nat} {r : rc} {a : Int32} {w : Option Nat} {Y Y' : List Nat} {fs : List Value}
theorem st_hi (s : st A A' Y k j) (hY : ∀ y ∈ Y, A.2.1 ≤ y ∨ y ∈ Y') : st A A' Y' k j := ⟨s.1, fun b h1 h2 => s.2.1 b h1 (fun z => by
  rcases hY b z with q | q
  · omega
  · exact h2 q), s.2.2⟩
theorem fit_r {v : Option Nat} : pm_fit 2 (tm_v (.inr (.inr v))) = true := by cases v <;> rfl
theorem c94 {n : Nat} (R : ar A h) (e : A.1 x = ac_c (.inl (6, [.int 0, .int 0, .int 0]))) (hx : 81 ≤ x) (hn : 1 ≤ n) : ∃ A' h', ll_94 (some x) (Int32.ofNat k) (Int32.ofNat o) (Int32.ofNat n) h = rtV h' ∧ ar A' h' ∧ A'.1 x = ac_c (.inl (6, [.int (Int32.ofNat k), .int (Int32.ofNat (100 * o + n)), .int (Int32.ofNat (40 * o + n - 1))])) ∧ st A A' [x] 0 0 ∧ A'.2.1 = A.2.1 := by
  have e1 : ((100 : Int32) * Int32.ofNat o) + Int32.ofNat n = Int32.ofNat (100 * o + n) := by
    rw [show (100 : Int32) * Int32.ofNat o = Int32.ofNat (100 * o) from i32_mul 100 o, i32_add]
  obtain ⟨h1, p1, R1⟩ := aw_P (t := 0) (k := 0) (v := .inl (Int32.ofNat k)) R e hx (by simp) rfl
  obtain ⟨h2, p2, R2⟩ := aw_P (t := 0) (k := 1) (v := .inl (Int32.ofNat (100 * o + n))) R1 ah_set_e hx (by simp) rfl
  rw [ah_ss] at R2
  obtain ⟨h3, p3, R3⟩ := aw_P (t := 0) (k := 2) (v := .inl (Int32.ofNat (40 * o + n - 1))) R2 ah_set_e hx (by simp) rfl
  rw [ah_ss] at R3
  refine ⟨_, h3, ?_, R3, ah_set_e, st_set e, rfl⟩
  unfold ll_94
  rw [if_pos (show (some x).isSome = true from rfl), p1, Option.bind_some, e1, p2, Option.bind_some, c95 hn, rt_I, p3]
  rfl
theorem c98 {y z : Option Nat} {v : Int32} (R : ar A h) (e : A.1 x = ac_c (.inl (8, [.null, .null, .int 0]))) (hx : 81 ≤ x) : ∃ A' h', ll_98 (some x) y z v h = rtV h' ∧ ar A' h' ∧ A'.1 x = ac_c (.inl (8, [tm_r y, tm_r z, .int v])) ∧ st A A' [x] 0 0 ∧ A'.2.1 = A.2.1 := by
  obtain ⟨h1, p1, R1⟩ := aw_P (t := 2) (k := 0) (v := .inr (.inr y)) R e hx (by simp) fit_r
  obtain ⟨h2, p2, R2⟩ := aw_P (t := 2) (k := 1) (v := .inr (.inr z)) R1 ah_set_e hx (by simp) fit_r
  rw [ah_ss] at R2
  obtain ⟨h3, p3, R3⟩ := aw_P (t := 0) (k := 2) (v := .inl v) R2 ah_set_e hx (by simp) rfl
  rw [ah_ss] at R3
  refine ⟨_, h3, ?_, R3, ah_set_e, st_set e, rfl⟩
  unfold ll_98
  rw [if_pos (show (some x).isSome = true from rfl), p1, Option.bind_some, p2, Option.bind_some, p3]
  rfl
theorem c99 {y z v : Option Nat} (R : ar A h) (e : A.1 x = ac_c (.inl (7, fs))) (hx : 81 ≤ x) (hf : fs.length = 12) : ∃ A' h', ll_99 (some x) y z v h = rtV h' ∧ ar A' h' ∧ A'.1 x = ac_c (.inl (7, ((fs.set 5 (tm_r y)).set 6 (tm_r z)).set 7 (tm_r v))) ∧ st A A' [x] 0 0 ∧ A'.2.1 = A.2.1 := by
  obtain ⟨h1, p1, R1⟩ := aw_P (t := 2) (k := 5) (v := .inr (.inr y)) R e hx (by omega) fit_r
  obtain ⟨h2, p2, R2⟩ := aw_P (t := 2) (k := 6) (v := .inr (.inr z)) R1 ah_set_e hx (by rw [List.length_set]; omega) fit_r
  rw [ah_ss] at R2
  obtain ⟨h3, p3, R3⟩ := aw_P (t := 2) (k := 7) (v := .inr (.inr v)) R2 ah_set_e hx (by rw [List.length_set, List.length_set]; omega) fit_r
  rw [ah_ss] at R3
  refine ⟨_, h3, ?_, R3, ah_set_e, st_set e, rfl⟩
  unfold ll_99
  rw [p1, Option.bind_some, p2, Option.bind_some, p3]
  rfl
theorem c160 {y z u v : Option Nat} (R : ar A h) (e : A.1 x = ac_c (.inl (7, fs))) (hx : 81 ≤ x) (hf : fs.length = 12) : ∃ A' h', ll_160 (some x) y z u v h = rtV h' ∧ ar A' h' ∧ A'.1 x = ac_c (.inl (7, (((fs.set 8 (tm_r y)).set 9 (tm_r z)).set 10 (tm_r u)).set 11 (tm_r v))) ∧ st A A' [x] 0 0 ∧ A'.2.1 = A.2.1 := by
  obtain ⟨h1, p1, R1⟩ := aw_P (t := 2) (k := 8) (v := .inr (.inr y)) R e hx (by omega) fit_r
  obtain ⟨h2, p2, R2⟩ := aw_P (t := 2) (k := 9) (v := .inr (.inr z)) R1 ah_set_e hx (by rw [List.length_set]; omega) fit_r
  rw [ah_ss] at R2
  obtain ⟨h3, p3, R3⟩ := aw_P (t := 2) (k := 10) (v := .inr (.inr u)) R2 ah_set_e hx (by rw [List.length_set, List.length_set]; omega) fit_r
  rw [ah_ss] at R3
  obtain ⟨h4, p4, R4⟩ := aw_P (t := 2) (k := 11) (v := .inr (.inr v)) R3 ah_set_e hx (by rw [List.length_set, List.length_set, List.length_set]; omega) fit_r
  rw [ah_ss] at R4
  refine ⟨_, h4, ?_, R4, ah_set_e, st_set e, rfl⟩
  unfold ll_160
  rw [p1, Option.bind_some, p2, Option.bind_some, p3, Option.bind_some, p4]
  rfl
theorem Cf_set {z : pm_C} (C : Cf M A o F) (R : ar A h) (e : A.1 x = ac_c z) (ho : o < 3) (hx : 178 ≤ x) (y : pm_C) : Cf M (ah_set A x (ac_c y)) o F := Cf_st C R (st_set e) (by intro b hb; simp at hb; omega)
theorem c96 (R : ar A h) (C : Cf M A o F) (ho : o < 3) (e : A.1 x = ac_c (.inl (7, [.null, .int 0, .int 0, .int 0, .null, .null, .null, .null, .null, .null, .null, .null]))) (hx : 178 ≤ x) (hn : 145 ≤ A.2.1) : ∃ A' h', ll_96 (some x) (some k) (some (94 + 17 * o)) h = rtV h' ∧ ar A' h' ∧ A'.1 x = ac_c (.inl (7, [.ref k, .int (Int32.ofNat o), .int (Int32.ofNat (fK F o + 1)), .int (Int32.ofNat ((fC F + 1) * 3 + o)), .ref A.2.1, .null, .null, .null, .null, .null, .null, .null])) ∧ A'.1 A.2.1 = ac_c (.inr (0, ra 3 (fun j => .int (Int32.ofNat (fK F j))))) ∧ st A A' [x] 1 3 ∧ A'.2.1 = A.2.1 + 1 := by
  have hlt := ar_lt_c R e
  have CC := Cf_set C R e ho hx
  have n4 : Int32.ofNat (fK F o) + (1 : Int32) = Int32.ofNat (fK F o + 1) := i32_add _ 1
  obtain ⟨h1, p1, R1⟩ := aw_P (t := 2) (k := 0) (v := .inr (.inr (some k))) R e (by omega) (by simp) rfl
  obtain ⟨h2, p2, R2⟩ := aw_P (t := 0) (k := 1) (v := .inl (Int32.ofNat o)) R1 ah_set_e (by omega) (by simp) rfl
  rw [ah_ss] at R2
  obtain ⟨h3, p3, R3⟩ := aw_P (t := 0) (k := 2) (v := .inl (Int32.ofNat (fK F o + 1))) R2 ah_set_e (by omega) (by simp) rfl
  rw [ah_ss] at R3
  obtain ⟨h4, p4, R4⟩ := aw_P (t := 0) (k := 3) (v := .inl (Int32.ofNat ((fC F + 1) * 3 + o))) R3 ah_set_e (by omega) (by simp) rfl
  rw [ah_ss] at R4
  have hl4 : h4.1.length = A.2.1 := by have z := ar_len R4; exact z
  have p5 := aw_cl R4 (CC _).2.1 (by omega) rfl
  rw [ra_len] at p5
  have R5 := ar_n R4 (.inr (0, ra 3 (fun j => .int (Int32.ofNat (fK F j))))) 3
  have e5 := (ah_new_n (A := ah_set A x (ac_c (.inl (7, [.ref k, .int (Int32.ofNat o), .int (Int32.ofNat (fK F o + 1)), .int (Int32.ofNat ((fC F + 1) * 3 + o)), .null, .null, .null, .null, .null, .null, .null, .null])))) (b := x) (k := 3) (y := ac_c (.inr (0, ra 3 (fun j => .int (Int32.ofNat (fK F j)))))) (show x ≠ A.2.1 by omega)).trans ah_set_e
  have hcc : lf_cc 81 (h4.1 ++ [.inr (0, ra 3 (fun j => .int (Int32.ofNat (fK F j))))], h4.2 + 3) (some h4.1.length) [1000] = true := by
    unfold lf_cc
    dsimp only
    rw [hn_eq (n := 0)]
    simp
    omega
  obtain ⟨h6, p6, R6⟩ := aw_P (t := 2) (k := 4) (v := .inr (.inr (some h4.1.length))) R5 e5 (by omega) (by simp) rfl
  have s := st_trans (st_set (y := .inl (7, [.ref k, .int (Int32.ofNat o), .int (Int32.ofNat (fK F o + 1)), .int (Int32.ofNat ((fC F + 1) * 3 + o)), .null, .null, .null, .null, .null, .null, .null, .null])) e) (st_trans (st_new R4 hn (.inr (0, ra 3 (fun j => .int (Int32.ofNat (fK F j))))) 3) (st_set (y := .inl (7, [.ref k, .int (Int32.ofNat o), .int (Int32.ofNat (fK F o + 1)), .int (Int32.ofNat ((fC F + 1) * 3 + o)), .ref h4.1.length, .null, .null, .null, .null, .null, .null, .null])) e5))
  refine ⟨_, h6, ?_, R6, ?_, ?_, st_w s (by intro b hb; simpa using hb) (Nat.le_refl _) (Nat.le_refl _), rfl⟩
  · unfold ll_96
    rw [if_pos (show (some x).isSome = true from rfl), p1, Option.bind_some, hc_I (ar_c R1 (CC _).1) rfl, Option.bind_some, p2, Option.bind_some, if_pos (hc_lc (ar_c R2 (CC _).1)), c92 R2 (CC _) ho, rt_I, n4, p3, Option.bind_some, if_pos (hc_lc (ar_c R3 (CC _).1)), c97 R3 (CC _), rt_I, p4, Option.bind_some, hc_R (o := some (94 + 17 * o + 1)) (ar_c R4 (CC _).1) rfl, Option.bind_some, p5, Option.bind_some, if_pos hcc, p6]
    rfl
  · rw [ah_set_e, hl4]
    rfl
  · rw [ah_set_n (by omega)]
    exact ah_new_e
theorem c96n (R : ar A h) (C : Cf M A o F) (ho : o < 3) (hn : 178 ≤ A.2.1) : ∃ A' h', ll_96 (some h.1.length) (some k) (some (94 + 17 * o)) (lf_new h 7 12 [.null, .int 0, .int 0, .int 0, .null, .null, .null, .null, .null, .null, .null, .null]) = rtV h' ∧ ar A' h' ∧ A'.1 A.2.1 = ac_c (.inl (7, [.ref k, .int (Int32.ofNat o), .int (Int32.ofNat (fK F o + 1)), .int (Int32.ofNat ((fC F + 1) * 3 + o)), .ref (A.2.1 + 1), .null, .null, .null, .null, .null, .null, .null])) ∧ A'.1 (A.2.1 + 1) = ac_c (.inr (0, ra 3 (fun j => .int (Int32.ofNat (fK F j))))) ∧ st A A' [] 2 15 ∧ A'.2.1 = A.2.1 + 2 := by
  have hl := ar_len R
  have R0 := ar_n R (.inl (7, [.null, .int 0, .int 0, .int 0, .null, .null, .null, .null, .null, .null, .null, .null])) 12
  have s0 := st_new R (show 145 ≤ A.2.1 by omega) (.inl (7, [.null, .int 0, .int 0, .int 0, .null, .null, .null, .null, .null, .null, .null, .null])) 12
  have C0 := Cf_st C R s0 (by intro x hx; cases hx)
  obtain ⟨A', h', p1, p2, p3, p4, p5, p6⟩ := c96 (k := k) (x := A.2.1) R0 C0 ho ah_new_e hn (show 145 ≤ A.2.1 + 1 by omega)
  rw [hl]
  exact ⟨A', h', p1, p2, p3, p4, st_hi (st_trans s0 p5 :) (by intro y hy; simp at hy; omega), p6⟩
/-! one more act -/
def Mag (M M' : aM) (D : aD) : Prop := ∀ q j, AN D j → M' q j = M q j
def mN (M : aM) (i : Nat) (N : Nat → Nat) : aM := fun q => up (M q) i (N q)
theorem mag_l (g : Mag M M' D) {q : Nat} {L : List Nat} (hL : ∀ x ∈ L, AN D x) : L.map (M' q) = L.map (M q) := List.map_congr_left (fun x hx => g q x (hL x hx))
theorem mag_o (g : Mag M M' D) {q : Nat} {y : Option Nat} (hy : ∀ i, y = some i → AN D i) : y.map (M' q) = y.map (M q) := by
  cases y with
  | none => rfl
  | some i => rw [Option.map_some, Option.map_some, g q i (hy i rfl)]
theorem Cx_M (g : Mag M M' D) (Wxx : Wx D X) (C : Cx M A c X) : Cx M' A c X := by
  obtain ⟨c0, ⟨cap1, c1⟩, ⟨cap2, c2⟩, c3, c4, c5⟩ := C
  refine ⟨c0, ⟨cap1, by rw [mag_l g (fun x hx => PN_AN (Wxx.1 x hx))]; exact c1⟩, ⟨cap2, by rw [mag_l g (fun x hx => LN_AN (Wxx.2.1 x hx))]; exact c2⟩, ?_, ?_, c5⟩
  · have e : (fun l => tm_r ((xP X l).map (M' 0))) = (fun l => tm_r ((xP X l).map (M 0))) := funext fun l => by rw [mag_o g (Wxx.2.2.1 l)]
    rw [e]; exact c3
  · have e : (fun l => tm_r ((xB X l).map (M' 0))) = (fun l => tm_r ((xB X l).map (M 0))) := funext fun l => by rw [mag_o g (Wxx.2.2.2.1 l)]
    rw [e]; exact c4
theorem Cf_M (g : Mag M M' D) (Wff : Wf D o F) (C : Cf M A o F) : Cf M' A o F := by
  obtain ⟨c0, c1, c2, c3, ⟨cap, c4⟩, c5⟩ := C
  obtain ⟨w1, w2, w3, w4, w5, w6, w7⟩ := Wff
  refine ⟨c0, c1, ?_, c3, ⟨cap, ?_⟩, fun k hk => Cx_M g (w7 k hk) (c5 k hk)⟩
  · have e : (fun i => tm_r (if fA F i = true then some (M' 0 i) else none)) = (fun i => tm_r (if fA F i = true then some (M 0 i) else none)) := funext fun i => by
      by_cases q : fA F i = true
      · rw [if_pos q, if_pos q, g 0 i (w3 i q)]
      · rw [if_neg q, if_neg q]
    rw [e]; exact c2
  · rw [mag_l g (fun x hx => ⟨(w4 x hx).choose, (w4 x hx).choose_spec.1⟩)]; exact c4
theorem mN_mag {N : Nat → Nat} (hD : D i = none) : Mag M (mN M i N) D := by
  intro q j ⟨r, hr⟩
  have : j ≠ i := by intro z; rw [z, hD] at hr; cases hr
  exact up_n this
theorem ceA_M (g : Mag M M' D) (W : Wd D) (hi : D i = some r) : ceA M' i r = ceA M i r := by
  have w1 := W i r hi
  unfold ceA
  rw [g 3 i ⟨r, hi⟩, mag_o g (fun x hx => LN_AN (w1.2.2.2.2.2.1 x hx)), mag_o g (fun x hx => PN_AN (w1.2.2.2.2.2.2.1 x hx)), mag_o g (fun x hx => PN_AN (w1.2.2.2.2.2.2.2.1 x hx)), mag_o g (fun x hx => LN_AN (w1.2.2.2.2.2.2.2.2.2.1 x hx)), mag_o g (fun x hx => LN_AN (w1.2.2.2.2.2.2.2.2.2.2.1 x hx))]
theorem ceP_M (g : Mag M M' D) (W : Wd D) (hi : D i = some r) : ceP M' r = ceP M r := by
  have w1 := W i r hi
  unfold ceP
  rw [mag_o g (fun x hx => LN_AN (w1.2.2.2.2.2.1 x hx)), mag_o g (fun x hx => PN_AN (w1.2.2.2.2.2.2.2.2.1 x hx))]
theorem Cd_new {N : Nat → Nat} (V : Cd M A D) (W : Wd D) (R : ar A h) (s : st A A' [] k j) (hD : D i = none) (h178 : 178 ≤ A.2.1) (hN : ∀ q, A.2.1 ≤ N q ∧ N q < A'.2.1) (c0 : A'.1 (N 0) = ac_c (ceA (mN M i N) i r)) (c3 : A'.1 (N 3) = ac_c (ceH r)) (c1 : rk r = 1 → A'.1 (N 1) = ac_c (ceL i r)) (c2 : rk r ≤ 2 → A'.1 (N 2) = ac_c (ceP (mN M i N) r)) : Cd (mN M i N) A' (up D i (some r)) := by
  have g : Mag M (mN M i N) D := mN_mag hD
  have hi : ∀ q, mN M i N q i = N q := fun q => up_e
  have hj : ∀ q j, j ≠ i → mN M i N q j = M q j := fun q j z => up_n z
  constructor
  · intro j q hq
    by_cases z : j = i
    · subst z
      rw [up_e] at hq
      cases hq
      rw [hi, hi, hi, hi]
      exact ⟨c0, c3, c1, c2, fun q => by rw [hi]; exact ⟨Nat.le_trans h178 (hN q).1, (hN q).2⟩⟩
    · rw [up_n z] at hq
      obtain ⟨v1, v2, v3, v4, v5⟩ := V.1 j q hq
      rw [hj _ _ z, hj _ _ z, hj _ _ z, hj _ _ z, ceA_M g W hq, ceP_M g W hq]
      refine ⟨st_c s R v1 (by intro q; cases q) (by simp), st_c s R v2 (by intro q; cases q) (by simp), fun q => st_c s R (v3 q) (by intro q; cases q) (by simp), fun q => st_c s R (v4 q) (by intro q; cases q) (by simp), fun q => ?_⟩
      rw [hj _ _ z]
      exact ⟨(v5 q).1, Nat.lt_of_lt_of_le (v5 q).2 s.1⟩
  · intro q x y ⟨rx, hx⟩ ⟨ry, hy⟩ e
    by_cases zx : x = i
    · by_cases zy : y = i
      · rw [zx, zy]
      · rw [up_n zy] at hy
        rw [zx, hi, hj _ _ zy] at e
        have h1 := ((V.1 y ry hy).2.2.2.2 q).2
        have h2 := (hN q).1
        omega
    · rw [up_n zx] at hx
      by_cases zy : y = i
      · rw [zy, hi, hj _ _ zx] at e
        have h1 := ((V.1 x rx hx).2.2.2.2 q).2
        have h2 := (hN q).1
        omega
      · rw [up_n zy] at hy
        rw [hj _ _ zx, hj _ _ zy] at e
        exact V.2 q x y ⟨rx, hx⟩ ⟨ry, hy⟩ e
theorem up_D (hD : D i = none) {q : rc} (hj : D j = some q) : up D i (some r) j = some q := by
  have : j ≠ i := by intro z; rw [z, hD] at hj; cases hj
  rw [up_n this]
  exact hj
theorem LN_up (hD : D i = none) (hl : LN D l) : LN (up D i (some r)) l := by
  obtain ⟨q, h1, h2⟩ := hl
  exact ⟨q, up_D hD h1, h2⟩
theorem PN_up (hD : D i = none) (hl : PN D l) : PN (up D i (some r)) l := by
  obtain ⟨q, h1, h2⟩ := hl
  exact ⟨q, up_D hD h1, h2⟩
theorem AN_up (hD : D i = none) (hl : AN D l) : AN (up D i (some r)) l := by
  obtain ⟨q, h1⟩ := hl
  exact ⟨q, up_D hD h1⟩
theorem Wx_up (hD : D i = none) (Wxx : Wx D X) : Wx (up D i (some r)) X := ⟨fun p hp => PN_up hD (Wxx.1 p hp), fun l hl => LN_up hD (Wxx.2.1 l hl), fun l x e => AN_up hD (Wxx.2.2.1 l x e), fun l x e => AN_up hD (Wxx.2.2.2.1 l x e), Wxx.2.2.2.2⟩
theorem Wf_up (hD : D i = none) (Wff : Wf D o F) : Wf (up D i (some r)) o F := by
  obtain ⟨w1, w2, w3, w4, w5, w6, w7⟩ := Wff
  exact ⟨w1, w2, fun x hx => AN_up hD (w3 x hx), fun x hx => by
    obtain ⟨q, h1, h2⟩ := w4 x hx
    exact ⟨q, up_D hD h1, h2⟩, w5, w6, fun k hk => Wx_up hD (w7 k hk)⟩
theorem Wd_up (hD : D i = none) (W : Wd D) (hn : i < 120 ∧ 1 ≤ rk r ∧ rk r ≤ 6 ∧ rst r < 400 ∧ (∀ j, rpa r j < 1000) ∧ (∀ l, rl r = some l → LN (up D i (some r)) l) ∧ (∀ p, rpl r = some p → PN (up D i (some r)) p) ∧ (∀ p, rpb r = some p → PN (up D i (some r)) p) ∧ (∀ p, raf r = some p → PN (up D i (some r)) p) ∧ (∀ l, rrw r = some l → LN (up D i (some r)) l) ∧ (∀ l, rcl r = some l → LN (up D i (some r)) l) ∧ (rk r ≠ 6 → ∃ l, rl r = some l) ∧ (rk r = 6 → ∃ l m, rrw r = some l ∧ rcl r = some m) ∧ (rk r = 1 → rl r = some i ∧ rlk r < 2) ∧ (rk r ≤ 2 → rpl r = some i)) : Wd (up D i (some r)) := by
  intro x q hq
  by_cases z : x = i
  · subst z
    rw [up_e] at hq
    cases hq
    exact hn
  · rw [up_n z] at hq
    obtain ⟨a1, a2, a3, a4, a5, a6, a7, a8, a9, b1, b2, b3, b4, b5, b6⟩ := W x q hq
    exact ⟨a1, a2, a3, a4, a5, fun l e => LN_up hD (a6 l e), fun l e => PN_up hD (a7 l e), fun l e => PN_up hD (a8 l e), fun l e => PN_up hD (a9 l e), fun l e => LN_up hD (b1 l e), fun l e => LN_up hD (b2 l e), b3, b4, b5, b6⟩
/-- a made act is taken -/
theorem mkT {N : Nat → Nat} (R : ar A h) (B : Cb A) (C : Cf M A o F) (Wff : Wf D o F) (R1 : ar A1 h1) (s : st A A1 [] k j) (hD : D i = none) (V1 : Cd (mN M i N) A1 (up D i (some r))) (W1 : Wd (up D i (some r))) (hl6 : rk r = 6 → (fW F).length < 120) (hl2 : rk r ≤ 2 → ∀ k, k < 2 → (xO (fX F k)).length < 120) : ∃ A' h', lc_of h1 (some (94 + 17 * o)) = some 4 ∧ ll_100 w (some (94 + 17 * o)) (some (N 0)) h1 = rtV h' ∧ ar A' h' ∧ Cd (mN M i N) A' (up D i (some r)) ∧ Cf (mN M i N) A' o (tkF (up D i (some r)) F i) ∧ st A A' (blk o) k j := by
  have ho := Wff.1
  have C1 := Cf_M (mN_mag (N := N) hD) Wff (Cf_st C R s (by intro x hx; cases hx))
  have e0 : mN M i N 0 i = N 0 := up_e
  have hi : up D i (some r) i = some r := up_e
  obtain ⟨A', h', p1, p2, p3, p4⟩ := c100 (w := w) R1 (Cb_st B R s (by intro x hx; cases hx)) C1 V1 W1 (Wf_up hD Wff) hi hl6 (fun q => by
    refine hl2 q _ ?_
    obtain ⟨l, hl⟩ := (W1 i r hi).2.2.2.2.2.2.2.2.2.2.2.1 (by omega)
    have el : lnp (up D i (some r)) i = l := by unfold lnp; rw [hi, Option.bind_some, hl]; rfl
    rw [el]
    exact LN_k W1 ((W1 i r hi).2.2.2.2.2.1 l hl))
  rw [e0] at p1
  exact ⟨A', h', hc_lc (ar_c R1 C1.1), p1, p2, Cd_st V1 R1 p4 (by intro x hx; rw [blk_m] at hx; omega), p3, st_w (st_trans s p4) (by simp) (Nat.le_refl _) (Nat.le_refl _)⟩
end MK
