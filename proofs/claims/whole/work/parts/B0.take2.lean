/-! TAKING an act, whole -/
def blk (o : Nat) : List Nat := (List.range 17).map (fun q => 94 + 17 * o + q)
theorem blk_m {o x : Nat} : x ∈ blk o ↔ 94 + 17 * o ≤ x ∧ x ≤ 94 + 17 * o + 16 := by
  unfold blk
  rw [List.mem_map]
  constructor
  · rintro ⟨q, h1, h2⟩
    have := List.mem_range.mp h1
    omega
  · intro ⟨h1, h2⟩
    exact ⟨x - (94 + 17 * o), List.mem_range.mpr (by omega), by omega⟩
theorem i32_div3 {n : Nat} (hn : n < 1000) : Int32.ofNat n / (3 : Int32) = Int32.ofNat (n / 3) := by
  have key : (List.range 1000).all (fun n => decide (Int32.ofNat n / (3 : Int32) = Int32.ofNat (n / 3))) = true := by decide +kernel
  exact of_decide_eq_true (List.all_eq_true.mp key n (List.mem_range.mpr hn))
section TK2
variable {A A' : ah} {h : pm_H} {M : aM} {D : aD} {X : ax} {F : fo} {c o i j l p k : Nat} {r : rc} {a : Int32} {w : Option Nat} {Y : List Nat}
theorem id40 (i : Nat) : 40 * (i / 40) + (i % 40 + 1) - 1 = i := by omega
theorem LN_k (W : Wd D) (hl : LN D l) : lkd D l < 2 := by
  obtain ⟨r, h1, h2⟩ := hl
  unfold lkd
  rw [h1]
  exact ((W l r h1).2.2.2.2.2.2.2.2.2.2.2.2.2.1 h2).2
theorem upb {f : Nat → Bool} {g : Nat → Nat} : (fun l' => tm_r (if up f i true l' = true then some (g l') else none)) = up (fun l' => tm_r (if f l' = true then some (g l') else none)) i (.ref (g i)) := by
  funext b
  unfold up
  by_cases q : b = i
  · subst q
    rw [if_pos rfl, if_pos rfl, if_pos rfl]; rfl
  · rw [if_neg q, if_neg q]
theorem upi {f : Nat → Nat} {n : Nat} : (fun l' => Value.int (Int32.ofNat (up f i n l'))) = up (fun l' => Value.int (Int32.ofNat (f l'))) i (.int (Int32.ofNat n)) := by
  funext b
  unfold up
  by_cases q : b = i
  · rw [if_pos q, if_pos q]
  · rw [if_neg q, if_neg q]
/-- before it is learnt -/
theorem c100a (R : ar A h) (C : Cf M A o F) (V : Cd M A D) (W : Wd D) (ho : o < 3) (hC : fC F < 1000) (hi : D i = some r) : ∃ A' h1 h2 h3, la_S pt_P h .aastore (some (94 + 17 * o + 2)) (Int32.ofNat i) (.inr (.inr (some (M 0 i)))) = some h1 ∧ lf_R h1 (some (94 + 17 * o)) [4, 1] = some (some (94 + 17 * o + 1)) ∧ lf_I h1 (some (M 0 i)) [7, 1] = some (Int32.ofNat (i / 40)) ∧ lf_I h1 (some (M 0 i)) [7, 2] = some (Int32.ofNat (i % 40 + 1)) ∧ la_S pt_P h1 .iastore (some (94 + 17 * o + 1)) (Int32.ofNat (i / 40)) (.inl (Int32.ofNat (i % 40 + 1))) = some h2 ∧ lf_I h2 (some (94 + 17 * o)) [4, 5] = some (Int32.ofNat (fC F)) ∧ lf_I h2 (some (M 0 i)) [7, 3] = some (Int32.ofNat (rst r)) ∧ lf_P 81 h2 (some (94 + 17 * o)) [0, 4, 5] (.inl (Int32.ofNat (max (fC F) (stp D i / 3)))) = some h3 ∧ ar A' h3 ∧ Cf M A' o (tk1 D F i) ∧ st A A' [94 + 17 * o + 2, 94 + 17 * o + 1, 94 + 17 * o] 0 0 := by
  obtain ⟨c0, c1, c2, c3, ⟨cap, c4⟩, c5⟩ := C
  have w1 := W i r hi
  obtain ⟨h1, p1, R1⟩ := aw_Sr (i := .aastore) (j := i) (v := .inr (.inr (some (M 0 i)))) (w := .ref (M 0 i)) R c2 (by omega) w1.1 (by omega) (nar_act R (V.1 i r hi).1)
  rw [← upb] at R1
  have s1 := st_set (y := .inr (11, ra 120 (fun l' => tm_r (if up (fA F) i true l' = true then some (M 0 l') else none)))) c2
  have c0a := st_c s1 R c0 (by intro q; cases q) (by simp)
  have c1a := st_c s1 R c1 (by intro q; cases q) (by simp)
  have V1 := Cd_st V R s1 (by intro x hx; simp at hx; omega)
  obtain ⟨h2, p2, R2⟩ := aw_Sr (i := .iastore) (j := i / 40) (v := .inl (Int32.ofNat (i % 40 + 1))) (w := .int (Int32.ofNat (i % 40 + 1))) R1 c1a (by omega) (by omega) (by omega) rfl
  rw [← upi] at R2
  have s2 := st_set (y := .inr (0, ra 3 (fun l' => Value.int (Int32.ofNat (up (fK F) (i / 40) (i % 40 + 1) l'))))) c1a
  have c0b := st_c s2 R1 c0a (by intro q; cases q) (by simp)
  have V2 := Cd_st V1 R1 s2 (by intro x hx; simp at hx; omega)
  obtain ⟨h3, p3, R3⟩ := aw_P (t := 0) (k := 5) (v := .inl (Int32.ofNat (max (fC F) (stp D i / 3)))) R2 c0b (by omega) (by simp) rfl
  have s3 := st_set (y := .inl (4, [.int (Int32.ofNat o), .ref (94 + 17 * o + 1), .ref (94 + 17 * o + 2), .ref (94 + 17 * o + 3), .ref (94 + 17 * o + 4), .int (Int32.ofNat (max (fC F) (stp D i / 3)))])) c0b
  have s : st A _ [94 + 17 * o + 2, 94 + 17 * o + 1, 94 + 17 * o] 0 0 := st_w (st_trans (st_trans s1 s2) s3) (by intro b hb; simpa using hb) (Nat.le_refl _) (Nat.le_refl _)
  refine ⟨_, h1, h2, h3, p1, hc_R (o := some (94 + 17 * o + 1)) (ar_c R1 c0a) rfl, hc_I (ar_c R1 (V1.1 i r hi).1) rfl, hc_I (ar_c R1 (V1.1 i r hi).1) rfl, p2, hc_I (ar_c R2 c0b) rfl, hc_I (ar_c R2 (V2.1 i r hi).1) rfl, p3, R3, ⟨ah_set_e, ?_, ?_, st_c s R c3 (by intro q; cases q) (by simp), ⟨cap, st_c s R c4 (by intro q; cases q) (by simp)⟩, fun k hk => Cx_st (c5 k hk) R s (by intro x hx; simp at hx; omega)⟩, s⟩
  · exact st_c s3 R2 ah_set_e (by intro q; cases q) (by simp)
  · exact st_c s3 R2 (st_c s2 R1 ah_set_e (by intro q; cases q) (by simp)) (by intro q; cases q) (by simp)
theorem c100 (R : ar A h) (B : Cb A) (C : Cf M A o F) (V : Cd M A D) (W : Wd D) (Wff : Wf D o F) (hi : D i = some r) (hl6 : rk r = 6 → (fW F).length < 120) (hl2 : rk r ≤ 2 → (xO (fX F (lkd D (lnp D i)))).length < 120) : ∃ A' h', ll_100 w (some (94 + 17 * o)) (some (M 0 i)) h = rtV h' ∧ ar A' h' ∧ Cf M A' o (tkF D F i) ∧ st A A' (blk o) 0 0 := by
  obtain ⟨ho, -, -, hW, -, hC, hX⟩ := Wff
  have w1 := W i r hi
  have hst : stp D i < 1000 := by rw [stp_e hi]; exact Nat.lt_trans w1.2.2.2.1 (by omega)
  obtain ⟨A1, h1, h2, h3, p1, p2, p3, p4, p5, p6, p7, p8, R3, C3, s3⟩ := c100a R C V W ho hC hi
  have V3 := Cd_st V R s3 (by intro x hx; simp at hx; omega)
  have B3 := Cb_st B R s3 (by intro x hx; simp at hx; omega)
  have hA := ar_c R (V.1 i r hi).1
  unfold ll_100
  rw [hc_R (o := some (94 + 17 * o + 2)) (ar_c R C.1) rfl, Option.bind_some, hc_I hA rfl, Option.bind_some, hc_I hA rfl, Option.bind_some, c95 (by omega), rt_I, id40, p1, Option.bind_some, p2, Option.bind_some, p3, Option.bind_some, p4, Option.bind_some, p5, Option.bind_some, p6, Option.bind_some, p7, Option.bind_some, ← stp_e hi, i32_div3 hst, c24 (by omega) (by omega), rt_I, p8, Option.bind_some, (act_k R3 V3 B3 W hi).1, Option.bind_some, acmA (idn_k w1.2.1 (by omega)) (idn_k (by omega) (by omega))]
  by_cases q : rk r = 6
  · rw [if_pos (by rw [q]), if_pos (hc_lc (ar_c R3 C3.1))]
    obtain ⟨A', h', g1, g2, ⟨cap, g3⟩, g4⟩ := c101l R3 C3 V3 W ho hW hi q (hl6 q) lf_N 0 (Nat.zero_le _) (by have := hl6 q; show (fW F).length - 0 < lf_N; unfold lf_N; omega)
    refine ⟨A', h', ?_, g2, ?_, st_w (st_trans s3 g4) (by intro x hx; rw [blk_m]; simp at hx; omega) (Nat.le_refl _) (Nat.le_refl _)⟩
    · have e : ll_101 (some (94 + 17 * o)) (some (M 0 i)) h3 = rtV h' := g1
      rw [e]
      rfl
    · have e : tkF D F i = (up (fK F) (i / 40) (i % 40 + 1), up (fA F) i true, wrs D i (fW F), max (fC F) (stp D i / 3), fX F) := if_pos (by rw [knd_e hi]; exact q)
      rw [e]
      obtain ⟨d0, d1, d2, d3, -, d5⟩ := C3
      exact ⟨st_c g4 R3 d0 (by intro q; cases q) (by simp), st_c g4 R3 d1 (by intro q; cases q) (by simp), st_c g4 R3 d2 (by intro q; cases q) (by simp), st_c g4 R3 d3 (by intro q; cases q) (by simp), ⟨cap, g3⟩, fun k hk => Cx_st (d5 k hk) R3 g4 (by intro x hx; simp at hx; omega)⟩
  · obtain ⟨l, hl⟩ := w1.2.2.2.2.2.2.2.2.2.2.2.1 q
    have hLN := w1.2.2.2.2.2.1 l hl
    have el : lnp D i = l := by unfold lnp; rw [hi, Option.bind_some, hl]; rfl
    have hk2 := LN_k W hLN
    obtain ⟨rr, hr1, hr2, hr6⟩ := LN_c V3 hLN
    have hR : lf_R h3 (some (M 0 i)) [7, 5] = some (some (M 1 l)) := by
      have := hc_R (k := 5) (o := (rl r).map (M 1)) (ar_c R3 (V3.1 i r hi).1) rfl
      rw [hl] at this
      exact this
    have hlk : lf_I h3 (some (M 1 l)) [6, 0] = some (Int32.ofNat (lkd D l)) := by
      unfold lkd
      rw [hr1]
      exact hc_I (ar_c R3 hr6) rfl
    obtain ⟨d0, d1, d2, d3, ⟨cap, d4⟩, d5⟩ := C3
    rw [el] at hl2
    obtain ⟨A', h', g1, g2, g3, g4⟩ := c111 (w := w) R3 (by omega) (by omega) B3 (d5 _ hk2) V3 W (hX _ hk2) hi q hl2
    refine ⟨A', h', ?_, g2, ?_, st_w (st_trans s3 g4) (by intro x hx; rw [blk_m]; simp at hx; omega) (Nat.le_refl _) (Nat.le_refl _)⟩
    · rw [if_neg (fun z => q (Option.some.inj z)), hc_R (o := some (94 + 17 * o + 3)) (ar_c R3 d0) rfl, Option.bind_some, hR, Option.bind_some, hlk, Option.bind_some, hc_ldR (o := some (94 + 17 * o + 5 + 6 * lkd D l)) (ar_c R3 d3) rfl (by omega) (ra_get hk2), Option.bind_some, if_pos (hc_lc (ar_c R3 (d5 _ hk2).1)), g1]
      rfl
    · have e : tkF D F i = (up (fK F) (i / 40) (i % 40 + 1), up (fA F) i true, fW F, max (fC F) (stp D i / 3), up (fX F) (lkd D l) (lrn D (fX F (lkd D l)) i)) := by
        unfold tkF
        rw [if_neg (by rw [knd_e hi]; exact q), el]
      rw [e]
      refine ⟨st_c g4 R3 d0 (by intro q; cases q) (by simp; omega), st_c g4 R3 d1 (by intro q; cases q) (by simp; omega), st_c g4 R3 d2 (by intro q; cases q) (by simp; omega), st_c g4 R3 d3 (by intro q; cases q) (by simp; omega), ⟨cap, st_c g4 R3 d4 (by intro q; cases q) (by simp; omega)⟩, fun k hk => ?_⟩
      by_cases z : k = lkd D l
      · subst z
        show Cx M A' _ (up (fX F) (lkd D l) (lrn D (fX F (lkd D l)) i) (lkd D l))
        rw [up_e]
        exact g3
      · show Cx M A' _ (up (fX F) (lkd D l) (lrn D (fX F (lkd D l)) i) k)
        rw [up_n z]
        exact Cx_st (d5 k hk) R3 g4 (by intro x hx; simp at hx; omega)
end TK2
