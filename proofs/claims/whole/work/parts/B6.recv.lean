/-! RECEIVING: ready acts, those that waited -/
def rdy (D : aD) (F : fo) (i : Nat) : Bool := decide ((D i).elim 0 (fun r => rpa r 0) ≤ fK F 0) && (decide ((D i).elim 0 (fun r => rpa r 1) ≤ fK F 1) && decide ((D i).elim 0 (fun r => rpa r 2) ≤ fK F 2))
def cnd (D : aD) (F : fo) (m : Nat) : Bool := decide (fK F m < 40) && (fA F (40 * m + fK F m) && rdy D F (40 * m + fK F m))
def fsr (D : aD) (F : fo) : Option Nat := if cnd D F 0 = true then some (40 * 0 + fK F 0) else if cnd D F 1 = true then some (40 * 1 + fK F 1) else if cnd D F 2 = true then some (40 * 2 + fK F 2) else none
def tkW (D : aD) : Nat → fo → fo
  | 0, F => F
  | n + 1, F => match fsr D F with
    | none => F
    | some i => tkW D n (tkF D F i)
def rcA (F : fo) (i : Nat) : fo := (fK F, up (fA F) i true, fW F, fC F, fX F)
/-- what an office is when an act came, and what it says -/
def rcv (D : aD) (F : fo) (i : Nat) : Nat × fo := if fA F i = true then (0, F) else if rdy D F i = true then (1, tkW D 120 (tkF D (rcA F i) i)) else (2, rcA F i)
/-- an act that waits or is next is the next of its maker -/
def WR (D : aD) : Prop := ∀ i r, D i = some r → rpa r (i / 40) = i % 40
theorem rdy_le {D : aD} {F : fo} {i : Nat} {r : rc} (hi : D i = some r) (h : rdy D F i = true) : ∀ j, j < 3 → rpa r j ≤ fK F j := by
  unfold rdy at h
  rw [hi] at h
  have h2 := Bool.and_eq_true_iff.mp h
  have h3 := Bool.and_eq_true_iff.mp h2.2
  have g0 : rpa r 0 ≤ fK F 0 := of_decide_eq_true h2.1
  have g1 : rpa r 1 ≤ fK F 1 := of_decide_eq_true h3.1
  have g2 : rpa r 2 ≤ fK F 2 := of_decide_eq_true h3.2
  intro j hj
  have h3 : j = 0 ∨ j = 1 ∨ j = 2 := by omega
  rcases h3 with e | e | e
  · rw [e]; exact g0
  · rw [e]; exact g1
  · rw [e]; exact g2
theorem rdy_of {D : aD} {F : fo} {i : Nat} {r : rc} (hi : D i = some r) (h : ∀ j, j < 3 → rpa r j ≤ fK F j) : rdy D F i = true := by
  unfold rdy
  rw [hi]
  exact Bool.and_eq_true_iff.mpr ⟨decide_eq_true (h 0 (by omega)), Bool.and_eq_true_iff.mpr ⟨decide_eq_true (h 1 (by omega)), decide_eq_true (h 2 (by omega))⟩⟩
section RV
variable {A A' A1 : ah} {h h1 : pm_H} {M M' : aM} {D : aD} {X : ax} {F : fo} {c o i j l p k x y z kd : Nat} {r : rc} {a : Int32} {w : Option Nat} {q ct : Option Nat}
theorem c171s (R : ar A h) (C : Cf M A o F) (V : Cd M A D) (W : Wd D) (Wff : Wf D o F) (hi : D i = some r) {n : Nat} (hj : j < 3) : l171_2 (n + 1) (some (94 + 17 * o)) (some (M 0 i)) (Int32.ofNat j) h = if rpa r j ≤ fK F j then l171_2 n (some (94 + 17 * o)) (some (M 0 i)) (Int32.ofNat (j + 1)) h else rtI 0 h := by
  have v := V.1 i r hi
  have w1 := W i r hi
  have n4 : Int32.ofNat j + (1 : Int32) = Int32.ofNat (j + 1) := i32_add j 1
  have hK := Wff.2.1 j
  have hp := w1.2.2.2.2.1 j
  have e3 : la_I h .iaload (some (M 3 i)) (Int32.ofNat j) = some (Int32.ofNat (rpa r j)) := hc_ldI (ar_c R v.2.1) rfl (by omega) (ra_get hj)
  rw [l171_2]
  dsimp only
  rw [if_neg (show ¬ (3 : Int32) ≤ Int32.ofNat j from fun z => by have := (i32_len (a := 3) (by omega) (by omega)).mp z; omega), hc_R (o := some (M 3 i)) (ar_c R v.1) rfl, Option.bind_some, e3, Option.bind_some, hc_R (o := some (94 + 17 * o + 1)) (ar_c R C.1) rfl, Option.bind_some, hc_ldI (ar_c R C.2.1) rfl (by omega) (ra_get hj), Option.bind_some, n4]
  by_cases z : rpa r j ≤ fK F j
  · rw [if_pos ((i32_len (by omega) (by omega)).mpr z), if_pos z]
  · rw [if_neg (fun y => z ((i32_len (by omega) (by omega)).mp y)), if_neg z]
theorem c171 (R : ar A h) (C : Cf M A o F) (V : Cd M A D) (W : Wd D) (Wff : Wf D o F) (hi : D i = some r) : ll_171 (some (94 + 17 * o)) (some (M 0 i)) h = rtI (if rdy D F i = true then 1 else 0) h := by
  have e : ll_171 (some (94 + 17 * o)) (some (M 0 i)) h = l171_2 (19996 + 1 + 1 + 1 + 1) (some (94 + 17 * o)) (some (M 0 i)) (Int32.ofNat 0) h := rfl
  have e3 : l171_2 (19996 + 1) (some (94 + 17 * o)) (some (M 0 i)) (Int32.ofNat 3) h = rtI 1 h := by
    rw [l171_2]
    dsimp only
    rw [if_pos (by decide)]
  rw [e, c171s R C V W Wff hi (by omega), c171s R C V W Wff hi (by omega), c171s R C V W Wff hi (by omega), e3]
  unfold rdy
  rw [hi]
  show (if rpa r 0 ≤ fK F 0 then if rpa r 1 ≤ fK F 1 then if rpa r 2 ≤ fK F 2 then rtI 1 h else rtI 0 h else rtI 0 h else rtI 0 h) = rtI (if (decide (rpa r 0 ≤ fK F 0) && (decide (rpa r 1 ≤ fK F 1) && decide (rpa r 2 ≤ fK F 2))) = true then 1 else 0) h
  by_cases z0 : rpa r 0 ≤ fK F 0
  · by_cases z1 : rpa r 1 ≤ fK F 1
    · by_cases z2 : rpa r 2 ≤ fK F 2
      · rw [if_pos z0, if_pos z1, if_pos z2, if_pos (by simp [z0, z1, z2])]
      · rw [if_pos z0, if_pos z1, if_neg z2, if_neg (by simp [z2])]
    · rw [if_pos z0, if_neg z1, if_neg (by simp [z1])]
  · rw [if_neg z0, if_neg (by simp [z0])]
theorem act_ld (R : ar A h) (C : Cf M A o F) (hi : i < 120) : lf_R h (some (94 + 17 * o)) [4, 2] = some (some (94 + 17 * o + 2)) ∧ la_R h .aaload (some (94 + 17 * o + 2)) (Int32.ofNat i) = some (if fA F i = true then some (M 0 i) else none) := ⟨hc_R (o := some (94 + 17 * o + 2)) (ar_c R C.1) rfl, hc_ldR (ar_c R C.2.2.1) rfl (by omega) (ra_get hi)⟩
theorem c173s (R : ar A h) (C : Cf M A o F) (V : Cd M A D) (W : Wd D) (Wff : Wf D o F) {n : Nat} (hj : j < 3) : l173_2 (n + 1) (some (94 + 17 * o)) (Int32.ofNat j) h = if cnd D F j = true then rtR (some (M 0 (40 * j + fK F j))) h else l173_2 n (some (94 + 17 * o)) (Int32.ofNat (j + 1)) h := by
  have n4 : Int32.ofNat j + (1 : Int32) = Int32.ofNat (j + 1) := i32_add j 1
  have n5 : Int32.ofNat (fK F j) + (1 : Int32) = Int32.ofNat (fK F j + 1) := i32_add _ 1
  have hK := Wff.2.1 j
  have e1 : lf_R h (some (94 + 17 * o)) [4, 1] = some (some (94 + 17 * o + 1)) := hc_R (o := some (94 + 17 * o + 1)) (ar_c R C.1) rfl
  have e2 : la_I h .iaload (some (94 + 17 * o + 1)) (Int32.ofNat j) = some (Int32.ofNat (fK F j)) := hc_ldI (ar_c R C.2.1) rfl (by omega) (ra_get hj)
  have e50 : l173_50 (l173_2 n) (some (94 + 17 * o)) (Int32.ofNat j) h = l173_2 n (some (94 + 17 * o)) (Int32.ofNat (j + 1)) h := by
    unfold l173_50
    rw [n4]
  rw [l173_2]
  dsimp only
  rw [if_neg (show ¬ (3 : Int32) ≤ Int32.ofNat j from fun z => by have := (i32_len (a := 3) (by omega) (by omega)).mp z; omega), e1, Option.bind_some, e2, Option.bind_some]
  unfold cnd
  by_cases z : fK F j < 40
  · have hlt : 40 * j + fK F j < 120 := by omega
    obtain ⟨f1, f2⟩ := act_ld R C hlt
    have n6 : 40 * j + (fK F j + 1) - 1 = 40 * j + fK F j := by omega
    rw [if_neg (show ¬ (40 : Int32) ≤ Int32.ofNat (fK F j) from fun y => by have := (i32_len (a := 40) (by omega) (by omega)).mp y; omega), f1, Option.bind_some, Option.bind_some, e2, Option.bind_some, n5, c95 (by omega), rt_I, n6, f2, Option.bind_some]
    by_cases z2 : fA F (40 * j + fK F j) = true
    · obtain ⟨r, hr⟩ := Wff.2.2.1 _ z2
      rw [if_pos z2]
      dsimp only
      rw [if_pos (hc_lc (ar_c R C.1)), c171 R C V W Wff hr, rt_I]
      by_cases z3 : rdy D F (40 * j + fK F j) = true
      · rw [if_pos z3, if_neg (by decide), if_pos (by simp [z, z2, z3])]
      · rw [if_neg z3, if_pos rfl, e50, if_neg (by simp [z3])]
    · rw [if_neg z2]
      dsimp only
      rw [e50, if_neg (by simp [z2])]
  · rw [if_pos (show (40 : Int32) ≤ Int32.ofNat (fK F j) from (i32_len (a := 40) (by omega) (by omega)).mpr (by omega)), e50, if_neg (by simp [z])]
theorem c173 (R : ar A h) (C : Cf M A o F) (V : Cd M A D) (W : Wd D) (Wff : Wf D o F) : ll_173 (some (94 + 17 * o)) h = rtR ((fsr D F).map (M 0)) h := by
  have e : ll_173 (some (94 + 17 * o)) h = l173_2 (19996 + 1 + 1 + 1 + 1) (some (94 + 17 * o)) (Int32.ofNat 0) h := rfl
  have e3 : l173_2 (19996 + 1) (some (94 + 17 * o)) (Int32.ofNat 3) h = rtR none h := by
    rw [l173_2]
    dsimp only
    rw [if_pos (by decide)]
  rw [e, c173s R C V W Wff (by omega), c173s R C V W Wff (by omega), c173s R C V W Wff (by omega), e3]
  unfold fsr
  by_cases z0 : cnd D F 0 = true
  · rw [if_pos z0, if_pos z0]; rfl
  · by_cases z1 : cnd D F 1 = true
    · rw [if_neg z0, if_pos z1, if_neg z0, if_pos z1]; rfl
    · by_cases z2 : cnd D F 2 = true
      · rw [if_neg z0, if_neg z1, if_pos z2, if_neg z0, if_neg z1, if_pos z2]; rfl
      · rw [if_neg z0, if_neg z1, if_neg z2, if_neg z0, if_neg z1, if_neg z2]; rfl
theorem fsr_D (Wff : Wf D o F) (e : fsr D F = some i) : (∃ r, D i = some r) ∧ i % 40 = fK F (i / 40) ∧ fA F i = true ∧ rdy D F i = true := by
  have key : ∀ m, m < 3 → cnd D F m = true → i = 40 * m + fK F m → (∃ r, D i = some r) ∧ i % 40 = fK F (i / 40) ∧ fA F i = true ∧ rdy D F i = true := by
    intro m hm hc hi
    unfold cnd at hc
    simp only [Bool.and_eq_true, decide_eq_true_eq] at hc
    obtain ⟨a1, a2, a3⟩ := hc
    have e1 : i / 40 = m := by omega
    have e2 : i % 40 = fK F m := by omega
    rw [e1, e2]
    rw [← hi] at a2 a3
    exact ⟨Wff.2.2.1 i a2, rfl, a2, a3⟩
  unfold fsr at e
  split at e
  · next z => cases e; exact key 0 (by omega) z rfl
  · split at e
    · next z => cases e; exact key 1 (by omega) z rfl
    · split at e
      · next z => cases e; exact key 2 (by omega) z rfl
      · cases e
theorem c172l (W : Wd D) : ∀ (m j : Nat) (A : ah) (h : pm_H) (F : fo), ar A h → Cb A → Cf M A o F → Cd M A D → Wf D o F → WN F → j ≤ 120 → 120 - j < m → ∃ A' h', l172_2 w m (some (94 + 17 * o)) (Int32.ofNat j) h = rtV h' ∧ ar A' h' ∧ Cf M A' o (tkW D (120 - j) F) ∧ st A A' (blk o) 0 0 ∧ Wf D o (tkW D (120 - j) F) ∧ WN (tkW D (120 - j) F) := by
  intro m
  induction m with
  | zero => intro j A h F _ _ _ _ _ _ h1 h2; omega
  | succ m ih =>
    intro j A h F R B C V Wff N h1 h2
    have ho := Wff.1
    rw [l172_2]
    dsimp only
    by_cases z : 120 ≤ j
    · have e0 : 120 - j = 0 := by omega
      rw [if_pos (show (120 : Int32) ≤ Int32.ofNat j from (i32_len (a := 120) (by omega) (by omega)).mpr z), e0]
      exact ⟨A, h, rfl, R, C, st_w st_refl (by simp) (Nat.le_refl _) (Nat.le_refl _), Wff, N⟩
    · have e0 : 120 - j = (120 - (j + 1)) + 1 := by omega
      have n4 : Int32.ofNat j + (1 : Int32) = Int32.ofNat (j + 1) := i32_add j 1
      rw [if_neg (show ¬ (120 : Int32) ≤ Int32.ofNat j from fun y => z ((i32_len (a := 120) (by omega) (by omega)).mp y)), if_pos (hc_lc (ar_c R C.1)), c173 R C V W Wff, rt_R, e0, tkW]
      cases e : fsr D F with
      | none => exact ⟨A, h, rfl, R, C, st_w st_refl (by simp) (Nat.le_refl _) (Nat.le_refl _), Wff, N⟩
      | some i =>
        obtain ⟨⟨r, hi⟩, hn, -, -⟩ := fsr_D Wff e
        obtain ⟨N2, W2, l6, l2⟩ := WN_tk W Wff N hi hn
        obtain ⟨A2, h2', p1, R2, C2, s2⟩ := c100 (w := w) R B C V W Wff hi l6 (fun q => by
          refine l2 q _ ?_
          obtain ⟨l, hl⟩ := (W i r hi).2.2.2.2.2.2.2.2.2.2.2.1 (by omega)
          have el : lnp D i = l := by unfold lnp; rw [hi, Option.bind_some, hl]; rfl
          rw [el]
          exact LN_k W ((W i r hi).2.2.2.2.2.1 l hl))
        obtain ⟨A3, h3, q1, q2, q3, q4, q5, q6⟩ := ih (j + 1) A2 h2' (tkF D F i) R2 (Cb_st B R s2 (by intro x hx; rw [blk_m] at hx; omega)) C2 (Cd_st V R s2 (by intro x hx; rw [blk_m] at hx; omega)) W2 N2 (by omega) (by omega)
        refine ⟨A3, h3, ?_, q2, q3, st_w (st_trans s2 q4) (by simp) (Nat.le_refl _) (Nat.le_refl _), q5, q6⟩
        simp only [Option.map_some]
        rw [if_pos (hc_lc (ar_c R C.1)), p1, rt_V, n4]
        exact q1
theorem c170 (R : ar A h) (B : Cb A) (C : Cf M A o F) (V : Cd M A D) (W : Wd D) (Wff : Wf D o F) (N : WN F) (hR : WR D) (hP : ∀ x, tkn F x → x < 120 → fA F x = true) (hi : D i = some r) : ∃ A' h', ll_170 w (some (94 + 17 * o)) (some (M 0 i)) h = rtI (Int32.ofNat (rcv D F i).1) h' ∧ ar A' h' ∧ Cf M A' o (rcv D F i).2 ∧ st A A' (blk o) 0 0 ∧ Wf D o (rcv D F i).2 ∧ WN (rcv D F i).2 := by
  have ho := Wff.1
  have w1 := W i r hi
  have hA := ar_c R (V.1 i r hi).1
  obtain ⟨f1, f2⟩ := act_ld R C w1.1
  unfold ll_170 rcv
  rw [hc_I hA rfl, Option.bind_some, hc_I hA rfl, Option.bind_some, c95 (by omega), rt_I, id40, f1, Option.bind_some, f2, Option.bind_some]
  by_cases z : fA F i = true
  · rw [if_pos z, if_pos z]
    exact ⟨A, h, rfl, R, C, st_w st_refl (by simp) (Nat.le_refl _) (Nat.le_refl _), Wff, N⟩
  · rw [if_neg z, if_neg z]
    obtain ⟨h1, p1, R1⟩ := aw_Sr (i := .aastore) (j := i) (v := .inr (.inr (some (M 0 i)))) (w := .ref (M 0 i)) R C.2.2.1 (by omega) w1.1 (by omega) (nar_act R (V.1 i r hi).1)
    rw [← upb] at R1
    have s1 := st_set (y := .inr (11, ra 120 (fun l' => tm_r (if up (fA F) i true l' = true then some (M 0 l') else none)))) C.2.2.1
    obtain ⟨c0, c1, c2, c3, ⟨cap, c4⟩, c5⟩ := C
    have C1 : Cf M (ah_set A (94 + 17 * o + 2) (ac_c (.inr (11, ra 120 (fun l' => tm_r (if up (fA F) i true l' = true then some (M 0 l') else none)))))) o (rcA F i) := ⟨st_c s1 R c0 (by intro q; cases q) (by simp), st_c s1 R c1 (by intro q; cases q) (by simp), ah_set_e, st_c s1 R c3 (by intro q; cases q) (by simp), ⟨cap, st_c s1 R c4 (by intro q; cases q) (by simp)⟩, fun k hk => Cx_st (c5 k hk) R s1 (by intro x hx; simp at hx; omega)⟩
    have V1 := Cd_st V R s1 (by intro x hx; simp at hx; omega)
    have B1 := Cb_st B R s1 (by intro x hx; simp at hx; omega)
    have Wf1 : Wf D o (rcA F i) := by
      obtain ⟨a1, a2, a3, a4, a5, a6, a7⟩ := Wff
      refine ⟨a1, a2, fun x hx => ?_, a4, a5, a6, a7⟩
      have hx' : up (fA F) i true x = true := hx
      by_cases q : x = i
      · rw [q]; exact ⟨r, hi⟩
      · rw [up_n q] at hx'; exact a3 x hx'
    have N1 : WN (rcA F i) := N
    have s1' : st A _ (blk o) 0 0 := st_w s1 (by intro x hx; rw [blk_m]; simp at hx; omega) (Nat.le_refl _) (Nat.le_refl _)
    have er : rdy D (rcA F i) i = rdy D F i := rfl
    have e171 := c171 R1 C1 V1 W Wf1 hi
    rw [er] at e171
    dsimp only
    rw [Option.bind_some, p1, Option.bind_some, if_pos (hc_lc (ar_c R1 C1.1)), e171, rt_I]
    by_cases z2 : rdy D F i = true
    · have hn : i % 40 = fK (rcA F i) (i / 40) := by
        have h1 : ¬ tkn F i := fun t => z (hP i t w1.1)
        have h2 : rpa r (i / 40) ≤ fK F (i / 40) := rdy_le hi z2 _ (by omega)
        rw [hR i r hi] at h2
        unfold tkn at h1
        show i % 40 = fK F (i / 40)
        omega
      obtain ⟨N2, W2, l6, l2⟩ := WN_tk W Wf1 N1 hi hn
      obtain ⟨A2, h2, g1, R2, C2, s2⟩ := c100 (w := w) R1 B1 C1 V1 W Wf1 hi l6 (fun q => by
        refine l2 q _ ?_
        obtain ⟨l, hl⟩ := (W i r hi).2.2.2.2.2.2.2.2.2.2.2.1 (by omega)
        have el : lnp D i = l := by unfold lnp; rw [hi, Option.bind_some, hl]; rfl
        rw [el]
        exact LN_k W ((W i r hi).2.2.2.2.2.1 l hl))
      obtain ⟨A3, h3, q1, q2, q3, q4, q5, q6⟩ := c172l (w := w) (M := M) (o := o) W lf_N 0 A2 h2 (tkF D (rcA F i) i) R2 (Cb_st B1 R1 s2 (by intro x hx; rw [blk_m] at hx; omega)) C2 (Cd_st V1 R1 s2 (by intro x hx; rw [blk_m] at hx; omega)) W2 N2 (by omega) (by unfold lf_N; omega)
      have e172 : ll_172 w (some (94 + 17 * o)) h2 = rtV h3 := q1
      rw [if_pos z2, if_neg (by decide), if_pos z2, if_pos (hc_lc (ar_c R1 C1.1)), g1, rt_V, if_pos (hc_lc (ar_c R2 C2.1)), e172]
      exact ⟨A3, h3, rfl, q2, q3, st_w (st_trans s1' (st_trans s2 q4)) (by simp) (Nat.le_refl _) (Nat.le_refl _), q5, q6⟩
    · rw [if_neg z2, if_pos rfl, if_neg z2]
      exact ⟨_, h1, rfl, R1, C1, s1', Wf1, N1⟩
end RV
