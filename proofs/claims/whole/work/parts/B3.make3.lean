/-! MAKING acts: writes; what counts; taking back -/
def wrB (D : aD) (y z : Nat) (x : Nat) : Bool := decide ((D x).bind rrw = some y) && decide ((D x).bind rcl = some z)
/-- the write that counts, what it holds -/
def wtc (D : aD) (F : fo) (y z : Nat) : Option Nat := (fW F).find? (wrB D y z)
def cnt (D : aD) (F : fo) (y z : Nat) : Option Nat := (wtc D F y z).bind (fun x => (D x).bind rct)
def rwo (D : aD) (i : Nat) : Nat := ((D i).bind rrw).getD 0
def clo (D : aD) (i : Nat) : Nat := ((D i).bind rcl).getD 0
/-- does an act count? -/
def couB (D : aD) (F : fo) (i : Nat) : Bool := if knd D i = 6 then decide (wtc D F (rwo D i) (clo D i) = some i) else if knd D i = 1 ∨ knd D i = 4 ∨ knd D i = 5 then decide (xB (fX F (lkd D (lnp D i))) (lnp D i) = some i) else decide (xP (fX F (lkd D (lnp D i))) (lnp D i) = some i)
section MK3
variable {A A' A1 : ah} {h h1 : pm_H} {M M' : aM} {D : aD} {X : ax} {F : fo} {c o i j l p k x y z kd : Nat} {r : rc} {a : Int32} {w : Option Nat} {q : Option Nat}
theorem c159l (R : ar A h) (C : Cf M A o F) (V : Cd M A D) (W : Wd D) (Wff : Wf D o F) (hy : LN D y) (hz : LN D z) : ∀ m j, j ≤ (fW F).length → (fW F).length - j < m → l159_2 m (some (94 + 17 * o)) (some (M 1 y)) (some (M 1 z)) (Int32.ofNat j) h = rtR ((((fW F).drop j).find? (wrB D y z)).map (M 0)) h := by
  obtain ⟨ho, -, -, hW, hlen, -, -⟩ := Wff
  obtain ⟨c0, c1, c2, c3, ⟨cap, c4⟩, c5⟩ := C
  have hmap : ((fW F).map (M 0)).length = (fW F).length := List.length_map _
  intro m
  induction m with
  | zero => intro j h1 h2; omega
  | succ m ih =>
    intro j h1 h2
    rw [l159_2]
    dsimp only
    rw [hc_R (o := some (94 + 17 * o + 4)) (ar_c R c0) rfl, Option.bind_some, if_pos (ar_lc R c4), ll_size R c4, hmap, rt_I]
    by_cases q : (fW F).length ≤ j
    · rw [if_pos ((i32_len (by omega) (by omega)).mpr q), List.drop_of_length_le q]
      rfl
    · have hj : j < (fW F).length := by omega
      obtain ⟨r, hr, hk⟩ := hW _ (gl_mem hj)
      have n4 : Int32.ofNat j + (1 : Int32) = Int32.ofNat (j + 1) := i32_add j 1
      have hget := ll_get R c4 (i := j) (by rw [hmap]; exact hj)
      rw [gl_map hj] at hget
      rw [gl_drop hj, List.find?_cons]
      generalize hg : (fW F).getD j 0 = g at hr hget
      have hcc : lf_cc 81 h (some (M 0 g)) [7] = true := by
        unfold lf_cc
        dsimp only
        rw [ar_c R (V.1 g r hr).1]
        rfl
      have hsam : (rk r = 6 ∧ rrw r = some y ∧ rcl r = some z) ↔ wrB D y z g = true := by
        unfold wrB
        rw [hr, Option.bind_some, Option.bind_some]
        simp [hk]
      rw [if_neg (fun y => q ((i32_len (by omega) (by omega)).mp y)), hc_R (o := some (94 + 17 * o + 4)) (ar_c R c0) rfl, Option.bind_some, if_pos (ar_lc R c4), hget, rt_R, if_pos hcc, if_pos (act_lc R V hr), c102 R V W hr hy hz, rt_I]
      by_cases e : wrB D y z g = true
      · rw [if_pos (hsam.mpr e), if_neg (by decide), hc_R (o := some (94 + 17 * o + 4)) (ar_c R c0) rfl, Option.bind_some, if_pos (ar_lc R c4), hget, rt_R, if_pos hcc, e]
        rfl
      · rw [if_neg (fun e2 => e (hsam.mp e2)), if_pos rfl, n4, ih (j + 1) (by omega) (by omega)]
        have e' : wrB D y z g = false := by simpa using e
        rw [e']
theorem c159 (R : ar A h) (C : Cf M A o F) (V : Cd M A D) (W : Wd D) (Wff : Wf D o F) (hy : LN D y) (hz : LN D z) : ll_159 (some (94 + 17 * o)) (some (M 1 y)) (some (M 1 z)) h = rtR ((wtc D F y z).map (M 0)) h := by
  have := c159l R C V W Wff hy hz lf_N 0 (Nat.zero_le _) (by have := Wff.2.2.2.2.1; unfold lf_N; omega)
  rw [List.drop_zero] at this
  exact this
theorem wtc_D (Wff : Wf D o F) (e : wtc D F y z = some x) : ∃ r, D x = some r ∧ rk r = 6 ∧ rrw r = some y ∧ rcl r = some z := by
  unfold wtc at e
  obtain ⟨r, hr, hk⟩ := Wff.2.2.2.1 x (List.mem_of_find?_eq_some e)
  have h2 := List.find?_some e
  unfold wrB at h2
  rw [hr, Option.bind_some, Option.bind_some] at h2
  simp at h2
  exact ⟨r, hr, hk, h2.1, h2.2⟩
theorem c158 (R : ar A h) (C : Cf M A o F) (V : Cd M A D) (W : Wd D) (Wff : Wf D o F) (hy : LN D y) (hz : LN D z) : ll_158 (some (94 + 17 * o)) (some (M 1 y)) (some (M 1 z)) h = rtR (cnt D F y z) h := by
  unfold ll_158 cnt
  rw [if_pos (hc_lc (ar_c R C.1)), c159 R C V W Wff hy hz, rt_R]
  cases e : wtc D F y z with
  | none => rfl
  | some x =>
    obtain ⟨r, hr, -⟩ := wtc_D Wff e
    simp only [Option.map_some, Option.bind_some, hr]
    rw [hc_R (o := rct r) (ar_c R (V.1 x r hr).1) rfl]
    rfl
theorem axs_rd (R : ar A h) (C : Cf M A o F) (V : Cd M A D) (W : Wd D) (hl : LN D l) : lf_R h (some (94 + 17 * o)) [4, 3] = some (some (94 + 17 * o + 3)) ∧ lf_I h (some (M 1 l)) [6, 0] = some (Int32.ofNat (lkd D l)) ∧ la_R h .aaload (some (94 + 17 * o + 3)) (Int32.ofNat (lkd D l)) = some (some (94 + 17 * o + 5 + 6 * lkd D l)) ∧ lc_of h (some (94 + 17 * o + 5 + 6 * lkd D l)) = some 5 := by
  have hk2 := LN_k W hl
  obtain ⟨rr, hr1, hr2, hr6⟩ := LN_c V hl
  refine ⟨hc_R (o := some (94 + 17 * o + 3)) (ar_c R C.1) rfl, ?_, hc_ldR (o := some (94 + 17 * o + 5 + 6 * lkd D l)) (ar_c R C.2.2.2.1) rfl (by omega) (ra_get hk2), hc_lc (ar_c R (C.2.2.2.2.2 _ hk2).1)⟩
  unfold lkd
  rw [hr1]
  exact hc_I (ar_c R hr6) rfl
theorem act_l0 (W : Wd D) (hi : D i = some r) (hk : rk r ≠ 6) : LN D (lnp D i) ∧ rl r = some (lnp D i) := by
  obtain ⟨l, hl⟩ := (W i r hi).2.2.2.2.2.2.2.2.2.2.2.1 hk
  have el : lnp D i = l := by unfold lnp; rw [hi, Option.bind_some, hl]; rfl
  rw [el]
  exact ⟨(W i r hi).2.2.2.2.2.1 l hl, hl⟩
theorem act_w0 (W : Wd D) (hi : D i = some r) (hk : rk r = 6) : LN D (rwo D i) ∧ LN D (clo D i) ∧ rrw r = some (rwo D i) ∧ rcl r = some (clo D i) := by
  obtain ⟨l, m, hl, hm⟩ := (W i r hi).2.2.2.2.2.2.2.2.2.2.2.2.1 hk
  have el : rwo D i = l := by unfold rwo; rw [hi, Option.bind_some, hl]; rfl
  have em : clo D i = m := by unfold clo; rw [hi, Option.bind_some, hm]; rfl
  rw [el, em]
  exact ⟨(W i r hi).2.2.2.2.2.2.2.2.2.1 l hl, (W i r hi).2.2.2.2.2.2.2.2.2.2.1 m hm, hl, hm⟩
theorem act_l (R : ar A h) (V : Cd M A D) (W : Wd D) (hi : D i = some r) (hk : rk r ≠ 6) : LN D (lnp D i) ∧ lf_R h (some (M 0 i)) [7, 5] = some (some (M 1 (lnp D i))) ∧ rl r = some (lnp D i) := by
  obtain ⟨l, hl⟩ := (W i r hi).2.2.2.2.2.2.2.2.2.2.2.1 hk
  have el : lnp D i = l := by unfold lnp; rw [hi, Option.bind_some, hl]; rfl
  rw [el]
  refine ⟨(W i r hi).2.2.2.2.2.1 l hl, ?_, hl⟩
  have := hc_R (k := 5) (o := (rl r).map (M 1)) (ar_c R (V.1 i r hi).1) rfl
  rw [hl] at this
  exact this
theorem act_w (R : ar A h) (V : Cd M A D) (W : Wd D) (hi : D i = some r) (hk : rk r = 6) : LN D (rwo D i) ∧ LN D (clo D i) ∧ lf_R h (some (M 0 i)) [7, 8] = some (some (M 1 (rwo D i))) ∧ lf_R h (some (M 0 i)) [7, 9] = some (some (M 1 (clo D i))) ∧ rrw r = some (rwo D i) ∧ rcl r = some (clo D i) := by
  obtain ⟨l, m, hl, hm⟩ := (W i r hi).2.2.2.2.2.2.2.2.2.2.2.2.1 hk
  have el : rwo D i = l := by unfold rwo; rw [hi, Option.bind_some, hl]; rfl
  have em : clo D i = m := by unfold clo; rw [hi, Option.bind_some, hm]; rfl
  rw [el, em]
  refine ⟨(W i r hi).2.2.2.2.2.2.2.2.2.1 l hl, (W i r hi).2.2.2.2.2.2.2.2.2.2.1 m hm, ?_, ?_, hl, hm⟩
  · have := hc_R (k := 8) (o := (rrw r).map (M 1)) (ar_c R (V.1 i r hi).1) rfl
    rw [hl] at this
    exact this
  · have := hc_R (k := 9) (o := (rcl r).map (M 1)) (ar_c R (V.1 i r hi).1) rfl
    rw [hm] at this
    exact this
theorem c163 (R : ar A h) (B : Cb A) (C : Cf M A o F) (V : Cd M A D) (W : Wd D) (Wff : Wf D o F) (hi : D i = some r) : ll_163 (some (94 + 17 * o)) (some (M 0 i)) h = rtI (if couB D F i = true then 1 else 0) h := by
  have w1 := W i r hi
  have hsm : ∀ x : Option Nat, (∀ j, x = some j → AN D j) → (x.map (M 0) = some (M 0 i) ↔ x = some i) := fun x hx => Cd_in V (q := 0) (x := x) (y := some i) hx (fun j e => by cases e; exact ⟨r, hi⟩)
  have hdi : pm_idn (some (M 0 i)) = true := Cd_idn V (x := some i) (fun j e => by cases e; exact ⟨r, hi⟩)
  unfold ll_163 couB
  rw [knd_e hi, (act_k R V B W hi).1, Option.bind_some, acmA (idn_k w1.2.1 (by omega)) (idn_k (by omega) (by omega))]
  by_cases q : rk r = 6
  · obtain ⟨hy, hz, e1, e2, e3, e4⟩ := act_w R V W hi q
    have hx : ∀ j, wtc D F (rwo D i) (clo D i) = some j → AN D j := fun j e => by
      obtain ⟨r, hr, -⟩ := wtc_D Wff e
      exact ⟨r, hr⟩
    rw [if_pos (by rw [q]), if_pos q, e1, Option.bind_some, e2, Option.bind_some, if_pos (hc_lc (ar_c R C.1)), c159 R C V W Wff hy hz, rt_R, acmA (Cd_idn V hx) hdi]
    by_cases e : wtc D F (rwo D i) (clo D i) = some i
    · rw [if_pos ((hsm _ hx).mpr e), if_pos (decide_eq_true e)]
    · rw [if_neg (fun z => e ((hsm _ hx).mp z)), if_neg (by simpa using e)]
  · obtain ⟨hl, e1, e2⟩ := act_l R V W hi q
    obtain ⟨f1, f2, f3, f4⟩ := axs_rd R C V W hl
    have hk2 := LN_k W hl
    have hl2 := LN_lt W hl
    obtain ⟨rr, hr1, hr2, hr6⟩ := LN_c V hl
    have Cc := C.2.2.2.2.2 _ hk2
    have Wc := Wff.2.2.2.2.2.2 _ hk2
    have fin : ∀ x : Option Nat, (∀ j, x = some j → AN D j) → l164_34 (x.map (M 0)) (some (M 0 i)) h = rtI (if decide (x = some i) = true then 1 else 0) h := by
      intro x hx
      unfold l164_34
      rw [acmA hdi (Cd_idn V hx)]
      by_cases e : x = some i
      · rw [if_pos ((hsm _ hx).mpr e).symm, if_pos (decide_eq_true e)]
      · rw [if_neg (fun z => e ((hsm _ hx).mp z.symm)), if_neg (by simpa using e)]
    have fit : ∀ b : Bool, pm_fit 3 (.int (if b = true then 1 else 0)) = true := by intro b; cases b <;> rfl
    rw [if_neg (fun z => q (Option.some.inj z)), if_neg q, f1, Option.bind_some, e1, Option.bind_some, f2, Option.bind_some, f3, Option.bind_some, if_pos f4]
    unfold ll_164
    rw [e1, Option.bind_some, hc_I (ar_c R hr6) rfl, Option.bind_some, (act_k R V B W hi).1, Option.bind_some, if_pos (act_k R V B W hi).2, c119 w1.2.1 w1.2.2.1, rt_I]
    by_cases q2 : rk r = 1 ∨ rk r = 4 ∨ rk r = 5
    · rw [if_pos q2, if_neg (by decide), if_pos q2, hc_R (o := some (94 + 17 * o + 5 + 6 * lkd D (lnp D i) + 4)) (ar_c R Cc.1) rfl, Option.bind_some, hc_ldR (o := (xB (fX F (lkd D (lnp D i))) (lnp D i)).map (M 0)) (ar_c R Cc.2.2.2.2.1) rfl (by omega) (ra_get hl2), Option.bind_some, fin _ (Wc.2.2.2.1 _), rt_I, if_pos (fit _)]
    · rw [if_neg q2, if_pos rfl, if_neg q2, hc_R (o := some (94 + 17 * o + 5 + 6 * lkd D (lnp D i) + 3)) (ar_c R Cc.1) rfl, Option.bind_some, hc_ldR (o := (xP (fX F (lkd D (lnp D i))) (lnp D i)).map (M 0)) (ar_c R Cc.2.2.2.1) rfl (by omega) (ra_get hl2), Option.bind_some, fin _ (Wc.2.2.1 _), rt_I, if_pos (fit _)]
end MK3
