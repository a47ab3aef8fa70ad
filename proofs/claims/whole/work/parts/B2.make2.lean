/-! MAKING acts: a line, a being, a move, a back -/
def rP (o : Nat) (F : fo) (i k : Nat) (q : Option Nat) : rc := ((1, (fC F + 1) * 3 + o, fK F), (some i, some i, none, q), (none, none, none, none), k)
def rM (o : Nat) (F : fo) (i l : Nat) (q pb : Option Nat) : rc := ((2, (fC F + 1) * 3 + o, fK F), (some l, some i, pb, q), (none, none, none, none), 0)
def rB (o : Nat) (F : fo) (l : Nat) (q pb : Option Nat) : rc := ((3, (fC F + 1) * 3 + o, fK F), (some l, q, pb, none), (none, none, none, none), 0)
def rG (o : Nat) (F : fo) (kd l : Nat) : rc := ((kd, (fC F + 1) * 3 + o, fK F), (some l, none, none, none), (none, none, none, none), 0)
def rW (o : Nat) (F : fo) (y z : Nat) (ct cb : Option Nat) : rc := ((6, (fC F + 1) * 3 + o, fK F), (none, none, none, none), (some y, some z, ct, cb), 0)
/-- an act made and taken -/
def Mk (M : aM) (A : ah) (D : aD) (o : Nat) (F : fo) (i : Nat) (r : rc) (k j : Nat) (P : aM → pm_H → Prop) : Prop := ∃ M' A' h', P M' h' ∧ ar A' h' ∧ Cd M' A' (up D i (some r)) ∧ Mag M M' D ∧ Cf M' A' o (tkF (up D i (some r)) F i) ∧ st A A' (blk o) k j ∧ Wd (up D i (some r))
/-- an office that may make one more -/
def Rdy (D : aD) (o : Nat) (F : fo) (i : Nat) : Prop := fK F o < 40 ∧ i = 40 * o + fK F o ∧ D i = none ∧ (fC F + 1) * 3 + o < 400
section MK2
variable {A A' A1 : ah} {h h1 : pm_H} {M M' : aM} {D : aD} {X : ax} {F : fo} {c o i j l p k x kd : Nat} {r : rc} {a : Int32} {w : Option Nat} {Y Y' : List Nat} {fs : List Value} {q : Option Nat}
theorem lb_hh {K : pm_H → tm_L} : lb_h h K = K h := rfl
theorem nw (R : ar A h) (ci n : Nat) (vs : List Value) : ∃ h', lf_new h ci n vs = h' ∧ ar (ah_new A (ac_c (.inl (ci, vs))) n) h' := ⟨_, rfl, ar_n R _ n⟩
theorem ne_D (hD : D i = none) (hl : AN D l) : l ≠ i := by
  obtain ⟨r, hr⟩ := hl
  intro z
  rw [z, hD] at hr
  cases hr
theorem mN_n {N : Nat → Nat} (hD : D i = none) (hl : AN D l) {q : Nat} : mN M i N q l = M q l := up_n (ne_D hD hl)
theorem mN_o {N : Nat → Nat} (hD : D i = none) {y : Option Nat} (hy : ∀ l, y = some l → AN D l) {q : Nat} : y.map (mN M i N q) = y.map (M q) := mag_o (mN_mag hD) hy
theorem c128 (R : ar A h) (B : Cb A) (C : Cf M A o F) (V : Cd M A D) (W : Wd D) (Wff : Wf D o F) (h178 : 178 ≤ A.2.1) (hr : Rdy D o F i) (hkd : kd = 4 ∨ kd = 5) (hl : LN D l) : Mk M A D o F i (rG o F kd l) 2 15 (fun _ h' => ll_128 w (some (94 + 17 * o)) (some kd) (some (M 1 l)) h = rtV h') := by
  obtain ⟨hm, hi, hD, hst⟩ := hr
  have ho := Wff.1
  obtain ⟨A1, h1, p1, R1, a1, a2, s1, n1⟩ := c96n (k := kd) R C ho h178
  obtain ⟨A2, h2, p2, R2, b1, s2, n2⟩ := c99 (y := some (M 1 l)) (z := none) (v := none) R1 a1 (by omega) rfl
  have s : st A A2 [] 2 15 := st_hi (st_trans s1 s2 :) (by intro y hy; simp at hy; omega)
  have e1 : i / 40 = o := by omega
  have e2 : i % 40 = fK F o := by omega
  have hW : Wd (up D i (some (rG o F kd l))) := by
    refine Wd_up hD W ⟨by omega, ?_, ?_, hst, fun j => ?_, ?_, ?_, ?_, ?_, ?_, ?_, fun _ => ⟨l, rfl⟩, ?_, ?_, ?_⟩
    · show 1 ≤ kd; omega
    · show kd ≤ 6; omega
    · have := Wff.2.1 j
      show fK F j < 1000
      omega
    · intro y hy; cases hy; exact LN_up hD hl
    · intro y hy; cases hy
    · intro y hy; cases hy
    · intro y hy; cases hy
    · intro y hy; cases hy
    · intro y hy; cases hy
    · intro z; have z' : kd = 6 := z; omega
    · intro z; have z' : kd = 1 := z; omega
    · intro z; have z' : kd ≤ 2 := z; omega
  have V2 : Cd (mN M i (fun q => if q = 3 then A.2.1 + 1 else A.2.1)) A2 (up D i (some (rG o F kd l))) := by
    refine Cd_new V W R s hD h178 (fun q => ?_) ?_ ?_ ?_ ?_
    · by_cases z : q = 3
      · simp only [z, if_true]; omega
      · simp only [z, if_false]; omega
    · show A2.1 A.2.1 = _
      rw [b1]
      unfold ceA
      rw [e1, e2, mN_o hD (y := rl (rG o F kd l)) (fun y hy => by cases hy; exact LN_AN hl)]
      have e3 : mN M i (fun q => if q = 3 then A.2.1 + 1 else A.2.1) 3 i = A.2.1 + 1 := up_e
      rw [e3]
      rfl
    · show A2.1 (A.2.1 + 1) = _
      exact st_c s2 R1 a2 (by intro q; cases q) (by simp)
    · intro z; have z' : kd = 1 := z; omega
    · intro z; have z' : kd ≤ 2 := z; omega
  obtain ⟨A3, h3, g1, g2, R3, V3, C3, s3⟩ := mkT (w := w) R B C Wff R2 s hD V2 hW (fun z => by have z' : kd = 6 := z; omega) (fun z => by have z' : kd ≤ 2 := z; omega)
  refine ⟨_, A3, h3, ?_, R3, V3, mN_mag hD, C3, s3, hW⟩
  have g2' : ll_100 w (some (94 + 17 * o)) (some A.2.1) h2 = rtV h3 := g2
  unfold ll_128
  rw [lb_hh, p1, rt_V, ar_len R, if_pos (hc_lc (ar_c R1 a1)), p2, rt_V, if_pos g1, g2']
  rfl
theorem c93 (R : ar A h) (B : Cb A) (C : Cf M A o F) (V : Cd M A D) (W : Wd D) (Wff : Wf D o F) (h178 : 178 ≤ A.2.1) (hr : Rdy D o F i) (hk : k < 2) (hq : ∀ p, q = some p → PN D p) (hx : ∀ k, k < 2 → (xO (fX F k)).length < 120) : Mk M A D o F i (rP o F i k q) 4 21 (fun M' h' => ll_93 w (some (94 + 17 * o)) (Int32.ofNat k) (q.map (M 2)) h = rtR (some (M' 1 i)) h') := by
  obtain ⟨hm, hi, hD, hst⟩ := hr
  have ho := Wff.1
  have n4 : Int32.ofNat (fK F o) + (1 : Int32) = Int32.ofNat (fK F o + 1) := i32_add _ 1
  have e1 : i / 40 = o := by omega
  have e2 : i % 40 = fK F o := by omega
  obtain ⟨h1, p1, R1⟩ := nw R 6 3 [.int 0, .int 0, .int 0]
  have s1 := st_new R (show 145 ≤ A.2.1 by omega) (.inl (6, [.int 0, .int 0, .int 0])) 3
  have C1 := Cf_st C R s1 (by intro x hx; cases hx)
  obtain ⟨A2, h2, p2, R2, a2, s2, n2⟩ := c94 (k := k) (o := o) (n := fK F o + 1) (x := A.2.1) R1 ah_new_e (by omega) (by omega)
  have n2' : A2.2.1 = A.2.1 + 1 := n2
  have C2 := Cf_st C1 R1 s2 (by intro x hx; simp at hx; omega)
  obtain ⟨A3, h3, p3, R3, a3, b3, s3, n3⟩ := c96n (k := 1) R2 C2 ho (by omega)
  rw [n2'] at a3 b3 n3
  obtain ⟨h4, p4, R4⟩ := nw R3 8 3 [.null, .null, .int 0]
  have s4 := st_new R3 (show 145 ≤ A3.2.1 by omega) (.inl (8, [.null, .null, .int 0])) 3
  have a4 := st_c s4 R3 a3 (by intro q; cases q) (by simp)
  obtain ⟨A5, h5, p5, R5, a5, s5, n5⟩ := c98 (y := some A.2.1) (z := q.map (M 2)) (v := Int32.ofNat ((fC F + 1) * 3 + o)) (x := A3.2.1) R4 ah_new_e (by omega)
  have n5' : A5.2.1 = A.2.1 + 4 := by rw [n5]; show A3.2.1 + 1 = _; omega
  have b5 := st_c s5 R4 a4 (by intro q; cases q) (by simp; omega)
  obtain ⟨A6, h6, p6, R6, a6, s6, n6⟩ := c99 (y := some A.2.1) (z := some A3.2.1) (v := none) R5 b5 (by omega) rfl
  have s45 := st_trans s4 (st_trans s5 s6)
  have s36 := st_trans s3 s45
  have s : st A A6 [] 4 21 := st_hi (st_trans s1 (st_trans s2 s36) :) (by intro y hy; simp at hy; omega)
  have n6' : A6.2.1 = A.2.1 + 4 := by rw [n6]; exact n5'
  have hLNi : LN (up D i (some (rP o F i k q))) i := ⟨_, up_e, rfl⟩
  have hPNi : PN (up D i (some (rP o F i k q))) i := ⟨_, up_e, by show 1 ≤ 2; omega⟩
  have hW : Wd (up D i (some (rP o F i k q))) := by
    refine Wd_up hD W ⟨by omega, ?_, ?_, hst, fun j => ?_, ?_, ?_, ?_, ?_, ?_, ?_, fun _ => ⟨i, rfl⟩, ?_, fun _ => ⟨rfl, hk⟩, fun _ => rfl⟩
    · show 1 ≤ 1; omega
    · show 1 ≤ 6; omega
    · have := Wff.2.1 j
      show fK F j < 1000
      omega
    · intro y hy; cases hy; exact hLNi
    · intro y hy; cases hy; exact hPNi
    · intro y hy; cases hy
    · intro y hy; exact PN_up hD (hq y hy)
    · intro y hy; cases hy
    · intro y hy; cases hy
    · intro z; have z' : 1 = 6 := z; omega
  have m1 : mN M i (fun q => if q = 0 then A.2.1 + 1 else if q = 1 then A.2.1 else if q = 2 then A.2.1 + 3 else A.2.1 + 2) 1 i = A.2.1 := up_e
  have m2 : mN M i (fun q => if q = 0 then A.2.1 + 1 else if q = 1 then A.2.1 else if q = 2 then A.2.1 + 3 else A.2.1 + 2) 2 i = A.2.1 + 3 := up_e
  have m3 : mN M i (fun q => if q = 0 then A.2.1 + 1 else if q = 1 then A.2.1 else if q = 2 then A.2.1 + 3 else A.2.1 + 2) 3 i = A.2.1 + 2 := up_e
  have V6 : Cd (mN M i (fun q => if q = 0 then A.2.1 + 1 else if q = 1 then A.2.1 else if q = 2 then A.2.1 + 3 else A.2.1 + 2)) A6 (up D i (some (rP o F i k q))) := by
    refine Cd_new V W R s hD h178 (fun q => ?_) ?_ ?_ (fun _ => ?_) (fun _ => ?_)
    · by_cases z : q = 0
      · simp only [z, if_true]; omega
      · by_cases z1 : q = 1
        · simp only [z1, if_true]; simp; omega
        · by_cases z2 : q = 2
          · simp only [z2, if_true]; simp; omega
          · simp only [z, z1, z2, if_false]; omega
    · show A6.1 (A.2.1 + 1) = _
      rw [a6]
      unfold ceA
      have f1 : (rl (rP o F i k q)).map (mN M i (fun q => if q = 0 then A.2.1 + 1 else if q = 1 then A.2.1 else if q = 2 then A.2.1 + 3 else A.2.1 + 2) 1) = some A.2.1 := by
        show some (mN M i _ 1 i) = _
        rw [m1]
      have f2 : (rpl (rP o F i k q)).map (mN M i (fun q => if q = 0 then A.2.1 + 1 else if q = 1 then A.2.1 else if q = 2 then A.2.1 + 3 else A.2.1 + 2) 2) = some A3.2.1 := by
        show some (mN M i _ 2 i) = _
        rw [m2, n3]
      rw [e1, e2, f1, f2, m3]
      rfl
    · show A6.1 (A.2.1 + 2) = _
      exact st_c s45 R3 b3 (by intro q; cases q) (by simp; omega)
    · show A6.1 A.2.1 = _
      have := st_c s36 R2 a2 (by intro q; cases q) (by simp; omega)
      rw [this]
      unfold ceL
      rw [e1, e2, hi]
      rfl
    · show A6.1 (A.2.1 + 3) = _
      have := st_c s6 R5 a5 (by intro q; cases q) (by simp; omega)
      rw [n3] at this
      rw [this]
      unfold ceP
      have f1 : (rl (rP o F i k q)).map (mN M i (fun q => if q = 0 then A.2.1 + 1 else if q = 1 then A.2.1 else if q = 2 then A.2.1 + 3 else A.2.1 + 2) 1) = some A.2.1 := by
        show some (mN M i _ 1 i) = _
        rw [m1]
      rw [f1, mN_o hD (y := raf (rP o F i k q)) (fun y hy => PN_AN (hq y hy))]
      rfl
  obtain ⟨A7, h7, g1, g2, R7, V7, C7, s7⟩ := mkT (w := w) R B C Wff R6 s hD V6 hW (fun z => by have z' : 1 = 6 := z; omega) (fun _ => hx)
  refine ⟨_, A7, h7, ?_, R7, V7, mN_mag hD, C7, s7, hW⟩
  have g2' : ll_100 w (some (94 + 17 * o)) (some (A.2.1 + 1)) h6 = rtV h7 := g2
  have l2 : h2.1.length = A.2.1 + 1 := (ar_len R2).trans n2'
  rw [l2] at p3
  show _ = rtR (some (mN M i _ 1 i)) h7
  rw [m1]
  unfold ll_93
  rw [lb_hh, p1, hc_I (ar_c R1 C1.1) rfl, Option.bind_some, if_pos (hc_lc (ar_c R1 C1.1)), c92 R1 C1 ho, rt_I, n4, ar_len R, p2, rt_V, lb_hh, l2, p3, rt_V, lb_hh, p4, hc_I (ar_c R4 a4) rfl, Option.bind_some, ar_len R3, p5, rt_V, if_pos (hc_lc (ar_c R5 b5)), p6, rt_V, if_pos g1, g2']
  rfl
end MK2
