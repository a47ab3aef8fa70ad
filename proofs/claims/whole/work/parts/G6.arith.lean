/-! NUMBERS of cells: the class's codes (an error is 1000000000 + e), the reference's (4000000000 + e) -/
theorem j_add {x y : Int64} (h1 : -9000000000000000000 ≤ x.toInt + y.toInt) (h2 : x.toInt + y.toInt ≤ 9000000000000000000) : (x + y).toInt = x.toInt + y.toInt := by
  rw [Int64.toInt_add]
  apply Int.bmod_eq_of_le <;> omega
theorem j_sub {x y : Int64} (h1 : -9000000000000000000 ≤ x.toInt - y.toInt) (h2 : x.toInt - y.toInt ≤ 9000000000000000000) : (x - y).toInt = x.toInt - y.toInt := by
  rw [Int64.toInt_sub]
  apply Int.bmod_eq_of_le <;> omega
theorem j_mul {x y : Int64} {z : Int} (e : x.toInt * y.toInt = z) (h1 : -9000000000000000000 ≤ z) (h2 : z ≤ 9000000000000000000) : (x * y).toInt = z := by
  rw [Int64.toInt_mul, e]
  apply Int.bmod_eq_of_le <;> omega
theorem j_neg {x : Int64} (h1 : -9000000000000000000 ≤ x.toInt) (h2 : x.toInt ≤ 9000000000000000000) : (-x).toInt = -x.toInt := by
  rw [Int64.toInt_neg]
  apply Int.bmod_eq_of_le <;> omega
theorem j_div {x y : Int64} (h1 : -9000000000000000000 ≤ x.toInt) (h2 : x.toInt ≤ 9000000000000000000) : (x / y).toInt = x.toInt.tdiv y.toInt := by
  rw [Int64.toInt_div]
  have h := Int.natAbs_tdiv_le_natAbs x.toInt y.toInt
  generalize x.toInt.tdiv y.toInt = q at h
  apply Int.bmod_eq_of_le <;> omega
def isE (v : Int64) : Bool := decide ((1000000000 : Int64) < v)
def nb (v : Int64) : Int64 := if v < (-1000000000 : Int64) then 1000000004 else if (1000000000 : Int64) < v then 1000000004 else v
def ab (v : Int64) : Int64 := if v < 0 then -v else v
def qup (x y w : Int64) : Int64 := if decide (x < 0) = decide (y < 0) then w + 1 else w - 1
def qt (x y : Int64) : Int64 := if y = 0 then 0 else if ab y < 2 * ab (x - x / y * y) then qup x y (x / y) else if 2 * ab (x - x / y * y) = ab y then (if x / y - x / y / 2 * 2 = 0 then x / y else qup x y (x / y)) else x / y
def tw2 (k : Nat) (x y : Int64) : Int64 := if isE x = true then x else if isE y = true then y else if k = 43 then nb (x + y) else if k = 45 then nb (x - y) else if k = 42 then nb (qt (x * y) 10000) else if y = 0 then 1000000001 else nb (qt (x * 10000) y)
def ngv (v : Int64) : Int64 := if isE v = true then v else -v
def cv (v : Int64) : Int64 := if isE v = true then v + 3000000000 else v
def VB (v : Int64) : Prop := -1000000000 ≤ v.toInt ∧ v.toInt ≤ 1000000004
section ARI
variable {x y v w : Int64} {h : pm_H} {S : rs_S} {k : Nat}
theorem isE_i : isE v = true ↔ 1000000000 < v.toInt := by
  unfold isE
  rw [decide_eq_true_iff, Int64.lt_iff_toInt_lt]
  exact Iff.rfl
theorem isE_n : isE v = false ↔ v.toInt ≤ 1000000000 := by
  rw [← Bool.not_eq_true, isE_i]
  omega
theorem nb_i : (nb v).toInt = if v.toInt < -1000000000 then 1000000004 else if 1000000000 < v.toInt then 1000000004 else v.toInt := by
  unfold nb
  have e1 : (v < (-1000000000 : Int64)) ↔ v.toInt < -1000000000 := Int64.lt_iff_toInt_lt
  have e2 : ((1000000000 : Int64) < v) ↔ 1000000000 < v.toInt := Int64.lt_iff_toInt_lt
  by_cases h1 : v.toInt < -1000000000
  · rw [if_pos (e1.mpr h1), if_pos h1]; rfl
  · rw [if_neg (fun z => h1 (e1.mp z)), if_neg h1]
    by_cases h2 : 1000000000 < v.toInt
    · rw [if_pos (e2.mpr h2), if_pos h2]; rfl
    · rw [if_neg (fun z => h2 (e2.mp z)), if_neg h2]
theorem nb_B : VB (nb v) := by
  unfold VB
  rw [nb_i]
  split
  · omega
  · split <;> omega
theorem cv_i (B : VB v) : (cv v).toInt = if 1000000000 < v.toInt then v.toInt + 3000000000 else v.toInt := by
  obtain ⟨b1, b2⟩ := B
  have e3 : (3000000000 : Int64).toInt = 3000000000 := rfl
  unfold cv
  by_cases h1 : 1000000000 < v.toInt
  · rw [if_pos (isE_i.mpr h1), if_pos h1, j_add (by omega) (by omega), e3]
  · rw [if_neg (fun z => h1 (isE_i.mp z)), if_neg h1]
theorem ab_i (h1 : -9000000000000000000 ≤ v.toInt) (h2 : v.toInt ≤ 9000000000000000000) : (ab v).toInt = (v.toInt.natAbs : Int) := by
  unfold ab
  have e1 : (v < (0 : Int64)) ↔ v.toInt < 0 := Int64.lt_iff_toInt_lt
  by_cases q : v.toInt < 0
  · rw [if_pos (e1.mpr q), j_neg h1 h2]; omega
  · rw [if_neg (fun z => q (e1.mp z))]; omega
/-! the class -/
theorem c206 : ll_206 v h = rtJ (ab v) h := by
  unfold ll_206 ab
  by_cases q : v < 0
  · rw [if_neg (fun z => absurd ((lg_cmp_ge _ _).mp z) (lg_lt_not_le q)), if_pos q]
  · rw [if_pos ((lg_cmp_ge _ _).mpr (by rcases lg_tri v 0 with z | z | z
                                        · exact absurd z q
                                        · rw [z]; decide
                                        · exact Int64.le_of_lt z)), if_neg q]
theorem lge_n : (0 : Int32) ≤ lg_cmp v 0 ↔ ¬ v < 0 := by
  rw [lg_cmp_ge, Int64.le_iff_toInt_le, Int64.lt_iff_toInt_lt]
  omega
theorem l58 : l205_58 x y w h = rtJ (qup x y w) h := by
  unfold l205_58 l205_69 l205_80 qup
  by_cases q1 : x < 0
  · rw [if_neg (fun z => lge_n.mp z q1)]
    by_cases q2 : y < 0
    · rw [if_neg (fun z => lge_n.mp z q2), if_pos rfl, if_pos (by rw [decide_eq_true q1, decide_eq_true q2])]
    · rw [if_pos (lge_n.mpr q2), if_neg (by decide), if_neg (by rw [decide_eq_true q1, decide_eq_false q2]; decide)]
  · rw [if_pos (lge_n.mpr q1)]
    by_cases q2 : y < 0
    · rw [if_neg (fun z => lge_n.mp z q2), if_neg (by decide), if_neg (by rw [decide_eq_false q1, decide_eq_true q2]; decide)]
    · rw [if_pos (lge_n.mpr q2), if_pos rfl, if_pos (by rw [decide_eq_false q1, decide_eq_false q2])]
theorem c205 : ll_205 x y h = rtJ (qt x y) h := by
  unfold ll_205 qt
  by_cases h0 : y = 0
  · rw [if_pos ((lg_cmp_eq _ _).mpr h0), if_pos h0]
  · rw [if_neg (fun e => h0 ((lg_cmp_eq _ _).mp e)), if_neg h0, if_neg h0, c206, rt_J, c206, rt_J, if_neg h0]
    by_cases h1 : ab y < 2 * ab (x - x / y * y)
    · rw [if_pos ((lg_cmp_gt _ _).mpr h1), if_pos h1, l58]
    · rw [if_neg (fun e => h1 ((lg_cmp_gt _ _).mp e)), if_neg h1]
      by_cases h2 : 2 * ab (x - x / y * y) = ab y
      · rw [if_pos ((lg_cmp_eq _ _).mpr h2), if_pos h2]
        by_cases h3 : x / y - x / y / 2 * 2 = 0
        · rw [if_pos ((lg_cmp_eq _ _).mpr h3), if_pos h3]
        · rw [if_neg (fun e => h3 ((lg_cmp_eq _ _).mp e)), if_neg h3, l58]
      · rw [if_neg (fun e => h2 ((lg_cmp_eq _ _).mp e)), if_neg h2]
theorem c198 : ll_198 v h = rtI (if isE v = true then 1 else 0) h := by
  unfold ll_198
  by_cases q : isE v = true
  · rw [if_pos q, if_neg (fun z => by
      have z := (lg_cmp_le _ _).mp z
      have q2 := isE_i.mp q
      rw [Int64.le_iff_toInt_le] at z
      have e : (1000000000 : Int64).toInt = 1000000000 := rfl
      omega)]
  · rw [if_neg q, if_pos ((lg_cmp_le _ _).mpr (by
      have q2 := isE_n.mp (by simpa using q)
      rw [Int64.le_iff_toInt_le]
      exact q2))]
theorem c195 {e : Int32} : ll_195 e h = rtJ (1000000000 + e.toInt64) h := rfl
theorem c202 : ll_202 v h = rtJ (nb v) h := by
  unfold ll_202 nb l202_16
  by_cases h1 : v < (-1000000000 : Int64)
  · rw [if_pos ((lg_cmp_lt _ _).mpr h1), if_pos h1]; rfl
  · rw [if_neg (fun e => h1 ((lg_cmp_lt _ _).mp e)), if_neg h1]
    by_cases h2 : (1000000000 : Int64) < v
    · rw [if_neg (fun e => lg_lt_not_le h2 ((lg_cmp_le _ _).mp e)), if_pos h2]; rfl
    · rw [if_pos ((lg_cmp_le _ _).mpr (by rw [Int64.le_iff_toInt_le]; rw [Int64.lt_iff_toInt_lt] at h2; omega)), if_neg h2]
def jmx (x y : Int64) : Int64 := if x < y then y else x
theorem c203 : ll_203 x y h = rtJ (jmx x y) h := by
  unfold ll_203 jmx
  by_cases h1 : x < y
  · rw [if_pos ((lg_cmp_lt _ _).mpr h1), if_pos h1]
  · rw [if_neg (fun e => h1 ((lg_cmp_lt _ _).mp e)), if_neg h1]
/-! both quotients are the same number -/
def rnu (X Y : Int) : Nat := if Y.natAbs < 2 * (X.natAbs % Y.natAbs) ∨ (2 * (X.natAbs % Y.natAbs) = Y.natAbs ∧ X.natAbs / Y.natAbs % 2 = 1) then X.natAbs / Y.natAbs + 1 else X.natAbs / Y.natAbs
def rn (X Y : Int) : Int := if decide (X < 0) = decide (Y < 0) then (rnu X Y : Int) else -(rnu X Y : Int)
theorem td_i (X Y : Int) : X.tdiv Y = if decide (X < 0) = decide (Y < 0) then ((X.natAbs / Y.natAbs : Nat) : Int) else -((X.natAbs / Y.natAbs : Nat) : Int) := by
  have p1 : ∀ m : Nat, decide (Int.ofNat m < 0) = false := fun m => decide_eq_false (by show ¬ ((m : Int) < 0); omega)
  have p2 : ∀ m : Nat, decide (Int.negSucc m < 0) = true := fun m => decide_eq_true (by omega)
  cases X with
  | ofNat m =>
    cases Y with
    | ofNat k => rw [p1, p1, if_pos rfl]; rfl
    | negSucc k => rw [p1, p2, if_neg (by decide)]; rfl
  | negSucc m =>
    cases Y with
    | ofNat k => rw [p1, p2, if_neg (by decide)]; rfl
    | negSucc k => rw [p2, p2, if_pos rfl]; rfl
theorem lt0_i : decide (x < 0) = decide (x.toInt < 0) := by
  have e : (x < (0 : Int64)) ↔ x.toInt < 0 := Int64.lt_iff_toInt_lt
  by_cases q : x.toInt < 0
  · rw [decide_eq_true q, decide_eq_true (e.mpr q)]
  · rw [decide_eq_false q, decide_eq_false (fun z => q (e.mp z))]
/-- what is left by a division -/
theorem rem_i (h1 : -2000000000000000000 ≤ x.toInt) (h2 : x.toInt ≤ 2000000000000000000) : (x - x / y * y).toInt = x.toInt.tmod y.toInt := by
  have e1 := j_div (y := y) (show -9000000000000000000 ≤ x.toInt by omega) (by omega)
  have e2 := Int.tmod_def x.toInt y.toInt
  have e3 := Int.natAbs_tmod x.toInt y.toInt
  have e4 : x.toInt.natAbs % y.toInt.natAbs ≤ x.toInt.natAbs := Nat.mod_le _ _
  have e5 : (x / y).toInt * y.toInt = x.toInt - x.toInt.tmod y.toInt := by
    rw [e1, Int.mul_comm]
    omega
  have e6 := j_mul e5 (by omega) (by omega)
  rw [j_sub (by rw [e6]; omega) (by rw [e6]; omega), e6]
  omega
theorem qt_i (h1 : -1000000000000000000 ≤ x.toInt) (h2 : x.toInt ≤ 1000000000000000000) (h3 : y.toInt ≠ 0) (h4 : -1000000000 ≤ y.toInt) (h5 : y.toInt ≤ 1000000000) : (qt x y).toInt = rn x.toInt y.toInt := by
  have e1 := j_div (y := y) (show -9000000000000000000 ≤ x.toInt by omega) (by omega)
  have er := rem_i (y := y) (show -2000000000000000000 ≤ x.toInt by omega) (by omega)
  have em := Int.natAbs_tmod x.toInt y.toInt
  have hl : x.toInt.natAbs % y.toInt.natAbs < y.toInt.natAbs := Nat.mod_lt _ (by omega)
  have ea := ab_i (v := x - x / y * y) (by rw [er]; omega) (by rw [er]; omega)
  rw [er, em] at ea
  have ey := ab_i (v := y) (by omega) (by omega)
  have e2 : (2 : Int64).toInt = 2 := rfl
  have e2a : (2 * ab (x - x / y * y)).toInt = 2 * ((x.toInt.natAbs % y.toInt.natAbs : Nat) : Int) := j_mul (by rw [ea]; rfl) (by omega) (by omega)
  have hd : x.toInt.natAbs / y.toInt.natAbs ≤ x.toInt.natAbs := Nat.div_le_self _ _
  have et := td_i x.toInt y.toInt
  have nd := Int.natAbs_tdiv x.toInt y.toInt
  have nd' : (x.toInt.tdiv y.toInt).natAbs = x.toInt.natAbs / y.toInt.natAbs := nd
  have ep := rem_i (x := x / y) (y := 2) (by rw [e1]; omega) (by rw [e1]; omega)
  have em2 := Int.natAbs_tmod (x / y).toInt (2 : Int64).toInt
  rw [e1, e2] at em2
  have em3 : ((x.toInt.tdiv y.toInt).tmod 2).natAbs = x.toInt.natAbs / y.toInt.natAbs % 2 := by rw [em2, nd']; rfl
  have hup : ∀ b : Bool, (qup x y (x / y)).toInt = if decide (x.toInt < 0) = decide (y.toInt < 0) then ((x.toInt.natAbs / y.toInt.natAbs + 1 : Nat) : Int) else -((x.toInt.natAbs / y.toInt.natAbs + 1 : Nat) : Int) := by
    intro _
    have e11 : (1 : Int64).toInt = 1 := rfl
    unfold qup
    rw [lt0_i, lt0_i]
    by_cases q : decide (x.toInt < 0) = decide (y.toInt < 0)
    · rw [if_pos q] at et
      rw [if_pos q, if_pos q, j_add (by rw [e1, e11]; omega) (by rw [e1, e11]; omega), e1, e11, et]
      omega
    · rw [if_neg q] at et
      rw [if_neg q, if_neg q, j_sub (by rw [e1, e11]; omega) (by rw [e1, e11]; omega), e1, e11, et]
      omega
  have hup := hup true
  unfold qt rn
  rw [if_neg (fun z => h3 (by rw [z]; rfl))]
  by_cases g1 : y.toInt.natAbs < 2 * (x.toInt.natAbs % y.toInt.natAbs)
  · rw [if_pos (by rw [Int64.lt_iff_toInt_lt, ey, e2a]; omega), hup, show rnu x.toInt y.toInt = x.toInt.natAbs / y.toInt.natAbs + 1 from by unfold rnu; rw [if_pos (Or.inl g1)]]
  · rw [if_neg (by rw [Int64.lt_iff_toInt_lt, ey, e2a]; omega)]
    by_cases g2 : 2 * (x.toInt.natAbs % y.toInt.natAbs) = y.toInt.natAbs
    · rw [if_pos (Int64.toInt_inj.mp (by rw [ey, e2a]; omega))]
      by_cases g3 : x.toInt.natAbs / y.toInt.natAbs % 2 = 1
      · rw [if_neg (fun z => by
          have z2 := congrArg Int64.toInt z
          rw [ep, e1, e2] at z2
          rw [z2] at em3
          have : (0 : Int64).toInt.natAbs = 0 := rfl
          omega), hup, show rnu x.toInt y.toInt = x.toInt.natAbs / y.toInt.natAbs + 1 from by unfold rnu; rw [if_pos (Or.inr ⟨g2, g3⟩)]]
      · rw [if_pos (Int64.toInt_inj.mp (by
          rw [ep, e1, e2]
          have : (0 : Int64).toInt = 0 := rfl
          omega)), e1, show rnu x.toInt y.toInt = x.toInt.natAbs / y.toInt.natAbs from by unfold rnu; rw [if_neg (by omega)]]
        exact et
    · rw [if_neg (fun z => g2 (by
        have z2 := congrArg Int64.toInt z
        rw [ey, e2a] at z2
        omega)), e1, show rnu x.toInt y.toInt = x.toInt.natAbs / y.toInt.natAbs from by unfold rnu; rw [if_neg (by omega)]]
      exact et
/-! the reference -/
theorem q298 : rf_298 v S = some (ab v, S) := by
  unfold rf_298 ab
  by_cases q : v < 0
  · rw [if_neg (fun z => lge_n.mp z q), if_pos q]
  · rw [if_pos (lge_n.mpr q), if_neg q]
def qsg (x y w : Int64) : Int64 := if decide (x < 0) = decide (y < 0) then w else -w
theorem r66 : r297_66 x y w S = some (qsg x y w, S) := by
  unfold r297_66 r297_79 r297_90 qsg
  by_cases q1 : x < 0
  · rw [if_neg (fun z => lge_n.mp z q1)]
    by_cases q2 : y < 0
    · rw [if_neg (fun z => lge_n.mp z q2), if_pos rfl, if_pos (by rw [decide_eq_true q1, decide_eq_true q2])]
    · rw [if_pos (lge_n.mpr q2), if_neg (by decide), if_neg (by rw [decide_eq_true q1, decide_eq_false q2]; decide)]
  · rw [if_pos (lge_n.mpr q1)]
    by_cases q2 : y < 0
    · rw [if_neg (fun z => lge_n.mp z q2), if_neg (by decide), if_neg (by rw [decide_eq_false q1, decide_eq_true q2]; decide)]
    · rw [if_pos (lge_n.mpr q2), if_pos rfl, if_pos (by rw [decide_eq_false q1, decide_eq_false q2])]
theorem qsg_i {m : Nat} (hm : m ≤ 2000000000000000000) (e : w.toInt = (m : Int)) : (qsg x y w).toInt = if decide (x.toInt < 0) = decide (y.toInt < 0) then (m : Int) else -(m : Int) := by
  unfold qsg
  rw [lt0_i, lt0_i]
  by_cases q : decide (x.toInt < 0) = decide (y.toInt < 0)
  · rw [if_pos q, if_pos q, e]
  · rw [if_neg q, if_neg q, j_neg (by omega) (by omega), e]
theorem q297 (h1 : -1000000000000000000 ≤ x.toInt) (h2 : x.toInt ≤ 1000000000000000000) (h3 : y.toInt ≠ 0) (h4 : -1000000000 ≤ y.toInt) (h5 : y.toInt ≤ 1000000000) : rf_297 x y S = some (qt x y, S) := by
  have eq := qt_i h1 h2 h3 h4 h5
  have ex := ab_i (v := x) (by omega) (by omega)
  have ey := ab_i (v := y) (by omega) (by omega)
  have hy : ¬ ab y = 0 := fun z => by
    have z2 := congrArg Int64.toInt z
    rw [ey] at z2
    have : (0 : Int64).toInt = 0 := rfl
    omega
  have hl : x.toInt.natAbs % y.toInt.natAbs < y.toInt.natAbs := Nat.mod_lt _ (by omega)
  have hd : x.toInt.natAbs / y.toInt.natAbs ≤ x.toInt.natAbs := Nat.div_le_self _ _
  have e1 : (ab x / ab y).toInt = ((x.toInt.natAbs / y.toInt.natAbs : Nat) : Int) := by
    rw [j_div (by omega) (by omega), ex, ey]
    rfl
  have er := rem_i (x := ab x) (y := ab y) (by omega) (by omega)
  have er' : (ab x - ab x / ab y * ab y).toInt = ((x.toInt.natAbs % y.toInt.natAbs : Nat) : Int) := by
    rw [er, ex, ey]
    rfl
  have e2 : (2 : Int64).toInt = 2 := rfl
  have e2a : (2 * (ab x - ab x / ab y * ab y)).toInt = 2 * ((x.toInt.natAbs % y.toInt.natAbs : Nat) : Int) := j_mul (by rw [er']; rfl) (by omega) (by omega)
  have hq0 : 0 ≤ (ab x / ab y).toInt := by rw [e1]; exact Int.natCast_nonneg _
  have hq1 : (ab x / ab y).toInt ≤ 1000000000000000000 := by
    rw [e1]
    have : x.toInt.natAbs / y.toInt.natAbs ≤ 1000000000000000000 := by omega
    exact Int.ofNat_le.mpr this
  have ep := rem_i (x := ab x / ab y) (y := 2) (by omega) (by omega)
  rw [e1, e2] at ep
  have ep' : (ab x / ab y - ab x / ab y / 2 * 2).toInt = ((x.toInt.natAbs / y.toInt.natAbs % 2 : Nat) : Int) := by rw [ep]; rfl
  have e11 : (1 : Int64).toInt = 1 := rfl
  have eu : (ab x / ab y + 1).toInt = ((x.toInt.natAbs / y.toInt.natAbs + 1 : Nat) : Int) := by
    rw [j_add (by omega) (by omega), e1, e11]
    rfl
  unfold rf_297 r297_57 r297_64
  rw [q298, rb_r, q298, rb_r, if_neg hy, if_neg hy, r66, r66]
  have fin : ∀ (w : Int64) (m : Nat), w.toInt = (m : Int) → m ≤ 2000000000000000000 → rnu x.toInt y.toInt = m → (some (qsg x y w, S) : Option (Int64 × rs_S)) = some (qt x y, S) := by
    intro w m g1 g2 g3
    have : qsg x y w = qt x y := Int64.toInt_inj.mp (by rw [qsg_i g2 g1, eq]; unfold rn; rw [g3])
    rw [this]
  by_cases g1 : y.toInt.natAbs < 2 * (x.toInt.natAbs % y.toInt.natAbs)
  · rw [if_pos ((lg_cmp_gt _ _).mpr (by rw [Int64.lt_iff_toInt_lt, ey, e2a]; omega))]
    exact fin _ _ eu (by omega) (by unfold rnu; rw [if_pos (Or.inl g1)])
  · rw [if_neg (fun z => by
      have z := (lg_cmp_gt _ _).mp z
      rw [Int64.lt_iff_toInt_lt, ey, e2a] at z
      omega)]
    by_cases g2 : 2 * (x.toInt.natAbs % y.toInt.natAbs) = y.toInt.natAbs
    · rw [if_pos ((lg_cmp_eq _ _).mpr (Int64.toInt_inj.mp (by rw [ey, e2a]; omega)))]
      by_cases g3 : x.toInt.natAbs / y.toInt.natAbs % 2 = 1
      · rw [if_pos ((lg_cmp_eq _ _).mpr (Int64.toInt_inj.mp (by rw [ep', e11]; omega)))]
        exact fin _ _ eu (by omega) (by unfold rnu; rw [if_pos (Or.inr ⟨g2, g3⟩)])
      · rw [if_neg (fun z => g3 (by
          have z2 := congrArg Int64.toInt ((lg_cmp_eq _ _).mp z)
          rw [ep', e11] at z2
          omega))]
        exact fin _ _ e1 (by omega) (by unfold rnu; rw [if_neg (by omega)])
    · rw [if_neg (fun z => g2 (by
        have z2 := congrArg Int64.toInt ((lg_cmp_eq _ _).mp z)
        rw [ey, e2a] at z2
        omega))]
      exact fin _ _ e1 (by omega) (by unfold rnu; rw [if_neg (by omega)])
theorem q295 : rf_295 v S = some ((if 1000000000 < v.toInt ∨ v.toInt < -1000000000 then 1 else 0), S) := by
  unfold rf_295
  have e1 : (0 : Int32) < lg_cmp v 1000000000 ↔ 1000000000 < v.toInt := by rw [lg_cmp_gt, Int64.lt_iff_toInt_lt]; exact Iff.rfl
  have e2 : (0 : Int32) ≤ lg_cmp v (-1000000000) ↔ -1000000000 ≤ v.toInt := by rw [lg_cmp_ge, Int64.le_iff_toInt_le]; exact Iff.rfl
  by_cases h1 : 1000000000 < v.toInt
  · rw [if_pos (e1.mpr h1), if_pos (Or.inl h1)]
  · rw [if_neg (fun z => h1 (e1.mp z))]
    by_cases h2 : -1000000000 ≤ v.toInt
    · rw [if_pos (e2.mpr h2), if_neg (by omega)]
    · rw [if_neg (fun z => h2 (e2.mp z)), if_pos (by omega)]
/-- a number that is none, on both sides -/
theorem r97 : r296_97 v S = some (cv (nb v), S) := by
  unfold r296_97
  rw [q295, rb_r]
  by_cases h1 : 1000000000 < v.toInt ∨ v.toInt < -1000000000
  · have e : nb v = 1000000004 := Int64.toInt_inj.mp (by
      rw [nb_i]
      have : (1000000004 : Int64).toInt = 1000000004 := rfl
      split
      · exact this.symm
      · rw [if_pos (by omega)]; exact this.symm)
    rw [if_pos h1, if_neg (by decide), e]
    rfl
  · have e : nb v = v := Int64.toInt_inj.mp (by rw [nb_i, if_neg (by omega), if_neg (by omega)])
    have e2 : isE v = false := isE_n.mpr (by omega)
    rw [if_neg h1, if_pos rfl, e]
    unfold cv
    rw [if_neg (by rw [e2]; decide)]
theorem mul_b {X Y : Int} (h1 : -1000000000 ≤ X) (h2 : X ≤ 1000000000) (h3 : -1000000000 ≤ Y) (h4 : Y ≤ 1000000000) : -1000000000000000000 ≤ X * Y ∧ X * Y ≤ 1000000000000000000 := by
  have h := Int.natAbs_mul X Y
  have h5 : X.natAbs * Y.natAbs ≤ 1000000000 * 1000000000 := Nat.mul_le_mul (by omega) (by omega)
  rw [← h] at h5
  generalize X * Y = z at h5
  omega
theorem c4e (B : VB v) : (lg_cmp (cv v) 4000000000 < (0 : Int32) ↔ isE v = false) ∧ ((0 : Int32) ≤ lg_cmp (cv v) 4000000000 ↔ isE v = true) := by
  have e := cv_i B
  have e4 : (4000000000 : Int64).toInt = 4000000000 := rfl
  rw [lg_cmp_lt, lg_cmp_ge, Int64.lt_iff_toInt_lt, Int64.le_iff_toInt_le, isE_n, isE_i, e, e4]
  obtain ⟨b1, b2⟩ := B
  by_cases q : 1000000000 < v.toInt
  · rw [if_pos q]; omega
  · rw [if_neg q]; omega
theorem cv_n (q : isE v = false) : cv v = v := by
  unfold cv
  rw [if_neg (by rw [q]; decide)]
theorem tw2_B (B1 : VB x) (B2 : VB y) : VB (tw2 k x y) := by
  unfold tw2
  split
  · exact B1
  · split
    · exact B2
    · split
      · exact nb_B
      · split
        · exact nb_B
        · split
          · exact nb_B
          · split
            · exact ⟨by decide, by decide⟩
            · exact nb_B
theorem q296 (B1 : VB x) (B2 : VB y) (hk : k = 43 ∨ k = 45 ∨ k = 42 ∨ k = 47) : rf_296 (Int32.ofNat k) (cv x) (cv y) S = some (cv (tw2 k x y), S) := by
  unfold rf_296 tw2
  cases q1 : isE x with
  | true =>
    rw [if_pos ((c4e B1).2.mpr q1)]
    unfold r296_16
    rw [if_neg (fun z => by rw [(c4e B1).1.mp z] at q1; cases q1), if_pos rfl]
  | false =>
    rw [if_neg (fun z => by rw [(c4e B1).2.mp z] at q1; cases q1), if_neg (show ¬ (false : Bool) = true by decide)]
    cases q2 : isE y with
    | true =>
      rw [if_neg (fun z => by rw [(c4e B2).1.mp z] at q2; cases q2)]
      unfold r296_16
      rw [if_pos ((c4e B1).1.mpr q1), if_pos rfl]
    | false =>
      rw [if_pos ((c4e B2).1.mpr q2), if_neg (show ¬ (false : Bool) = true by decide), cv_n q1, cv_n q2]
      obtain ⟨b1, _⟩ := B1
      obtain ⟨b2, _⟩ := B2
      have q1' := isE_n.mp q1
      have q2' := isE_n.mp q2
      have e0 : (0 : Int64).toInt = 0 := rfl
      have eM : (10000 : Int64).toInt = 10000 := rfl
      unfold r296_46
      rcases hk with rfl | rfl | rfl | rfl
      · rw [if_neg (by decide), if_pos (by decide), if_pos rfl, r97]
      · rw [if_neg (by decide), if_neg (by decide), if_pos (by decide), if_neg (by decide), if_pos rfl, r97]
      · obtain ⟨m1, m2⟩ := mul_b b1 q1' b2 q2'
        have em := j_mul (x := x) (y := y) rfl (by omega) (by omega)
        rw [if_neg (by decide), if_neg (by decide), if_neg (by decide), if_pos (by decide), if_neg (by decide), if_neg (by decide), if_pos rfl, q297 (by omega) (by omega) (by rw [eM]; omega) (by rw [eM]; omega) (by rw [eM]; omega), rb_r, r97]
      · rw [if_pos (by decide), if_neg (show ¬ (47 : Nat) = 43 by decide), if_neg (show ¬ (47 : Nat) = 45 by decide), if_neg (show ¬ (47 : Nat) = 42 by decide)]
        by_cases q3 : y = 0
        · rw [if_pos ((lg_cmp_eq _ _).mpr q3), if_pos q3]
          rfl
        · have em := j_mul (x := x) (y := 10000) (z := x.toInt * 10000) (by rw [eM]) (by omega) (by omega)
          rw [if_neg (fun z => q3 ((lg_cmp_eq _ _).mp z)), if_neg q3, if_neg (by decide), if_neg (by decide), if_neg (by decide), q297 (by omega) (by omega) (fun z => q3 (Int64.toInt_inj.mp (by rw [z, e0]))) (by omega) (by omega), rb_r, r97]
end ARI
