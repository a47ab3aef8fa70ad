/-! ALSO: taken writes of a cell that no other taken one knew -/
def pst (D : aD) (j m : Nat) : Nat := (D j).elim 0 (fun r => rpa r m)
def ovB (D : aD) (F : fo) (y z x : Nat) : Nat → Nat → Bool
  | 0, _ => false
  | n + 1, j => (qW D F y z j && decide (x % 40 < pst D j (x / 40))) || ovB D F y z x n (j + 1)
def alB (D : aD) (F : fo) (y z n x : Nat) : Bool := qW D F y z x && (!decide (wtc D F y z = some x) && !ovB D F y z x n 0)
def cal (D : aD) (F : fo) (y z n0 : Nat) : Nat → Nat → Nat
  | 0, _ => 0
  | n + 1, j => (if alB D F y z n0 j = true then 1 else 0) + cal D F y z n0 n (j + 1)
section ALS
variable {A A' A1 A2 : ah} {h h1 : pm_H} {M : aM} {D : aD} {F : fo} {G : Nat → fo} {S S' : rs_S} {o i j k p q x y z a b n m c n0 : Nat} {T U : List Nat} {r : rc} {u : Int64} {w : Option Nat} {a1 a2 a3 : Int32} {cs : List (Nat × Nat)} {yy : pm_C}
theorem qW_e (hi : D i = some r) : qW D F y z i = (tkB F i && decide (rk r = 6 ∧ rrw r = some y ∧ rcl r = some z)) := by
  unfold qW
  rw [knd_e hi, hi, Option.bind_some, Option.bind_some]
  cases tkB F i with
  | false => rfl
  | true => simp
theorem qW_no (hD : D i = none) (hT : ∀ i, i < 120 → tkn F i → AN D i) (hi : i < 120) : tkB F i = false := by
  cases e : tkB F i with
  | false => rfl
  | true =>
    obtain ⟨r, hr⟩ := hT i hi (tkB_t.mp e)
    rw [hD] at hr
    cases hr
theorem c215 {rx : rc} (R : ar A h) (V : Cd M A D) (W : Wd D) (hx : D x = some rx) (hj : D j = some r) : ll_215 (some (M 0 x)) (some (M 0 j)) h = rtI (if x % 40 < pst D j (x / 40) then 1 else 0) h := by
  have hx1 := (W x rx hx).1
  have hcx := ar_c R (V.1 x rx hx).1
  have hcj := ar_c R (V.1 j r hj).1
  have hch := ar_c R (V.1 j r hj).2.1
  have hp := (W j r hj).2.2.2.2.1 (x / 40)
  have e : pst D j (x / 40) = rpa r (x / 40) := by unfold pst; rw [hj]; rfl
  unfold ll_215
  rw [hc_R (o := some (M 3 j)) hcj rfl, Option.bind_some, hc_I hcx rfl, Option.bind_some, hc_ldI hch rfl (by omega) (ra_get (show x / 40 < 3 by omega)), Option.bind_some, hc_I hcx rfl, Option.bind_some, e]
  by_cases q : rpa r (x / 40) < x % 40 + 1
  · rw [if_pos ((i32_ltn (by omega) (by omega)).mpr q), if_neg (by omega)]
  · rw [if_neg (fun g => q ((i32_ltn (by omega) (by omega)).mp g)), if_pos (by omega)]
theorem c214l {rx : rc} (R : ar A h) (C : Cf M A o F) (V : Cd M A D) (W : Wd D) (Wff : Wf D o F) (hA : ∀ i, i < 120 → tkn F i → fA F i = true) (hx : D x = some rx) (h6 : rk rx = 6) (e1 : rwo D x = y) (e2 : clo D x = z) : ∀ n m j, j + n = 120 → n < m → l214_2 m (some (94 + 17 * o)) (some (M 0 x)) (Int32.ofNat j) h = rtI (if ovB D F y z x n j = true then 1 else 0) h := by
  obtain ⟨-, -, n1, n2⟩ := act_wr W hx h6
  obtain ⟨r8, r9, -⟩ := act_rd R V W hx h6
  rw [e1] at n1 r8
  rw [e2] at n2 r9
  intro n
  induction n with
  | zero =>
    intro m j h1 h2
    have e : j = 120 := by omega
    subst e
    cases m with
    | zero => omega
    | succ m =>
      rw [l214_2]
      dsimp only
      rw [if_pos (by decide)]
      rfl
  | succ n ih =>
    intro m j h1 h2
    cases m with
    | zero => omega
    | succ m =>
      have n4 : Int32.ofNat j + (1 : Int32) = Int32.ofNat (j + 1) := i32_add j 1
      obtain ⟨f1, f2⟩ := act_ld R C (i := j) (by omega)
      rw [l214_2]
      dsimp only
      rw [if_neg (show ¬ (120 : Int32) ≤ Int32.ofNat j from fun z => by have := (i32_len (a := 120) (by omega) (by omega)).mp z; omega), f1, Option.bind_some, f2, Option.bind_some, ovB]
      unfold l214_52
      rw [n4]
      have ihj := ih m (j + 1) (by omega) (by omega)
      have skip : qW D F y z j = false → l214_2 m (some (94 + 17 * o)) (some (M 0 x)) (Int32.ofNat (j + 1)) h = rtI (if (qW D F y z j && decide (x % 40 < pst D j (x / 40)) || ovB D F y z x n (j + 1)) = true then 1 else 0) h := by
        intro e
        rw [e, Bool.false_and, Bool.false_or]
        exact ihj
      by_cases g : fA F j = true
      · obtain ⟨r, hr⟩ := Wff.2.2.1 j g
        rw [if_pos g]
        dsimp only
        rw [if_pos (hc_lc (ar_c R C.1)), c179 R C V W Wff hr, rt_I]
        by_cases t : tkB F j = true
        · rw [if_pos t, if_neg (by decide), r8, Option.bind_some, r9, Option.bind_some, if_pos (act_lc R V hr), c102 R V W hr n1 n2, rt_I]
          by_cases qw : rk r = 6 ∧ rrw r = some y ∧ rcl r = some z
          · rw [if_pos qw, if_neg (by decide), if_pos (act_lc R V hx), c215 R V W hx hr, rt_I]
            have eq : qW D F y z j = true := by rw [qW_e hr, t, decide_eq_true qw]; rfl
            rw [eq, Bool.true_and]
            by_cases pq : x % 40 < pst D j (x / 40)
            · rw [if_pos pq, if_neg (by decide), decide_eq_true pq, Bool.true_or, if_pos rfl]
            · rw [if_neg pq, if_pos rfl, decide_eq_false pq, Bool.false_or]
              exact ihj
          · rw [if_neg qw, if_pos rfl]
            exact skip (by rw [qW_e hr, decide_eq_false qw, Bool.and_false])
        · have t' : tkB F j = false := by simpa using t
          rw [if_neg t, if_pos rfl]
          exact skip (by rw [qW_e hr, t', Bool.false_and])
      · rw [if_neg g]
        dsimp only
        refine skip ?_
        unfold qW
        cases e : tkB F j with
        | false => rfl
        | true => exact absurd (hA j (by omega) (tkB_t.mp e)) g
theorem c213l (R : ar A h) (C : Cf M A o F) (V : Cd M A D) (W : Wd D) (Wff : Wf D o F) (hA : ∀ i, i < 120 → tkn F i → fA F i = true) (n1 : LN D y) (n2 : LN D z) (hn0 : n0 = 120) : ∀ n m j c, j + n = 120 → n < m → c ≤ j → l213_13 m (some (94 + 17 * o)) (some (M 1 y)) (some (M 1 z)) (Int32.ofNat c) ((wtc D F y z).map (M 0)) (Int32.ofNat j) h = rtI (Int32.ofNat (c + cal D F y z n0 n j)) h := by
  have hwx : ∀ i, wtc D F y z = some i → AN D i := fun i e => by
    obtain ⟨r, hr, -⟩ := wtc_r Wff W e
    exact ⟨r, hr⟩
  intro n
  induction n with
  | zero =>
    intro m j c h1 h2 h3
    have e : j = 120 := by omega
    subst e
    cases m with
    | zero => omega
    | succ m =>
      rw [l213_13]
      dsimp only
      rw [if_pos (by decide)]
      rfl
  | succ n ih =>
    intro m j c h1 h2 h3
    cases m with
    | zero => omega
    | succ m =>
      have n4 : Int32.ofNat j + (1 : Int32) = Int32.ofNat (j + 1) := i32_add j 1
      have n5 : Int32.ofNat c + (1 : Int32) = Int32.ofNat (c + 1) := i32_add c 1
      obtain ⟨f1, f2⟩ := act_ld R C (i := j) (by omega)
      rw [l213_13]
      dsimp only
      rw [if_neg (show ¬ (120 : Int32) ≤ Int32.ofNat j from fun z => by have := (i32_len (a := 120) (by omega) (by omega)).mp z; omega), f1, Option.bind_some, f2, Option.bind_some, cal]
      unfold l213_72
      rw [n4]
      have skip : alB D F y z n0 j = false → l213_13 m (some (94 + 17 * o)) (some (M 1 y)) (some (M 1 z)) (Int32.ofNat c) ((wtc D F y z).map (M 0)) (Int32.ofNat (j + 1)) h = rtI (Int32.ofNat (c + ((if alB D F y z n0 j = true then 1 else 0) + cal D F y z n0 n (j + 1)))) h := by
        intro e
        rw [e, if_neg (by decide), Nat.zero_add]
        exact ih m (j + 1) c (by omega) (by omega) (by omega)
      by_cases g : fA F j = true
      · obtain ⟨r, hr⟩ := Wff.2.2.1 j g
        rw [if_pos g]
        dsimp only
        rw [acmA (Cd_1 V ⟨r, hr⟩) (Cd_idn V hwx)]
        by_cases qc : wtc D F y z = some j
        · rw [if_pos (by rw [qc]; rfl)]
          exact skip (by unfold alB; rw [decide_eq_true qc, Bool.not_true, Bool.false_and, Bool.and_false])
        · rw [if_neg (show ¬ some (M 0 j) = Option.map (M 0) (wtc D F y z) from fun e => qc ((Cd_in V (q := 0) (x := some j) (y := wtc D F y z) (fun i e => by cases e; exact ⟨r, hr⟩) hwx).mp e).symm), if_pos (hc_lc (ar_c R C.1)), c179 R C V W Wff hr, rt_I]
          by_cases t : tkB F j = true
          · rw [if_pos t, if_neg (by decide), if_pos (act_lc R V hr), c102 R V W hr n1 n2, rt_I]
            by_cases qw : rk r = 6 ∧ rrw r = some y ∧ rcl r = some z
            · have eq : qW D F y z j = true := by rw [qW_e hr, t, decide_eq_true qw]; rfl
              obtain ⟨g1, g2, -, -⟩ := act_wr W hr qw.1
              have e1 : rwo D j = y := Option.some.inj (g1.symm.trans qw.2.1)
              have e2 : clo D j = z := Option.some.inj (g2.symm.trans qw.2.2)
              have c4 : ll_214 (some (94 + 17 * o)) (some (M 0 j)) h = rtI (if ovB D F y z j n0 0 = true then 1 else 0) h := by
                rw [hn0]
                exact c214l R C V W Wff hA hr qw.1 e1 e2 120 lf_N 0 rfl (by unfold lf_N; omega)
              rw [if_pos qw, if_neg (by decide), if_pos (hc_lc (ar_c R C.1)), c4, rt_I]
              have ea : alB D F y z n0 j = !ovB D F y z j n0 0 := by unfold alB; rw [eq, decide_eq_false qc]; rfl
              cases ov : ovB D F y z j n0 0 with
              | true =>
                rw [if_pos rfl, if_neg (by decide)]
                exact skip (by rw [ea, ov]; rfl)
              | false =>
                rw [if_neg (show ¬ (false : Bool) = true by decide), if_pos rfl, n5, ih m (j + 1) (c + 1) (by omega) (by omega) (by omega), ea, ov, if_pos (by decide), show c + 1 + cal D F y z n0 n (j + 1) = c + (1 + cal D F y z n0 n (j + 1)) by omega]
            · rw [if_neg qw, if_pos rfl]
              exact skip (by unfold alB; rw [qW_e hr, decide_eq_false qw, Bool.and_false, Bool.false_and])
          · have t' : tkB F j = false := by simpa using t
            rw [if_neg t, if_pos rfl]
            exact skip (by unfold alB; rw [qW_e hr, t', Bool.false_and, Bool.false_and])
      · rw [if_neg g]
        dsimp only
        refine skip ?_
        unfold alB qW
        cases e : tkB F j with
        | false => rfl
        | true => exact absurd (hA j (by omega) (tkB_t.mp e)) g
theorem c213 (R : ar A h) (C : Cf M A o F) (V : Cd M A D) (W : Wd D) (Wff : Wf D o F) (hA : ∀ i, i < 120 → tkn F i → fA F i = true) (n1 : LN D y) (n2 : LN D z) (hn0 : n0 = 120) : ll_213 (some (94 + 17 * o)) (some (M 1 y)) (some (M 1 z)) h = rtI (Int32.ofNat (cal D F y z n0 n0 0)) h := by
  unfold ll_213
  rw [if_pos (hc_lc (ar_c R C.1)), c159 R C V W Wff n1 n2, rt_R]
  have := c213l R C V W Wff hA n1 n2 hn0 n0 lf_N 0 0 (by omega) (by unfold lf_N; omega) (Nat.le_refl _)
  rw [Nat.zero_add] at this
  exact this
/-! the reference -/
theorem q301 (R : RO D o F S) (W : Wd D) (hi : i < 120) (hc : c < 120) (e33 : S.2.1 33 c = Int32.ofNat y) (e34 : S.2.1 34 c = Int32.ofNat z) (hy : y < 120) (hz : z < 120) : rf_301 (Int32.ofNat o) (Int32.ofNat i) (Int32.ofNat c) S = some ((if qW D F y z i = true then 1 else 0), S) := by
  have R' := R
  obtain ⟨ho, hD, hK, hF, hT⟩ := R'
  unfold rf_301
  rw [rdI (n := 120) (by decide) hi (by omega), Option.bind_some, q244 R hi]
  cases hd : D i with
  | none =>
    have t := qW_no hd hT hi
    have e : qW D F y z i = false := by unfold qW; rw [t]; rfl
    rw [t, e]
    split <;> rfl
  | some r =>
    obtain ⟨d1, d2, d3, d4, d5, d6, d7, d8, d9⟩ := hD i r hd
    have w1 := W i r hd
    rw [d1, qW_e hd]
    by_cases q6 : rk r = 6
    · obtain ⟨g1, g2, n1, n2⟩ := act_wr W hd q6
      have b1 := LN_lt W n1
      have b2 := LN_lt W n2
      rw [if_pos (by rw [q6]; rfl), rb_r]
      cases t : tkB F i with
      | false => rfl
      | true =>
        rw [if_pos rfl, if_neg (by decide), rdI (n := 120) (by decide) hi (by omega), Option.bind_some, (d6 q6).1, rdI (n := 120) (by decide) hc (by omega), Option.bind_some, e33, g1, g2]
        by_cases qy : rwo D i = y
        · rw [if_pos (by rw [qy]), rdI (n := 120) (by decide) hi (by omega), Option.bind_some, (d6 q6).2, rdI (n := 120) (by decide) hc (by omega), Option.bind_some, e34]
          by_cases qz : clo D i = z
          · rw [if_pos (by rw [qz]), decide_eq_true (show rk r = 6 ∧ some (rwo D i) = some y ∧ some (clo D i) = some z from ⟨q6, by rw [qy], by rw [qz]⟩)]
            rfl
          · rw [if_neg (fun g => qz (i32_inj (by omega) (by omega) g)), decide_eq_false (show ¬ (rk r = 6 ∧ some (rwo D i) = some y ∧ some (clo D i) = some z) from fun g => qz (Option.some.inj g.2.2))]
            rfl
        · rw [if_neg (fun g => qy (i32_inj (by omega) (by omega) g)), decide_eq_false (show ¬ (rk r = 6 ∧ some (rwo D i) = some y ∧ some (clo D i) = some z) from fun g => qy (Option.some.inj g.2.1))]
          rfl
    · rw [if_neg (show ¬ Int32.ofNat (rk r) = (6 : Int32) from fun g => q6 (i32_inj (b := 6) (by omega) (by omega) g)), decide_eq_false (show ¬ (rk r = 6 ∧ rrw r = some y ∧ rcl r = some z) from fun g => q6 g.1), Bool.and_false]
      rfl
theorem q300i (R : RO D o F S) (W : Wd D) (hx : x < 120) (hc : c < 120) (e33 : S.2.1 33 c = Int32.ofNat y) (e34 : S.2.1 34 c = Int32.ofNat z) (hy : y < 120) (hz : z < 120) (J : Int32 → Int32 → Int32 → Int32 → rs_S → Option (Int32 × rs_S)) {x5 : Nat} : ∀ n m j (b : Bool), j + n = 120 → n < m → r300_61 J m (Int32.ofNat o) (Int32.ofNat c) (Int32.ofNat x5) (Int32.ofNat x) (if b = true then 1 else 0) (Int32.ofNat j) S = J (Int32.ofNat o) (Int32.ofNat c) (Int32.ofNat (x5 + if (b && !ovB D F y z x n j) = true then 1 else 0)) (Int32.ofNat (x + 1)) S := by
  have nx : Int32.ofNat x + (1 : Int32) = Int32.ofNat (x + 1) := i32_add x 1
  have n5 : Int32.ofNat x5 + (1 : Int32) = Int32.ofNat (x5 + 1) := i32_add x5 1
  obtain ⟨d1, d2⟩ := i32_d40 (i := x) (by omega)
  have endf : ∀ {J61} (b : Bool), r300_121 J J61 (Int32.ofNat o) (Int32.ofNat c) (Int32.ofNat x5) (Int32.ofNat x) (if b = true then 1 else 0) S = J (Int32.ofNat o) (Int32.ofNat c) (Int32.ofNat (x5 + if b = true then 1 else 0)) (Int32.ofNat (x + 1)) S := by
    intro J61 b
    unfold r300_121 r300_135
    rw [nx, n5]
    cases b <;> rfl
  intro n
  induction n with
  | zero =>
    intro m j b h1 h2
    have e : j = 120 := by omega
    subst e
    cases m with
    | zero => omega
    | succ m =>
      rw [r300_61]
      dsimp only
      rw [if_pos (by decide), endf b]
      show _ = J _ _ (Int32.ofNat (x5 + if (b && !false) = true then 1 else 0)) _ _
      rw [Bool.not_false, Bool.and_true]
  | succ n ih =>
    intro m j b h1 h2
    cases m with
    | zero => omega
    | succ m =>
      have n4 : Int32.ofNat j + (1 : Int32) = Int32.ofNat (j + 1) := i32_add j 1
      rw [r300_61]
      dsimp only
      rw [if_neg (show ¬ (120 : Int32) ≤ Int32.ofNat j from fun z => by have := (i32_len (a := 120) (by omega) (by omega)).mp z; omega)]
      cases b with
      | false =>
        rw [if_pos (by decide), endf false]
        rfl
      | true =>
        rw [if_neg (by decide), q301 R W (show j < 120 by omega) hc e33 e34 hy hz, rb_r, ovB, Bool.true_and]
        unfold r300_108 r300_113
        rw [n4]
        have ihj := fun b => ih m (j + 1) b (by omega) (by omega)
        cases qj : qW D F y z j with
        | false =>
          rw [if_neg (show ¬ (false : Bool) = true by decide), if_pos rfl, Bool.false_and, Bool.false_or]
          have := ihj true
          rw [Bool.true_and] at this
          exact this
        | true =>
          obtain ⟨r, hr⟩ : ∃ r, D j = some r := by
            cases hd : D j with
            | none =>
              have t := qW_no hd R.2.2.2.2 (show j < 120 by omega)
              unfold qW at qj
              rw [t] at qj
              cases qj
            | some r => exact ⟨r, rfl⟩
          have hp := (W j r hr).2.2.2.2.1 (x / 40)
          have e4 := (R.2.1 j r hr).2.2.2.1 (x / 40) (by omega)
          have ep : pst D j (x / 40) = rpa r (x / 40) := by unfold pst; rw [hr]; rfl
          rw [if_pos rfl, if_neg (by decide), d1, show (3 : Int32) * Int32.ofNat j = Int32.ofNat (3 * j) from i32_ml 3 j, i32_add, rdI (n := 360) (by decide) (by omega) (by omega), Option.bind_some, e4, ← d1, d2, Bool.true_and, ep]
          by_cases pq : x % 40 < rpa r (x / 40)
          · rw [if_pos ((i32_ltn (by omega) (by omega)).mpr pq), decide_eq_true pq, Bool.true_or]
            have := ihj false
            rw [Bool.false_and] at this
            exact this
          · rw [if_neg (fun g => pq ((i32_ltn (by omega) (by omega)).mp g)), decide_eq_false pq, Bool.false_or]
            have := ihj true
            rw [Bool.true_and] at this
            exact this
theorem q300l (R : RO D o F S) (W : Wd D) (hc : c < 120) (e33 : S.2.1 33 c = Int32.ofNat y) (e34 : S.2.1 34 c = Int32.ofNat z) (e35 : S.2.1 35 c = oi (wtc D F y z)) (hw : ∀ i, wtc D F y z = some i → i < 120) (hy : y < 120) (hz : z < 120) (hn0 : n0 = 120) : ∀ n m j x5, j + n = 120 → n < m → r300_15 m (Int32.ofNat o) (Int32.ofNat c) (Int32.ofNat x5) (Int32.ofNat j) S = some (Int32.ofNat (x5 + cal D F y z n0 n j), S) := by
  intro n
  induction n with
  | zero =>
    intro m j x5 h1 h2
    have e : j = 120 := by omega
    subst e
    cases m with
    | zero => omega
    | succ m =>
      rw [r300_15]
      dsimp only
      rw [if_pos (by decide)]
      rfl
  | succ n ih =>
    intro m j x5 h1 h2
    cases m with
    | zero => omega
    | succ m =>
      have hj : j < 120 := by omega
      have ihj := fun x5 => ih m (j + 1) x5 (by omega) (by omega)
      have key : ∀ b : Bool, b = (qW D F y z j && !decide (wtc D F y z = some j)) → r300_61 (r300_15 m) lf_N (Int32.ofNat o) (Int32.ofNat c) (Int32.ofNat x5) (Int32.ofNat j) (if b = true then 1 else 0) (Int32.ofNat 0) S = some (Int32.ofNat (x5 + ((if alB D F y z n0 j = true then 1 else 0) + cal D F y z n0 n (j + 1))), S) := by
        intro b hb
        have ea : alB D F y z n0 j = (b && !ovB D F y z j 120 0) := by unfold alB; rw [hb, hn0, Bool.and_assoc]
        rw [q300i R W hj hc e33 e34 hy hz (r300_15 m) 120 lf_N 0 b rfl (by unfold lf_N; omega), ihj, ea, Nat.add_assoc]
      rw [r300_15]
      dsimp only
      rw [if_neg (show ¬ (120 : Int32) ≤ Int32.ofNat j from fun z => by have := (i32_len (a := 120) (by omega) (by omega)).mp z; omega), if_neg (i32_lt c (by omega)), q301 R W hj hc e33 e34 hy hz, rb_r, cal]
      unfold r300_55 r300_56
      cases qj : qW D F y z j with
      | false =>
        rw [if_neg (show ¬ (false : Bool) = true by decide), if_pos rfl]
        exact key false (by rw [qj]; rfl)
      | true =>
        rw [if_pos rfl, if_neg (by decide), rdI (n := 120) (by decide) hc (by omega), Option.bind_some, e35]
        by_cases qc : wtc D F y z = some j
        · rw [if_pos (by rw [qc]; rfl)]
          exact key false (by rw [qj, decide_eq_true qc]; rfl)
        · rw [if_neg (show ¬ Int32.ofNat j = oi (wtc D F y z) from fun g => qc ((oi_ij (x := some j) (y := wtc D F y z) (fun i e => by cases e; exact hj) hw).mp g).symm)]
          exact key true (by rw [qj, decide_eq_false qc]; rfl)
theorem cal_0 (hq : ∀ x, x < 120 → qW D F y z x = false) : ∀ n j, j + n ≤ 120 → cal D F y z n0 n j = 0
  | 0, _, _ => rfl
  | n + 1, j, h => by
    rw [cal, cal_0 hq n (j + 1) (by omega)]
    unfold alB
    rw [hq j (by omega)]
    rfl
theorem c212 (R : ar A h) (I : IC M A D G S T U u) (hn : n = 120) : (la_ix a1 3 = none → ll_212 (some 81) a1 a2 a3 h = tw h 14) ∧ ∀ o, la_ix a1 3 = some o → ((la_ix a2 (xS (fX (G o) 0)).length = none ∨ la_ix a3 (xS (fX (G o) 1)).length = none) → ll_212 (some 81) a1 a2 a3 h = tw h 16) ∧ ∀ p q, la_ix a2 (xS (fX (G o) 0)).length = some p → la_ix a3 (xS (fX (G o) 1)).length = some q → ll_212 (some 81) a1 a2 a3 h = rtI (Int32.ofNat (cal D (G o) ((xS (fX (G o) 0)).getD p 0) ((xS (fX (G o) 1)).getD q 0) n n 0)) h := by
  have I' := I
  obtain ⟨-, C, B, -, H, RR, -, CT⟩ := I'
  unfold ll_212
  rw [if_pos (IC_L R I), c81 R C.1]
  constructor
  · intro e; rw [e]; exact tw_R
  · intro o e1
    rw [e1]
    obtain ⟨-, ho⟩ := ix_s (by omega) e1
    have Wff := IC_W I o ho
    have hA := (H.2.2.2.2.2.2.2 o ho).1.2.2.1
    have W := H.1
    obtain ⟨x1, x2, x3⟩ := ax_rd R (C.2.2.1 o ho)
    obtain ⟨l0, -⟩ := c84p (a2 := a2) R C Wff ho
    obtain ⟨-, l1⟩ := c84p (a2 := a3) R C Wff ho
    show (_ → lb_R (rtR (some (94 + 17 * o)) h) _ = _) ∧ _
    rw [rt_R, x1, Option.bind_some, x2, Option.bind_some, l0]
    constructor
    · intro hh
      cases e2 : la_ix a2 (xS (fX (G o) 0)).length with
      | none => exact tw_R
      | some p =>
        rcases hh with g | g
        · rw [e2] at g; cases g
        · show lb_R (rtR (some (M 1 ((xS (fX (G o) 0)).getD p 0))) h) _ = _
          rw [rt_R, x1, Option.bind_some, x3, Option.bind_some, l1, g]
          exact tw_R
    · intro p q e2 e3
      have wl0 := (Wff.2.2.2.2.2.2 0 (by omega))
      have wl1 := (Wff.2.2.2.2.2.2 1 (by omega))
      have hp := (ix_s (by have := wl0.2.2.2.2.2; omega) e2).2
      have hq := (ix_s (by have := wl1.2.2.2.2.2; omega) e3).2
      have n1 := wl0.2.1 _ (gl_mem hp)
      have n2 := wl1.2.1 _ (gl_mem hq)
      show lb_R (rtR (some (94 + 17 * o)) h) _ = _
      rw [rt_R, x1, Option.bind_some, x2, Option.bind_some, l0, e2]
      show lb_R (rtR (some (M 1 ((xS (fX (G o) 0)).getD p 0))) h) _ = _
      rw [rt_R, x1, Option.bind_some, x3, Option.bind_some, l1, e3]
      show lb_R (rtR (some (M 1 ((xS (fX (G o) 1)).getD q 0))) h) _ = _
      rw [rt_R, if_pos (hc_lc (ar_c R (C.2.2.1 o ho).1)), c213 R (C.2.2.1 o ho) C.2.1 W Wff (fun i h1 h2 => (hA i h1 h2).1) n1 n2 hn, rt_I]
theorem sp_also (R : ar A h) (I : IC M A D G S T U u) (hC : CCH D G n S) (hn : n = 120) (e0 : A.1 0 = ac_c yy) : Spv w n M A D G T 211 [.inr (.inr (some 81)), .inl a1, .inl a2, .inl a3, .inr (.inr (some 177))] 300 [.inr (.inr (some 145)), .inl a1, .inl a2, .inl a3] h := by
  obtain ⟨q0, q1⟩ := q280 (a1 := a1) (a2 := a2) (a3 := a3) I.2.2.2.2.2.1 I.2.2.2.2.1.1 I.2.2.2.2.1.2.1 (IC_W I) (fun o ho => (I.2.2.2.2.1.2.2.2.2.2.2.2 o ho).1.2.1) (KRA_of I.2.2.2.2.1.1 I.2.2.2.2.2.2.2) hn hC
  obtain ⟨c0, c1⟩ := c212 (a1 := a1) (a2 := a2) (a3 := a3) R I hn
  have hL := IC_L R I
  have neg : ∀ {o : Int32} {S' : rs_S}, r300_15 lf_N o (-1) 0 0 S' = some (0, S') := by
    intro o S'
    rw [show lf_N = 19999 + 1 from rfl, r300_15]
    dsimp only
    rw [if_neg (by decide), if_pos (by decide)]
  have t2 : ∀ {v S'}, rf_300 a1 a2 a3 S = some (v, S') → ∀ h1 : pm_H, 177 ≤ h1.1.length → tx_R w 300 [.inr (.inr (some 145)), .inl a1, .inl a2, .inl a3] (rs_h S h1) (.inl (some (.inl v)), rs_h S' h1) := fun hr h1 hl => tx_l (by decide) (lq_300 (rt_300 hl hr))
  have thr : ∀ ci k, ll_212 (some 81) a1 a2 a3 h = tw h ci → rf_280 a1 a2 a3 S = some (-1, rs_setI S 0 k) → k ≠ 0 → ll_211 (some 81) a1 a2 a3 (some 177) h = some (.inl (some (.inl k)), lf_new h ci 6 []) → Spv w n M A D G T 211 [.inr (.inr (some 81)), .inl a1, .inl a2, .inl a3, .inr (.inr (some 177))] 300 [.inr (.inr (some 145)), .inl a1, .inl a2, .inl a3] h := fun ci k c q hk t1 => spv_t R I hC e0 hk (tx_l (by decide) (lq_211 t1)) (t2 (v := 0) (by unfold rf_300; rw [q, rb_r, neg]))
  cases e1 : la_ix a1 3 with
  | none =>
    have c := c0 e1
    exact thr 14 1 c (q0 e1) (by decide) (by
      unfold ll_211
      rw [if_pos hL, c, lh_It]
      rfl)
  | some o =>
    obtain ⟨c2, c3⟩ := c1 o e1
    obtain ⟨q2, q3⟩ := q1 o e1
    have ho := (ix_s (by omega) e1).2
    cases e2 : la_ix a2 (xS (fX (G o) 0)).length with
    | none =>
      have c := c2 (Or.inl e2)
      exact thr 16 2 c (q2 (Or.inl e2)) (by decide) (by
        unfold ll_211
        rw [if_pos hL, c, lh_It]
        rfl)
    | some p =>
      cases e3 : la_ix a3 (xS (fX (G o) 1)).length with
      | none =>
        have c := c2 (Or.inr e3)
        exact thr 16 2 c (q2 (Or.inr e3)) (by decide) (by
          unfold ll_211
          rw [if_pos hL, c, lh_It]
          rfl)
      | some q =>
        have g1 := c3 p q e2 e3
        obtain ⟨S', u1, u2, u3, u4⟩ := q3 p q e2 e3
        have Wff := IC_W I o ho
        have W := I.2.2.2.2.1.1
        have RR := RT_c u2 (RT_0 (v := 0) (I.2.2.2.2.2.1 o ho))
        have ea1 := (ix_s (by omega) e1).1
        have wl0 := (Wff.2.2.2.2.2.2 0 (by omega))
        have wl1 := (Wff.2.2.2.2.2.2 1 (by omega))
        have hp := (ix_s (by have := wl0.2.2.2.2.2; omega) e2).2
        have hq := (ix_s (by have := wl1.2.2.2.2.2; omega) e3).2
        have n1 := LN_lt W (wl0.2.1 _ (gl_mem hp))
        have n2 := LN_lt W (wl1.2.1 _ (gl_mem hq))
        have hr : rf_300 a1 a2 a3 S = some (Int32.ofNat (cal D (G o) ((xS (fX (G o) 0)).getD p 0) ((xS (fX (G o) 1)).getD q 0) n n 0), S') := by
          unfold rf_300
          rw [u1, rb_r, ea1]
          cases ef : fnd (clA D (G o) n) 0 ((xS (fX (G o) 0)).getD p 0) ((xS (fX (G o) 1)).getD q 0) with
          | none =>
            have hz : ∀ x, x < 120 → qW D (G o) ((xS (fX (G o) 0)).getD p 0) ((xS (fX (G o) 1)).getD q 0) x = false := by
              intro x hx
              cases qx : qW D (G o) ((xS (fX (G o) 0)).getD p 0) ((xS (fX (G o) 1)).getD q 0) x with
              | false => rfl
              | true =>
                exfalso
                cases hd : D x with
                | none =>
                  have t := qW_no hd RR.1.2.2.2.2 hx
                  unfold qW at qx
                  rw [t] at qx
                  cases qx
                | some r =>
                  rw [qW_e hd, Bool.and_eq_true, decide_eq_true_eq] at qx
                  obtain ⟨v1, v2, v3, v4⟩ := qx
                  obtain ⟨w1, w2, -, -⟩ := act_wr W hd v2
                  have hw : wtk D (G o) x = true := by unfold wtk; rw [v1, knd_e hd]; simp [v2]
                  have hm := clk_all n 0 [] x (Nat.zero_le _) (by omega) hw
                  rw [Option.some.inj (w1.symm.trans v3), Option.some.inj (w2.symm.trans v4)] at hm
                  obtain ⟨i, hi⟩ := fnd_some _ 0 _ _ hm
                  unfold clA at ef
                  rw [hi] at ef
                  cases ef
            rw [cal_0 hz n 0 (by omega)]
            exact neg
          | some i =>
            have hi := fnd_b ef
            have hl := u4.1.2.1
            have hcs := (fnd_lt _ 0 _ _ i ef).2.2
            rw [Nat.sub_zero] at hcs
            obtain ⟨b1, b2, b3, b4, b5⟩ := u4.1.2.2 i hi
            rw [hcs] at b3 b4 b5
            have := q300l RR.1 W (show i < 120 by omega) b3 b4 b5 (fun j e => by
              obtain ⟨r, -, -, w3, -⟩ := wtc_r Wff W e
              exact w3) n1 n2 hn n lf_N 0 0 (by omega) (by unfold lf_N; omega)
            rw [Nat.zero_add] at this
            exact this
        refine spv_r R I e0 R CU_refl I.2.2.1 u2 (CCH_1 u3 ho u4) (fun h5 p5 => tx_l (by decide) (lq_211 ?_)) (t2 hr)
        unfold ll_211
        rw [if_pos hL, g1, lh_Ir, p5]
        rfl
end ALS
