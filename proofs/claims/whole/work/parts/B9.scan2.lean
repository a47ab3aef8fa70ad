/-! THE FIRST of those after a place; the latest write of a cell -/
section SC3
variable {D : aD} {S : rs_S} {F : fo} {o i j l k b bd y z : Nat} {r : rc} {a : Option Nat}
theorem oi_ij {x y : Option Nat} (hx : ∀ i, x = some i → i < 120) (hy : ∀ i, y = some i → i < 120) : oi x = oi y ↔ x = y := by
  have ne : ∀ i, i < 120 → (-1 : Int32) ≠ Int32.ofNat i := fun i hi e => i32_lt i (by omega) (by rw [← e]; decide)
  constructor
  · intro e
    cases x with
    | none => cases y with
      | none => rfl
      | some j => exact absurd e (ne j (hy j rfl))
    | some i => cases y with
      | none => exact absurd e.symm (ne i (hx i rfl))
      | some j =>
        have h1 := hx i rfl
        have h2 := hy j rfl
        rw [i32_inj (by omega) (by omega) (show Int32.ofNat i = Int32.ofNat j from e)]
  · intro e; rw [e]
/-- places of a kind that are after a, with a lesser key -/
def qC (D : aD) (F : fo) (k : Nat) (a : Option Nat) (bd : Nat) (i : Nat) : Bool := tkB F i && (decide (knd D i ≤ 2) && (decide (lkd D (lnp D i) = k) && (decide ((D i).bind raf = a) && decide (kyi D i < bd))))
theorem q249s (R : RO D o F S) (W : Wd D) (hk : k < 2) (hbd : bd < 2000) (ha : ∀ x, a = some x → x < 120) {n : Nat} (hj : j < 120) {c : Option Nat} (hc : ∀ x, c = some x → AN D x) : r249_6 (n + 1) (Int32.ofNat o) (Int32.ofNat k) (oi a) (Int32.ofNat bd) (oi c) (Int32.ofNat j) S = r249_6 n (Int32.ofNat o) (Int32.ofNat k) (oi a) (Int32.ofNat bd) (oi (if qC D F k a bd j = true then nxl D c j else c)) (Int32.ofNat (j + 1)) S := by
  have n4 : Int32.ofNat j + (1 : Int32) = Int32.ofNat (j + 1) := i32_add j 1
  have R' := R
  obtain ⟨ho, hD, hK, hF, hT⟩ := R'
  have e114 : ∀ x5, r249_114 (r249_6 n) (Int32.ofNat o) (Int32.ofNat k) (oi a) (Int32.ofNat bd) x5 (Int32.ofNat j) S = r249_6 n (Int32.ofNat o) (Int32.ofNat k) (oi a) (Int32.ofNat bd) x5 (Int32.ofNat (j + 1)) S := by
    intro x5
    unfold r249_114
    rw [n4]
  rw [r249_6]
  dsimp only
  rw [if_neg (show ¬ (120 : Int32) ≤ Int32.ofNat j from fun z => by have := (i32_len (a := 120) (by omega) (by omega)).mp z; omega), rdI (n := 120) (by decide) hj (by omega), Option.bind_some, Option.bind_some]
  by_cases ht : tkB F j = true
  · obtain ⟨r, hr⟩ := hT j hj (tkB_t.mp ht)
    have w1 := W j r hr
    obtain ⟨d1, d2, d3, d4, d5, d6, d7, d8, d9⟩ := hD j r hr
    unfold qC
    rw [ht, knd_e hr, Bool.true_and, d1]
    by_cases hk2 : rk r ≤ 2
    · have hk6 : rk r ≠ 6 := by omega
      have h35 : (if Int32.ofNat (rk r) = (1 : Int32) then r249_35 (r249_6 n) (Int32.ofNat o) (Int32.ofNat k) (oi a) (Int32.ofNat bd) (oi c) (Int32.ofNat j) S else if Int32.ofNat (rk r) = (2 : Int32) then r249_35 (r249_6 n) (Int32.ofNat o) (Int32.ofNat k) (oi a) (Int32.ofNat bd) (oi c) (Int32.ofNat j) S else r249_40 (r249_6 n) (Int32.ofNat o) (Int32.ofNat k) (oi a) (Int32.ofNat bd) (oi c) (Int32.ofNat j) (0 : Int32) S) = r249_40 (r249_6 n) (Int32.ofNat o) (Int32.ofNat k) (oi a) (Int32.ofNat bd) (oi c) (Int32.ofNat j) (1 : Int32) S := by
        have hk' : rk r = 1 ∨ rk r = 2 := by have := w1.2.1; omega
        rcases hk' with e | e <;> rw [e] <;> rfl
      have hLN := (act_l0 W hr hk6).1
      have hlk := LN_k W hLN
      have haf : ∀ x, raf r = some x → x < 120 := fun x hx => by
        obtain ⟨q, hq, -⟩ := w1.2.2.2.2.2.2.2.2.1 x hx
        exact (W x q hq).1
      rw [h35]
      unfold r249_40
      rw [if_neg (by decide), q244 R hj, ht, if_pos rfl]
      first | rw [rbS_r, set0] | rw [rb_r]
      rw [if_neg (by decide), rdI (n := 120) (by decide) hj (by omega), Option.bind_some, (d5 hk6).2, decide_eq_true hk2, Bool.true_and]
      by_cases z1 : lkd D (lnp D j) = k
      · rw [if_pos (by rw [z1]), rdI (n := 120) (by decide) hj (by omega), Option.bind_some, d8 hk2, decide_eq_true z1, Bool.true_and, hr, Option.bind_some]
        by_cases z2 : raf r = a
        · rw [if_pos (by rw [z2]), (q245 hD W hr).1, decide_eq_true z2, Bool.true_and]
          have b1 := (q245 hD W hr).2
          rw [rb_r]
          by_cases z3 : kyi D j < bd
          · rw [if_neg (fun y => by have := (i32_len (by omega) (by omega)).mp y; omega), if_pos (decide_eq_true z3)]
            cases c with
            | none =>
              rw [if_pos (by decide)]
              unfold r249_110
              rw [e114]
              rfl
            | some x =>
              obtain ⟨q, hq⟩ := hc x rfl
              have wx := W x q hq
              rw [if_neg (show ¬ oi (some x) < 0 from i32_lt x (by omega)), (q245 hD W hr).1]
              try rw [rb_r]
              show rb (rf_245 (Int32.ofNat x) S) _ = _
              rw [(q245 hD W hq).1]
              rw [rb_r]
              have b2 := (q245 hD W hq).2
              by_cases z : stp D x < stp D j
              · rw [if_neg (fun y => by have := (i32_len (by omega) (by omega)).mp y; rw [kyi_lt] at this; omega)]
                unfold r249_110
                rw [e114]
                rw [nxl_p z]
                rfl
              · rw [if_pos ((i32_len (by omega) (by omega)).mpr (kyi_lt.mpr (by omega))), e114]
                rw [nxl_n z]
          · rw [if_pos ((i32_len (by omega) (by omega)).mpr (by omega)), e114, if_neg (by simpa using z3)]
        · rw [if_neg (fun y => z2 ((oi_ij haf ha).mp y)), e114, if_neg (by simp [z2])]
      · rw [if_neg (fun y => z1 (i32_inj (by omega) (by omega) y)), e114, if_neg (by simp [z1])]
    · have h40 : (if Int32.ofNat (rk r) = (1 : Int32) then r249_35 (r249_6 n) (Int32.ofNat o) (Int32.ofNat k) (oi a) (Int32.ofNat bd) (oi c) (Int32.ofNat j) S else if Int32.ofNat (rk r) = (2 : Int32) then r249_35 (r249_6 n) (Int32.ofNat o) (Int32.ofNat k) (oi a) (Int32.ofNat bd) (oi c) (Int32.ofNat j) S else r249_40 (r249_6 n) (Int32.ofNat o) (Int32.ofNat k) (oi a) (Int32.ofNat bd) (oi c) (Int32.ofNat j) (0 : Int32) S) = r249_40 (r249_6 n) (Int32.ofNat o) (Int32.ofNat k) (oi a) (Int32.ofNat bd) (oi c) (Int32.ofNat j) (0 : Int32) S := by
        have hk' : rk r = 3 ∨ rk r = 4 ∨ rk r = 5 ∨ rk r = 6 := by have := w1.2.2.1; omega
        rcases hk' with e | e | e | e <;> rw [e] <;> rfl
      rw [h40]
      unfold r249_40
      rw [if_pos rfl, e114, if_neg (by simp [hk2])]
  · have h40 : ∀ s : Int32, r249_40 (r249_6 n) (Int32.ofNat o) (Int32.ofNat k) (oi a) (Int32.ofNat bd) (oi c) (Int32.ofNat j) s S = r249_6 n (Int32.ofNat o) (Int32.ofNat k) (oi a) (Int32.ofNat bd) (oi c) (Int32.ofNat (j + 1)) S := by
      intro s
      unfold r249_40
      rw [q244 R hj, if_neg ht, rb_r, if_pos rfl, e114]
      simp only [ite_self]
    unfold r249_35
    simp only [h40, ite_self]
    rw [if_neg (by unfold qC; simp [ht])]
theorem q249l (R : RO D o F S) (W : Wd D) (hk : k < 2) (hbd : bd < 2000) (ha : ∀ x, a = some x → x < 120) : ∀ (n m j : Nat) (c : Option Nat), j + n = 120 → n < m → (∀ x, c = some x → AN D x) → r249_6 m (Int32.ofNat o) (Int32.ofNat k) (oi a) (Int32.ofNat bd) (oi c) (Int32.ofNat j) S = some (oi (scf D (qC D F k a bd) n j c), S) := by
  intro n
  induction n with
  | zero =>
    intro m j c h1 h2 hc
    have e : j = 120 := by omega
    subst e
    cases m with
    | zero => omega
    | succ m =>
      rw [r249_6]
      dsimp only
      rw [if_pos (by decide)]
      rfl
  | succ n ih =>
    intro m j c h1 h2 hc
    cases m with
    | zero => omega
    | succ m =>
      rw [q249s R W hk hbd ha (by omega) hc, scf]
      refine ih m (j + 1) _ (by omega) (by omega) ?_
      intro x hx
      by_cases z : qC D F k a bd j = true
      · rw [if_pos z] at hx
        unfold nxl at hx
        by_cases y : lat D j c = true
        · rw [if_pos y] at hx
          cases hx
          unfold qC at z
          simp only [Bool.and_eq_true] at z
          exact R.2.2.2.2 j (by omega) (tkB_t.mp z.1)
        · rw [if_neg y] at hx
          exact hc x hx
      · rw [if_neg z] at hx
        exact hc x hx
theorem q249 (R : RO D o F S) (W : Wd D) (hk : k < 2) (hbd : bd < 2000) (ha : ∀ x, a = some x → x < 120) : ∃ c, rf_249 (Int32.ofNat o) (Int32.ofNat k) (oi a) (Int32.ofNat bd) S = some (oi c, S) ∧ LatOf D (fun i => i < 120 ∧ qC D F k a bd i = true) c := by
  obtain ⟨c, hc, h0⟩ := scf_120 D (qC D F k a bd)
  refine ⟨c, ?_, h0⟩
  rw [hc]
  exact q249l R W hk hbd ha 120 lf_N 0 none rfl (by unfold lf_N; omega) (fun x hx => by cases hx)
/-! writes -/
def qW (D : aD) (F : fo) (y z : Nat) (i : Nat) : Bool := tkB F i && (decide (knd D i = 6) && (decide ((D i).bind rrw = some y) && decide ((D i).bind rcl = some z)))
theorem q255s (R : RO D o F S) (W : Wd D) (hy : y < 120) (hz : z < 120) {n : Nat} (hj : j < 120) {c : Option Nat} (hc : ∀ x, c = some x → AN D x) : r255_6 (n + 1) (Int32.ofNat o) (Int32.ofNat y) (Int32.ofNat z) (oi c) (Int32.ofNat j) S = r255_6 n (Int32.ofNat o) (Int32.ofNat y) (Int32.ofNat z) (oi (if qW D F y z j = true then nxl D c j else c)) (Int32.ofNat (j + 1)) S := by
  have n4 : Int32.ofNat j + (1 : Int32) = Int32.ofNat (j + 1) := i32_add j 1
  have R' := R
  obtain ⟨ho, hD, hK, hF, hT⟩ := R'
  have e81 : ∀ x4, r255_81 (r255_6 n) (Int32.ofNat o) (Int32.ofNat y) (Int32.ofNat z) x4 (Int32.ofNat j) S = r255_6 n (Int32.ofNat o) (Int32.ofNat y) (Int32.ofNat z) x4 (Int32.ofNat (j + 1)) S := by
    intro x5
    unfold r255_81
    rw [n4]
  rw [r255_6]
  dsimp only
  rw [if_neg (show ¬ (120 : Int32) ≤ Int32.ofNat j from fun z => by have := (i32_len (a := 120) (by omega) (by omega)).mp z; omega), rdI (n := 120) (by decide) hj (by omega), Option.bind_some, q244 R hj]
  by_cases ht : tkB F j = true
  · obtain ⟨r, hr⟩ := hT j hj (tkB_t.mp ht)
    have w1 := W j r hr
    obtain ⟨d1, d2, d3, d4, d5, d6, d7, d8, d9⟩ := hD j r hr
    unfold qW
    rw [ht, knd_e hr, Bool.true_and, d1, if_pos rfl]
    by_cases hk6 : rk r = 6
    · obtain ⟨f1, f2, f3, f4⟩ := act_w0 W hr hk6
      have hl1 := LN_lt W f1
      have hl2 := LN_lt W f2
      rw [if_pos (by rw [hk6]; rfl)]
      first | rw [rbS_r, set0] | rw [rb_r]
      rw [if_neg (by decide), rdI (n := 120) (by decide) hj (by omega), Option.bind_some, (d6 hk6).1, decide_eq_true hk6, Bool.true_and, hr, Option.bind_some, Option.bind_some, f3, f4]
      by_cases z1 : rwo D j = y
      · rw [if_pos (by rw [z1]), rdI (n := 120) (by decide) hj (by omega), Option.bind_some, (d6 hk6).2]
        by_cases z2 : clo D j = z
        · rw [if_pos (by rw [z2]), if_pos (show (decide (some (rwo D j) = some y) && decide (some (clo D j) = some z)) = true by simp [z1, z2])]
          cases c with
          | none =>
            rw [if_pos (by decide)]
            unfold r255_77
            rw [e81]
            rfl
          | some x =>
            obtain ⟨q, hq⟩ := hc x rfl
            have wx := W x q hq
            rw [if_neg (show ¬ oi (some x) < 0 from i32_lt x (by omega)), (q245 hD W hr).1]
            try rw [rb_r]
            show rb (rf_245 (Int32.ofNat x) S) _ = _
            rw [(q245 hD W hq).1]
            rw [rb_r]
            have b1 := (q245 hD W hr).2
            have b2 := (q245 hD W hq).2
            by_cases z : stp D x < stp D j
            · rw [if_neg (fun y => by have := (i32_len (by omega) (by omega)).mp y; rw [kyi_lt] at this; omega)]
              unfold r255_77
              rw [e81]
              rw [nxl_p z]
              rfl
            · rw [if_pos ((i32_len (by omega) (by omega)).mpr (kyi_lt.mpr (by omega))), e81]
              rw [nxl_n z]
        · rw [if_neg (fun e => z2 (i32_inj (by omega) (by omega) e)), e81, if_neg (by simp [z2])]
      · rw [if_neg (fun e => z1 (i32_inj (by omega) (by omega) e)), e81, if_neg (by simp [z1])]
    · rw [if_neg (show ¬ Int32.ofNat (rk r) = (6 : Int32) from fun e => hk6 (i32_inj (b := 6) (by have := w1.2.2.1; omega) (by omega) e)), e81, if_neg (by simp [hk6])]
  · rw [if_neg ht, rb_r, if_pos rfl, e81, ite_self, if_neg (by unfold qW; simp [ht])]
theorem q255l (R : RO D o F S) (W : Wd D) (hy : y < 120) (hz : z < 120) : ∀ (n m j : Nat) (c : Option Nat), j + n = 120 → n < m → (∀ x, c = some x → AN D x) → r255_6 m (Int32.ofNat o) (Int32.ofNat y) (Int32.ofNat z) (oi c) (Int32.ofNat j) S = some (oi (scf D (qW D F y z) n j c), S) := by
  intro n
  induction n with
  | zero =>
    intro m j c h1 h2 hc
    have e : j = 120 := by omega
    subst e
    cases m with
    | zero => omega
    | succ m =>
      rw [r255_6]
      dsimp only
      rw [if_pos (by decide)]
      rfl
  | succ n ih =>
    intro m j c h1 h2 hc
    cases m with
    | zero => omega
    | succ m =>
      rw [q255s R W hy hz (by omega) hc, scf]
      refine ih m (j + 1) _ (by omega) (by omega) ?_
      intro x hx
      by_cases e : qW D F y z j = true
      · rw [if_pos e] at hx
        unfold nxl at hx
        by_cases g : lat D j c = true
        · rw [if_pos g] at hx
          cases hx
          unfold qW at e
          simp only [Bool.and_eq_true] at e
          exact R.2.2.2.2 j (by omega) (tkB_t.mp e.1)
        · rw [if_neg g] at hx
          exact hc x hx
      · rw [if_neg e] at hx
        exact hc x hx
theorem q255 (R : RO D o F S) (W : Wd D) (hy : y < 120) (hz : z < 120) : ∃ c, rf_255 (Int32.ofNat o) (Int32.ofNat y) (Int32.ofNat z) S = some (oi c, S) ∧ LatOf D (fun i => i < 120 ∧ qW D F y z i = true) c := by
  obtain ⟨c, hc, h0⟩ := scf_120 D (qW D F y z)
  refine ⟨c, ?_, h0⟩
  rw [hc]
  exact q255l R W hy hz 120 lf_N 0 none rfl (by unfold lf_N; omega) (fun x hx => by cases hx)
end SC3
