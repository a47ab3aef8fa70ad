/-! THE LATEST OF SOME: what the reference finds by looking through all acts -/
def oi (x : Option Nat) : Int32 := x.elim (-1) Int32.ofNat
/-- the latest of those that fit, if there are any -/
def LatOf (D : aD) (Q : Nat → Prop) (c : Option Nat) : Prop := match c with
  | none => ∀ i, ¬ Q i
  | some i => Q i ∧ ∀ j, Q j → stp D j ≤ stp D i
def nxl (D : aD) (c : Option Nat) (j : Nat) : Option Nat := if lat D j c = true then some j else c
def scf (D : aD) (q : Nat → Bool) : Nat → Nat → Option Nat → Option Nat
  | 0, _, c => c
  | n + 1, j, c => scf D q n (j + 1) (if q j = true then nxl D c j else c)
section SCN
variable {D : aD} {Q Q' : Nat → Prop} {c c' : Option Nat} {i j : Nat} {q : Nat → Bool}
theorem lat_add (h : LatOf D Q c) (hQ : ∀ j, Q' j ↔ (Q j ∨ j = i)) : LatOf D Q' (nxl D c i) := by
  cases c with
  | none =>
    show LatOf D Q' (some i)
    refine ⟨(hQ i).mpr (Or.inr rfl), fun j hj => ?_⟩
    rcases (hQ j).mp hj with z | z
    · exact absurd z (h j)
    · rw [z]; exact Nat.le_refl _
  | some b =>
    obtain ⟨h1, h2⟩ := h
    show LatOf D Q' (if decide (stp D b < stp D i) = true then some i else some b)
    by_cases z : stp D b < stp D i
    · rw [if_pos (decide_eq_true z)]
      refine ⟨(hQ i).mpr (Or.inr rfl), fun j hj => ?_⟩
      rcases (hQ j).mp hj with y | y
      · have := h2 j y; omega
      · rw [y]; exact Nat.le_refl _
    · rw [if_neg (by simpa using z)]
      refine ⟨(hQ b).mpr (Or.inl h1), fun j hj => ?_⟩
      rcases (hQ j).mp hj with y | y
      · exact h2 j y
      · rw [y]; omega
theorem lat_ext (h : LatOf D Q c) (hQ : ∀ j, Q' j ↔ Q j) : LatOf D Q' c := by
  cases c with
  | none => exact fun i hi => h i ((hQ i).mp hi)
  | some b => exact ⟨(hQ b).mpr h.1, fun j hj => h.2 j ((hQ j).mp hj)⟩
theorem lat_un (hi : ∀ x y, Q x → Q y → stp D x = stp D y → x = y) (h1 : LatOf D Q c) (h2 : LatOf D Q c') : c = c' := by
  cases c with
  | none =>
    cases c' with
    | none => rfl
    | some b => exact absurd h2.1 (h1 b)
  | some a =>
    cases c' with
    | none => exact absurd h1.1 (h2 a)
    | some b =>
      have a1 := h1.2 b h2.1
      have a2 := h2.2 a h1.1
      rw [hi a b h1.1 h2.1 (by omega)]
theorem scf_lat : ∀ (n j : Nat) (c : Option Nat), LatOf D (fun i => i < j ∧ q i = true) c → LatOf D (fun i => i < j + n ∧ q i = true) (scf D q n j c)
  | 0, j, c, h => h
  | n + 1, j, c, h => by
    rw [scf]
    have e : j + (n + 1) = (j + 1) + n := by omega
    rw [e]
    refine scf_lat n (j + 1) _ ?_
    by_cases z : q j = true
    · rw [if_pos z]
      refine lat_add (i := j) h (fun x => ?_)
      constructor
      · intro ⟨a1, a2⟩
        by_cases y : x = j
        · exact Or.inr y
        · exact Or.inl ⟨by omega, a2⟩
      · rintro (a | a)
        · exact ⟨by have := a.1; omega, a.2⟩
        · rw [a]; exact ⟨by omega, z⟩
    · rw [if_neg z]
      refine lat_ext h (fun x => ?_)
      constructor
      · intro ⟨a1, a2⟩
        refine ⟨?_, a2⟩
        have : x ≠ j := by intro y; rw [y] at a2; exact z a2
        omega
      · intro ⟨a1, a2⟩
        exact ⟨by omega, a2⟩
theorem scf_120 (D : aD) (q : Nat → Bool) : ∃ c, c = scf D q 120 0 none ∧ LatOf D (fun i => i < 120 ∧ q i = true) c := by
  have h := scf_lat (D := D) (q := q) 120 0 none (show LatOf D (fun i => i < 0 ∧ q i = true) none from fun i hi => Nat.not_lt_zero _ hi.1)
  exact ⟨_, rfl, lat_ext h (fun j => by rw [Nat.zero_add])⟩
theorem nxl_p {x : Nat} (z : stp D x < stp D j) : nxl D (some x) j = some j := if_pos (decide_eq_true z)
theorem nxl_n {x : Nat} (z : ¬ stp D x < stp D j) : nxl D (some x) j = some x := if_neg (show ¬ decide (stp D x < stp D j) = true from fun e => z (of_decide_eq_true e))
end SCN
/-! the reference's picture by what was made and taken -/
def RD (D : aD) (S : rs_S) : Prop := ∀ i r, D i = some r → S.2.1 1 i = Int32.ofNat (rk r) ∧ S.2.1 3 i = Int32.ofNat (rst r / 3) ∧ rst r % 3 = i / 40 ∧ (∀ j, j < 3 → S.2.1 4 (3 * i + j) = Int32.ofNat (rpa r j)) ∧ (rk r ≠ 6 → S.2.1 5 i = Int32.ofNat (lnp D i) ∧ S.2.1 2 i = Int32.ofNat (lkd D (lnp D i))) ∧ (rk r = 6 → S.2.1 5 i = Int32.ofNat (rwo D i) ∧ S.2.1 6 i = Int32.ofNat (clo D i)) ∧ (rk r ≤ 3 → S.2.1 7 i = oi (rpl r)) ∧ (rk r ≤ 2 → S.2.1 8 i = oi (raf r)) ∧ (rk r = 2 ∨ rk r = 3 → S.2.1 9 i = oi (rpb r))
def RK (o : Nat) (F : fo) (S : rs_S) : Prop := ∀ j, j < 3 → S.2.1 16 (3 * o + j) = Int32.ofNat (fK F j)
theorem rb_r {α β : Type} {v : β} {S : rs_S} {K : β → rs_S → Option α} : rb (some (v, S)) K = K v S := rfl
theorem rbS_r {α : Type} {S : rs_S} {K : rs_S → Option α} : rb_S S K = K S := rfl
theorem set0 {S : rs_S} {v : Int32} : (rs_setI S 0 v).1 0 = v := rfl
section SC2
variable {D : aD} {S : rs_S} {F : fo} {o i j l k b : Nat} {r : rc}
theorem rdI {n : Nat} (hk : rs_len k = n) (hi : i < n) (hn : n < 2 ^ 31) : rd_I S k (Int32.ofNat i) = some (S.2.1 k i) := by
  unfold rd_I
  rw [hk, la_ix_of hi hn]
  rfl
theorem i32_d40 (hi : i < 200) : Int32.ofNat i / (40 : Int32) = Int32.ofNat (i / 40) ∧ Int32.ofNat i - Int32.ofNat i / (40 : Int32) * (40 : Int32) = Int32.ofNat (i % 40) := by
  have key : (List.range 200).all (fun i => decide (Int32.ofNat i / (40 : Int32) = Int32.ofNat (i / 40) ∧ Int32.ofNat i - Int32.ofNat i / (40 : Int32) * (40 : Int32) = Int32.ofNat (i % 40))) = true := by decide +kernel
  exact of_decide_eq_true (List.all_eq_true.mp key i (List.mem_range.mpr hi))
theorem i32_ml (a b : Nat) : Int32.ofNat a * Int32.ofNat b = Int32.ofNat (a * b) := (Int32.ofNat_mul a b).symm
theorem i32_inj {a b : Nat} (ha : a < 2 ^ 31) (hb : b < 2 ^ 31) (e : Int32.ofNat a = Int32.ofNat b) : a = b := by
  have e2 := congrArg Int32.toInt e
  rw [Int32.toInt_ofNat_of_lt ha, Int32.toInt_ofNat_of_lt hb] at e2
  omega
theorem i32_ij {a b : Nat} (ha : a < 2 ^ 31) (hb : b < 2 ^ 31) : Int32.ofNat a = Int32.ofNat b ↔ a = b := ⟨i32_inj ha hb, fun e => by rw [e]⟩
def tkB (F : fo) (i : Nat) : Bool := decide (i % 40 < fK F (i / 40))
theorem tkB_t : tkB F i = true ↔ tkn F i := by
  unfold tkB tkn
  exact decide_eq_true_iff
/-- an office's view on the reference's side -/
def RO (D : aD) (o : Nat) (F : fo) (S : rs_S) : Prop := o < 3 ∧ RD D S ∧ RK o F S ∧ (∀ j, fK F j ≤ 40) ∧ ∀ i, i < 120 → tkn F i → AN D i
theorem q244 (R : RO D o F S) (hi : i < 120) : rf_244 (Int32.ofNat o) (Int32.ofNat i) S = some ((if tkB F i = true then 1 else 0), S) := by
  obtain ⟨ho, -, hK, hF, -⟩ := R
  obtain ⟨d1, d2⟩ := i32_d40 (i := i) (by omega)
  unfold rf_244
  rw [d2, d1, show ((3 : Int32) * Int32.ofNat o) = Int32.ofNat (3 * o) from i32_ml 3 o, i32_add, rdI (n := 9) (by decide) (by omega) (by omega), Option.bind_some, hK _ (by omega)]
  have h1 := hF (i / 40)
  unfold tkB
  by_cases z : i % 40 < fK F (i / 40)
  · rw [if_neg (fun y => by have := (i32_len (by omega) (by omega)).mp y; omega), if_pos (decide_eq_true z)]
  · rw [if_pos ((i32_len (by omega) (by omega)).mpr (by omega)), if_neg (by simpa using z)]
/-- keys stand in the order of stamps -/
def kyi (D : aD) (i : Nat) : Nat := 4 * (stp D i / 3) + stp D i % 3
theorem kyi_lt {i j : Nat} : kyi D i ≤ kyi D j ↔ stp D i ≤ stp D j := by
  unfold kyi
  omega
theorem q245 (R : RD D S) (W : Wd D) (hi : D i = some r) : rf_245 (Int32.ofNat i) S = some (Int32.ofNat (kyi D i), S) ∧ kyi D i < 2000 := by
  have w1 := W i r hi
  obtain ⟨-, r2, r3, -⟩ := R i r hi
  obtain ⟨d1, -⟩ := i32_d40 (i := i) (by omega)
  have h1 := w1.2.2.2.1
  have e : kyi D i = 4 * (rst r / 3) + i / 40 := by unfold kyi; rw [stp_e hi, r3]
  unfold rf_245
  rw [rdI (n := 120) (by decide) w1.1 (by omega), Option.bind_some, r2, d1, show ((4 : Int32) * Int32.ofNat (rst r / 3)) = Int32.ofNat (4 * (rst r / 3)) from i32_ml 4 _, i32_add, e]
  exact ⟨rfl, by omega⟩
/-- acts that speak of a line's place (b = 1) or being (b = 0) -/
def spk (b n : Nat) : Bool := if b = 0 then decide (n = 1 ∨ n = 4 ∨ n = 5) else decide (n = 1 ∨ n = 2 ∨ n = 3)
def qL (D : aD) (F : fo) (b l : Nat) (i : Nat) : Bool := tkB F i && (spk b (knd D i) && decide ((D i).bind rl = some l))
theorem oi_n {c : Option Nat} : (oi c < (0 : Int32)) ↔ (c = none ∨ ∃ x, c = some x ∧ Int32.ofNat x < 0) := by
  cases c with
  | none => exact ⟨fun _ => Or.inl rfl, fun _ => by decide⟩
  | some x => exact ⟨fun h => Or.inr ⟨x, rfl, h⟩, fun h => by
      rcases h with h | ⟨y, h1, h2⟩
      · cases h
      · cases h1; exact h2⟩
theorem q243s (R : RO D o F S) (W : Wd D) (hl : l < 120) (hb : b < 2) {n : Nat} (hj : j < 120) {c : Option Nat} (hc : ∀ x, c = some x → AN D x) : r243_6 (n + 1) (Int32.ofNat o) (Int32.ofNat l) (Int32.ofNat b) (oi c) (Int32.ofNat j) S = r243_6 n (Int32.ofNat o) (Int32.ofNat l) (Int32.ofNat b) (oi (if qL D F b l j = true then nxl D c j else c)) (Int32.ofNat (j + 1)) S := by
  have n4 : Int32.ofNat j + (1 : Int32) = Int32.ofNat (j + 1) := i32_add j 1
  have R' := R
  obtain ⟨ho, hD, hK, hF, hT⟩ := R'
  have e116 : ∀ x4, r243_116 (r243_6 n) (Int32.ofNat o) (Int32.ofNat l) (Int32.ofNat b) x4 (Int32.ofNat j) S = r243_6 n (Int32.ofNat o) (Int32.ofNat l) (Int32.ofNat b) x4 (Int32.ofNat (j + 1)) S := by
    intro x4
    unfold r243_116
    rw [n4]
  rw [r243_6]
  dsimp only
  rw [if_neg (show ¬ (120 : Int32) ≤ Int32.ofNat j from fun z => by have := (i32_len (a := 120) (by omega) (by omega)).mp z; omega), rdI (n := 120) (by decide) hj (by omega), Option.bind_some]
  by_cases ht : tkB F j = true
  · obtain ⟨r, hr⟩ := hT j hj (tkB_t.mp ht)
    have w1 := W j r hr
    obtain ⟨d1, d2, d3, d4, d5, d6, d7, d8, d9⟩ := hD j r hr
    have hsp : ∀ s : Int32, s = (if spk b (rk r) = true then 1 else 0) → (if S.2.1 1 j = (1 : Int32) then r243_59 (r243_6 n) (Int32.ofNat o) (Int32.ofNat l) (Int32.ofNat b) (oi c) (Int32.ofNat j) S else if Int32.ofNat b = (0 : Int32) then if S.2.1 1 j = (4 : Int32) then r243_59 (r243_6 n) (Int32.ofNat o) (Int32.ofNat l) (Int32.ofNat b) (oi c) (Int32.ofNat j) S else if S.2.1 1 j = (5 : Int32) then r243_59 (r243_6 n) (Int32.ofNat o) (Int32.ofNat l) (Int32.ofNat b) (oi c) (Int32.ofNat j) S else r243_63 (r243_6 n) (Int32.ofNat o) (Int32.ofNat l) (Int32.ofNat b) (oi c) (Int32.ofNat j) S else if S.2.1 1 j = (2 : Int32) then r243_59 (r243_6 n) (Int32.ofNat o) (Int32.ofNat l) (Int32.ofNat b) (oi c) (Int32.ofNat j) S else if S.2.1 1 j = (3 : Int32) then r243_59 (r243_6 n) (Int32.ofNat o) (Int32.ofNat l) (Int32.ofNat b) (oi c) (Int32.ofNat j) S else r243_63 (r243_6 n) (Int32.ofNat o) (Int32.ofNat l) (Int32.ofNat b) (oi c) (Int32.ofNat j) S) = r243_64 (r243_6 n) (Int32.ofNat o) (Int32.ofNat l) (Int32.ofNat b) (oi c) (Int32.ofNat j) s S := by
      intro s hs
      subst hs
      rw [d1]
      unfold r243_59 r243_63
      have hb' : b = 0 ∨ b = 1 := by omega
      have hk' : rk r = 1 ∨ rk r = 2 ∨ rk r = 3 ∨ rk r = 4 ∨ rk r = 5 ∨ rk r = 6 := by have := w1.2.1; have := w1.2.2.1; omega
      rcases hb' with e | e <;> subst e <;> rcases hk' with e | e | e | e | e | e <;> rw [e] <;> rfl
    rw [hsp _ rfl]
    unfold r243_64 qL
    rw [ht, knd_e hr, Bool.true_and]
    by_cases hs : spk b (rk r) = true
    · have hk6 : rk r ≠ 6 := by
        intro e
        rw [e] at hs
        unfold spk at hs
        split at hs <;> simp at hs
      obtain ⟨l', hl'⟩ := w1.2.2.2.2.2.2.2.2.2.2.2.1 hk6
      have el : lnp D j = l' := by unfold lnp; rw [hr, Option.bind_some, hl']; rfl
      have hl2 := LN_lt W (w1.2.2.2.2.2.1 l' hl')
      rw [if_pos hs, if_neg (by decide), q244 R hj, ht, if_pos rfl]
      first | rw [rbS_r, set0] | rw [rb_r]
      rw [if_neg (by decide), rdI (n := 120) (by decide) hj (by omega), Option.bind_some, (d5 hk6).1, el, hr, Option.bind_some, hl', hs, Bool.true_and]
      by_cases hll : l' = l
      · subst hll
        rw [if_pos rfl, if_pos (show decide (some l' = some l') = true from decide_eq_true rfl)]
        cases c with
        | none =>
          rw [if_pos (by decide)]
          unfold r243_112
          rw [e116]
          rfl
        | some x =>
          obtain ⟨q, hq⟩ := hc x rfl
          have wx := W x q hq
          rw [if_neg (show ¬ oi (some x) < 0 from i32_lt x (by omega)), (q245 hD W hr).1]
          try rw [rb_r]
          show rb (rf_245 (Int32.ofNat x) S) _ = _
          rw [(q245 hD W hq).1]
          rw [rb_r]
          have b1 := (q245 hD W hr).2
          have b2 := (q245 hD W hq).2
          by_cases z : stp D x < stp D j
          · rw [if_neg (fun y => by have := (i32_len (by omega) (by omega)).mp y; rw [kyi_lt] at this; omega)]
            unfold r243_112
            rw [e116]
            rw [nxl_p z]
            rfl
          · rw [if_pos ((i32_len (by omega) (by omega)).mpr (kyi_lt.mpr (by omega))), e116]
            rw [nxl_n z]
      · rw [if_neg (fun y => hll (i32_inj (by omega) (by omega) y)), if_neg (by simp [hll]), e116]
    · rw [if_neg hs, if_pos rfl, e116, if_neg (by simp [hs])]
  · have h64 : ∀ s : Int32, r243_64 (r243_6 n) (Int32.ofNat o) (Int32.ofNat l) (Int32.ofNat b) (oi c) (Int32.ofNat j) s S = r243_6 n (Int32.ofNat o) (Int32.ofNat l) (Int32.ofNat b) (oi c) (Int32.ofNat (j + 1)) S := by
      intro s
      unfold r243_64
      rw [q244 R hj, if_neg ht, rb_r, if_pos rfl, e116]
      simp only [ite_self]
    unfold r243_59 r243_63
    simp only [h64, ite_self]
    rw [if_neg (by unfold qL; simp [ht])]
theorem q243l (R : RO D o F S) (W : Wd D) (hl : l < 120) (hb : b < 2) : ∀ (n m j : Nat) (c : Option Nat), j + n = 120 → n < m → (∀ x, c = some x → AN D x) → r243_6 m (Int32.ofNat o) (Int32.ofNat l) (Int32.ofNat b) (oi c) (Int32.ofNat j) S = some (oi (scf D (qL D F b l) n j c), S) := by
  intro n
  induction n with
  | zero =>
    intro m j c h1 h2 hc
    have e : j = 120 := by omega
    subst e
    cases m with
    | zero => omega
    | succ m =>
      rw [r243_6]
      dsimp only
      rw [if_pos (by decide)]
      rfl
  | succ n ih =>
    intro m j c h1 h2 hc
    cases m with
    | zero => omega
    | succ m =>
      rw [q243s R W hl hb (by omega) hc, scf]
      refine ih m (j + 1) _ (by omega) (by omega) ?_
      intro x hx
      by_cases z : qL D F b l j = true
      · rw [if_pos z] at hx
        unfold nxl at hx
        by_cases y : lat D j c = true
        · rw [if_pos y] at hx
          cases hx
          unfold qL at z
          simp only [Bool.and_eq_true] at z
          exact R.2.2.2.2 j (by omega) (tkB_t.mp z.1)
        · rw [if_neg y] at hx
          exact hc x hx
      · rw [if_neg z] at hx
        exact hc x hx
/-- the latest act that speaks of a line -/
theorem q243 (R : RO D o F S) (W : Wd D) (hl : l < 120) (hb : b < 2) : ∃ c, rf_243 (Int32.ofNat o) (Int32.ofNat l) (Int32.ofNat b) S = some (oi c, S) ∧ LatOf D (fun i => i < 120 ∧ qL D F b l i = true) c := by
  obtain ⟨c, hc, h0⟩ := scf_120 D (qL D F b l)
  refine ⟨c, ?_, h0⟩
  rw [hc]
  exact q243l R W hl hb 120 lf_N 0 none rfl (by unfold lf_N; omega) (fun x hx => by cases hx)
end SC2
