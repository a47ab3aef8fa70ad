/-! THE REFERENCE goes to the next token: numbers -/
def TX0 (T : List Nat) (S : rs_S) : Prop := S.1 22 = Int32.ofNat T.length ∧ T.length ≤ 20 ∧ (∀ c ∈ T, 32 ≤ c ∧ c ≤ 126) ∧ ∀ j, j < T.length → S.2.1 21 j = Int32.ofNat (chT T j)
/-- what going on leaves -/
def Rl (S S' : rs_S) : Prop := (∀ a, a < 23 ∨ 27 < a → S'.1 a = S.1 a) ∧ S'.2 = S.2
def dgA (T : List Nat) (x : Nat) : Bool := decide (x < T.length) && dgB (chT T x)
def ptA (T : List Nat) (x : Nat) : Bool := decide (x < T.length) && decide (chT T x = 46)
section RNU
variable {S S' S2 : rs_S} {T : List Nat} {P : Nat → Bool} {k t p j n m x b d q N e : Nat} {g : Bool}
theorem Rl_0 : Rl S S := ⟨fun _ _ => rfl, rfl⟩
theorem Rl_tr (h1 : Rl S S') (h2 : Rl S' S2) : Rl S S2 := ⟨fun a ha => (h2.1 a ha).trans (h1.1 a ha), h2.2.trans h1.2⟩
theorem Rl_I {a : Nat} {v : Int32} (h1 : 23 ≤ a) (h2 : a ≤ 27) : Rl S (rs_setI S a v) := ⟨fun b hb => if_neg (by omega), rfl⟩
theorem TX0_l (h : Rl S S') (X : TX0 T S) : TX0 T S' := ⟨by rw [h.1 22 (by omega)]; exact X.1, X.2.1, X.2.2.1, fun j hj => by rw [h.2]; exact X.2.2.2 j hj⟩
theorem dgA_i : dgA T x = true ↔ x < T.length ∧ dgB (chT T x) = true := by unfold dgA; rw [Bool.and_eq_true, decide_eq_true_iff]
theorem ptA_i : ptA T x = true ↔ x < T.length ∧ chT T x = 46 := by unfold ptA; rw [Bool.and_eq_true, decide_eq_true_iff, decide_eq_true_iff]
theorem q267 (X : TX0 T S) (hx : x < 100) : rf_267 (Int32.ofNat x) S = some ((if dgA T x = true then 1 else 0), S) := by
  obtain ⟨x1, x2, x3, x4⟩ := X
  unfold rf_267
  rw [x1]
  by_cases h : T.length ≤ x
  · rw [if_pos ((i32_len (by omega) (by omega)).mpr h), if_neg (fun z => by have := (dgA_i.mp z).1; omega)]
  · have hb := chT_b (p := x) x3
    rw [if_neg (fun z => h ((i32_len (by omega) (by omega)).mp z)), rdI (n := 20) (by decide) (by omega) (by omega), Option.bind_some, x4 x (by omega)]
    by_cases h1 : chT T x < 48
    · rw [if_pos (show Int32.ofNat (chT T x) < (48 : Int32) from (i32_ltn (b := 48) (by omega) (by omega)).mpr h1), if_neg (fun z => by have := dg_i.mp (dgA_i.mp z).2; omega)]
    · rw [if_neg (show ¬ Int32.ofNat (chT T x) < (48 : Int32) from fun z => h1 ((i32_ltn (b := 48) (by omega) (by omega)).mp z)), Option.bind_some]
      by_cases h2 : 57 < chT T x
      · rw [if_pos (show (57 : Int32) < Int32.ofNat (chT T x) from (i32_ltn (a := 57) (by omega) (by omega)).mpr h2), if_neg (fun z => by have := dg_i.mp (dgA_i.mp z).2; omega)]
      · rw [if_neg (show ¬ (57 : Int32) < Int32.ofNat (chT T x) from fun z => h2 ((i32_ltn (a := 57) (by omega) (by omega)).mp z)), if_pos (dgA_i.mpr ⟨by omega, dg_i.mpr (by omega)⟩)]
theorem q268 (X : TX0 T S) (hx : x < 100) : rf_268 (Int32.ofNat x) S = some ((if ptA T x = true then 1 else 0), S) := by
  obtain ⟨x1, x2, x3, x4⟩ := X
  unfold rf_268
  rw [x1]
  by_cases h : T.length ≤ x
  · rw [if_pos ((i32_len (by omega) (by omega)).mpr h), if_neg (fun z => by have := (ptA_i.mp z).1; omega)]
  · have hb := chT_b (p := x) x3
    rw [if_neg (fun z => h ((i32_len (by omega) (by omega)).mp z)), rdI (n := 20) (by decide) (by omega) (by omega), Option.bind_some, x4 x (by omega)]
    by_cases h1 : chT T x = 46
    · rw [if_pos (show Int32.ofNat (chT T x) = (46 : Int32) by rw [h1]; rfl), if_pos (ptA_i.mpr ⟨by omega, h1⟩)]
    · rw [if_neg (show ¬ Int32.ofNat (chT T x) = (46 : Int32) from i32_ofne (b := 46) (by omega) (by omega) h1), if_neg (fun z => h1 (ptA_i.mp z).2)]
/-! runs -/
theorem rn_stop : ∀ n p, T.length ≤ p + n → ¬ (rnE P T n p < T.length ∧ P (chT T (rnE P T n p)) = true)
  | 0, p, h => by rw [rnE]; omega
  | n + 1, p, h => by
    rw [rnE]
    split
    · exact rn_stop n (p + 1) (by omega)
    · next q => exact q
theorem te_stop (hT : T.length ≤ 20) (hn : nmB (chT T p) = true) : ¬ (te T p < T.length ∧ nmB (chT T (te T p)) = true) := by
  have hp := nmb_e hn
  have e : te T p = rnE nmB T 20 (p + 1) := by unfold te; rw [if_neg (by omega), if_pos hn]
  rw [e]
  exact rn_stop 20 (p + 1) (by omega)
theorem te_ge (hT : T.length ≤ 20) (hn : nmB (chT T p) = true) (h : ∀ j, p ≤ j → j < e → nmB (chT T j) = true ∧ j < T.length) : e ≤ te T p := by
  have hp := nmb_e hn
  have h1 := te_lt hp
  by_cases q : e ≤ te T p
  · exact q
  · have := h (te T p) (by omega) (by omega)
    exact absurd ⟨this.2, this.1⟩ (te_stop hT hn)
theorem te_eq (hT : T.length ≤ 20) (hn : nmB (chT T p) = true) (hpe : p ≤ e) (h : ∀ j, p ≤ j → j < e → nmB (chT T j) = true ∧ j < T.length) (hs : ¬ (e < T.length ∧ nmB (chT T e) = true)) : te T p = e := by
  have h1 := te_ge hT hn h
  by_cases q : te T p = e
  · exact q
  · have := te_nm hn e hpe (by omega)
    exact absurd ⟨this.2, this.1⟩ hs
theorem q269c : ∀ m n x (d : Nat), TX0 T S → x + m ≤ 50 → T.length ≤ x + m → m < n → d + m < 100 → r269_41 n (Int32.ofNat x) (Int32.ofNat b) (Int32.ofNat d) S = r269_58 (Int32.ofNat (rnE dgB T m x)) (Int32.ofNat b) (Int32.ofNat (d + (rnE dgB T m x - x))) S := by
  intro m
  induction m with
  | zero =>
    intro n x d X h1 h2 h3 h4
    cases n with
    | zero => omega
    | succ n =>
      rw [r269_41]
      dsimp only
      rw [q267 X (by omega), rb_r, if_neg (show ¬ dgA T x = true from fun z => by have := (dgA_i.mp z).1; omega), if_pos rfl, rnE, Nat.sub_self, Nat.add_zero]
  | succ m ih =>
    intro n x d X h1 h2 h3 h4
    cases n with
    | zero => omega
    | succ n =>
      rw [r269_41]
      dsimp only
      rw [q267 X (by omega), rb_r, ifB, rnE]
      by_cases q : dgA T x = true
      · rw [if_pos q, if_pos (dgA_i.mp q), show Int32.ofNat x + (1 : Int32) = Int32.ofNat (x + 1) from i32_add x 1, show Int32.ofNat d + (1 : Int32) = Int32.ofNat (d + 1) from i32_add d 1, ih n (x + 1) (d + 1) X (by omega) (by omega) (by omega) (by omega)]
        have := rn_le (P := dgB) (T := T) m (x + 1)
        rw [show d + 1 + (rnE dgB T m (x + 1) - (x + 1)) = d + (rnE dgB T m (x + 1) - x) by omega]
      · rw [if_neg q, if_neg (fun z => q (dgA_i.mpr z)), Nat.sub_self, Nat.add_zero]
theorem q269b (hp : S.1 23 = Int32.ofNat p) : ∀ m n x, TX0 T S → p ≤ x → x + m ≤ 50 → T.length ≤ x + m → m < n → r269_5 n (Int32.ofNat x) S = if ptA T (rnE dgB T m x) = true then r269_41 lf_N (Int32.ofNat (rnE dgB T m x + 1)) (Int32.ofNat (rnE dgB T m x - p)) (0 : Int32) S else r269_58 (Int32.ofNat (rnE dgB T m x)) (Int32.ofNat (rnE dgB T m x - p)) (-1 : Int32) S := by
  intro m
  induction m with
  | zero =>
    intro n x X h0 h1 h2 h3
    cases n with
    | zero => omega
    | succ n =>
      rw [r269_5]
      dsimp only
      rw [q267 X (by omega), rb_r, if_neg (show ¬ dgA T x = true from fun z => by have := (dgA_i.mp z).1; omega), if_pos rfl, q268 X (by omega), rb_r, ifB, rnE, hp, i32_sub h0, show Int32.ofNat x + (1 : Int32) = Int32.ofNat (x + 1) from i32_add x 1]
  | succ m ih =>
    intro n x X h0 h1 h2 h3
    cases n with
    | zero => omega
    | succ n =>
      rw [r269_5]
      dsimp only
      rw [q267 X (by omega), rb_r, ifB, rnE]
      by_cases q : dgA T x = true
      · rw [if_pos q, if_pos (dgA_i.mp q), show Int32.ofNat x + (1 : Int32) = Int32.ofNat (x + 1) from i32_add x 1, ih n (x + 1) X (by omega) (by omega) (by omega) (by omega)]
      · rw [if_neg q, if_neg (fun z => q (dgA_i.mpr z)), q268 X (by omega), rb_r, ifB, hp, i32_sub h0, show Int32.ofNat x + (1 : Int32) = Int32.ofNat (x + 1) from i32_add x 1]
/-- the run goes to its end -/
theorem q269e (g : Bool) : ∀ m n x S, TX0 T S → x + m ≤ 50 → T.length ≤ x + m → m < n → ∃ S', r269_222 n (Int32.ofNat x) (if g = true then 1 else 0) S = some ((), S') ∧ Rl S S' ∧ S'.1 23 = Int32.ofNat (rnE nmB T m x) ∧ S'.1 25 = (if g = true then -2 else -4) ∧ S'.1 24 = S.1 24 ∧ S'.1 26 = S.1 26 ∧ S'.1 27 = S.1 27 := by
  have fin : ∀ x S, ∃ S', (rb_S (rs_setI S 23 (Int32.ofNat x)) fun S7 => if (if g = true then (1 : Int32) else 0) = (0 : Int32) then r269_262 (-4 : Int32) S7 else r269_262 (-2 : Int32) S7) = some ((), S') ∧ Rl S S' ∧ S'.1 23 = Int32.ofNat x ∧ S'.1 25 = (if g = true then -2 else -4) ∧ S'.1 24 = S.1 24 ∧ S'.1 26 = S.1 26 ∧ S'.1 27 = S.1 27 := by
    intro x S
    unfold rb_S
    dsimp only
    rw [ifB]
    cases g with
    | true =>
      rw [if_pos rfl]
      exact ⟨_, rfl, Rl_tr (Rl_I (by omega) (by omega)) (Rl_I (by omega) (by omega)), rfl, rfl, rfl, rfl, rfl⟩
    | false =>
      rw [if_neg Bool.false_ne_true]
      exact ⟨_, rfl, Rl_tr (Rl_I (by omega) (by omega)) (Rl_I (by omega) (by omega)), rfl, rfl, rfl, rfl, rfl⟩
  have nmA : ∀ x, (x < T.length ∧ nmB (chT T x) = true) ↔ (dgA T x = true ∨ ptA T x = true) := by
    intro x
    rw [dgA_i, ptA_i]
    unfold nmB
    rw [Bool.or_eq_true, decide_eq_true_iff]
    constructor
    · rintro ⟨h1, h2 | h2⟩
      · exact Or.inl ⟨h1, h2⟩
      · exact Or.inr ⟨h1, h2⟩
    · rintro (⟨h1, h2⟩ | ⟨h1, h2⟩)
      · exact ⟨h1, Or.inl h2⟩
      · exact ⟨h1, Or.inr h2⟩
  intro m
  induction m with
  | zero =>
    intro n x S X h1 h2 h3
    cases n with
    | zero => omega
    | succ n =>
      rw [r269_222]
      dsimp only
      rw [q267 X (by omega), rb_r, if_neg (show ¬ dgA T x = true from fun z => by have := (dgA_i.mp z).1; omega), if_pos rfl, q268 X (by omega), rb_r, if_neg (show ¬ ptA T x = true from fun z => by have := (ptA_i.mp z).1; omega), if_pos rfl, rnE]
      exact fin x S
  | succ m ih =>
    intro n x S X h1 h2 h3
    cases n with
    | zero => omega
    | succ n =>
      rw [r269_222]
      dsimp only
      rw [q267 X (by omega), rb_r, ifB, rnE]
      by_cases q : dgA T x = true
      · rw [if_pos q, if_pos ((nmA x).mpr (Or.inl q))]
        unfold r269_238
        rw [show Int32.ofNat x + (1 : Int32) = Int32.ofNat (x + 1) from i32_add x 1]
        exact ih n (x + 1) S X (by omega) (by omega) (by omega)
      · rw [if_neg q, q268 X (by omega), rb_r, ifB]
        by_cases q2 : ptA T x = true
        · rw [if_pos q2, if_pos ((nmA x).mpr (Or.inr q2))]
          unfold r269_238
          rw [show Int32.ofNat x + (1 : Int32) = Int32.ofNat (x + 1) from i32_add x 1]
          exact ih n (x + 1) S X (by omega) (by omega) (by omega)
        · rw [if_neg q2, if_neg (show ¬ (x < T.length ∧ nmB (chT T x) = true) from fun z => by rcases (nmA x).mp z with z | z; exact q z; exact q2 z)]
          exact fin x S
end RNU
