/-! THE DRAFT AND OUT: type, cut, out -/
def CR (A : ah) (T U : List Nat) : Prop := (∃ v1 v2 v3 x y, A.1 83 = ac_c (.inl (1, [.ref 84, .ref 86, .int v1, .int v2, .int v3, tm_r x, tm_r y]))) ∧ (∃ cap, A.1 84 = ac_t T cap) ∧ (∃ f : Nat → Int32, A.1 86 = ac_c (.inr (0, ra 22 (fun i => .int (f i))))) ∧ (∃ v x y b, A.1 87 = ac_c (.inl (2, [.ref 88, .ref 89, .ref 90, .int v, tm_r x, tm_r y, .int b]))) ∧ (∃ f : Nat → Option Nat, A.1 88 = ac_c (.inr (11, ra 120 (fun i => tm_r (f i))))) ∧ (∃ f : Nat → Int64, A.1 89 = ac_c (.inr (1, ra 120 (fun i => .long (f i))))) ∧ (∃ f : Nat → Bool, A.1 90 = ac_c (.inr (3, ra 120 (fun i => .int (if f i = true then 1 else 0))))) ∧ (∃ x y, A.1 91 = ac_c (.inl (3, [.ref 92, tm_r x, tm_r y]))) ∧ ∃ cap, A.1 92 = ac_t U cap
/-- the texts, as the reference has them -/
def TX (T U : List Nat) (S : rs_S) : Prop := S.1 22 = Int32.ofNat T.length ∧ T.length ≤ 20 ∧ (∀ c ∈ T, 32 ≤ c ∧ c ≤ 126) ∧ (∀ j, j < T.length → S.2.1 21 j = Int32.ofNat (T.getD j 0)) ∧ S.1 39 = Int32.ofNat U.length ∧ U.length ≤ 120 ∧ ∀ j, j < U.length → S.2.1 40 j = Int32.ofNat (U.getD j 0)
section TXT
variable {A A' : ah} {h : pm_H} {S S' : rs_S} {T U : List Nat} {c j k n : Nat} {a : Int32} {w : Option Nat} {Y : List Nat}
theorem CR_st (C : CR A T U) (R : ar A h) (s : st A A' Y k j) (hY : ∀ x ∈ Y, x < 83 ∨ 92 < x) : CR A' T U := by
  obtain ⟨⟨v1, v2, v3, x, y, c1⟩, ⟨cap, c2⟩, ⟨f3, c3⟩, ⟨v4, x4, y4, b4, c4⟩, ⟨f5, c5⟩, ⟨f6, c6⟩, ⟨f7, c7⟩, ⟨x8, y8, c8⟩, ⟨cap9, c9⟩⟩ := C
  have nm : ∀ q, 83 ≤ q → q ≤ 92 → q ∉ Y := fun q h1 h2 z => by have := hY q z; omega
  exact ⟨⟨v1, v2, v3, x, y, st_c s R c1 (by intro q; cases q) (nm _ (by omega) (by omega))⟩, ⟨cap, st_c s R c2 (by intro q; cases q) (nm _ (by omega) (by omega))⟩, ⟨f3, st_c s R c3 (by intro q; cases q) (nm _ (by omega) (by omega))⟩, ⟨v4, x4, y4, b4, st_c s R c4 (by intro q; cases q) (nm _ (by omega) (by omega))⟩, ⟨f5, st_c s R c5 (by intro q; cases q) (nm _ (by omega) (by omega))⟩, ⟨f6, st_c s R c6 (by intro q; cases q) (nm _ (by omega) (by omega))⟩, ⟨f7, st_c s R c7 (by intro q; cases q) (nm _ (by omega) (by omega))⟩, ⟨x8, y8, st_c s R c8 (by intro q; cases q) (nm _ (by omega) (by omega))⟩, ⟨cap9, st_c s R c9 (by intro q; cases q) (nm _ (by omega) (by omega))⟩⟩
/-- the draft becomes another -/
theorem CR_T {T' : List Nat} {cap' : Nat} (C : CR A T U) (R : ar A h) (s : st A A' [84] k j) (e : A'.1 84 = ac_t T' cap') : CR A' T' U := by
  obtain ⟨⟨v1, v2, v3, x, y, c1⟩, ⟨cap, c2⟩, ⟨f3, c3⟩, ⟨v4, x4, y4, b4, c4⟩, ⟨f5, c5⟩, ⟨f6, c6⟩, ⟨f7, c7⟩, ⟨x8, y8, c8⟩, ⟨cap9, c9⟩⟩ := C
  exact ⟨⟨v1, v2, v3, x, y, st_c s R c1 (by intro q; cases q) (by simp)⟩, ⟨cap', e⟩, ⟨f3, st_c s R c3 (by intro q; cases q) (by simp)⟩, ⟨v4, x4, y4, b4, st_c s R c4 (by intro q; cases q) (by simp)⟩, ⟨f5, st_c s R c5 (by intro q; cases q) (by simp)⟩, ⟨f6, st_c s R c6 (by intro q; cases q) (by simp)⟩, ⟨f7, st_c s R c7 (by intro q; cases q) (by simp)⟩, ⟨x8, y8, st_c s R c8 (by intro q; cases q) (by simp)⟩, ⟨cap9, st_c s R c9 (by intro q; cases q) (by simp)⟩⟩
theorem dr_rd (R : ar A h) (B : Cb A) (C : CR A T U) : lf_R h (some 81) [0, 1] = some (some 83) ∧ lf_R h (some 83) [1, 0] = some (some 84) ∧ lf_R h (some 81) [0, 3] = some (some 91) ∧ lf_R h (some 91) [3, 0] = some (some 92) := by
  obtain ⟨⟨v1, v2, v3, x, y, c1⟩, -, -, -, -, -, -, ⟨x8, y8, c8⟩, -⟩ := C
  exact ⟨hc_R (o := some 83) (ar_c R B.1) rfl, hc_R (o := some 84) (ar_c R c1) rfl, hc_R (o := some 91) (ar_c R B.1) rfl, hc_R (o := some 92) (ar_c R c8) rfl⟩
theorem c16t (R : ar A h) (B : Cb A) (C : CR A T U) (hT : T.length ≤ 20) (ha : ¬ (32 ≤ c ∧ c ≤ 126)) (hc : c < 65536) : ll_16 w (some 81) (Int32.ofNat c) h = tw h 14 := by
  unfold ll_16
  by_cases q : c < 32
  · rw [if_pos (show Int32.ofNat c < (32 : Int32) from (i32_ltn (b := 32) (by omega) (by omega)).mpr q)]
    rfl
  · rw [if_neg (show ¬ Int32.ofNat c < (32 : Int32) from fun z => q ((i32_ltn (b := 32) (by omega) (by omega)).mp z)), if_neg (show ¬ Int32.ofNat c ≤ (126 : Int32) from fun z => by have := (i32_len (b := 126) (by omega) (by omega)).mp z; omega)]
    rfl
theorem c16 (R : ar A h) (B : Cb A) (C : CR A T U) (hT : T.length ≤ 20) (h1 : 32 ≤ c) (h2 : c ≤ 126) : (T.length = 20 → ll_16 w (some 81) (Int32.ofNat c) h = tw h 15) ∧ (T.length < 20 → ∃ A' h', ll_16 w (some 81) (Int32.ofNat c) h = rtI (Int32.ofNat (T.length + 1)) h' ∧ ar A' h' ∧ CR A' (T ++ [c]) U ∧ st A A' [84] 0 0) := by
  obtain ⟨d1, d2, -, -⟩ := dr_rd R B C
  have C' := C
  obtain ⟨-, ⟨cap, c2⟩, -⟩ := C'
  constructor
  · intro hl
    unfold ll_16
    rw [if_neg (show ¬ Int32.ofNat c < (32 : Int32) from fun z => by have := (i32_ltn (b := 32) (by omega) (by omega)).mp z; omega), if_pos (show Int32.ofNat c ≤ (126 : Int32) from (i32_len (b := 126) (by omega) (by omega)).mpr h2), d1, Option.bind_some, d2, Option.bind_some, if_pos (sb_lc R c2), ll_length R c2, rt_I, hl, if_neg (by decide)]
    rfl
  · intro hl
    obtain ⟨A', h', cap', g1, g2, g3, g4⟩ := ll_append (w := w) R (by omega) c2 (c := c) (by omega) (by omega)
    have C2 := CR_T C R g4 g3
    have B2 := Cb_st B R g4 (by intro x hx; simp at hx; omega)
    obtain ⟨e1, e2, -, -⟩ := dr_rd g2 B2 C2
    refine ⟨A', h', ?_, g2, C2, g4⟩
    unfold ll_16
    rw [if_neg (show ¬ Int32.ofNat c < (32 : Int32) from fun z => by have := (i32_ltn (b := 32) (by omega) (by omega)).mp z; omega), if_pos (show Int32.ofNat c ≤ (126 : Int32) from (i32_len (b := 126) (by omega) (by omega)).mpr h2), d1, Option.bind_some, d2, Option.bind_some, if_pos (sb_lc R c2), ll_length R c2, rt_I, if_pos (show Int32.ofNat T.length < (20 : Int32) from (i32_ltn (b := 20) (by omega) (by omega)).mpr hl), d1, Option.bind_some, d2, Option.bind_some, if_pos (sb_lc R c2), g1, rt_R, e1, Option.bind_some, e2, Option.bind_some, if_pos (sb_lc g2 g3), ll_length g2 g3, List.length_append]
    rfl
theorem c43 (R : ar A h) (B : Cb A) (C : CR A T U) (hT : T.length ≤ 20) : (la_ix a (T.length + 1) = none → ll_43 w (some 81) a h = tw h 14) ∧ (∀ n, la_ix a (T.length + 1) = some n → ∃ A' h', ll_43 w (some 81) a h = rtV h' ∧ ar A' h' ∧ CR A' (T.take n) U ∧ st A A' [84] 0 0) := by
  obtain ⟨d1, d2, -, -⟩ := dr_rd R B C
  have C' := C
  obtain ⟨-, ⟨cap, c2⟩, -⟩ := C'
  constructor
  · intro e
    unfold ll_43
    by_cases q : a < 0
    · rw [if_pos q]; rfl
    · have h1 := ix_n (by omega) e q
      have h2 : ¬ a ≤ Int32.ofNat T.length := fun z => h1 (by
        rw [Int32.lt_iff_toInt_lt, Int32.toInt_ofNat_of_lt (by omega)]
        rw [Int32.le_iff_toInt_le, Int32.toInt_ofNat_of_lt (by omega)] at z
        omega)
      rw [if_neg q, d1, Option.bind_some, d2, Option.bind_some, if_pos (sb_lc R c2), ll_length R c2, rt_I, if_neg h2]
      rfl
  · intro n e
    obtain ⟨rfl, hn⟩ := ix_s (by omega) e
    obtain ⟨A', h', g1, g2, g3, g4⟩ := ll_setLength (w := w) R c2 (n := n) (by omega)
    refine ⟨A', h', ?_, g2, CR_T C R g4 g3, g4⟩
    unfold ll_43
    rw [if_neg (i32_lt n (by omega)), d1, Option.bind_some, d2, Option.bind_some, if_pos (sb_lc R c2), ll_length R c2, rt_I, if_pos ((i32_len (by omega) (by omega)).mpr (by omega)), d1, Option.bind_some, d2, Option.bind_some, if_pos (sb_lc R c2), g1]
    rfl
theorem c233 (R : ar A h) (B : Cb A) (C : CR A T U) (hU : U.length ≤ 120) : ll_233 w (some 81) a h = (la_ix a U.length).elim (tw h 16) (fun j => rtI (Int32.ofNat (U.getD j 0)) h) := by
  obtain ⟨-, -, d1, d2⟩ := dr_rd R B C
  obtain ⟨-, -, -, -, -, -, -, -, ⟨cap, c2⟩⟩ := C
  unfold ll_233
  cases e : la_ix a U.length with
  | none =>
    by_cases q : a < 0
    · rw [if_pos q]; rfl
    · rw [if_neg q, d1, Option.bind_some, d2, Option.bind_some, if_pos (sb_lc R c2), ll_length R c2, rt_I, if_neg (ix_n (by omega) e q)]
      rfl
  | some j =>
    obtain ⟨rfl, hj⟩ := ix_s (by omega) e
    rw [if_neg (i32_lt j (by omega)), d1, Option.bind_some, d2, Option.bind_some, if_pos (sb_lc R c2), ll_length R c2, rt_I, if_pos ((i32_ltn (by omega) (by omega)).mpr hj), d1, Option.bind_some, d2, Option.bind_some, if_pos (sb_lc R c2), ll_charAt R c2 hj]
    rfl
/-! the reference -/
theorem q262t (hc : c < 65536) (ha : ¬ (32 ≤ c ∧ c ≤ 126)) : rf_262 (Int32.ofNat c) S = some (0, rs_setI S 0 1) := by
  unfold rf_262
  by_cases q : c < 32
  · rw [if_pos (show Int32.ofNat c < (32 : Int32) from (i32_ltn (b := 32) (by omega) (by omega)).mpr q)]
    rfl
  · rw [if_neg (show ¬ Int32.ofNat c < (32 : Int32) from fun z => q ((i32_ltn (b := 32) (by omega) (by omega)).mp z)), if_neg (show ¬ Int32.ofNat c ≤ (126 : Int32) from fun z => by have := (i32_len (b := 126) (by omega) (by omega)).mp z; omega)]
    rfl
theorem q262 (X : TX T U S) (h1 : 32 ≤ c) (h2 : c ≤ 126) : (T.length = 20 → rf_262 (Int32.ofNat c) S = some (0, rs_setI S 0 2)) ∧ (T.length < 20 → rf_262 (Int32.ofNat c) S = some (Int32.ofNat (T.length + 1), rs_setI (rs_setA (rs_setI S 0 0) 21 T.length (Int32.ofNat c)) 22 (Int32.ofNat (T.length + 1))) ∧ TX (T ++ [c]) U (rs_setI (rs_setA (rs_setI S 0 0) 21 T.length (Int32.ofNat c)) 22 (Int32.ofNat (T.length + 1)))) := by
  obtain ⟨x1, x2, x3, x4, x5, x6, x7⟩ := X
  have e0 : rf_262 (Int32.ofNat c) S = if (S.1 22) = (20 : Int32) then r262_31 (Int32.ofNat c) (2 : Int32) S else r262_31 (Int32.ofNat c) (0 : Int32) S := by
    unfold rf_262
    rw [if_neg (show ¬ Int32.ofNat c < (32 : Int32) from fun z => by have := (i32_ltn (b := 32) (by omega) (by omega)).mp z; omega), if_pos (show Int32.ofNat c ≤ (126 : Int32) from (i32_len (b := 126) (by omega) (by omega)).mpr h2)]
  constructor
  · intro hl
    rw [e0, x1, hl, if_pos (by decide)]
    rfl
  · intro hl
    have n4 : Int32.ofNat T.length + (1 : Int32) = Int32.ofNat (T.length + 1) := i32_add _ 1
    refine ⟨?_, ?_, by rw [List.length_append]; simp; omega, ?_, ?_, x5, x6, x7⟩
    · rw [e0, x1, if_neg (show ¬ Int32.ofNat T.length = (20 : Int32) from fun z => by have := i32_inj (b := 20) (by omega) (by omega) z; omega)]
      unfold r262_31
      rw [rbS_r, set0]
      rw [if_pos (by decide), show (rs_setI S 0 0).1 22 = Int32.ofNat T.length from x1, wrI (n := 20) (by decide) hl (by omega), Option.bind_some]
      show some ((S.1 22) + (1 : Int32), rs_setI (rs_setA (rs_setI S 0 0) 21 T.length (Int32.ofNat c)) 22 ((S.1 22) + (1 : Int32))) = _
      rw [x1, n4]
    · rw [List.length_append]
      rfl
    · intro d hd
      rcases List.mem_append.mp hd with q | q
      · exact x3 d q
      · rw [List.mem_singleton.mp q]; exact ⟨h1, h2⟩
    · intro j hj
      rw [List.length_append] at hj
      have hj' : j < T.length + 1 := hj
      show (if 21 = 21 ∧ j = T.length then _ else _) = _
      by_cases z : j = T.length
      · subst z
        rw [if_pos ⟨rfl, rfl⟩]
        simp [List.getD_eq_getElem?_getD]
      · have hlt : j < T.length := by omega
        rw [if_neg (fun e => z e.2)]
        show S.2.1 21 j = _
        rw [x4 j hlt]
        simp [List.getD_eq_getElem?_getD, List.getElem?_append_left hlt]
theorem q263 (X : TX T U S) : (la_ix a (T.length + 1) = none → ∃ S', rf_263 a S = some ((), S') ∧ S'.1 0 = 1 ∧ S'.2 = S.2 ∧ ∀ k, k ≠ 0 → S'.1 k = S.1 k) ∧ (∀ n, la_ix a (T.length + 1) = some n → ∃ S', rf_263 a S = some ((), S') ∧ S'.1 0 = 0 ∧ S'.2 = S.2 ∧ S'.1 22 = Int32.ofNat n ∧ ∀ k, k ≠ 0 → k ≠ 22 → S'.1 k = S.1 k) := by
  obtain ⟨x1, x2, x3, x4, x5, x6, x7⟩ := X
  constructor
  · intro e
    have h13 : ∃ S', r263_13 a S = some ((), S') ∧ S'.1 0 = 1 ∧ S'.2 = S.2 ∧ ∀ k, k ≠ 0 → S'.1 k = S.1 k := by
      refine ⟨rs_setI (rs_setI S 0 1) 22 (S.1 22), rfl, rfl, rfl, fun k hk => ?_⟩
      show (if k = 22 then S.1 22 else if k = 0 then _ else S.1 k) = _
      by_cases z : k = 22
      · rw [if_pos z, z]
      · rw [if_neg z, if_neg hk]
    unfold rf_263
    by_cases q : a < 0
    · rw [if_pos q]; exact h13
    · have h1 := ix_n (by omega) e q
      have h2 : ¬ a ≤ S.1 22 := fun z => h1 (by
        rw [x1, Int32.le_iff_toInt_le, Int32.toInt_ofNat_of_lt (by omega)] at z
        rw [Int32.lt_iff_toInt_lt, Int32.toInt_ofNat_of_lt (by omega)]
        omega)
      rw [if_neg q, if_neg h2]; exact h13
  · intro n e
    obtain ⟨rfl, hn⟩ := ix_s (by omega) e
    refine ⟨rs_setI (rs_setI S 0 0) 22 (Int32.ofNat n), ?_, rfl, rfl, rfl, fun k h1 h2 => ?_⟩
    · unfold rf_263
      rw [if_neg (i32_lt n (by omega)), x1, if_pos ((i32_len (by omega) (by omega)).mpr (by omega))]
      rfl
    · show (if k = 22 then _ else if k = 0 then _ else S.1 k) = _
      rw [if_neg h2, if_neg h1]
theorem q313 (X : TX T U S) : rf_313 a S = (la_ix a U.length).elim (some (0, rs_setI S 0 1)) (fun j => some (Int32.ofNat (U.getD j 0), rs_setI S 0 0)) := by
  obtain ⟨x1, x2, x3, x4, x5, x6, x7⟩ := X
  unfold rf_313
  rw [x5]
  cases e : la_ix a U.length with
  | none =>
    by_cases q : a < 0
    · rw [if_pos q]; rfl
    · rw [if_neg q, if_neg (ix_n (by omega) e q)]; rfl
  | some j =>
    obtain ⟨rfl, hj⟩ := ix_s (by omega) e
    rw [if_neg (i32_lt j (by omega)), if_pos ((i32_ltn (by omega) (by omega)).mpr hj)]
    unfold r313_18
    rw [rbS_r, set0]
    rw [if_pos (by decide), rdI (n := 120) (by decide) (by omega) (by omega), Option.bind_some]
    show some (S.2.1 40 j, _) = _
    rw [x7 j hj]
    rfl
end TXT
