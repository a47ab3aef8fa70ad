/-! THE REFERENCE begins an act -/
section RBG
variable {D : aD} {S S' S2 : rs_S} {F F' : fo} {o o' i j l k kd p x y z : Nat} {r : rc} {L : List Nat} {X : ax}
/-- what stays when the act i is begun or gets more fields -/
def Sb (i : Nat) (S S' : rs_S) : Prop := S'.1 = S.1 ∧ S'.2.2 = S.2.2 ∧ ∀ a j, ¬ (1 ≤ a ∧ a ≤ 11 ∧ a ≠ 4 ∧ j = i) → ¬ (a = 4 ∧ 3 * i ≤ j ∧ j < 3 * i + 3) → S'.2.1 a j = S.2.1 a j
theorem Sb_tr (h1 : Sb i S S') (h2 : Sb i S' S2) : Sb i S S2 := ⟨h2.1.trans h1.1, h2.2.1.trans h1.2.1, fun a j n1 n2 => (h2.2.2 a j n1 n2).trans (h1.2.2 a j n1 n2)⟩
theorem Sb_set {a : Nat} {v : Int32} (h1 : 1 ≤ a) (h2 : a ≤ 11) (h3 : a ≠ 4) : Sb i S (rs_setA S a i v) := ⟨rfl, rfl, fun b j n1 _ => if_neg (fun e => n1 ⟨by have := e.1; omega, by have := e.1; omega, by have := e.1; omega, e.2⟩)⟩
theorem q246p (hK : RK o F S) (ho : o < 3) (hi : i < 120) : ∃ S', r246_117 lf_N (Int32.ofNat o) (Int32.ofNat i) (0 : Int32) S = some (Int32.ofNat i, S') ∧ Sb i S S' ∧ (∀ j, j < 3 → S'.2.1 4 (3 * i + j) = Int32.ofNat (fK F j)) ∧ ∀ a j, a ≠ 4 → S'.2.1 a j = S.2.1 a j := by
  have ix : ∀ m j, ((3 : Int32) * Int32.ofNat m) + Int32.ofNat j = Int32.ofNat (3 * m + j) := fun m j => by
    rw [show (3 : Int32) * Int32.ofNat m = Int32.ofNat (3 * m) from i32_ml 3 m, i32_add]
  have st : ∀ n j T, j < 3 → (∀ q, T.2.1 16 q = S.2.1 16 q) → r246_117 (n + 1) (Int32.ofNat o) (Int32.ofNat i) (Int32.ofNat j) T = r246_117 n (Int32.ofNat o) (Int32.ofNat i) (Int32.ofNat (j + 1)) (rs_setA T 4 (3 * i + j) (Int32.ofNat (fK F j))) := by
    intro n j T hj hT
    have n4 : Int32.ofNat j + (1 : Int32) = Int32.ofNat (j + 1) := i32_add j 1
    rw [r246_117]
    dsimp only
    rw [if_neg (show ¬ (3 : Int32) ≤ Int32.ofNat j from fun z => by have := (i32_len (a := 3) (by omega) (by omega)).mp z; omega), ix, ix, rdI (n := 9) (by decide) (by omega) (by omega), Option.bind_some, hT, hK j hj, wrI (n := 360) (by decide) (by omega) (by omega), Option.bind_some, n4]
  refine ⟨rs_setA (rs_setA (rs_setA S 4 (3 * i + 0) (Int32.ofNat (fK F 0))) 4 (3 * i + 1) (Int32.ofNat (fK F 1))) 4 (3 * i + 2) (Int32.ofNat (fK F 2)), ?_, ?_, ?_, ?_⟩
  · have e : r246_117 lf_N (Int32.ofNat o) (Int32.ofNat i) (0 : Int32) S = r246_117 (19996 + 1 + 1 + 1 + 1) (Int32.ofNat o) (Int32.ofNat i) (Int32.ofNat 0) S := rfl
    rw [e, st _ 0 _ (by omega) (fun q => rfl), st _ 1 _ (by omega) (fun q => set_a (by omega)), st _ 2 _ (by omega) (fun q => (set_a (by omega)).trans (set_a (by omega))), r246_117]
    dsimp only
    rw [if_pos (by decide)]
  · refine ⟨rfl, rfl, fun a j _ n2 => ?_⟩
    have h : ∀ m, m < 3 → ¬ (a = 4 ∧ j = 3 * i + m) := fun m hm e => n2 ⟨e.1, by have := e.2; omega, by have := e.2; omega⟩
    show (if a = 4 ∧ j = 3 * i + 2 then _ else if a = 4 ∧ j = 3 * i + 1 then _ else if a = 4 ∧ j = 3 * i + 0 then _ else _) = _
    rw [if_neg (h 2 (by omega)), if_neg (h 1 (by omega)), if_neg (h 0 (by omega))]
  · intro j hj
    have hj' : j = 0 ∨ j = 1 ∨ j = 2 := by omega
    rcases hj' with e | e | e
    · subst e
      rw [set_i (by omega), set_i (by omega), set_e]
    · subst e
      rw [set_i (by omega), set_e]
    · subst e
      rw [set_e]
  · intro a j h
    rw [set_a h, set_a h, set_a h]
theorem q246 (hK : RK o F S) (ho : o < 3) (hm : fK F o < 40) (hT : S.2.1 17 o = Int32.ofNat (fC F)) (hi : i = 40 * o + fK F o) {kv : Int32} {ln : Option Nat} (hln : ∀ l, ln = some l → l < 120) : ∃ S', rf_246 (Int32.ofNat o) (Int32.ofNat kd) kv (oi ln) S = some (Int32.ofNat i, S') ∧ Sb i S S' ∧ S'.2.1 1 i = Int32.ofNat kd ∧ S'.2.1 2 i = kv ∧ S'.2.1 3 i = Int32.ofNat (fC F + 1) ∧ S'.2.1 5 i = Int32.ofNat (ln.getD i) ∧ S'.2.1 6 i = -1 ∧ S'.2.1 7 i = Int32.ofNat i ∧ S'.2.1 8 i = -1 ∧ S'.2.1 9 i = -1 ∧ S'.2.1 10 i = -1 ∧ S'.2.1 11 i = -1 ∧ ∀ j, j < 3 → S'.2.1 4 (3 * i + j) = Int32.ofNat (fK F j) := by
  have hi2 : i < 120 := by omega
  have i4 : (4 : Int32) * Int32.ofNat o = Int32.ofNat (4 * o) := i32_ml 4 o
  have i16 : S.2.1 16 (4 * o) = Int32.ofNat (fK F o) := by
    have := hK o ho
    rw [show 3 * o + o = 4 * o by omega] at this
    exact this
  have ii : ((40 : Int32) * Int32.ofNat o) + Int32.ofNat (fK F o) = Int32.ofNat i := by
    rw [show (40 : Int32) * Int32.ofNat o = Int32.ofNat (40 * o) from i32_ml 40 o, i32_add, hi]
  have n4 : Int32.ofNat (fC F) + (1 : Int32) = Int32.ofNat (fC F + 1) := i32_add _ 1
  obtain ⟨S3, hS3⟩ : ∃ S3, S3 = rs_setA (rs_setA (rs_setA S 1 i (Int32.ofNat kd)) 2 i kv) 3 i (Int32.ofNat (fC F + 1)) := ⟨_, rfl⟩
  obtain ⟨S7, hS7⟩ : ∃ S7, S7 = rs_setA (rs_setA (rs_setA (rs_setA (rs_setA (rs_setA (rs_setA S3 5 i (Int32.ofNat (ln.getD i))) 6 i (-1)) 7 i (Int32.ofNat i)) 8 i (-1)) 9 i (-1)) 10 i (-1)) 11 i (-1) := ⟨_, rfl⟩
  have sb3 : Sb i S S3 := by
    rw [hS3]
    exact Sb_tr (Sb_tr (Sb_set (by omega) (by omega) (by omega)) (Sb_set (by omega) (by omega) (by omega))) (Sb_set (by omega) (by omega) (by omega))
  have sb7 : Sb i S3 S7 := by
    rw [hS7]
    exact Sb_tr (Sb_tr (Sb_tr (Sb_tr (Sb_tr (Sb_tr (Sb_set (by omega) (by omega) (by omega)) (Sb_set (by omega) (by omega) (by omega))) (Sb_set (by omega) (by omega) (by omega))) (Sb_set (by omega) (by omega) (by omega))) (Sb_set (by omega) (by omega) (by omega))) (Sb_set (by omega) (by omega) (by omega))) (Sb_set (by omega) (by omega) (by omega))
  have sb := Sb_tr sb3 sb7
  have hK7 : RK o F S7 := fun j hj => by
    rw [sb.2.2 16 _ (fun e => by have := e.2.1; omega) (fun e => by have := e.1; omega)]
    exact hK j hj
  obtain ⟨S8, e8, sb8, p8, f8⟩ := q246p hK7 ho hi2
  have h64 : r246_64 (Int32.ofNat o) (Int32.ofNat i) (Int32.ofNat (ln.getD i)) (Int32.ofNat i) S3 = some (Int32.ofNat i, S8) := by
    unfold r246_64
    rw [wrI (n := 120) (by decide) hi2 (by omega), Option.bind_some, wrI (n := 120) (by decide) hi2 (by omega), Option.bind_some, wrI (n := 120) (by decide) hi2 (by omega), Option.bind_some, wrI (n := 120) (by decide) hi2 (by omega), Option.bind_some, wrI (n := 120) (by decide) hi2 (by omega), Option.bind_some, wrI (n := 120) (by decide) hi2 (by omega), Option.bind_some, wrI (n := 120) (by decide) hi2 (by omega), Option.bind_some, ← hS7]
    exact e8
  have v : ∀ a, a ≠ 4 → S8.2.1 a i = S7.2.1 a i := fun a h => f8 a i h
  refine ⟨S8, ?_, Sb_tr sb sb8, ?_, ?_, ?_, ?_, ?_, ?_, ?_, ?_, ?_, ?_, p8⟩
  · unfold rf_246
    rw [i4, rdI (n := 9) (by decide) (by omega) (by omega), Option.bind_some, i16, ii, wrI (n := 120) (by decide) hi2 (by omega), Option.bind_some, wrI (n := 120) (by decide) hi2 (by omega), Option.bind_some, rdI (n := 3) (by decide) ho (by omega), Option.bind_some, set_a (by omega), set_a (by omega), hT, n4, wrI (n := 120) (by decide) hi2 (by omega), Option.bind_some, ← hS3]
    cases ln with
    | none =>
      rw [if_neg (by decide)]
      exact h64
    | some l =>
      rw [if_pos (show (0 : Int32) ≤ oi (some l) from (i32_len (a := 0) (b := l) (by omega) (by have := hln l rfl; omega)).mpr (Nat.zero_le _))]
      exact h64
  · rw [v 1 (by omega), hS7, set_a (by omega), set_a (by omega), set_a (by omega), set_a (by omega), set_a (by omega), set_a (by omega), set_a (by omega), hS3, set_a (by omega), set_a (by omega), set_e]
  · rw [v 2 (by omega), hS7, set_a (by omega), set_a (by omega), set_a (by omega), set_a (by omega), set_a (by omega), set_a (by omega), set_a (by omega), hS3, set_a (by omega), set_e]
  · rw [v 3 (by omega), hS7, set_a (by omega), set_a (by omega), set_a (by omega), set_a (by omega), set_a (by omega), set_a (by omega), set_a (by omega), hS3, set_e]
  · rw [v 5 (by omega), hS7, set_a (by omega), set_a (by omega), set_a (by omega), set_a (by omega), set_a (by omega), set_a (by omega), set_e]
  · rw [v 6 (by omega), hS7, set_a (by omega), set_a (by omega), set_a (by omega), set_a (by omega), set_a (by omega), set_e]
  · rw [v 7 (by omega), hS7, set_a (by omega), set_a (by omega), set_a (by omega), set_a (by omega), set_e]
  · rw [v 8 (by omega), hS7, set_a (by omega), set_a (by omega), set_a (by omega), set_e]
  · rw [v 9 (by omega), hS7, set_a (by omega), set_a (by omega), set_e]
  · rw [v 10 (by omega), hS7, set_a (by omega), set_e]
  · rw [v 11 (by omega), hS7, set_e]
end RBG
