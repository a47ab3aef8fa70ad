/-! THE REFERENCE: the level of a content -/
theorem i32_tn {k : Nat} (hk : k < 2 ^ 31) : (Int32.ofNat k).toNatClampNeg = k := by
  show (Int32.ofNat k).toInt.toNat = k
  rw [Int32.toInt_ofNat_of_lt hk]
  rfl
/-- all cells that a row reads -/
def dpa (cs : List (Nat × Nat)) (Lr Lc : List Nat) : List (Nat × Int32) → List Nat
  | [] => []
  | t :: ts => dep cs Lr Lc t ++ dpa cs Lr Lc ts
def isB (v : Nat) : Prop := v = 115 ∨ v = 110 ∨ v = 109
section LVL
variable {D : aD} {S S' : rs_S} {F : fo} {o i j l k y z y2 z2 c : Nat} {cs : List (Nat × Nat)} {Lr Lc : List Nat} {lev : Nat → Nat} {ts : List (Nat × Int32)} {t : Nat × Int32}
theorem td_drop {ts : List (Nat × Int32)} (hi : i < ts.length) : ts.drop i = ts.getD i (0, 0) :: ts.drop (i + 1) := by
  rw [List.drop_eq_getElem_cons hi, List.getD_eq_getElem?_getD, List.getElem?_eq_getElem hi]
  rfl
theorem dep_r (h1 : t.1 = 114) (hy : y < 120) (hz : z < 120) (h2 : t.2 = Int32.ofNat (y + 128 * z)) : dep cs Lr Lc t = if shB Lr Lc y z = true then (fnd cs 0 y z).toList else [] := by
  unfold dep
  rw [if_pos h1, h2, i32_tn (by omega), show (y + 128 * z) % 128 = y by omega, show (y + 128 * z) / 128 = z by omega]
theorem dep_b (h1 : isB t.1) (hy : y < 120) (hz : z < 120) (hy2 : y2 < 120) (hz2 : z2 < 120) (h2 : t.2 = Int32.ofNat (y + 128 * z + 16384 * (y2 + 128 * z2))) : dep cs Lr Lc t = if (shB Lr Lc y z && shB Lr Lc y2 z2) = true then rgn cs Lr Lc ((pos Lr y).getD 0) ((pos Lc z).getD 0) ((pos Lr y2).getD 0) ((pos Lc z2).getD 0) else [] := by
  have h3 : ¬ t.1 = 114 := by rcases h1 with h | h | h <;> omega
  unfold dep
  rw [if_neg h3, if_pos (show t.1 = 115 ∨ t.1 = 110 ∨ t.1 = 109 from h1), h2, i32_tn (by omega), show (y + 128 * z + 16384 * (y2 + 128 * z2)) % 128 = y by omega, show (y + 128 * z + 16384 * (y2 + 128 * z2)) / 128 % 128 = z by omega, show (y + 128 * z + 16384 * (y2 + 128 * z2)) / 16384 % 128 = y2 by omega, show (y + 128 * z + 16384 * (y2 + 128 * z2)) / 2097152 = z2 by omega]
theorem dep_0 (h1 : t.1 ≠ 114) (h2 : ¬ isB t.1) : dep cs Lr Lc t = [] := by
  unfold dep
  rw [if_neg h1, if_neg (show ¬ (t.1 = 115 ∨ t.1 = 110 ∨ t.1 = 109) from h2)]
theorem q289 {v : Nat} (hv : v < 200) : (isB v → rf_289 (Int32.ofNat v) S = some (1, S)) ∧ (¬ isB v → rf_289 (Int32.ofNat v) S = some (0, S)) := by
  unfold rf_289 isB
  constructor
  · intro h
    rcases h with h | h | h <;> subst h <;> rfl
  · intro h
    rw [if_neg (show ¬ Int32.ofNat v = (115 : Int32) from fun e => h (Or.inl (i32_inj (b := 115) (by omega) (by omega) e))), if_neg (show ¬ Int32.ofNat v = (110 : Int32) from fun e => h (Or.inr (Or.inl (i32_inj (b := 110) (by omega) (by omega) e)))), if_neg (show ¬ Int32.ofNat v = (109 : Int32) from fun e => h (Or.inr (Or.inr (i32_inj (b := 109) (by omega) (by omega) e))))]
theorem shB_t (h : shB Lr Lc y z = true) : ∃ p q, pos Lr y = some p ∧ pos Lc z = some q := by
  unfold shB at h
  rw [Bool.and_eq_true] at h
  exact ⟨_, _, (Option.some_get h.1).symm, (Option.some_get h.2).symm⟩
/-- one token -/
theorem q286t (w : SW o Lr Lc S) (C : CS D F cs S) (V : LV cs.length lev S) (hlev : ∀ j, lev j < 20000) (hc : c < 120) (hj : j < 20) (ht : tkO t) (e14 : S.2.1 14 (20 * c + j) = Int32.ofNat t.1) (e15 : S.2.1 15 (20 * c + j) = t.2) {x3 : Nat} (h3 : x3 < 20000) (J : Int32 → Int32 → Int32 → Int32 → rs_S → Option (Int32 × rs_S)) : ((rd_I S 14 (Int32.ofNat (20 * c + j))).bind fun v2 => if v2 = (114 : Int32) then (rd_I S 15 (Int32.ofNat (20 * c + j))).bind fun v3 => rb (rf_287 (Int32.ofNat o) v3 S) fun v4 S5 => if v4 = (0 : Int32) then r286_100 J (Int32.ofNat o) (Int32.ofNat c) (Int32.ofNat x3) (Int32.ofNat (20 * c + j)) (0 : Int32) S5 else (rd_I S5 15 (Int32.ofNat (20 * c + j))).bind fun v7 => (rd_I S5 15 (Int32.ofNat (20 * c + j))).bind fun v8 => rb (rf_283 (v7 - v7 / (128 : Int32) * (128 : Int32)) (v8 / (128 : Int32)) S5) fun v9 S10 => if (0 : Int32) ≤ v9 then (rd_I S10 36 v9).bind fun v12 => r286_98 J (Int32.ofNat o) (Int32.ofNat c) (Int32.ofNat x3) (Int32.ofNat (20 * c + j)) v12 S10 else r286_98 J (Int32.ofNat o) (Int32.ofNat c) (Int32.ofNat x3) (Int32.ofNat (20 * c + j)) (0 : Int32) S10 else r286_100 J (Int32.ofNat o) (Int32.ofNat c) (Int32.ofNat x3) (Int32.ofNat (20 * c + j)) (0 : Int32) S) = J (Int32.ofNat o) (Int32.ofNat c) (Int32.ofNat (mxl lev x3 (dep cs Lr Lc t))) (Int32.ofNat (20 * c + (j + 1))) S := by
  obtain ⟨t1, t2, t3⟩ := ht
  have n4 : Int32.ofNat (20 * c + j) + (1 : Int32) = Int32.ofNat (20 * c + (j + 1)) := i32_add _ 1
  have r14 : rd_I S 14 (Int32.ofNat (20 * c + j)) = some (Int32.ofNat t.1) := by rw [rdI (n := 2400) (by decide) (by omega) (by omega), e14]
  have r15 : rd_I S 15 (Int32.ofNat (20 * c + j)) = some t.2 := by rw [rdI (n := 2400) (by decide) (by omega) (by omega), e15]
  have fin : ∀ x5, x5 < 20000 → r286_142 J (Int32.ofNat o) (Int32.ofNat c) (Int32.ofNat x3) (Int32.ofNat (20 * c + j)) (Int32.ofNat x5) S = J (Int32.ofNat o) (Int32.ofNat c) (Int32.ofNat (max x3 x5)) (Int32.ofNat (20 * c + (j + 1))) S := by
    intro x5 h5
    unfold r286_142 r286_154
    by_cases e : x5 ≤ x3
    · rw [if_pos ((i32_len (by omega) (by omega)).mpr e), Nat.max_eq_left e, n4]
    · rw [if_neg (fun g => e ((i32_len (by omega) (by omega)).mp g)), Nat.max_eq_right (by omega), n4]
  have mz : ∀ l, mxl lev x3 l = max x3 (mxl lev 0 l) := fun l => by
    have h := mxl_max (lev := lev) l x3 0
    rwa [Nat.max_eq_left (Nat.zero_le _)] at h
  by_cases q1 : t.1 = 114
  · obtain ⟨y, z, hy, hz, e2⟩ := t2 q1
    have nb : ¬ isB t.1 := fun h => by rcases h with h | h | h <;> omega
    have g100 : ∀ x5, x5 < 20000 → r286_100 J (Int32.ofNat o) (Int32.ofNat c) (Int32.ofNat x3) (Int32.ofNat (20 * c + j)) (Int32.ofNat x5) S = J (Int32.ofNat o) (Int32.ofNat c) (Int32.ofNat (max x3 x5)) (Int32.ofNat (20 * c + (j + 1))) S := by
      intro x5 h5
      unfold r286_100
      rw [r14, Option.bind_some, (q289 t1).2 nb, rb_r, if_pos rfl]
      exact fin x5 h5
    obtain ⟨m1, m2⟩ := i32_m128 (n := y + 128 * z) (by omega)
    rw [r14, Option.bind_some, if_pos (by rw [q1]; rfl), r15, Option.bind_some, dep_r q1 hy hz e2, e2, q287 w hy hz, rb_r]
    by_cases hs : shB Lr Lc y z = true
    · rw [if_pos hs, if_neg (by decide), if_pos hs, r15, Option.bind_some, Option.bind_some, e2, m2, m1, show (y + 128 * z) % 128 = y by omega, show (y + 128 * z) / 128 = z by omega, q283 C hy hz, rb_r]
      cases hf : fnd cs 0 y z with
      | none =>
        rw [if_neg (by decide)]
        unfold r286_98
        exact (g100 0 (by omega)).trans (by rw [Nat.max_eq_left (Nat.zero_le _)]; rfl)
      | some x =>
        have hx := fnd_lt cs 0 _ _ x hf
        have hc2 := C.2.1
        have hv := V x (by omega)
        rw [if_pos (show (0 : Int32) ≤ oi (some x) from (i32_len (a := 0) (b := x) (by omega) (by omega)).mpr (Nat.zero_le _)), show oi (some x) = Int32.ofNat x from rfl, rdI (n := 120) (by decide) (by omega) (by omega), Option.bind_some, hv.1]
        unfold r286_98
        rw [g100 (lev x) hv.2]
        rfl
    · rw [if_neg hs, if_pos rfl, if_neg hs]
      exact (g100 0 (by omega)).trans (by rw [Nat.max_eq_left (Nat.zero_le _)]; rfl)
  · rw [r14, Option.bind_some, if_neg (show ¬ Int32.ofNat t.1 = (114 : Int32) from fun e => q1 (i32_inj (b := 114) (by omega) (by omega) e))]
    unfold r286_100
    rw [r14, Option.bind_some]
    by_cases qb : isB t.1
    · obtain ⟨y, z, y2, z2, hy, hz, hy2, hz2, e2⟩ := t3 qb
      rw [(q289 t1).1 qb, rb_r, if_neg (by decide), r15, Option.bind_some, dep_b qb hy hz hy2 hz2 e2, e2, q290 w hy hz hy2 hz2, rb_r]
      by_cases hs : (shB Lr Lc y z && shB Lr Lc y2 z2) = true
      · obtain ⟨s1, s2⟩ := Bool.and_eq_true .. ▸ hs
        obtain ⟨p, q, p1, p2⟩ := shB_t s1
        obtain ⟨p', q', p3, p4⟩ := shB_t s2
        rw [if_pos hs, if_neg (by decide), if_pos hs, r15, Option.bind_some, e2, q291 w C V hlev hy hz hy2 hz2 p1 p2 p3 p4, rb_r, p1, p2, p3, p4, fin _ (mxl_lt hlev _ _ (by omega)), mz]
        rfl
      · rw [if_neg hs, if_pos rfl, if_neg hs]
        exact (fin 0 (by omega)).trans (by rw [Nat.max_eq_left (Nat.zero_le _)]; rfl)
    · rw [(q289 t1).2 qb, rb_r, if_pos rfl, dep_0 q1 qb]
      exact (fin 0 (by omega)).trans (by rw [Nat.max_eq_left (Nat.zero_le _)]; rfl)
theorem q286l (w : SW o Lr Lc S) (C : CS D F cs S) (V : LV cs.length lev S) (hlev : ∀ j, lev j < 20000) (T : TKS c ts S) : ∀ n m j x3, j + n = ts.length → n < m → x3 < 20000 → r286_8 m (Int32.ofNat o) (Int32.ofNat c) (Int32.ofNat x3) (Int32.ofNat (20 * c + j)) S = some (Int32.ofNat (mxl lev x3 (dpa cs Lr Lc (ts.drop j)) + 1), S) := by
  obtain ⟨hc, hl, e13, tk⟩ := T
  have i1 : (20 : Int32) * Int32.ofNat c + Int32.ofNat ts.length = Int32.ofNat (20 * c + ts.length) := by
    rw [show (20 : Int32) * Int32.ofNat c = Int32.ofNat (20 * c) from i32_ml 20 c, i32_add]
  intro n
  induction n with
  | zero =>
    intro m j x3 h1 h2 h3
    cases m with
    | zero => omega
    | succ m =>
      rw [r286_8]
      dsimp only
      rw [rdI (n := 120) (by decide) hc (by omega), Option.bind_some, e13, i1, if_pos ((i32_len (by omega) (by omega)).mpr (by omega)), List.drop_of_length_le (by omega)]
      have n1 : Int32.ofNat x3 + (1 : Int32) = Int32.ofNat (x3 + 1) := i32_add _ 1
      rw [n1]
      rfl
  | succ n ih =>
    intro m j x3 h1 h2 h3
    cases m with
    | zero => omega
    | succ m =>
      have hj : j < ts.length := by omega
      obtain ⟨b1, b2, b3⟩ := tk j hj
      rw [r286_8]
      dsimp only
      rw [rdI (n := 120) (by decide) hc (by omega), Option.bind_some, e13, i1, if_neg (fun e => by have := (i32_len (by omega) (by omega)).mp e; omega), q286t w C V hlev hc (by omega) b3 b1 b2 h3 (r286_8 m), ih m (j + 1) _ (by omega) (by omega) (mxl_lt hlev _ _ h3), td_drop hj, dpa, mxl_app]
theorem q286 (w : SW o Lr Lc S) (C : CS D F cs S) (V : LV cs.length lev S) (hlev : ∀ j, lev j < 20000) (T : TKS c ts S) : rf_286 (Int32.ofNat o) (Int32.ofNat c) S = some (Int32.ofNat (mxl lev 0 (dpa cs Lr Lc ts) + 1), S) := by
  have := q286l w C V hlev T ts.length lf_N 0 0 (by omega) (by have := T.2.1; unfold lf_N; omega) (by omega)
  unfold rf_286
  rw [show (20 : Int32) * Int32.ofNat c = Int32.ofNat (20 * c) from i32_ml 20 c]
  exact this
end LVL
