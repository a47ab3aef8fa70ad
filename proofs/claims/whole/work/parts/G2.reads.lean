/-! WHAT a content reads; the reference's levels -/
/-- the cells of a row of a block, of a block -/
def rgc (cs : List (Nat × Nat)) (Lr Lc : List Nat) (x4 : Nat) : Nat → Nat → List Nat
  | 0, _ => []
  | n + 1, x5 => (fnd cs 0 (Lr.getD x4 0) (Lc.getD x5 0)).toList ++ rgc cs Lr Lc x4 n (x5 + 1)
def rgr (cs : List (Nat × Nat)) (Lr Lc : List Nat) (c0 nc : Nat) : Nat → Nat → List Nat
  | 0, _ => []
  | n + 1, x4 => rgc cs Lr Lc x4 nc c0 ++ rgr cs Lr Lc c0 nc n (x4 + 1)
def rgn (cs : List (Nat × Nat)) (Lr Lc : List Nat) (p q p2 q2 : Nat) : List Nat := rgr cs Lr Lc (min q q2) (max q q2 + 1 - min q q2) (max p p2 + 1 - min p p2) (min p p2)
def mxl (lev : Nat → Nat) (x : Nat) (l : List Nat) : Nat := l.foldl (fun a j => max a (lev j)) x
/-- the cells that a token reads -/
def dep (cs : List (Nat × Nat)) (Lr Lc : List Nat) (t : Nat × Int32) : List Nat :=
  if t.1 = 114 then (if shB Lr Lc (t.2.toNatClampNeg % 128) (t.2.toNatClampNeg / 128) = true then (fnd cs 0 (t.2.toNatClampNeg % 128) (t.2.toNatClampNeg / 128)).toList else [])
  else if t.1 = 115 ∨ t.1 = 110 ∨ t.1 = 109 then (if (shB Lr Lc (t.2.toNatClampNeg % 128) (t.2.toNatClampNeg / 128 % 128) && shB Lr Lc (t.2.toNatClampNeg / 16384 % 128) (t.2.toNatClampNeg / 2097152)) = true then rgn cs Lr Lc ((pos Lr (t.2.toNatClampNeg % 128)).getD 0) ((pos Lc (t.2.toNatClampNeg / 128 % 128)).getD 0) ((pos Lr (t.2.toNatClampNeg / 16384 % 128)).getD 0) ((pos Lc (t.2.toNatClampNeg / 2097152)).getD 0) else [])
  else []
def tkO (t : Nat × Int32) : Prop := t.1 < 200 ∧ (t.1 = 114 → ∃ y z, y < 120 ∧ z < 120 ∧ t.2 = Int32.ofNat (y + 128 * z)) ∧ (t.1 = 115 ∨ t.1 = 110 ∨ t.1 = 109 → ∃ y z y2 z2, y < 120 ∧ z < 120 ∧ y2 < 120 ∧ z2 < 120 ∧ t.2 = Int32.ofNat (y + 128 * z + 16384 * (y2 + 128 * z2)))
/-- the row of a content -/
def TKS (c : Nat) (ts : List (Nat × Int32)) (S : rs_S) : Prop := c < 120 ∧ ts.length ≤ 20 ∧ S.2.1 13 c = Int32.ofNat ts.length ∧ ∀ j, j < ts.length → S.2.1 14 (20 * c + j) = Int32.ofNat (ts.getD j (0, 0)).1 ∧ S.2.1 15 (20 * c + j) = (ts.getD j (0, 0)).2 ∧ tkO (ts.getD j (0, 0))
def LV (m : Nat) (lev : Nat → Nat) (S : rs_S) : Prop := ∀ j, j < m → S.2.1 36 j = Int32.ofNat (lev j) ∧ lev j < 20000
section RDS
variable {D : aD} {S : rs_S} {F : fo} {o i j l k y z y2 z2 : Nat} {cs : List (Nat × Nat)} {Lr Lc : List Nat} {lev : Nat → Nat}
theorem mxl_app (x : Nat) (l1 l2 : List Nat) : mxl lev x (l1 ++ l2) = mxl lev (mxl lev x l1) l2 := by
  unfold mxl
  rw [List.foldl_append]
theorem mxl_ge : ∀ (l : List Nat) (x : Nat), x ≤ mxl lev x l
  | [], x => Nat.le_refl _
  | j :: l, x => by
    have := mxl_ge l (max x (lev j))
    show x ≤ mxl lev (max x (lev j)) l
    omega
theorem mxl_max : ∀ (l : List Nat) (x y : Nat), mxl lev (max x y) l = max x (mxl lev y l)
  | [], x, y => rfl
  | j :: l, x, y => by
    show mxl lev (max (max x y) (lev j)) l = max x (mxl lev (max y (lev j)) l)
    rw [Nat.max_assoc, mxl_max l]
theorem mxl_lt (h : ∀ j, lev j < 20000) : ∀ (l : List Nat) (x : Nat), x < 20000 → mxl lev x l < 20000
  | [], x, hx => hx
  | j :: l, x, hx => mxl_lt h l _ (by have := h j; show max x (lev j) < 20000; omega)
theorem q291c (w : SW o Lr Lc S) (C : CS D F cs S) (V : LV cs.length lev S) (hlev : ∀ j, lev j < 20000) {arg : Int32} {x4 c1 : Nat} (hx4 : x4 < Lr.length) (hc1 : c1 < Lc.length) (e3 : rf_292 (Int32.ofNat o) arg 3 S = some (Int32.ofNat c1, S)) (J : Int32 → Int32 → Int32 → Int32 → rs_S → Option (Int32 × rs_S)) : ∀ n m x5 x3, x5 + n = c1 + 1 → n < m → x3 < 20000 → r291_32 J m (Int32.ofNat o) arg (Int32.ofNat x3) (Int32.ofNat x4) (Int32.ofNat x5) S = J (Int32.ofNat o) arg (Int32.ofNat (mxl lev x3 (rgc cs Lr Lc x4 n x5))) (Int32.ofNat (x4 + 1)) S := by
  obtain ⟨ho, s0, s1, l0, l1, m0, m1⟩ := w
  intro n
  induction n with
  | zero =>
    intro m x5 x3 h1 h2 h3
    cases m with
    | zero => omega
    | succ m =>
      have n4 : Int32.ofNat x4 + (1 : Int32) = Int32.ofNat (x4 + 1) := i32_add x4 1
      rw [r291_32]
      dsimp only
      rw [e3, rb_r, if_pos ((i32_ltn (by omega) (by omega)).mpr (by omega)), n4]
      rfl
  | succ n ih =>
    intro m x5 x3 h1 h2 h3
    cases m with
    | zero => omega
    | succ m =>
      have n5 : Int32.ofNat x5 + (1 : Int32) = Int32.ofNat (x5 + 1) := i32_add x5 1
      have hx5 : x5 < Lc.length := by omega
      have hr := m0 _ (gl_mem hx4)
      have hc := m1 _ (gl_mem hx5)
      have g0 : rf_242 (Int32.ofNat o) (0 : Int32) (Int32.ofNat x4) S = some (Int32.ofNat (Lr.getD x4 0), S) := q242 (k := 0) ho (by omega) s0 l0 hx4
      have g1 : rf_242 (Int32.ofNat o) (1 : Int32) (Int32.ofNat x5) S = some (Int32.ofNat (Lc.getD x5 0), S) := q242 (k := 1) ho (by omega) s1 l1 hx5
      rw [r291_32]
      dsimp only
      rw [e3, rb_r, if_neg (fun e => by have := (i32_ltn (by omega) (by omega)).mp e; omega), g0, rb_r, g1, rb_r, q283 C hr hc, rb_r, rgc, mxl_app]
      cases hf : fnd cs 0 (Lr.getD x4 0) (Lc.getD x5 0) with
      | none =>
        rw [if_pos (by decide)]
        unfold r291_92 r291_93
        rw [n5, ih m (x5 + 1) x3 (by omega) (by omega) h3]
        rfl
      | some x =>
        have hx := fnd_lt cs 0 _ _ x hf
        have hc2 := C.2.1
        have hv := V x (by omega)
        have hb : mxl lev x3 (some x).toList = max x3 (lev x) := rfl
        rw [if_neg (show ¬ oi (some x) < 0 from i32_lt x (by omega)), show oi (some x) = Int32.ofNat x from rfl, rdI (n := 120) (by decide) (by omega) (by omega), Option.bind_some, hv.1, hb]
        by_cases e : lev x ≤ x3
        · rw [if_pos ((i32_len (by omega) (by omega)).mpr e), Nat.max_eq_left e]
          unfold r291_92 r291_93
          rw [n5, ih m (x5 + 1) x3 (by omega) (by omega) h3]
        · rw [if_neg (fun g => e ((i32_len (by omega) (by omega)).mp g)), Nat.max_eq_right (by omega), Option.bind_some]
          unfold r291_93
          rw [n5, ih m (x5 + 1) (lev x) (by omega) (by omega) hv.2]
theorem q291r (w : SW o Lr Lc S) (C : CS D F cs S) (V : LV cs.length lev S) (hlev : ∀ j, lev j < 20000) {arg : Int32} {r1 c0 c1 : Nat} (hr1 : r1 < Lr.length) (hc1 : c1 < Lc.length) (hc0 : c0 ≤ c1) (e1 : rf_292 (Int32.ofNat o) arg 1 S = some (Int32.ofNat r1, S)) (e2 : rf_292 (Int32.ofNat o) arg 2 S = some (Int32.ofNat c0, S)) (e3 : rf_292 (Int32.ofNat o) arg 3 S = some (Int32.ofNat c1, S)) : ∀ n m x4 x3, x4 + n = r1 + 1 → n < m → x3 < 20000 → r291_11 m (Int32.ofNat o) arg (Int32.ofNat x3) (Int32.ofNat x4) S = some (Int32.ofNat (mxl lev x3 (rgr cs Lr Lc c0 (c1 + 1 - c0) n x4)), S) := by
  have l0 := w.2.2.2.1
  have l1 := w.2.2.2.2.1
  intro n
  induction n with
  | zero =>
    intro m x4 x3 h1 h2 h3
    cases m with
    | zero => omega
    | succ m =>
      rw [r291_11]
      dsimp only
      rw [e1, rb_r, if_pos ((i32_ltn (by omega) (by omega)).mpr (by omega))]
      rfl
  | succ n ih =>
    intro m x4 x3 h1 h2 h3
    cases m with
    | zero => omega
    | succ m =>
      rw [r291_11]
      dsimp only
      rw [e1, rb_r, if_neg (fun e => by have := (i32_ltn (by omega) (by omega)).mp e; omega), e2, rb_r, q291c w C V hlev (by omega) hc1 e3 (r291_11 m) (c1 + 1 - c0) lf_N c0 x3 (by omega) (by unfold lf_N; omega) h3, rgr, mxl_app]
      exact ih m (x4 + 1) _ (by omega) (by omega) (mxl_lt hlev _ _ h3)
theorem q291 (w : SW o Lr Lc S) (C : CS D F cs S) (V : LV cs.length lev S) (hlev : ∀ j, lev j < 20000) (hy : y < 120) (hz : z < 120) (hy2 : y2 < 120) (hz2 : z2 < 120) {p q p2 q2 : Nat} (e1 : pos Lr y = some p) (e2 : pos Lc z = some q) (e3 : pos Lr y2 = some p2) (e4 : pos Lc z2 = some q2) : rf_291 (Int32.ofNat o) (Int32.ofNat (y + 128 * z + 16384 * (y2 + 128 * z2))) S = some (Int32.ofNat (mxl lev 0 (rgn cs Lr Lc p q p2 q2)), S) := by
  obtain ⟨g0, g1, g2, g3⟩ := q292 w hy hz hy2 hz2 e1 e2 e3 e4
  have b1 := pos_lt e1
  have b2 := pos_lt e2
  have b3 := pos_lt e3
  have b4 := pos_lt e4
  have l0 := w.2.2.2.1
  unfold rf_291 rgn
  rw [g0, rb_r]
  exact q291r w C V hlev (by omega) (by omega) (by omega) g1 g2 g3 (max p p2 + 1 - min p p2) lf_N (min p p2) 0 (by omega) (by unfold lf_N; omega) (by omega)
end RDS
