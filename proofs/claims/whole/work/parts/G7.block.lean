/-! THE VALUE of a block: a fold over its cells' values; the reference's -/
abbrev b4 : Type := Int64 × Int64 × Int64 × Int64
/-- count, first error, sum, greatest -/
def bst (q : b4) (v : Int64) : b4 := if isE v = true then (q.1 + 1, (if q.2.1 = 0 then v else q.2.1), q.2.2.1, q.2.2.2) else (q.1 + 1, q.2.1, (if isE q.2.2.1 = true then q.2.2.1 else nb (q.2.2.1 + v)), (if q.1 + 1 = 1 then v else jmx q.2.2.2 v))
def bfo (vs : List Int64) : b4 := vs.foldl bst (0, 0, 0, 0)
def bfin (cd : Nat) (q : b4) : Int64 := if cd = 110 then q.1 * 10000 else if q.2.1 = 0 then (if cd = 115 then q.2.2.1 else q.2.2.2) else q.2.1
/-- the values of those that hold something -/
def bvl (K : kc) (f : Nat → Int64) (l : List Nat) : List Int64 := (l.filter (fun i => (K i).isSome)).map f
/-- what the reference's fold holds -/
def RB (cd : Nat) (q : b4) (x4 x6 x8 : Int64) : Prop := x4 = q.1 ∧ VB q.2.2.1 ∧ VB q.2.2.2 ∧ isE q.2.2.2 = false ∧ (q.2.1 ≠ 0 → isE q.2.1 = true ∧ VB q.2.1 ∧ x8 = cv q.2.1) ∧ (q.2.1 = 0 → x8 = 0 ∧ (cd = 109 → x6 = q.2.2.2) ∧ (cd ≠ 109 → (isE q.2.2.1 = true → q.2.2.1 = 1000000004 ∧ (1000000000 < x6.toInt ∨ x6.toInt < -1000000000)) ∧ (isE q.2.2.1 = false → x6 = q.2.2.1)))
def nx6 (cd : Nat) (x4 x6 v : Int64) : Int64 := if cd = 109 then (if x4 = 0 then v else if v ≤ x6 then x6 else v) else if 1000000000 < x6.toInt ∨ x6.toInt < -1000000000 then x6 else x6 + v
section BLK
variable {cd : Nat} {q : b4} {x4 x6 x8 v : Int64} {S : rs_S}
theorem j_a1 {a : Int64} : a + 1 = 1 ↔ a = 0 := by
  constructor
  · intro h
    have h2 : a + 1 - 1 = 1 - 1 := by rw [h]
    rw [Int64.add_sub_cancel] at h2
    exact h2.trans (by decide)
  · intro h
    rw [h]
    decide
theorem r132 {J31 : Int32 → Int32 → Int32 → Int64 → Int64 → Int64 → Int32 → rs_S → Option (Int64 × rs_S)} {J52 : Int32 → Int32 → Int32 → Int64 → Int64 → Int64 → Int32 → Int32 → rs_S → Option (Int64 × rs_S)} {x1 x3 x10 x11 : Int32} {s0 : Int64} (hc : cd < 200) : r294_132 J31 J52 x1 (Int32.ofNat cd) x3 x4 x6 x10 x11 v s0 S = J52 x1 (Int32.ofNat cd) x3 (x4 + 1) (nx6 cd x4 x6 v) s0 x10 (x11 + 1) S := by
  unfold r294_132 r294_155 r294_183 r294_191 nx6
  by_cases h1 : cd = 109
  · rw [if_pos (by rw [h1]; rfl), if_pos h1]
    by_cases h2 : x4 = 0
    · rw [if_pos ((lg_cmp_eq _ _).mpr h2), if_pos h2]
    · rw [if_neg (fun z => h2 ((lg_cmp_eq _ _).mp z)), if_neg h2]
      by_cases h3 : v ≤ x6
      · rw [if_pos ((lg_cmp_le _ _).mpr h3), if_pos h3]
      · rw [if_neg (fun z => h3 ((lg_cmp_le _ _).mp z)), if_neg h3]
  · rw [if_neg (show ¬ Int32.ofNat cd = (109 : Int32) from fun z => h1 (i32_inj (b := 109) (by omega) (by omega) z)), if_neg h1, q295, rb_r]
    by_cases h2 : 1000000000 < x6.toInt ∨ x6.toInt < -1000000000
    · rw [if_pos h2, if_neg (by decide), if_pos h2]
    · rw [if_neg h2, if_pos rfl, if_neg h2]
theorem jmx_i : jmx x4 x6 = if x4.toInt < x6.toInt then x6 else x4 := by
  unfold jmx
  by_cases h : x4.toInt < x6.toInt
  · rw [if_pos h, if_pos (Int64.lt_iff_toInt_lt.mpr h)]
  · rw [if_neg h, if_neg (fun z => h (Int64.lt_iff_toInt_lt.mp z))]
theorem isE_f (h : ¬ isE v = true) : isE v = false := by simpa using h
theorem bst_B (h1 : VB q.2.2.1) (h2 : VB q.2.2.2) (h3 : isE q.2.2.2 = false) (hv : VB v) : VB (bst q v).2.2.1 ∧ VB (bst q v).2.2.2 ∧ isE (bst q v).2.2.2 = false := by
  unfold bst
  by_cases e : isE v = true
  · rw [if_pos e]; exact ⟨h1, h2, h3⟩
  · rw [if_neg e]
    dsimp only
    refine ⟨?_, ?_⟩
    · split
      · exact h1
      · exact nb_B
    · split
      · exact ⟨hv, isE_f e⟩
      · rw [jmx_i]
        split
        · exact ⟨hv, isE_f e⟩
        · exact ⟨h2, h3⟩
/-- one cell -/
theorem RB_v {J31 : Int32 → Int32 → Int32 → Int64 → Int64 → Int64 → Int32 → rs_S → Option (Int64 × rs_S)} {J52 : Int32 → Int32 → Int32 → Int64 → Int64 → Int64 → Int32 → Int32 → rs_S → Option (Int64 × rs_S)} {x1 x3 x10 x11 : Int32} (hc : cd < 200) (B : RB cd q x4 x6 x8) (hv : VB v) : ∃ y6 y8, (if (lg_cmp x8 (0 : Int64)) = (0 : Int32) then if (lg_cmp (cv v) (4000000000 : Int64)) < (0 : Int32) then r294_130 J31 J52 x1 (Int32.ofNat cd) x3 x4 x6 x8 x10 x11 (cv v) S else r294_132 J31 J52 x1 (Int32.ofNat cd) x3 x4 x6 x10 x11 (cv v) (cv v) S else r294_130 J31 J52 x1 (Int32.ofNat cd) x3 x4 x6 x8 x10 x11 (cv v) S) = J52 x1 (Int32.ofNat cd) x3 (x4 + 1) y6 y8 x10 (x11 + 1) S ∧ RB cd (bst q v) (x4 + 1) y6 y8 := by
  obtain ⟨b1, b2, b3, b4, b5, b6⟩ := B
  obtain ⟨c1, c2, c3⟩ := bst_B b2 b3 b4 hv
  have e0 : (0 : Int64).toInt = 0 := rfl
  unfold r294_130
  by_cases h0 : q.2.1 = 0
  · obtain ⟨d1, d2, d3⟩ := b6 h0
    rw [if_pos ((lg_cmp_eq _ _).mpr d1)]
    by_cases e : isE v = true
    · have hv0 : v ≠ 0 := fun z => by rw [z] at e; exact absurd e (by decide)
      rw [if_neg (fun z => by rw [(c4e hv).1.mp z] at e; cases e), r132 hc]
      refine ⟨_, _, rfl, ?_, c1, c2, c3, ?_, ?_⟩
      · unfold bst; rw [if_pos e, b1]
      · intro _
        unfold bst
        rw [if_pos e]
        dsimp only
        rw [if_pos h0]
        exact ⟨e, hv, rfl⟩
      · intro z
        unfold bst at z
        rw [if_pos e] at z
        dsimp only at z
        rw [if_pos h0] at z
        exact absurd z hv0
    · have ef := isE_f e
      rw [if_pos ((c4e hv).1.mpr ef), r132 hc, cv_n ef]
      have q1 := isE_n.mp ef
      refine ⟨_, _, rfl, ?_, c1, c2, c3, ?_, ?_⟩
      · unfold bst; rw [if_neg e, b1]
      · intro z
        unfold bst at z
        rw [if_neg e] at z
        exact absurd h0 z
      · intro _
        refine ⟨d1, fun hm => ?_, fun hm => ?_⟩
        · unfold bst nx6
          rw [if_neg e, if_pos hm, d2 hm, ← b1, jmx_i]
          dsimp only
          by_cases z : x4 = 0
          · rw [if_pos z, if_pos (j_a1.mpr z)]
          · rw [if_neg z, if_neg (fun y => z (j_a1.mp y))]
            by_cases y : v ≤ q.2.2.2
            · rw [if_pos y, if_neg (by rw [Int64.le_iff_toInt_le] at y; omega)]
            · rw [if_neg y, if_pos (by rw [Int64.le_iff_toInt_le] at y; omega)]
        · obtain ⟨g1, g2⟩ := d3 hm
          unfold bst nx6
          rw [if_neg e, if_neg hm]
          dsimp only
          by_cases z : isE q.2.2.1 = true
          · obtain ⟨g3, g4⟩ := g1 z
            rw [if_pos z, if_pos g4]
            exact ⟨fun _ => ⟨g3, g4⟩, fun y => by rw [z] at y; cases y⟩
          · have zf := isE_f z
            have g5 := g2 zf
            have q2 := isE_n.mp zf
            have ea : (q.2.2.1 + v).toInt = q.2.2.1.toInt + v.toInt := j_add (by have := b2.1; have := hv.1; omega) (by omega)
            rw [if_neg z, g5, if_neg (by have := b2.1; omega)]
            have hn := nb_i (v := q.2.2.1 + v)
            refine ⟨fun y => ?_, fun y => ?_⟩
            · have y' := isE_i.mp y
              by_cases g6 : 1000000000 < (q.2.2.1 + v).toInt ∨ (q.2.2.1 + v).toInt < -1000000000
              · refine ⟨Int64.toInt_inj.mp ?_, g6⟩
                have e4 : (1000000004 : Int64).toInt = 1000000004 := rfl
                rw [hn, e4]
                split
                · rfl
                · rw [if_pos (by omega)]
              · rw [hn, if_neg (by omega), if_neg (by omega)] at y'
                exact absurd (Or.inl y') g6
            · have y' := isE_n.mp y
              apply Int64.toInt_inj.mp
              rw [hn] at y' ⊢
              split at y'
              · omega
              · next g7 =>
                rw [if_neg g7]
                split at y'
                · omega
                · next g8 => rw [if_neg g8]
  · obtain ⟨d1, d2, d3⟩ := b5 h0
    have hx : ¬ x8 = 0 := fun z => by
      have h2 := cv_i d2
      rw [← d3, z, if_pos (isE_i.mp d1), e0] at h2
      have := isE_i.mp d1
      omega
    rw [if_neg (fun z => hx ((lg_cmp_eq _ _).mp z)), r132 hc]
    have hb : (bst q v).2.1 = q.2.1 := by
      unfold bst
      by_cases e : isE v = true
      · rw [if_pos e]
        show (if q.2.1 = 0 then v else q.2.1) = q.2.1
        rw [if_neg h0]
      · rw [if_neg e]
    refine ⟨_, _, rfl, ?_, c1, c2, c3, ?_, ?_⟩
    · unfold bst; split <;> rw [b1]
    · rw [hb]; exact fun _ => ⟨d1, d2, d3⟩
    · rw [hb]; exact fun z => absurd z h0
theorem bst_c : ∀ (vs : List Int64) (q : b4), (vs.foldl bst q).1 = q.1 + Int64.ofNat vs.length
  | [], q => by
    show q.1 = q.1 + Int64.ofNat 0
    exact (Int64.add_zero _).symm
  | v :: vs, q => by
    rw [List.foldl_cons, bst_c vs, List.length_cons]
    have e : (bst q v).1 = q.1 + 1 := by unfold bst; split <;> rfl
    rw [e, Int64.add_assoc]
    congr 1
    rw [Nat.add_comm, Int64.ofNat_add]
    rfl
theorem bfo_B : ∀ (vs : List Int64) (q : b4), (∀ v ∈ vs, VB v) → VB q.2.2.1 → VB q.2.2.2 → isE q.2.2.2 = false → (q.2.1 ≠ 0 → VB q.2.1) → VB (vs.foldl bst q).2.2.1 ∧ VB (vs.foldl bst q).2.2.2 ∧ ((vs.foldl bst q).2.1 ≠ 0 → VB (vs.foldl bst q).2.1)
  | [], q, _, h1, h2, h3, h4 => ⟨h1, h2, h4⟩
  | v :: vs, q, hv, h1, h2, h3, h4 => by
    have hv0 := hv v List.mem_cons_self
    obtain ⟨c1, c2, c3⟩ := bst_B h1 h2 h3 hv0
    rw [List.foldl_cons]
    refine bfo_B vs (bst q v) (fun x hx => hv x (List.mem_cons_of_mem _ hx)) c1 c2 c3 ?_
    unfold bst
    split
    · dsimp only
      split
      · exact fun _ => hv0
      · exact h4
    · exact h4
theorem bfin_B (vs : List Int64) (hv : ∀ v ∈ vs, VB v) (hl : vs.length ≤ 20000) : VB (bfin cd (bfo vs)) := by
  obtain ⟨c1, c2, c3⟩ := bfo_B vs (0, 0, 0, 0) hv ⟨by decide, by decide⟩ ⟨by decide, by decide⟩ (by decide) (fun z => absurd rfl z)
  unfold bfin
  split
  · have e := bst_c vs (0, 0, 0, 0)
    have e1 : (Int64.ofNat vs.length).toInt = vs.length := lg_ofNat_toInt (by omega)
    have e2 : (bfo vs).1 = Int64.ofNat vs.length := by
      unfold bfo
      rw [e]
      exact Int64.zero_add _
    have eM : (10000 : Int64).toInt = 10000 := rfl
    have em := j_mul (x := (bfo vs).1) (y := 10000) (z := vs.length * 10000) (by rw [e2, e1, eM]) (by omega) (by omega)
    unfold VB
    rw [em]
    omega
  · split
    · split
      · exact c1
      · exact c2
    · next h => exact c3 h
/-- the end -/
theorem RB_fin {x1 : Nat} (vs : List Int64) (hl : vs.length ≤ 20000) (hc : cd = 115 ∨ cd = 110 ∨ cd = 109) (B : RB cd (bfo vs) x4 x6 x8) : (if Int32.ofNat cd = (110 : Int32) then some (((10000 : Int64) * x4), S) else if (lg_cmp x8 (0 : Int64)) ≤ (0 : Int32) then rb (rf_295 x6 S) fun v4 S5 => if v4 = (0 : Int32) then some (x6, S5) else some ((4000000004 : Int64), S5) else some (x8, S)) = some (cv (bfin cd (bfo vs)), S) := by
  obtain ⟨b1, b2, b3, b4, b5, b6⟩ := B
  have e0 : (0 : Int64).toInt = 0 := rfl
  unfold bfin
  by_cases h1 : cd = 110
  · have e := bst_c vs (0, 0, 0, 0)
    have e1 : (Int64.ofNat vs.length).toInt = vs.length := lg_ofNat_toInt (by omega)
    have e2 : (bfo vs).1 = Int64.ofNat vs.length := by
      unfold bfo
      rw [e]
      exact Int64.zero_add _
    have eM : (10000 : Int64).toInt = 10000 := rfl
    have em := j_mul (x := (bfo vs).1) (y := 10000) (z := vs.length * 10000) (by rw [e2, e1, eM]) (by omega) (by omega)
    rw [if_pos (by rw [h1]; rfl), if_pos h1, b1, Int64.mul_comm, cv_n (isE_n.mpr (by rw [em]; omega))]
  · rw [if_neg (show ¬ Int32.ofNat cd = (110 : Int32) from fun z => h1 (i32_inj (b := 110) (by omega) (by omega) z)), if_neg h1]
    by_cases h0 : (bfo vs).2.1 = 0
    · obtain ⟨d1, d2, d3⟩ := b6 h0
      rw [if_pos ((lg_cmp_le _ _).mpr (by rw [d1]; decide)), if_pos h0, q295, rb_r]
      by_cases h9 : cd = 109
      · have g := d2 h9
        have q2 := isE_n.mp b4
        rw [if_neg (show ¬ cd = 115 by omega), g, if_neg (show ¬ (1000000000 < (bfo vs).2.2.2.toInt ∨ (bfo vs).2.2.2.toInt < -1000000000) by have := b3.1; omega), if_pos rfl, cv_n b4]
      · obtain ⟨g1, g2⟩ := d3 h9
        rw [if_pos (show cd = 115 by omega)]
        by_cases z : isE (bfo vs).2.2.1 = true
        · obtain ⟨g3, g4⟩ := g1 z
          rw [if_pos g4, if_neg (by decide), g3]
          rfl
        · have zf := isE_f z
          have q2 := isE_n.mp zf
          rw [g2 zf, if_neg (show ¬ (1000000000 < (bfo vs).2.2.1.toInt ∨ (bfo vs).2.2.1.toInt < -1000000000) by have := b2.1; omega), if_pos rfl, cv_n zf]
    · obtain ⟨d1, d2, d3⟩ := b5 h0
      have h2 := cv_i d2
      rw [← d3, if_pos (isE_i.mp d1)] at h2
      have := isE_i.mp d1
      rw [if_neg (fun z => by
        have z := (lg_cmp_le _ _).mp z
        rw [Int64.le_iff_toInt_le, e0] at z
        omega), if_neg h0, d3]
theorem RB_0 : RB cd (bfo []) 0 0 0 := ⟨rfl, ⟨by decide, by decide⟩, ⟨by decide, by decide⟩, by decide, fun z => absurd rfl z, fun _ => ⟨rfl, fun _ => rfl, fun _ => ⟨fun z => absurd z (by decide), fun _ => rfl⟩⟩⟩
end BLK
section WBL
variable {D : aD} {S : rs_S} {F : fo} {o i j l k y z y2 z2 n : Nat} {cs : List (Nat × Nat)} {Lr Lc : List Nat} {K : kc} {f : Nat → Int64} {cd : Nat}
theorem q285 (Q : CK K n S) (hi : i < n) (hn : n ≤ 120) : ((K i).isSome = false ∧ rf_285 (Int32.ofNat i) S = some (-1, S)) ∨ ∃ c fm ts, K i = some (fm, ts) ∧ rf_285 (Int32.ofNat i) S = some (Int32.ofNat c, S) ∧ TKS c ts S ∧ S.2.1 12 c = if fm = true then 1 else 0 := by
  obtain ⟨a, ha, e35, hk⟩ := Q i hi
  have g : rf_285 (Int32.ofNat i) S = some (S.2.1 10 a, S) := by
    unfold rf_285
    rw [rdI (n := 120) (by decide) (by omega) (by omega), Option.bind_some, e35, rdI (n := 120) (by decide) ha (by omega), Option.bind_some]
  rcases hk with ⟨k1, k2⟩ | ⟨c, fm, ts, k1, k2, k3, k4⟩
  · exact Or.inl ⟨by rw [k1]; rfl, by rw [g, k2]⟩
  · exact Or.inr ⟨c, fm, ts, k1, by rw [g, k2], k3, k4⟩
theorem rdJ {k n : Nat} (hk : rs_len k = n) (hi : i < n) (hn : n < 2 ^ 31) : rd_J S k (Int32.ofNat i) = some (S.2.2 k i) := by
  unfold rd_J
  rw [hk, la_ix_of hi hn]
  rfl
theorem bvl_app (l1 l2 : List Nat) : bvl K f (l1 ++ l2) = bvl K f l1 ++ bvl K f l2 := by
  unfold bvl
  rw [List.filter_append, List.map_append]
theorem q294c (w : SW o Lr Lc S) (C : CS D F cs S) (Q : CK K cs.length S) (hB : ∀ i, VB (f i)) (hcd : cd < 200) {arg : Int32} {x4 c1 : Nat} (hx4 : x4 < Lr.length) (hc1 : c1 < Lc.length) (e3 : rf_292 (Int32.ofNat o) arg 3 S = some (Int32.ofNat c1, S)) (J : Int32 → Int32 → Int32 → Int64 → Int64 → Int64 → Int32 → rs_S → Option (Int64 × rs_S)) : ∀ n m x5 q a4 a6 a8, x5 + n = c1 + 1 → n < m → (∀ i ∈ rgc cs Lr Lc x4 n x5, (K i).isSome = true → S.2.2 37 i = cv (f i)) → RB cd q a4 a6 a8 → ∃ y4 y6 y8, r294_52 J m (Int32.ofNat o) (Int32.ofNat cd) arg a4 a6 a8 (Int32.ofNat x4) (Int32.ofNat x5) S = J (Int32.ofNat o) (Int32.ofNat cd) arg y4 y6 y8 (Int32.ofNat (x4 + 1)) S ∧ RB cd ((bvl K f (rgc cs Lr Lc x4 n x5)).foldl bst q) y4 y6 y8 := by
  obtain ⟨ho, s0, s1, l0, l1, m0, m1⟩ := w
  intro n
  induction n with
  | zero =>
    intro m x5 q a4 a6 a8 h1 h2 hv B
    cases m with
    | zero => omega
    | succ m =>
      have n4 : Int32.ofNat x4 + (1 : Int32) = Int32.ofNat (x4 + 1) := i32_add x4 1
      refine ⟨a4, a6, a8, ?_, B⟩
      rw [r294_52]
      dsimp only
      rw [e3, rb_r, if_pos ((i32_ltn (by omega) (by omega)).mpr (by omega)), n4]
  | succ n ih =>
    intro m x5 q a4 a6 a8 h1 h2 hv B
    cases m with
    | zero => omega
    | succ m =>
      have n5 : Int32.ofNat x5 + (1 : Int32) = Int32.ofNat (x5 + 1) := i32_add x5 1
      have hx5 : x5 < Lc.length := by omega
      have hr := m0 _ (gl_mem hx4)
      have hc := m1 _ (gl_mem hx5)
      have g0 : rf_242 (Int32.ofNat o) (0 : Int32) (Int32.ofNat x4) S = some (Int32.ofNat (Lr.getD x4 0), S) := q242 (k := 0) ho (by omega) s0 l0 hx4
      have g1 : rf_242 (Int32.ofNat o) (1 : Int32) (Int32.ofNat x5) S = some (Int32.ofNat (Lc.getD x5 0), S) := q242 (k := 1) ho (by omega) s1 l1 hx5
      rw [rgc] at hv
      have hv2 := fun i hi => hv i (List.mem_append_right _ hi)
      rw [rgc, bvl_app, List.foldl_append]
      rw [r294_52]
      dsimp only
      rw [e3, rb_r, if_neg (fun e => by have := (i32_ltn (by omega) (by omega)).mp e; omega), g0, rb_r, g1, rb_r, q283 C hr hc, rb_r]
      cases hf : fnd cs 0 (Lr.getD x4 0) (Lc.getD x5 0) with
      | none =>
        rw [if_pos (by decide)]
        unfold r294_191
        rw [n5]
        exact ih m (x5 + 1) q a4 a6 a8 (by omega) (by omega) hv2 B
      | some x =>
        have hx := fnd_lt cs 0 _ _ x hf
        have hc2 := C.2.1
        rw [if_neg (show ¬ oi (some x) < 0 from i32_lt x (by omega)), show oi (some x) = Int32.ofNat x from rfl]
        rcases q285 Q (show x < cs.length by omega) hc2 with ⟨k1, k2⟩ | ⟨c, fm, ts, k1, k2, k3, k4⟩
        · have eb : bvl K f (some x).toList = [] := by
            unfold bvl
            show List.map f (List.filter _ [x]) = []
            rw [List.filter_cons, if_neg (by rw [k1]; decide)]
            rfl
          rw [k2, rb_r, if_pos (by decide), eb]
          unfold r294_191
          rw [n5]
          exact ih m (x5 + 1) q a4 a6 a8 (by omega) (by omega) hv2 B
        · have hs : (K x).isSome = true := by rw [k1]; rfl
          have eb : bvl K f (some x).toList = [f x] := by
            unfold bvl
            show List.map f (List.filter _ [x]) = [f x]
            rw [List.filter_cons, if_pos hs]
            rfl
          have hc3 := k3.1
          have ev := hv x (List.mem_append_left _ (by rw [hf]; exact List.mem_cons_self)) hs
          rw [k2, rb_r, if_neg (i32_lt c (by omega)), rdJ (n := 120) (by decide) (by omega) (by omega), Option.bind_some, ev, eb]
          obtain ⟨y6, y8, g5, g6⟩ := RB_v (J31 := J) (J52 := r294_52 J m) (x1 := Int32.ofNat o) (x3 := arg) (x10 := Int32.ofNat x4) (x11 := Int32.ofNat x5) (S := S) hcd B (hB x)
          rw [g5, n5]
          exact ih m (x5 + 1) _ _ _ _ (by omega) (by omega) hv2 g6
theorem q294r (w : SW o Lr Lc S) (C : CS D F cs S) (Q : CK K cs.length S) (hB : ∀ i, VB (f i)) (hcd : cd = 115 ∨ cd = 110 ∨ cd = 109) {arg : Int32} {r1 c0 c1 : Nat} (hr1 : r1 < Lr.length) (hc1 : c1 < Lc.length) (hc0 : c0 ≤ c1) (e1 : rf_292 (Int32.ofNat o) arg 1 S = some (Int32.ofNat r1, S)) (e2 : rf_292 (Int32.ofNat o) arg 2 S = some (Int32.ofNat c0, S)) (e3 : rf_292 (Int32.ofNat o) arg 3 S = some (Int32.ofNat c1, S)) : ∀ n m x4 vs a4 a6 a8, x4 + n = r1 + 1 → n < m → (∀ i ∈ rgr cs Lr Lc c0 (c1 + 1 - c0) n x4, (K i).isSome = true → S.2.2 37 i = cv (f i)) → vs.length + (rgr cs Lr Lc c0 (c1 + 1 - c0) n x4).length ≤ 20000 → RB cd (bfo vs) a4 a6 a8 → r294_31 m (Int32.ofNat o) (Int32.ofNat cd) arg a4 a6 a8 (Int32.ofNat x4) S = some (cv (bfin cd (bfo (vs ++ bvl K f (rgr cs Lr Lc c0 (c1 + 1 - c0) n x4)))), S) := by
  have l0 := w.2.2.2.1
  have l1 := w.2.2.2.2.1
  intro n
  induction n with
  | zero =>
    intro m x4 vs a4 a6 a8 h1 h2 hv hl B
    cases m with
    | zero => omega
    | succ m =>
      rw [r294_31]
      dsimp only
      rw [e1, rb_r, if_pos ((i32_ltn (by omega) (by omega)).mpr (by omega)), RB_fin (x1 := 0) vs (by omega) hcd B]
      show _ = some (cv (bfin cd (bfo (vs ++ []))), S)
      rw [List.append_nil]
  | succ n ih =>
    intro m x4 vs a4 a6 a8 h1 h2 hv hl B
    cases m with
    | zero => omega
    | succ m =>
      rw [rgr] at hv hl
      rw [List.length_append] at hl
      rw [rgr, bvl_app, ← List.append_assoc]
      obtain ⟨y4, y6, y8, g1, g2⟩ := q294c w C Q hB (show cd < 200 by omega) (show x4 < Lr.length by omega) hc1 e3 (r294_31 m) (c1 + 1 - c0) lf_N c0 (bfo vs) a4 a6 a8 (by omega) (by unfold lf_N; omega) (fun i hi => hv i (List.mem_append_left _ hi)) B
      rw [r294_31]
      dsimp only
      rw [e1, rb_r, if_neg (fun e => by have := (i32_ltn (by omega) (by omega)).mp e; omega), e2, rb_r, g1]
      refine ih m (x4 + 1) (vs ++ bvl K f (rgc cs Lr Lc x4 (c1 + 1 - c0) c0)) _ _ _ (by omega) (by omega) (fun i hi => hv i (List.mem_append_right _ hi)) ?_ ?_
      · have hb : (bvl K f (rgc cs Lr Lc x4 (c1 + 1 - c0) c0)).length ≤ (rgc cs Lr Lc x4 (c1 + 1 - c0) c0).length := by
          unfold bvl
          rw [List.length_map]
          exact List.length_filter_le _ _
        rw [List.length_append]
        omega
      · unfold bfo
        rw [List.foldl_append]
        exact g2
theorem rgc_len : ∀ n x4 x5, (rgc cs Lr Lc x4 n x5).length ≤ n
  | 0, _, _ => Nat.le_refl _
  | n + 1, x4, x5 => by
    rw [rgc, List.length_append]
    have := rgc_len n x4 (x5 + 1)
    have h2 : (fnd cs 0 (Lr.getD x4 0) (Lc.getD x5 0)).toList.length ≤ 1 := by cases fnd cs 0 (Lr.getD x4 0) (Lc.getD x5 0) <;> simp
    omega
theorem rgr_len : ∀ c0 nc n x4, (rgr cs Lr Lc c0 nc n x4).length ≤ n * nc
  | _, _, 0, _ => by rw [rgr, Nat.zero_mul]; exact Nat.le_refl _
  | c0, nc, n + 1, x4 => by
    rw [rgr, List.length_append, Nat.succ_mul]
    have := rgr_len c0 nc n (x4 + 1)
    have := rgc_len (cs := cs) (Lr := Lr) (Lc := Lc) nc x4 c0
    omega
theorem rgn_len {p q p2 q2 : Nat} (h1 : p < 120) (h2 : q < 120) (h3 : p2 < 120) (h4 : q2 < 120) : (rgn cs Lr Lc p q p2 q2).length ≤ 14400 := by
  have h := rgr_len (cs := cs) (Lr := Lr) (Lc := Lc) (min q q2) (max q q2 + 1 - min q q2) (max p p2 + 1 - min p p2) (min p p2)
  have h5 : (max p p2 + 1 - min p p2) * (max q q2 + 1 - min q q2) ≤ 120 * 120 := Nat.mul_le_mul (by omega) (by omega)
  unfold rgn
  omega
theorem q294 (w : SW o Lr Lc S) (C : CS D F cs S) (Q : CK K cs.length S) (hB : ∀ i, VB (f i)) (hcd : cd = 115 ∨ cd = 110 ∨ cd = 109) (hy : y < 120) (hz : z < 120) (hy2 : y2 < 120) (hz2 : z2 < 120) (hv : (shB Lr Lc y z && shB Lr Lc y2 z2) = true → ∀ i ∈ rgn cs Lr Lc ((pos Lr y).getD 0) ((pos Lc z).getD 0) ((pos Lr y2).getD 0) ((pos Lc z2).getD 0), (K i).isSome = true → S.2.2 37 i = cv (f i)) : rf_294 (Int32.ofNat o) (Int32.ofNat cd) (Int32.ofNat (y + 128 * z + 16384 * (y2 + 128 * z2))) S = some (cv (if (shB Lr Lc y z && shB Lr Lc y2 z2) = true then bfin cd (bfo (bvl K f (rgn cs Lr Lc ((pos Lr y).getD 0) ((pos Lc z).getD 0) ((pos Lr y2).getD 0) ((pos Lc z2).getD 0)))) else 1000000002), S) := by
  unfold rf_294
  rw [q290 w hy hz hy2 hz2, rb_r]
  by_cases hs : (shB Lr Lc y z && shB Lr Lc y2 z2) = true
  · obtain ⟨s1, s2⟩ := Bool.and_eq_true .. ▸ hs
    obtain ⟨p, q, e1, e2⟩ := shB_t s1
    obtain ⟨p2, q2, e3, e4⟩ := shB_t s2
    have hv' := hv hs
    rw [e1, e2, e3, e4] at hv' ⊢
    obtain ⟨g0, g1, g2, g3⟩ := q292 w hy hz hy2 hz2 e1 e2 e3 e4
    have b1 := pos_lt e1
    have b2 := pos_lt e2
    have b3 := pos_lt e3
    have b4 := pos_lt e4
    have l0 := w.2.2.2.1
    have l1 := w.2.2.2.2.1
    rw [if_pos hs, if_neg (by decide), g0, rb_r, if_pos hs]
    have hl := rgn_len (cs := cs) (Lr := Lr) (Lc := Lc) (show p < 120 by omega) (show q < 120 by omega) (show p2 < 120 by omega) (show q2 < 120 by omega)
    have := q294r w C Q hB hcd (show max p p2 < Lr.length by omega) (show max q q2 < Lc.length by omega) (show min q q2 ≤ max q q2 by omega) g1 g2 g3 (max p p2 + 1 - min p p2) lf_N (min p p2) [] 0 0 0 (by omega) (by unfold lf_N; omega) hv' (by show 0 + _ ≤ 20000; unfold rgn at hl; omega) RB_0
    rw [List.nil_append] at this
    exact this
  · rw [if_neg hs, if_pos rfl, if_neg hs]
    rfl
end WBL
