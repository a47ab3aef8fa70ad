/-! THE CLASS: blocks and contents evaluated -/
/-- does a cell stand within a block? -/
def wBk (D : aD) (Lr Lc : List Nat) (p q p2 q2 : Nat) (a : Nat) : Bool := (pos Lr (rwo D a)).elim false (fun x => decide (min p p2 ≤ x ∧ x ≤ max p p2)) && (pos Lc (clo D a)).elim false (fun x => decide (min q q2 ≤ x ∧ x ≤ max q q2))
/-- the places of those that do -/
def wl (B : Nat → Bool) (E : List Nat) : Nat → Nat → List Nat
  | 0, _ => []
  | n + 1, j => if B (E.getD j 0) = true then j :: wl B E n (j + 1) else wl B E n (j + 1)
/-- the class's cells and the reference's: the same results -/
def LK (D : aD) (Lr Lc : List Nat) (cs : List (Nat × Nat)) (K : kc) (E : List Nat) (fr : Nat → Int64) (fs : Nat → Bool) (f : Nat → Int64) (sg : Nat → Bool) : Prop := (∀ y z, shB Lr Lc y z = true → (fnd (prs D E) 0 y z).elim 0 fr = (fnd cs 0 y z).elim 0 f ∧ (fnd (prs D E) 0 y z).elim true fs = (fnd cs 0 y z).elim true sg) ∧ ∀ p q p2 q2, p < Lr.length → q < Lc.length → p2 < Lr.length → q2 < Lc.length → (wl (wBk D Lr Lc p q p2 q2) E E.length 0).map fr = bvl K f (rgn cs Lr Lc p q p2 q2) ∧ (wl (wBk D Lr Lc p q p2 q2) E E.length 0).all fs = (rgn cs Lr Lc p q p2 q2).all sg
def swl : List Value := [.int 1, .int 2, .int 3, .int 4, .int 8, .int 9, .int 10, .int 0, .int 5, .int 6, .int 7]
section CEV
variable {A A' A2 : ah} {h : pm_H} {M : aM} {D : aD} {X : ax} {F : fo} {c o i j l k p q x y z y2 z2 p2 q2 a n m d kc0 cd : Nat} {r : rc} {w : Option Nat} {E L : List Nat} {fr f : Nat → Int64} {fs sg : Nat → Bool} {e : Bool} {cs : List (Nat × Nat)} {K : kc} {v1 v2 : Int64}
theorem c27 {a b : Nat} (ha : a < 2 ^ 31) (hb : b < 2 ^ 31) : ll_27 (Int32.ofNat a) (Int32.ofNat b) h = rtI (Int32.ofNat (min a b)) h := by
  unfold ll_27
  by_cases q : b < a
  · rw [if_pos ((i32_ltn hb ha).mpr q), Nat.min_eq_right (by omega)]
  · rw [if_neg (fun z => q ((i32_ltn hb ha).mp z)), Nat.min_eq_left (by omega)]
theorem c201 {l1 l2 : Nat} (hc : lc_of h (some c) = some 5) (h1 : ll_190 (some c) (some (M 1 l)) h = rtI (Int32.ofNat x) h) (h2 : ll_190 (some c) (some (M 1 l1)) h = rtI (Int32.ofNat p) h) (h3 : ll_190 (some c) (some (M 1 l2)) h = rtI (Int32.ofNat p2) h) (hx : x < 2 ^ 31) (hp : p < 2 ^ 31) (hp2 : p2 < 2 ^ 31) : ll_201 (some c) (some (M 1 l)) (some (M 1 l1)) (some (M 1 l2)) h = rtI (if decide (min p p2 ≤ x ∧ x ≤ max p p2) = true then 1 else 0) h := by
  unfold ll_201
  rw [if_pos hc, h2, rt_I, if_pos hc, h3, rt_I, if_pos hc, h1, rt_I, c27 hp hp2, rt_I]
  by_cases q1 : x < min p p2
  · rw [if_pos ((i32_ltn hx (by omega)).mpr q1), if_neg (by rw [decide_eq_true_iff]; omega)]
  · rw [if_neg (fun z => q1 ((i32_ltn hx (by omega)).mp z)), c24 hp hp2, rt_I]
    by_cases q2 : max p p2 < x
    · rw [if_pos ((i32_ltn (by omega) hx).mpr q2), if_neg (by rw [decide_eq_true_iff]; omega)]
    · rw [if_neg (fun z => q2 ((i32_ltn (by omega) hx).mp z)), if_pos (by rw [decide_eq_true_iff]; omega)]
/-- the cells of the list are shown -/
def ES (D : aD) (Lr Lc : List Nat) (E : List Nat) : Prop := ∀ a ∈ E, shB Lr Lc (rwo D a) (clo D a) = true
theorem c200 (R : ar A h) (Q : CX M A D o F) (W : Wd D) (Wff : Wf D o F) (I : OI D F) (H : CC M A o E fr fs e) (hs : shB (xS (fX F 0)) (xS (fX F 1)) (rwo D a) (clo D a) = true) (ha : D a = some r) (h6 : rk r = 6) (hy : LN D y) (hz : LN D z) (hy2 : LN D y2) (hz2 : LN D z2) (e1 : pos (xS (fX F 0)) y = some p) (e2 : pos (xS (fX F 1)) z = some q) (e3 : pos (xS (fX F 0)) y2 = some p2) (e4 : pos (xS (fX F 1)) z2 = some q2) {b : Nat} (ep : A.1 b = ac_c (.inl (9, [.ref kc0, .null, .null, .long 0, .ref (M 1 y), .ref (M 1 z), .ref (M 1 y2), .ref (M 1 z2)]))) : ll_200 (some 87) (some b) (some (M 0 a)) h = rtI (if wBk D (xS (fX F 0)) (xS (fX F 1)) p q p2 q2 a = true then 1 else 0) h := by
  obtain ⟨s0, s1, l0, l1⟩ := cpos R Q W I
  have k0 := H.1
  have w0 := (Wff.2.2.2.2.2.2 0 (by omega)).2.2.2.2.2
  have w1 := (Wff.2.2.2.2.2.2 1 (by omega)).2.2.2.2.2
  obtain ⟨f1, f2, n1, n2⟩ := act_wr W ha h6
  obtain ⟨x, x2, u1, u2⟩ := shB_t hs
  have hca := ar_c R (Q.2.1.1 a r ha).1
  have r8 : lf_R h (some (M 0 a)) [7, 8] = some (some (M 1 (rwo D a))) := by
    rw [hc_R (o := (rrw r).map (M 1)) hca rfl, f1]
    rfl
  have r9 : lf_R h (some (M 0 a)) [7, 9] = some (some (M 1 (clo D a))) := by
    rw [hc_R (o := (rcl r).map (M 1)) hca rfl, f2]
    rfl
  have hcb := ar_c R ep
  have b1 := pos_lt e1
  have b2 := pos_lt e2
  have b3 := pos_lt e3
  have b4 := pos_lt e4
  have b5 := pos_lt u1
  have b6 := pos_lt u2
  have g1 := c201 (M := M) (l := rwo D a) (l1 := y) (l2 := y2) l0 (by rw [s0 _ n1, u1]; rfl) (by rw [s0 _ hy, e1]; rfl) (by rw [s0 _ hy2, e3]; rfl) (show x < 2 ^ 31 by omega) (show p < 2 ^ 31 by omega) (show p2 < 2 ^ 31 by omega)
  have g2 := c201 (M := M) (l := clo D a) (l1 := z) (l2 := z2) l1 (by rw [s1 _ n2, u2]; rfl) (by rw [s1 _ hz, e2]; rfl) (by rw [s1 _ hz2, e4]; rfl) (show x2 < 2 ^ 31 by omega) (show q < 2 ^ 31 by omega) (show q2 < 2 ^ 31 by omega)
  unfold ll_200 wBk
  rw [hc_R (o := some (94 + 17 * o + 5)) (ar_c R k0) rfl, Option.bind_some, r8, Option.bind_some, hc_R (o := some (M 1 y)) hcb rfl, Option.bind_some, hc_R (o := some (M 1 y2)) hcb rfl, Option.bind_some, if_pos l0, g1, rt_I, u1, u2, Option.elim_some, Option.elim_some]
  cases hd : decide (min p p2 ≤ x ∧ x ≤ max p p2) with
  | false => rfl
  | true =>
    rw [if_pos rfl, if_neg (by decide), hc_R (o := some (94 + 17 * o + 11)) (ar_c R k0) rfl, Option.bind_some, r9, Option.bind_some, hc_R (o := some (M 1 z)) hcb rfl, Option.bind_some, hc_R (o := some (M 1 z2)) hcb rfl, Option.bind_some, if_pos l1, g2, rt_I]
    cases hd2 : decide (min q q2 ≤ x2 ∧ x2 ≤ max q q2) <;> rfl
theorem not_all {b c : Bool} : (e || !(b && c)) = ((e || !b) || !c) := by cases e <;> cases b <;> cases c <;> rfl
theorem c199l (W : Wd D) (Wff : Wf D o F) (I : OI D F) (hE : EA D E) (hS : ES D (xS (fX F 0)) (xS (fX F 1)) E) (hk : (kc0, cd) ∈ kcB) (hy : LN D y) (hz : LN D z) (hy2 : LN D y2) (hz2 : LN D z2) (e1 : pos (xS (fX F 0)) y = some p) (e2 : pos (xS (fX F 1)) z = some q) (e3 : pos (xS (fX F 0)) y2 = some p2) (e4 : pos (xS (fX F 1)) z2 = some q2) {b : Nat} (hb : 178 ≤ b) : ∀ n m j (u : b4) e A h, j + n = E.length → n < m → ar A h → CX M A D o F → CC M A o E fr fs e → A.1 b = ac_c (.inl (9, [.ref kc0, .null, .null, .long 0, .ref (M 1 y), .ref (M 1 z), .ref (M 1 y2), .ref (M 1 z2)])) → ∃ A' h', l199_49 m (some 87) (some b) u.1 u.2.1 u.2.2.1 u.2.2.2 (Int32.ofNat j) h = rtJ (bfin cd (((wl (wBk D (xS (fX F 0)) (xS (fX F 1)) p q p2 q2) E n j).map fr).foldl bst u)) h' ∧ ar A' h' ∧ CU A A' ∧ CC M A' o E fr fs (e || !(wl (wBk D (xS (fX F 0)) (xS (fX F 1)) p q p2 q2) E n j).all fs) := by
  have hE1 := hE.1
  intro n
  induction n with
  | zero =>
    intro m j u e A h h1 h2 R Q H ep
    cases m with
    | zero => omega
    | succ m =>
      obtain ⟨n0, n1⟩ := cell_n R H
      refine ⟨A, h, ?_, R, CU_refl, by show CC M A o E fr fs (e || !true); rw [Bool.not_true, Bool.or_false]; exact H⟩
      have r0 : lf_R h (some b) [9, 0] = some (some kc0) := hc_R (o := some kc0) (ar_c R ep) rfl
      have hk' : (kc0 = 15 ∧ cd = 115) ∨ (kc0 = 16 ∧ cd = 110) ∨ (kc0 = 17 ∧ cd = 109) := by
        unfold kcB at hk
        simp at hk
        omega
      rw [l199_49]
      dsimp only
      rw [n0, Option.bind_some, if_pos ((i32_len (by omega) (by omega)).mpr (by omega)), r0, Option.bind_some, acmA (idn_k (by omega) (by omega)) (idn_k (by omega) (by omega))]
      show _ = rtJ (bfin cd u) h
      unfold bfin
      by_cases q0 : u.2.1 = 0
      · rw [if_pos q0, if_pos ((lg_cmp_eq _ _).mpr q0), Option.bind_some, acmA (idn_k (by omega) (by omega)) (idn_k (by omega) (by omega))]
        rcases hk' with ⟨g1, g2⟩ | ⟨g1, g2⟩ | ⟨g1, g2⟩ <;> subst g1 <;> subst g2 <;> rfl
      · rw [if_neg q0, if_neg (fun g => q0 ((lg_cmp_eq _ _).mp g))]
        rcases hk' with ⟨g1, g2⟩ | ⟨g1, g2⟩ | ⟨g1, g2⟩ <;> subst g1 <;> subst g2 <;> rfl
  | succ n ih =>
    intro m j u e A h h1 h2 R Q H ep
    cases m with
    | zero => omega
    | succ m =>
      have hj : j < E.length := by omega
      have n4 : Int32.ofNat j + (1 : Int32) = Int32.ofNat (j + 1) := i32_add j 1
      obtain ⟨n0, n1⟩ := cell_n R H
      obtain ⟨r, hr, h6⟩ := hE.2 _ (el_mem hj)
      obtain ⟨g1, g2⟩ := cell_rd R H hE1 hj
      have g3 := c200 R Q W Wff I H (hS _ (el_mem hj)) hr h6 hy hz hy2 hz2 e1 e2 e3 e4 ep
      rw [l199_49, wl]
      dsimp only
      rw [n0, Option.bind_some, if_neg (fun g => by have := (i32_len (by omega) (by omega)).mp g; omega), g1, Option.bind_some, g2, Option.bind_some, if_pos n1, g3, rt_I]
      by_cases hw : wBk D (xS (fX F 0)) (xS (fX F 1)) p q p2 q2 (E.getD j 0) = true
      · obtain ⟨A1, h1', p1, R1, s1, H1⟩ := c197 R H (show j < 120 by omega)
        have Q1 := CX_u R Q s1
        have ep1 := st_c s1 R ep (by intro g; cases g) (fun g => by have := CU_m g; omega)
        obtain ⟨A2, h2', p3, R2, s2, H2⟩ := ih m (j + 1) (bst u (fr j)) _ A1 h1' (by omega) (by omega) R1 Q1 H1 ep1
        refine ⟨A2, h2', ?_, R2, CU_tr s1 s2, ?_⟩
        · rw [if_pos hw, if_neg (by decide), if_pos n1, p1, rt_J, c198, rt_I, if_pos hw, List.map_cons, List.foldl_cons, ← p3]
          unfold bst l199_110 l199_136 l199_156 l199_158
          rw [n4]
          by_cases q1 : isE (fr j) = true
          · rw [if_pos q1, if_neg (by decide), if_pos q1]
            by_cases q0 : u.2.1 = 0
            · rw [if_pos ((lg_cmp_eq _ _).mpr q0), if_pos q0]
            · rw [if_neg (fun g => q0 ((lg_cmp_eq _ _).mp g)), if_neg q0]
          · rw [if_neg q1, if_pos rfl, c198, rt_I, if_neg q1]
            dsimp only
            by_cases q2 : isE u.2.2.1 = true
            · rw [if_pos q2, if_neg (by decide), if_pos q2]
              by_cases q3 : u.1 + 1 = 1
              · rw [if_pos ((lg_cmp_eq _ _).mpr q3), if_pos q3]
              · rw [if_neg (fun g => q3 ((lg_cmp_eq _ _).mp g)), if_neg q3, c203, rt_J]
            · rw [if_neg q2, if_pos rfl, if_neg q2, c202, rt_J]
              by_cases q3 : u.1 + 1 = 1
              · rw [if_pos ((lg_cmp_eq _ _).mpr q3), if_pos q3]
              · rw [if_neg (fun g => q3 ((lg_cmp_eq _ _).mp g)), if_neg q3, c203, rt_J]
        · rw [if_pos hw, List.all_cons, not_all]
          exact H2
      · obtain ⟨A2, h2', p3, R2, s2, H2⟩ := ih m (j + 1) u e A h (by omega) (by omega) R Q H ep
        refine ⟨A2, h2', ?_, R2, s2, ?_⟩
        · rw [if_neg hw, if_pos rfl, if_neg hw]
          unfold l199_158
          rw [n4]
          exact p3
        · rw [if_neg hw]
          exact H2
theorem c199 (R : ar A h) (Q : CX M A D o F) (H : CC M A o E fr fs e) (W : Wd D) (Wff : Wf D o F) (I : OI D F) (hE : EA D E) (hS : ES D (xS (fX F 0)) (xS (fX F 1)) E) (hk : (kc0, cd) ∈ kcB) (hy : LN D y) (hz : LN D z) (hy2 : LN D y2) (hz2 : LN D z2) {b : Nat} (hb : 178 ≤ b) (ep : A.1 b = ac_c (.inl (9, [.ref kc0, .null, .null, .long 0, .ref (M 1 y), .ref (M 1 z), .ref (M 1 y2), .ref (M 1 z2)]))) (T : LK D (xS (fX F 0)) (xS (fX F 1)) cs K E fr fs f sg) : ∃ A' h', ll_199 (some 87) (some b) h = rtJ (if (shB (xS (fX F 0)) (xS (fX F 1)) y z && shB (xS (fX F 0)) (xS (fX F 1)) y2 z2) = true then bfin cd (bfo (bvl K f (rgn cs (xS (fX F 0)) (xS (fX F 1)) ((pos (xS (fX F 0)) y).getD 0) ((pos (xS (fX F 1)) z).getD 0) ((pos (xS (fX F 0)) y2).getD 0) ((pos (xS (fX F 1)) z2).getD 0)))) else 1000000002) h' ∧ ar A' h' ∧ CU A A' ∧ CC M A' o E fr fs (e || !(if (shB (xS (fX F 0)) (xS (fX F 1)) y z && shB (xS (fX F 0)) (xS (fX F 1)) y2 z2) = true then (rgn cs (xS (fX F 0)) (xS (fX F 1)) ((pos (xS (fX F 0)) y).getD 0) ((pos (xS (fX F 1)) z).getD 0) ((pos (xS (fX F 0)) y2).getD 0) ((pos (xS (fX F 1)) z2).getD 0)).all sg else true)) := by
  obtain ⟨n0, n1⟩ := cell_n R H
  have hcb := ar_c R ep
  have no : ∀ {A'' : ah}, CC M A'' o E fr fs e → CC M A'' o E fr fs (e || !true) := fun g => by rw [Bool.not_true, Bool.or_false]; exact g
  unfold ll_199 l199_30
  rw [hc_R (o := some (M 1 y)) hcb rfl, Option.bind_some, hc_R (o := some (M 1 z)) hcb rfl, Option.bind_some, if_pos n1, c189 R Q W Wff I H hy hz, rt_I]
  cases s1 : shB (xS (fX F 0)) (xS (fX F 1)) y z with
  | false => exact ⟨A, h, rfl, R, CU_refl, no H⟩
  | true =>
    rw [if_pos rfl, if_neg (by decide), hc_R (o := some (M 1 y2)) hcb rfl, Option.bind_some, hc_R (o := some (M 1 z2)) hcb rfl, Option.bind_some, if_pos n1, c189 R Q W Wff I H hy2 hz2, rt_I]
    cases s2 : shB (xS (fX F 0)) (xS (fX F 1)) y2 z2 with
    | false => exact ⟨A, h, rfl, R, CU_refl, no H⟩
    | true =>
      obtain ⟨p, q, e1, e2⟩ := shB_t s1
      obtain ⟨p2, q2, e3, e4⟩ := shB_t s2
      obtain ⟨t1, t2⟩ := T.2 p q p2 q2 (pos_lt e1) (pos_lt e2) (pos_lt e3) (pos_lt e4)
      obtain ⟨A', h', g1, g2, g3, g4⟩ := c199l (fr := fr) (fs := fs) W Wff I hE hS hk hy hz hy2 hz2 e1 e2 e3 e4 hb E.length lf_N 0 (0, 0, 0, 0) e A h (by omega) (by have := hE.1; unfold lf_N; omega) R Q H ep
      rw [t1] at g1
      rw [t2] at g4
      refine ⟨A', h', ?_, g2, g3, ?_⟩
      · rw [if_pos rfl, if_neg (by decide), e1, e2, e3, e4]
        exact g1
      · rw [e1, e2, e3, e4]
        exact g4
/-- the kinds of parts -/
theorem kdw (R : ar A h) (B : Cb A) (h7 : 7 ≤ k) (h17 : k ≤ 17) : lc_of h (some k) = some 19 ∧ ll_166 (some k) h = rtI (Int32.ofNat (k - 7)) h ∧ ∀ v, swl[k - 7]? = some (.int v) → la_I h .iaload (some 19) (Int32.ofNat (k - 7)) = some v := by
  have hc : ∃ s, A.1 k = ac_c (.inl (19, [.int (Int32.ofNat (k - 7)), .ref s])) := by
    have hk : k = 7 ∨ k = 8 ∨ k = 9 ∨ k = 10 ∨ k = 11 ∨ k = 12 ∨ k = 13 ∨ k = 14 ∨ k = 15 ∨ k = 16 ∨ k = 17 := by omega
    rcases hk with rfl | rfl | rfl | rfl | rfl | rfl | rfl | rfl | rfl | rfl | rfl
    · exact ⟨_, B.2.2 6 _ rfl⟩
    · exact ⟨_, B.2.2 7 _ rfl⟩
    · exact ⟨_, B.2.2 8 _ rfl⟩
    · exact ⟨_, B.2.2 9 _ rfl⟩
    · exact ⟨_, B.2.2 10 _ rfl⟩
    · exact ⟨_, B.2.2 11 _ rfl⟩
    · exact ⟨_, B.2.2 12 _ rfl⟩
    · exact ⟨_, B.2.2 13 _ rfl⟩
    · exact ⟨_, B.2.2 14 _ rfl⟩
    · exact ⟨_, B.2.2 15 _ rfl⟩
    · exact ⟨_, B.2.2 16 _ rfl⟩
  obtain ⟨s, hs⟩ := hc
  have h19 := B.2.2 18 _ rfl
  refine ⟨hc_lc (ar_c R hs), ?_, fun v hv => hc_ldI (ar_c R h19) rfl (by omega) hv⟩
  unfold ll_166
  have : lf_I h (some k) [18, 0, 19, 0] = some (Int32.ofNat (k - 7)) := by
    unfold lf_I lf_V
    dsimp only
    rw [ar_c R hs]
    rfl
  rw [this]
  rfl
theorem c204 (R : ar A h) (B : Cb A) (hk : (kc0, cd) ∈ kcT) : ll_204 (some kc0) v1 v2 h = rtJ (tw2 cd v1 v2) h := by
  have hk' : (kc0 = 11 ∧ cd = 43) ∨ (kc0 = 12 ∧ cd = 45) ∨ (kc0 = 13 ∧ cd = 42) ∨ (kc0 = 14 ∧ cd = 47) := by
    unfold kcT at hk
    simp at hk
    omega
  obtain ⟨g1, g2, g3⟩ := kdw R B (k := kc0) (by omega) (by omega)
  unfold ll_204 tw2
  rw [c198, rt_I]
  by_cases q1 : isE v1 = true
  · rw [if_pos q1, if_neg (by decide), if_pos q1]
  · rw [if_neg q1, if_pos rfl, c198, rt_I, if_neg q1]
    by_cases q2 : isE v2 = true
    · rw [if_pos q2, if_neg (by decide), if_pos q2]
    · rw [if_neg q2, if_pos rfl, if_neg q2, if_pos g1, g2, rt_I]
      rcases hk' with ⟨g4, g5⟩ | ⟨g4, g5⟩ | ⟨g4, g5⟩ | ⟨g4, g5⟩ <;> subst g4 <;> subst g5
      · rw [g3 8 rfl, Option.bind_some, if_pos rfl, c202, rt_J, if_pos rfl]
      · rw [g3 9 rfl, Option.bind_some, if_neg (by decide), if_pos rfl, c202, rt_J, if_neg (by decide), if_pos rfl]
      · rw [g3 10 rfl, Option.bind_some, if_neg (by decide), if_neg (by decide), if_pos rfl, c205, rt_J, c202, rt_J, if_neg (by decide), if_neg (by decide), if_pos rfl]
      · rw [g3 0 rfl, Option.bind_some, if_neg (by decide), if_neg (by decide), if_neg (by decide), if_neg (show ¬ (47 : Nat) = 43 by decide), if_neg (show ¬ (47 : Nat) = 45 by decide), if_neg (show ¬ (47 : Nat) = 42 by decide)]
        by_cases q3 : v2 = 0
        · rw [if_pos ((lg_cmp_eq _ _).mpr q3), if_pos q3]
          rfl
        · rw [if_neg (fun g => q3 ((lg_cmp_eq _ _).mp g)), if_neg q3, c205, rt_J, c202, rt_J]
theorem dpa_app {Lr Lc : List Nat} : ∀ t1 t2, dpa cs Lr Lc (t1 ++ t2) = dpa cs Lr Lc t1 ++ dpa cs Lr Lc t2
  | [], t2 => rfl
  | t :: t1, t2 => by
    rw [List.cons_append, dpa, dpa, dpa_app t1 t2, List.append_assoc]
theorem evs_app {gg : (Nat × Int32) → Int64} {st : List Int64} (t1 t2 : List (Nat × Int32)) : evs gg (t1 ++ t2) st = evs gg t2 (evs gg t1 st) := by
  unfold evs
  rw [List.foldl_append]
/-- a content is evaluated -/
theorem c193 (W : Wd D) (Wff : Wf D o F) (I : OI D F) (hE : EA D E) (hS : ES D (xS (fX F 0)) (xS (fX F 1)) E) (T : LK D (xS (fX F 0)) (xS (fX F 1)) cs K E fr fs f sg) : ∀ n p ts m d e A h, n ≤ m → d + n ≤ 23 → ar A h → CX M A D o F → CC M A o E fr fs e → prt M A D n p ts → ∃ v A' h', ll_193 m (some 87) (some p) (Int32.ofNat d) h = rtJ v h' ∧ ar A' h' ∧ CU A A' ∧ CC M A' o E fr fs (e || !(dpa cs (xS (fX F 0)) (xS (fX F 1)) ts).all sg) ∧ ∀ st, evs (tkv cs (xS (fX F 0)) (xS (fX F 1)) K f) ts st = v :: st := by
  intro n
  induction n with
  | zero => intro p ts m d e A h _ _ _ _ _ hp; cases hp
  | succ n ih =>
    intro p ts m d e A h hm hd R Q H hp
    obtain ⟨hp1, hh⟩ := hp
    cases m with
    | zero => omega
    | succ m =>
      have B := Q.2.2
      obtain ⟨n0, n1⟩ := cell_n R H
      have hdd : Int32.ofNat d ≤ (22 : Int32) := (i32_len (b := 22) (by omega) (by omega)).mpr (by omega)
      have nd : Int32.ofNat d + (1 : Int32) = Int32.ofNat (d + 1) := i32_add d 1
      have no : ∀ {A'' : ah}, CC M A'' o E fr fs e → CC M A'' o E fr fs (e || !true) := fun g => by rw [Bool.not_true, Bool.or_false]; exact g
      have lt : ∀ l, LN D l → l < 120 := fun l hl => LN_lt W hl
      rw [ll_193]
      unfold lm_193
      dsimp only
      rw [if_pos hdd]
      rcases hh with ⟨v, ep, t, tb⟩ | ⟨y, z, h1, h2, h3, h4, ep, t⟩ | ⟨kc, cd, y, z, y2, z2, hk, h1, h2, h3, h4, h5, h6, h7, h8, ep, t⟩ | ⟨q, t', ep, h1, t⟩ | ⟨kc, cd, q1, q2, t1, t2, hk, ep, h1, h2, t⟩
      · obtain ⟨g1, g2, g3⟩ := kdw R B (k := 8) (by omega) (by omega)
        subst t
        refine ⟨v.toInt64, A, h, ?_, R, CU_refl, ?_, ?_⟩
        · rw [hc_R (o := some 8) (ar_c R ep) rfl, Option.bind_some, if_pos g1, g2, rt_I, g3 2 rfl, Option.bind_some, if_neg (by decide), if_pos rfl, hc_J (ar_c R ep) rfl]
          rfl
        · rw [dpa, dpa, dep_0 (by show ¬ (97 : Nat) = 114; omega) (fun g => by unfold isB at g; dsimp only at g; omega)]
          exact no H
        · intro st
          show ev1 _ st (97, v) = _
          unfold ev1 tkv
          rfl
      · obtain ⟨g1, g2, g3⟩ := kdw R B (k := 9) (by omega) (by omega)
        subst t
        obtain ⟨A', h', p1, R1, s1, H1⟩ := c194 R Q W Wff I H hE h1 h2 ep rfl rfl
        have e1 : ((114, Int32.ofNat (y + 128 * z)) : Nat × Int32).1 = 114 := rfl
        refine ⟨(if shB (xS (fX F 0)) (xS (fX F 1)) y z = true then (fnd (prs D E) 0 y z).elim 0 fr else 1000000002), A', h', ?_, R1, s1, ?_, ?_⟩
        · rw [hc_R (o := some 9) (ar_c R ep) rfl, Option.bind_some, if_pos g1, g2, rt_I, g3 3 rfl, Option.bind_some, if_neg (by decide), if_neg (by decide), if_pos rfl, if_pos n1, p1]
          rfl
        · rw [dpa, dpa, List.append_nil, dep_r e1 (lt y h1) (lt z h2) rfl]
          by_cases hs : shB (xS (fX F 0)) (xS (fX F 1)) y z = true
          · rw [if_pos hs, (T.1 y z hs).2] at H1
            rw [if_pos hs]
            have : (fnd cs 0 y z).toList.all sg = (fnd cs 0 y z).elim true sg := by
              cases fnd cs 0 y z with
              | none => rfl
              | some i => show (sg i && true) = sg i; rw [Bool.and_true]
            rw [this]
            exact H1
          · rw [if_neg hs] at H1
            rw [if_neg hs]
            exact H1
        · intro st
          show ev1 _ st (114, Int32.ofNat (y + 128 * z)) = _
          unfold ev1
          rw [if_neg (show ¬ (114 : Nat) = 126 by decide), if_neg (show ¬ isO 114 by decide), tkv_r e1 (lt y h1) (lt z h2) rfl]
          by_cases hs : shB (xS (fX F 0)) (xS (fX F 1)) y z = true
          · rw [if_pos hs, if_pos hs, (T.1 y z hs).1]
          · rw [if_neg hs, if_neg hs]
      · have hk' : (kc = 15 ∧ cd = 115) ∨ (kc = 16 ∧ cd = 110) ∨ (kc = 17 ∧ cd = 109) := by
          unfold kcB at hk
          simp at hk
          omega
        obtain ⟨g1, g2, g3⟩ := kdw R B (k := kc) (by omega) (by omega)
        subst t
        obtain ⟨A', h', p1, R1, s1, H1⟩ := c199 R Q H W Wff I hE hS hk h1 h2 h3 h4 hp1 ep T
        have eb : isB ((cd, Int32.ofNat (y + 128 * z + 16384 * (y2 + 128 * z2))) : Nat × Int32).1 := by unfold isB; show cd = 115 ∨ cd = 110 ∨ cd = 109; omega
        have hde := dep_b (cs := cs) (Lr := xS (fX F 0)) (Lc := xS (fX F 1)) eb (lt y h1) (lt z h2) (lt y2 h3) (lt z2 h4) rfl
        refine ⟨(if (shB (xS (fX F 0)) (xS (fX F 1)) y z && shB (xS (fX F 0)) (xS (fX F 1)) y2 z2) = true then bfin cd (bfo (bvl K f (rgn cs (xS (fX F 0)) (xS (fX F 1)) ((pos (xS (fX F 0)) y).getD 0) ((pos (xS (fX F 1)) z).getD 0) ((pos (xS (fX F 0)) y2).getD 0) ((pos (xS (fX F 1)) z2).getD 0)))) else 1000000002), A', h', ?_, R1, s1, ?_, ?_⟩
        · rw [hc_R (o := some kc) (ar_c R ep) rfl, Option.bind_some, if_pos g1, g2, rt_I]
          rcases hk' with ⟨g4, g5⟩ | ⟨g4, g5⟩ | ⟨g4, g5⟩ <;> subst g4 <;> subst g5
          · rw [g3 5 rfl, Option.bind_some, if_neg (by decide), if_neg (by decide), if_neg (by decide), if_neg (by decide), if_pos rfl, if_pos n1, p1]
            rfl
          · rw [g3 6 rfl, Option.bind_some, if_neg (by decide), if_neg (by decide), if_neg (by decide), if_neg (by decide), if_neg (by decide), if_pos rfl, if_pos n1, p1]
            rfl
          · rw [g3 7 rfl, Option.bind_some, if_neg (by decide), if_neg (by decide), if_neg (by decide), if_neg (by decide), if_neg (by decide), if_neg (by decide), if_pos rfl, if_pos n1, p1]
            rfl
        · rw [dpa, dpa, List.append_nil, hde]
          by_cases hs : (shB (xS (fX F 0)) (xS (fX F 1)) y z && shB (xS (fX F 0)) (xS (fX F 1)) y2 z2) = true
          · rw [if_pos hs] at H1 ⊢
            exact H1
          · rw [if_neg hs] at H1 ⊢
            exact H1
        · intro st
          show ev1 _ st (cd, Int32.ofNat (y + 128 * z + 16384 * (y2 + 128 * z2))) = _
          unfold ev1
          rw [if_neg (show ¬ cd = 126 by omega), if_neg (show ¬ isO cd by omega), tkv_b eb (lt y h1) (lt z h2) (lt y2 h3) (lt z2 h4) rfl, hde]
          by_cases hs : (shB (xS (fX F 0)) (xS (fX F 1)) y z && shB (xS (fX F 0)) (xS (fX F 1)) y2 z2) = true
          · rw [if_pos hs, if_pos hs, if_pos hs]
          · rw [if_neg hs, if_neg hs]
      · obtain ⟨g1, g2, g3⟩ := kdw R B (k := 10) (by omega) (by omega)
        subst t
        obtain ⟨v, A', h', p1, R1, s1, H1, ev⟩ := ih q t' m (d + 1) e A h (by omega) (by omega) R Q H h1
        refine ⟨ngv v, A', h', ?_, R1, s1, ?_, ?_⟩
        · rw [hc_R (o := some 10) (ar_c R ep) rfl, Option.bind_some, if_pos g1, g2, rt_I, g3 4 rfl, Option.bind_some, if_neg (by decide), if_neg (by decide), if_neg (by decide), if_pos rfl, hc_R (o := some q) (ar_c R ep) rfl, Option.bind_some, if_pos n1, nd, p1, rt_J, c198, rt_I]
          unfold ngv
          by_cases q1 : isE v = true
          · rw [if_pos q1, if_neg (by decide), if_pos q1]
          · rw [if_neg q1, if_pos rfl, if_neg q1]
        · rw [dpa_app, dpa, dpa, dep_0 (by show ¬ (126 : Nat) = 114; omega) (fun g => by unfold isB at g; dsimp only at g; omega), List.append_nil, List.append_nil]
          exact H1
        · intro st
          rw [evs_app, ev]
          show ev1 (tkv cs (xS (fX F 0)) (xS (fX F 1)) K f) (v :: st) (126, 0) = _
          unfold ev1
          rw [if_pos rfl]
      · have hk' : (kc = 11 ∧ cd = 43) ∨ (kc = 12 ∧ cd = 45) ∨ (kc = 13 ∧ cd = 42) ∨ (kc = 14 ∧ cd = 47) := by
          unfold kcT at hk
          simp at hk
          omega
        obtain ⟨g1, g2, g3⟩ := kdw R B (k := kc) (by omega) (by omega)
        subst t
        obtain ⟨v1, A1, h1', p1, R1, s1, H1, ev1'⟩ := ih q1 t1 m (d + 1) e A h (by omega) (by omega) R Q H h1
        have Q1 := CX_u R Q s1
        obtain ⟨m0, m1⟩ := cell_n R1 H1
        have ep1 := st_c s1 R ep (by intro g; cases g) (fun g => by have := CU_m g; omega)
        have h2' := prt_s R s1 (fun x hx => by have := CU_m hx; omega) n q2 t2 h2
        obtain ⟨v2, A2, h2'', p2, R2, s2, H2, ev2'⟩ := ih q2 t2 m (d + 1) _ A1 h1' (by omega) (by omega) R1 Q1 H1 h2'
        have Q2 := CX_u R1 Q1 s2
        have ep2 := st_c s2 R1 ep1 (by intro g; cases g) (fun g => by have := CU_m g; omega)
        refine ⟨tw2 cd v1 v2, A2, h2'', ?_, R2, CU_tr s1 s2, ?_, ?_⟩
        · have hv7 : ∃ v7 : Int32, v7 ≠ 1 ∧ v7 ≠ 2 ∧ v7 ≠ 3 ∧ v7 ≠ 4 ∧ v7 ≠ 5 ∧ v7 ≠ 6 ∧ v7 ≠ 7 ∧ swl[kc - 7]? = some (.int v7) := by
            rcases hk' with ⟨g4, g5⟩ | ⟨g4, g5⟩ | ⟨g4, g5⟩ | ⟨g4, g5⟩
            · exact ⟨8, by decide, by decide, by decide, by decide, by decide, by decide, by decide, by rw [g4]; rfl⟩
            · exact ⟨9, by decide, by decide, by decide, by decide, by decide, by decide, by decide, by rw [g4]; rfl⟩
            · exact ⟨10, by decide, by decide, by decide, by decide, by decide, by decide, by decide, by rw [g4]; rfl⟩
            · exact ⟨0, by decide, by decide, by decide, by decide, by decide, by decide, by decide, by rw [g4]; rfl⟩
          obtain ⟨v7, u1, u2, u3, u4, u5, u6, u7, hv⟩ := hv7
          rw [hc_R (o := some kc) (ar_c R ep) rfl, Option.bind_some, if_pos g1, g2, rt_I, g3 v7 hv, Option.bind_some, if_neg u1, if_neg u2, if_neg u3, if_neg u4, if_neg u5, if_neg u6, if_neg u7, hc_R (o := some q1) (ar_c R ep) rfl, Option.bind_some, if_pos n1, nd, p1, rt_J, hc_R (o := some q2) (ar_c R1 ep1) rfl, Option.bind_some, if_pos m1, p2, rt_J, hc_R (o := some kc) (ar_c R2 ep2) rfl, Option.bind_some, c204 R2 Q2.2.2 hk, rt_J]
        · rw [dpa_app, dpa_app, dpa, dpa, dep_0 (by show ¬ cd = 114; omega) (fun g => by unfold isB at g; dsimp only at g; omega), List.append_nil, List.append_nil, List.all_append, not_all]
          exact H2
        · intro st
          rw [evs_app, evs_app, ev1', ev2']
          show ev1 (tkv cs (xS (fX F 0)) (xS (fX F 1)) K f) (v2 :: v1 :: st) (cd, 0) = _
          unfold ev1
          rw [if_neg (show ¬ cd = 126 by omega), if_pos (show isO cd by omega)]
end CEV
