/-! THE REFERENCE: the rounds of the levels -/
abbrev kc : Type := Nat → Option (Bool × List (Nat × Int32))
/-- the content of each cell -/
def CK (K : kc) (n : Nat) (S : rs_S) : Prop := ∀ i, i < n → ∃ a, a < 120 ∧ S.2.1 35 i = Int32.ofNat a ∧ ((K i = none ∧ S.2.1 10 a = -1) ∨ ∃ c fm ts, K i = some (fm, ts) ∧ S.2.1 10 a = Int32.ofNat c ∧ TKS c ts S ∧ S.2.1 12 c = if fm = true then 1 else 0)
/-- what the rounds leave -/
def Sl (S S' : rs_S) : Prop := S'.1 = S.1 ∧ (∀ a j, a ≠ 36 → S'.2.1 a j = S.2.1 a j) ∧ S'.2.2 = S.2.2
def lup (cs : List (Nat × Nat)) (Lr Lc : List Nat) (K : kc) (n : Nat) (lev : Nat → Nat) (i : Nat) : Nat → Nat :=
  match K i with
  | some (true, ts) => if lev i ≤ n then fun j => if j = i then mxl lev 0 (dpa cs Lr Lc ts) + 1 else lev j else lev
  | _ => lev
def ups (cs : List (Nat × Nat)) (Lr Lc : List Nat) (K : kc) (n : Nat) : Nat → Nat → (Nat → Nat) → (Nat → Nat)
  | 0, _, lev => lev
  | k + 1, i, lev => ups cs Lr Lc K n k (i + 1) (lup cs Lr Lc K n lev i)
def upN (cs : List (Nat × Nat)) (Lr Lc : List Nat) (K : kc) (n : Nat) : Nat → (Nat → Nat) → (Nat → Nat)
  | 0, lev => lev
  | k + 1, lev => upN cs Lr Lc K n k (ups cs Lr Lc K n n 0 lev)
section RND
variable {D : aD} {S S' S2 : rs_S} {F : fo} {o i j l k y z c : Nat} {cs : List (Nat × Nat)} {Lr Lc : List Nat} {lev : Nat → Nat} {ts : List (Nat × Int32)} {K : kc} {n : Nat}
theorem Sl_refl : Sl S S := ⟨rfl, fun _ _ _ => rfl, rfl⟩
theorem Sl_tr (h1 : Sl S S') (h2 : Sl S' S2) : Sl S S2 := ⟨h2.1.trans h1.1, fun a j n => (h2.2.1 a j n).trans (h1.2.1 a j n), h2.2.2.trans h1.2.2⟩
theorem Sl_A {v : Int32} : Sl S (rs_setA S 36 j v) := ⟨rfl, fun b x n => if_neg (fun e => by have := e.1; omega), rfl⟩
theorem TKS_l (h : Sl S S') (T : TKS c ts S) : TKS c ts S' := by
  obtain ⟨a1, a2, a3, a4⟩ := T
  refine ⟨a1, a2, by rw [h.2.1 13 _ (by omega)]; exact a3, fun j hj => ?_⟩
  rw [h.2.1 14 _ (by omega), h.2.1 15 _ (by omega)]
  exact a4 j hj
theorem CK_l (h : Sl S S') (C : CK K n S) : CK K n S' := by
  intro i hi
  obtain ⟨a, b1, b2, b3⟩ := C i hi
  refine ⟨a, b1, by rw [h.2.1 35 _ (by omega)]; exact b2, ?_⟩
  rw [h.2.1 10 _ (by omega)]
  rcases b3 with b3 | ⟨c, fm, ts, c1, c2, c3, c4⟩
  · exact Or.inl b3
  · exact Or.inr ⟨c, fm, ts, c1, c2, TKS_l h c3, by rw [h.2.1 12 _ (by omega)]; exact c4⟩
theorem CS_l (h : Sl S S') (C : CS D F cs S) : CS D F cs S' := by
  obtain ⟨c1, c2, c3⟩ := C
  refine ⟨by rw [h.1]; exact c1, c2, fun j hj => ?_⟩
  rw [h.2.1 33 _ (by omega), h.2.1 34 _ (by omega), h.2.1 35 _ (by omega)]
  exact c3 j hj
theorem SH_l {L : List Nat} (h : Sl S S') (H : SH o k L S) : SH o k L S' := by
  unfold SH at *
  rw [h.2.1 20 _ (by omega)]
  refine ⟨H.1, ?_⟩
  intro j hj
  rw [h.2.1 19 _ (by omega)]
  exact H.2 j hj
theorem SW_l (h : Sl S S') (w : SW o Lr Lc S) : SW o Lr Lc S' := ⟨w.1, SH_l h w.2.1, SH_l h w.2.2.1, w.2.2.2⟩
theorem mxl_le {B : Nat} (h : ∀ j, lev j ≤ B) : ∀ (l : List Nat) (x : Nat), x ≤ B → mxl lev x l ≤ B
  | [], x, hx => hx
  | j :: l, x, hx => mxl_le h l _ (by have := h j; show max x (lev j) ≤ B; omega)
theorem lup_le {B : Nat} (h : ∀ j, lev j ≤ B) : ∀ j, lup cs Lr Lc K n lev i j ≤ B + 1 := by
  intro j
  have hj := h j
  unfold lup
  cases hk : K i with
  | none => dsimp only; omega
  | some p =>
    obtain ⟨fm, ts'⟩ := p
    cases fm with
    | false => dsimp only; omega
    | true =>
      dsimp only
      by_cases e : lev i ≤ n
      · rw [if_pos e]
        by_cases e2 : j = i
        · rw [if_pos e2]
          have := mxl_le h (dpa cs Lr Lc ts') 0 (by omega)
          omega
        · rw [if_neg e2]; omega
      · rw [if_neg e]; omega
theorem ups_le : ∀ (k i B : Nat) (lev : Nat → Nat), (∀ j, lev j ≤ B) → ∀ j, ups cs Lr Lc K n k i lev j ≤ B + k
  | 0, i, B, lev, h => h
  | k + 1, i, B, lev, h => fun j => by
    have := ups_le k (i + 1) (B + 1) _ (lup_le (cs := cs) (Lr := Lr) (Lc := Lc) (K := K) (n := n) (i := i) h) j
    rw [ups]
    omega
theorem upN_fix : ∀ (k : Nat), ups cs Lr Lc K n n 0 lev = lev → upN cs Lr Lc K n k lev = lev
  | 0, _ => rfl
  | k + 1, h => by rw [upN, h, upN_fix k h]
theorem LV_up {m v : Nat} (V : LV m lev S) (hv : v < 20000) : LV m (fun j => if j = i then v else lev j) (rs_setA S 36 i (Int32.ofNat v)) := by
  intro j hj
  dsimp only
  by_cases e : j = i
  · subst e
    rw [if_pos rfl, set_e]
    exact ⟨rfl, hv⟩
  · rw [if_neg e, set_i e]
    exact V j hj
theorem q284c (hn : n = cs.length) (J : Int32 → Int32 → Int32 → rs_S → Option (Unit × rs_S)) {x3 : Int32} : ∀ k m i B x2 lev S, SW o Lr Lc S → CS D F cs S → CK K n S → LV cs.length lev S → (∀ j, lev j ≤ B) → B + k < 20000 → i + k = n → k < m → (x2 = 0 ∨ x2 = 1) → ∃ S' b, r284_21 J m (Int32.ofNat o) x2 x3 (Int32.ofNat i) S = J (Int32.ofNat o) b (x3 + 1) S' ∧ Sl S S' ∧ LV cs.length (ups cs Lr Lc K n k i lev) S' ∧ (b = 0 ∨ b = 1) ∧ (b = 0 → x2 = 0 ∧ ups cs Lr Lc K n k i lev = lev) := by
  intro k
  induction k with
  | zero =>
    intro m i B x2 lev S w C Q V hB hB2 h1 h2 hx
    cases m with
    | zero => omega
    | succ m =>
      have hc1 := C.1
      have hc2 := C.2.1
      rw [r284_21]
      dsimp only
      rw [hc1, if_pos ((i32_len (by omega) (by omega)).mpr (by omega))]
      exact ⟨S, x2, rfl, Sl_refl, V, hx, fun e => ⟨e, rfl⟩⟩
  | succ k ih =>
    intro m i B x2 lev S w C Q V hB hB2 h1 h2 hx
    cases m with
    | zero => omega
    | succ m =>
      have hc1 := C.1
      have hc2 := C.2.1
      have n4 : Int32.ofNat i + (1 : Int32) = Int32.ofNat (i + 1) := i32_add i 1
      have hlev : ∀ j, lev j < 20000 := fun j => by have := hB j; omega
      have hB' : ∀ j, lup cs Lr Lc K n lev i j ≤ B + 1 := lup_le hB
      obtain ⟨a, ha, e35, hk⟩ := Q i (by omega)
      have r35 : rd_I S 35 (Int32.ofNat i) = some (Int32.ofNat a) := by rw [rdI (n := 120) (by decide) (by omega) (by omega), e35]
      have r10 : rd_I S 10 (Int32.ofNat a) = some (S.2.1 10 a) := rdI (n := 120) (by decide) ha (by omega)
      have g285 : rf_285 (Int32.ofNat i) S = some (S.2.1 10 a, S) := by
        unfold rf_285
        rw [r35, Option.bind_some, r10, Option.bind_some]
      rw [r284_21]
      dsimp only
      rw [hc1, if_neg (fun e => by have := (i32_len (by omega) (by omega)).mp e; omega), g285, rb_r, ups]
      have skip : lup cs Lr Lc K n lev i = lev → ∃ S' b, r284_21 J m (Int32.ofNat o) x2 x3 (Int32.ofNat i + 1) S = J (Int32.ofNat o) b (x3 + 1) S' ∧ Sl S S' ∧ LV cs.length (ups cs Lr Lc K n k (i + 1) (lup cs Lr Lc K n lev i)) S' ∧ (b = 0 ∨ b = 1) ∧ (b = 0 → x2 = 0 ∧ ups cs Lr Lc K n k (i + 1) (lup cs Lr Lc K n lev i) = lev) := by
        intro e
        rw [e, n4]
        exact ih m (i + 1) B x2 lev S w C Q V hB (by omega) (by omega) (by omega) hx
      rcases hk with ⟨k1, k2⟩ | ⟨c, fm, ts, k1, k2, k3, k4⟩
      · rw [k2, if_pos (by decide)]
        unfold r284_111
        exact skip (by unfold lup; rw [k1])
      · have hc := k3.1
        rw [k2, if_neg (i32_lt c (by omega)), g285, rb_r, k2, rdI (n := 120) (by decide) hc (by omega), Option.bind_some, k4]
        cases fm with
        | false =>
          rw [if_pos (by decide)]
          unfold r284_111
          exact skip (by unfold lup; rw [k1])
        | true =>
          have hv := V i (by omega)
          have g285' : rf_285 (Int32.ofNat i) S = some (Int32.ofNat c, S) := by rw [g285, k2]
          rw [if_neg (by decide), rdI (n := 120) (by decide) (by omega) (by omega), Option.bind_some, hv.1, hc1]
          by_cases el : lev i ≤ n
          · have hm := mxl_le hB (dpa cs Lr Lc ts) 0 (by omega)
            have hup : lup cs Lr Lc K n lev i = fun j => if j = i then mxl lev 0 (dpa cs Lr Lc ts) + 1 else lev j := by
              unfold lup
              rw [k1]
              dsimp only
              rw [if_pos el]
            obtain ⟨S1, hS1⟩ : ∃ S1, S1 = rs_setA S 36 i (Int32.ofNat (mxl lev 0 (dpa cs Lr Lc ts) + 1)) := ⟨_, rfl⟩
            have sl : Sl S S1 := by rw [hS1]; exact Sl_A
            have V1 : LV cs.length (lup cs Lr Lc K n lev i) S1 := by rw [hup, hS1]; exact LV_up V (by omega)
            rw [if_neg (fun e => by have := (i32_ltn (by omega) (by omega)).mp e; omega), g285', rb_r, q286 w C V hlev k3, rb_r]
            have go : ∀ s0 : Int32, (s0 = 0 ∨ s0 = 1) → (s0 = 0 → x2 = 0 ∧ lup cs Lr Lc K n lev i = lev) → ∃ S' b, r284_101 J (r284_21 J m) (Int32.ofNat o) x3 (Int32.ofNat i) (Int32.ofNat (mxl lev 0 (dpa cs Lr Lc ts) + 1)) s0 S = J (Int32.ofNat o) b (x3 + 1) S' ∧ Sl S S' ∧ LV cs.length (ups cs Lr Lc K n k (i + 1) (lup cs Lr Lc K n lev i)) S' ∧ (b = 0 ∨ b = 1) ∧ (b = 0 → x2 = 0 ∧ ups cs Lr Lc K n k (i + 1) (lup cs Lr Lc K n lev i) = lev) := by
              intro s0 hs0 hs1
              obtain ⟨S', b, p1, p2, p3, p4, p5⟩ := ih m (i + 1) (B + 1) s0 _ S1 (SW_l sl w) (CS_l sl C) (CK_l sl Q) V1 hB' (by omega) (by omega) (by omega) hs0
              refine ⟨S', b, ?_, Sl_tr sl p2, p3, p4, fun e => ?_⟩
              · unfold r284_101 r284_111
                rw [wrI (n := 120) (by decide) (by omega) (by omega), Option.bind_some, ← hS1, n4]
                exact p1
              · obtain ⟨u1, u2⟩ := p5 e
                obtain ⟨u3, u4⟩ := hs1 u1
                exact ⟨u3, u2.trans u4⟩
            by_cases ex : x2 = 0
            · rw [if_pos ex, rdI (n := 120) (by decide) (by omega) (by omega), Option.bind_some, hv.1]
              by_cases ev : mxl lev 0 (dpa cs Lr Lc ts) + 1 = lev i
              · rw [if_pos (by rw [ev])]
                refine go 0 (Or.inl rfl) (fun _ => ⟨ex, ?_⟩)
                rw [hup]
                funext j
                by_cases ej : j = i
                · rw [if_pos ej, ev, ej]
                · rw [if_neg ej]
              · rw [if_neg (fun e => ev (i32_inj (by omega) (by omega) e))]
                unfold r284_96
                exact go 1 (Or.inr rfl) (fun e => absurd e (by decide))
            · rw [if_neg ex]
              unfold r284_96
              exact go 1 (Or.inr rfl) (fun e => absurd e (by decide))
          · rw [if_pos ((i32_ltn (by omega) (by omega)).mpr (by omega))]
            unfold r284_111
            refine skip ?_
            unfold lup
            rw [k1]
            dsimp only
            rw [if_neg el]
theorem q284r (hn : n = cs.length) : ∀ k m x3 x2 B lev S, SW o Lr Lc S → CS D F cs S → CK K n S → LV cs.length lev S → (∀ j, lev j ≤ B) → B + k * n < 20000 → x3 + k = n + 1 → k < m → (x2 = 0 ∨ x2 = 1) → ((x2 : Int32) = 0 → ups cs Lr Lc K n n 0 lev = lev) → ∃ S', r284_4 m (Int32.ofNat o) x2 (Int32.ofNat x3) S = some ((), S') ∧ Sl S S' ∧ LV cs.length (upN cs Lr Lc K n k lev) S' := by
  intro k
  induction k with
  | zero =>
    intro m x3 x2 B lev S w C Q V hB hB2 h1 h2 hx hx2
    cases m with
    | zero => omega
    | succ m =>
      have hc1 := C.1
      have hc2 := C.2.1
      rw [r284_4]
      dsimp only
      rw [hc1, if_pos ((i32_ltn (by omega) (by omega)).mpr (by omega))]
      exact ⟨S, rfl, Sl_refl, V⟩
  | succ k ih =>
    intro m x3 x2 B lev S w C Q V hB hB2 h1 h2 hx hx2
    have hmul : (k + 1) * n = k * n + n := Nat.succ_mul k n
    cases m with
    | zero => omega
    | succ m =>
      have hc1 := C.1
      have hc2 := C.2.1
      rw [r284_4]
      dsimp only
      rw [hc1, if_neg (fun e => by have := (i32_ltn (by omega) (by omega)).mp e; omega)]
      by_cases ex : x2 = 0
      · rw [if_pos ex, upN_fix _ (hx2 ex)]
        exact ⟨S, rfl, Sl_refl, V⟩
      · have n4 : Int32.ofNat x3 + (1 : Int32) = Int32.ofNat (x3 + 1) := i32_add x3 1
        obtain ⟨S1, b, p1, p2, p3, p4, p5⟩ := q284c (o := o) (Lr := Lr) (Lc := Lc) (K := K) hn (r284_4 m) (x3 := Int32.ofNat x3) n lf_N 0 B 0 lev S w C Q V hB (by omega) (by omega) (by unfold lf_N; omega) (Or.inl rfl)
        obtain ⟨S', u1, u2, u3⟩ := ih m (x3 + 1) b (B + n) _ S1 (SW_l p2 w) (CS_l p2 C) (CK_l p2 Q) p3 (ups_le n 0 B lev hB) (by omega) (by omega) (by omega) p4 (fun e => by rw [(p5 e).2]; exact (p5 e).2)
        refine ⟨S', ?_, Sl_tr p2 u2, u3⟩
        rw [if_neg ex, show (0 : Int32) = Int32.ofNat 0 from rfl, show r284_21 (r284_4 m) lf_N (Int32.ofNat o) (Int32.ofNat 0) (Int32.ofNat x3) (Int32.ofNat 0) S = _ from p1, n4]
        exact u1
theorem q284 (hn : n = cs.length) (w : SW o Lr Lc S) (C : CS D F cs S) (Q : CK K n S) (V : LV cs.length (fun _ => 0) S) : ∃ S', rf_284 (Int32.ofNat o) S = some ((), S') ∧ Sl S S' ∧ LV cs.length (upN cs Lr Lc K n (n + 1) (fun _ => 0)) S' := by
  have hc2 := C.2.1
  have hm : (n + 1) * n ≤ 121 * 120 := Nat.mul_le_mul (by omega) (by omega)
  unfold rf_284
  exact q284r hn (n + 1) lf_N 0 1 0 _ S w C Q V (fun _ => Nat.le_refl _) (by omega) (by omega) (by unfold lf_N; omega) (Or.inr rfl) (fun e => absurd e (by decide))
end RND
