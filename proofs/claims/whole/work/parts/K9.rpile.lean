/-! THE REFERENCE: its pile and its row -/
def sgh (c : Nat) : Nat := if c = 43 then 1 else if c = 45 then 1 else if c = 42 then 2 else if c = 47 then 2 else if c = 126 then 3 else 0
def PIL (Q : List Nat) (S : rs_S) : Prop := S.1 29 = Int32.ofNat Q.length ∧ ∀ j, j < Q.length → S.2.1 28 (Q.length - 1 - j) = Int32.ofNat (Q.getD j 0)
def OUTP (id : Nat) (ts : List (Nat × Int32)) (S : rs_S) : Prop := S.2.1 13 id = Int32.ofNat ts.length ∧ ∀ j, j < ts.length → S.2.1 14 (20 * id + j) = Int32.ofNat (ts.getD j (0, 0)).1 ∧ S.2.1 15 (20 * id + j) = (ts.getD j (0, 0)).2
/-- what reading leaves as it was -/
def Rk (id : Nat) (S S' : rs_S) : Prop := (∀ a, a < 23 ∨ 30 < a → S'.1 a = S.1 a) ∧ S'.2.2 = S.2.2 ∧ ∀ a j, a ≠ 28 → (a = 13 → j ≠ id) → (a = 14 ∨ a = 15 → j < 20 * id ∨ 20 * id + 20 ≤ j) → S'.2.1 a j = S.2.1 a j
def PB (id : Nat) (S0 : rs_S) (B : Nat) (Q : List Nat) (ts : List (Nat × Int32)) (S : rs_S) : Prop := Rk id S0 S ∧ PIL Q S ∧ S.1 30 = Int32.ofNat (Q.count 40) ∧ OUTP id ts S ∧ (Q.length + ts.length ≤ B ∧ wgt ts + 3 * Q.length ≤ 3 * B ∧ B ≤ 20) ∧ (∀ c ∈ Q, c < 200) ∧ id < 120
section PLE
variable {S S0 S' S2 : rs_S} {T Lr Lc : List Nat} {k t p j n m x b d q N e o id B B' c s : Nat} {Q pd : List Nat} {ts : List (Nat × Int32)} {v arg : Int32}
theorem Rk_0 : Rk id S S := ⟨fun _ _ => rfl, rfl, fun _ _ _ _ _ => rfl⟩
theorem Rk_tr (h1 : Rk id S S') (h2 : Rk id S' S2) : Rk id S S2 := ⟨fun a ha => (h2.1 a ha).trans (h1.1 a ha), h2.2.1.trans h1.2.1, fun a j n1 n2 n3 => (h2.2.2 a j n1 n2 n3).trans (h1.2.2 a j n1 n2 n3)⟩
theorem Rk_l (h : Rl S S') : Rk id S S' := ⟨fun a ha => h.1 a (by omega), by rw [h.2], fun a j _ _ _ => by rw [h.2]⟩
theorem Rk_I {a : Nat} (h1 : 23 ≤ a) (h2 : a ≤ 30) : Rk id S (rs_setI S a v) := ⟨fun b hb => if_neg (by omega), rfl, fun _ _ _ _ _ => rfl⟩
theorem Rk_A {a i : Nat} (h : a = 28 ∨ (a = 13 ∧ i = id) ∨ ((a = 14 ∨ a = 15) ∧ 20 * id ≤ i ∧ i < 20 * id + 20)) : Rk id S (rs_setA S a i v) := ⟨fun _ _ => rfl, rfl, fun b j n1 n2 n3 => if_neg (fun z => by
  obtain ⟨z1, z2⟩ := z
  subst z1 z2
  rcases h with h | ⟨h, h'⟩ | ⟨h, h'⟩
  · exact n1 h
  · exact n2 h h'
  · have := n3 h; omega)⟩
theorem TX0_k (h : Rk id S S') (X : TX0 T S) : TX0 T S' := ⟨by rw [h.1 22 (by omega)]; exact X.1, X.2.1, X.2.2.1, fun j hj => by rw [h.2.2 21 j (by omega) (by omega) (by omega)]; exact X.2.2.2 j hj⟩
theorem SHL_k (h : Rk id S S') (H : SHL o Lr Lc S) : SHL o Lr Lc S' := by
  unfold SHL SH at H ⊢
  obtain ⟨h1, ⟨h2, h3⟩, ⟨h4, h5⟩, h6⟩ := H
  exact ⟨h1, ⟨by rw [h.2.2 20 _ (by omega) (by omega) (by omega)]; exact h2, fun j hj => by rw [h.2.2 19 _ (by omega) (by omega) (by omega)]; exact h3 j hj⟩, ⟨by rw [h.2.2 20 _ (by omega) (by omega) (by omega)]; exact h4, fun j hj => by rw [h.2.2 19 _ (by omega) (by omega) (by omega)]; exact h5 j hj⟩, h6⟩
theorem PB_l (h : Rl S S') (P : PB id S0 B Q ts S) : PB id S0 B Q ts S' := by
  obtain ⟨p1, p2, p3, p4, p5, p6⟩ := P
  refine ⟨Rk_tr p1 (Rk_l h), ?_, by rw [h.1 30 (by omega)]; exact p3, ?_, p5, p6⟩
  · unfold PIL at p2 ⊢; rw [h.1 29 (by omega), h.2]; exact p2
  · unfold OUTP at p4 ⊢; rw [h.2]; exact p4
theorem PB_w (h1 : B ≤ B') (h2 : B' ≤ 20) (P : PB id S0 B Q ts S) : PB id S0 B' Q ts S := by
  obtain ⟨p1, p2, p3, p4, p5, p6⟩ := P
  exact ⟨p1, p2, p3, p4, ⟨by omega, by omega, h2⟩, p6⟩
theorem LXT_1 (h : ∀ a, a < 28 → S'.1 a = S.1 a) (L : LXT T Lr Lc p S) : LXT T Lr Lc p S' := by
  unfold LXT at L ⊢
  rw [h 24 (by omega), h 23 (by omega), h 25 (by omega), h 26 (by omega), h 27 (by omega)]
  exact L
theorem wgt_a {t : Nat × Int32} : wgt (ts ++ [t]) = wgt ts + twt t := by
  unfold wgt
  rw [List.map_append, List.sum_append]
  simp
theorem q277e (hc : c < 200) (hv : v = Int32.ofNat c) : rf_277 v S = some (Int32.ofNat (sgh c), S) := by
  subst hv
  unfold rf_277 sgh
  have ne : ∀ x : Nat, x < 200 → ¬ c = x → ¬ Int32.ofNat c = Int32.ofNat x := fun x h1 h2 => i32_ofne (by omega) (by omega) h2
  by_cases h1 : c = 43
  · subst h1; rfl
  · rw [if_neg (show ¬ Int32.ofNat c = (43 : Int32) from ne 43 (by omega) h1), if_neg h1]
    by_cases h2 : c = 45
    · subst h2; rfl
    · rw [if_neg (show ¬ Int32.ofNat c = (45 : Int32) from ne 45 (by omega) h2), if_neg h2]
      by_cases h3 : c = 42
      · subst h3; rfl
      · rw [if_neg (show ¬ Int32.ofNat c = (42 : Int32) from ne 42 (by omega) h3), if_neg h3]
        by_cases h4 : c = 47
        · subst h4; rfl
        · rw [if_neg (show ¬ Int32.ofNat c = (47 : Int32) from ne 47 (by omega) h4), if_neg h4]
          by_cases h5 : c = 126
          · subst h5; rfl
          · rw [if_neg (show ¬ Int32.ofNat c = (126 : Int32) from ne 126 (by omega) h5), if_neg h5]
            rfl
/-- a part is put down -/
theorem q275 (P : PB id S0 B Q ts S) (hcd : c < 200) (hv : v = Int32.ofNat c) (h1 : Q.length + ts.length + 1 ≤ B') (h2 : wgt ts + twt (c, arg) + 3 * Q.length ≤ 3 * B') (h3 : B' ≤ 20) : ∃ S', rf_275 (Int32.ofNat id) v arg S = some ((), S') ∧ PB id S0 B' Q (ts ++ [(c, arg)]) S' ∧ S'.1 = S.1 := by
  subst hv
  obtain ⟨p1, p2, p3, ⟨p4, p4'⟩, p5, p6, p7⟩ := P
  have e1 : (20 : Int32) * Int32.ofNat id + Int32.ofNat ts.length = Int32.ofNat (20 * id + ts.length) := by rw [show (20 : Int32) = Int32.ofNat 20 from rfl, i32_mul, i32_add]
  unfold rf_275
  rw [rdI (n := 120) (by decide) p7 (by omega), Option.bind_some, p4, e1, wrI (n := 2400) (by decide) (by omega) (by omega), Option.bind_some, rdI (n := 120) (by decide) p7 (by omega), Option.bind_some, show (rs_setA S 14 (20 * id + ts.length) (Int32.ofNat c)).2.1 13 id = Int32.ofNat ts.length from p4, e1, wrI (n := 2400) (by decide) (by omega) (by omega), Option.bind_some, rdI (n := 120) (by decide) p7 (by omega), Option.bind_some, show (rs_setA (rs_setA S 14 (20 * id + ts.length) (Int32.ofNat c)) 15 (20 * id + ts.length) arg).2.1 13 id = Int32.ofNat ts.length from p4, wrI (n := 120) (by decide) p7 (by omega), Option.bind_some, show Int32.ofNat ts.length + (1 : Int32) = Int32.ofNat (ts.length + 1) from i32_add _ 1]
  refine ⟨_, rfl, ⟨Rk_tr p1 (Rk_tr (Rk_A (Or.inr (Or.inr ⟨Or.inl rfl, by omega, by omega⟩))) (Rk_tr (Rk_A (Or.inr (Or.inr ⟨Or.inr rfl, by omega, by omega⟩))) (Rk_A (Or.inr (Or.inl ⟨rfl, rfl⟩))))), p2, p3, ⟨?_, ?_⟩, ⟨by rw [List.length_append]; exact h1, by rw [wgt_a]; exact h2, h3⟩, p6, p7⟩, rfl⟩
  · rw [List.length_append]
    exact if_pos ⟨rfl, rfl⟩
  · intro j hj
    rw [List.length_append, List.length_singleton] at hj
    rw [List.getD_eq_getElem?_getD]
    by_cases z : j = ts.length
    · subst z
      rw [List.getElem?_append_right (Nat.le_refl _), Nat.sub_self]
      refine ⟨?_, ?_⟩
      · exact if_pos ⟨rfl, rfl⟩
      · exact if_pos ⟨rfl, rfl⟩
    · rw [List.getElem?_append_left (by omega), ← List.getD_eq_getElem?_getD]
      have := p4' j (by omega)
      refine ⟨Eq.trans ?_ this.1, Eq.trans ?_ this.2⟩
      · exact if_neg (fun y => by have := y.2; omega)
      · exact if_neg (fun y => by have := y.2; omega)
theorem PIL_c (h : PIL (c :: Q) S) : S.1 29 = Int32.ofNat (Q.length + 1) ∧ S.2.1 28 Q.length = Int32.ofNat c ∧ ∀ j, j < Q.length → S.2.1 28 (Q.length - 1 - j) = Int32.ofNat (Q.getD j 0) := by
  obtain ⟨h1, h2⟩ := h
  refine ⟨h1, ?_, fun j hj => ?_⟩
  · have := h2 0 (Nat.succ_pos _)
    exact this
  · have := h2 (j + 1) (by rw [List.length_cons]; omega)
    rw [List.length_cons, show Q.length + 1 - 1 - (j + 1) = Q.length - 1 - j by omega] at this
    exact this
/-- the pile is cleared, down to a strength -/
theorem q276l (hs : s ≤ 3) (hs0 : 0 < s) (hQ : Q = [] ∨ sgh (Q.getD 0 0) < s) : ∀ pd n ts S, pd.length < n → PB id S0 B (pd ++ Q) ts S → (∀ c ∈ pd, s ≤ sgh c) → ∃ S', r276_0 n (Int32.ofNat id) (Int32.ofNat s) S = some ((), S') ∧ PB id S0 B Q (ts ++ pd.map (fun c => (c, 0))) S' ∧ ∀ a, a ≠ 29 → S'.1 a = S.1 a := by
  intro pd
  induction pd with
  | nil =>
    intro n ts S hn P hp
    cases n with
    | zero => omega
    | succ n =>
      rw [r276_0]
      dsimp only
      rw [List.map_nil, List.append_nil]
      refine ⟨S, ?_, P, fun _ _ => rfl⟩
      rw [List.nil_append] at P
      obtain ⟨p1, p2, p3, p4, p5, p6, p7⟩ := P
      cases Q with
      | nil => rw [p2.1, if_pos (by decide)]
      | cons c Q =>
        obtain ⟨g1, g2, g3⟩ := PIL_c p2
        have hc := p6 c (List.mem_cons_self ..)
        have hsc : sgh c < s := hQ.resolve_left (by intro z; cases z)
        have hl : Q.length + 1 ≤ 20 := by have := p5.1; rw [List.length_cons] at this; omega
        rw [g1, if_neg (show ¬ Int32.ofNat (Q.length + 1) ≤ (0 : Int32) from fun z => by have := (i32_len (b := 0) (by omega) (by omega)).mp z; omega), show Int32.ofNat (Q.length + 1) - (1 : Int32) = Int32.ofNat Q.length from i32_sub (b := 1) (by omega), rdI (n := 24) (by decide) (by omega) (by omega), Option.bind_some, g2, q277e hc rfl, rb_r, if_pos ((i32_ltn (by omega) (by omega)).mpr hsc)]
  | cons c pd ih =>
    intro n ts S hn P hp
    cases n with
    | zero => omega
    | succ n =>
      rw [r276_0]
      dsimp only
      rw [List.cons_append] at P
      have P' := P
      obtain ⟨p1, p2, p3, p4, p5, p6, p7⟩ := P
      obtain ⟨g1, g2, g3⟩ := PIL_c p2
      have hc := p6 c (List.mem_cons_self ..)
      have hsc := hp c (List.mem_cons_self ..)
      have hl : (pd ++ Q).length + 1 ≤ 20 := by have := p5.1; rw [List.length_cons] at this; omega
      have hs3 : sgh c ≤ 3 := by unfold sgh; split; omega; split; omega; split; omega; split; omega; split <;> omega
      have ht : twt (c, (0 : Int32)) = 3 := by
        have : c = 43 ∨ c = 45 ∨ c = 42 ∨ c = 47 ∨ c = 126 := by
          unfold sgh at hsc
          by_cases z1 : c = 43
          · omega
          · by_cases z2 : c = 45
            · omega
            · by_cases z3 : c = 42
              · omega
              · by_cases z4 : c = 47
                · omega
                · by_cases z5 : c = 126
                  · omega
                  · rw [if_neg z1, if_neg z2, if_neg z3, if_neg z4, if_neg z5] at hsc; omega
        rcases this with z | z | z | z | z <;> subst z <;> rfl
      have hc40 : c ≠ 40 := by intro z; subst z; have : sgh 40 = 0 := rfl; omega
      rw [g1, if_neg (show ¬ Int32.ofNat ((pd ++ Q).length + 1) ≤ (0 : Int32) from fun z => by have := (i32_len (b := 0) (by omega) (by omega)).mp z; omega), show Int32.ofNat ((pd ++ Q).length + 1) - (1 : Int32) = Int32.ofNat (pd ++ Q).length from i32_sub (b := 1) (by omega), rdI (n := 24) (by decide) (by omega) (by omega), Option.bind_some, g2, q277e hc rfl, rb_r, if_neg (fun z => by have := (i32_ltn (by omega) (by omega)).mp z; omega), g1, show Int32.ofNat ((pd ++ Q).length + 1) - (1 : Int32) = Int32.ofNat (pd ++ Q).length from i32_sub (b := 1) (by omega)]
      unfold rb_S
      dsimp only
      have P1 : PB id S0 B (pd ++ Q) ts (rs_setI S 29 (Int32.ofNat (pd ++ Q).length)) := by
        refine ⟨Rk_tr p1 (Rk_I (by omega) (by omega)), ⟨rfl, g3⟩, ?_, p4, ⟨?_, ?_, p5.2.2⟩, fun x hx => p6 x (List.mem_cons_of_mem _ hx), p7⟩
        · rw [List.count_cons, if_neg (by simpa using hc40), Nat.add_zero] at p3
          exact p3
        · have := p5.1; rw [List.length_cons] at this; omega
        · have := p5.2.1; rw [List.length_cons] at this; omega
      rw [show (rs_setI S 29 (Int32.ofNat (pd ++ Q).length)).1 29 = Int32.ofNat (pd ++ Q).length from rfl, rdI (n := 24) (by decide) (by omega) (by omega), Option.bind_some, show (rs_setI S 29 (Int32.ofNat (pd ++ Q).length)).2.1 28 (pd ++ Q).length = Int32.ofNat c from g2]
      obtain ⟨S1, e1, e2, e3⟩ := q275 (B' := B) (c := c) (arg := 0) P1 hc rfl (by have := p5.1; rw [List.length_cons] at this; omega) (by have := p5.2.1; rw [List.length_cons] at this; omega) p5.2.2
      rw [e1, rb_r]
      obtain ⟨S2, f1, f2, f3⟩ := ih n (ts ++ [(c, 0)]) S1 (by rw [List.length_cons] at hn; omega) e2 (fun x hx => hp x (List.mem_cons_of_mem _ hx))
      refine ⟨S2, f1, ?_, fun a ha => ?_⟩
      · rw [List.map_cons, show ts ++ (c, (0 : Int32)) :: pd.map (fun c => (c, 0)) = ts ++ [(c, 0)] ++ pd.map (fun c => (c, 0)) by simp]
        exact f2
      · rw [f3 a ha, e3]
        exact if_neg ha
theorem q276 (P : PB id S0 B (pd ++ Q) ts S) (hs : s ≤ 3) (hs0 : 0 < s) (hv : v = Int32.ofNat s) (hQ : Q = [] ∨ sgh (Q.getD 0 0) < s) (hp : ∀ c ∈ pd, s ≤ sgh c) : ∃ S', rf_276 (Int32.ofNat id) v S = some ((), S') ∧ PB id S0 B Q (ts ++ pd.map (fun c => (c, 0))) S' ∧ ∀ a, a ≠ 29 → S'.1 a = S.1 a := by
  subst hv
  have hl : pd.length ≤ 20 := by have := P.2.2.2.2.1; rw [List.length_append] at this; omega
  exact q276l hs hs0 hQ pd lf_N ts S (by unfold lf_N; omega) P hp
/-- one more on the pile -/
theorem q273 (P : PB id S0 B Q ts S) (hc : c < 200) (hv : v = Int32.ofNat c) (hB : B < 20) : ∃ S', rf_273 v S = some ((), S') ∧ (∀ w : Int32, w = Int32.ofNat ((c :: Q).count 40) → PB id S0 (B + 1) (c :: Q) ts (rs_setI S' 30 w)) ∧ (∀ a, a ≠ 29 → S'.1 a = S.1 a) ∧ Rk id S S' := by
  subst hv
  obtain ⟨p1, p2, p3, p4, p5, p6, p7⟩ := P
  unfold rf_273
  rw [p2.1, wrI (n := 24) (by decide) (by omega) (by omega), Option.bind_some]
  unfold rb_S
  dsimp only
  rw [show (rs_setA S 28 Q.length (Int32.ofNat c)).1 29 = Int32.ofNat Q.length from p2.1, show Int32.ofNat Q.length + (1 : Int32) = Int32.ofNat (Q.length + 1) from i32_add _ 1]
  have hk : Rk id S (rs_setI (rs_setA S 28 Q.length (Int32.ofNat c)) 29 (Int32.ofNat (Q.length + 1))) := Rk_tr (Rk_A (Or.inl rfl)) (Rk_I (by omega) (by omega))
  refine ⟨_, rfl, fun w hw => ⟨Rk_tr p1 (Rk_tr hk (Rk_I (by omega) (by omega))), ⟨rfl, ?_⟩, hw, p4, ⟨by rw [List.length_cons]; omega, by rw [List.length_cons]; omega, by omega⟩, fun x hx => ?_, p7⟩, fun a ha => if_neg ha, hk⟩
  · intro j hj
    rw [List.length_cons] at hj ⊢
    cases j with
    | zero => exact if_pos ⟨rfl, rfl⟩
    | succ j =>
      have := p2.2 j (by omega)
      rw [show Q.length + 1 - 1 - (j + 1) = Q.length - 1 - j by omega]
      refine Eq.trans ?_ this
      exact if_neg (fun z => by have := z.2; omega)
  · rcases List.mem_cons.mp hx with z | z
    · omega
    · exact p6 x z
end PLE
