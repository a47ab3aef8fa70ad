/-! PRINT put together -/
def WST : List Nat → Nat → List Nat → Prop
  | [], _, _ => True
  | w :: r, i, W => 1 ≤ w ∧ w ≤ i ∧ W.getD (i - 1) 0 = w ∧ WST r (i - w) W
section PRT
variable {S S' S0 S2 : rs_S} {o k m r c y z id b n p j i : Nat} {U X Lr Lc W st : List Nat} {v : Int32} {K : List Int32} {M : aM} {A A' A0 : ah} {h h0 : pm_H} {D : aD} {G : Nat → fo} {F : fo} {t ts : List (Nat × Int32)}
theorem WST_app : ∀ (st : List Nat) (i : Nat) (W X : List Nat), i ≤ W.length → WST st i W → WST st i (W ++ X)
  | [], _, _, _, _, _ => trivial
  | w :: r, i, W, X, hi, ⟨h1, h2, h3, h4⟩ => ⟨h1, h2, by rw [ng_a1 (by omega)]; exact h3, WST_app r (i - w) W X (by omega) h4⟩
theorem ng_l {x : Nat} (h : W.length = i) : (W ++ [x]).getD i 0 = x := by
  subst h
  simp [List.getD_eq_getElem?_getD]
/-- widths so far -/
def Sv (S S' : rs_S) : Prop := S'.1 = S.1 ∧ (∀ a j, a ≠ 41 → S'.2.1 a j = S.2.1 a j) ∧ S'.2.2 = S.2.2
theorem Sv_refl : Sv S S := ⟨rfl, fun _ _ _ => rfl, rfl⟩
theorem Sv_tr (h1 : Sv S S') (h2 : Sv S' S2) : Sv S S2 := ⟨h2.1.trans h1.1, fun a j n => (h2.2.1 a j n).trans (h1.2.1 a j n), h2.2.2.trans h1.2.2⟩
theorem q302w (hid : id < 120) (hl : ts.length ≤ 20) : ∀ k m i S W st, i + k = ts.length → k < m → S.2.1 13 id = Int32.ofNat ts.length → TKb id 0 ts S → (∀ t ∈ ts, t.1 < 200) → W.length = i → (∀ j, j < i → S.2.1 41 j = Int32.ofNat (W.getD j 0)) → WST st i W → (∀ w ∈ st, w ≤ 20) → dpt (ts.drop i) st.length = some 1 → ∃ S', r302_66 m (Int32.ofNat o) (Int32.ofNat id) (Int32.ofNat i) S = r302_66 1 (Int32.ofNat o) (Int32.ofNat id) (Int32.ofNat ts.length) S' ∧ Sv S S' ∧ ∀ j, j < ts.length → S'.2.1 41 j = Int32.ofNat ((wfd (ts.drop i) (W, st)).1.getD j 0) := by
  have stop : ∀ m S, S.2.1 13 id = Int32.ofNat ts.length → r302_66 (m + 1) (Int32.ofNat o) (Int32.ofNat id) (Int32.ofNat ts.length) S = r302_66 1 (Int32.ofNat o) (Int32.ofNat id) (Int32.ofNat ts.length) S := by
    intro m S h13
    rw [r302_66, r302_66]
    dsimp only
    rw [rdI (n := 120) (by decide) hid (by omega), Option.bind_some, Option.bind_some, h13, if_pos ((i32_len (by omega) (by omega)).mpr (Nat.le_refl _)), if_pos ((i32_len (by omega) (by omega)).mpr (Nat.le_refl _))]
  intro k
  induction k with
  | zero =>
    intro m i S W st h1 h2 h13 T hc hW h41 hst hs20 hd
    cases m with
    | zero => omega
    | succ m =>
      have e : i = ts.length := by omega
      subst e
      refine ⟨S, stop m S h13, Sv_refl, fun j hj => ?_⟩
      rw [List.drop_of_length_le (Nat.le_refl _)]
      exact h41 j hj
  | succ k ih =>
    intro m i S W st h1 h2 h13 T hc hW h41 hst hs20 hd
    cases m with
    | zero => omega
    | succ m =>
      have hi : i < ts.length := by omega
      obtain ⟨b1, -⟩ := T i hi
      rw [Nat.add_zero] at b1
      have n4 : Int32.ofNat i + (1 : Int32) = Int32.ofNat (i + 1) := i32_add i 1
      have htm : ts.getD i (0, 0) ∈ ts := by
        rw [List.getD_eq_getElem?_getD, List.getElem?_eq_getElem hi]
        exact List.getElem_mem hi
      have hc1 := hc _ htm
      rw [td_drop hi] at hd ⊢
      obtain ⟨c, hcc⟩ : ∃ c, c = (ts.getD i (0, 0)).1 := ⟨_, rfl⟩
      rw [← hcc] at b1 hc1
      have r14 : rd_I S 14 (Int32.ofNat (20 * id + i)) = some (Int32.ofNat c) := by rw [rdI (n := 2400) (by decide) (by omega) (by omega), b1]
      -- one width laid
      have lay : ∀ w st', 1 ≤ w → w ≤ 60 → wst (W, st) (ts.getD i (0, 0)) = (W ++ [w], st') → WST st' (i + 1) (W ++ [w]) → (∀ x ∈ st', x ≤ 20) → dpt (ts.drop (i + 1)) st'.length = some 1 → ∃ S', (wr_I S 41 (Int32.ofNat i) (Int32.ofNat w)).bind (fun S1 => r302_66 m (Int32.ofNat o) (Int32.ofNat id) (Int32.ofNat i + 1) S1) = r302_66 1 (Int32.ofNat o) (Int32.ofNat id) (Int32.ofNat ts.length) S' ∧ Sv S S' ∧ ∀ j, j < ts.length → S'.2.1 41 j = Int32.ofNat ((wfd (ts.getD i (0, 0) :: ts.drop (i + 1)) (W, st)).1.getD j 0) := by
        intro w st' hw1 hw2 hws hst' h20 hd'
        have sv : Sv S (rs_setA S 41 i (Int32.ofNat w)) := ⟨rfl, fun a j n => set_a n, rfl⟩
        obtain ⟨S', u1, u2, u3⟩ := ih m (i + 1) (rs_setA S 41 i (Int32.ofNat w)) (W ++ [w]) st' (by omega) (by omega) (by rw [sv.2.1 13 _ (by omega)]; exact h13) (fun j hj => by rw [sv.2.1 14 _ (by omega), sv.2.1 15 _ (by omega)]; exact T j hj) hc (by rw [List.length_append, hW]; rfl) (fun j hj => by
          by_cases q : j = i
          · subst q
            rw [set_e]
            rw [ng_l hW]
          · rw [set_i q, ng_a1 (by omega)]
            exact h41 j (by omega)) hst' h20 hd'
        refine ⟨S', ?_, Sv_tr sv u2, ?_⟩
        · rw [wrI (n := 20) (by decide) (by omega) (by omega), Option.bind_some, n4]
          exact u1
        · show ∀ j, j < ts.length → S'.2.1 41 j = Int32.ofNat ((wfd (ts.drop (i + 1)) (wst (W, st) (ts.getD i (0, 0)))).1.getD j 0)
          rw [hws]
          exact u3
      rw [r302_66]
      dsimp only
      rw [rdI (n := 120) (by decide) hid (by omega), Option.bind_some, h13, if_neg (fun e => by have := (i32_len (by omega) (by omega)).mp e; omega), ix20, r14, Option.bind_some, q277 hc1, rb_r]
      unfold r302_114 r302_131 r302_147
      have hst1 : stg1 c ≤ 3 := by unfold stg1; repeat' (first | omega | split)
      by_cases g0 : stg1 c = 0
      · rw [if_pos (by rw [g0]; rfl), q277 hc1, rb_r, if_pos (by rw [g0]; rfl)]
        have n126 : c ≠ 126 := fun e => by rw [e] at g0; cases g0
        have nO : ¬ isO c := fun e => by rcases e with e | e | e | e <;> rw [e] at g0 <;> cases g0
        rw [dpt, ← hcc, if_neg n126, if_neg nO] at hd
        exact lay 1 (1 :: st) (by omega) (by omega) (by unfold wst; rw [← hcc, if_pos g0]) ⟨by omega, by omega, by rw [Nat.add_sub_cancel]; exact ng_l hW, by rw [Nat.add_sub_cancel]; exact WST_app st i W [1] (by omega) hst⟩ (fun x hx => by
          rcases List.mem_cons.mp hx with e | e
          · omega
          · exact hs20 x e) hd
      · rw [if_neg (show ¬ Int32.ofNat (stg1 c) = (0 : Int32) from fun e => g0 (i32_inj (b := 0) (by omega) (by omega) e))]
        have hcases : c = 126 ∨ isO c := by
          unfold stg1 at g0
          by_cases q1 : c = 43 ∨ c = 45
          · exact Or.inr (by omega)
          · by_cases q2 : c = 42 ∨ c = 47
            · exact Or.inr (by omega)
            · by_cases q3 : c = 126
              · exact Or.inl q3
              · rw [if_neg q1, if_neg q2, if_neg q3] at g0
                exact absurd rfl g0
        cases st with
        | nil =>
          exfalso
          rw [dpt, ← hcc] at hd
          rcases hcases with e | e
          · rw [if_pos e, if_pos (by decide)] at hd; cases hd
          · rw [if_neg (by omega), if_pos e, if_pos (by decide)] at hd; cases hd
        | cons w r =>
          obtain ⟨a1, a2, a3, a4⟩ := hst
          have hw20 := hs20 w List.mem_cons_self
          have ri : rd_I S 41 (Int32.ofNat i - 1) = some (Int32.ofNat w) := by
            rw [show Int32.ofNat i - (1 : Int32) = Int32.ofNat (i - 1) from i32_sub (b := 1) (by omega), rdI (n := 20) (by decide) (by omega) (by omega), h41 (i - 1) (by omega), a3]
          rw [ri, Option.bind_some, q277 hc1, rb_r, if_neg (show ¬ Int32.ofNat (stg1 c) = (0 : Int32) from fun e => g0 (i32_inj (b := 0) (by omega) (by omega) e))]
          by_cases q126 : c = 126
          · rw [if_pos (by rw [q126]; rfl), show (1 : Int32) + Int32.ofNat w + (0 : Int32) = Int32.ofNat (w + 1) by rw [Int32.add_zero, show (1 : Int32) + Int32.ofNat w = Int32.ofNat (1 + w) from i32_add 1 w, Nat.add_comm]]
            rw [dpt, ← hcc, if_pos q126, if_neg (by rw [List.length_cons]; omega)] at hd
            refine lay (w + 1) ((w + 1) :: r) (by omega) (by omega) (by unfold wst; rw [← hcc, if_neg g0, if_pos q126]) ⟨by omega, by omega, by rw [Nat.add_sub_cancel]; exact ng_l hW, by rw [show i + 1 - (w + 1) = i - w by omega]; exact WST_app r (i - w) W _ (by omega) a4⟩ (fun x hx => by
              rcases List.mem_cons.mp hx with e | e
              · omega
              · exact hs20 x (List.mem_cons_of_mem _ e)) hd
          · have hO : isO c := hcases.resolve_left q126
            rw [if_neg (show ¬ Int32.ofNat c = (126 : Int32) from fun e => q126 (i32_inj (b := 126) (by omega) (by omega) e))]
            rw [dpt, ← hcc, if_neg q126, if_pos hO] at hd
            cases r with
            | nil => rw [if_pos (by show 1 < 2; omega)] at hd; cases hd
            | cons w1 r =>
              obtain ⟨d1, d2, d3, d4⟩ := a4
              have hw120 := hs20 w1 (List.mem_cons_of_mem _ List.mem_cons_self)
              have ri2 : rd_I S 41 ((Int32.ofNat i - 1) - Int32.ofNat w) = some (Int32.ofNat w1) := by
                rw [show Int32.ofNat i - (1 : Int32) = Int32.ofNat (i - 1) from i32_sub (b := 1) (by omega), i32_sub (by omega), rdI (n := 20) (by decide) (by omega) (by omega), h41 (i - 1 - w) (by omega), show i - 1 - w = i - w - 1 by omega, d3]
              rw [ri2, Option.bind_some, show (1 : Int32) + Int32.ofNat w + Int32.ofNat w1 = Int32.ofNat (1 + w + w1) by rw [show (1 : Int32) + Int32.ofNat w = Int32.ofNat (1 + w) from i32_add 1 w, i32_add]]
              rw [if_neg (by show ¬ (w :: w1 :: r).length < 2; rw [List.length_cons, List.length_cons]; omega)] at hd
              refine lay (1 + w + w1) ((1 + w + w1) :: r) (by omega) (by omega) (by unfold wst; rw [← hcc, if_neg g0, if_neg q126]) ⟨by omega, by omega, by rw [Nat.add_sub_cancel]; exact ng_l hW, by rw [show i + 1 - (1 + w + w1) = i - w - w1 by omega]; exact WST_app r (i - w - w1) W _ (by omega) d4⟩ (fun x hx => by
                rcases List.mem_cons.mp hx with e | e
                · omega
                · exact hs20 x (List.mem_cons_of_mem _ (List.mem_cons_of_mem _ e))) hd
end PRT
