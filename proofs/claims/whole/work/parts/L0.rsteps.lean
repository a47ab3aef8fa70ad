/-! THE REFERENCE: its steps, by the token at hand -/
def HB (T : List Nat) (k o id : Nat) (S0 : rs_S) (Lr Lc : List Nat) : Prop := TK T k ∧ TX0 T S0 ∧ SHL o Lr Lc S0
section STP
variable {S S0 S' S2 : rs_S} {T Lr Lc : List Nat} {k t p j n m x b d q N e o id B B' c s kt : Nat} {Q pd : List Nat} {ts : List (Nat × Int32)} {v arg : Int32}
theorem i32_ng {n : Nat} (hn : n < 2 ^ 31) (h : v.toInt < 0) : Int32.ofNat n ≠ v := by
  intro e
  have h1 := congrArg Int32.toInt e
  rw [Int32.toInt_ofNat_of_lt hn] at h1
  omega
theorem cd_ch (K : TK T k) (hx : 0 < x) (hx2 : x < 200) (h1 : nmB x = false) (h2 : cpB x = false) (hv : v = Int32.ofNat x) : cdT T Lr Lc p = v ↔ chT T p = x := by
  subst hv
  have hb := chT_b (p := p) K.2.1
  unfold cdT
  constructor
  · intro e
    split at e
    · exact absurd e.symm (i32_ng (by omega) (by decide))
    · split at e
      · split at e
        · exact absurd e.symm (i32_ng (by omega) (by decide))
        · exact absurd e.symm (i32_ng (by omega) (by decide))
      · split at e
        · split at e
          · exact absurd e.symm (i32_ng (by omega) (by decide))
          · exact absurd e.symm (i32_ng (by omega) (by decide))
        · exact i32_inj (by omega) (by omega) e
  · intro e
    rw [if_neg (fun z => by rw [chT_n z] at e; omega), e, h1, if_neg Bool.false_ne_true, h2, if_neg Bool.false_ne_true]
theorem nmv_n {u : Nat} (h : nmv T p = some u) : nmB (chT T p) = true := by
  unfold nmv at h
  split at h
  · next z => exact z.1
  · cases h
theorem rfv_c {u : Nat × Nat} (h : rfv T Lr Lc p = some u) : cpB (chT T p) = true := by
  unfold rfv at h
  split at h
  · next z => exact z.1
  · cases h
theorem cd_m2 (K : TK T k) : cdT T Lr Lc p = -2 ↔ (nmv T p).isSome = true := by
  have hb := chT_b (p := p) K.2.1
  constructor
  · intro e
    unfold cdT at e
    split at e
    · cases e
    · split at e
      · split at e
        · next z => exact z
        · cases e
      · split at e
        · split at e
          · cases e
          · cases e
        · exact absurd e (i32_ng (by omega) (by decide))
  · intro e
    obtain ⟨u, hu⟩ := Option.isSome_iff_exists.mp e
    have hn := nmv_n hu
    have := nmb_e hn
    unfold cdT
    rw [if_neg (by omega), if_pos hn, if_pos e]
theorem cd_m3 (K : TK T k) : cdT T Lr Lc p = -3 ↔ (rfv T Lr Lc p).isSome = true := by
  have hb := chT_b (p := p) K.2.1
  constructor
  · intro e
    unfold cdT at e
    split at e
    · cases e
    · split at e
      · split at e
        · cases e
        · cases e
      · split at e
        · split at e
          · next z => exact z
          · cases e
        · exact absurd e (i32_ng (by omega) (by decide))
  · intro e
    obtain ⟨u, hu⟩ := Option.isSome_iff_exists.mp e
    have hn := rfv_c hu
    have := cp_e hn
    unfold cdT
    rw [if_neg (by omega), cp_nm hn, if_neg Bool.false_ne_true, if_pos hn, if_pos e]
theorem cd_m1 (K : TK T k) : cdT T Lr Lc p = -1 ↔ T.length ≤ p := by
  have hb := chT_b (p := p) K.2.1
  constructor
  · intro e
    unfold cdT at e
    split at e
    · next z => exact z
    · split at e
      · split at e
        · cases e
        · cases e
      · split at e
        · split at e
          · cases e
          · cases e
        · exact absurd e (i32_ng (by omega) (by decide))
  · intro e
    unfold cdT
    rw [if_pos e]
/-- the next token, the rest as it was -/
theorem q266p (H : HB T k o id S0 Lr Lc) (L : LXT T Lr Lc (po T t) S) (hr : Rk id S0 S) : ∃ S', rf_266 (Int32.ofNat o) S = some ((), S') ∧ LXT T Lr Lc (po T (t + 1)) S' ∧ Rl S S' := by
  obtain ⟨S', g1, g2, g3⟩ := q266 (TX0_k hr H.2.1) H.1 (SHL_k hr H.2.2) L.2.1 (po_b (T := T) (t + 1))
  exact ⟨S', g1, g3, g2⟩
theorem HB_b (H : HB T k o id S0 Lr Lc) : ∀ j, po T j ≤ 20 := fun j => Nat.le_trans (po_b j) H.1.1
theorem po_1 (H : HB T k o id S0 Lr Lc) (ht : t < k) : po T t + 1 ≤ po T (t + 1) := te_lt (H.1.2.2.2.2 t ht)
/-- an operator behind an operand -/
theorem q278o (H : HB T k o id S0 Lr Lc) (ht : t < k) (L : LXT T Lr Lc (po T t) S) (P : PB id S0 (po T t) (pd ++ Q) ts S) (hc : chT T (po T t) = c) (hs : sgh c = s) (hs1 : s = 1 ∨ s = 2) (hp : ∀ x ∈ pd, s ≤ sgh x) (hQ : Q = [] ∨ sgh (Q.getD 0 0) < s) : ∃ S', rf_278 (Int32.ofNat o) (Int32.ofNat id) S = some (0, S') ∧ LXT T Lr Lc (po T (t + 1)) S' ∧ PB id S0 (po T (t + 1)) (c :: Q) (ts ++ pd.map (fun c => (c, 0))) S' := by
  have hb := HB_b H
  have h1 := po_1 H ht
  have hc4 : c = 43 ∨ c = 45 ∨ c = 42 ∨ c = 47 := by
    unfold sgh at hs
    by_cases z1 : c = 43
    · omega
    · by_cases z2 : c = 45
      · omega
      · by_cases z3 : c = 42
        · omega
        · by_cases z4 : c = 47
          · omega
          · rw [if_neg z1, if_neg z2, if_neg z3, if_neg z4] at hs
            split at hs <;> omega
  have hcd : S.1 25 = Int32.ofNat c := by
    rw [L.2.2.1]
    refine (cd_ch H.1 (by omega) (by omega) ?_ ?_ rfl).mpr hc
    · rcases hc4 with z | z | z | z <;> subst z <;> rfl
    · rcases hc4 with z | z | z | z <;> subst z <;> rfl
  obtain ⟨S1, a1, a2, a3⟩ := q276 P (show s ≤ 3 by omega) (by omega) (rfl : Int32.ofNat s = Int32.ofNat s) hQ hp
  have L1 := LXT_1 (fun a ha => a3 a (by omega)) L
  obtain ⟨S2, b1, b2, b3, b4⟩ := q273 (c := c) a2 (by omega) rfl (by have := hb (t + 1); omega)
  have hne : c ≠ 40 := by omega
  have P2 := PB_w (B' := po T (t + 1)) (by omega) (hb _) (b2 (S2.1 30) (by
    rw [b3 30 (by omega), a2.2.2.1, List.count_cons, if_neg (by simpa using hne), Nat.add_zero]))
  have e2 : rs_setI S2 30 (S2.1 30) = S2 := by
    refine Prod.ext (funext fun j => ?_) rfl
    show (if j = 30 then S2.1 30 else S2.1 j) = S2.1 j
    split
    · next z => rw [z]
    · rfl
  rw [e2] at P2
  have L2 := LXT_1 (fun a ha => b3 a (by omega)) L1
  obtain ⟨S3, d1, d2, d3⟩ := q266p H L2 P2.1
  refine ⟨S3, ?_, d2, PB_l d3 P2⟩
  unfold rf_278
  rw [hcd, q277e (c := c) (by omega) rfl, rb_r, hs, if_neg (show ¬ Int32.ofNat s ≤ (0 : Int32) from fun z => by have := (i32_len (b := 0) (by omega) (by omega)).mp z; omega), if_neg (show ¬ Int32.ofNat c = (126 : Int32) from i32_ofne (b := 126) (by omega) (by omega) (by omega)), q277e (c := c) (by omega) rfl, rb_r, hs, a1, rb_r, b1, rb_r, d1, rb_r]
/-- neither operator nor the end of a bracket -/
theorem q278b (H : HB T k o id S0 Lr Lc) (L : LXT T Lr Lc (po T t) S) (h : chT T (po T t) ≠ 43 ∧ chT T (po T t) ≠ 45 ∧ chT T (po T t) ≠ 42 ∧ chT T (po T t) ≠ 47) (h41 : chT T (po T t) = 41 → S.1 30 = 0) (h0 : po T t < T.length ∨ S.1 30 ≠ 0 ∧ (0 : Int32) < S.1 30) : r271_12 (m + 2) (Int32.ofNat o) (Int32.ofNat id) 1 S = some (0, S) := by
  have hb := chT_b (p := po T t) H.1.2.1
  have end1 : ∀ n, r271_12 (n + 1) (Int32.ofNat o) (Int32.ofNat id) (-1) S = some (0, S) := by
    intro n
    rw [r271_12]
    dsimp only
    rw [if_pos (by decide)]
    unfold r271_51
    rw [if_pos (by decide)]
  rw [r271_12]
  dsimp only
  rw [if_neg (by decide), if_neg (by decide)]
  by_cases q : T.length ≤ po T t
  · have h30 := (h0.resolve_left (by omega)).2
    rw [if_pos (show S.1 25 = -1 by rw [L.2.2.1]; exact (cd_m1 H.1).mpr q)]
    unfold r271_51
    rw [if_neg (by decide), if_neg (fun z => by
      rw [Int32.lt_iff_toInt_lt] at h30
      rw [Int32.le_iff_toInt_le] at z
      omega)]
  · rw [if_neg (show ¬ S.1 25 = -1 by rw [L.2.2.1]; exact fun z => q ((cd_m1 H.1).mp z))]
    unfold r271_28
    rw [if_neg (by decide)]
    have hr : rf_278 (Int32.ofNat o) (Int32.ofNat id) S = some (-1, S) := by
      have h39 : r278_39 (Int32.ofNat o) (Int32.ofNat id) (S.1 25) S = some (-1, S) := by
        unfold r278_39
        by_cases z : S.1 25 = (41 : Int32)
        · have hc := (cd_ch (x := 41) H.1 (by omega) (by omega) rfl rfl rfl).mp (L.2.2.1.symm.trans z)
          rw [if_pos z, if_pos (h41 hc)]
        · rw [if_neg z]
      unfold rf_278
      by_cases hn : ∃ c, c < 200 ∧ S.1 25 = Int32.ofNat c
      · obtain ⟨c, c1, c2⟩ := hn
        rw [c2] at h39 ⊢
        rw [q277e (c := c) c1 rfl, rb_r]
        by_cases z : sgh c = 0
        · rw [z, if_pos (by decide)]
          exact h39
        · have hc126 : c = 126 := by
            have e : ∀ y, y < 200 → 0 < y → nmB y = false → cpB y = false → c = y → chT T (po T t) = y := by
              intro y y1 y0 y2 y3 y4
              refine (cd_ch (Lr := Lr) (Lc := Lc) H.1 y0 y1 y2 y3 rfl).mp ?_
              rw [← L.2.2.1, c2, y4]
            unfold sgh at z
            by_cases z1 : c = 43
            · exact absurd (e 43 (by omega) (by omega) rfl rfl z1) h.1
            · by_cases z2 : c = 45
              · exact absurd (e 45 (by omega) (by omega) rfl rfl z2) h.2.1
              · by_cases z3 : c = 42
                · exact absurd (e 42 (by omega) (by omega) rfl rfl z3) h.2.2.1
                · by_cases z4 : c = 47
                  · exact absurd (e 47 (by omega) (by omega) rfl rfl z4) h.2.2.2
                  · by_cases z5 : c = 126
                    · exact z5
                    · rw [if_neg z1, if_neg z2, if_neg z3, if_neg z4, if_neg z5] at z; omega
          subst hc126
          rw [if_neg (by decide), if_pos (show Int32.ofNat 126 = (126 : Int32) from rfl)]
          exact h39
      · have hcd := L.2.2.1
        have h4 : S.1 25 = -2 ∨ S.1 25 = -3 ∨ S.1 25 = -4 := by
          rw [hcd]
          have hn' : ¬ cdT T Lr Lc (po T t) = Int32.ofNat (chT T (po T t)) := fun z => hn ⟨chT T (po T t), by omega, hcd.trans z⟩
          unfold cdT at hn' ⊢
          rw [if_neg q] at hn' ⊢
          split
          · split
            · exact Or.inl rfl
            · exact Or.inr (Or.inr rfl)
          · next z1 =>
            rw [if_neg z1] at hn'
            split
            · split
              · exact Or.inr (Or.inl rfl)
              · exact Or.inr (Or.inr rfl)
            · next z2 => rw [if_neg z2] at hn'; exact absurd rfl hn'
        have h277 : rf_277 (S.1 25) S = some (0, S) := by
          rcases h4 with z | z | z <;> rw [z] <;> rfl
        rw [h277, rb_r, if_pos (by decide)]
        exact h39
    rw [hr, rb_r]
    unfold r271_47
    exact end1 m
end STP
