/-! CALLS that change nothing: known, waiting, lines, line; the reference's own -/
def CW (M : aM) (A : ah) (D : aD) (G : Nat → fo) : Prop := Cb A ∧ Cd M A D ∧ (∀ o, o < 3 → Cf M A o (G o)) ∧ 178 ≤ A.2.1
def told (l : Nat) : Nat := 100 * (l / 40) + (l % 40 + 1)
/-- how many of n from j on wait -/
def cwt (F : fo) : Nat → Nat → Nat
  | 0, _ => 0
  | n + 1, j => (if wtB F j = true then 1 else 0) + cwt F n (j + 1)
theorem cwt_le (F : fo) : ∀ n j, cwt F n j ≤ n
  | 0, _ => Nat.le_refl _
  | n + 1, j => by
    rw [cwt]
    have := cwt_le F n (j + 1)
    split <;> omega
section CAL
variable {A : ah} {h : pm_H} {M : aM} {D : aD} {G : Nat → fo} {F : fo} {S : rs_S} {o i j l k m n : Nat} {r : rc} {a1 a2 a3 a : Int32}
theorem c175 (R : ar A h) (C : CW M A D G) (hK : ∀ o, o < 3 → ∀ m, fK (G o) m ≤ 40) : ll_175 (some 81) a1 a2 h = (la_ix a1 3).elim (tw h 14) (fun o => (la_ix a2 3).elim (tw h 14) (fun m => rtI (Int32.ofNat (fK (G o) m)) h)) := by
  obtain ⟨B, V, Cf', -⟩ := C
  unfold ll_175
  rw [if_pos (hc_lc (ar_c R B.1)), c81 R B]
  cases e1 : la_ix a1 3 with
  | none => exact tw_R
  | some o =>
    obtain ⟨-, ho⟩ := ix_s (by omega) e1
    show (lf_R h (some (94 + 17 * o)) [4, 1]).bind _ = _
    rw [hc_R (o := some (94 + 17 * o + 1)) (ar_c R (Cf' o ho).1) rfl, Option.bind_some, if_pos (hc_lc (ar_c R B.1)), c81 R B]
    cases e2 : la_ix a2 3 with
    | none => exact tw_R
    | some m =>
      obtain ⟨-, hm⟩ := ix_s (by omega) e2
      show (lf_I h (some (94 + 17 * m)) [4, 0]).bind _ = _
      rw [hc_I (ar_c R (Cf' m hm).1) rfl, Option.bind_some, hc_ldI (ar_c R (Cf' o ho).2.1) rfl (by omega) (ra_get hm)]
      rfl
theorem c181 (R : ar A h) (C : CW M A D G) : ll_181 (some 81) a1 a2 h = (la_ix a1 3).elim (tw h 14) (fun o => (la_ix a2 2).elim (tw h 14) (fun k => rtI (Int32.ofNat (xS (fX (G o) k)).length) h)) := by
  obtain ⟨B, V, Cf', -⟩ := C
  unfold ll_181
  rw [if_pos (hc_lc (ar_c R B.1)), c81 R B]
  cases e1 : la_ix a1 3 with
  | none => exact tw_R
  | some o =>
    obtain ⟨-, ho⟩ := ix_s (by omega) e1
    show lb_R (ll_82 (some (94 + 17 * o)) a2 h) _ = _
    rw [c82 R (Cf' o ho)]
    cases e2 : la_ix a2 2 with
    | none => exact tw_R
    | some k =>
      obtain ⟨-, hk⟩ := ix_s (by omega) e2
      have Cc := (Cf' o ho).2.2.2.2.2 k hk
      show (if lc_of h (some (94 + 17 * o + 5 + 6 * k)) = some 5 then _ else _) = _
      rw [if_pos (hc_lc (ar_c R Cc.1)), c85 R Cc]
      rfl
theorem c183 (R : ar A h) (C : CW M A D G) (W : Wd D) (hW : ∀ o, o < 3 → Wf D o (G o)) : ll_183 (some 81) a1 a2 a3 h = (la_ix a1 3).elim (tw h 14) (fun o => (la_ix a2 2).elim (tw h 14) (fun k => (la_ix a3 (xS (fX (G o) k)).length).elim (tw h 16) (fun j => rtI (Int32.ofNat (told ((xS (fX (G o) k)).getD j 0))) h))) := by
  obtain ⟨B, V, Cf', -⟩ := C
  unfold ll_183
  rw [if_pos (hc_lc (ar_c R B.1)), c81 R B]
  cases e1 : la_ix a1 3 with
  | none => exact tw_R
  | some o =>
    obtain ⟨-, ho⟩ := ix_s (by omega) e1
    show lb_R (ll_82 (some (94 + 17 * o)) a2 h) _ = _
    rw [c82 R (Cf' o ho)]
    cases e2 : la_ix a2 2 with
    | none => exact tw_R
    | some k =>
      obtain ⟨-, hk⟩ := ix_s (by omega) e2
      have Cc := (Cf' o ho).2.2.2.2.2 k hk
      have Wc := (hW o ho).2.2.2.2.2.2 k hk
      show lb_R (ll_84 (some (94 + 17 * o + 5 + 6 * k)) a3 h) _ = _
      rw [c84 R Cc V Wc]
      show _ = (la_ix a3 (xS (fX (G o) k)).length).elim (tw h 16) (fun j => rtI (Int32.ofNat (told ((xS (fX (G o) k)).getD j 0))) h)
      cases e3 : la_ix a3 (xS (fX (G o) k)).length with
      | none => exact tw_R
      | some j =>
        have hj := (ix_s (by have := Wc.2.2.2.2.2; omega) e3).2
        obtain ⟨r, -, -, hr⟩ := LN_c V (Wc.2.1 _ (gl_mem hj))
        show (lf_I h (some (M 1 ((xS (fX (G o) k)).getD j 0))) [6, 1]).bind _ = _
        rw [hc_I (ar_c R hr) rfl]
        rfl
theorem c179 (R : ar A h) (C : Cf M A o F) (V : Cd M A D) (W : Wd D) (Wff : Wf D o F) (hi : D i = some r) : ll_179 (some (94 + 17 * o)) (some (M 0 i)) h = rtI (if tkB F i = true then 1 else 0) h := by
  have w1 := W i r hi
  have hA := ar_c R (V.1 i r hi).1
  have hK := Wff.2.1 (i / 40)
  unfold ll_179 tkB
  rw [hc_I hA rfl, Option.bind_some, hc_R (o := some (94 + 17 * o + 1)) (ar_c R C.1) rfl, Option.bind_some, hc_I hA rfl, Option.bind_some, hc_ldI (ar_c R C.2.1) rfl (by omega) (ra_get (by omega)), Option.bind_some]
  by_cases z : i % 40 < fK F (i / 40)
  · rw [if_neg (fun e => by have := (i32_ltn (by omega) (by omega)).mp e; omega), if_pos (decide_eq_true z)]
  · rw [if_pos ((i32_ltn (by omega) (by omega)).mpr (by omega)), if_neg (by simpa using z)]
theorem c178l (R : ar A h) (C : Cf M A o F) (V : Cd M A D) (W : Wd D) (Wff : Wf D o F) : ∀ n m j c, j + n = 120 → n < m → c ≤ j → l178_4 m (some (94 + 17 * o)) (Int32.ofNat c) (Int32.ofNat j) h = rtI (Int32.ofNat (c + cwt F n j)) h := by
  intro n
  induction n with
  | zero =>
    intro m j c h1 h2 h3
    have e : j = 120 := by omega
    subst e
    cases m with
    | zero => omega
    | succ m =>
      rw [l178_4]
      dsimp only
      rw [if_pos (by decide)]
      rfl
  | succ n ih =>
    intro m j c h1 h2 h3
    cases m with
    | zero => omega
    | succ m =>
      have n4 : Int32.ofNat j + (1 : Int32) = Int32.ofNat (j + 1) := i32_add j 1
      have n5 : Int32.ofNat c + (1 : Int32) = Int32.ofNat (c + 1) := i32_add c 1
      obtain ⟨f1, f2⟩ := act_ld R C (i := j) (by omega)
      rw [l178_4]
      dsimp only
      rw [if_neg (show ¬ (120 : Int32) ≤ Int32.ofNat j from fun z => by have := (i32_len (a := 120) (by omega) (by omega)).mp z; omega), f1, Option.bind_some, f2, Option.bind_some, cwt]
      unfold wtB
      by_cases z : fA F j = true
      · obtain ⟨r, hr⟩ := Wff.2.2.1 j z
        rw [if_pos z, z]
        dsimp only
        rw [Option.bind_some, f2, if_pos z, Option.bind_some, if_pos (hc_lc (ar_c R C.1)), c179 R C V W Wff hr, rt_I]
        unfold l178_35
        by_cases t : tkB F j = true
        · rw [if_pos t, if_neg (by decide), t, n4, ih m (j + 1) c (by omega) (by omega) (by omega), if_neg (by decide), Nat.zero_add]
        · have t' : tkB F j = false := by simpa using t
          rw [if_neg t, if_pos rfl, t', n4, n5, ih m (j + 1) (c + 1) (by omega) (by omega) (by omega), if_pos (by decide), show c + 1 + cwt F n (j + 1) = c + (1 + cwt F n (j + 1)) by omega]
      · have z' : fA F j = false := by simpa using z
        rw [if_neg z, z']
        dsimp only
        unfold l178_35
        rw [n4, ih m (j + 1) c (by omega) (by omega) (by omega), Bool.false_and, if_neg (by decide), Nat.zero_add]
theorem c177 (R : ar A h) (C : CW M A D G) (W : Wd D) (hW : ∀ o, o < 3 → Wf D o (G o)) : ll_177 (some 81) a1 h = (la_ix a1 3).elim (tw h 14) (fun o => rtI (Int32.ofNat (cwt (G o) 120 0)) h) := by
  obtain ⟨B, V, Cf', -⟩ := C
  unfold ll_177
  rw [if_pos (hc_lc (ar_c R B.1)), c81 R B]
  cases e1 : la_ix a1 3 with
  | none => exact tw_R
  | some o =>
    obtain ⟨-, ho⟩ := ix_s (by omega) e1
    have e := c178l R (Cf' o ho) V W (hW o ho) 120 lf_N 0 0 rfl (by unfold lf_N; omega) (Nat.le_refl _)
    rw [Nat.zero_add] at e
    have e' : ll_178 (some (94 + 17 * o)) h = rtI (Int32.ofNat (cwt (G o) 120 0)) h := e
    show (if lc_of h (some (94 + 17 * o)) = some 4 then _ else _) = _
    rw [if_pos (hc_lc (ar_c R (Cf' o ho).1)), e']
    rfl
/-! the reference -/
theorem q238 : rf_238 a S = some ((if (la_ix a 2).isSome = true then 1 else 0), S) := by
  unfold rf_238
  cases e : la_ix a 2 with
  | none =>
    rw [if_neg (fun q => by rw [q] at e; cases e), if_neg (fun q => by rw [q] at e; cases e)]
    rfl
  | some k =>
    obtain ⟨rfl, hk⟩ := ix_s (by omega) e
    have h' : k = 0 ∨ k = 1 := by omega
    rcases h' with e | e <;> subst e <;> rfl
theorem q239 (ho : o < 3) (hk : k < 2) {L : List Nat} (hS : SH o k L S) (hL : L.length ≤ 120) : rf_239 (Int32.ofNat o) (Int32.ofNat k) a S = some ((if (la_ix a L.length).isSome = true then 1 else 0), S) := by
  have i1 : ((2 : Int32) * Int32.ofNat o) + Int32.ofNat k = Int32.ofNat (2 * o + k) := by
    rw [show (2 : Int32) * Int32.ofNat o = Int32.ofNat (2 * o) from i32_ml 2 o, i32_add]
  unfold rf_239
  rw [i1, rdI (n := 6) (by decide) (by omega) (by omega), Option.bind_some, hS.1]
  cases e : la_ix a L.length with
  | none =>
    by_cases q : a < 0
    · rw [if_pos q]; rfl
    · have h := ix_n (by omega) e q
      rw [if_neg q, if_pos (show Int32.ofNat L.length ≤ a from Int32.not_lt.mp h)]; rfl
  | some j =>
    obtain ⟨rfl, hj⟩ := ix_s (by omega) e
    rw [if_neg (i32_lt j (by omega)), if_neg (fun z => by have := (i32_len (by omega) (by omega)).mp z; omega)]
    rfl
theorem q242 (ho : o < 3) (hk : k < 2) {L : List Nat} (hS : SH o k L S) (hL : L.length ≤ 120) (hj : j < L.length) : rf_242 (Int32.ofNat o) (Int32.ofNat k) (Int32.ofNat j) S = some (Int32.ofNat (L.getD j 0), S) := by
  have i2 : (((240 : Int32) * Int32.ofNat o) + ((120 : Int32) * Int32.ofNat k)) + Int32.ofNat j = Int32.ofNat (240 * o + 120 * k + j) := by
    rw [show (240 : Int32) * Int32.ofNat o = Int32.ofNat (240 * o) from i32_ml 240 o, show (120 : Int32) * Int32.ofNat k = Int32.ofNat (120 * k) from i32_ml 120 k, i32_add, i32_add]
  unfold rf_242
  rw [i2, rdI (n := 720) (by decide) (by omega) (by omega), Option.bind_some, hS.2 j hj]
theorem q258 (R : ∀ o, o < 3 → RK o (G o) S) : rf_258 a1 a2 S = (la_ix a1 3).elim (some (0, rs_setI S 0 1)) (fun o => (la_ix a2 3).elim (some (0, rs_setI S 0 1)) (fun m => some (Int32.ofNat (fK (G o) m), rs_setI S 0 0))) := by
  unfold rf_258
  rw [q237]
  cases e1 : la_ix a1 3 with
  | none => rfl
  | some o =>
    obtain ⟨rfl, ho⟩ := ix_s (by omega) e1
    try rw [rb_r]
    show rb (rf_237 a2 S) _ = _
    rw [q237]
    cases e2 : la_ix a2 3 with
    | none => rfl
    | some m =>
      obtain ⟨rfl, hm⟩ := ix_s (by omega) e2
      have ix : ((3 : Int32) * Int32.ofNat o) + Int32.ofNat m = Int32.ofNat (3 * o + m) := by
        rw [show (3 : Int32) * Int32.ofNat o = Int32.ofNat (3 * o) from i32_ml 3 o, i32_add]
      try rw [rb_r]
      show r258_20 (Int32.ofNat o) (Int32.ofNat m) 0 S = _
      unfold r258_20
      rw [rbS_r, set0]
      rw [if_pos (by decide), ix, rdI (n := 9) (by decide) (by omega) (by omega), Option.bind_some]
      show some (S.2.1 16 (3 * o + m), _) = _
      rw [R o ho m hm]
      rfl
theorem q260 (R : ∀ o, o < 3 → ∀ k, k < 2 → SH o k (xS (fX (G o) k)) S) : rf_260 a1 a2 S = (la_ix a1 3).elim (some (0, rs_setI S 0 1)) (fun o => (la_ix a2 2).elim (some (0, rs_setI S 0 1)) (fun k => some (Int32.ofNat (xS (fX (G o) k)).length, rs_setI S 0 0))) := by
  unfold rf_260
  rw [q237]
  cases e1 : la_ix a1 3 with
  | none => rfl
  | some o =>
    obtain ⟨rfl, ho⟩ := ix_s (by omega) e1
    try rw [rb_r]
    show rb (rf_238 a2 S) _ = _
    rw [q238]
    cases e2 : la_ix a2 2 with
    | none => rfl
    | some k =>
      obtain ⟨rfl, hk⟩ := ix_s (by omega) e2
      have i1 : ((2 : Int32) * Int32.ofNat o) + Int32.ofNat k = Int32.ofNat (2 * o + k) := by
        rw [show (2 : Int32) * Int32.ofNat o = Int32.ofNat (2 * o) from i32_ml 2 o, i32_add]
      try rw [rb_r]
      show r260_20 (Int32.ofNat o) (Int32.ofNat k) 0 S = _
      unfold r260_20
      rw [rbS_r, set0]
      rw [if_pos (by decide), i1, rdI (n := 6) (by decide) (by omega) (by omega), Option.bind_some]
      show some (S.2.1 20 (2 * o + k), _) = _
      rw [(R o ho k hk).1]
      rfl
theorem q261 (R : ∀ o, o < 3 → ∀ k, k < 2 → SH o k (xS (fX (G o) k)) S) (hW : ∀ o, o < 3 → Wf D o (G o)) (W : Wd D) : rf_261 a1 a2 a3 S = (la_ix a1 3).elim (some (0, rs_setI S 0 1)) (fun o => (la_ix a2 2).elim (some (0, rs_setI S 0 1)) (fun k => (la_ix a3 (xS (fX (G o) k)).length).elim (some (0, rs_setI S 0 2)) (fun j => some (Int32.ofNat (told ((xS (fX (G o) k)).getD j 0)), rs_setI S 0 0)))) := by
  unfold rf_261
  rw [q237]
  cases e1 : la_ix a1 3 with
  | none => rfl
  | some o =>
    obtain ⟨rfl, ho⟩ := ix_s (by omega) e1
    try rw [rb_r]
    show rb (rf_238 a2 S) _ = _
    rw [q238]
    cases e2 : la_ix a2 2 with
    | none => rfl
    | some k =>
      obtain ⟨rfl, hk⟩ := ix_s (by omega) e2
      have Wc := (hW o ho).2.2.2.2.2.2 k hk
      try rw [rb_r]
      show rb (rf_239 (Int32.ofNat o) (Int32.ofNat k) a3 S) _ = _
      rw [q239 ho hk (R o ho k hk) Wc.2.2.2.2.2]
      show _ = (la_ix a3 (xS (fX (G o) k)).length).elim (some (0, rs_setI S 0 2)) (fun j => some (Int32.ofNat (told ((xS (fX (G o) k)).getD j 0)), rs_setI S 0 0))
      cases e3 : la_ix a3 (xS (fX (G o) k)).length with
      | none => rfl
      | some j =>
        obtain ⟨rfl, hj⟩ := ix_s (by have := Wc.2.2.2.2.2; omega) e3
        have hl := LN_lt W (Wc.2.1 _ (gl_mem hj))
        obtain ⟨d1, d2⟩ := i32_d40 (i := (xS (fX (G o) k)).getD j 0) (by omega)
        try rw [rb_r]
        show r261_34 (Int32.ofNat o) (Int32.ofNat k) (Int32.ofNat j) 0 S = _
        unfold r261_34
        rw [rbS_r, set0]
        have hS' : SH o k (xS (fX (G o) k)) (rs_setI S 0 0) := R o ho k hk
        rw [if_pos (by decide), q242 ho hk hS' Wc.2.2.2.2.2 hj]
        show some (((100 : Int32) * (Int32.ofNat ((xS (fX (G o) k)).getD j 0) / (40 : Int32)) + (Int32.ofNat ((xS (fX (G o) k)).getD j 0) - Int32.ofNat ((xS (fX (G o) k)).getD j 0) / (40 : Int32) * (40 : Int32))) + (1 : Int32), rs_setI S 0 0) = _
        rw [d2, d1, show (100 : Int32) * Int32.ofNat ((xS (fX (G o) k)).getD j 0 / 40) = Int32.ofNat (100 * ((xS (fX (G o) k)).getD j 0 / 40)) from i32_ml 100 _, i32_add]
        unfold told
        rw [Option.elim_some, ← Nat.add_assoc]
        exact congrArg (fun v => some (v, rs_setI S 0 0)) (i32_add _ 1)
theorem q259l (R : ∀ i, i < 120 → S.2.1 18 (120 * o + i) = if wtB F i = true then 1 else 0) (ho : o < 3) (h0 : S.1 0 = 0) : ∀ n m j c, j + n = 120 → n < m → r259_20 m (Int32.ofNat o) (Int32.ofNat c) (Int32.ofNat j) S = some (Int32.ofNat (c + cwt F n j), S) := by
  intro n
  induction n with
  | zero =>
    intro m j c h1 h2
    have e : j = 120 := by omega
    subst e
    cases m with
    | zero => omega
    | succ m =>
      rw [r259_20]
      dsimp only
      rw [if_pos (by decide)]
      rfl
  | succ n ih =>
    intro m j c h1 h2
    cases m with
    | zero => omega
    | succ m =>
      have n4 : Int32.ofNat j + (1 : Int32) = Int32.ofNat (j + 1) := i32_add j 1
      have n5 : Int32.ofNat c + (1 : Int32) = Int32.ofNat (c + 1) := i32_add c 1
      have iw : ((120 : Int32) * Int32.ofNat o) + Int32.ofNat j = Int32.ofNat (120 * o + j) := by
        rw [show (120 : Int32) * Int32.ofNat o = Int32.ofNat (120 * o) from i32_ml 120 o, i32_add]
      rw [r259_20]
      dsimp only
      rw [if_neg (show ¬ (120 : Int32) ≤ Int32.ofNat j from fun z => by have := (i32_len (a := 120) (by omega) (by omega)).mp z; omega), if_pos h0, iw, rdI (n := 360) (by decide) (by omega) (by omega), Option.bind_some, R j (by omega), cwt]
      unfold r259_54
      by_cases z : wtB F j = true
      · rw [if_pos z, if_neg (by decide), if_pos z, n4, n5, ih m (j + 1) (c + 1) (by omega) (by omega), show c + 1 + cwt F n (j + 1) = c + (1 + cwt F n (j + 1)) by omega]
      · rw [if_neg z, if_pos rfl, if_neg z, n4, ih m (j + 1) c (by omega) (by omega), Nat.zero_add]
theorem q259 (R : ∀ o, o < 3 → ∀ i, i < 120 → S.2.1 18 (120 * o + i) = if wtB (G o) i = true then 1 else 0) : rf_259 a1 S = (la_ix a1 3).elim (some (0, rs_setI S 0 1)) (fun o => some (Int32.ofNat (cwt (G o) 120 0), rs_setI S 0 0)) := by
  unfold rf_259
  rw [q237]
  cases e1 : la_ix a1 3 with
  | none => rfl
  | some o =>
    obtain ⟨rfl, ho⟩ := ix_s (by omega) e1
    have e := q259l (S := rs_setI S 0 0) (R o ho) ho rfl 120 lf_N 0 0 rfl (by unfold lf_N; omega)
    rw [Nat.zero_add] at e
    exact e
end CAL
