/-! THE REFERENCE'S put -/
section RP2
variable {D : aD} {G : Nat → fo} {F : fo} {S S' S8 : rs_S} {X : ax} {o i j l k m n c p : Nat} {r : rc} {a1 a2 a3 a : Int32} {q : Option Nat} {L : List Nat}
theorem q240 (R : RT D o F S) (Wff : Wf D o F) : rf_240 (Int32.ofNat o) S = some ((if fK F o < 40 then 0 else 1), S) := by
  have ho := R.1.1
  have hk := R.1.2.2.1 o ho
  have h40 := Wff.2.1 o
  rw [show 3 * o + o = 4 * o by omega] at hk
  unfold rf_240
  rw [show (4 : Int32) * Int32.ofNat o = Int32.ofNat (4 * o) from i32_ml 4 o, rdI (n := 9) (by decide) (by omega) (by omega), Option.bind_some, hk]
  by_cases z : fK F o < 40
  · rw [if_neg (show ¬ Int32.ofNat (fK F o) = (40 : Int32) from fun e => by have := i32_inj (b := 40) (by omega) (by omega) e; omega), if_pos z]
  · rw [if_pos (show Int32.ofNat (fK F o) = (40 : Int32) by rw [show fK F o = 40 by omega]; rfl), if_neg z]
theorem pq_n (Wc : Wx D X) (ho : o < 3) (hk : k < 2) (hS : SH o k (xS X) S) : (if a = (-1 : Int32) then some ((1 : Int32), S) else rf_239 (Int32.ofNat o) (Int32.ofNat k) a S) = some ((if (pq D X a).isSome = true then 1 else 0), S) := by
  unfold pq
  by_cases z : a = -1
  · rw [if_pos z, if_pos z]; rfl
  · rw [if_neg z, if_neg z, q239 ho hk hS Wc.2.2.2.2.2]
    cases la_ix a (xS X).length <;> rfl
theorem q236t (H : GW D G) (hR : ∀ m, m < 3 → RT D m (G m) S) (e : pdc D G a1 a2 a3 = .inl c) : rf_236 a1 a2 a3 S = some (0, rs_setI S 0 (Int32.ofNat c)) := by
  unfold pdc at e
  unfold rf_236
  rw [q237]
  cases e1 : la_ix a1 3 with
  | none =>
    rw [e1] at e
    cases e
    rfl
  | some o =>
    obtain ⟨h1, ho⟩ := ix_s (by omega) e1
    rw [e1] at e
    try rw [rb_r]
    show rb (rf_238 a2 S) _ = _
    rw [q238]
    cases e2 : la_ix a2 2 with
    | none =>
      simp only [Option.elim_some, e2, Option.elim_none] at e
      cases e
      rfl
    | some k =>
      obtain ⟨h2, hk⟩ := ix_s (by omega) e2
      have Wo := (H.2.2.2.2.2.2.2 o ho).1.1
      have Wc := Wo.2.2.2.2.2.2 k hk
      have hSH := (hR o ho).2.2.1 k hk
      simp only [Option.elim_some, e2] at e
      try rw [rb_r]
      show r236_19 a1 a2 a3 1 S = _
      unfold r236_19
      rw [if_neg (by decide), h1, h2]
      have h50 : (pq D (fX (G o) k) a3).isSome = true → r236_50 (Int32.ofNat o) (Int32.ofNat k) a3 S = some (0, rs_setI S 0 (Int32.ofNat c)) := by
        intro hs
        obtain ⟨q, hq⟩ := Option.isSome_iff_exists.mp hs
        simp only [hq, Option.elim_some] at e
        have i1 : ((2 : Int32) * Int32.ofNat o) + Int32.ofNat k = Int32.ofNat (2 * o + k) := by
          rw [show (2 : Int32) * Int32.ofNat o = Int32.ofNat (2 * o) from i32_ml 2 o, i32_add]
        unfold r236_50
        rw [q240 (hR o ho) Wo]
        by_cases z1 : fK (G o) o < 40
        · rw [if_pos z1]
          by_cases z2 : (xS (fX (G o) k)).length < (if k = 0 then 9 else 5)
          · rw [if_pos ⟨z1, z2⟩] at e; cases e
          · rw [if_neg (fun g => z2 g.2)] at e
            cases e
            have hle := Wc.2.2.2.2.2
            first | rw [rbS_r, set0] | rw [rb_r]
            rw [if_pos rfl, i1, rdI (n := 6) (by decide) (by omega) (by omega), Option.bind_some, hSH.1]
            have hk' : k = 0 ∨ k = 1 := by omega
            rcases hk' with g | g
            · subst g
              rw [if_pos (by decide)]
              unfold r236_78
              rw [if_neg (show ¬ Int32.ofNat (xS (fX (G o) 0)).length < (9 : Int32) from fun y => z2 ((i32_ltn (b := 9) (by omega) (by omega)).mp y))]
              rfl
            · subst g
              rw [if_neg (by decide)]
              unfold r236_78
              rw [if_neg (show ¬ Int32.ofNat (xS (fX (G o) 1)).length < (5 : Int32) from fun y => z2 ((i32_ltn (b := 5) (by omega) (by omega)).mp y))]
              rfl
        · rw [if_neg z1]
          rw [if_neg (fun g => z1 g.1)] at e
          cases e
          rfl
      have hpn := pq_n (a := a3) Wc ho hk hSH
      by_cases z : a3 = -1
      · rw [if_pos z]
        exact h50 (by unfold pq; rw [if_pos z]; rfl)
      · rw [if_neg z]
        rw [if_neg z] at hpn
        rw [hpn]
        cases g : pq D (fX (G o) k) a3 with
        | none =>
          simp only [g, Option.elim_none] at e
          cases e
          rfl
        | some q =>
          rw [g] at h50
          exact h50 rfl
theorem pq_tk (I : OI D F) (W : Wd D) (hk : k < 2) (e : pq D (fX F k) a = some q) : ∀ p, q = some p → p < 120 ∧ tkn F p ∧ PN D p ∧ lkd D (lnp D p) = k := by
  intro p hp
  subst hp
  unfold pq at e
  by_cases z : a = -1
  · rw [if_pos z] at e; cases e
  · rw [if_neg z] at e
    cases g : la_ix a (xS (fX F k)).length with
    | none => rw [g] at e; cases e
    | some j =>
      rw [g] at e
      have eq : plc D (fX F k) ((xS (fX F k)).getD j 0) = some p := Option.some.inj e
      have hj : j < (xS (fX F k)).length := la_ix_lt g
      obtain ⟨p', h1, h2, h3, h4, h5, h6, h7⟩ := shn I hk (gl_mem hj)
      rw [eq] at h3
      cases h3
      exact ⟨h4, h5, h6, by rw [h2]; exact h7⟩
theorem new_P (H : GW D G) (ho : o < 3) (hm : fK (G o) o < 40) (hi : i = 40 * o + fK (G o) o) (hk : k < 2) (e : pq D (fX (G o) k) a = some q) : New D (G o) o i (rP o (G o) i k q) := by
  obtain ⟨hD, hi2, e1, e2, hnt, hb⟩ := GW_rdy H ho hm hi
  have I := (H.2.2.2.2.2.2.2 o ho).1.2.1
  have hq := pq_tk I H.1 hk e
  have hii : up D i (some (rP o (G o) i k q)) i = some (rP o (G o) i k q) := up_e
  have el : lnp (up D i (some (rP o (G o) i k q))) i = i := by unfold lnp; rw [hii]; rfl
  have ek : lkd (up D i (some (rP o (G o) i k q))) i = k := by unfold lkd; rw [hii]; rfl
  refine ⟨rfl, rfl, fun l hl => ?_, fun l hl => (hq l hl).2.1, fun l hl => ?_, fun l hl => (by cases hl), fun l hl => (by cases hl), fun l hl => (by cases hl), fun y hy => ⟨by show 1 ≤ 2; omega, ?_⟩⟩
  · cases hl; exact Or.inl rfl
  · cases hl; exact Or.inl rfl
  · obtain ⟨g1, g2, g3, g4⟩ := hq y hy
    rw [el, ek, lnp_u (ne_D hD (PN_AN g3)), lkd_u (ne_D hD (LN_AN (lnp_LN H.1 g3).2))]
    exact g4
theorem RT_I (v : Int32) (z : Nat) (hR : RT D m F S) : RT D m F (rs_setI S z v) := hR
theorem Sb_I (v : Int32) (z : Nat) (h : Sb i (rs_setI S z v) S') : ∀ a j, ¬ (1 ≤ a ∧ a ≤ 11 ∧ a ≠ 4 ∧ j = i) → ¬ (a = 4 ∧ 3 * i ≤ j ∧ j < 3 * i + 3) → S'.2.1 a j = S.2.1 a j := h.2.2
theorem q236s (H : GW D G) (hR : ∀ m, m < 3 → RT D m (G m) S) (e : pdc D G a1 a2 a3 = .inr (o, k, q)) (hi : i = 40 * o + fK (G o) o) (W' : Wd (up D i (some (rP o (G o) i k q)))) : ∃ S8 S', rf_236 a1 a2 a3 S = some (Int32.ofNat (told i), S') ∧ Sb i (rs_setI S 0 0) S8 ∧ S8.2.1 10 i = -1 ∧ S8.2.1 11 i = -1 ∧ Sk o S8 S' ∧ (∀ m, m < 3 → RT (up D i (some (rP o (G o) i k q))) m (up G o (tkF (up D i (some (rP o (G o) i k q))) (G o) i) m) S') ∧ GW (up D i (some (rP o (G o) i k q))) (up G o (tkF (up D i (some (rP o (G o) i k q))) (G o) i)) := by
  obtain ⟨h1, ho, h2, hk, h3, hm, hcnt⟩ := pdc_r e
  obtain ⟨hD, hi2, e1, e2, hnt, hb⟩ := GW_rdy H ho hm hi
  have H' := GW_mk H ho hm hi W' (new_P H ho hm hi hk h3)
  obtain ⟨⟨Wo, I, -⟩, -⟩ := H.2.2.2.2.2.2.2 o ho
  have Wc := Wo.2.2.2.2.2.2 k hk
  have hSH := (hR o ho).2.2.1 k hk
  have hR0 : ∀ m, m < 3 → RT D m (G m) (rs_setI S 0 0) := fun m hm => RT_I 0 0 (hR m hm)
  have f1 := q241 (hR0 o ho) H.1 H.2.1 I Wo hk h3
  obtain ⟨S6, g1, g2, v1, v2, v3, v5, v6, v7, v8, v9, v10, v11, v4⟩ := q246 (kd := 1) (kv := Int32.ofNat k) (ln := none) (hR0 o ho).1.2.2.1 ho hm (hR0 o ho).2.1 hi (fun l hl => by cases hl)
  have g8 : Sb i (rs_setI S 0 0) (rs_setA S6 8 i (oi q)) := Sb_tr g2 (Sb_set (by omega) (by omega) (by omega))
  have hii : up D i (some (rP o (G o) i k q)) i = some (rP o (G o) i k q) := up_e
  have el : lnp (up D i (some (rP o (G o) i k q))) i = i := by unfold lnp; rw [hii]; rfl
  have ek : lkd (up D i (some (rP o (G o) i k q))) i = k := by unfold lkd; rw [hii]; rfl
  have hRD : RD (up D i (some (rP o (G o) i k q))) (rs_setA S6 8 i (oi q)) := by
    refine RD_new H.1 (hR0 o ho).1.2.1 hD g8 (Or.inr ⟨?_, ?_, ?_, fun j hj => ?_, fun _ => ⟨?_, ?_⟩, fun z => ?_, fun _ => ?_, fun _ => ?_, fun z => ?_⟩)
    · rw [set_a (by omega)]; exact v1
    · rw [set_a (by omega), v3]
      show _ = Int32.ofNat (((fC (G o) + 1) * 3 + o) / 3)
      rw [show ((fC (G o) + 1) * 3 + o) / 3 = fC (G o) + 1 by omega]
    · show ((fC (G o) + 1) * 3 + o) % 3 = i / 40
      omega
    · rw [set_a (by omega)]; exact v4 j hj
    · rw [set_a (by omega), v5, el]; rfl
    · rw [set_a (by omega), v2, el, ek]
    · have z' : 1 = 6 := z; omega
    · rw [set_a (by omega)]; exact v7
    · rw [set_e]; rfl
    · rcases z with z | z
      · have z' : 1 = 2 := z; omega
      · have z' : 1 = 3 := z; omega
  obtain ⟨S', k1, k2, k3⟩ := RT_mk H ho hm hi H' hR0 g8 hRD
  refine ⟨rs_setA S6 8 i (oi q), S', ?_, g8, by rw [set_a (by omega)]; exact v10, by rw [set_a (by omega)]; exact v11, k3, k2, H'⟩
  obtain ⟨d1, d2⟩ := i32_d40 (i := i) (by omega)
  have h86 : r236_86 (Int32.ofNat o) (Int32.ofNat k) a3 (0 : Int32) S = some (Int32.ofNat (told i), S') := by
    unfold r236_86
    rw [rbS_r, set0]
    rw [if_pos (by decide), f1]
    try rw [rb_r]
    show rb (rf_246 (Int32.ofNat o) (Int32.ofNat 1) (Int32.ofNat k) (oi none) (rs_setI S 0 0)) _ = _
    rw [g1]
    try rw [rb_r]
    show (wr_I S6 8 (Int32.ofNat i) (oi q)).bind _ = _
    rw [wrI (n := 120) (by decide) hi2 (by omega), Option.bind_some, k1]
    show some ((((100 : Int32) * Int32.ofNat o) + (Int32.ofNat i - Int32.ofNat i / (40 : Int32) * (40 : Int32))) + (1 : Int32), S') = _
    rw [d2, show (100 : Int32) * Int32.ofNat o = Int32.ofNat (100 * o) from i32_ml 100 o, i32_add]
    unfold told
    rw [e1, ← Nat.add_assoc]
    exact congrArg (fun v => some (v, S')) (i32_add _ 1)
  have h50 : r236_50 (Int32.ofNat o) (Int32.ofNat k) a3 S = some (Int32.ofNat (told i), S') := by
    have i1 : ((2 : Int32) * Int32.ofNat o) + Int32.ofNat k = Int32.ofNat (2 * o + k) := by
      rw [show (2 : Int32) * Int32.ofNat o = Int32.ofNat (2 * o) from i32_ml 2 o, i32_add]
    have hle := Wc.2.2.2.2.2
    unfold r236_50
    rw [q240 (hR o ho) Wo, if_pos hm]
    first | rw [rbS_r, set0] | rw [rb_r]
    rw [if_pos rfl, i1, rdI (n := 6) (by decide) (by omega) (by omega), Option.bind_some, hSH.1]
    have hk' : k = 0 ∨ k = 1 := by omega
    rcases hk' with g | g
    · subst g
      rw [if_pos (by decide)]
      unfold r236_78
      rw [if_pos (show Int32.ofNat (xS (fX (G o) 0)).length < (9 : Int32) from (i32_ltn (b := 9) (by omega) (by omega)).mpr hcnt)]
      exact h86
    · subst g
      rw [if_neg (by decide)]
      unfold r236_78
      rw [if_pos (show Int32.ofNat (xS (fX (G o) 1)).length < (5 : Int32) from (i32_ltn (b := 5) (by omega) (by omega)).mpr hcnt)]
      exact h86
  have e1' : la_ix a1 3 = some o := by rw [h1]; exact la_ix_of ho (by omega)
  have e2' : la_ix a2 2 = some k := by rw [h2]; exact la_ix_of hk (by omega)
  unfold rf_236
  rw [q237, e1']
  try rw [rb_r]
  show rb (rf_238 a2 S) _ = _
  rw [q238, e2']
  try rw [rb_r]
  show r236_19 a1 a2 a3 1 S = _
  unfold r236_19
  rw [if_neg (by decide), h1, h2]
  have hpn := pq_n (a := a3) Wc ho hk hSH
  by_cases z : a3 = -1
  · rw [if_pos z]
    exact h50
  · rw [if_neg z]
    rw [if_neg z, h3] at hpn
    rw [hpn]
    exact h50
end RP2
