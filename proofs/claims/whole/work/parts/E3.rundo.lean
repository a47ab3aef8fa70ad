/-! DELIVER, UNDO: the reference -/
section RUN
variable {D : aD} {G : Nat → fo} {F : fo} {S S' S8 : rs_S} {X : ax} {o i j l k m n c p b : Nat} {r : rc} {a1 a2 a3 a4 a : Int32} {q : Option Nat} {L : List Nat}
theorem RT_Sr (h : Sr o S S') (hne : p ≠ o) (hp : p < 3) (hL : ∀ k, k < 2 → (xS (fX F k)).length ≤ 120) (R : RT D p F S) : RT D p F S' := by
  obtain ⟨⟨b1, b2, b3, b4, b5⟩, hT, hSH, hw⟩ := R
  obtain ⟨-, -, -, fs⟩ := h
  refine ⟨⟨b1, RD_n (fun n j h1 h2 h3 h4 h5 => fs n j (fun e => h1 e.1) (fun e => h2 e.1) (fun e => h3 e.1) (fun e => h5 e.1) (fun e => h4 e.1)) b2, fun j hj => ?_, b4, b5⟩, ?_, fun k hk => ⟨?_, fun j hj => ?_⟩, fun j hj => ?_⟩
  · rw [fs 16 _ (fun e => by have := e.2; omega) (fun e => by have := e.1; omega) (fun e => by have := e.1; omega) (fun e => by have := e.1; omega) (fun e => by have := e.1; omega)]
    exact b3 j hj
  · rw [fs 17 _ (fun e => by have := e.1; omega) (fun e => hne e.2) (fun e => by have := e.1; omega) (fun e => by have := e.1; omega) (fun e => by have := e.1; omega)]
    exact hT
  · rw [fs 20 _ (fun e => by have := e.1; omega) (fun e => by have := e.1; omega) (fun e => by have := e.1; omega) (fun e => by have := e.2; omega) (fun e => by have := e.1; omega)]
    exact (hSH k hk).1
  · have := hL k hk
    rw [fs 19 _ (fun e => by have := e.1; omega) (fun e => by have := e.1; omega) (fun e => by have := e.1; omega) (fun e => by have := e.1; omega) (fun e => by have := e.2; omega)]
    exact (hSH k hk).2 j hj
  · rw [fs 18 _ (fun e => by have := e.1; omega) (fun e => by have := e.1; omega) (fun e => by have := e.2; omega) (fun e => by have := e.1; omega) (fun e => by have := e.1; omega)]
    exact hw j hj
theorem q256t' (H : GW D G) (hR : ∀ m, m < 3 → RT D m (G m) S) (e : ddc G a1 a2 a3 = .inl c) : rf_256 a1 a2 a3 S = some (0, rs_setI S 0 1) := by
  unfold ddc at e
  unfold rf_256
  rw [q237]
  cases e1 : la_ix a1 3 with
  | none => rfl
  | some o =>
    obtain ⟨h1, ho⟩ := ix_s (by omega) e1
    rw [e1] at e
    try rw [rb_r]
    show rb (rf_237 a2 S) _ = _
    rw [q237]
    cases e2 : la_ix a2 3 with
    | none => rfl
    | some m =>
      obtain ⟨h2, hm⟩ := ix_s (by omega) e2
      simp only [Option.elim_some, e2] at e
      rw [rb_r, if_neg (show ¬ (if (some m).isSome = true then (1 : Int32) else 0) = 0 from (by decide : ¬ (1 : Int32) = 0))]
      by_cases z : o = m
      · rw [if_pos (by rw [h1, h2, z])]
        rfl
      · rw [if_neg z] at e
        rw [if_neg (fun y => z (by rw [h1, h2] at y; exact i32_inj (by omega) (by omega) y))]
        have h40 := (H.2.2.2.2.2.2.2 m hm).1.1.2.1 m
        have hx : la_ix a3 (fK (G m) m + 1) = none ∨ la_ix a3 (fK (G m) m + 1) = some 0 := by
          cases e3 : la_ix a3 (fK (G m) m + 1) with
          | none => exact Or.inl rfl
          | some n =>
            simp only [e3, Option.elim_some] at e
            by_cases z2 : n = 0
            · rw [z2]; exact Or.inr rfl
            · rw [if_neg z2] at e; cases e
        have hk := (hR m hm).1.2.2.1 m hm
        rw [show 3 * m + m = 4 * m by omega] at hk
        unfold r256_24
        rw [if_neg (by decide)]
        rcases a3_lt h40 hx with g | ⟨g1, g2⟩
        · rw [if_pos g]; rfl
        · rw [if_neg g1, h2, show (4 : Int32) * Int32.ofNat m = Int32.ofNat (4 * m) from i32_ml 4 m, rdI (n := 9) (by decide) (by omega) (by omega), Option.bind_some, hk, if_pos (show Int32.ofNat (fK (G m) m) < a3 from Int32.not_le.mp g2)]
          rfl
theorem q256s (H : GW D G) (hR : ∀ m, m < 3 → RT D m (G m) S) (e : ddc G a1 a2 a3 = .inr (o, m, n)) (hi : i = 40 * m + n - 1) : ∃ S', rf_256 a1 a2 a3 S = some (Int32.ofNat (rcv D (G o) i).1, S') ∧ (∀ p, p < 3 → RT D p (up G o (rcv D (G o) i).2 p) S') ∧ Sr o (rs_setI S 0 0) S' ∧ (fK (rcv D (G o) i).2 = fK (G o) ∨ S'.1 31 ≠ Int32.ofNat o) := by
  obtain ⟨e1, e2, hne, e3, hn0⟩ := ddc_r e
  obtain ⟨h1, ho⟩ := ix_s (by omega) e1
  obtain ⟨h2, hm⟩ := ix_s (by omega) e2
  have h40 := (H.2.2.2.2.2.2.2 m hm).1.1.2.1 m
  obtain ⟨h3, hn⟩ := ix_s (by omega) e3
  have hi2 : i < 120 := by omega
  obtain ⟨-, ⟨r, hr⟩, -⟩ := own_act H hm hi2 (by omega) (by omega)
  have hR0 : ∀ m, m < 3 → RT D m (G m) (rs_setI S 0 0) := fun m hm => RT_I 0 0 (hR m hm)
  have hno : i / 40 ≠ o := by omega
  obtain ⟨I, f0⟩ := H.2.2.2.2.2.2.2 o ho
  have hk := (hR m hm).1.2.2.1 m hm
  rw [show 3 * m + m = 4 * m by omega] at hk
  have hlen : ∀ p, p < 3 → ∀ k, k < 2 → (xS (fX (G p) k)).length ≤ 120 := fun p hp k hk => ((H.2.2.2.2.2.2.2 p hp).1.1.2.2.2.2.2.2 k hk).2.2.2.2.2
  have ii : (((40 : Int32) * Int32.ofNat m) + Int32.ofNat n) - (1 : Int32) = Int32.ofNat i := by
    rw [show (40 : Int32) * Int32.ofNat m = Int32.ofNat (40 * m) from i32_ml 40 m, i32_add, hi]
    exact i32_sub (b := 1) (by omega)
  have iw : ((120 : Int32) * Int32.ofNat o) + Int32.ofNat i = Int32.ofNat (120 * o + i) := by
    rw [show (120 : Int32) * Int32.ofNat o = Int32.ofNat (120 * o) from i32_ml 120 o, i32_add]
  have hpre : rf_256 a1 a2 a3 S = r256_54 (Int32.ofNat o) (Int32.ofNat m) (Int32.ofNat n) 0 S := by
    unfold rf_256
    rw [q237, e1]
    try rw [rb_r]
    show rb (rf_237 a2 S) _ = _
    rw [q237, e2]
    rw [rb_r, if_neg (show ¬ (if (some m).isSome = true then (1 : Int32) else 0) = 0 from (by decide : ¬ (1 : Int32) = 0))]
    rw [if_neg (fun y => hne (by rw [h1, h2] at y; exact i32_inj (by omega) (by omega) y)), h1, h2, h3]
    unfold r256_24
    rw [if_neg (by decide), if_neg (show ¬ Int32.ofNat n < (1 : Int32) from fun y => by have := (i32_ltn (b := 1) (by omega) (by omega)).mp y; omega), show (4 : Int32) * Int32.ofNat m = Int32.ofNat (4 * m) from i32_ml 4 m, rdI (n := 9) (by decide) (by omega) (by omega), Option.bind_some, hk, if_neg (fun y => by have := (i32_ltn (by omega) (by omega)).mp y; omega)]
  rw [hpre]
  unfold r256_54
  rw [rbS_r, set0]
  rw [if_pos (by decide), ii, q244 (hR0 o ho).1 hi2]
  by_cases zA : fA (G o) i = true
  · have er : rcv D (G o) i = (0, G o) := by unfold rcv; rw [if_pos zA]
    rw [er]
    refine ⟨rs_setI S 0 0, ?_, fun p hp => ?_, Sr_refl, Or.inl rfl⟩
    · by_cases t : tkB (G o) i = true
      · rw [if_pos t]; rfl
      · rw [if_neg t]
        first | rw [rbS_r, set0] | rw [rb_r]
        have hw := (hR0 o ho).2.2.2 i hi2
        have hw1 : wtB (G o) i = true := by
          unfold wtB
          rw [zA]
          simpa using t
        rw [if_pos rfl, iw, rdI (n := 360) (by decide) (by omega) (by omega), Option.bind_some, hw, hw1, if_pos rfl, if_neg (by decide)]
        rfl
    · by_cases ep : p = o
      · subst ep; rw [up_e]; exact hR0 p hp
      · rw [up_n ep]; exact hR0 p hp
  · have zA' : fA (G o) i = false := by simpa using zA
    obtain ⟨S', k1, k2, k3, k4⟩ := q256r H ho (hR0 o ho) hr hno zA'
    have t : ¬ tkB (G o) i = true := fun t => zA (I.2.2.1 i hi2 (tkB_t.mp t)).1
    refine ⟨S', ?_, fun p hp => ?_, k3, k4⟩
    · rw [if_neg t]
      first | rw [rbS_r, set0] | rw [rb_r]
      have hw := (hR0 o ho).2.2.2 i hi2
      have hw1 : wtB (G o) i = false := by
        unfold wtB
        rw [zA']
        rfl
      rw [if_pos rfl, iw, rdI (n := 360) (by decide) (by omega) (by omega), Option.bind_some, hw, hw1, if_pos (show (if false = true then (1 : Int32) else 0) = 0 from rfl), wrZ (n := 360) (Or.inr rfl) (by decide) (by omega) (by omega), Option.bind_some]
      exact k1
    · by_cases ep : p = o
      · subst ep; rw [up_e]; exact k2
      · rw [up_n ep]
        exact RT_Sr k3 ep hp (hlen p hp) (hR0 p hp)
end RUN
