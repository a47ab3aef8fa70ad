/-! UNDO: the reference -/
section RU2
variable {D : aD} {G : Nat → fo} {F : fo} {S S' S8 : rs_S} {X : ax} {o i j l k m n c p b : Nat} {r : rc} {a1 a2 a3 a4 a : Int32} {q : Option Nat} {L : List Nat}
theorem q253t (H : GW D G) (hR : ∀ m, m < 3 → RT D m (G m) S) (e : udc G a1 = .inl c) : rf_253 a1 S = some (0, rs_setI S 0 (Int32.ofNat c)) := by
  unfold udc at e
  unfold rf_253
  rw [q237]
  cases e1 : la_ix a1 3 with
  | none =>
    rw [e1] at e
    cases e
    rfl
  | some o =>
    obtain ⟨h1, ho⟩ := ix_s (by omega) e1
    have Wo := (H.2.2.2.2.2.2.2 o ho).1.1
    have h40 := Wo.2.1 o
    have hk := (hR o ho).1.2.2.1 o ho
    rw [show 3 * o + o = 4 * o by omega] at hk
    simp only [e1, Option.elim_some] at e
    try rw [rb_r]
    show (rd_I S 16 ((4 : Int32) * a1)).bind _ = _
    rw [h1, show (4 : Int32) * Int32.ofNat o = Int32.ofNat (4 * o) from i32_ml 4 o, rdI (n := 9) (by decide) (by omega) (by omega), Option.bind_some, hk]
    by_cases z : fK (G o) o = 0
    · rw [if_pos z] at e
      cases e
      rw [z, if_pos (by decide)]
      rfl
    · rw [if_neg z] at e
      rw [if_neg (show ¬ Int32.ofNat (fK (G o) o) = (0 : Int32) from fun y => z (i32_inj (b := 0) (by omega) (by omega) y)), q240 (hR o ho) Wo]
      by_cases z2 : fK (G o) o < 40
      · rw [if_pos z2] at e; cases e
      · rw [if_neg z2] at e
        cases e
        rw [if_neg z2]
        rfl
/-- the reference asks whether the latest act counts -/
theorem q254c (R : RT D o F S) (W : Wd D) (hs : WS D) (I : OI D F) (hb : D b = some r) : ∃ v : Int32, rf_254 (Int32.ofNat o) (Int32.ofNat b) S = r254_59 (Int32.ofNat o) (Int32.ofNat b) (Int32.ofNat (rk r)) v S ∧ (v = Int32.ofNat b ↔ couB D F b = true) := by
  have w1 := W b r hb
  obtain ⟨RO', -⟩ := R
  obtain ⟨d1, d2, d3, d4, d5, d6, d7, d8, d9⟩ := RO'.2.1 b r hb
  have hv : ∀ x : Option Nat, (∀ i, x = some i → i < 120) → (oi x = Int32.ofNat b ↔ x = some b) := fun x hx => oi_ij (y := some b) hx (fun i hi => by cases hi; exact w1.1)
  unfold rf_254 couB
  rw [rdI (n := 120) (by decide) w1.1 (by omega), Option.bind_some, d1, knd_e hb]
  by_cases q6 : rk r = 6
  · obtain ⟨f1, f2, f3, f4⟩ := act_w0 W hb q6
    obtain ⟨c, g1, g2⟩ := q255 RO' W (LN_lt W f1) (LN_lt W f2)
    have hin : ∀ x y, (x < 120 ∧ qW D F (rwo D b) (clo D b) x = true) → (y < 120 ∧ qW D F (rwo D b) (clo D b) y = true) → stp D x = stp D y → x = y := by
      intro x y hx hy e
      have h1 : ∀ x, (x < 120 ∧ qW D F (rwo D b) (clo D b) x = true) → AN D x := by
        intro x hx
        have h2 := hx.2
        unfold qW at h2
        simp only [Bool.and_eq_true] at h2
        exact RO'.2.2.2.2 x hx.1 (tkB_t.mp h2.1)
      exact hs.1 x y (h1 x hx) (h1 y hy) e
    have hc := lat_un hin (I.2.2.1 (rwo D b) (clo D b)).1 g2
    rw [← hc] at g1
    rw [if_pos (by rw [q6]; rfl), rdI (n := 120) (by decide) w1.1 (by omega), Option.bind_some, (d6 q6).1, rdI (n := 120) (by decide) w1.1 (by omega), Option.bind_some, (d6 q6).2, g1, if_pos q6]
    refine ⟨oi (wtc D F (rwo D b) (clo D b)), rfl, ?_⟩
    rw [decide_eq_true_iff]
    refine hv _ (fun i hi => ?_)
    have hl := (I.2.2.1 (rwo D b) (clo D b)).1
    rw [hi] at hl
    exact hl.1.1
  · obtain ⟨hLN, hrl⟩ := act_l0 W hb q6
    have hk2 := LN_k W hLN
    obtain ⟨x1, x2, -⟩ := I.2.2.2 (lkd D (lnp D b)) hk2
    obtain ⟨g1, g0⟩ := q243x RO' W hs x2 hLN rfl
    have b1 : ∀ i, xP (fX F (lkd D (lnp D b))) (lnp D b) = some i → i < 120 := fun i hi => by
      have := (x2 (lnp D b)).1
      rw [hi] at this
      exact this.1.1
    have b0 : ∀ i, xB (fX F (lkd D (lnp D b))) (lnp D b) = some i → i < 120 := fun i hi => by
      have := (x2 (lnp D b)).2
      rw [hi] at this
      exact this.1.1
    rw [if_neg (show ¬ Int32.ofNat (rk r) = (6 : Int32) from fun e => q6 (i32_inj (b := 6) (by have := w1.2.2.1; omega) (by omega) e)), rdI (n := 120) (by decide) w1.1 (by omega), Option.bind_some, (d5 q6).1, if_neg q6]
    have hk' : rk r = 1 ∨ rk r = 2 ∨ rk r = 3 ∨ rk r = 4 ∨ rk r = 5 := by have := w1.2.1; have := w1.2.2.1; omega
    have h51 : r254_51 (Int32.ofNat o) (Int32.ofNat b) (Int32.ofNat (rk r)) (Int32.ofNat (lnp D b)) (Int32.ofNat o) S = r254_59 (Int32.ofNat o) (Int32.ofNat b) (Int32.ofNat (rk r)) (oi (xP (fX F (lkd D (lnp D b))) (lnp D b))) S := by
      unfold r254_51 r254_56
      rw [g1]
      rfl
    have h56 : r254_56 (Int32.ofNat o) (Int32.ofNat b) (Int32.ofNat (rk r)) (0 : Int32) (Int32.ofNat (lnp D b)) (Int32.ofNat o) S = r254_59 (Int32.ofNat o) (Int32.ofNat b) (Int32.ofNat (rk r)) (oi (xB (fX F (lkd D (lnp D b))) (lnp D b))) S := by
      unfold r254_56
      rw [g0]
      rfl
    have h23 : rk r = 2 ∨ rk r = 3 → (if Int32.ofNat (rk r) = (2 : Int32) then r254_51 (Int32.ofNat o) (Int32.ofNat b) (Int32.ofNat (rk r)) (Int32.ofNat (lnp D b)) (Int32.ofNat o) S else if Int32.ofNat (rk r) = (3 : Int32) then r254_51 (Int32.ofNat o) (Int32.ofNat b) (Int32.ofNat (rk r)) (Int32.ofNat (lnp D b)) (Int32.ofNat o) S else r254_56 (Int32.ofNat o) (Int32.ofNat b) (Int32.ofNat (rk r)) (0 : Int32) (Int32.ofNat (lnp D b)) (Int32.ofNat o) S) = r254_51 (Int32.ofNat o) (Int32.ofNat b) (Int32.ofNat (rk r)) (Int32.ofNat (lnp D b)) (Int32.ofNat o) S := by
      intro e
      rcases e with e | e <;> rw [e] <;> rfl
    have h145 : rk r = 1 ∨ rk r = 4 ∨ rk r = 5 → (if Int32.ofNat (rk r) = (2 : Int32) then r254_51 (Int32.ofNat o) (Int32.ofNat b) (Int32.ofNat (rk r)) (Int32.ofNat (lnp D b)) (Int32.ofNat o) S else if Int32.ofNat (rk r) = (3 : Int32) then r254_51 (Int32.ofNat o) (Int32.ofNat b) (Int32.ofNat (rk r)) (Int32.ofNat (lnp D b)) (Int32.ofNat o) S else r254_56 (Int32.ofNat o) (Int32.ofNat b) (Int32.ofNat (rk r)) (0 : Int32) (Int32.ofNat (lnp D b)) (Int32.ofNat o) S) = r254_56 (Int32.ofNat o) (Int32.ofNat b) (Int32.ofNat (rk r)) (0 : Int32) (Int32.ofNat (lnp D b)) (Int32.ofNat o) S := by
      intro e
      rcases e with e | e | e <;> rw [e] <;> rfl
    by_cases q1 : rk r = 1 ∨ rk r = 4 ∨ rk r = 5
    · rw [h145 q1, h56, if_pos q1]
      refine ⟨_, rfl, ?_⟩
      rw [decide_eq_true_iff]
      exact hv _ b0
    · rw [h23 (by omega), h51, if_neg q1]
      refine ⟨_, rfl, ?_⟩
      rw [decide_eq_true_iff]
      exact hv _ b1
theorem new_T (H : GW D G) (ho : o < 3) (hm : fK (G o) o < 40) (hi : i = 40 * o + fK (G o) o) (hb : D b = some r) (ht : tkn (G o) b) (hc : couB D (G o) b = true) : New D (G o) o i (tbR D o (G o) b) := by
  have I := (H.2.2.2.2.2.2.2 o ho).1.2.1
  have W := H.1
  obtain ⟨c1, c2, c3, c4, c5, c6⟩ := I.2.1 b r hb ht
  unfold tbR
  rw [knd_e hb]
  by_cases q1 : rk r = 1 ∨ rk r = 4
  · rw [if_pos q1]
    obtain ⟨hLN, hrl⟩ := act_l0 W hb (by omega)
    exact new_G H ho hm hi (c1 _ hrl)
  · rw [if_neg q1]
    by_cases q5 : rk r = 5
    · rw [if_pos q5]
      obtain ⟨hLN, hrl⟩ := act_l0 W hb (by omega)
      exact new_G H ho hm hi (c1 _ hrl)
    · rw [if_neg q5]
      by_cases q6 : rk r = 6
      · rw [if_pos q6]
        obtain ⟨f1, f2, f3, f4⟩ := act_w0 W hb q6
        exact ⟨rfl, rfl, fun x hx => (by cases hx), fun x hx => (by cases hx), fun x hx => (by cases hx), fun x hx => by cases hx; exact c4 _ f3, fun x hx => by cases hx; exact c5 _ f4, fun x hx => (by cases hx), fun y hy => by cases hy⟩
      · rw [if_neg q6]
        obtain ⟨hLN, hrl⟩ := act_l0 W hb q6
        have hpl : plc D (fX (G o) (lkd D (lnp D b))) (lnp D b) = rpl r := by
          unfold couB at hc
          rw [knd_e hb, if_neg q6, if_neg (by omega)] at hc
          have hx := of_decide_eq_true hc
          unfold plc
          rw [hx, Option.bind_some, hb]
          rfl
        rw [hb, hpl]
        exact ⟨rfl, rfl, fun x hx => by cases hx; exact Or.inr (c1 _ hrl), fun x hx => (by cases hx), fun x hx => Or.inr (c6 x hx), fun x hx => (by cases hx), fun x hx => (by cases hx), fun x hx => c3 x hx, fun y hy => by cases hy⟩
end RU2
