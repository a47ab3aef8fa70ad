/-! SHOWING: a visit, the walk -/
section WLK
variable {D : aD} {S S' : rs_S} {F : fo} {o i j l k b bd p q x y z : Nat} {r : rc} {a : Option Nat} {L Ls : List Nat} {X : ax} {f : Nat → Int32}
theorem set_e {v : Int32} : (rs_setA S k i v).2.1 k i = v := if_pos ⟨rfl, rfl⟩
theorem set_a {v : Int32} {a j : Nat} (h : a ≠ k) : (rs_setA S k i v).2.1 a j = S.2.1 a j := if_neg (fun e => h e.1)
theorem set_i {v : Int32} {a j : Nat} (h : j ≠ i) : (rs_setA S k i v).2.1 a j = S.2.1 a j := if_neg (fun e => h e.2)
theorem kyi_b (W : Wd D) (hx : AN D x) : kyi D x < 600 ∧ stp D x < 400 := by
  obtain ⟨r, hr⟩ := hx
  have h := (W x r hr).2.2.2.1
  rw [← stp_e hr] at h
  unfold kyi
  omega
theorem q249x (R : RO D o F S) (W : Wd D) (hs : WS D) (O : OX D F k L) (hk : k < 2) (hbd : bd < 2000) (ha : ∀ x, a = some x → x < 120) {c : Option Nat} (hc : chi (pR D) (pM D) L a (fun z => kyi D z < bd) c) : rf_249 (Int32.ofNat o) (Int32.ofNat k) (oi a) (Int32.ofNat bd) S = some (oi c, S) := by
  obtain ⟨c', e, h⟩ := q249 R W hk hbd ha
  have hq : ∀ i, (i < 120 ∧ qC D F k a bd i = true) ↔ (i ∈ L ∧ pR D i = a ∧ kyi D i < bd) := by
    intro i
    unfold qC
    simp only [Bool.and_eq_true, decide_eq_true_eq]
    constructor
    · rintro ⟨h1, h2, h3, h4, h5, h6⟩
      have ht := tkB_t.mp h2
      obtain ⟨r, hr⟩ := R.2.2.2.2 i h1 ht
      rw [knd_e hr] at h3
      exact ⟨(O.1 i).mpr ⟨h1, ht, ⟨r, hr, h3⟩, h4⟩, h5, h6⟩
    · rintro ⟨h1, h2, h3⟩
      obtain ⟨g1, g2, ⟨r, hr, g3⟩, g4⟩ := (O.1 i).mp h1
      exact ⟨g1, tkB_t.mpr g2, by rw [knd_e hr]; exact g3, g4, h2, h3⟩
  have h2 : LatOf D (fun i => i < 120 ∧ qC D F k a bd i = true) c := by
    cases c with
    | none => exact fun i hi => hc i ((hq i).mp hi).1 ((hq i).mp hi).2.1 ((hq i).mp hi).2.2
    | some v =>
      obtain ⟨g1, g2, g3, g4⟩ := hc
      refine ⟨(hq v).mpr ⟨g1, g2, g3⟩, fun j hj => ?_⟩
      obtain ⟨h1, h2, h3⟩ := (hq j).mp hj
      have g5 := g4 j h1 h2 h3
      have b1 := (kyi_b W (PN_AN ((O.1 j).mp h1).2.2.1)).2
      have b2 := (kyi_b W (PN_AN ((O.1 v).mp g1).2.2.1)).2
      have g6 : 1000 - stp D v ≤ 1000 - stp D j := g5
      omega
  have hin : ∀ x y, (x < 120 ∧ qC D F k a bd x = true) → (y < 120 ∧ qC D F k a bd y = true) → stp D x = stp D y → x = y := fun x y hx hy e => hs.1 x y (PN_AN ((O.1 x).mp ((hq x).mp hx).1).2.2.1) (PN_AN ((O.1 y).mp ((hq y).mp hy).1).2.2.1) e
  rw [lat_un hin h2 h]
  exact e
theorem wrI {n : Nat} {v : Int32} (hk : rs_len k = n) (hi : i < n) (hn : n < 2 ^ 31) : wr_I S k (Int32.ofNat i) v = some (rs_setA S k i v) := by
  unfold wr_I
  rw [hk, la_ix_of hi hn]
  rfl
/-- one more line shown -/
theorem SH_add (hL : SH o k L S) : SH o k (L ++ [l]) (rs_setA (rs_setA S 19 (240 * o + 120 * k + L.length) (Int32.ofNat l)) 20 (2 * o + k) (Int32.ofNat (L.length + 1))) := by
  refine ⟨?_, fun j hj => ?_⟩
  · show (if (20 = 20 ∧ 2 * o + k = 2 * o + k) then _ else _) = _
    rw [if_pos ⟨rfl, rfl⟩, List.length_append]
    rfl
  · rw [List.length_append] at hj
    have hj' : j < L.length + 1 := hj
    rw [set_a (by omega)]
    by_cases z : j = L.length
    · subst z
      rw [set_e]
      simp [List.getD_eq_getElem?_getD]
    · rw [set_i (by omega)]
      have hlt : j < L.length := by omega
      rw [hL.2 j hlt]
      simp [List.getD_eq_getElem?_getD, List.getElem?_append_left hlt]
theorem Sq_add (hL : L.length < 120) {v w : Int32} : Sq o k S (rs_setA (rs_setA S 19 (240 * o + 120 * k + L.length) v) 20 (2 * o + k) w) := by
  refine ⟨rfl, rfl, fun a i h1 h2 => ?_⟩
  show (if (a = 20 ∧ i = 2 * o + k) then _ else (if (a = 19 ∧ i = 240 * o + 120 * k + L.length) then _ else _)) = _
  rw [if_neg h1, if_neg (fun e => h2 ⟨e.1, by omega, by omega⟩)]
theorem q250 (R : RO D o F S) (W : Wd D) (hs : WS D) (hcl : WC D F) (hX : LX D F k X) (hk : k < 2) (hp : PN D p) (ht : tkn F p) (hkp : lkd D (lnp D p) = k) (hL : SH o k Ls S) (hlen : Ls.length < 120) : ∃ S', rf_250 (Int32.ofNat o) (Int32.ofNat k) (Int32.ofNat p) S = some ((), S') ∧ Sq o k S S' ∧ SH o k (shs D X (Ls, f) p).1 S' := by
  obtain ⟨r, hr, hk2⟩ := hp
  have w1 := W p r hr
  have ho := R.1
  have hk6 : rk r ≠ 6 := by omega
  obtain ⟨d1, d2, d3, d4, d5, d6, d7, d8, d9⟩ := R.2.1 p r hr
  obtain ⟨hLN, hrl⟩ := act_l0 W hr hk6
  obtain ⟨e1, e0⟩ := q243x R W hs hX hLN hkp
  obtain ⟨x1, x0⟩ := LX_l hX hkp
  have hl120 := LN_lt W hLN
  have hQ1 : p < 120 ∧ qL D F 1 (lnp D p) p = true := by
    refine ⟨w1.1, ?_⟩
    unfold qL
    rw [tkB_t.mpr ht, knd_e hr, hr, Option.bind_some, hrl]
    have : rk r = 1 ∨ rk r = 2 := by have := w1.2.1; omega
    rcases this with e | e <;> rw [e] <;> simp [spk]
  have hQ0 : lnp D p < 120 ∧ qL D F 0 (lnp D p) (lnp D p) = true := by
    obtain ⟨rl', hl1, hl2⟩ := hLN
    refine ⟨hl120, ?_⟩
    unfold qL
    rw [tkB_t.mpr ((hcl p r hr ht).1 _ hrl), knd_e hl1, hl1, Option.bind_some, ((W _ rl' hl1).2.2.2.2.2.2.2.2.2.2.2.2.2.1 hl2).1, hl2]
    simp [spk]
  have hqD : ∀ b c, (c < 120 ∧ qL D F b (lnp D p) c = true) → ∃ rc', D c = some rc' ∧ spk b (rk rc') = true := by
    intro b c hc
    have h2 := hc.2
    unfold qL at h2
    simp only [Bool.and_eq_true] at h2
    obtain ⟨r2, hr2⟩ := R.2.2.2.2 c hc.1 (tkB_t.mp h2.1)
    rw [knd_e hr2] at h2
    exact ⟨r2, hr2, h2.2.1⟩
  cases hc1 : xP X (lnp D p) with
  | none => rw [hc1] at x1; exact absurd hQ1 (x1 p)
  | some c1 =>
    cases hc0 : xB X (lnp D p) with
    | none => rw [hc0] at x0; exact absurd hQ0 (x0 _)
    | some c0 =>
      rw [hc1] at x1 e1
      rw [hc0] at x0 e0
      obtain ⟨r1, hr1, hs1⟩ := hqD 1 c1 x1.1
      obtain ⟨r0, hr0, hs0⟩ := hqD 0 c0 x0.1
      have wr1 := W c1 r1 hr1
      have wr0 := W c0 r0 hr0
      have hk3 : rk r1 ≤ 3 := by
        unfold spk at hs1
        simp at hs1
        omega
      have d7' := (R.2.1 c1 r1 hr1).2.2.2.2.2.2.1 hk3
      have d1' := (R.2.1 c0 r0 hr0).1
      have ep : plc D X (lnp D p) = rpl r1 := by unfold plc; rw [hc1, Option.bind_some, hr1]; rfl
      have et : thr D X (lnp D p) = decide (rk r0 ≠ 5) := by unfold thr; rw [hc0]; show decide (knd D c0 ≠ 5) = _; rw [knd_e hr0]
      have hpl : ∀ i, rpl r1 = some i → i < 120 := fun i hi => by
        obtain ⟨q, hq, -⟩ := wr1.2.2.2.2.2.2.1 i hi
        exact (W i q hq).1
      unfold rf_250 shs
      rw [rdI (n := 120) (by decide) w1.1 (by omega), Option.bind_some, (d5 hk6).1, e1]
      try rw [rb_r]
      show ∃ S', (rd_I S 7 (Int32.ofNat c1)).bind _ = _ ∧ _
      rw [rdI (n := 120) (by decide) wr1.1 (by omega), Option.bind_some, d7', ep, et]
      by_cases z1 : rpl r1 = some p
      · rw [if_pos (by rw [z1]; rfl), e0]
        try rw [rb_r]
        show ∃ S', (rd_I S 1 (Int32.ofNat c0)).bind _ = _ ∧ _
        rw [rdI (n := 120) (by decide) wr0.1 (by omega), Option.bind_some, d1']
        by_cases z2 : rk r0 = 5
        · rw [if_pos (by rw [z2]; rfl), if_neg (fun e => by have := e.2; simp [z2] at this)]
          exact ⟨S, rfl, Sq_refl, hL⟩
        · have i1 : ((2 : Int32) * Int32.ofNat o) + Int32.ofNat k = Int32.ofNat (2 * o + k) := by
            rw [show (2 : Int32) * Int32.ofNat o = Int32.ofNat (2 * o) from i32_ml 2 o, i32_add]
          have i2 : (((240 : Int32) * Int32.ofNat o) + ((120 : Int32) * Int32.ofNat k)) + Int32.ofNat Ls.length = Int32.ofNat (240 * o + 120 * k + Ls.length) := by
            rw [show (240 : Int32) * Int32.ofNat o = Int32.ofNat (240 * o) from i32_ml 240 o, show (120 : Int32) * Int32.ofNat k = Int32.ofNat (120 * k) from i32_ml 120 k, i32_add, i32_add]
          have i3 : Int32.ofNat Ls.length + (1 : Int32) = Int32.ofNat (Ls.length + 1) := i32_add _ 1
          have i4 : (rs_setA S 19 (240 * o + 120 * k + Ls.length) (Int32.ofNat (lnp D p))).2.1 20 (2 * o + k) = Int32.ofNat Ls.length := by
            rw [set_a (by omega)]
            exact hL.1
          rw [if_neg (show ¬ Int32.ofNat (rk r0) = (5 : Int32) from fun e => z2 (i32_inj (b := 5) (by have := wr0.2.2.1; omega) (by omega) e)), i1, rdI (n := 6) (by decide) (by omega) (by omega), Option.bind_some, hL.1, i2, wrI (n := 720) (by decide) (by omega) (by omega), Option.bind_some, rdI (n := 6) (by decide) (by omega) (by omega), Option.bind_some, i4, i3, wrI (n := 6) (by decide) (by omega) (by omega), Option.bind_some, if_pos ⟨z1, decide_eq_true z2⟩]
          exact ⟨_, rfl, Sq_add hlen, SH_add hL⟩
      · rw [if_neg (show ¬ oi (rpl r1) = Int32.ofNat p from fun e => z1 ((oi_ij (y := some p) hpl (fun i hi => by cases hi; exact w1.1)).mp e)), if_neg (fun e => z1 e.1)]
        exact ⟨S, rfl, Sq_refl, hL⟩
end WLK
