/-! ENTER: what it needs -/
section WRE
variable {A A' A1 A2 : ah} {h h1 : pm_H} {M M' : aM} {D D' : aD} {G : Nat → fo} {F : fo} {S S' S8 : rs_S} {T U : List Nat} {o i j l k m n c p q y z id : Nat} {r : rc} {a1 a2 a3 a x5 v : Int32} {x : Option Nat} {cc : Int32}
theorem cte_E (C : cte M A D S x cc) (hN : ∀ id, AN D id → AN D' id) (hp : ∀ n p ts, prt M A D n p ts → prt M' A' D' n p ts) (hA : ∀ p y, 178 ≤ p → A.1 p = ac_c y → A'.1 p = ac_c y) (hS : ∀ id, AN D id → S'.2.1 12 id = S.2.1 12 id ∧ S'.2.1 13 id = S.2.1 13 id ∧ ∀ j, j < 20 → S'.2.1 14 (20 * id + j) = S.2.1 14 (20 * id + j) ∧ S'.2.1 15 (20 * id + j) = S.2.1 15 (20 * id + j)) : cte M' A' D' S' x cc := by
  rcases C with C | ⟨p, id, ts, h1, h2, h3, h4, h5, h6, h7⟩
  · exact Or.inl C
  · obtain ⟨s1, s2, s3⟩ := hS id h2
    refine Or.inr ⟨p, id, ts, h1, hN id h2, h3, h4, by rw [s2]; exact h5, fun j hj => by rw [(s3 j (by omega)).1, (s3 j (by omega)).2]; exact h6 j hj, ?_⟩
    rw [s1]
    rcases h7 with ⟨g1, g2, g3⟩ | ⟨g1, g2, q, g3, g4⟩
    · exact Or.inl ⟨g1, g2, hp 1 p ts g3⟩
    · exact Or.inr ⟨g1, g2, q, hA p _ g2 g3, hp 22 q ts g4⟩
theorem RT_q (hf : ∀ a j, a ≤ 9 ∨ (16 ≤ a ∧ a ≤ 20) → S'.2.1 a j = S.2.1 a j) (R : RT D o F S) : RT D o F S' := by
  obtain ⟨⟨a1, a2, a3, a4, a5⟩, b, c, d⟩ := R
  refine ⟨⟨a1, ?_, fun j hj => by rw [hf 16 _ (by omega)]; exact a3 j hj, a4, a5⟩, by rw [hf 17 _ (by omega)]; exact b, fun k hk => ?_, fun i hi => by rw [hf 18 _ (by omega)]; exact d i hi⟩
  · intro j q hq
    obtain ⟨d1, d2, d3, d4, d5, d6, d7, d8, d9⟩ := a2 j q hq
    rw [hf 1 _ (by omega), hf 3 _ (by omega), hf 5 _ (by omega), hf 2 _ (by omega), hf 6 _ (by omega), hf 7 _ (by omega), hf 8 _ (by omega), hf 9 _ (by omega)]
    exact ⟨d1, d2, d3, fun m hm => by rw [hf 4 _ (by omega)]; exact d4 m hm, d5, d6, d7, d8, d9⟩
  · obtain ⟨e1, e2⟩ := c k hk
    exact ⟨by rw [hf 20 _ (by omega)]; exact e1, fun j hj => by rw [hf 19 _ (by omega)]; exact e2 j hj⟩
/-- the rows of contents that are made -/
theorem Rq_row (h : Rq i S S') (hD : D i = none) (hn : AN D id) : S'.2.1 12 id = S.2.1 12 id ∧ S'.2.1 13 id = S.2.1 13 id ∧ ∀ j, j < 20 → S'.2.1 14 (20 * id + j) = S.2.1 14 (20 * id + j) ∧ S'.2.1 15 (20 * id + j) = S.2.1 15 (20 * id + j) := by
  have hne := ne_D hD hn
  exact ⟨h.2.2 12 id (by omega) (fun _ => hne) (by omega), h.2.2 13 id (by omega) (fun _ => hne) (by omega), fun j hj => ⟨h.2.2 14 _ (by omega) (by omega) (fun _ => by omega), h.2.2 15 _ (by omega) (by omega) (fun _ => by omega)⟩⟩
/-- the reference writes -/
theorem q264w (H : GW D G) (ho : o < 3) (hm : fK (G o) o < 40) (hi : i = 40 * o + fK (G o) o) (hR : ∀ m, m < 3 → RT D m (G m) S) (hp : p < (xS (fX (G o) 0)).length) (hq : q < (xS (fX (G o) 1)).length) (hy : y = (xS (fX (G o) 0)).getD p 0) (hz : z = (xS (fX (G o) 1)).getD q 0) (hr : r = rW o (G o) y z x (cnt D (G o) y z)) (W' : Wd (up D i (some r))) : ∃ S8 S', r264_102 (Int32.ofNat o) (Int32.ofNat p) (Int32.ofNat q) x5 S = some (-1, S') ∧ Sb i S S8 ∧ S8.2.1 10 i = (if S.1 22 ≤ (0 : Int32) then -1 else x5) ∧ S8.2.1 11 i = (wtc D (G o) y z).elim (-1) (fun a => S.2.1 10 a) ∧ Sk o S8 S' ∧ (∀ m, m < 3 → RT (up D i (some r)) m (up G o (tkF (up D i (some r)) (G o) i) m) S') ∧ GW (up D i (some r)) (up G o (tkF (up D i (some r)) (G o) i)) := by
  obtain ⟨hD, hi2, i1, i2, hnt, hbd⟩ := GW_rdy H ho hm hi
  obtain ⟨⟨Wo, I, -⟩, -⟩ := H.2.2.2.2.2.2.2 o ho
  have w0 := Wo.2.2.2.2.2.2 0 (by omega)
  have w1 := Wo.2.2.2.2.2.2 1 (by omega)
  obtain ⟨y1, y2, y3, y4, -⟩ := shn_t I H.1 (show 0 < 2 by omega) (gl_mem hp)
  obtain ⟨z1, z2, z3, z4, -⟩ := shn_t I H.1 (show 1 < 2 by omega) (gl_mem hq)
  rw [← hy] at y1 y2 y3
  rw [← hz] at z1 z2 z3
  have hnew : New D (G o) o i r := by
    rw [hr]
    exact ⟨rfl, rfl, fun x hx => (by cases hx), fun x hx => (by cases hx), fun x hx => (by cases hx), fun x hx => by cases hx; exact y2, fun x hx => by cases hx; exact z2, fun x hx => (by cases hx), fun y hy => by cases hy⟩
  have H' := GW_mk H ho hm hi W' hnew
  obtain ⟨S4, k1, k2, u1, u2, u3, u5, u6, u7, u8, u9, u10, u11, u4⟩ := q246 (kd := 6) (kv := 0) (ln := some y) (hR o ho).1.2.2.1 ho hm (hR o ho).2.1 hi (fun x hx => by cases hx; exact y3)
  have hii : up D i (some r) i = some r := up_e
  have erw : rwo (up D i (some r)) i = y := by
    show ((up D i (some r) i).bind rrw).getD 0 = _
    rw [hii, hr]; rfl
  have ecl : clo (up D i (some r)) i = z := by
    show ((up D i (some r) i).bind rcl).getD 0 = _
    rw [hii, hr]; rfl
  have h3 : Int32.ofNat (((fC (G o) + 1) * 3 + o) / 3) = Int32.ofNat (fC (G o) + 1) := by rw [show ((fC (G o) + 1) * 3 + o) / 3 = fC (G o) + 1 by omega]
  have h3m : ((fC (G o) + 1) * 3 + o) % 3 = i / 40 := by omega
  obtain ⟨v1, hv1⟩ : ∃ v1 : Int32, v1 = (if S.1 22 ≤ (0 : Int32) then -1 else x5) := ⟨_, rfl⟩
  obtain ⟨v2, hv2⟩ : ∃ v2 : Int32, v2 = (wtc D (G o) y z).elim (-1) (fun a => S.2.1 10 a) := ⟨_, rfl⟩
  obtain ⟨S8, hS8⟩ : ∃ S8, S8 = rs_setA (rs_setA (rs_setA S4 6 i (Int32.ofNat z)) 10 i v1) 11 i v2 := ⟨_, rfl⟩
  have g8 : Sb i S S8 := by
    rw [hS8]
    exact Sb_tr k2 (Sb_tr (Sb_tr (Sb_set (by omega) (by omega) (by omega)) (Sb_set (by omega) (by omega) (by omega))) (Sb_set (by omega) (by omega) (by omega)))
  have hRD : RD (up D i (some r)) S8 := by
    refine RD_new H.1 (hR o ho).1.2.1 hD g8 (Or.inr ?_)
    rw [erw, ecl, hr, hS8]
    refine ⟨?_, ?_, h3m, fun j hj => ?_, fun z => absurd rfl z, fun _ => ⟨?_, ?_⟩, fun z => ?_, fun z => ?_, fun z => ?_⟩
    · rw [set_a (by omega), set_a (by omega), set_a (by omega)]; exact u1
    · rw [set_a (by omega), set_a (by omega), set_a (by omega), u3]; exact h3.symm
    · rw [set_a (by omega), set_a (by omega), set_a (by omega)]; exact u4 j hj
    · rw [set_a (by omega), set_a (by omega), set_a (by omega)]; exact u5
    · rw [set_a (by omega), set_a (by omega), set_e]
    · have z' : 6 ≤ 3 := z; omega
    · have z' : 6 ≤ 2 := z; omega
    · rcases z with z | z
      · have z' : 6 = 2 := z; omega
      · have z' : 6 = 3 := z; omega
  obtain ⟨S', m1, m2, m3⟩ := RT_mk H ho hm hi H' hR g8 hRD
  refine ⟨S8, S', ?_, g8, by rw [hS8, set_a (by omega), set_e, hv1], by rw [hS8, set_e, hv2], m3, m2, H'⟩
  have hs0 := (hR o ho).2.2.1 0 (by omega)
  have hs1 := (hR o ho).2.2.1 1 (by omega)
  have e0 : rf_242 (Int32.ofNat o) (0 : Int32) (Int32.ofNat p) S = some (Int32.ofNat y, S) := by rw [hy]; exact q242 (k := 0) ho (by omega) hs0 w0.2.2.2.2.2 hp
  have e1 : rf_242 (Int32.ofNat o) (1 : Int32) (Int32.ofNat q) S = some (Int32.ofNat z, S) := by rw [hz]; exact q242 (k := 1) ho (by omega) hs1 w1.2.2.2.2.2 hq
  have e2 := q255w (hR o ho).1 H.1 H.2.1 I y3 z3
  have k1' : rf_246 (Int32.ofNat o) (6 : Int32) (0 : Int32) (Int32.ofNat y) S = some (Int32.ofNat i, S4) := k1
  have h22 : (rs_setA S4 6 i (Int32.ofNat z)).1 22 = S.1 22 := by
    show S4.1 22 = _
    rw [k2.1]
  have fin : ∀ S5, S5 = rs_setA S4 6 i (Int32.ofNat z) → r264_171 (Int32.ofNat o) (oi (wtc D (G o) y z)) (Int32.ofNat i) v1 (Int32.ofNat i) S5 = some (-1, S') := by
    intro S5 h5
    unfold r264_171
    rw [wrI (n := 120) (by decide) hi2 (by omega), Option.bind_some]
    cases hw : wtc D (G o) y z with
    | none =>
      rw [hw] at hv2
      rw [if_neg (show ¬ (0 : Int32) ≤ oi none by decide)]
      unfold r264_194
      rw [wrI (n := 120) (by decide) hi2 (by omega), Option.bind_some]
      have : rs_setA (rs_setA S5 10 i v1) 11 i (-1) = S8 := by rw [hS8, h5, hv2]; rfl
      rw [this, m1, rb_r]
    | some b =>
      rw [hw] at hv2
      obtain ⟨rb', hb1, hb2, hb3, -⟩ := wtc_r Wo H.1 hw
      have hbn : b ≠ i := ne_D hD ⟨rb', hb1⟩
      rw [show oi (some b) = Int32.ofNat b from rfl, if_pos (show (0 : Int32) ≤ Int32.ofNat b from (i32_len (a := 0) (by omega) (by omega)).mpr (Nat.zero_le _)), rdI (n := 120) (by decide) hb3 (by omega), Option.bind_some]
      have e10 : (rs_setA S5 10 i v1).2.1 10 b = S.2.1 10 b := by
        rw [set_i hbn, h5, set_i hbn]
        exact k2.2.2 10 b (fun g => hbn g.2.2.2) (fun g => by have := g.1; omega)
      rw [e10]
      unfold r264_194
      rw [wrI (n := 120) (by decide) hi2 (by omega), Option.bind_some]
      have : rs_setA (rs_setA S5 10 i v1) 11 i (S.2.1 10 b) = S8 := by rw [hS8, h5, hv2]; rfl
      rw [this, m1, rb_r]
  unfold r264_102
  rw [e0, rb_r, e1, rb_r, e2, rb_r, k1', rb_r, wrI (n := 120) (by decide) hi2 (by omega), Option.bind_some, h22]
  by_cases h0 : S.1 22 ≤ (0 : Int32)
  · rw [if_pos h0] at hv1 ⊢
    have := fin _ rfl
    rw [hv1] at this
    exact this
  · rw [if_neg h0] at hv1 ⊢
    rw [← hv1]
    exact fin _ rfl
end WRE
