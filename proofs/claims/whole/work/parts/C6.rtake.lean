/-! THE REFERENCE takes an act -/
/-- what taking at an office leaves as it was -/
def Sk (o : Nat) (S S' : rs_S) : Prop := S'.2.2 = S.2.2 ∧ (∀ a, a ≠ 31 → S'.1 a = S.1 a) ∧ S'.1 31 = (if S.1 31 = Int32.ofNat o then -1 else S.1 31) ∧ ∀ a j, ¬ (a = 16 ∧ 3 * o ≤ j ∧ j < 3 * o + 3) → ¬ (a = 17 ∧ j = o) → ¬ (a = 20 ∧ 2 * o ≤ j ∧ j < 2 * o + 2) → ¬ (a = 19 ∧ 240 * o ≤ j ∧ j < 240 * o + 240) → S'.2.1 a j = S.2.1 a j
section RTK
variable {D : aD} {S S' S2 : rs_S} {F F' : fo} {o o' i j l k p x y z : Nat} {r : rc} {L : List Nat} {X : ax}
theorem RD_n (h : ∀ n i, n ≠ 16 → n ≠ 17 → n ≠ 18 → n ≠ 19 → n ≠ 20 → S'.2.1 n i = S.2.1 n i) (R : RD D S) : RD D S' := by
  intro i r hr
  obtain ⟨d1, d2, d3, d4, d5, d6, d7, d8, d9⟩ := R i r hr
  have e : ∀ {n i}, n < 10 → S'.2.1 n i = S.2.1 n i := fun h1 => h _ _ (by omega) (by omega) (by omega) (by omega) (by omega)
  rw [e (by omega), e (by omega), e (by omega), e (by omega), e (by omega), e (by omega), e (by omega), e (by omega)]
  exact ⟨d1, d2, d3, fun j hj => by rw [e (by omega)]; exact d4 j hj, d5, d6, d7, d8, d9⟩
theorem SH_Sq (h : Sq o k S S') (hne : ¬ (o = o' ∧ k = j)) (hj : j < 2) (hk : k < 2) (hL : L.length ≤ 120) (hS : SH o' j L S) : SH o' j L S' := by
  refine ⟨?_, fun n hn => ?_⟩
  · rw [h.2.2 20 (2 * o' + j) (fun e => by have := e.2; omega) (fun e => by have := e.1; omega)]
    exact hS.1
  · rw [h.2.2 19 (240 * o' + 120 * j + n) (fun e => by have := e.1; omega) (fun e => by have := e.2; omega)]
    exact hS.2 n hn
theorem q247 (R : RO D o F S) (W : Wd D) (hs : WS D) (hwk : WK D) (hi : D i = some r) (hlt : i < 120) (hF : F' = tkF D F i) (hn : i % 40 = fK F (i / 40)) (hC : fC F < 1000) (hT : S.2.1 17 o = Int32.ofNat (fC F)) (I : OI D F') (Wff : Wf D o F') : ∃ S', rf_247 (Int32.ofNat o) (Int32.ofNat i) S = some ((), S') ∧ RO D o F' S' ∧ S'.2.1 17 o = Int32.ofNat (fC F') ∧ (∀ k, k < 2 → SH o k (xS (fX F' k)) S') ∧ Sk o S S' := by
  subst hF
  have ho := R.1
  have w1 := W i r hi
  obtain ⟨d1, d2⟩ := i32_d40 (i := i) (by omega)
  have hst := w1.2.2.2.1
  have n4 : Int32.ofNat (i % 40) + (1 : Int32) = Int32.ofNat (i % 40 + 1) := i32_add _ 1
  have ix : ((3 : Int32) * Int32.ofNat o) + Int32.ofNat (i / 40) = Int32.ofNat (3 * o + i / 40) := by
    rw [show (3 : Int32) * Int32.ofNat o = Int32.ofNat (3 * o) from i32_ml 3 o, i32_add]
  have g1 : (rs_setA S 16 (3 * o + i / 40) (Int32.ofNat (i % 40 + 1))).2.1 17 o = Int32.ofNat (fC F) := by
    rw [set_a (by omega)]
    exact hT
  have g2 : (rs_setA S 16 (3 * o + i / 40) (Int32.ofNat (i % 40 + 1))).2.1 3 i = Int32.ofNat (rst r / 3) := by
    rw [set_a (by omega)]
    exact (R.2.1 i r hi).2.1
  obtain ⟨S2, hS2⟩ : ∃ S2, S2 = rs_setA (rs_setA S 16 (3 * o + i / 40) (Int32.ofNat (i % 40 + 1))) 17 o (Int32.ofNat (max (fC F) (rst r / 3))) := ⟨_, rfl⟩
  have s2 : ∀ a j, S2.2.1 a j = if a = 17 ∧ j = o then Int32.ofNat (max (fC F) (rst r / 3)) else if a = 16 ∧ j = 3 * o + i / 40 then Int32.ofNat (i % 40 + 1) else S.2.1 a j := by
    intro a j
    rw [hS2]
    rfl
  have s2n : ∀ a j, a ≠ 16 → a ≠ 17 → S2.2.1 a j = S.2.1 a j := by
    intro a j h1 h2
    rw [s2, if_neg (fun e => h2 e.1), if_neg (fun e => h1 e.1)]
  have R2 : RO D o (tkF D F i) S2 := by
    obtain ⟨a1, a2, a3, a4, a5⟩ := R
    refine ⟨a1, RD_n (fun n i h1 h2 _ _ _ => s2n n i h1 h2) a2, fun j hj => ?_, Wff.2.1, fun x hx ht => ?_⟩
    · rw [s2, if_neg (fun e => by have := e.1; omega), tkF_K]
      by_cases e : j = i / 40
      · rw [e, up_e, if_pos ⟨rfl, rfl⟩]
      · rw [up_n e, if_neg (fun h => e (by have := h.2; omega))]
        exact a3 j hj
    · rcases (tkn_tk hn).mp ht with g | g
      · exact a5 x hx g
      · rw [g]; exact ⟨r, hi⟩
  obtain ⟨x01, x02, x03, -⟩ := I.2.2.2 0 (by omega)
  obtain ⟨x11, x12, x13, -⟩ := I.2.2.2 1 (by omega)
  obtain ⟨S3, e3, sq3, sh3⟩ := q248 R2 W hs I.2.1 x02 hwk x01 (by omega)
  have R3 := RO_Sq sq3 R2
  obtain ⟨S4, e4, sq4, sh4⟩ := q248 R3 W hs I.2.1 x12 hwk x11 (by omega)
  have R4 := RO_Sq sq4 R3
  rw [← x03] at sh3
  rw [← x13] at sh4
  have hl0 := (Wff.2.2.2.2.2.2 0 (by omega)).2.2.2.2.2
  have sh0 : SH o 0 (xS (fX (tkF D F i) 0)) S4 := SH_Sq sq4 (fun e => by have := e.2; omega) (by omega) (by omega) hl0 sh3
  have e0 : rf_248 (Int32.ofNat o) (0 : Int32) S2 = some ((), S3) := e3
  have e1 : rf_248 (Int32.ofNat o) (1 : Int32) S3 = some ((), S4) := e4
  have h54 : r247_54 (Int32.ofNat o) (Int32.ofNat (max (fC F) (rst r / 3))) (Int32.ofNat o) (rs_setA S 16 (3 * o + i / 40) (Int32.ofNat (i % 40 + 1))) = some ((), rs_setI S4 31 (if S4.1 31 = Int32.ofNat o then -1 else S4.1 31)) := by
    unfold r247_54
    rw [wrI (n := 3) (by decide) ho (by omega), Option.bind_some, ← hS2, e0]
    try rw [rb_r]
    show rb (rf_248 (Int32.ofNat o) (1 : Int32) S3) _ = _
    rw [e1]
    show (if S4.1 31 = Int32.ofNat o then r247_84 (-1) S4 else r247_84 (S4.1 31) S4) = _
    by_cases e : S4.1 31 = Int32.ofNat o
    · rw [if_pos e, if_pos e]; rfl
    · rw [if_neg e, if_neg e]; rfl
  refine ⟨rs_setI S4 31 (if S4.1 31 = Int32.ofNat o then -1 else S4.1 31), ?_, R4, ?_, fun k hk => ?_, ?_⟩
  · unfold rf_247
    rw [d2, d1, n4, ix, wrI (n := 9) (by decide) (by omega) (by omega), Option.bind_some, rdI (n := 3) (by decide) ho (by omega), Option.bind_some, g1, rdI (n := 120) (by decide) hlt (by omega), Option.bind_some, g2]
    by_cases e : fC F ≤ rst r / 3
    · rw [if_pos ((i32_len (by omega) (by omega)).mpr e), Option.bind_some]
      rw [Nat.max_eq_right e] at h54
      exact h54
    · rw [if_neg (fun g => e ((i32_len (by omega) (by omega)).mp g)), Option.bind_some]
      rw [Nat.max_eq_left (by omega)] at h54
      exact h54
  · show S4.2.1 17 o = _
    rw [Sq_n sq4 (by decide) (by decide), Sq_n sq3 (by decide) (by decide), s2, if_pos ⟨rfl, rfl⟩, tkF_C, stp_e hi]
  · have hk' : k = 0 ∨ k = 1 := by omega
    rcases hk' with e | e
    · subst e; exact sh0
    · subst e; exact sh4
  · have h1 : S4.1 = S.1 := by rw [sq4.1, sq3.1, hS2]; rfl
    refine ⟨?_, fun a ha => ?_, ?_, fun a j n1 n2 n3 n4' => ?_⟩
    · show S4.2.2 = _
      rw [sq4.2.1, sq3.2.1, hS2]; rfl
    · show (if a = 31 then _ else S4.1 a) = _
      rw [if_neg ha, h1]
    · show (if S4.1 31 = Int32.ofNat o then (-1 : Int32) else S4.1 31) = _
      rw [h1]
    · show S4.2.1 a j = _
      rw [sq4.2.2 a j (fun e => n3 ⟨e.1, by have := e.2; omega, by have := e.2; omega⟩) (fun e => n4' ⟨e.1, by have := e.2; omega, by have := e.2; omega⟩), sq3.2.2 a j (fun e => n3 ⟨e.1, by have := e.2; omega, by have := e.2; omega⟩) (fun e => n4' ⟨e.1, by have := e.2; omega, by have := e.2; omega⟩), s2, if_neg n2, if_neg (fun e => n1 ⟨e.1, by have := e.2; omega, by have := e.2; omega⟩)]
end RTK
