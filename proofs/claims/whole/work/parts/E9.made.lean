/-! CALLS put together: what one that makes an act, or brings one, leaves -/
/-- what a call leaves of what the calculating rests on -/
def Ch (D : aD) (G : Nat → fo) (S : rs_S) (D' : aD) (G' : Nat → fo) (S' : rs_S) : Prop := S'.2.2 = S.2.2 ∧ S'.1 32 = S.1 32 ∧ (∀ a j, 12 ≤ a → a ≤ 15 → S'.2.1 a j = S.2.1 a j) ∧ (∀ a j, 33 ≤ a → a ≤ 37 → S'.2.1 a j = S.2.1 a j) ∧ (∀ j r, D j = some r → D' j = some r ∧ S'.2.1 10 j = S.2.1 10 j) ∧ ∀ p, p < 3 → S'.1 31 = Int32.ofNat p → S.1 31 = Int32.ofNat p ∧ fK (G' p) = fK (G p) ∧ fW (G' p) = fW (G p) ∧ fX (G' p) = fX (G p)
section MAD
variable {A A' A1 A2 : ah} {h h' h1 h2 : pm_H} {M M' : aM} {D : aD} {G : Nat → fo} {S S' S8 : rs_S} {T U : List Nat} {u v : Int64} {n k o i : Nat} {w : Option Nat} {r : rc} {Y : List Nat}
theorem SbSk_f (sb : Sb i (rs_setI S 0 0) S8) (sk : Sk o S8 S') : S'.2.2 = S.2.2 ∧ (∀ a, a ≠ 0 → a ≠ 31 → S'.1 a = S.1 a) ∧ S'.1 0 = 0 ∧ S'.1 31 = (if S.1 31 = Int32.ofNat o then -1 else S.1 31) ∧ ∀ a j, 12 ≤ a → a ≠ 16 → a ≠ 17 → a ≠ 19 → a ≠ 20 → S'.2.1 a j = S.2.1 a j := by
  obtain ⟨b1, b2, b3⟩ := sb
  obtain ⟨k1, k2, k3, k4⟩ := sk
  refine ⟨k1.trans b2, fun a h0 h31 => ?_, ?_, ?_, fun a j h12 n1 n2 n3 n4 => ?_⟩
  · rw [k2 a h31, b1]
    exact if_neg h0
  · rw [k2 0 (by omega), b1]
    rfl
  · rw [k3, b1]
    rfl
  · rw [k4 a j (fun e => n1 e.1) (fun e => n2 e.1) (fun e => n4 e.1) (fun e => n3 e.1), b3 a j (fun e => by have := e.2.1; omega) (fun e => by have := e.1; omega)]
    rfl
theorem Sb_10 (sb : Sb i (rs_setI S 0 0) S8) (sk : Sk o S8 S') {a j : Nat} (ha : a ≤ 11) (h1 : 1 ≤ a) (h4 : a ≠ 4) (hj : j ≠ i) : S'.2.1 a j = S.2.1 a j := by
  rw [sk.2.2.2 a j (fun e => by have := e.1; omega) (fun e => by have := e.1; omega) (fun e => by have := e.1; omega) (fun e => by have := e.1; omega), sb.2.2 a j (fun e => hj e.2.2.2) (fun e => h4 e.1)]
  rfl
/-- an act made on both sides: the core holds again -/
theorem IC_mk (R : ar A h) (I : IC M A D G S T U u) (R2 : ar A2 h2) (s2 : st A A2 Y n k) (hY : ∀ x ∈ Y, (94 ≤ x ∧ x < 145) ∨ x = 177) (hRef : RefC A2 S) (hCR : CR A2 T U) (C2 : CW M' A2 (up D i (some r)) (up G o (tkF (up D i (some r)) (G o) i))) (e177 : A2.1 177 = ac_c (.inr (1, [.long v]))) (g : Mag M M' D) (hD : D i = none) (H' : GW (up D i (some r)) (up G o (tkF (up D i (some r)) (G o) i))) (hR' : ∀ m, m < 3 → RT (up D i (some r)) m (up G o (tkF (up D i (some r)) (G o) i) m) S') (sb : Sb i (rs_setI S 0 0) S8) (sk : Sk o S8 S') (hct : rk r = 6 → ∃ c1 c2, S8.2.1 10 i = c1 ∧ S8.2.1 11 i = c2 ∧ cte M A D S (rct r) c1 ∧ cte M A D S (rcb r) c2) : IC M' (ahS A2 S') (up D i (some r)) (up G o (tkF (up D i (some r)) (G o) i)) S' T U v ∧ ar (ahS A2 S') (rs_h S' h2) := by
  obtain ⟨i1, i2, i3, i4, i5, i6, i7, i8⟩ := I
  obtain ⟨f1, f2, f3, f4, f5⟩ := SbSk_f sb sk
  have hl2 : 177 ≤ h2.1.length := by rw [ar_len R2]; have := C2.2.2.2; omega
  have R3 := ar_S (S' := S') R2 hRef hl2
  have s3 := ahS_st (A := A2) (S := S')
  have s23 := st_trans s2 s3
  have hY23 : ∀ x ∈ Y ++ (List.range 32).map (fun j => 145 + j), x < 178 := by
    intro x hx
    rcases List.mem_append.mp hx with q | q
    · have := hY x q; omega
    · have := rng_m q; omega
  have hS : ∀ a j, 12 ≤ a → a ≤ 15 → S'.2.1 a j = S.2.1 a j := fun a j h1 h2 => f5 a j h1 (by omega) (by omega) (by omega) (by omega)
  refine ⟨⟨ahS_C, CW_st C2 R2 s3 (fun x hx => by have := rng_m hx; omega), CR_st hCR R2 s3 (fun x hx => by have := rng_m hx; omega), st_c s3 R2 e177 (by intro q; cases q) (fun hx => by have := rng_m hx; omega), H', hR', ?_, ?_⟩, R3⟩
  · obtain ⟨x1, x2, x3, x4, x5, x6, x7⟩ := i7
    exact ⟨by rw [f2 22 (by omega) (by omega)]; exact x1, x2, x3, fun j hj => by rw [f5 21 j (by omega) (by omega) (by omega) (by omega) (by omega)]; exact x4 j hj, by rw [f2 39 (by omega) (by omega)]; exact x5, x6, fun j hj => by rw [f5 40 j (by omega) (by omega) (by omega) (by omega) (by omega)]; exact x7 j hj⟩
  · intro j q hq h6
    by_cases e : j = i
    · subst e
      rw [up_e] at hq
      cases hq
      obtain ⟨c1, c2, g1, g2, g3, g4⟩ := hct h6
      have e10 : S'.2.1 10 j = c1 := by
        rw [sk.2.2.2 10 j (fun e => by have := e.1; omega) (fun e => by have := e.1; omega) (fun e => by have := e.1; omega) (fun e => by have := e.1; omega)]
        exact g1
      have e11 : S'.2.1 11 j = c2 := by
        rw [sk.2.2.2 11 j (fun e => by have := e.1; omega) (fun e => by have := e.1; omega) (fun e => by have := e.1; omega) (fun e => by have := e.1; omega)]
        exact g2
      rw [e10, e11]
      exact ⟨cte_k R s23 hY23 g hD hS g3, cte_k R s23 hY23 g hD hS g4⟩
    · rw [up_n e] at hq
      obtain ⟨g3, g4⟩ := i8 j q hq h6
      rw [Sb_10 sb sk (by omega) (by omega) (by omega) e, Sb_10 sb sk (by omega) (by omega) (by omega) e]
      exact ⟨cte_k R s23 hY23 g hD hS g3, cte_k R s23 hY23 g hD hS g4⟩
theorem Ch_mk (hD : D i = none) (sb : Sb i (rs_setI S 0 0) S8) (sk : Sk o S8 S') (ho : o < 3) {F' : fo} : Ch D G S (up D i (some r)) (up G o F') S' := by
  obtain ⟨f1, f2, f3, f4, f5⟩ := SbSk_f sb sk
  refine ⟨f1, f2 32 (by omega) (by omega), fun a j h1 h2 => f5 a j h1 (by omega) (by omega) (by omega) (by omega), fun a j h1 h2 => f5 a j (by omega) (by omega) (by omega) (by omega) (by omega), fun j q hq => ?_, fun p hp e => ?_⟩
  · have hne := ne_D hD ⟨q, hq⟩
    exact ⟨up_D hD hq, Sb_10 sb sk (by omega) (by omega) (by omega) hne⟩
  · rw [f4] at e
    have ne : ∀ m, m < 3 → (-1 : Int32) ≠ Int32.ofNat m := fun m hm e => i32_lt m (by omega) (by rw [← e]; decide)
    by_cases z : S.1 31 = Int32.ofNat o
    · rw [if_pos z] at e
      exact absurd e (ne p hp)
    · rw [if_neg z] at e
      have hpo : p ≠ o := by intro q; rw [q] at e; exact z e
      rw [up_n hpo]
      exact ⟨e, rfl, rfl, rfl⟩
/-- the answer of a call laid down -/
theorem C177 (R1 : ar A1 h1) (e : A1.1 177 = ac_c (.inr (1, [.long u]))) (hRef : RefC A1 S) (hCR : CR A1 T U) (C1 : CW M A1 D G) : ∃ A2 h2, la_S pt_P h1 .lastore (some 177) (0 : Int32) (.inr (.inl v)) = some h2 ∧ ar A2 h2 ∧ st A1 A2 [177] 0 0 ∧ A2.1 177 = ac_c (.inr (1, [.long v])) ∧ RefC A2 S ∧ CR A2 T U ∧ CW M A2 D G := by
  obtain ⟨h2, p2, R2⟩ := st_177 (v := v) R1 e
  have s := st_set (y := .inr (1, [.long v])) e
  exact ⟨_, h2, p2, R2, s, ah_set_e, RefC_st hRef R1 s (by intro x hx; simp at hx; omega), CR_st hCR R1 s (by intro x hx; simp at hx; omega), CW_st C1 R1 s (by intro x hx; simp at hx; omega)⟩
end MAD
