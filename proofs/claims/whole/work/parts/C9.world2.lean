/-! THE WORLD: an act comes to an office -/
section WL2
variable {D : aD} {G : Nat → fo} {F F' : fo} {o o' i j l k kd p x y z n : Nat} {r : rc}
theorem G1_tk (H : GW D G) (I : G1 D G o F) (hi : D i = some r) (hn : i % 40 = fK F (i / 40)) (hrd : rdy D F i = true) (hno : i / 40 ≠ o) : G1 D G o (tkF D F i) := by
  obtain ⟨W, hs, hwk, hwr, hwq, hmd, hst, hof⟩ := H
  obtain ⟨a1, a2, a3, a4, a5, a6⟩ := I
  obtain ⟨N2, Wf2, -, -⟩ := WN_tk W a1 a2.1 hi hn
  refine ⟨Wf2, OI_tk W hs hwk hwq a1 a2 hi hn hrd, fun j hj ht => ?_, fun j hj hjo => ?_, ?_, ?_⟩
  · rw [tkF_A, tkF_C]
    rcases (tkn_tk hn).mp ht with g | g
    · obtain ⟨g1, g2⟩ := a3 j hj g
      refine ⟨?_, by omega⟩
      by_cases e : j = i
      · rw [e, up_e]
      · rw [up_n e]; exact g1
    · rw [g, up_e]
      exact ⟨rfl, by omega⟩
  · rw [tkF_A] at hj
    rw [tkn_tk hn]
    by_cases e : j = i
    · exact Or.inr e
    · rw [up_n e] at hj
      exact Or.inl (a4 j hj hjo)
  · rw [tkF_C]
    have := (hst i r hi).2.1
    omega
  · rw [tkF_K, up_n (fun e => hno e.symm)]
    exact a6
theorem G1_fsr (I : G1 D G o F) (e : fsr D F = some i) : (∃ r, D i = some r) ∧ i % 40 = fK F (i / 40) ∧ fA F i = true ∧ rdy D F i = true ∧ i / 40 ≠ o := by
  obtain ⟨h1, h2, h3, h4⟩ := fsr_D I.1 e
  refine ⟨h1, h2, h3, h4, fun g => ?_⟩
  have := I.2.2.2.1 i h3 g
  unfold tkn at this
  omega
theorem G1_tkW (H : GW D G) : ∀ n F, G1 D G o F → G1 D G o (tkW D n F)
  | 0, F, I => I
  | n + 1, F, I => by
    rw [tkW]
    cases e : fsr D F with
    | none => exact I
    | some i =>
      obtain ⟨⟨r, hi⟩, h2, h3, h4, h5⟩ := G1_fsr I e
      exact G1_tkW H n _ (G1_tk H I hi h2 h4 h5)
def cK (F : fo) : Nat := fK F 0 + fK F 1 + fK F 2
theorem cK_tk (hn : i % 40 = fK F (i / 40)) (hi : i < 120) : cK (tkF D F i) = cK F + 1 := by
  unfold cK
  rw [tkF_K]
  have h3 : i / 40 = 0 ∨ i / 40 = 1 ∨ i / 40 = 2 := by omega
  rcases h3 with e | e | e
  · rw [e] at hn ⊢
    rw [up_e, up_n (by omega), up_n (by omega)]
    omega
  · rw [e] at hn ⊢
    rw [up_e, up_n (by omega), up_n (by omega)]
    omega
  · rw [e] at hn ⊢
    rw [up_e, up_n (by omega), up_n (by omega)]
    omega
theorem tkW_end (H : GW D G) : ∀ n F, G1 D G o F → 120 ≤ cK F + n → fsr D (tkW D n F) = none
  | 0, F, I, h => by
    have k0 := I.1.2.1 0
    have k1 := I.1.2.1 1
    have k2 := I.1.2.1 2
    unfold cK at h
    refine fsr_none (fun m hm => ?_)
    show cnd D F m = false
    unfold cnd
    have hm' : m = 0 ∨ m = 1 ∨ m = 2 := by omega
    have : ¬ fK F m < 40 := by
      rcases hm' with e | e | e <;> rw [e] <;> omega
    rw [decide_eq_false this]
    rfl
  | n + 1, F, I, h => by
    rw [tkW]
    cases e : fsr D F with
    | none => exact e
    | some i =>
      obtain ⟨⟨r, hi⟩, h2, h3, h4, h5⟩ := G1_fsr I e
      refine tkW_end H n _ (G1_tk H I hi h2 h4 h5) ?_
      rw [cK_tk h2 (H.1 i r hi).1]
      omega
theorem G1_rcA (I : G1 D G o F) (hi : D i = some r) (hno : i / 40 ≠ o) : G1 D G o (rcA F i) := by
  obtain ⟨a1, a2, a3, a4, a5, a6⟩ := I
  obtain ⟨b1, b2, b3, b4, b5, b6, b7⟩ := a1
  refine ⟨⟨b1, b2, fun x hx => ?_, b4, b5, b6, b7⟩, a2, fun j hj ht => ?_, fun j hj hjo => ?_, a5, a6⟩
  · have hx' : up (fA F) i true x = true := hx
    by_cases q : x = i
    · rw [q]; exact ⟨r, hi⟩
    · rw [up_n q] at hx'; exact b3 x hx'
  · obtain ⟨g1, g2⟩ := a3 j hj ht
    refine ⟨?_, g2⟩
    show up (fA F) i true j = true
    by_cases q : j = i
    · rw [q, up_e]
    · rw [up_n q]; exact g1
  · have hj' : up (fA F) i true j = true := hj
    by_cases q : j = i
    · rw [q] at hjo; exact absurd hjo hno
    · rw [up_n q] at hj'; exact a4 j hj' hjo
theorem G1_rcv (H : GW D G) (ho : o < 3) (hi : D i = some r) (hno : i / 40 ≠ o) : G1 D G o (rcv D (G o) i).2 ∧ fsr D (rcv D (G o) i).2 = none := by
  have hi120 := (H.1 i r hi).1
  obtain ⟨I, f0⟩ := H.2.2.2.2.2.2.2 o ho
  unfold rcv
  by_cases z : fA (G o) i = true
  · rw [if_pos z]
    exact ⟨I, f0⟩
  · rw [if_neg z]
    have IA := G1_rcA I hi hno
    by_cases z2 : rdy D (G o) i = true
    · rw [if_pos z2]
      have hn : i % 40 = fK (rcA (G o) i) (i / 40) := by
        have h1 : ¬ tkn (G o) i := fun t => z (I.2.2.1 i hi120 t).1
        have h2 : rpa r (i / 40) ≤ fK (G o) (i / 40) := rdy_le hi z2 _ (by omega)
        rw [H.2.2.2.1 i r hi] at h2
        unfold tkn at h1
        show i % 40 = fK (G o) (i / 40)
        omega
      have IT := G1_tk H IA hi hn (show rdy D (rcA (G o) i) i = true from z2) hno
      exact ⟨G1_tkW H 120 _ IT, tkW_end H 120 _ IT (by omega)⟩
    · rw [if_neg z2]
      refine ⟨IA, fsr_none (fun m hm => ?_)⟩
      have hc := fsr_cnd f0 m hm
      have er : rdy D (rcA (G o) i) (40 * m + fK (G o) m) = rdy D (G o) (40 * m + fK (G o) m) := rfl
      unfold cnd at hc ⊢
      show (decide (fK (G o) m < 40) && (up (fA (G o)) i true (40 * m + fK (G o) m) && rdy D (rcA (G o) i) (40 * m + fK (G o) m))) = false
      rw [er]
      by_cases q : 40 * m + fK (G o) m = i
      · have : rdy D (G o) (40 * m + fK (G o) m) = false := by
          rw [q]
          cases g : rdy D (G o) i with
          | false => rfl
          | true => exact absurd g z2
        rw [this]
        simp
      · rw [up_n q]
        exact hc
theorem GW_rc (H : GW D G) (ho : o < 3) (hi : D i = some r) (hno : i / 40 ≠ o) : GW D (up G o (rcv D (G o) i).2) := by
  obtain ⟨J, f1⟩ := G1_rcv H ho hi hno
  obtain ⟨W, hs, hwk, hwr, hwq, hmd, hst, hof⟩ := H
  have hKo := J.2.2.2.2.2
  have hKm : ∀ m, fK (up G o (rcv D (G o) i).2 m) m = fK (G m) m := by
    intro m
    by_cases e : m = o
    · subst e; rw [up_e]; exact hKo
    · rw [up_n e]
  have hNG : NG (up G o (rcv D (G o) i).2) = NG G := by
    unfold NG
    rw [hKm, hKm, hKm]
  refine ⟨W, hs, hwk, hwr, hwq, fun j hj => ?_, fun j q hq => ?_, fun m hm => ?_⟩
  · rw [hmd j hj]
    unfold tkn
    rw [hKm]
  · rw [hNG]
    obtain ⟨g1, g2, g3⟩ := hst j q hq
    exact ⟨g1, g2, fun m hm => by rw [hKm]; exact g3 m hm⟩
  · by_cases e : m = o
    · subst e
      rw [up_e]
      obtain ⟨b1, b2, b3, b4, b5, b6⟩ := J
      exact ⟨⟨b1, b2, b3, b4, by rw [hNG]; exact b5, by rw [up_e]⟩, f1⟩
    · rw [up_n e]
      obtain ⟨⟨b1, b2, b3, b4, b5, b6⟩, f⟩ := hof m hm
      exact ⟨⟨b1, b2, b3, b4, by rw [hNG]; exact b5, by rw [up_n e]⟩, f⟩
end WL2
