/-! THE REFERENCE delivers an act -/
def wtB (F : fo) (i : Nat) : Bool := fA F i && !tkB F i
/-- an office, as the reference has it -/
def RT (D : aD) (o : Nat) (F : fo) (S : rs_S) : Prop := RO D o F S ∧ S.2.1 17 o = Int32.ofNat (fC F) ∧ (∀ k, k < 2 → SH o k (xS (fX F k)) S) ∧ ∀ i, i < 120 → S.2.1 18 (120 * o + i) = if wtB F i = true then 1 else 0
/-- what the taking of acts at an office leaves -/
def Sr (o : Nat) (S S' : rs_S) : Prop := S'.2.2 = S.2.2 ∧ (∀ a, a ≠ 31 → S'.1 a = S.1 a) ∧ (S'.1 31 = S.1 31 ∨ S'.1 31 = -1) ∧ ∀ a j, ¬ (a = 16 ∧ 3 * o ≤ j ∧ j < 3 * o + 3) → ¬ (a = 17 ∧ j = o) → ¬ (a = 18 ∧ 120 * o ≤ j ∧ j < 120 * o + 120) → ¬ (a = 20 ∧ 2 * o ≤ j ∧ j < 2 * o + 2) → ¬ (a = 19 ∧ 240 * o ≤ j ∧ j < 240 * o + 240) → S'.2.1 a j = S.2.1 a j
section RDL
variable {D : aD} {G : Nat → fo} {S S' S2 : rs_S} {F F' : fo} {o o' i j l k m p x y z : Nat} {r : rc}
theorem Sr_refl : Sr o S S := ⟨rfl, fun _ _ => rfl, Or.inl rfl, fun _ _ _ _ _ _ _ => rfl⟩
theorem Sr_tr (h1 : Sr o S S') (h2 : Sr o S' S2) : Sr o S S2 := by
  obtain ⟨a1, a2, a3, a4⟩ := h1
  obtain ⟨b1, b2, b3, b4⟩ := h2
  refine ⟨b1.trans a1, fun a h => (b2 a h).trans (a2 a h), ?_, fun a j n1 n2 n3 n4 n5 => (b4 a j n1 n2 n3 n4 n5).trans (a4 a j n1 n2 n3 n4 n5)⟩
  rcases b3 with e | e
  · rw [e]; exact a3
  · exact Or.inr e
theorem Sr_Sk (h : Sk o S S') : Sr o S S' := by
  obtain ⟨a1, a2, a3, a4⟩ := h
  refine ⟨a1, a2, ?_, fun a j n1 n2 _ n4 n5 => a4 a j n1 n2 n4 n5⟩
  rw [a3]
  split
  · exact Or.inr rfl
  · exact Or.inl rfl
theorem q257 (R : RT D o F S) (Wff : Wf D o F) (W : Wd D) (hm : m < 3) : rf_257 (Int32.ofNat o) (Int32.ofNat m) S = some ((if cnd D F m = true then 1 else 0), S) := by
  obtain ⟨RO', -, -, hw⟩ := R
  obtain ⟨ho, hD, hK, hF, hT⟩ := RO'
  have hk40 := hF m
  have ix : ∀ m j, ((3 : Int32) * Int32.ofNat m) + Int32.ofNat j = Int32.ofNat (3 * m + j) := fun m j => by
    rw [show (3 : Int32) * Int32.ofNat m = Int32.ofNat (3 * m) from i32_ml 3 m, i32_add]
  have ix0 : ∀ m, ((3 : Int32) * Int32.ofNat m) = Int32.ofNat (3 * m + 0) := fun m => i32_ml 3 m
  have ix1 : ∀ m, ((3 : Int32) * Int32.ofNat m) + (1 : Int32) = Int32.ofNat (3 * m + 1) := fun m => ix m 1
  have ix2 : ∀ m, ((3 : Int32) * Int32.ofNat m) + (2 : Int32) = Int32.ofNat (3 * m + 2) := fun m => ix m 2
  have ii : ((40 : Int32) * Int32.ofNat m) + Int32.ofNat (fK F m) = Int32.ofNat (40 * m + fK F m) := by
    rw [show (40 : Int32) * Int32.ofNat m = Int32.ofNat (40 * m) from i32_ml 40 m, i32_add]
  have iw : ((120 : Int32) * Int32.ofNat o) + Int32.ofNat (40 * m + fK F m) = Int32.ofNat (120 * o + (40 * m + fK F m)) := by
    rw [show (120 : Int32) * Int32.ofNat o = Int32.ofNat (120 * o) from i32_ml 120 o, i32_add]
  unfold rf_257 cnd
  rw [ix, rdI (n := 9) (by decide) (by omega) (by omega), Option.bind_some, Option.bind_some, hK m hm]
  by_cases z : fK F m < 40
  · rw [if_neg (show ¬ Int32.ofNat (fK F m) = (40 : Int32) from fun e => by have := i32_inj (b := 40) (by omega) (by omega) e; omega), ii, iw, rdI (n := 360) (by decide) (by omega) (by omega), Option.bind_some, hw _ (by omega)]
    have htk : tkB F (40 * m + fK F m) = false := by
      unfold tkB
      rw [show (40 * m + fK F m) / 40 = m by omega, show (40 * m + fK F m) % 40 = fK F m by omega]
      exact decide_eq_false (by omega)
    unfold wtB
    rw [htk, decide_eq_true z]
    simp only [Bool.not_false, Bool.and_true, Bool.true_and]
    cases hf : fA F (40 * m + fK F m) with
    | false =>
      rw [if_pos (show (if false = true then (1 : Int32) else 0) = 0 from rfl)]
      rfl
    | true =>
      obtain ⟨r, hr⟩ := Wff.2.2.1 _ hf
      have w1 := W _ r hr
      have d4 := (hD _ r hr).2.2.2.1
      have hp := w1.2.2.2.2.1
      rw [if_pos rfl, if_neg (by decide), ix1 (40 * m + fK F m), ix2 (40 * m + fK F m), ix0 (40 * m + fK F m), ix1 o, ix2 o, ix0 o, rdI (n := 360) (by decide) (by omega) (by omega), Option.bind_some, rdI (n := 9) (by decide) (by omega) (by omega), Option.bind_some, d4 0 (by omega), hK 0 (by omega), rdI (n := 360) (by decide) (by omega) (by omega), Option.bind_some, rdI (n := 9) (by decide) (by omega) (by omega), Option.bind_some, d4 1 (by omega), hK 1 (by omega), rdI (n := 360) (by decide) (by omega) (by omega), Option.bind_some, rdI (n := 9) (by decide) (by omega) (by omega), Option.bind_some, d4 2 (by omega), hK 2 (by omega)]
      unfold rdy
      rw [hr]
      simp only [Option.elim_some, Bool.true_and]
      have hp0 := hp 0
      have hp1 := hp 1
      have hp2 := hp 2
      have f0 := hF 0
      have f1 := hF 1
      have f2 := hF 2
      by_cases z0 : rpa r 0 ≤ fK F 0
      · rw [if_neg (fun e => by have := (i32_ltn (by omega) (by omega)).mp e; omega)]
        by_cases z1 : rpa r 1 ≤ fK F 1
        · rw [if_neg (fun e => by have := (i32_ltn (by omega) (by omega)).mp e; omega)]
          by_cases z2 : rpa r 2 ≤ fK F 2
          · rw [if_neg (fun e => by have := (i32_ltn (by omega) (by omega)).mp e; omega), if_pos (by simp [z0, z1, z2])]
          · rw [if_pos ((i32_ltn (by omega) (by omega)).mpr (by omega)), if_neg (by simp [z2])]
        · rw [if_pos ((i32_ltn (by omega) (by omega)).mpr (by omega)), if_neg (by simp [z1])]
      · rw [if_pos ((i32_ltn (by omega) (by omega)).mpr (by omega)), if_neg (by simp [z0])]
  · have e40 : fK F m = 40 := by omega
    rw [if_pos (by rw [e40]; rfl), if_neg (by simp [z])]
theorem wrZ {n : Nat} {v : Int32} (hv : v = 0 ∨ v = 1) (hk : rs_len k = n) (hi : i < n) (hn : n < 2 ^ 31) : wr_Z S k (Int32.ofNat i) v = some (rs_setA S k i v) := by
  unfold wr_Z
  rw [if_pos hv, hk, la_ix_of hi hn]
  rfl
/-- one that waited is taken -/
theorem q256t (H : GW D G) (I : G1 D G o F) (R : RT D o F S) (hi : D i = some r) (hn : i % 40 = fK F (i / 40)) (hrd : rdy D F i = true) (hno : i / 40 ≠ o) : ∃ S', rf_247 (Int32.ofNat o) (Int32.ofNat i) (rs_setA S 18 (120 * o + i) 0) = some ((), S') ∧ RT D o (tkF D F i) S' ∧ Sr o S S' ∧ S'.1 31 ≠ Int32.ofNat o := by
  have I' := G1_tk H I hi hn hrd hno
  obtain ⟨RO', hT, hSH, hw⟩ := R
  have ho := RO'.1
  have hi120 := (H.1 i r hi).1
  have R1 : RO D o F (rs_setA S 18 (120 * o + i) 0) := by
    obtain ⟨a1, a2, a3, a4, a5⟩ := RO'
    exact ⟨a1, RD_n (fun n i _ _ h _ _ => set_a h) a2, fun j hj => by rw [set_a (by omega)]; exact a3 j hj, a4, a5⟩
  obtain ⟨S', e1, e2, e3, e4, e5⟩ := q247 R1 H.1 H.2.1 H.2.2.1 hi hi120 rfl hn I.1.2.2.2.2.2.1 (by rw [set_a (by omega)]; exact hT) I'.2.1 I'.1
  refine ⟨S', e1, ⟨e2, e3, e4, fun j hj => ?_⟩, ?_, ?_⟩
  · rw [e5.2.2.2 18 (120 * o + j) (fun e => by have := e.1; omega) (fun e => by have := e.1; omega) (fun e => by have := e.1; omega) (fun e => by have := e.1; omega)]
    unfold wtB
    rw [tkF_A]
    by_cases e : j = i
    · subst e
      rw [set_e]
      have : tkB (tkF D F j) j = true := (tkB_tk hn).mpr (Or.inr rfl)
      rw [this, if_neg (by simp)]
    · rw [set_i (by omega), hw j hj, up_n e]
      have : tkB (tkF D F i) j = tkB F j := by
        cases g : tkB F j with
        | true => exact (tkB_tk hn).mpr (Or.inl g)
        | false =>
          cases g2 : tkB (tkF D F i) j with
          | false => rfl
          | true =>
            rcases (tkB_tk hn).mp g2 with q | q
            · exact absurd q (by rw [g]; decide)
            · exact absurd q e
      rw [this]
      rfl
  · refine Sr_tr (S' := rs_setA S 18 (120 * o + i) 0) ⟨rfl, fun _ _ => rfl, Or.inl rfl, fun a j _ _ n3 _ _ => ?_⟩ (Sr_Sk e5)
    exact if_neg (fun e => n3 ⟨e.1, by have := e.2; omega, by have := e.2; omega⟩)
  · rw [e5.2.2.1]
    have ne : (-1 : Int32) ≠ Int32.ofNat o := fun e => i32_lt o (by omega) (by rw [← e]; decide)
    split
    · exact ne
    · next g => exact g
end RDL
