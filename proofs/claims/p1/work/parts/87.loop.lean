/-! THE LAW's LOOP: what holds at its head, call by call, carries it to its end -/
theorem i32_lt (j : Nat) (hj : j < 2 ^ 31) : ¬ Int32.ofNat j < 0 := by
  rw [Int32.lt_iff_toInt_lt, Int32.toInt_ofNat_of_lt hj]
  have : (0 : Int32).toInt = 0 := rfl
  omega
theorem la_ix_of {j n : Nat} (hj : j < n) (hn : n < 2 ^ 31) : la_ix (Int32.ofNat j) n = some j := by
  unfold la_ix
  have h1 : (Int32.ofNat j).toNatClampNeg = j := Int32.toNatClampNeg_ofNat_of_lt (by omega)
  rw [if_neg (i32_lt j (by omega)), h1, if_pos hj]
theorem la_scr {h : pm_H} {xs : List Int32} (hc : h.1[0]? = some (.inr (0, xs.map Value.int))) (hl : xs.length < 2 ^ 31) {j : Nat} (hj : j < xs.length) : la_I h .iaload (some 0) (Int32.ofNat j) = some (xs.getD j 0) := by
  have h1 : la_arr h (some 0) = some (0, 0, xs.map Value.int) := by
    unfold la_arr
    simp only [hc]
  have h2 : (xs.map Value.int)[j]? = some (.int (xs.getD j 0)) := by
    rw [List.getElem?_map, List.getElem?_eq_getElem hj]
    simp [List.getD_eq_getElem?_getD, List.getElem?_eq_getElem hj]
  unfold la_I la_V
  simp only [h1, pm_ldk, beq_self_eq_true, if_true, List.length_map, la_ix_of hj hl, h2, tm_of]
theorem la_scrl {h : pm_H} {xs : List Int32} (hc : h.1[0]? = some (.inr (0, xs.map Value.int))) : la_len h (some 0) = some (Int32.ofNat xs.length) := by
  have h1 : la_arr h (some 0) = some (0, 0, xs.map Value.int) := by
    unfold la_arr
    simp only [hc]
  unfold la_len
  simp only [h1]
  rw [if_neg (by decide), List.length_map]
theorem i32_sub5 {L c : Nat} (hL : L < 2 ^ 30) (hc : c < 2 ^ 30) : (Int32.ofNat L - 5 < Int32.ofNat c) ↔ L < c + 5 := by
  rw [Int32.lt_iff_toInt_lt, Int32.toInt_sub, Int32.toInt_ofNat_of_lt (by omega), Int32.toInt_ofNat_of_lt (by omega)]
  have e5 : (5 : Int32).toInt = 5 := rfl
  rw [e5]
  have e : ((L : Int) - 5).bmod (2 ^ 32) = (L : Int) - 5 := by
    apply Int.bmod_eq_of_le <;> omega
  rw [e]
  omega
theorem i32_add (a b : Nat) : Int32.ofNat a + Int32.ofNat b = Int32.ofNat (a + b) := (Int32.ofNat_add a b).symm
/-- the loop -/
theorem pt_loop {w : Option Nat} {xs : List Int32} (hL : xs.length < 2 ^ 30) (Inv : Nat → pm_H → Prop) (hbase : ∀ c h, Inv c h → h.1[0]? = some (.inr (0, xs.map Value.int)))
    (hstep : ∀ c h, Inv c h → 5 * c + 5 ≤ xs.length → ∃ h3, pt_Op w (xs.getD (5 * c) 0) (xs.getD (5 * c + 1) 0) (xs.getD (5 * c + 2) 0) (xs.getD (5 * c + 3) 0) (xs.getD (5 * c + 4) 0) h h3 ∧ Inv (c + 1) h3) :
    ∀ (n c : Nat) (h : pm_H), Inv c h → 5 * c ≤ xs.length → xs.length < 5 * (c + n) → ∃ c' h', Inv c' h' ∧ 5 * c' ≤ xs.length ∧ l0_23 (tx w) n (some 0) (some 81) (some 145) (some 177) (Int32.ofNat (5 * c)) h = some (.inl (some (.inl 1)), h') := by
  intro n
  induction n with
  | zero => intro c h _ h1 h2; omega
  | succ n ih =>
    intro c h hI h1 h2
    have hc := hbase c h hI
    have hl := la_scrl hc
    by_cases hlt : xs.length < 5 * c + 5
    · refine ⟨c, h, hI, h1, ?_⟩
      rw [l0_23]
      simp only [hl, Option.bind_some]
      rw [if_pos ((i32_sub5 hL (by omega)).mpr hlt)]
    · obtain ⟨h3, ho, hI3⟩ := hstep c h hI (by omega)
      have hr : ∀ j, j < 5 → la_I h .iaload (some 0) (Int32.ofNat (5 * c) + Int32.ofNat j) = some (xs.getD (5 * c + j) 0) := by
        intro j hj
        rw [i32_add]
        exact la_scr hc (by omega) (by omega)
      have r0 : la_I h .iaload (some 0) (Int32.ofNat (5 * c)) = some (xs.getD (5 * c) 0) := la_scr hc (by omega) (by omega)
      obtain ⟨c', h', k1, k2, k3⟩ := ih (c + 1) h3 hI3 (by omega) (by omega)
      refine ⟨c', h', k1, k2, ?_⟩
      rw [ox_round hl (fun q => hlt ((i32_sub5 hL (by omega)).mp q)) r0 (hr 1 (by omega)) (hr 2 (by omega)) (hr 3 (by omega)) (hr 4 (by omega)) ho]
      have e : Int32.ofNat (5 * c) + 5 = Int32.ofNat (5 * (c + 1)) := by
        rw [show 5 * (c + 1) = 5 * c + 5 by omega]
        exact i32_add (5 * c) 5
      rw [e]
      exact k3
