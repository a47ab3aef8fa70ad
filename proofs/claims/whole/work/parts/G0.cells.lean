/-! THE REFERENCE lists the cells of an office -/
/-- where a cell stands in a list -/
def fnd : List (Nat × Nat) → Nat → Nat → Nat → Option Nat
  | [], _, _, _ => none
  | p :: cs, i, y, z => if p.1 = y ∧ p.2 = z then some i else fnd cs (i + 1) y z
def wtk (D : aD) (F : fo) (j : Nat) : Bool := tkB F j && decide (knd D j = 6)
/-- the cells written by n acts from j on -/
def clk (D : aD) (F : fo) : Nat → Nat → List (Nat × Nat) → List (Nat × Nat)
  | 0, _, cs => cs
  | n + 1, j, cs => clk D F n (j + 1) (if wtk D F j = true ∧ fnd cs 0 (rwo D j) (clo D j) = none then cs ++ [(rwo D j, clo D j)] else cs)
/-- the cells as the reference has them -/
def CS (D : aD) (F : fo) (cs : List (Nat × Nat)) (S : rs_S) : Prop := S.1 32 = Int32.ofNat cs.length ∧ cs.length ≤ 120 ∧ ∀ j, j < cs.length → (cs.getD j (0, 0)).1 < 120 ∧ (cs.getD j (0, 0)).2 < 120 ∧ S.2.1 33 j = Int32.ofNat (cs.getD j (0, 0)).1 ∧ S.2.1 34 j = Int32.ofNat (cs.getD j (0, 0)).2 ∧ S.2.1 35 j = oi (wtc D F (cs.getD j (0, 0)).1 (cs.getD j (0, 0)).2)
/-- what the working out leaves as it was -/
def Sc (S S' : rs_S) : Prop := (∀ a, a ≠ 31 → a ≠ 32 → S'.1 a = S.1 a) ∧ (∀ a j, a < 33 ∨ 36 < a → S'.2.1 a j = S.2.1 a j) ∧ ∀ a j, a ≠ 37 → a ≠ 38 → S'.2.2 a j = S.2.2 a j
section CEL
variable {D : aD} {S S' S2 : rs_S} {F : fo} {o i j l k y z : Nat} {r : rc} {cs : List (Nat × Nat)}
theorem Sc_refl : Sc S S := ⟨fun _ _ _ => rfl, fun _ _ _ => rfl, fun _ _ _ _ => rfl⟩
theorem Sc_tr (h1 : Sc S S') (h2 : Sc S' S2) : Sc S S2 := ⟨fun a n1 n2 => (h2.1 a n1 n2).trans (h1.1 a n1 n2), fun a j n => (h2.2.1 a j n).trans (h1.2.1 a j n), fun a j n1 n2 => (h2.2.2 a j n1 n2).trans (h1.2.2 a j n1 n2)⟩
theorem Sc_A {a : Nat} {v : Int32} (h1 : 33 ≤ a) (h2 : a ≤ 36) : Sc S (rs_setA S a j v) := ⟨fun _ _ _ => rfl, fun b x n => if_neg (fun e => by have := e.1; omega), fun _ _ _ _ => rfl⟩
theorem Sc_J {a : Nat} {v : Int64} (h1 : a = 37 ∨ a = 38) : Sc S (rs_setJ S a j v) := ⟨fun _ _ _ => rfl, fun _ _ _ => rfl, fun b x n1 n2 => if_neg (fun e => by have := e.1; omega)⟩
theorem Sc_I {a : Nat} {v : Int32} (h1 : a = 31 ∨ a = 32) : Sc S (rs_setI S a v) := ⟨fun b n1 n2 => if_neg (by omega), fun _ _ _ => rfl, fun _ _ _ _ => rfl⟩
theorem RO_c (h : Sc S S') (R : RO D o F S) : RO D o F S' := by
  obtain ⟨a1, a2, a3, a4, a5⟩ := R
  refine ⟨a1, ?_, fun j hj => by rw [h.2.1 16 _ (by omega)]; exact a3 j hj, a4, a5⟩
  intro j q hq
  obtain ⟨d1, d2, d3, d4, d5, d6, d7, d8, d9⟩ := a2 j q hq
  rw [h.2.1 1 _ (by omega), h.2.1 3 _ (by omega), h.2.1 5 _ (by omega), h.2.1 2 _ (by omega), h.2.1 6 _ (by omega), h.2.1 7 _ (by omega), h.2.1 8 _ (by omega), h.2.1 9 _ (by omega)]
  exact ⟨d1, d2, d3, fun m hm => by rw [h.2.1 4 _ (by omega)]; exact d4 m hm, d5, d6, d7, d8, d9⟩
theorem gd_drop {cs : List (Nat × Nat)} (hi : i < cs.length) : cs.drop i = cs.getD i (0, 0) :: cs.drop (i + 1) := by
  rw [List.drop_eq_getElem_cons hi, List.getD_eq_getElem?_getD, List.getElem?_eq_getElem hi]
  rfl
theorem q283l (C : CS D F cs S) (hy : y < 120) (hz : z < 120) : ∀ n m j, j + n = cs.length → n < m → r283_2 m (Int32.ofNat y) (Int32.ofNat z) (Int32.ofNat j) S = some (oi (fnd (cs.drop j) j y z), S) := by
  obtain ⟨c1, c2, c3⟩ := C
  intro n
  induction n with
  | zero =>
    intro m j h1 h2
    cases m with
    | zero => omega
    | succ m =>
      rw [r283_2]
      dsimp only
      rw [c1, if_pos ((i32_len (by omega) (by omega)).mpr (by omega)), List.drop_of_length_le (by omega)]
      rfl
  | succ n ih =>
    intro m j h1 h2
    cases m with
    | zero => omega
    | succ m =>
      have hj : j < cs.length := by omega
      obtain ⟨b1, b2, b3, b4, -⟩ := c3 j hj
      have n4 : Int32.ofNat j + (1 : Int32) = Int32.ofNat (j + 1) := i32_add j 1
      rw [r283_2]
      dsimp only
      rw [c1, if_neg (fun e => by have := (i32_len (by omega) (by omega)).mp e; omega), rdI (n := 120) (by decide) (by omega) (by omega), Option.bind_some, b3, gd_drop hj, fnd]
      by_cases z1 : (cs.getD j (0, 0)).1 = y
      · rw [if_pos (by rw [z1]), rdI (n := 120) (by decide) (by omega) (by omega), Option.bind_some, b4]
        by_cases z2 : (cs.getD j (0, 0)).2 = z
        · rw [if_pos (by rw [z2]), if_pos ⟨z1, z2⟩]
          rfl
        · rw [if_neg (fun e => z2 (i32_inj (by omega) (by omega) e)), if_neg (fun e => z2 e.2)]
          unfold r283_32
          rw [n4, ih m (j + 1) (by omega) (by omega)]
      · rw [if_neg (fun e => z1 (i32_inj (by omega) (by omega) e)), if_neg (fun e => z1 e.1)]
        unfold r283_32
        rw [n4, ih m (j + 1) (by omega) (by omega)]
theorem q283 (C : CS D F cs S) (hy : y < 120) (hz : z < 120) : rf_283 (Int32.ofNat y) (Int32.ofNat z) S = some (oi (fnd cs 0 y z), S) := by
  have := q283l C hy hz cs.length lf_N 0 (by omega) (by have := C.2.1; unfold lf_N; omega)
  rw [List.drop_zero] at this
  exact this
theorem fnd_lt : ∀ (cs : List (Nat × Nat)) (i y z j : Nat), fnd cs i y z = some j → i ≤ j ∧ j < i + cs.length ∧ cs.getD (j - i) (0, 0) = (y, z)
  | [], _, _, _, _, e => by cases e
  | p :: cs, i, y, z, j, e => by
    rw [fnd] at e
    by_cases h : p.1 = y ∧ p.2 = z
    · rw [if_pos h] at e
      cases e
      refine ⟨Nat.le_refl _, by rw [List.length_cons]; omega, ?_⟩
      rw [Nat.sub_self]
      show p = (y, z)
      exact Prod.ext h.1 h.2
    · rw [if_neg h] at e
      obtain ⟨h1, h2, h3⟩ := fnd_lt cs (i + 1) y z j e
      refine ⟨by omega, by rw [List.length_cons]; omega, ?_⟩
      rw [show j - i = (j - (i + 1)) + 1 by omega, List.getD_cons_succ]
      exact h3
theorem q255w (R : RO D o F S) (W : Wd D) (hs : WS D) (I : OI D F) (hy : y < 120) (hz : z < 120) : rf_255 (Int32.ofNat o) (Int32.ofNat y) (Int32.ofNat z) S = some (oi (wtc D F y z), S) := by
  obtain ⟨c, g1, g2⟩ := q255 R W hy hz
  have hin : ∀ a b, (a < 120 ∧ qW D F y z a = true) → (b < 120 ∧ qW D F y z b = true) → stp D a = stp D b → a = b := by
    intro a b ha hb e
    have h1 : ∀ x, (x < 120 ∧ qW D F y z x = true) → AN D x := by
      intro x hx
      have h2 := hx.2
      unfold qW at h2
      simp only [Bool.and_eq_true] at h2
      exact R.2.2.2.2 x hx.1 (tkB_t.mp h2.1)
    exact hs.1 a b (h1 a ha) (h1 b hb) e
  rw [lat_un hin (I.2.2.1 y z).1 g2]
  exact g1
theorem CS_add (C : CS D F cs S) (hl : cs.length < 120) (hy : y < 120) (hz : z < 120) (hS : Sc S S') (e33 : S'.2.1 33 cs.length = Int32.ofNat y) (e34 : S'.2.1 34 cs.length = Int32.ofNat z) (e35 : S'.2.1 35 cs.length = oi (wtc D F y z)) (e32 : S'.1 32 = Int32.ofNat (cs.length + 1)) (fr : ∀ a j, 33 ≤ a → a ≤ 35 → j ≠ cs.length → S'.2.1 a j = S.2.1 a j) : CS D F (cs ++ [(y, z)]) S' := by
  obtain ⟨c1, c2, c3⟩ := C
  have hlen : (cs ++ [(y, z)]).length = cs.length + 1 := by rw [List.length_append]; rfl
  refine ⟨by rw [hlen]; exact e32, by rw [hlen]; omega, fun j hj => ?_⟩
  rw [hlen] at hj
  by_cases e : j = cs.length
  · subst e
    have hg : (cs ++ [(y, z)]).getD cs.length (0, 0) = (y, z) := by simp [List.getD_eq_getElem?_getD]
    rw [hg]
    exact ⟨hy, hz, e33, e34, e35⟩
  · have hlt : j < cs.length := by omega
    have hg : (cs ++ [(y, z)]).getD j (0, 0) = cs.getD j (0, 0) := by simp [List.getD_eq_getElem?_getD, List.getElem?_append_left hlt]
    rw [hg, fr 33 j (by omega) (by omega) e, fr 34 j (by omega) (by omega) e, fr 35 j (by omega) (by omega) e]
    exact c3 j hlt
def Z0 (n : Nat) (S : rs_S) : Prop := ∀ j, j < n → S.2.1 36 j = 0 ∧ S.2.2 37 j = 0
theorem q282l (W : Wd D) (hs : WS D) (I : OI D F) : ∀ n m j cs S, RO D o F S → CS D F cs S → Z0 cs.length S → cs.length ≤ j → j + n = 120 → n < m → ∃ S', r282_7 m (Int32.ofNat o) (Int32.ofNat j) S = some ((), S') ∧ Sc S S' ∧ S'.1 31 = S.1 31 ∧ CS D F (clk D F n j cs) S' ∧ Z0 (clk D F n j cs).length S' := by
  intro n
  induction n with
  | zero =>
    intro m j cs S R C hZ hl h1 h2
    have e : j = 120 := by omega
    subst e
    cases m with
    | zero => omega
    | succ m =>
      rw [r282_7]
      dsimp only
      rw [if_pos (by decide)]
      exact ⟨S, rfl, Sc_refl, rfl, C, hZ⟩
  | succ n ih =>
    intro m j cs S R C hZ hl h1 h2
    cases m with
    | zero => omega
    | succ m =>
      have n4 : Int32.ofNat j + (1 : Int32) = Int32.ofNat (j + 1) := i32_add j 1
      have hj : j < 120 := by omega
      have R' := R
      obtain ⟨ho, hD, hK, hF, hT⟩ := R'
      rw [r282_7]
      dsimp only
      rw [if_neg (show ¬ (120 : Int32) ≤ Int32.ofNat j from fun z => by have := (i32_len (a := 120) (by omega) (by omega)).mp z; omega), rdI (n := 120) (by decide) hj (by omega), Option.bind_some, q244 R hj, rb_r, clk]
      by_cases ht : tkB F j = true
      · obtain ⟨r, hr⟩ := hT j hj (tkB_t.mp ht)
        have w1 := W j r hr
        obtain ⟨d1, d2, d3, d4, d5, d6, d7, d8, d9⟩ := hD j r hr
        rw [d1]
        by_cases q6 : rk r = 6
        · obtain ⟨f1, f2, f3, f4⟩ := act_w0 W hr q6
          have hy := LN_lt W f1
          have hz := LN_lt W f2
          have hw : wtk D F j = true := by unfold wtk; rw [ht, knd_e hr]; simp [q6]
          rw [if_pos (by rw [q6]; rfl), if_pos ht, if_neg (by decide), rdI (n := 120) (by decide) hj (by omega), Option.bind_some, (d6 q6).1, rdI (n := 120) (by decide) hj (by omega), Option.bind_some, (d6 q6).2, q283 C hy hz, rb_r]
          cases hf : fnd cs 0 (rwo D j) (clo D j) with
          | some x =>
            have hx := fnd_lt cs 0 _ _ x hf
            have hc2 := C.2.1
            rw [if_pos (show (0 : Int32) ≤ oi (some x) from (i32_len (a := 0) (b := x) (by omega) (by omega)).mpr (Nat.zero_le _)), if_neg (fun e => by have := e.2; cases this)]
            unfold r282_138
            rw [n4]
            exact ih m (j + 1) cs S R C hZ (by omega) (by omega) (by omega)
          | none =>
            have c1 := C.1
            have hlt : cs.length < 120 := by omega
            obtain ⟨S4, hS4⟩ : ∃ S4, S4 = rs_setA (rs_setA S 33 cs.length (Int32.ofNat (rwo D j))) 34 cs.length (Int32.ofNat (clo D j)) := ⟨_, rfl⟩
            have sc4 : Sc S S4 := by rw [hS4]; exact Sc_tr (Sc_A (by omega) (by omega)) (Sc_A (by omega) (by omega))
            have R4 := RO_c sc4 R
            have g255 := q255w R4 W hs I hy hz
            obtain ⟨S7, hS7⟩ : ∃ S7, S7 = rs_setI (rs_setJ (rs_setA (rs_setA S4 35 cs.length (oi (wtc D F (rwo D j) (clo D j)))) 36 cs.length 0) 37 cs.length 0) 32 (Int32.ofNat (cs.length + 1)) := ⟨_, rfl⟩
            have sc7 : Sc S S7 := by
              rw [hS7]
              exact Sc_tr sc4 (Sc_tr (Sc_tr (Sc_tr (Sc_A (by omega) (by omega)) (Sc_A (by omega) (by omega))) (Sc_J (Or.inl rfl))) (Sc_I (Or.inr rfl)))
            have a7 : ∀ a x, S7.2.1 a x = (rs_setA (rs_setA S4 35 cs.length (oi (wtc D F (rwo D j) (clo D j)))) 36 cs.length 0).2.1 a x := fun a x => by rw [hS7]; rfl
            have C7 : CS D F (cs ++ [(rwo D j, clo D j)]) S7 := by
              refine CS_add C hlt hy hz sc7 ?_ ?_ ?_ (by rw [hS7]; rfl) (fun a x h1 h2 h3 => ?_)
              · rw [a7, set_a (by omega), set_a (by omega), hS4, set_a (by omega), set_e]
              · rw [a7, set_a (by omega), set_a (by omega), hS4, set_e]
              · rw [a7, set_a (by omega), set_e]
              · rw [a7, set_i h3, set_i h3, hS4, set_i h3, set_i h3]
            have R7 := RO_c sc7 R
            have n5 : Int32.ofNat cs.length + (1 : Int32) = Int32.ofNat (cs.length + 1) := i32_add _ 1
            have e4 : S4.1 32 = Int32.ofNat cs.length := by rw [hS4]; exact c1
            have s5 : S4.2.1 5 j = Int32.ofNat (rwo D j) := by rw [sc4.2.1 5 j (by omega)]; exact (d6 q6).1
            have s6 : S4.2.1 6 j = Int32.ofNat (clo D j) := by rw [sc4.2.1 6 j (by omega)]; exact (d6 q6).2
            have Z7 : Z0 (cs ++ [(rwo D j, clo D j)]).length S7 := by
              intro x hx
              rw [List.length_append] at hx
              have hx' : x < cs.length + 1 := hx
              have e37 : S7.2.2 37 x = if x = cs.length then 0 else S.2.2 37 x := by
                rw [hS7, hS4]
                show (if 37 = 37 ∧ x = cs.length then (0 : Int64) else S.2.2 37 x) = _
                by_cases q : x = cs.length
                · rw [if_pos q, if_pos ⟨rfl, q⟩]
                · rw [if_neg q, if_neg (fun e => q e.2)]
              by_cases q : x = cs.length
              · rw [e37, if_pos q, a7, q, set_e]
                exact ⟨rfl, rfl⟩
              · rw [e37, if_neg q, a7, set_i q, set_i q, hS4, set_i q, set_i q]
                exact hZ x (by omega)
            obtain ⟨S', k1, k2, k3, k4⟩ := ih m (j + 1) _ S7 R7 C7 Z7 (by rw [List.length_append]; simp; omega) (by omega) (by omega)
            rw [if_neg (by decide), if_pos ⟨hw, rfl⟩]
            refine ⟨S', ?_, Sc_tr sc7 k2, k3.trans (by rw [hS7, hS4]; rfl), k4⟩
            rw [rdI (n := 120) (by decide) hj (by omega), Option.bind_some, (d6 q6).1, c1, wrI (n := 120) (by decide) hlt (by omega), Option.bind_some, rdI (n := 120) (by decide) hj (by omega), Option.bind_some, set_a (by omega), (d6 q6).2]
            rw [show (rs_setA S 33 cs.length (Int32.ofNat (rwo D j))).1 32 = Int32.ofNat cs.length from c1, wrI (n := 120) (by decide) hlt (by omega), Option.bind_some, ← hS4, rdI (n := 120) (by decide) hj (by omega), Option.bind_some, rdI (n := 120) (by decide) hj (by omega), Option.bind_some, s5, s6, g255, rb_r, e4, wrI (n := 120) (by decide) hlt (by omega), Option.bind_some]
            rw [show (rs_setA S4 35 cs.length (oi (wtc D F (rwo D j) (clo D j)))).1 32 = Int32.ofNat cs.length from e4, wrI (n := 120) (by decide) hlt (by omega), Option.bind_some]
            rw [show (rs_setA (rs_setA S4 35 cs.length (oi (wtc D F (rwo D j) (clo D j)))) 36 cs.length 0).1 32 = Int32.ofNat cs.length from e4]
            have eJ : wr_J (rs_setA (rs_setA S4 35 cs.length (oi (wtc D F (rwo D j) (clo D j)))) 36 cs.length 0) 37 (Int32.ofNat cs.length) 0 = some (rs_setJ (rs_setA (rs_setA S4 35 cs.length (oi (wtc D F (rwo D j) (clo D j)))) 36 cs.length 0) 37 cs.length 0) := by
              unfold wr_J
              rw [show rs_len 37 = 120 by decide, la_ix_of hlt (by omega)]
              rfl
            rw [eJ, Option.bind_some, rbS_r]
            rw [show (rs_setJ (rs_setA (rs_setA S4 35 cs.length (oi (wtc D F (rwo D j) (clo D j)))) 36 cs.length 0) 37 cs.length 0).1 32 = Int32.ofNat cs.length from e4, n5, ← hS7]
            unfold r282_138
            rw [n4]
            exact k1
        · have hw : ¬ (wtk D F j = true ∧ fnd cs 0 (rwo D j) (clo D j) = none) := fun e => by
            have h1 := e.1
            unfold wtk at h1
            rw [ht, knd_e hr] at h1
            simp [q6] at h1
          rw [if_neg (show ¬ Int32.ofNat (rk r) = (6 : Int32) from fun e => q6 (i32_inj (b := 6) (by have := w1.2.2.1; omega) (by omega) e)), if_neg hw]
          unfold r282_138
          rw [n4]
          exact ih m (j + 1) cs S R C hZ (by omega) (by omega) (by omega)
      · have hw : ¬ (wtk D F j = true ∧ fnd cs 0 (rwo D j) (clo D j) = none) := fun e => by
          have h1 := e.1
          unfold wtk at h1
          simp [ht] at h1
        rw [if_neg ht, if_pos rfl, if_neg hw]
        unfold r282_138
        rw [n4]
        simp only [ite_self]
        exact ih m (j + 1) cs S R C hZ (by omega) (by omega) (by omega)
/-- all cells that an office's writes are of -/
def clA (D : aD) (F : fo) (n : Nat) : List (Nat × Nat) := clk D F n 0 []
theorem q282 (R : RO D o F S) (W : Wd D) (hs : WS D) (I : OI D F) {n : Nat} (hn : n = 120) : ∃ S', rf_282 (Int32.ofNat o) S = some ((), S') ∧ Sc S S' ∧ S'.1 31 = S.1 31 ∧ CS D F (clA D F n) S' ∧ Z0 (clA D F n).length S' := by
  have s0 : Sc S (rs_setI S 32 0) := Sc_I (Or.inr rfl)
  have c0 : CS D F [] (rs_setI S 32 0) := ⟨rfl, Nat.zero_le _, fun j hj => (by cases hj)⟩
  obtain ⟨S', k1, k2, k3, k4⟩ := q282l (o := o) W hs I n lf_N 0 [] (rs_setI S 32 0) (RO_c s0 R) c0 (fun j hj => (by cases hj)) (Nat.le_refl _) (by omega) (by unfold lf_N; omega)
  refine ⟨S', ?_, Sc_tr s0 k2, k3, k4⟩
  unfold rf_282
  rw [rbS_r]
  exact k1
end CEL
