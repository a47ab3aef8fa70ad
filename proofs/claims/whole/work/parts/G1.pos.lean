/-! THE REFERENCE: positions of lines, references and blocks that are shown -/
theorem i32_divn {n k : Nat} (hn : n < 2 ^ 31) (hk : k < 2 ^ 31) : Int32.ofNat n / Int32.ofNat k = Int32.ofNat (n / k) := by
  have hq : n / k ≤ n := Nat.div_le_self _ _
  apply Int32.toInt_inj.mp
  rw [Int32.toInt_div, Int32.toInt_ofNat_of_lt hn, Int32.toInt_ofNat_of_lt hk, Int32.toInt_ofNat_of_lt (by omega)]
  have e : (n : Int).tdiv (k : Int) = ((n / k : Nat) : Int) := rfl
  rw [e]
  generalize n / k = q at hq
  apply Int.bmod_eq_of_le <;> omega
theorem i32_m128 {n : Nat} (hn : n < 2 ^ 31) : Int32.ofNat n / (128 : Int32) = Int32.ofNat (n / 128) ∧ Int32.ofNat n - Int32.ofNat n / (128 : Int32) * (128 : Int32) = Int32.ofNat (n % 128) := by
  have h1 : Int32.ofNat n / (128 : Int32) = Int32.ofNat (n / 128) := i32_divn (k := 128) hn (by omega)
  refine ⟨h1, ?_⟩
  rw [h1, show Int32.ofNat (n / 128) * (128 : Int32) = Int32.ofNat (n / 128 * 128) from i32_ml _ 128, i32_sub (by omega), show n - n / 128 * 128 = n % 128 by omega]
theorem i32_m16k {n : Nat} (hn : n < 2 ^ 31) : Int32.ofNat n / (16384 : Int32) = Int32.ofNat (n / 16384) ∧ Int32.ofNat n - Int32.ofNat n / (16384 : Int32) * (16384 : Int32) = Int32.ofNat (n % 16384) := by
  have h1 : Int32.ofNat n / (16384 : Int32) = Int32.ofNat (n / 16384) := i32_divn (k := 16384) hn (by omega)
  refine ⟨h1, ?_⟩
  rw [h1, show Int32.ofNat (n / 16384) * (16384 : Int32) = Int32.ofNat (n / 16384 * 16384) from i32_ml _ 16384, i32_sub (by omega), show n - n / 16384 * 16384 = n % 16384 by omega]
/-- as which number a line is shown -/
abbrev pos (L : List Nat) (l : Nat) : Option Nat := od L 0 (some l)
def shB (Lr Lc : List Nat) (y z : Nat) : Bool := (pos Lr y).isSome && (pos Lc z).isSome
section POS
variable {S : rs_S} {o k l y z y2 z2 i j : Nat} {L Lr Lc : List Nat}
theorem pos_lt {p : Nat} (e : pos L l = some p) : p < L.length := by
  have := od_le L 0 (some l) p e
  omega
theorem q288l (ho : o < 3) (hk : k < 2) (hS : SH o k L S) (hL : L.length ≤ 120) (hL2 : ∀ x ∈ L, x < 120) (hl : l < 120) : ∀ n m j, j + n = L.length → n < m → r288_3 m (Int32.ofNat o) (Int32.ofNat k) (Int32.ofNat l) (Int32.ofNat j) S = some (oi (od (L.drop j) j (some l)), S) := by
  have i1 : ((2 : Int32) * Int32.ofNat o) + Int32.ofNat k = Int32.ofNat (2 * o + k) := by
    rw [show (2 : Int32) * Int32.ofNat o = Int32.ofNat (2 * o) from i32_ml 2 o, i32_add]
  intro n
  induction n with
  | zero =>
    intro m j h1 h2
    cases m with
    | zero => omega
    | succ m =>
      rw [r288_3]
      dsimp only
      rw [i1, rdI (n := 6) (by decide) (by omega) (by omega), Option.bind_some, hS.1, if_pos ((i32_len (by omega) (by omega)).mpr (by omega)), List.drop_of_length_le (by omega)]
      rfl
  | succ n ih =>
    intro m j h1 h2
    cases m with
    | zero => omega
    | succ m =>
      have hj : j < L.length := by omega
      have hx := hL2 _ (gl_mem hj)
      have n4 : Int32.ofNat j + (1 : Int32) = Int32.ofNat (j + 1) := i32_add j 1
      rw [r288_3]
      dsimp only
      rw [i1, rdI (n := 6) (by decide) (by omega) (by omega), Option.bind_some, hS.1, if_neg (fun e => by have := (i32_len (by omega) (by omega)).mp e; omega), q242 ho hk hS hL hj, rb_r, gl_drop hj, od]
      by_cases e : L.getD j 0 = l
      · rw [if_pos (by rw [e]), if_pos (by rw [e])]
        rfl
      · rw [if_neg (fun g => e (i32_inj (by omega) (by omega) g)), if_neg (fun g => e (Option.some.inj g)), n4, ih m (j + 1) (by omega) (by omega)]
theorem q288 (ho : o < 3) (hk : k < 2) (hS : SH o k L S) (hL : L.length ≤ 120) (hL2 : ∀ x ∈ L, x < 120) (hl : l < 120) : rf_288 (Int32.ofNat o) (Int32.ofNat k) (Int32.ofNat l) S = some (oi (pos L l), S) := by
  have := q288l ho hk hS hL hL2 hl L.length lf_N 0 (by omega) (by unfold lf_N; omega)
  rw [List.drop_zero] at this
  unfold rf_288
  exact this
/-- what is shown, of an office -/
def SW (o : Nat) (Lr Lc : List Nat) (S : rs_S) : Prop := o < 3 ∧ SH o 0 Lr S ∧ SH o 1 Lc S ∧ Lr.length ≤ 120 ∧ Lc.length ≤ 120 ∧ (∀ x ∈ Lr, x < 120) ∧ ∀ x ∈ Lc, x < 120
theorem q288r (w : SW o Lr Lc S) (hl : l < 120) : rf_288 (Int32.ofNat o) (0 : Int32) (Int32.ofNat l) S = some (oi (pos Lr l), S) := q288 (k := 0) w.1 (by omega) w.2.1 w.2.2.2.1 w.2.2.2.2.2.1 hl
theorem q288c (w : SW o Lr Lc S) (hl : l < 120) : rf_288 (Int32.ofNat o) (1 : Int32) (Int32.ofNat l) S = some (oi (pos Lc l), S) := q288 (k := 1) w.1 (by omega) w.2.2.1 w.2.2.2.2.1 w.2.2.2.2.2.2 hl
theorem oi_neg {x : Option Nat} (hx : ∀ i, x = some i → i < 2 ^ 31) : (oi x < (0 : Int32)) ↔ x = none := by
  cases x with
  | none => exact ⟨fun _ => rfl, fun _ => by decide⟩
  | some i => exact ⟨fun e => absurd e (i32_lt i (hx i rfl)), fun e => by cases e⟩
theorem pos_b (w : SW o Lr Lc S) : (∀ l i, pos Lr l = some i → i < 2 ^ 31) ∧ ∀ l i, pos Lc l = some i → i < 2 ^ 31 := ⟨fun l i e => by have := pos_lt e; have := w.2.2.2.1; omega, fun l i e => by have := pos_lt e; have := w.2.2.2.2.1; omega⟩
theorem q287 (w : SW o Lr Lc S) (hy : y < 120) (hz : z < 120) : rf_287 (Int32.ofNat o) (Int32.ofNat (y + 128 * z)) S = some ((if shB Lr Lc y z = true then 1 else 0), S) := by
  obtain ⟨m1, m2⟩ := i32_m128 (n := y + 128 * z) (by omega)
  obtain ⟨b1, b2⟩ := pos_b w
  unfold rf_287 shB
  rw [m2, m1, show (y + 128 * z) % 128 = y by omega, show (y + 128 * z) / 128 = z by omega, q288r w hy, rb_r]
  cases e1 : pos Lr y with
  | none => rw [if_pos ((oi_neg (fun i hi => by cases hi)).mpr rfl)]; rfl
  | some p =>
    rw [if_neg (fun e => by have := (oi_neg (fun i hi => b1 y i (e1.trans hi))).mp e; cases this), q288c w hz, rb_r]
    cases e2 : pos Lc z with
    | none => rw [if_pos ((oi_neg (fun i hi => by cases hi)).mpr rfl)]; rfl
    | some q => rw [if_neg (fun e => by have := (oi_neg (fun i hi => b2 z i (e2.trans hi))).mp e; cases this)]; rfl
theorem q290 (w : SW o Lr Lc S) (hy : y < 120) (hz : z < 120) (hy2 : y2 < 120) (hz2 : z2 < 120) : rf_290 (Int32.ofNat o) (Int32.ofNat (y + 128 * z + 16384 * (y2 + 128 * z2))) S = some ((if (shB Lr Lc y z && shB Lr Lc y2 z2) = true then 1 else 0), S) := by
  obtain ⟨m1, m2⟩ := i32_m16k (n := y + 128 * z + 16384 * (y2 + 128 * z2)) (by omega)
  unfold rf_290
  rw [m2, m1, show (y + 128 * z + 16384 * (y2 + 128 * z2)) % 16384 = y + 128 * z by omega, show (y + 128 * z + 16384 * (y2 + 128 * z2)) / 16384 = y2 + 128 * z2 by omega, q287 w hy hz, rb_r]
  cases shB Lr Lc y z with
  | false => rfl
  | true =>
    rw [if_neg (by decide), q287 w hy2 hz2, rb_r]
    cases shB Lr Lc y2 z2 <;> rfl
/-- the least and the greatest of two positions -/
theorem q292e {x7 x8 : Nat} (h7 : x7 < 2 ^ 31) (h8 : x8 < 2 ^ 31) : r292_88 (Int32.ofNat x7) (Int32.ofNat x8) (1 : Int32) S = some (Int32.ofNat (min x7 x8), S) ∧ r292_88 (Int32.ofNat x7) (Int32.ofNat x8) (0 : Int32) S = some (Int32.ofNat (max x7 x8), S) := by
  unfold r292_88 r292_100
  by_cases e : x8 ≤ x7
  · rw [if_pos ((i32_len h8 h7).mpr e), if_pos ((i32_len h8 h7).mpr e), Nat.min_eq_right e, Nat.max_eq_left e]
    exact ⟨rfl, rfl⟩
  · rw [if_neg (fun g => e ((i32_len h8 h7).mp g)), if_neg (fun g => e ((i32_len h8 h7).mp g)), Nat.min_eq_left (by omega), Nat.max_eq_right (by omega)]
    exact ⟨rfl, rfl⟩
theorem q292 (w : SW o Lr Lc S) (hy : y < 120) (hz : z < 120) (hy2 : y2 < 120) (hz2 : z2 < 120) {p q p2 q2 : Nat} (e1 : pos Lr y = some p) (e2 : pos Lc z = some q) (e3 : pos Lr y2 = some p2) (e4 : pos Lc z2 = some q2) : rf_292 (Int32.ofNat o) (Int32.ofNat (y + 128 * z + 16384 * (y2 + 128 * z2))) 0 S = some (Int32.ofNat (min p p2), S) ∧ rf_292 (Int32.ofNat o) (Int32.ofNat (y + 128 * z + 16384 * (y2 + 128 * z2))) 1 S = some (Int32.ofNat (max p p2), S) ∧ rf_292 (Int32.ofNat o) (Int32.ofNat (y + 128 * z + 16384 * (y2 + 128 * z2))) 2 S = some (Int32.ofNat (min q q2), S) ∧ rf_292 (Int32.ofNat o) (Int32.ofNat (y + 128 * z + 16384 * (y2 + 128 * z2))) 3 S = some (Int32.ofNat (max q q2), S) := by
  obtain ⟨m1, m2⟩ := i32_m16k (n := y + 128 * z + 16384 * (y2 + 128 * z2)) (by omega)
  obtain ⟨k1, k2⟩ := i32_m128 (n := y + 128 * z) (by omega)
  obtain ⟨k3, k4⟩ := i32_m128 (n := y2 + 128 * z2) (by omega)
  obtain ⟨b1, b2⟩ := pos_b w
  have h1 := b1 y p e1
  have h2 := b2 z q e2
  have h3 := b1 y2 p2 e3
  have h4 := b2 z2 q2 e4
  have hr : ∀ a3 : Int32, a3 / 2 = 0 → rf_292 (Int32.ofNat o) (Int32.ofNat (y + 128 * z + 16384 * (y2 + 128 * z2))) a3 S = (if (a3 - a3 / 2 * 2) = 0 then r292_88 (Int32.ofNat p) (Int32.ofNat p2) 1 S else r292_88 (Int32.ofNat p) (Int32.ofNat p2) 0 S) := by
    intro a3 h
    unfold rf_292
    rw [if_pos h, m2, m1, show (y + 128 * z + 16384 * (y2 + 128 * z2)) % 16384 = y + 128 * z by omega, show (y + 128 * z + 16384 * (y2 + 128 * z2)) / 16384 = y2 + 128 * z2 by omega, k2, show (y + 128 * z) % 128 = y by omega]
    unfold r292_43
    rw [h, q288r w hy, rb_r, if_pos rfl, k4, show (y2 + 128 * z2) % 128 = y2 by omega]
    unfold r292_72
    rw [q288r w hy2, rb_r, e1, e3, h]
    rfl
  have hcl : ∀ a3 : Int32, a3 / 2 = 1 → rf_292 (Int32.ofNat o) (Int32.ofNat (y + 128 * z + 16384 * (y2 + 128 * z2))) a3 S = (if (a3 - a3 / 2 * 2) = 0 then r292_88 (Int32.ofNat q) (Int32.ofNat q2) 1 S else r292_88 (Int32.ofNat q) (Int32.ofNat q2) 0 S) := by
    intro a3 h
    unfold rf_292
    rw [if_neg (by rw [h]; decide), m2, m1, show (y + 128 * z + 16384 * (y2 + 128 * z2)) % 16384 = y + 128 * z by omega, show (y + 128 * z + 16384 * (y2 + 128 * z2)) / 16384 = y2 + 128 * z2 by omega, k1, show (y + 128 * z) / 128 = z by omega]
    unfold r292_43
    rw [h, q288c w hz, rb_r, if_neg (by decide), k3, show (y2 + 128 * z2) / 128 = z2 by omega]
    unfold r292_72
    rw [q288c w hz2, rb_r, e2, e4, h]
    rfl
  rw [hr 0 (by decide), hr 1 (by decide), hcl 2 (by decide), hcl 3 (by decide), if_pos (by decide), if_neg (by decide), if_pos (by decide), if_neg (by decide)]
  exact ⟨(q292e h1 h3).1, (q292e h1 h3).2, (q292e h2 h4).1, (q292e h2 h4).2⟩
end POS
