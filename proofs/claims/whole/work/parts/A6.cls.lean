/-! THE CLASS'S CELLS by what was made: acts, lines and places by their ids (40 * office + number - 1), offices and axes -/
abbrev rc : Type := (Nat × Nat × (Nat → Nat)) × (Option Nat × Option Nat × Option Nat × Option Nat) × (Option Nat × Option Nat × Option Nat × Option Nat) × Nat
abbrev rk (r : rc) : Nat := r.1.1
abbrev rst (r : rc) : Nat := r.1.2.1
abbrev rpa (r : rc) : Nat → Nat := r.1.2.2
abbrev rl (r : rc) : Option Nat := r.2.1.1
abbrev rpl (r : rc) : Option Nat := r.2.1.2.1
abbrev rpb (r : rc) : Option Nat := r.2.1.2.2.1
abbrev raf (r : rc) : Option Nat := r.2.1.2.2.2
abbrev rrw (r : rc) : Option Nat := r.2.2.1.1
abbrev rcl (r : rc) : Option Nat := r.2.2.1.2.1
abbrev rct (r : rc) : Option Nat := r.2.2.1.2.2.1
abbrev rcb (r : rc) : Option Nat := r.2.2.1.2.2.2
abbrev rlk (r : rc) : Nat := r.2.2.2
abbrev aM : Type := Nat → Nat → Nat
abbrev aD : Type := Nat → Option rc
/-- an axis: order, shown, latest of place, latest of being, shown as -/
abbrev ax : Type := List Nat × List Nat × (Nat → Option Nat) × (Nat → Option Nat) × (Nat → Int32)
abbrev xO (X : ax) : List Nat := X.1
abbrev xS (X : ax) : List Nat := X.2.1
abbrev xP (X : ax) : Nat → Option Nat := X.2.2.1
abbrev xB (X : ax) : Nat → Option Nat := X.2.2.2.1
abbrev xA (X : ax) : Nat → Int32 := X.2.2.2.2
/-- an office: known, present, writes, clock, axes -/
abbrev fo : Type := (Nat → Nat) × (Nat → Bool) × List Nat × Nat × (Nat → ax)
abbrev fK (F : fo) : Nat → Nat := F.1
abbrev fA (F : fo) : Nat → Bool := F.2.1
abbrev fW (F : fo) : List Nat := F.2.2.1
abbrev fC (F : fo) : Nat := F.2.2.2.1
abbrev fX (F : fo) : Nat → ax := F.2.2.2.2
def ceA (M : aM) (i : Nat) (r : rc) : pm_C := .inl (7, [.ref (rk r), .int (Int32.ofNat (i / 40)), .int (Int32.ofNat (i % 40 + 1)), .int (Int32.ofNat (rst r)), .ref (M 3 i), tm_r ((rl r).map (M 1)), tm_r ((rpl r).map (M 2)), tm_r ((rpb r).map (M 2)), tm_r ((rrw r).map (M 1)), tm_r ((rcl r).map (M 1)), tm_r (rct r), tm_r (rcb r)])
def ceL (i : Nat) (r : rc) : pm_C := .inl (6, [.int (Int32.ofNat (rlk r)), .int (Int32.ofNat (100 * (i / 40) + (i % 40 + 1))), .int (Int32.ofNat i)])
def ceP (M : aM) (r : rc) : pm_C := .inl (8, [tm_r ((rl r).map (M 1)), tm_r ((raf r).map (M 2)), .int (Int32.ofNat (rst r))])
def ceH (r : rc) : pm_C := .inr (0, ra 3 (fun j => .int (Int32.ofNat (rpa r j))))
/-- a line, a place that is made -/
def LN (D : aD) (l : Nat) : Prop := ∃ r, D l = some r ∧ rk r = 1
def PN (D : aD) (p : Nat) : Prop := ∃ r, D p = some r ∧ rk r ≤ 2
def AN (D : aD) (i : Nat) : Prop := ∃ r, D i = some r
def Cd (M : aM) (A : ah) (D : aD) : Prop := (∀ i r, D i = some r → A.1 (M 0 i) = ac_c (ceA M i r) ∧ A.1 (M 3 i) = ac_c (ceH r) ∧ (rk r = 1 → A.1 (M 1 i) = ac_c (ceL i r)) ∧ (rk r ≤ 2 → A.1 (M 2 i) = ac_c (ceP M r)) ∧ ∀ q, 178 ≤ M q i ∧ M q i < A.2.1) ∧ ∀ q i j, AN D i → AN D j → M q i = M q j → i = j
/-- what was made hangs together -/
def Wd (D : aD) : Prop := ∀ i r, D i = some r → i < 120 ∧ 1 ≤ rk r ∧ rk r ≤ 6 ∧ rst r < 400 ∧ (∀ j, rpa r j < 1000) ∧ (∀ l, rl r = some l → LN D l) ∧ (∀ p, rpl r = some p → PN D p) ∧ (∀ p, rpb r = some p → PN D p) ∧ (∀ p, raf r = some p → PN D p) ∧ (∀ l, rrw r = some l → LN D l) ∧ (∀ l, rcl r = some l → LN D l) ∧ (rk r ≠ 6 → ∃ l, rl r = some l) ∧ (rk r = 6 → ∃ l m, rrw r = some l ∧ rcl r = some m) ∧ (rk r = 1 → rl r = some i ∧ rlk r < 2) ∧ (rk r ≤ 2 → rpl r = some i)
def Cx (M : aM) (A : ah) (c : Nat) (X : ax) : Prop := A.1 c = ac_c (.inl (5, [.ref (c + 1), .ref (c + 2), .ref (c + 3), .ref (c + 4), .ref (c + 5)])) ∧ (∃ cap, A.1 (c + 1) = ac_l ((xO X).map (M 2)) cap) ∧ (∃ cap, A.1 (c + 2) = ac_l ((xS X).map (M 1)) cap) ∧ A.1 (c + 3) = ac_c (.inr (11, ra 120 (fun l => tm_r ((xP X l).map (M 0))))) ∧ A.1 (c + 4) = ac_c (.inr (11, ra 120 (fun l => tm_r ((xB X l).map (M 0))))) ∧ A.1 (c + 5) = ac_c (.inr (0, ra 120 (fun l => .int (xA X l))))
def Wx (D : aD) (X : ax) : Prop := (∀ p ∈ xO X, PN D p) ∧ (∀ l ∈ xS X, LN D l) ∧ (∀ l i, xP X l = some i → AN D i) ∧ (∀ l i, xB X l = some i → AN D i) ∧ (xO X).length ≤ 120 ∧ (xS X).length ≤ 120
def Cf (M : aM) (A : ah) (o : Nat) (F : fo) : Prop := A.1 (94 + 17 * o) = ac_c (.inl (4, [.int (Int32.ofNat o), .ref (94 + 17 * o + 1), .ref (94 + 17 * o + 2), .ref (94 + 17 * o + 3), .ref (94 + 17 * o + 4), .int (Int32.ofNat (fC F))])) ∧ A.1 (94 + 17 * o + 1) = ac_c (.inr (0, ra 3 (fun j => .int (Int32.ofNat (fK F j))))) ∧ A.1 (94 + 17 * o + 2) = ac_c (.inr (11, ra 120 (fun i => tm_r (if fA F i = true then some (M 0 i) else none)))) ∧ A.1 (94 + 17 * o + 3) = ac_c (.inr (12, ra 2 (fun k => .ref (94 + 17 * o + 5 + 6 * k)))) ∧ (∃ cap, A.1 (94 + 17 * o + 4) = ac_l ((fW F).map (M 0)) cap) ∧ ∀ k, k < 2 → Cx M A (94 + 17 * o + 5 + 6 * k) (fX F k)
def Wf (D : aD) (o : Nat) (F : fo) : Prop := o < 3 ∧ (∀ j, fK F j ≤ 40) ∧ (∀ i, fA F i = true → AN D i) ∧ (∀ i ∈ fW F, ∃ r, D i = some r ∧ rk r = 6) ∧ (fW F).length ≤ 120 ∧ fC F < 1000 ∧ ∀ k, k < 2 → Wx D (fX F k)
/-- the object and the enums -/
def Cb (A : ah) : Prop := A.1 81 = ac_c (.inl (0, [.ref 82, .ref 83, .ref 87, .ref 91])) ∧ A.1 82 = ac_c (.inr (10, ra 3 (fun o => .ref (94 + 17 * o)))) ∧ ∀ k y, pt_K1[k]? = some y → A.1 (k + 1) = ac_c y
def stp (D : aD) (i : Nat) : Nat := (D i).elim 0 rst
def knd (D : aD) (i : Nat) : Nat := (D i).elim 0 rk
/-- is an act later than another, if there is one? -/
def lat (D : aD) (i : Nat) (x : Option Nat) : Bool := x.elim true (fun j => decide (stp D j < stp D i))
/-- is a line there? -/
def thr (D : aD) (X : ax) (l : Nat) : Bool := (xB X l).elim false (fun i => decide (knd D i ≠ 5))
/-- the place of a line -/
def plc (D : aD) (X : ax) (l : Nat) : Option Nat := (xP X l).bind (fun i => (D i).bind rpl)
section CL
variable {A : ah} {h : pm_H} {M : aM} {D : aD} {X : ax} {F : fo} {c o i j l p k : Nat} {r : rc} {a : Int32}
theorem gl_map {f : Nat → Nat} {L : List Nat} (hi : i < L.length) : (L.map f).getD i 0 = f (L.getD i 0) := by
  simp [List.getD_eq_getElem?_getD, List.getElem?_map, List.getElem?_eq_getElem hi]
theorem gl_mem {L : List Nat} (hi : i < L.length) : L.getD i 0 ∈ L := by
  rw [List.getD_eq_getElem?_getD, List.getElem?_eq_getElem hi]
  exact List.getElem_mem hi
theorem LN_c (C : Cd M A D) (hl : LN D l) : ∃ r, D l = some r ∧ rk r = 1 ∧ A.1 (M 1 l) = ac_c (ceL l r) := by
  obtain ⟨r, h1, h2⟩ := hl
  exact ⟨r, h1, h2, (C.1 l r h1).2.2.1 h2⟩
theorem PN_c (C : Cd M A D) (hl : PN D p) : ∃ r, D p = some r ∧ rk r ≤ 2 ∧ A.1 (M 2 p) = ac_c (ceP M r) := by
  obtain ⟨r, h1, h2⟩ := hl
  exact ⟨r, h1, h2, (C.1 p r h1).2.2.2.1 h2⟩
theorem LN_lt (W : Wd D) (hl : LN D l) : l < 120 := by
  obtain ⟨r, h1, _⟩ := hl
  exact (W l r h1).1
theorem Cd_in (C : Cd M A D) {q : Nat} {x y : Option Nat} (hx : ∀ i, x = some i → AN D i) (hy : ∀ i, y = some i → AN D i) : (x.map (M q) = y.map (M q)) ↔ x = y := by
  constructor
  · intro e
    cases x with
    | none => cases y with
      | none => rfl
      | some y => cases e
    | some x => cases y with
      | none => cases e
      | some y => rw [C.2 q x y (hx x rfl) (hy y rfl) (Option.some.inj e)]
  · intro e; rw [e]
theorem Cd_idn (C : Cd M A D) {q : Nat} {x : Option Nat} (hx : ∀ i, x = some i → AN D i) : pm_idn (x.map (M q)) = true := idn_m (fun i hi => by
  obtain ⟨r, hr⟩ := hx i hi
  have := ((C.1 i r hr).2.2.2.2 q).1
  omega)
theorem Cd_1 (C : Cd M A D) {q x : Nat} (hx : AN D x) : pm_idn (some (M q x)) = true := by
  obtain ⟨r, hr⟩ := hx
  have := ((C.1 x r hr).2.2.2.2 q).1
  exact idn_h (by omega)
theorem LN_AN (hl : LN D l) : AN D l := ⟨hl.choose, hl.choose_spec.1⟩
theorem PN_AN (hl : PN D l) : AN D l := ⟨hl.choose, hl.choose_spec.1⟩
theorem Cb_k6 (B : Cb A) (h1 : 1 ≤ k) (h2 : k ≤ 6) : A.1 k = ac_c (.inl (18, [.int (Int32.ofNat (k - 1))])) := by
  have q : k = 1 ∨ k = 2 ∨ k = 3 ∨ k = 4 ∨ k = 5 ∨ k = 6 := by omega
  rcases q with rfl | rfl | rfl | rfl | rfl | rfl
  · exact B.2.2 0 _ rfl
  · exact B.2.2 1 _ rfl
  · exact B.2.2 2 _ rfl
  · exact B.2.2 3 _ rfl
  · exact B.2.2 4 _ rfl
  · exact B.2.2 5 _ rfl
/-! axes -/
theorem c85 (R : ar A h) (C : Cx M A c X) : ll_85 (some c) h = rtI (Int32.ofNat (xS X).length) h := by
  obtain ⟨c0, -, ⟨cap, c2⟩, -⟩ := C
  unfold ll_85
  rw [hc_R (o := some (c + 2)) (ar_c R c0) rfl, Option.bind_some, if_pos (ar_lc R c2), ll_size R c2, List.length_map]
  rfl
theorem c84 (R : ar A h) (C : Cx M A c X) (V : Cd M A D) (Wxx : Wx D X) : ll_84 (some c) a h = (la_ix a (xS X).length).elim (tw h 16) (fun j => rtR (some (M 1 ((xS X).getD j 0))) h) := by
  have hle := Wxx.2.2.2.2.2
  have C' := C
  obtain ⟨c0, -, ⟨cap, c2⟩, -⟩ := C
  unfold ll_84
  cases e : la_ix a (xS X).length with
  | none =>
    by_cases q : a < 0
    · rw [if_pos q]
      rfl
    · rw [if_neg q, if_pos (hc_lc (ar_c R c0)), c85 R C', rt_I, if_neg (ix_n (by omega) e q)]
      rfl
  | some j =>
    obtain ⟨rfl, hj⟩ := ix_s (by omega) e
    obtain ⟨r, -, -, hr⟩ := LN_c V (Wxx.2.1 _ (gl_mem hj))
    have hcc : lf_cc 81 h (some (M 1 ((xS X).getD j 0))) [6] = true := by
      unfold lf_cc
      dsimp only
      rw [ar_c R hr]
      rfl
    rw [if_neg (i32_lt j (by omega)), if_pos (hc_lc (ar_c R c0)), c85 R C', rt_I, if_pos ((i32_ltn (by omega) (by omega)).mpr hj), hc_R (o := some (c + 2)) (ar_c R c0) rfl, Option.bind_some, if_pos (ar_lc R c2), ll_get R c2 (by rw [List.length_map]; exact hj), gl_map hj]
    show (if lf_cc 81 h _ [6] = true then _ else _) = _
    rw [if_pos hcc]
    rfl
theorem c90 (R : ar A h) (C : Cx M A c X) (V : Cd M A D) (W : Wd D) (Wxx : Wx D X) (hl : LN D l) : ll_90 (some c) (some (M 1 l)) h = rtR ((plc D X l).map (M 2)) h := by
  obtain ⟨c0, -, -, c3, -⟩ := C
  obtain ⟨r, -, -, hr⟩ := LN_c V hl
  have hl2 := LN_lt W hl
  unfold ll_90
  rw [hc_R (o := some (c + 3)) (ar_c R c0) rfl, Option.bind_some, hc_I (ar_c R hr) rfl, Option.bind_some, hc_ldR (o := (xP X l).map (M 0)) (ar_c R c3) rfl (by omega) (ra_get hl2), Option.bind_some]
  unfold plc
  cases e : xP X l with
  | none => rfl
  | some i =>
    obtain ⟨r2, h2⟩ := Wxx.2.2.1 l i e
    have h3 := (V.1 i r2 h2).1
    simp only [Option.map_some, Option.bind_some, h2]
    rw [hc_R (o := (rpl r2).map (M 2)) (ar_c R h3) rfl]
    rfl
theorem c83 (R : ar A h) (C : Cx M A c X) (V : Cd M A D) (W : Wd D) (Wxx : Wx D X) : ll_83 (some c) a h = if a = -1 then rtR none h else (la_ix a (xS X).length).elim (tw h 16) (fun j => rtR ((plc D X ((xS X).getD j 0)).map (M 2)) h) := by
  unfold ll_83
  by_cases q : a = -1
  · rw [if_pos q, if_pos q]
  · rw [if_neg q, if_neg q, c84 R C V Wxx]
    cases e : la_ix a (xS X).length with
    | none =>
      show lb_R (tw h 16) _ = tw h 16
      exact tw_R
    | some j =>
      have hj := (ix_s (by have := Wxx.2.2.2.2.2; omega) e).2
      show (if lc_of h (some c) = some 5 then _ else _) = _
      rw [if_pos (hc_lc (ar_c R C.1)), c90 R C V W Wxx (Wxx.2.1 _ (gl_mem hj))]
      rfl
theorem c122 (R : ar A h) (C : Cx M A c X) (V : Cd M A D) (W : Wd D) (Wxx : Wx D X) (hl : LN D l) : ll_122 (some c) (some (M 1 l)) h = rtI (if thr D X l = true then 1 else 0) h := by
  obtain ⟨c0, -, -, -, c4, -⟩ := C
  obtain ⟨r, -, -, hr⟩ := LN_c V hl
  have hl2 := LN_lt W hl
  unfold ll_122 thr
  rw [hc_R (o := some (c + 4)) (ar_c R c0) rfl, Option.bind_some, hc_I (ar_c R hr) rfl, Option.bind_some, hc_ldR (o := (xB X l).map (M 0)) (ar_c R c4) rfl (by omega) (ra_get hl2), Option.bind_some]
  cases e : xB X l with
  | none => rfl
  | some i =>
    obtain ⟨r2, h2⟩ := Wxx.2.2.2.1 l i e
    have h3 := (V.1 i r2 h2).1
    have hk := W i r2 h2
    have ek : knd D i = rk r2 := by unfold knd; rw [h2]; rfl
    simp only [Option.map_some, Option.elim_some, ek]
    rw [hc_R (o := some (rk r2)) (ar_c R h3) rfl, Option.bind_some, acmA (idn_k hk.2.1 (by omega)) (idn_k (by omega) (by omega))]
    by_cases q : rk r2 = 5
    · rw [if_pos (by rw [q]), if_neg (by simp [q])]
    · rw [if_neg (fun z => q (Option.some.inj z)), if_pos (by simp [q])]
/-! acts and kinds -/
theorem c112 (h1 : 1 ≤ k) (h2 : k ≤ 6) : ll_112 (some k) h = rtI (if k ≤ 2 then 1 else 0) h := by
  unfold ll_112
  rw [acmA (idn_k h1 (by omega)) (idn_k (by omega) (by omega)), acmA (idn_k h1 (by omega)) (idn_k (by omega) (by omega))]
  by_cases q : k = 1
  · subst q; rfl
  · rw [if_neg (fun z => q (Option.some.inj z))]
    by_cases q2 : k = 2
    · subst q2; rfl
    · rw [if_neg (fun z => q2 (Option.some.inj z)), if_neg (by omega)]
theorem c119 (h1 : 1 ≤ k) (h2 : k ≤ 6) : ll_119 (some k) h = rtI (if k = 1 ∨ k = 4 ∨ k = 5 then 1 else 0) h := by
  unfold ll_119
  rw [acmA (idn_k h1 (by omega)) (idn_k (by omega) (by omega)), acmA (idn_k h1 (by omega)) (idn_k (by omega) (by omega)), acmA (idn_k h1 (by omega)) (idn_k (by omega) (by omega))]
  by_cases q : k = 1
  · subst q; rfl
  · rw [if_neg (fun z => q (Option.some.inj z))]
    by_cases q2 : k = 4
    · subst q2; rfl
    · rw [if_neg (fun z => q2 (Option.some.inj z))]
      by_cases q3 : k = 5
      · subst q3; rfl
      · rw [if_neg (fun z => q3 (Option.some.inj z)), if_neg (by omega)]
theorem c118 (R : ar A h) (B : Cb A) (h1 : 1 ≤ k) (h2 : k ≤ 6) : ll_118 (some k) h = rtI (if k ≤ 3 then 1 else 0) h := by
  have hf := Cb_k6 B h1 h2
  unfold ll_118
  rw [if_pos (hc_lc (ar_c R hf)), c112 h1 h2, rt_I]
  by_cases q : k ≤ 2
  · rw [if_pos q, if_neg (by decide), if_pos (by omega)]
  · rw [if_neg q, if_pos rfl, acmA (idn_k h1 (by omega)) (idn_k (by omega) (by omega))]
    by_cases q2 : k = 3
    · subst q2; rfl
    · rw [if_neg (fun z => q2 (Option.some.inj z)), if_neg (by omega)]
theorem c103 (R : ar A h) (V : Cd M A D) (W : Wd D) (hi : D i = some r) {x : Option Nat} (hx : ∀ j, x = some j → AN D j) : ll_103 (some (M 0 i)) (x.map (M 0)) h = rtI (if lat D i x = true then 1 else 0) h := by
  unfold ll_103 lat
  cases x with
  | none => rfl
  | some j =>
    obtain ⟨q, hq⟩ := hx j rfl
    have e1 : stp D j = rst q := by unfold stp; rw [hq]; rfl
    have e2 : stp D i = rst r := by unfold stp; rw [hi]; rfl
    simp only [Option.map_some, Option.elim_some, e1, e2]
    rw [hc_I (ar_c R (V.1 i r hi).1) rfl, Option.bind_some, hc_I (ar_c R (V.1 j q hq).1) rfl, Option.bind_some]
    have b1 := (W i r hi).2.2.2.1
    have b2 := (W j q hq).2.2.2.1
    by_cases z : rst r ≤ rst q
    · rw [if_pos ((i32_len (by omega) (by omega)).mpr z), if_neg (by simp; omega)]
    · rw [if_neg (fun y => z ((i32_len (by omega) (by omega)).mp y)), if_pos (by simp; omega)]
theorem c102 (R : ar A h) (V : Cd M A D) (W : Wd D) (hi : D i = some r) {x y : Nat} (hx : LN D x) (hy : LN D y) : ll_102 (some (M 0 i)) (some (M 1 x)) (some (M 1 y)) h = rtI (if rk r = 6 ∧ rrw r = some x ∧ rcl r = some y then 1 else 0) h := by
  have hw := W i r hi
  have hc := ar_c R (V.1 i r hi).1
  have e1 : ∀ z w, LN D w → (∀ l, z = some l → LN D l) → ((z.map (M 1) = some (M 1 w)) ↔ z = some w) := fun z w h1 h2 => Cd_in V (x := z) (y := some w) (fun i e => LN_AN (h2 i e)) (fun i e => by cases e; exact LN_AN h1)
  unfold ll_102
  rw [hc_R (o := some (rk r)) hc rfl, Option.bind_some, acmA (idn_k hw.2.1 (by omega)) (idn_k (by omega) (by omega))]
  by_cases q : rk r = 6
  · rw [if_pos (by rw [q]), hc_R (o := (rrw r).map (M 1)) hc rfl, Option.bind_some, acmA (Cd_idn V (fun i e => LN_AN (hw.2.2.2.2.2.2.2.2.2.1 i e))) (Cd_1 V (LN_AN hx))]
    by_cases q2 : rrw r = some x
    · rw [if_pos ((e1 _ _ hx hw.2.2.2.2.2.2.2.2.2.1).mpr q2), hc_R (o := (rcl r).map (M 1)) hc rfl, Option.bind_some, acmA (Cd_idn V (fun i e => LN_AN (hw.2.2.2.2.2.2.2.2.2.2.1 i e))) (Cd_1 V (LN_AN hy))]
      by_cases q3 : rcl r = some y
      · rw [if_pos ((e1 _ _ hy hw.2.2.2.2.2.2.2.2.2.2.1).mpr q3), if_pos ⟨q, q2, q3⟩]
      · rw [if_neg (fun z => q3 ((e1 _ _ hy hw.2.2.2.2.2.2.2.2.2.2.1).mp z)), if_neg (fun z => q3 z.2.2)]
    · rw [if_neg (fun z => q2 ((e1 _ _ hx hw.2.2.2.2.2.2.2.2.2.1).mp z)), if_neg (fun z => q2 z.2.1)]
  · rw [if_neg (fun z => q (Option.some.inj z)), if_neg (fun z => q z.1)]
/-! offices -/
theorem c81 (R : ar A h) (B : Cb A) : ll_81 (some 81) a h = (la_ix a 3).elim (tw h 14) (fun o => rtR (some (94 + 17 * o)) h) := by
  unfold ll_81
  cases e : la_ix a 3 with
  | none =>
    by_cases q : a < 0
    · rw [if_pos q]; rfl
    · rw [if_neg q, if_neg (show ¬ a < (3 : Int32) from ix_n (n := 3) (by omega) e q)]; rfl
  | some o =>
    obtain ⟨rfl, ho⟩ := ix_s (by omega) e
    rw [if_neg (i32_lt o (by omega)), if_pos (show Int32.ofNat o < (3 : Int32) from (i32_ltn (b := 3) (by omega) (by omega)).mpr ho), hc_R (o := some 82) (ar_c R B.1) rfl, Option.bind_some, hc_ldR (o := some (94 + 17 * o)) (ar_c R B.2.1) rfl (by omega) (ra_get ho)]
    rfl
theorem c82 (R : ar A h) (C : Cf M A o F) : ll_82 (some (94 + 17 * o)) a h = (la_ix a 2).elim (tw h 14) (fun k => rtR (some (94 + 17 * o + 5 + 6 * k)) h) := by
  unfold ll_82
  cases e : la_ix a 2 with
  | none =>
    by_cases q : a < 0
    · rw [if_pos q]; rfl
    · rw [if_neg q, if_neg (show ¬ a < (2 : Int32) from ix_n (n := 2) (by omega) e q)]; rfl
  | some k =>
    obtain ⟨rfl, hk⟩ := ix_s (by omega) e
    rw [if_neg (i32_lt k (by omega)), if_pos (show Int32.ofNat k < (2 : Int32) from (i32_ltn (b := 2) (by omega) (by omega)).mpr hk), hc_R (o := some (94 + 17 * o + 3)) (ar_c R C.1) rfl, Option.bind_some, hc_ldR (o := some (94 + 17 * o + 5 + 6 * k)) (ar_c R C.2.2.2.1) rfl (by omega) (ra_get hk)]
    rfl
theorem c92 (R : ar A h) (C : Cf M A o F) (ho : o < 3) : ll_92 (some (94 + 17 * o)) h = rtI (Int32.ofNat (fK F o)) h := by
  unfold ll_92
  rw [hc_R (o := some (94 + 17 * o + 1)) (ar_c R C.1) rfl, Option.bind_some, hc_I (ar_c R C.1) rfl, Option.bind_some, hc_ldI (ar_c R C.2.1) rfl (by omega) (ra_get ho)]
  rfl
theorem c91 (R : ar A h) (C : Cf M A o F) (ho : o < 3) (hk : fK F o ≤ 40) : ll_91 (some (94 + 17 * o)) h = if fK F o < 40 then rtV h else tw h 15 := by
  unfold ll_91
  rw [if_pos (hc_lc (ar_c R C.1)), c92 R C ho, rt_I]
  by_cases q : fK F o < 40
  · rw [if_pos (show Int32.ofNat (fK F o) < (40 : Int32) from (i32_ltn (b := 40) (by omega) (by omega)).mpr q), if_pos q]
  · rw [if_neg (show ¬ Int32.ofNat (fK F o) < (40 : Int32) from fun z => q ((i32_ltn (b := 40) (by omega) (by omega)).mp z)), if_neg q]
    rfl
theorem i32_mul (a b : Nat) : Int32.ofNat a * Int32.ofNat b = Int32.ofNat (a * b) := (Int32.ofNat_mul a b).symm
theorem c97 (R : ar A h) (C : Cf M A o F) : ll_97 (some (94 + 17 * o)) h = rtI (Int32.ofNat ((fC F + 1) * 3 + o)) h := by
  unfold ll_97
  rw [hc_I (ar_c R C.1) rfl, Option.bind_some, hc_I (ar_c R C.1) rfl, Option.bind_some]
  have e : ((Int32.ofNat (fC F) + (1 : Int32)) * (3 : Int32)) + Int32.ofNat o = Int32.ofNat ((fC F + 1) * 3 + o) := by
    rw [show Int32.ofNat (fC F) + (1 : Int32) = Int32.ofNat (fC F + 1) from i32_add _ 1, show Int32.ofNat (fC F + 1) * (3 : Int32) = Int32.ofNat ((fC F + 1) * 3) from i32_mul _ 3, i32_add]
  rw [e]
theorem c95 {n : Nat} (hn : 1 ≤ n) : ll_95 (Int32.ofNat o) (Int32.ofNat n) h = rtI (Int32.ofNat (40 * o + n - 1)) h := by
  unfold ll_95
  have e : ((Int32.ofNat o * (40 : Int32)) + Int32.ofNat n) - (1 : Int32) = Int32.ofNat (40 * o + n - 1) := by
    rw [show Int32.ofNat o * (40 : Int32) = Int32.ofNat (o * 40) from i32_mul _ 40, i32_add, Nat.mul_comm]
    exact i32_sub (b := 1) (by omega)
  rw [e]
end CL
