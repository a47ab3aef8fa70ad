/-! SHOWING: the reference's walk goes through the order -/
def pth (D : aD) : Nat → Nat → List Nat
  | 0, _ => []
  | n + 1, x => ((D x).bind raf).elim [] (pth D n) ++ [1000 - stp D x]
abbrev pP (D : aD) (x : Nat) : List Nat := pth D 400 x
abbrev pM (D : aD) (x : Nat) : Nat := 1000 - stp D x
abbrev pR (D : aD) (x : Nat) : Option Nat := (D x).bind raf
/-- acts know what they speak of; stamps grow and differ -/
def WS (D : aD) : Prop := (∀ x y, AN D x → AN D y → stp D x = stp D y → x = y) ∧ ∀ x r y, D x = some r → raf r = some y → stp D y < stp D x
/-- an office has taken what its acts speak of -/
def WC (D : aD) (F : fo) : Prop := ∀ i r, D i = some r → tkn F i → (∀ l, rl r = some l → tkn F l) ∧ (∀ l, raf r = some l → tkn F l) ∧ (∀ l, rpl r = some l → tkn F l) ∧ (∀ l, rrw r = some l → tkn F l) ∧ (∀ l, rcl r = some l → tkn F l) ∧ ∀ l, rpb r = some l → tkn F l
/-- the order of an axis is all its places, as they belong -/
def OX (D : aD) (F : fo) (k : Nat) (L : List Nat) : Prop := (∀ p, p ∈ L ↔ (p < 120 ∧ tkn F p ∧ PN D p ∧ lkd D (lnp D p) = k)) ∧ L.Pairwise (fun x y => lx (pP D x) (pP D y)) ∧ L.Nodup
section SHO
variable {D : aD} {S S' : rs_S} {F : fo} {o i j l k b bd p q x y z : Nat} {r : rc} {a : Option Nat} {L : List Nat} {X : ax}
theorem pth_len : ∀ n x, (pth D n x).length ≤ n
  | 0, _ => Nat.le_refl _
  | n + 1, x => by
    rw [pth, List.length_append]
    cases (D x).bind raf with
    | none => simp
    | some y =>
      have := pth_len n y
      simp
      omega
theorem pth_st (W : Wd D) (hs : WS D) : ∀ n n' x, AN D x → stp D x < n → stp D x < n' → pth D n x = pth D n' x := by
  intro n
  induction n with
  | zero => intro n' x _ h1 _; omega
  | succ n ih =>
    intro n' x hx h1 h2
    cases n' with
    | zero => omega
    | succ n' =>
      rw [pth, pth]
      obtain ⟨r, hr⟩ := hx
      cases e : (D x).bind raf with
      | none => rfl
      | some y =>
        have e' : raf r = some y := by rw [hr] at e; exact e
        have h3 := hs.2 x r y hr e'
        have h4 := PN_AN ((W x r hr).2.2.2.2.2.2.2.2.1 y e')
        show pth D n y ++ _ = pth D n' y ++ _
        rw [ih n' y h4 (by omega) (by omega)]
theorem pP_e (W : Wd D) (hs : WS D) (hx : AN D x) : pP D x = (pR D x).elim [] (pP D) ++ [pM D x] := by
  obtain ⟨r, hr⟩ := hx
  show pth D (399 + 1) x = _
  rw [pth]
  cases e : (D x).bind raf with
  | none => rw [show pR D x = none from e, Option.elim_none, Option.elim_none]
  | some y =>
    have e' : raf r = some y := by rw [hr] at e; exact e
    have h3 := hs.2 x r y hr e'
    have h4 := PN_AN ((W x r hr).2.2.2.2.2.2.2.2.1 y e')
    have h5 : stp D x < 400 := by rw [stp_e hr]; exact (W x r hr).2.2.2.1
    rw [show pR D x = some y from e, Option.elim_some, Option.elim_some, pth_st W hs 399 400 y h4 (by omega) (by omega)]
/-- after a place of a kind there is one of the same kind -/
def WK (D : aD) : Prop := ∀ x r y, D x = some r → raf r = some y → rk r ≤ 2 ∧ lkd D (lnp D y) = lkd D (lnp D x)
theorem OX_ok (W : Wd D) (hs : WS D) (hc : WC D F) (hk : WK D) (O : OX D F k L) : Pok (pR D) (pM D) (pP D) L := by
  have han : ∀ x ∈ L, AN D x := fun x hx => PN_AN ((O.1 x).mp hx).2.2.1
  have hlt : ∀ x, AN D x → stp D x < 400 := fun x ⟨r, hr⟩ => by rw [stp_e hr]; exact (W x r hr).2.2.2.1
  refine ⟨fun x hx => pP_e W hs (han x hx), fun x hx y hy => ?_, fun x hx y hy e => ?_⟩
  · obtain ⟨h1, h2, ⟨r, hr, hk2⟩, h4⟩ := (O.1 x).mp hx
    have e' : raf r = some y := by
      have : (D x).bind raf = some y := hy
      rw [hr] at this
      exact this
    have h3 := hs.2 x r y hr e'
    have h5 := (W x r hr).2.2.2.2.2.2.2.2.1 y e'
    have h6 := hlt x ⟨r, hr⟩
    refine ⟨(O.1 y).mpr ⟨?_, (hc x r hr h2).2.1 y e', h5, by rw [(hk x r y hr e').2]; exact h4⟩, by show 1000 - stp D x < 1000 - stp D y; omega⟩
    obtain ⟨r2, hr2, -⟩ := h5
    exact (W y r2 hr2).1
  · have h1 := hlt x (han x hx)
    have h2 := hlt y (han y hy)
    exact hs.1 x y (han x hx) (han y hy) (by have e' : 1000 - stp D x = 1000 - stp D y := e; omega)
/-! what showing leaves as it was -/
def Sq (o k : Nat) (S S' : rs_S) : Prop := S'.1 = S.1 ∧ S'.2.2 = S.2.2 ∧ ∀ a i, ¬ (a = 20 ∧ i = 2 * o + k) → ¬ (a = 19 ∧ 240 * o + 120 * k ≤ i ∧ i < 240 * o + 120 * k + 120) → S'.2.1 a i = S.2.1 a i
theorem Sq_refl : Sq o k S S := ⟨rfl, rfl, fun _ _ _ _ => rfl⟩
theorem Sq_tr {S2 : rs_S} (h1 : Sq o k S S') (h2 : Sq o k S' S2) : Sq o k S S2 := ⟨h2.1.trans h1.1, h2.2.1.trans h1.2.1, fun a i n1 n2 => (h2.2.2 a i n1 n2).trans (h1.2.2 a i n1 n2)⟩
theorem Sq_n (h : Sq o k S S') {n : Nat} (h1 : n ≠ 19) (h2 : n ≠ 20) : S'.2.1 n i = S.2.1 n i := h.2.2 n i (fun e => h2 e.1) (fun e => h1 e.1)
theorem RD_Sq (h : Sq o k S S') (R : RD D S) : RD D S' := by
  intro i r hr
  obtain ⟨d1, d2, d3, d4, d5, d6, d7, d8, d9⟩ := R i r hr
  have e : ∀ {n i}, n ≠ 19 → n ≠ 20 → S'.2.1 n i = S.2.1 n i := fun h1 h2 => Sq_n h h1 h2
  rw [e (by decide) (by decide), e (by decide) (by decide), e (by decide) (by decide), e (by decide) (by decide), e (by decide) (by decide), e (by decide) (by decide), e (by decide) (by decide), e (by decide) (by decide)]
  exact ⟨d1, d2, d3, fun j hj => by rw [e (by decide) (by decide)]; exact d4 j hj, d5, d6, d7, d8, d9⟩
theorem RO_Sq (h : Sq o k S S') (R : RO D j F S) : RO D j F S' := by
  obtain ⟨a1, a2, a3, a4, a5⟩ := R
  exact ⟨a1, RD_Sq h a2, fun j hj => by rw [Sq_n h (by decide) (by decide)]; exact a3 j hj, a4, a5⟩
/-- lines shown, as the reference has them -/
def SH (o k : Nat) (L : List Nat) (S : rs_S) : Prop := S.2.1 20 (2 * o + k) = Int32.ofNat L.length ∧ ∀ j, j < L.length → S.2.1 19 (240 * o + 120 * k + j) = Int32.ofNat (L.getD j 0)
/-- the latest of a line's places and beings, as an axis has them -/
def LX (D : aD) (F : fo) (k : Nat) (X : ax) : Prop := ∀ l, LatOf D (fun i => i < 120 ∧ qL D F 1 l i = true ∧ lkd D l = k) (xP X l) ∧ LatOf D (fun i => i < 120 ∧ qL D F 0 l i = true ∧ lkd D l = k) (xB X l)
theorem LX_l {D : aD} {F : fo} {k l : Nat} {X : ax} (h : LX D F k X) (hk : lkd D l = k) : LatOf D (fun i => i < 120 ∧ qL D F 1 l i = true) (xP X l) ∧ LatOf D (fun i => i < 120 ∧ qL D F 0 l i = true) (xB X l) := ⟨lat_ext (h l).1 (fun j => ⟨fun q => ⟨q.1, q.2, hk⟩, fun q => ⟨q.1, q.2.1⟩⟩), lat_ext (h l).2 (fun j => ⟨fun q => ⟨q.1, q.2, hk⟩, fun q => ⟨q.1, q.2.1⟩⟩)⟩
theorem q243x (R : RO D o F S) (W : Wd D) (hs : WS D) (hX : LX D F k X) (hl : LN D l) (hk : lkd D l = k) : rf_243 (Int32.ofNat o) (Int32.ofNat l) (1 : Int32) S = some (oi (xP X l), S) ∧ rf_243 (Int32.ofNat o) (Int32.ofNat l) (0 : Int32) S = some (oi (xB X l), S) := by
  have hin : ∀ b x y, (x < 120 ∧ qL D F b l x = true) → (y < 120 ∧ qL D F b l y = true) → stp D x = stp D y → x = y := by
    intro b x y hx hy e
    have h1 : ∀ x, (x < 120 ∧ qL D F b l x = true) → AN D x := by
      intro x hx
      have h2 := hx.2
      unfold qL at h2
      simp only [Bool.and_eq_true] at h2
      exact R.2.2.2.2 x hx.1 (tkB_t.mp h2.1)
    exact hs.1 x y (h1 x hx) (h1 y hy) e
  obtain ⟨c1, e1, l1⟩ := q243 (b := 1) R W (LN_lt W hl) (by omega)
  obtain ⟨c0, e0, l0⟩ := q243 (b := 0) R W (LN_lt W hl) (by omega)
  obtain ⟨x1, x0⟩ := LX_l hX hk
  rw [lat_un (hin 1) x1 l1, lat_un (hin 0) x0 l0]
  exact ⟨e1, e0⟩
end SHO
