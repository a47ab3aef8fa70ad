/-! WHAT a taken act leaves true: all that an office holds -/
def WL (D : aD) (F : fo) : Prop := ∀ y z, LatOf D (fun i => i < 120 ∧ qW D F y z i = true) (wtc D F y z) ∧ ((fW F).filter (wrB D y z)).length ≤ 1
/-- what an office holds is what follows from the acts that it has taken -/
def OI (D : aD) (F : fo) : Prop := WN F ∧ WC D F ∧ WL D F ∧ ∀ k, k < 2 → OX D F k (xO (fX F k)) ∧ LX D F k (fX F k) ∧ xS (fX F k) = xS (shw D (fX F k)) ∧ xA (fX F k) = xA (shw D (fX F k))
section KP3
variable {D : aD} {F : fo} {o i j l k b p q x y z : Nat} {r : rc} {L : List Nat} {X : ax}
theorem lrn_P : xP (lrn D X i) l = if l = lnp D i ∧ knd D i ≤ 3 then nxl D (xP X l) i else xP X l := by
  have h1 : ∀ Z m, xP (lrB D Z i m) = xP Z := by
    intro Z m
    unfold lrB
    split <;> rfl
  have h2 : xP (lrI D X i) = xP X := by
    unfold lrI
    split <;> rfl
  show xP (lrB D (lrP D (lrI D X i) i (lnp D i)) i (lnp D i)) l = _
  rw [h1]
  unfold lrP nxl
  rw [h2]
  by_cases z1 : knd D i ≤ 3
  · by_cases z2 : lat D i (xP X (lnp D i)) = true
    · rw [if_pos ⟨z1, z2⟩]
      show up (xP X) (lnp D i) (some i) l = _
      by_cases z3 : l = lnp D i
      · rw [if_pos ⟨z3, z1⟩, z3, up_e, if_pos z2]
      · rw [if_neg (fun e => z3 e.1), up_n z3]
    · rw [if_neg (fun e => z2 e.2), h2]
      by_cases z3 : l = lnp D i
      · rw [if_pos ⟨z3, z1⟩, z3, if_neg z2]
      · rw [if_neg (fun e => z3 e.1)]
  · rw [if_neg (fun e => z1 e.1), h2, if_neg (fun e => z1 e.2)]
theorem lrn_B : xB (lrn D X i) l = if l = lnp D i ∧ (knd D i = 1 ∨ knd D i = 4 ∨ knd D i = 5) then nxl D (xB X l) i else xB X l := by
  have h1 : ∀ Z m, xB (lrP D Z i m) = xB Z := by
    intro Z m
    unfold lrP
    split <;> rfl
  have h2 : xB (lrI D X i) = xB X := by
    unfold lrI
    split <;> rfl
  show xB (lrB D (lrP D (lrI D X i) i (lnp D i)) i (lnp D i)) l = _
  unfold lrB nxl
  rw [h1, h2]
  by_cases z1 : knd D i = 1 ∨ knd D i = 4 ∨ knd D i = 5
  · by_cases z2 : lat D i (xB X (lnp D i)) = true
    · rw [if_pos ⟨z1, z2⟩]
      show up (xB X) (lnp D i) (some i) l = _
      by_cases z3 : l = lnp D i
      · rw [if_pos ⟨z3, z1⟩, z3, up_e, if_pos z2]
      · rw [if_neg (fun e => z3 e.1), up_n z3]
    · rw [if_neg (fun e => z2 e.2), h1, h2]
      by_cases z3 : l = lnp D i
      · rw [if_pos ⟨z3, z1⟩, z3, if_neg z2]
      · rw [if_neg (fun e => z3 e.1)]
  · rw [if_neg (fun e => z1 e.1), h1, h2, if_neg (fun e => z1 e.2)]
theorem tkB_tk (hn : i % 40 = fK F (i / 40)) : tkB (tkF D F i) x = true ↔ tkB F x = true ∨ x = i := by
  rw [tkB_t, tkB_t]
  exact tkn_tk hn
theorem qL_tk (hi : D i = some r) (hn : i % 40 = fK F (i / 40)) : qL D (tkF D F i) b l x = true ↔ qL D F b l x = true ∨ (x = i ∧ spk b (rk r) = true ∧ rl r = some l) := by
  unfold qL
  simp only [Bool.and_eq_true, decide_eq_true_eq]
  rw [tkB_tk hn]
  constructor
  · rintro ⟨h1 | h1, h2, h3⟩
    · exact Or.inl ⟨h1, h2, h3⟩
    · subst h1
      rw [knd_e hi] at h2
      rw [hi] at h3
      exact Or.inr ⟨rfl, h2, h3⟩
  · rintro (⟨h1, h2, h3⟩ | ⟨h1, h2, h3⟩)
    · exact ⟨Or.inl h1, h2, h3⟩
    · subst h1
      rw [knd_e hi, hi]
      exact ⟨Or.inr rfl, h2, h3⟩
theorem qW_tk (hi : D i = some r) (hn : i % 40 = fK F (i / 40)) : qW D (tkF D F i) y z x = true ↔ qW D F y z x = true ∨ (x = i ∧ rk r = 6 ∧ rrw r = some y ∧ rcl r = some z) := by
  unfold qW
  simp only [Bool.and_eq_true, decide_eq_true_eq]
  rw [tkB_tk hn]
  constructor
  · rintro ⟨h1 | h1, h2, h3, h4⟩
    · exact Or.inl ⟨h1, h2, h3, h4⟩
    · subst h1
      rw [knd_e hi] at h2
      rw [hi] at h3 h4
      exact Or.inr ⟨rfl, h2, h3, h4⟩
  · rintro (⟨h1, h2, h3, h4⟩ | ⟨h1, h2, h3, h4⟩)
    · exact ⟨Or.inl h1, h2, h3, h4⟩
    · subst h1
      rw [knd_e hi, hi]
      exact ⟨Or.inr rfl, h2, h3, h4⟩
theorem wrs_find (hi : D i = some r) {a c : Nat} (ha : rrw r = some a) (hc : rcl r = some c) : ∀ L : List Nat, (wrs D i L).find? (wrB D y z) = if y = a ∧ z = c then nxl D (L.find? (wrB D y z)) i else L.find? (wrB D y z) := by
  have hwi : wrB D y z i = true ↔ (y = a ∧ z = c) := by
    unfold wrB
    rw [hi, Option.bind_some, Option.bind_some, ha, hc]
    simp only [Bool.and_eq_true, decide_eq_true_eq, Option.some.injEq]
    constructor
    · exact fun e => ⟨e.1.symm, e.2.symm⟩
    · exact fun e => ⟨e.1.symm, e.2.symm⟩
  intro L
  induction L with
  | nil =>
    rw [wrs, List.find?_nil]
    by_cases e : y = a ∧ z = c
    · rw [if_pos e, List.find?_cons, hwi.mpr e]
      rfl
    · rw [if_neg e, List.find?_cons]
      have : wrB D y z i = false := by
        cases hb : wrB D y z i with
        | false => rfl
        | true => exact absurd (hwi.mp hb) e
      rw [this, List.find?_nil]
  | cons x L ih =>
    have hsx : samB D x i = true ↔ ((D x).bind rrw = some a ∧ (D x).bind rcl = some c) := by
      unfold samB
      rw [hi, Option.bind_some, Option.bind_some, ha, hc]
      simp
    have hwx : wrB D y z x = true ↔ ((D x).bind rrw = some y ∧ (D x).bind rcl = some z) := by
      unfold wrB
      simp
    rw [wrs]
    by_cases e : y = a ∧ z = c
    · rw [if_pos e]
      obtain ⟨e1, e2⟩ := e
      subst e1
      subst e2
      by_cases s : samB D x i = true
      · have s2 : wrB D y z x = true := hwx.mpr (hsx.mp s)
        rw [if_pos s, List.find?_cons (a := x), s2]
        unfold nxl
        by_cases t : lat D i (some x) = true
        · rw [if_pos t, if_pos t, List.find?_cons, hwi.mpr ⟨rfl, rfl⟩]
        · rw [if_neg t, if_neg t, List.find?_cons, s2]
      · have s2 : wrB D y z x = false := by
          cases hb : wrB D y z x with
          | false => rfl
          | true => exact absurd (hsx.mpr (hwx.mp hb)) s
        rw [if_neg s, List.find?_cons, s2, List.find?_cons, s2, ih, if_pos ⟨rfl, rfl⟩]
    · rw [if_neg e]
      rw [if_neg e] at ih
      have hni : wrB D y z i = false := by
        cases hb : wrB D y z i with
        | false => rfl
        | true => exact absurd (hwi.mp hb) e
      by_cases s : samB D x i = true
      · have s2 : wrB D y z x = false := by
          cases hb : wrB D y z x with
          | false => rfl
          | true =>
            have g1 := hsx.mp s
            have g2 := hwx.mp hb
            rw [g1.1, g1.2] at g2
            exact absurd ⟨(Option.some.inj g2.1).symm, (Option.some.inj g2.2).symm⟩ e
        rw [if_pos s]
        by_cases t : lat D i (some x) = true
        · rw [if_pos t, List.find?_cons, hni, List.find?_cons, s2]
        · rw [if_neg t]
      · rw [if_neg s, List.find?_cons, List.find?_cons, ih]
theorem wrs_one (hi : D i = some r) {a c : Nat} (ha : rrw r = some a) (hc : rcl r = some c) : ∀ L : List Nat, ((wrs D i L).filter (wrB D y z)).length ≤ max 1 (L.filter (wrB D y z)).length := by
  have hwi : wrB D y z i = true ↔ (y = a ∧ z = c) := by
    unfold wrB
    rw [hi, Option.bind_some, Option.bind_some, ha, hc]
    simp only [Bool.and_eq_true, decide_eq_true_eq, Option.some.injEq]
    constructor
    · exact fun e => ⟨e.1.symm, e.2.symm⟩
    · exact fun e => ⟨e.1.symm, e.2.symm⟩
  intro L
  induction L with
  | nil =>
    rw [wrs, List.filter_cons]
    split <;> simp
  | cons x L ih =>
    have hsx : samB D x i = true ↔ ((D x).bind rrw = some a ∧ (D x).bind rcl = some c) := by
      unfold samB
      rw [hi, Option.bind_some, Option.bind_some, ha, hc]
      simp
    have hwx : wrB D y z x = true ↔ ((D x).bind rrw = some y ∧ (D x).bind rcl = some z) := by
      unfold wrB
      simp
    rw [wrs]
    by_cases s : samB D x i = true
    · rw [if_pos s]
      have hxi : wrB D y z x = wrB D y z i := by
        have g1 := hsx.mp s
        cases hb : wrB D y z i with
        | true =>
          have := hwi.mp hb
          exact hwx.mpr (by rw [g1.1, g1.2, this.1, this.2]; exact ⟨rfl, rfl⟩)
        | false =>
          cases hb2 : wrB D y z x with
          | false => rfl
          | true =>
            have g2 := hwx.mp hb2
            rw [g1.1, g1.2] at g2
            rw [hwi.mpr ⟨(Option.some.inj g2.1).symm, (Option.some.inj g2.2).symm⟩] at hb
            cases hb
      by_cases t : lat D i (some x) = true
      · rw [if_pos t, List.filter_cons, List.filter_cons, hxi]
        split
        · rw [List.length_cons, List.length_cons]; omega
        · omega
      · rw [if_neg t]; omega
    · rw [if_neg s, List.filter_cons, List.filter_cons]
      split
      · next hx =>
        have hni : ((wrs D i L).filter (wrB D y z)).length = (L.filter (wrB D y z)).length := by
          have hne : ¬ (y = a ∧ z = c) := fun e => s (hsx.mpr (by have := hwx.mp hx; rw [e.1, e.2] at this; exact this))
          have hwf : wrB D y z i = false := by
            cases hb : wrB D y z i with
            | false => rfl
            | true => exact absurd (hwi.mp hb) hne
          clear ih
          induction L with
          | nil => rw [wrs, List.filter_cons, if_neg (by rw [hwf]; decide)]
          | cons x' L ih2 =>
            rw [wrs]
            by_cases s' : samB D x' i = true
            · rw [if_pos s']
              have hx'f : wrB D y z x' = false := by
                cases hb2 : wrB D y z x' with
                | false => rfl
                | true =>
                  have g1 : (D x').bind rrw = some a ∧ (D x').bind rcl = some c := by
                    unfold samB at s'
                    rw [hi, Option.bind_some, Option.bind_some, ha, hc] at s'
                    simpa using s'
                  have g2 : (D x').bind rrw = some y ∧ (D x').bind rcl = some z := by
                    unfold wrB at hb2
                    simpa using hb2
                  rw [g1.1, g1.2] at g2
                  exact absurd ⟨(Option.some.inj g2.1).symm, (Option.some.inj g2.2).symm⟩ hne
              by_cases t : lat D i (some x') = true
              · rw [if_pos t, List.filter_cons, List.filter_cons, if_neg (by rw [hwf]; decide), if_neg (by rw [hx'f]; decide)]
              · rw [if_neg t]
            · rw [if_neg s', List.filter_cons, List.filter_cons]
              split
              · rw [List.length_cons, List.length_cons, ih2]
              · exact ih2
        rw [List.length_cons, List.length_cons, hni]
        omega
      · exact ih
/-- what an act speaks of was known to its maker -/
def inp (r : rc) (l : Nat) : Prop := l % 40 < rpa r (l / 40)
def WQ (D : aD) : Prop := ∀ i r, D i = some r → (∀ l, rl r = some l → l = i ∨ inp r l) ∧ (∀ l, raf r = some l → inp r l) ∧ (∀ l, rpl r = some l → l = i ∨ inp r l) ∧ (∀ l, rrw r = some l → inp r l) ∧ (∀ l, rcl r = some l → inp r l) ∧ ∀ l, rpb r = some l → inp r l
theorem inp_tk (hi : D i = some r) (hrd : rdy D F i = true) (hl : l < 120) (h : inp r l) : tkn F l := by
  unfold inp at h
  unfold tkn
  have := rdy_le hi hrd (l / 40) (by omega)
  omega
theorem OI_tk (W : Wd D) (hs : WS D) (hwk : WK D) (hwq : WQ D) (Wff : Wf D o F) (I : OI D F) (hi : D i = some r) (hn : i % 40 = fK F (i / 40)) (hrd : rdy D F i = true) : OI D (tkF D F i) := by
  obtain ⟨N, hc, hw, hx⟩ := I
  obtain ⟨N', -, -, -⟩ := WN_tk W Wff N hi hn
  have w1 := W i r hi
  have hqi := hwq i r hi
  have hnt : ¬ tkn F i := by unfold tkn; omega
  have tt : ∀ x, tkn F x → tkn (tkF D F i) x := fun x hx => (tkn_tk hn).mpr (Or.inl hx)
  have ti : tkn (tkF D F i) i := (tkn_tk hn).mpr (Or.inr rfl)
  have ANlt : ∀ x, AN D x → x < 120 := fun x ⟨q, hq⟩ => (W x q hq).1
  have hC : WC D (tkF D F i) := by
    intro j q hq hj
    rcases (tkn_tk hn).mp hj with g | g
    · obtain ⟨c1, c2, c3, c4, c5, c6⟩ := hc j q hq g
      exact ⟨fun l e => tt l (c1 l e), fun l e => tt l (c2 l e), fun l e => tt l (c3 l e), fun l e => tt l (c4 l e), fun l e => tt l (c5 l e), fun l e => tt l (c6 l e)⟩
    · subst g
      rw [hi] at hq
      cases hq
      obtain ⟨c1, c2, c3, c4, c5, c6⟩ := hqi
      obtain ⟨-, -, -, -, -, v1, v2, v3, v4, v5, v6, -⟩ := w1
      refine ⟨fun l e => ?_, fun l e => ?_, fun l e => ?_, fun l e => ?_, fun l e => ?_, fun l e => ?_⟩
      · rcases c1 l e with g | g
        · rw [g]; exact ti
        · exact tt l (inp_tk hi hrd (ANlt l (LN_AN (v1 l e))) g)
      · exact tt l (inp_tk hi hrd (ANlt l (PN_AN (v4 l e))) (c2 l e))
      · rcases c3 l e with g | g
        · rw [g]; exact ti
        · exact tt l (inp_tk hi hrd (ANlt l (PN_AN (v2 l e))) g)
      · exact tt l (inp_tk hi hrd (ANlt l (LN_AN (v5 l e))) (c4 l e))
      · exact tt l (inp_tk hi hrd (ANlt l (LN_AN (v6 l e))) (c5 l e))
      · exact tt l (inp_tk hi hrd (ANlt l (PN_AN (v3 l e))) (c6 l e))
  by_cases q6 : rk r = 6
  · have e : tkF D F i = (up (fK F) (i / 40) (i % 40 + 1), up (fA F) i true, wrs D i (fW F), max (fC F) (stp D i / 3), fX F) := if_pos (by rw [knd_e hi]; exact q6)
    have eX : fX (tkF D F i) = fX F := by rw [e]
    have eW : fW (tkF D F i) = wrs D i (fW F) := by rw [e]
    obtain ⟨a, c, ha, hcc⟩ := w1.2.2.2.2.2.2.2.2.2.2.2.2.1 q6
    refine ⟨N', hC, fun y z => ?_, fun k hk => ?_⟩
    · have hw2 := (hw y z).1
      have hw3 := (hw y z).2
      have hw4 := wrs_one (y := y) (z := z) hi ha hcc (fW F)
      refine ⟨?_, by rw [eW]; omega⟩
      unfold wtc at hw2 ⊢
      rw [eW, wrs_find hi ha hcc]
      by_cases g : y = a ∧ z = c
      · rw [if_pos g]
        refine lat_add (i := i) hw2 (fun j => ?_)
        rw [qW_tk hi hn]
        constructor
        · rintro ⟨g1, g2 | g2⟩
          · exact Or.inl ⟨g1, g2⟩
          · exact Or.inr g2.1
        · rintro (g1 | g1)
          · exact ⟨g1.1, Or.inl g1.2⟩
          · exact ⟨by rw [g1]; exact w1.1, Or.inr ⟨g1, q6, by rw [ha, g.1], by rw [hcc, g.2]⟩⟩
      · rw [if_neg g]
        refine lat_ext hw2 (fun j => ?_)
        rw [qW_tk hi hn]
        constructor
        · rintro ⟨g1, g2 | g2⟩
          · exact ⟨g1, g2⟩
          · exfalso
            rw [ha, hcc] at g2
            exact g ⟨(Option.some.inj g2.2.2.1).symm, (Option.some.inj g2.2.2.2).symm⟩
        · exact fun g1 => ⟨g1.1, Or.inl g1.2⟩
    · rw [eX]
      obtain ⟨x1, x2, x3, x4⟩ := hx k hk
      refine ⟨⟨fun p => ?_, x1.2⟩, fun l => ⟨lat_ext (x2 l).1 (fun j => ?_), lat_ext (x2 l).2 (fun j => ?_)⟩, x3, x4⟩
      · rw [x1.1 p, tkn_tk hn]
        constructor
        · rintro ⟨g1, g2, g3, g4⟩
          exact ⟨g1, Or.inl g2, g3, g4⟩
        · rintro ⟨g1, g2 | g2, g3, g4⟩
          · exact ⟨g1, g2, g3, g4⟩
          · exfalso
            obtain ⟨r', h1, h2⟩ := g3
            rw [g2, hi] at h1
            cases h1
            omega
      · rw [qL_tk hi hn, q6]
        have : spk 1 6 = false := rfl
        rw [this]
        simp
      · rw [qL_tk hi hn, q6]
        have : spk 0 6 = false := rfl
        rw [this]
        simp
  · have e : tkF D F i = (up (fK F) (i / 40) (i % 40 + 1), up (fA F) i true, fW F, max (fC F) (stp D i / 3), up (fX F) (lkd D (lnp D i)) (lrn D (fX F (lkd D (lnp D i))) i)) := if_neg (by rw [knd_e hi]; exact q6)
    have eX : fX (tkF D F i) = up (fX F) (lkd D (lnp D i)) (lrn D (fX F (lkd D (lnp D i))) i) := by rw [e]
    have eW : fW (tkF D F i) = fW F := by rw [e]
    obtain ⟨hLN, hrl⟩ := act_l0 W hi q6
    refine ⟨N', hC, fun y z => ?_, fun k hk => ?_⟩
    · have hw2 := (hw y z).1
      refine ⟨?_, by rw [eW]; exact (hw y z).2⟩
      unfold wtc at hw2 ⊢
      rw [eW]
      refine lat_ext hw2 (fun j => ?_)
      rw [qW_tk hi hn]
      constructor
      · rintro ⟨g1, g2 | g2⟩
        · exact ⟨g1, g2⟩
        · exact absurd g2.2.1 q6
      · exact fun g1 => ⟨g1.1, Or.inl g1.2⟩
    · obtain ⟨x1, x2, x3, x4⟩ := hx k hk
      rw [eX]
      by_cases kk : k = lkd D (lnp D i)
      · rw [← kk, up_e]
        refine ⟨⟨fun p => ?_, ?_, ?_⟩, fun l => ⟨?_, ?_⟩, rfl, rfl⟩
        · rw [lrn_O, tkn_tk hn]
          unfold lrI
          rw [knd_e hi]
          by_cases q2 : rk r ≤ 2
          · rw [if_pos q2]
            show p ∈ ins D (xO (fX F k)) i ↔ _
            rw [ins_mem, x1.1 p]
            constructor
            · rintro (g | ⟨g1, g2, g3, g4⟩)
              · subst g
                exact ⟨w1.1, Or.inr rfl, ⟨r, hi, q2⟩, kk.symm⟩
              · exact ⟨g1, Or.inl g2, g3, g4⟩
            · rintro ⟨g1, g2 | g2, g3, g4⟩
              · exact Or.inr ⟨g1, g2, g3, g4⟩
              · exact Or.inl g2
          · rw [if_neg q2, x1.1 p]
            constructor
            · rintro ⟨g1, g2, g3, g4⟩
              exact ⟨g1, Or.inl g2, g3, g4⟩
            · rintro ⟨g1, g2 | g2, g3, g4⟩
              · exact ⟨g1, g2, g3, g4⟩
              · exfalso
                obtain ⟨r', h1, h2⟩ := g3
                rw [g2, hi] at h1
                cases h1
                omega
        · rw [lrn_O]
          unfold lrI
          rw [knd_e hi]
          by_cases q2 : rk r ≤ 2
          · rw [if_pos q2]
            have hni : i ∉ xO (fX F k) := fun g => hnt ((x1.1 i).mp g).2.1
            have K := OX_ok W hs hc hwk x1
            have hst : ∀ x ∈ i :: xO (fX F k), stp D x < 400 := by
              intro x hx
              rcases List.mem_cons.mp hx with g | g
              · rw [g, stp_e hi]; exact w1.2.2.2.1
              · exact (kyi_b W (PN_AN ((x1.1 x).mp g).2.2.1)).2
            have hanx : ∀ x ∈ i :: xO (fX F k), AN D x := by
              intro x hx
              rcases List.mem_cons.mp hx with g | g
              · rw [g]; exact ⟨r, hi⟩
              · exact PN_AN ((x1.1 x).mp g).2.2.1
            have Kp : Pok (pR D) (pM D) (pP D) (i :: xO (fX F k)) := by
              refine ⟨fun x hx => pP_e W hs (hanx x hx), fun x hx y hy => ?_, fun x hx y hy g => ?_⟩
              · rcases List.mem_cons.mp hx with g | g
                · subst g
                  have e' : raf r = some y := by
                    have : (D x).bind raf = some y := hy
                    rw [hi] at this
                    exact this
                  have h3 := hs.2 x r y hi e'
                  have h5 := w1.2.2.2.2.2.2.2.2.1 y e'
                  have h7 := stp_e hi
                  have h8 := w1.2.2.2.1
                  refine ⟨List.mem_cons_of_mem _ ((x1.1 y).mpr ⟨ANlt y (PN_AN h5), inp_tk hi hrd (ANlt y (PN_AN h5)) (hqi.2.1 y e'), h5, by rw [(hwk x r y hi e').2]; exact kk.symm⟩), by show 1000 - stp D x < 1000 - stp D y; omega⟩
                · obtain ⟨h1, h2⟩ := K.2.1 x g y hy
                  exact ⟨List.mem_cons_of_mem _ h1, h2⟩
              · have h1 := hst x hx
                have h2 := hst y hy
                exact hs.1 x y (hanx x hx) (hanx y hy) (by have g' : 1000 - stp D x = 1000 - stp D y := g; omega)
            exact ord_ins W hs K Kp hni hst x1.2.1
          · rw [if_neg q2]
            exact x1.2.1
        · rw [lrn_O]
          unfold lrI
          by_cases q2 : knd D i ≤ 2
          · rw [if_pos q2]
            exact ins_nd x1.2.2 (fun g => hnt ((x1.1 i).mp g).2.1)
          · rw [if_neg q2]
            exact x1.2.2
        · rw [lrn_P, knd_e hi]
          by_cases g : l = lnp D i ∧ rk r ≤ 3
          · rw [if_pos g]
            refine lat_add (i := i) (x2 l).1 (fun j => ?_)
            have hsp : spk 1 (rk r) = true := by
              have : rk r = 1 ∨ rk r = 2 ∨ rk r = 3 := by have := w1.2.1; omega
              rcases this with h | h | h <;> rw [h] <;> rfl
            rw [qL_tk hi hn]
            constructor
            · rintro ⟨g1, g2 | g2, g3⟩
              · exact Or.inl ⟨g1, g2, g3⟩
              · exact Or.inr g2.1
            · rintro (g1 | g1)
              · exact ⟨g1.1, Or.inl g1.2.1, g1.2.2⟩
              · exact ⟨by rw [g1]; exact w1.1, Or.inr ⟨g1, hsp, by rw [hrl, g.1]⟩, by rw [g.1]; exact kk.symm⟩
          · rw [if_neg g]
            refine lat_ext (x2 l).1 (fun j => ?_)
            rw [qL_tk hi hn]
            constructor
            · rintro ⟨g1, g2 | g2, g3⟩
              · exact ⟨g1, g2, g3⟩
              · exfalso
                apply g
                rw [hrl] at g2
                refine ⟨(Option.some.inj g2.2.2).symm, ?_⟩
                have h3 := g2.2.1
                unfold spk at h3
                simp at h3
                omega
            · exact fun g1 => ⟨g1.1, Or.inl g1.2.1, g1.2.2⟩
        · rw [lrn_B, knd_e hi]
          by_cases g : l = lnp D i ∧ (rk r = 1 ∨ rk r = 4 ∨ rk r = 5)
          · rw [if_pos g]
            refine lat_add (i := i) (x2 l).2 (fun j => ?_)
            have hsp : spk 0 (rk r) = true := by
              rcases g.2 with h | h | h <;> rw [h] <;> rfl
            rw [qL_tk hi hn]
            constructor
            · rintro ⟨g1, g2 | g2, g3⟩
              · exact Or.inl ⟨g1, g2, g3⟩
              · exact Or.inr g2.1
            · rintro (g1 | g1)
              · exact ⟨g1.1, Or.inl g1.2.1, g1.2.2⟩
              · exact ⟨by rw [g1]; exact w1.1, Or.inr ⟨g1, hsp, by rw [hrl, g.1]⟩, by rw [g.1]; exact kk.symm⟩
          · rw [if_neg g]
            refine lat_ext (x2 l).2 (fun j => ?_)
            rw [qL_tk hi hn]
            constructor
            · rintro ⟨g1, g2 | g2, g3⟩
              · exact ⟨g1, g2, g3⟩
              · exfalso
                apply g
                rw [hrl] at g2
                refine ⟨(Option.some.inj g2.2.2).symm, ?_⟩
                have h3 := g2.2.1
                unfold spk at h3
                simp at h3
                omega
            · exact fun g1 => ⟨g1.1, Or.inl g1.2.1, g1.2.2⟩
      · rw [up_n kk]
        refine ⟨⟨fun p => ?_, x1.2⟩, fun l => ⟨lat_ext (x2 l).1 (fun j => ?_), lat_ext (x2 l).2 (fun j => ?_)⟩, x3, x4⟩
        · rw [x1.1 p, tkn_tk hn]
          constructor
          · rintro ⟨g1, g2, g3, g4⟩
            exact ⟨g1, Or.inl g2, g3, g4⟩
          · rintro ⟨g1, g2 | g2, g3, g4⟩
            · exact ⟨g1, g2, g3, g4⟩
            · exact absurd (by rw [← g4, g2]) kk
        · rw [qL_tk hi hn]
          constructor
          · rintro ⟨g1, g2 | g2, g3⟩
            · exact ⟨g1, g2, g3⟩
            · exfalso
              rw [hrl] at g2
              exact kk (by rw [← g3, ← Option.some.inj g2.2.2])
          · exact fun g1 => ⟨g1.1, Or.inl g1.2.1, g1.2.2⟩
        · rw [qL_tk hi hn]
          constructor
          · rintro ⟨g1, g2 | g2, g3⟩
            · exact ⟨g1, g2, g3⟩
            · exfalso
              rw [hrl] at g2
              exact kk (by rw [← g3, ← Option.some.inj g2.2.2])
          · exact fun g1 => ⟨g1.1, Or.inl g1.2.1, g1.2.2⟩
end KP3
