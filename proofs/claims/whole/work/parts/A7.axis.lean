/-! AXES: order, insert, show anew, learn -/
/-- where a place stands -/
def od : List Nat → Nat → Option Nat → Option Nat
  | [], _, _ => none
  | x :: L, i, q => if some x = q then some i else od L (i + 1) q
def ik0 (L : List Nat) (q : Option Nat) : Nat := (od L 0 q).elim 0 (fun i => i + 1)
def ink (D : aD) (L : List Nat) (p : Nat) : Nat := ik0 L ((D p).bind raf) + ((L.drop (ik0 L ((D p).bind raf))).takeWhile (fun q => decide (stp D p < stp D q))).length
def ins (D : aD) (L : List Nat) (p : Nat) : List Nat := L.take (ink D L p) ++ p :: L.drop (ink D L p)
def insx (D : aD) (X : ax) (p : Nat) : ax := (ins D (xO X) p, X.2)
/-- the line of a place -/
def lnp (D : aD) (p : Nat) : Nat := ((D p).bind rl).getD 0
def shs (D : aD) (X : ax) (s : List Nat × (Nat → Int32)) (p : Nat) : List Nat × (Nat → Int32) := if plc D X (lnp D p) = some p ∧ thr D X (lnp D p) = true then (s.1 ++ [lnp D p], up s.2 (lnp D p) (Int32.ofNat s.1.length)) else s
def shl (D : aD) (X : ax) (L : List Nat) (s : List Nat × (Nat → Int32)) : List Nat × (Nat → Int32) := L.foldl (shs D X) s
def shx (X : ax) (s : List Nat × (Nat → Int32)) : ax := (xO X, s.1, xP X, xB X, s.2)
def shw (D : aD) (X : ax) : ax := shx X (shl D X (xO X) ([], fun _ => -1))
def lrP (D : aD) (X : ax) (i l : Nat) : ax := if knd D i ≤ 3 ∧ lat D i (xP X l) = true then (xO X, xS X, up (xP X) l (some i), xB X, xA X) else X
def lrB (D : aD) (X : ax) (i l : Nat) : ax := if (knd D i = 1 ∨ knd D i = 4 ∨ knd D i = 5) ∧ lat D i (xB X l) = true then (xO X, xS X, xP X, up (xB X) l (some i), xA X) else X
def lrI (D : aD) (X : ax) (i : Nat) : ax := if knd D i ≤ 2 then insx D X i else X
def lrn (D : aD) (X : ax) (i : Nat) : ax := shw D (lrB D (lrP D (lrI D X i) i (lnp D i)) i (lnp D i))
section AXS
variable {A A' : ah} {h : pm_H} {M : aM} {D : aD} {X : ax} {F : fo} {c o i j l p k : Nat} {r : rc} {a : Int32} {w : Option Nat} {Y : List Nat}
/-! what is kept -/
theorem Cd_st (V : Cd M A D) (R : ar A h) (s : st A A' Y k j) (hY : ∀ x ∈ Y, x < 178) : Cd M A' D := by
  refine ⟨fun i r hi => ?_, V.2⟩
  obtain ⟨v1, v2, v3, v4, v5⟩ := V.1 i r hi
  have nm : ∀ q, M q i ∉ Y := fun q z => by
    have := hY _ z
    have := (v5 q).1
    omega
  refine ⟨st_c s R v1 (by intro q; cases q) (nm 0), st_c s R v2 (by intro q; cases q) (nm 3), fun q => st_c s R (v3 q) (by intro q; cases q) (nm 1), fun q => st_c s R (v4 q) (by intro q; cases q) (nm 2), fun q => ⟨(v5 q).1, Nat.lt_of_lt_of_le (v5 q).2 s.1⟩⟩
theorem Cx_st (C : Cx M A c X) (R : ar A h) (s : st A A' Y k j) (hY : ∀ x ∈ Y, x < c ∨ c + 5 < x) : Cx M A' c X := by
  obtain ⟨c0, ⟨cap1, c1⟩, ⟨cap2, c2⟩, c3, c4, c5⟩ := C
  have nm : ∀ q, q ≤ 5 → c + q ∉ Y := fun q hq z => by
    have := hY _ z
    omega
  exact ⟨st_c s R c0 (by intro q; cases q) (nm 0 (by omega)), ⟨cap1, st_c s R c1 (by intro q; cases q) (nm 1 (by omega))⟩, ⟨cap2, st_c s R c2 (by intro q; cases q) (nm 2 (by omega))⟩, st_c s R c3 (by intro q; cases q) (nm 3 (by omega)), st_c s R c4 (by intro q; cases q) (nm 4 (by omega)), st_c s R c5 (by intro q; cases q) (nm 5 (by omega))⟩
theorem Cf_st (C : Cf M A o F) (R : ar A h) (s : st A A' Y k j) (hY : ∀ x ∈ Y, x < 94 + 17 * o ∨ 94 + 17 * o + 16 < x) : Cf M A' o F := by
  obtain ⟨c0, c1, c2, c3, ⟨cap, c4⟩, c5⟩ := C
  have nm : ∀ q, q ≤ 16 → 94 + 17 * o + q ∉ Y := fun q hq z => by
    have := hY _ z
    omega
  exact ⟨st_c s R c0 (by intro q; cases q) (nm 0 (by omega)), st_c s R c1 (by intro q; cases q) (nm 1 (by omega)), st_c s R c2 (by intro q; cases q) (nm 2 (by omega)), st_c s R c3 (by intro q; cases q) (nm 3 (by omega)), ⟨cap, st_c s R c4 (by intro q; cases q) (nm 4 (by omega))⟩, fun k hk => Cx_st (c5 k hk) R s (fun x hx => by have := hY x hx; omega)⟩
theorem Cb_st (C : Cb A) (R : ar A h) (s : st A A' Y k j) (hY : ∀ x ∈ Y, 82 < x) : Cb A' := by
  obtain ⟨c0, c1, c2⟩ := C
  have nm : ∀ q, q ≤ 82 → q ∉ Y := fun q hq z => by
    have := hY _ z
    omega
  exact ⟨st_c s R c0 (by intro q; cases q) (nm _ (by omega)), st_c s R c1 (by intro q; cases q) (nm _ (by omega)), fun k y e => by
    have hk := (List.getElem?_eq_some_iff.mp e).1
    rw [pt_K1l] at hk
    exact st_c s R (c2 k y e) (by intro q; cases q) (nm (k + 1) (by omega))⟩
/-! order -/
theorem gl_drop {L : List Nat} (hi : i < L.length) : L.drop i = L.getD i 0 :: L.drop (i + 1) := by
  rw [List.drop_eq_getElem_cons hi, List.getD_eq_getElem?_getD, List.getElem?_eq_getElem hi]
  rfl
theorem PN_rd (R : ar A h) (V : Cd M A D) (hp : PN D p) : lf_cc 81 h (some (M 2 p)) [8] = true ∧ lf_I h (some (M 2 p)) [8, 2] = some (Int32.ofNat (stp D p)) ∧ lf_R h (some (M 2 p)) [8, 0] = some (((D p).bind rl).map (M 1)) ∧ lf_R h (some (M 2 p)) [8, 1] = some (((D p).bind raf).map (M 2)) := by
  obtain ⟨r, h1, h2, h3⟩ := PN_c V hp
  have h4 := ar_c R h3
  unfold stp
  rw [h1]
  refine ⟨?_, hc_I h4 rfl, hc_R (o := (rl r).map (M 1)) h4 rfl, hc_R (o := (raf r).map (M 2)) h4 rfl⟩
  unfold lf_cc
  dsimp only
  rw [h4]
  rfl
theorem c114l (R : ar A h) (C : Cx M A c X) (V : Cd M A D) (Wxx : Wx D X) {q : Option Nat} (hq : ∀ p, q = some p → PN D p) : ∀ m i, i ≤ (xO X).length → (xO X).length - i < m → l114_2 m (some c) (q.map (M 2)) (Int32.ofNat i) h = rtI ((od ((xO X).drop i) i q).elim (-1) Int32.ofNat) h := by
  have hle := Wxx.2.2.2.2.1
  obtain ⟨c0, ⟨cap, c1⟩, -⟩ := C
  intro m
  induction m with
  | zero => intro i h1 h2; omega
  | succ m ih =>
    intro i h1 h2
    rw [l114_2]
    dsimp only
    rw [hc_R (o := some (c + 1)) (ar_c R c0) rfl, Option.bind_some, if_pos (ar_lc R c1), ll_size R c1, List.length_map]
    show (if Int32.ofNat (xO X).length ≤ Int32.ofNat i then _ else _) = _
    by_cases z : (xO X).length ≤ i
    · rw [if_pos ((i32_len (by omega) (by omega)).mpr z), List.drop_of_length_le z]
      rfl
    · have hi : i < (xO X).length := by omega
      have hp := Wxx.1 _ (gl_mem hi)
      have n4 : Int32.ofNat i + (1 : Int32) = Int32.ofNat (i + 1) := i32_add i 1
      rw [if_neg (fun y => z ((i32_len (by omega) (by omega)).mp y)), hc_R (o := some (c + 1)) (ar_c R c0) rfl, Option.bind_some, if_pos (ar_lc R c1), ll_get R c1 (by rw [List.length_map]; exact hi), gl_map hi]
      show lb_A (tm_acm (some (M 2 ((xO X).getD i 0))) (q.map (M 2))) _ _ = _
      rw [acmA (Cd_1 V (PN_AN hp)) (Cd_idn V (fun j e => PN_AN (hq j e))), gl_drop hi, od]
      have e : (some (M 2 ((xO X).getD i 0)) = q.map (M 2)) ↔ some ((xO X).getD i 0) = q := Cd_in V (q := 2) (x := some ((xO X).getD i 0)) (y := q) (fun j e => by cases e; exact PN_AN hp) (fun j e => PN_AN (hq j e))
      by_cases y : some ((xO X).getD i 0) = q
      · rw [if_pos (e.mpr y), if_pos y]
        rfl
      · rw [if_neg (fun x => y (e.mp x)), if_neg y, n4, ih (i + 1) (by omega) (by omega)]
theorem od_le : ∀ (L : List Nat) (i : Nat) (q : Option Nat) (j : Nat), od L i q = some j → i ≤ j ∧ j < i + L.length
  | [], _, _, _, e => by cases e
  | x :: L, i, q, j, e => by
    rw [od] at e
    rw [List.length_cons]
    by_cases z : some x = q
    · rw [if_pos z] at e
      cases e
      omega
    · rw [if_neg z] at e
      have := od_le L (i + 1) q j e
      omega
theorem ik0_le {L : List Nat} {q : Option Nat} : ik0 L q ≤ L.length := by
  unfold ik0
  cases e : od L 0 q with
  | none => exact Nat.zero_le _
  | some j =>
    have := od_le L 0 q j e
    show j + 1 ≤ L.length
    omega
theorem c114 (R : ar A h) (C : Cx M A c X) (V : Cd M A D) (Wxx : Wx D X) {q : Option Nat} (hq : ∀ p, q = some p → PN D p) : ∃ v, ll_114 (some c) (q.map (M 2)) h = rtI v h ∧ v + 1 = Int32.ofNat (ik0 (xO X) q) := by
  refine ⟨_, c114l R C V Wxx hq lf_N 0 (by omega) (by have := Wxx.2.2.2.2.1; unfold lf_N; omega), ?_⟩
  rw [List.drop_zero]
  unfold ik0
  cases od (xO X) 0 q with
  | none => decide
  | some j => exact i32_add j 1
theorem c113l (R : ar A h) (C : Cx M A c X) (V : Cd M A D) (W : Wd D) (Wxx : Wx D X) (hp : PN D p) : ∀ m i, i ≤ (xO X).length → (xO X).length - i < m → l113_11 w m (some c) (some (M 2 p)) (Int32.ofNat i) h = l113_49 w (some c) (some (M 2 p)) (Int32.ofNat (i + (((xO X).drop i).takeWhile (fun q => decide (stp D p < stp D q))).length)) h := by
  have hle := Wxx.2.2.2.2.1
  have hs : ∀ x, PN D x → stp D x < 1000 := by
    intro x ⟨r, h1, h2⟩
    unfold stp
    rw [h1]
    exact Nat.lt_trans (W x r h1).2.2.2.1 (by omega)
  obtain ⟨c0, ⟨cap, c1⟩, -⟩ := C
  intro m
  induction m with
  | zero => intro i h1 h2; omega
  | succ m ih =>
    intro i h1 h2
    rw [l113_11]
    dsimp only
    rw [hc_R (o := some (c + 1)) (ar_c R c0) rfl, Option.bind_some, if_pos (ar_lc R c1), ll_size R c1, List.length_map]
    show (if Int32.ofNat (xO X).length ≤ Int32.ofNat i then _ else _) = _
    by_cases z : (xO X).length ≤ i
    · rw [if_pos ((i32_len (by omega) (by omega)).mpr z), List.drop_of_length_le z]
      rfl
    · have hi : i < (xO X).length := by omega
      have hg := Wxx.1 _ (gl_mem hi)
      have n4 : Int32.ofNat i + (1 : Int32) = Int32.ofNat (i + 1) := i32_add i 1
      have b1 := hs _ hg
      have b2 := hs _ hp
      rw [if_neg (fun y => z ((i32_len (by omega) (by omega)).mp y)), hc_R (o := some (c + 1)) (ar_c R c0) rfl, Option.bind_some, if_pos (ar_lc R c1), ll_get R c1 (by rw [List.length_map]; exact hi), gl_map hi]
      show (if lf_cc 81 h (some (M 2 ((xO X).getD i 0))) [8] = true then _ else _) = _
      rw [if_pos (PN_rd R V hg).1, (PN_rd R V hg).2.1, Option.bind_some, (PN_rd R V hp).2.1, Option.bind_some, gl_drop hi, List.takeWhile_cons]
      by_cases y : stp D p < stp D ((xO X).getD i 0)
      · rw [if_neg (fun x => by have := (i32_len (by omega) (by omega)).mp x; omega), n4, ih (i + 1) (by omega) (by omega), if_pos (decide_eq_true y), List.length_cons]
        congr 2
        omega
      · rw [if_pos ((i32_len (by omega) (by omega)).mpr (by omega)), if_neg (by simpa using y)]
        rfl
theorem ink_le {L : List Nat} : ink D L p ≤ L.length := by
  unfold ink
  have h1 := @ik0_le L ((D p).bind raf)
  have h2 := (List.takeWhile_sublist (l := L.drop (ik0 L ((D p).bind raf))) (fun q => decide (stp D p < stp D q))).length_le
  rw [List.length_drop] at h2
  omega
theorem c113 (R : ar A h) (hc : 81 ≤ c) (hc2 : c + 5 < 145) (C : Cx M A c X) (V : Cd M A D) (W : Wd D) (Wxx : Wx D X) (hp : PN D p) (hlen : (xO X).length < 120) : ∃ A' h', ll_113 w (some c) (some (M 2 p)) h = rtV h' ∧ ar A' h' ∧ Cx M A' c (insx D X p) ∧ st A A' [c + 1] 0 0 := by
  have C' := C
  obtain ⟨c0, ⟨cap, c1⟩, ⟨cap2, c2⟩, c3, c4, c5⟩ := C
  have hq : ∀ q, (D p).bind raf = some q → PN D q := by
    obtain ⟨r, h1, h2⟩ := hp
    rw [h1]
    exact (W p r h1).2.2.2.2.2.2.2.2.1
  obtain ⟨v, e1, e2⟩ := c114 R C' V Wxx hq
  obtain ⟨r, hr1, hr2, hr3⟩ := PN_c V hp
  have hmap : ((xO X).map (M 2)).length = (xO X).length := List.length_map _
  obtain ⟨A', h', cap', g1, g2, g3, g4⟩ := ll_ins (w := w) (x := M 2 p) R (by omega) c1 (by omega) ⟨8, _, hr3, Or.inr (Or.inr rfl)⟩ (i := ink D (xO X) p) (by rw [hmap]; exact ink_le)
  refine ⟨A', h', ?_, g2, ⟨st_c g4 R c0 (by intro q; cases q) (by simp), ⟨cap', ?_⟩, ⟨cap2, st_c g4 R c2 (by intro q; cases q) (by simp)⟩, st_c g4 R c3 (by intro q; cases q) (by simp), st_c g4 R c4 (by intro q; cases q) (by simp), st_c g4 R c5 (by intro q; cases q) (by simp)⟩, g4⟩
  · unfold ll_113
    rw [(PN_rd R V hp).2.2.2, Option.bind_some, if_pos (hc_lc (ar_c R c0)), e1, rt_I, e2, c113l R C' V W Wxx hp _ _ ik0_le (by unfold lf_N; omega)]
    unfold l113_49
    rw [hc_R (o := some (c + 1)) (ar_c R c0) rfl, Option.bind_some, if_pos (ar_lc R c1)]
    have e3 : ll_115 w (some (c + 1)) (Int32.ofNat (ik0 (xO X) ((D p).bind raf) + (((xO X).drop (ik0 (xO X) ((D p).bind raf))).takeWhile (fun q => decide (stp D p < stp D q))).length)) (some (M 2 p)) h = some (.inl none, h') := g1
    rw [e3]
    rfl
  · rw [g3]
    show ac_l _ cap' = ac_l ((ins D (xO X) p).map (M 2)) cap'
    unfold ins
    rw [List.map_append, List.map_cons, List.map_take, List.map_drop]
end AXS
