/-! THE ABSTRACT HEAP: cells as they are, lists and texts by what they hold, their arrays hidden -/
abbrev ac : Type := pm_C ⊕ ((List Nat × Nat) ⊕ ((List Nat × Nat) ⊕ Nat))
abbrev ac_c (x : pm_C) : ac := .inl x
abbrev ac_l (L : List Nat) (cap : Nat) : ac := .inr (.inl (L, cap))
abbrev ac_t (T : List Nat) (cap : Nat) : ac := .inr (.inr (.inl (T, cap)))
abbrev ac_x (o : Nat) : ac := .inr (.inr (.inr o))
/-- its cells, how many, how many slots -/
abbrev ah : Type := (Nat → ac) × (Nat × Nat)
def ah_set (A : ah) (a : Nat) (y : ac) : ah := (fun b => if b = a then y else A.1 b, A.2)
def ah_new (A : ah) (y : ac) (k : Nat) : ah := (fun b => if b = A.2.1 then y else A.1 b, (A.2.1 + 1, A.2.2 + k))
theorem ah_set_e {A : ah} {a : Nat} {y : ac} : (ah_set A a y).1 a = y := if_pos rfl
theorem ah_set_n {A : ah} {a b : Nat} {y : ac} (h : b ≠ a) : (ah_set A a y).1 b = A.1 b := if_neg h
theorem ah_new_e {A : ah} {k : Nat} {y : ac} : (ah_new A y k).1 A.2.1 = y := if_pos rfl
theorem ah_new_n {A : ah} {b k : Nat} {y : ac} (h : b ≠ A.2.1) : (ah_new A y k).1 b = A.1 b := if_neg h
/-- an object that a list may hold: a line, an act, a place -/
def ar_o (A : ah) (x : Nat) : Prop := ∃ ci fs, A.1 x = ac_c (.inl (ci, fs)) ∧ (ci = 6 ∨ ci = 7 ∨ ci = 8)
def ar_l (A : ah) (h : pm_H) (a : Nat) (L : List Nat) (cap : Nat) : Prop := ∃ e m, al_c h a e L cap m ∧ cap ∈ al_caps ∧ (cap = 0 → e = 20) ∧ (cap ≠ 0 → 81 ≤ e ∧ A.1 e = ac_x a) ∧ ∀ x ∈ L, ar_o A x
def sb_arr (T : List Nat) (rest : List Value) : pm_C := .inr (4, T.map (fun c => Value.int (Int32.ofNat c)) ++ rest)
def sb_caps : List Nat := [16, 34, 70, 142, 286]
def sb_obj (ee : Nat) (T : List Nat) (m : Int32) : pm_C := .inl (11, [.ref ee, .int 0, .int m, .int (Int32.ofNat T.length)])
def sb_c (h : pm_H) (a ee : Nat) (T : List Nat) (cap : Nat) (m : Int32) (rest : List Value) : Prop := h.1[a]? = some (sb_obj ee T m) ∧ h.1[ee]? = some (sb_arr T rest) ∧ T.length + rest.length = cap ∧ rest.all (pm_fit 4) = true ∧ ∀ c ∈ T, c < 128
def ar_t (A : ah) (h : pm_H) (a : Nat) (T : List Nat) (cap : Nat) : Prop := ∃ ee m rest, sb_c h a ee T cap m rest ∧ cap ∈ sb_caps ∧ 81 ≤ ee ∧ A.1 ee = ac_x a
def ar (A : ah) (h : pm_H) : Prop := h.1.length = A.2.1 ∧ h.2 = A.2.2 ∧ (∀ a, A.2.1 ≤ a → A.1 a = ac_x 0) ∧ (∀ a y, A.1 a = ac_c y → h.1[a]? = some y) ∧ (∀ a L cap, A.1 a = ac_l L cap → 81 ≤ a ∧ ar_l A h a L cap) ∧ (∀ a T cap, A.1 a = ac_t T cap → 81 ≤ a ∧ ar_t A h a T cap) ∧ A.1 20 = ac_c (.inr (13, [])) ∧ 81 ≤ A.2.1
section AR
variable {A A' : ah} {h h' : pm_H} {a b cap k : Nat} {L : List Nat} {y : pm_C}
theorem ar_len (R : ar A h) : h.1.length = A.2.1 := R.1
theorem ar_lt (R : ar A h) (e : A.1 a ≠ ac_x 0) : a < A.2.1 := by
  rcases Nat.lt_or_ge a A.2.1 with q | q
  · exact q
  · exact absurd (R.2.2.1 a q) e
theorem ar_c (R : ar A h) (e : A.1 a = ac_c y) : h.1[a]? = some y := R.2.2.2.1 a y e
theorem ar_lt_c (R : ar A h) (e : A.1 a = ac_c y) : a < A.2.1 := ar_lt R (by rw [e]; intro q; cases q)
theorem ar_lt_l (R : ar A h) (e : A.1 a = ac_l L cap) : a < A.2.1 := ar_lt R (by rw [e]; intro q; cases q)
theorem ar_lt_t (R : ar A h) (e : A.1 a = ac_t L cap) : a < A.2.1 := ar_lt R (by rw [e]; intro q; cases q)
/-- the cell a0 gets something else; its own hidden cells may change, and new ones may come -/
theorem ar_upd {a0 : Nat} (R : ar A h) (h81 : 81 ≤ a0) (hv : ∀ o, A.1 a0 ≠ ac_x o) (hn : A.2.1 ≤ A'.2.1) (hk : ∀ b, b < A.2.1 → b ≠ a0 → A'.1 b = A.1 b)
    (hx : ∀ b, A.2.1 ≤ b → b < A'.2.1 → A'.1 b = ac_x a0) (hi : ∀ b, A'.2.1 ≤ b → A'.1 b = ac_x 0) (hl : h'.1.length = A'.2.1) (hs : h'.2 = A'.2.2)
    (hc : ∀ b, b < A.2.1 → b ≠ a0 → A.1 b ≠ ac_x a0 → h'.1[b]? = h.1[b]?) (ho : ar_o A a0 → ar_o A' a0)
    (p1 : ∀ y, A'.1 a0 = ac_c y → h'.1[a0]? = some y) (p2 : ∀ L cap, A'.1 a0 = ac_l L cap → ar_l A' h' a0 L cap) (p3 : ∀ T cap, A'.1 a0 = ac_t T cap → ar_t A' h' a0 T cap) : ar A' h' := by
  have hlow : ∀ {b}, A'.1 b ≠ ac_x 0 → A'.1 b ≠ ac_x a0 → b < A.2.1 := by
    intro b q1 q2
    rcases Nat.lt_or_ge b A.2.1 with q | q
    · exact q
    · rcases Nat.lt_or_ge b A'.2.1 with r | r
      · exact absurd (hx b q r) q2
      · exact absurd (hi b r) q1
  have hob : ∀ x, ar_o A x → ar_o A' x := by
    intro x hxo
    by_cases q : x = a0
    · subst q; exact ho hxo
    · obtain ⟨ci, fs, e, hci⟩ := hxo
      exact ⟨ci, fs, by rw [hk x (ar_lt_c R e) q]; exact e, hci⟩
  have hhid : ∀ {b ee}, 81 ≤ b → b ≠ a0 → A.1 ee = ac_x b → ee < A.2.1 ∧ A'.1 ee = ac_x b ∧ h'.1[ee]? = h.1[ee]? := by
    intro b ee g81 q hxb
    have hlt : ee < A.2.1 := ar_lt R (by rw [hxb]; intro q; cases q; omega)
    have hne : ee ≠ a0 := by
      intro q2
      rw [q2] at hxb
      exact hv _ hxb
    exact ⟨hlt, by rw [hk ee hlt hne]; exact hxb, hc ee hlt hne (by rw [hxb]; intro q2; cases q2; exact q rfl)⟩
  obtain ⟨r1, r2, r3, r4, r5, r6, r7, r8⟩ := R
  have h20 : h'.1[20]? = h.1[20]? := hc 20 (by omega) (by omega) (by rw [r7]; intro q; cases q)
  refine ⟨hl, hs, hi, fun b y e => ?_, fun b L cap e => ?_, fun b T cap e => ?_, by rw [hk 20 (by omega) (by omega)]; exact r7, by omega⟩
  · by_cases q : b = a0
    · subst q; exact p1 y e
    · have hb : b < A.2.1 := hlow (by rw [e]; intro q; cases q) (by rw [e]; intro q; cases q)
      have e' : A.1 b = ac_c y := (hk b hb q).symm.trans e
      rw [hc b hb q (by rw [e']; intro q; cases q)]
      exact r4 b y e'
  · by_cases q : b = a0
    · subst q; exact ⟨h81, p2 L cap e⟩
    · have hb : b < A.2.1 := hlow (by rw [e]; intro q; cases q) (by rw [e]; intro q; cases q)
      have e' : A.1 b = ac_l L cap := (hk b hb q).symm.trans e
      obtain ⟨g81, ee, m, g1, g2, g3, g4, g5⟩ := r5 b L cap e'
      refine ⟨g81, ee, m, ⟨?_, ?_, g1.2.2⟩, g2, g3, fun g => ⟨(g4 g).1, (hhid g81 q (g4 g).2).2.1⟩, fun x hx => hob x (g5 x hx)⟩
      · rw [hc b hb q (by rw [e']; intro q; cases q)]; exact g1.1
      · by_cases g : cap = 0
        · have := g3 g
          subst this
          rw [h20]; exact g1.2.1
        · rw [(hhid g81 q (g4 g).2).2.2]
          exact g1.2.1
  · by_cases q : b = a0
    · subst q; exact ⟨h81, p3 T cap e⟩
    · have hb : b < A.2.1 := hlow (by rw [e]; intro q; cases q) (by rw [e]; intro q; cases q)
      have e' : A.1 b = ac_t T cap := (hk b hb q).symm.trans e
      obtain ⟨g81, ee, m, rest, g1, g2, g3, g4⟩ := r6 b T cap e'
      obtain ⟨k1, k2, k3⟩ := hhid g81 q g4
      refine ⟨g81, ee, m, rest, ⟨?_, ?_, g1.2.2⟩, g2, g3, k2⟩
      · rw [hc b hb q (by rw [e']; intro q; cases q)]; exact g1.1
      · rw [k3]; exact g1.2.1
/-- a cell written -/
theorem ar_w {x : pm_C} (R : ar A h) (h81 : 81 ≤ a) (e : A.1 a = ac_c x) (hk : ∀ ci fs, x = .inl (ci, fs) → ∃ fs', y = .inl (ci, fs')) : ar (ah_set A a (ac_c y)) (h.1.set a y, h.2) := by
  refine ar_upd (a0 := a) (A' := ah_set A a (ac_c y)) R h81 (fun o q => by rw [e] at q; cases q) (Nat.le_refl _) (fun b _ q => ah_set_n q) (fun b q1 q2 => absurd q2 (Nat.not_lt.mpr q1)) (fun b q => ?_) ?_ R.2.1 (fun b _ q _ => hs_ne q) ?_ ?_ ?_ ?_
  · rw [ah_set_n (by intro q2; subst q2; exact absurd (ar_lt_c R e) (Nat.not_lt.mpr q))]
    exact R.2.2.1 b q
  · show (h.1.set a y).length = A.2.1
    rw [List.length_set]; exact R.1
  · intro ⟨ci, fs, q1, q2⟩
    rw [e] at q1
    obtain ⟨fs', q3⟩ := hk ci fs (Sum.inl.inj q1)
    exact ⟨ci, fs', by rw [ah_set_e, q3], q2⟩
  · intro z q
    rw [ah_set_e] at q
    rw [← Sum.inl.inj q]
    exact hs_eq (R.2.2.2.1 a x e)
  · intro L cap q; rw [ah_set_e] at q; cases q
  · intro T cap q; rw [ah_set_e] at q; cases q
/-- a new cell -/
theorem ar_n (R : ar A h) (y : pm_C) (k : Nat) : ar (ah_new A (ac_c y) k) (h.1 ++ [y], h.2 + k) := by
  have hnx := R.2.2.1 A.2.1 (Nat.le_refl _)
  have hk : ∀ b, A.1 b ≠ ac_x 0 → (ah_new A (ac_c y) k).1 b = A.1 b := fun b q => ah_new_n (by intro q2; subst q2; exact q hnx)
  have hh : ∀ b, A.1 b ≠ ac_x 0 → ((h.1 ++ [y], h.2 + k) : pm_H).1[b]? = h.1[b]? := fun b q => hn_lt (by rw [R.1]; exact ar_lt R q)
  have hob : ∀ x, ar_o A x → ar_o (ah_new A (ac_c y) k) x := fun x ⟨ci, fs, q1, q2⟩ => ⟨ci, fs, by rw [hk x (by rw [q1]; intro q; cases q)]; exact q1, q2⟩
  have hold : ∀ b, b ≠ A.2.1 → (ah_new A (ac_c y) k).1 b = A.1 b := fun b q => ah_new_n q
  obtain ⟨r1, r2, r3, r4, r5, r6, r7, r8⟩ := R
  refine ⟨?_, ?_, fun b q => ?_, fun b z e => ?_, fun b L cap e => ?_, fun b T cap e => ?_, ?_, Nat.le_succ_of_le r8⟩
  · show (h.1 ++ [y]).length = A.2.1 + 1
    rw [List.length_append, r1]; rfl
  · show h.2 + k = A.2.2 + k
    rw [r2]
  · have q' : A.2.1 + 1 ≤ b := q
    rw [hold b (by omega)]
    exact r3 b (by omega)
  · by_cases q : b = A.2.1
    · subst q
      rw [ah_new_e] at e
      rw [← Sum.inl.inj e, ← r1]
      exact hn_eq
    · rw [hold b q] at e
      rw [hh b (by rw [e]; intro q; cases q)]
      exact r4 b z e
  · by_cases q : b = A.2.1
    · subst q; rw [ah_new_e] at e; cases e
    · rw [hold b q] at e
      obtain ⟨g81, ee, m, g1, g2, g3, g4, g5⟩ := r5 b L cap e
      refine ⟨g81, ee, m, ⟨?_, ?_, g1.2.2⟩, g2, g3, fun g => ⟨(g4 g).1, ?_⟩, fun x hx => hob x (g5 x hx)⟩
      · rw [hh b (by rw [e]; intro q; cases q)]; exact g1.1
      · by_cases g : cap = 0
        · have := g3 g
          subst this
          rw [hh 20 (by rw [r7]; intro q; cases q)]; exact g1.2.1
        · rw [hh ee (by rw [(g4 g).2]; intro q; cases q; omega)]; exact g1.2.1
      · rw [hk ee (by rw [(g4 g).2]; intro q; cases q; omega)]; exact (g4 g).2
  · by_cases q : b = A.2.1
    · subst q; rw [ah_new_e] at e; cases e
    · rw [hold b q] at e
      obtain ⟨g81, ee, m, rest, g1, g2, g3, g4⟩ := r6 b T cap e
      have hx : A.1 ee ≠ ac_x 0 := by rw [g4]; intro q; cases q; omega
      refine ⟨g81, ee, m, rest, ⟨?_, ?_, g1.2.2⟩, g2, g3, by rw [hk ee hx]; exact g4⟩
      · rw [hh b (by rw [e]; intro q; cases q)]; exact g1.1
      · rw [hh ee hx]; exact g1.2.1
  · rw [hk 20 (by rw [r7]; intro q; cases q)]; exact r7
end AR
/-! what a run leaves: which cells may be others, how many new ones -/
def ro_n (c : ac) : Nat := match c with
  | .inr (.inl (_, cap)) => (al_caps.filter (fun c => decide (0 < c ∧ c ≤ cap))).length
  | .inr (.inr (.inl (_, cap))) => ([34, 70, 142, 286].filter (fun c => decide (c ≤ cap))).length
  | _ => 0
def ro_s (c : ac) : Nat := match c with
  | .inr (.inl (_, cap)) => (al_caps.filter (fun c => decide (0 < c ∧ c ≤ cap))).sum
  | .inr (.inr (.inl (_, cap))) => ([34, 70, 142, 286].filter (fun c => decide (c ≤ cap))).sum
  | _ => 0
def ro_N (A : ah) : Nat := ((List.range 145).map (fun a => ro_n (A.1 a))).sum
def ro_S (A : ah) : Nat := ((List.range 145).map (fun a => ro_s (A.1 a))).sum
def st (A A' : ah) (X : List Nat) (k j : Nat) : Prop := A.2.1 ≤ A'.2.1 ∧ (∀ b, b < A.2.1 → b ∉ X → A'.1 b = A.1 b) ∧ A'.2.1 + ro_N A ≤ A.2.1 + ro_N A' + k ∧ A'.2.2 + ro_S A ≤ A.2.2 + ro_S A' + j
theorem sum_upd (n a : Nat) (f g : Nat → Nat) (h : ∀ b, b < n → b ≠ a → f b = g b) : (a < n → ((List.range n).map f).sum + g a = ((List.range n).map g).sum + f a) ∧ (n ≤ a → ((List.range n).map f).sum = ((List.range n).map g).sum) := by
  induction n with
  | zero => exact ⟨fun q => absurd q (Nat.not_lt_zero _), fun _ => rfl⟩
  | succ n ih =>
    obtain ⟨i1, i2⟩ := ih (fun b q => h b (by omega))
    rw [List.range_succ, List.map_append, List.map_append, List.sum_append, List.sum_append]
    have e1 : ∀ q : Nat → Nat, ([n].map q).sum = q n := fun q => by simp
    rw [e1, e1]
    constructor
    · intro q
      by_cases e : a = n
      · subst e
        rw [i2 (Nat.le_refl _)]
        omega
      · have := i1 (by omega)
        have := h n (by omega) (fun q => e q.symm)
        omega
    · intro q
      rw [i2 (by omega), h n (by omega) (by omega)]
section ST
variable {A A' A2 : ah} {X Y : List Nat} {k j k' j' : Nat} {h : pm_H}
theorem st_refl : st A A [] 0 0 := ⟨Nat.le_refl _, fun _ _ _ => rfl, by omega, by omega⟩
theorem st_trans (s1 : st A A' X k j) (s2 : st A' A2 Y k' j') : st A A2 (X ++ Y) (k + k') (j + j') := by
  obtain ⟨a1, a2, a3, a4⟩ := s1
  obtain ⟨b1, b2, b3, b4⟩ := s2
  refine ⟨Nat.le_trans a1 b1, fun b q1 q2 => ?_, by omega, by omega⟩
  rw [List.mem_append] at q2
  rw [b2 b (by omega) (fun q => q2 (Or.inr q)), a2 b q1 (fun q => q2 (Or.inl q))]
theorem st_w (s1 : st A A' X k j) (hX : ∀ b, b ∈ X → b ∈ Y) (hk : k ≤ k') (hj : j ≤ j') : st A A' Y k' j' := by
  obtain ⟨a1, a2, a3, a4⟩ := s1
  exact ⟨a1, fun b q1 q2 => a2 b q1 (fun q => q2 (hX b q)), by omega, by omega⟩
theorem st_c {a : Nat} {y : ac} (s : st A A' X k j) (R : ar A h) (e : A.1 a = y) (hy : y ≠ ac_x 0) (ha : a ∉ X) : A'.1 a = y := by
  subst e
  exact s.2.1 a (ar_lt R hy) ha
theorem ro_c {a : Nat} {x y : pm_C} (e : A.1 a = ac_c x) : ro_N (ah_set A a (ac_c y)) = ro_N A ∧ ro_S (ah_set A a (ac_c y)) = ro_S A := by
  have h1 : ∀ b, ro_n ((ah_set A a (ac_c y)).1 b) = ro_n (A.1 b) := by
    intro b
    by_cases q : b = a
    · subst q; rw [ah_set_e, e]; rfl
    · rw [ah_set_n q]
  have h2 : ∀ b, ro_s ((ah_set A a (ac_c y)).1 b) = ro_s (A.1 b) := by
    intro b
    by_cases q : b = a
    · subst q; rw [ah_set_e, e]; rfl
    · rw [ah_set_n q]
  exact ⟨by unfold ro_N; rw [funext h1], by unfold ro_S; rw [funext h2]⟩
theorem st_set {a : Nat} {x y : pm_C} (e : A.1 a = ac_c x) : st A (ah_set A a (ac_c y)) [a] 0 0 := by
  obtain ⟨e1, e2⟩ := ro_c (y := y) e
  exact ⟨Nat.le_refl _, fun b _ q => ah_set_n (by simpa using q), by rw [e1]; show A.2.1 + _ ≤ _; omega, by rw [e2]; show A.2.2 + _ ≤ _; omega⟩
theorem st_new (R : ar A h) (h177 : 145 ≤ A.2.1) (y : pm_C) (k : Nat) : st A (ah_new A (ac_c y) k) [] 1 k := by
  have h1 : ∀ b, ro_n ((ah_new A (ac_c y) k).1 b) = ro_n (A.1 b) := by
    intro b
    by_cases q : b = A.2.1
    · subst q; rw [ah_new_e, R.2.2.1 _ (Nat.le_refl _)]; rfl
    · rw [ah_new_n q]
  have h2 : ∀ b, ro_s ((ah_new A (ac_c y) k).1 b) = ro_s (A.1 b) := by
    intro b
    by_cases q : b = A.2.1
    · subst q; rw [ah_new_e, R.2.2.1 _ (Nat.le_refl _)]; rfl
    · rw [ah_new_n q]
  have e1 : ro_N (ah_new A (ac_c y) k) = ro_N A := by unfold ro_N; rw [funext h1]
  have e2 : ro_S (ah_new A (ac_c y) k) = ro_S A := by unfold ro_S; rw [funext h2]
  refine ⟨Nat.le_succ _, fun b q _ => ah_new_n (by omega), ?_, ?_⟩
  · show A.2.1 + 1 + ro_N A ≤ A.2.1 + ro_N _ + 1
    rw [e1]; omega
  · show A.2.2 + k + ro_S A ≤ A.2.2 + ro_S _ + k
    rw [e2]; omega
end ST
