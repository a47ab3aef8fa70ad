/-! LISTS in the abstract heap -/
theorem ro_grow {cap : Nat} {L L' : List Nat} (hc : cap ∈ al_caps) (h1 : cap < 163) : ro_n (ac_l L' (al_nc cap)) = ro_n (ac_l L cap) + 1 ∧ ro_s (ac_l L' (al_nc cap)) = ro_s (ac_l L cap) + al_nc cap := by
  have key : al_caps.all (fun cap => decide (cap = 163) || decide (ro_n (ac_l [] (al_nc cap)) = ro_n (ac_l [] cap) + 1 ∧ ro_s (ac_l [] (al_nc cap)) = ro_s (ac_l [] cap) + al_nc cap)) = true := by decide +kernel
  have h := List.all_eq_true.mp key cap hc
  simp only [Bool.or_eq_true, decide_eq_true_eq] at h
  exact h.resolve_left (by omega)
theorem al_nc_in {cap : Nat} (hc : cap ∈ al_caps) (h1 : cap < 163) : al_nc cap ∈ al_caps ∧ cap < al_nc cap ∧ al_nc cap ≤ 163 ∧ al_nc cap ≠ 0 := by
  have key : al_caps.all (fun c => decide (c = 163) || decide (al_nc c ∈ al_caps ∧ c < al_nc c ∧ al_nc c ≤ 163 ∧ al_nc c ≠ 0)) = true := by decide +kernel
  have h := List.all_eq_true.mp key cap hc
  simp only [Bool.or_eq_true, decide_eq_true_eq] at h
  exact h.resolve_left (by omega)
theorem al_ne {h : pm_H} {a e cap : Nat} {L : List Nat} {m : Int32} (hA : al_c h a e L cap m) : a ≠ e := by
  intro q
  have h1 := hA.1
  rw [q, hA.2.1] at h1
  cases h1
section AHL
variable {A A' : ah} {h h' : pm_H} {a b cap k x ee : Nat} {L L' : List Nat} {m m' : Int32}
theorem ar_ob (R : ar A h) (ho : ar_o A x) : al_ob h x := by
  obtain ⟨ci, fs, e, hci⟩ := ho
  exact ⟨ci, fs, ar_c R e, hci⟩
/-- the list holds something else, in the same array -/
theorem al_f0 (R : ar A h) (e : A.1 a = ac_l L cap) (q : al_c h a ee L cap m) (qc : cap ∈ al_caps) (q0 : cap = 0 → ee = 20) (qt : cap ≠ 0 → 81 ≤ ee ∧ A.1 ee = ac_x a) (hl : h'.1.length = h.1.length) (hs : h'.2 = h.2) (hc : ∀ b, b ≠ a → (cap ≠ 0 → b ≠ ee) → h'.1[b]? = h.1[b]?) (q' : al_c h' a ee L' cap m') (ho : ∀ x ∈ L', ar_o A x) : ar (ah_set A a (ac_l L' cap)) h' ∧ st A (ah_set A a (ac_l L' cap)) [a] 0 0 := by
  have h81 := (R.2.2.2.2.1 a L cap e).1
  have hoa : ∀ x, ar_o A x → ar_o (ah_set A a (ac_l L' cap)) x := by
    intro x ⟨ci, fs, e1, e2⟩
    exact ⟨ci, fs, by rw [ah_set_n (by intro q; subst q; rw [e] at e1; cases e1)]; exact e1, e2⟩
  refine ⟨ar_upd (a0 := a) R h81 (fun o q => by rw [e] at q; cases q) (Nat.le_refl _) (fun b _ q => ah_set_n q) (fun b q1 q2 => absurd q2 (Nat.not_lt.mpr q1)) (fun b q1 => ?_) (hl.trans R.1) (hs.trans R.2.1) (fun b q1 q2 q3 => hc b q2 (fun c0 => ?_)) (fun ⟨ci, fs, e1, e2⟩ => by rw [e] at e1; cases e1) ?_ ?_ ?_, ?_, ?_, ?_⟩
  · rw [ah_set_n (by intro q2; subst q2; exact absurd (ar_lt_l R e) (Nat.not_lt.mpr q1))]
    exact R.2.2.1 b q1
  · intro q4; subst q4; exact q3 (qt c0).2
  · intro y q; rw [ah_set_e] at q; cases q
  · intro L2 cap2 q2
    rw [ah_set_e] at q2
    cases q2
    exact ⟨ee, m', q', qc, q0, fun c0 => ⟨(qt c0).1, by rw [ah_set_n (al_ne q).symm]; exact (qt c0).2⟩, fun x hx => hoa x (ho x hx)⟩
  · intro T cap2 q2; rw [ah_set_e] at q2; cases q2
  · exact Nat.le_refl _
  · intro b _ q2; exact ah_set_n (by simpa using q2)
  · have h1 : ∀ b, ro_n ((ah_set A a (ac_l L' cap)).1 b) = ro_n (A.1 b) := by
      intro b
      by_cases q : b = a
      · subst q; rw [ah_set_e, e]; rfl
      · rw [ah_set_n q]
    have h2 : ∀ b, ro_s ((ah_set A a (ac_l L' cap)).1 b) = ro_s (A.1 b) := by
      intro b
      by_cases q : b = a
      · subst q; rw [ah_set_e, e]; rfl
      · rw [ah_set_n q]
    have e1 : ro_N (ah_set A a (ac_l L' cap)) = ro_N A := by unfold ro_N; rw [funext h1]
    have e2 : ro_S (ah_set A a (ac_l L' cap)) = ro_S A := by unfold ro_S; rw [funext h2]
    rw [e1, e2]
    constructor
    · show A.2.1 + _ ≤ _; omega
    · show A.2.2 + _ ≤ _; omega
/-- the list holds the same in a new, larger array -/
theorem al_f1 (R : ar A h) (ha : a < 145) (e : A.1 a = ac_l L cap) (q : al_c h a ee L cap m) (qc : cap ∈ al_caps) (h1 : cap < 163) (q0 : cap = 0 → ee = 20) (qt : cap ≠ 0 → 81 ≤ ee ∧ A.1 ee = ac_x a) (hl : h'.1.length = h.1.length + 1) (hs : h'.2 = h.2 + al_nc cap) (hc : ∀ b, b < h.1.length → b ≠ a → h'.1[b]? = h.1[b]?) (q' : al_c h' a h.1.length L (al_nc cap) m') (ho : ∀ x ∈ L, ar_o A x) : ∃ A', ar A' h' ∧ A'.1 a = ac_l L (al_nc cap) ∧ st A A' [a] 0 0 := by
  have h81 := (R.2.2.2.2.1 a L cap e).1
  have hla := ar_lt_l R e
  let A' : ah := (fun b => if b = a then ac_l L (al_nc cap) else if b = A.2.1 then ac_x a else A.1 b, (A.2.1 + 1, A.2.2 + al_nc cap))
  have Aa : A'.1 a = ac_l L (al_nc cap) := if_pos rfl
  have Ab : ∀ b, b ≠ a → b ≠ A.2.1 → A'.1 b = A.1 b := fun b q1 q2 => (if_neg q1).trans (if_neg q2)
  have An : A'.1 A.2.1 = ac_x a := (if_neg (by omega)).trans (if_pos rfl)
  have hoa : ∀ x, ar_o A x → ar_o A' x := by
    intro x ⟨ci, fs, e1, e2⟩
    exact ⟨ci, fs, by rw [Ab x (by intro q; subst q; rw [e] at e1; cases e1) (by have := ar_lt_c R e1; omega)]; exact e1, e2⟩
  obtain ⟨n1, n2, n3, n4⟩ := al_nc_in qc h1
  refine ⟨A', ar_upd (a0 := a) (A' := A') R h81 (fun o q => by rw [e] at q; cases q) (Nat.le_succ _) (fun b q1 q2 => Ab b q2 (by omega)) (fun b q1 q2 => ?_) (fun b q1 => ?_) ?_ ?_ (fun b q1 q2 _ => hc b (by rw [R.1]; exact q1) q2) (fun ⟨ci, fs, e1, e2⟩ => by rw [e] at e1; cases e1) ?_ ?_ ?_, Aa, Nat.le_succ _, ?_, ?_, ?_⟩
  · have : b = A.2.1 := by have : b < A.2.1 + 1 := q2; omega
    subst this; exact An
  · have : A.2.1 + 1 ≤ b := q1
    rw [Ab b (by omega) (by omega)]
    exact R.2.2.1 b (by omega)
  · rw [hl, R.1]
  · rw [hs, R.2.1]
  · intro y q; rw [Aa] at q; cases q
  · intro L2 cap2 q2
    rw [Aa] at q2
    cases q2
    exact ⟨h.1.length, m', q', n1, fun c0 => absurd c0 n4, fun _ => ⟨by rw [R.1]; exact R.2.2.2.2.2.2.2, by rw [R.1]; exact An⟩, fun x hx => hoa x (ho x hx)⟩
  · intro T cap2 q2; rw [Aa] at q2; cases q2
  · intro b q1 q2
    exact Ab b (by simpa using q2) (by omega)
  · have g := (sum_upd 145 a (fun b => ro_n (A'.1 b)) (fun b => ro_n (A.1 b)) (fun b q1 q2 => by
      show ro_n (A'.1 b) = ro_n (A.1 b)
      by_cases q3 : b = A.2.1
      · subst q3; rw [An, R.2.2.1 _ (Nat.le_refl _)]; rfl
      · rw [Ab b q2 q3])).1 ha
    have g1 : ro_N A' + ro_n (A.1 a) = ro_N A + ro_n (A'.1 a) := g
    rw [Aa, e, (ro_grow (L := L) (L' := L) qc h1).1] at g1
    show A.2.1 + 1 + ro_N A ≤ A.2.1 + ro_N A' + 0
    omega
  · have g := (sum_upd 145 a (fun b => ro_s (A'.1 b)) (fun b => ro_s (A.1 b)) (fun b q1 q2 => by
      show ro_s (A'.1 b) = ro_s (A.1 b)
      by_cases q3 : b = A.2.1
      · subst q3; rw [An, R.2.2.1 _ (Nat.le_refl _)]; rfl
      · rw [Ab b q2 q3])).1 ha
    have g1 : ro_S A' + ro_s (A.1 a) = ro_S A + ro_s (A'.1 a) := g
    rw [Aa, e, (ro_grow (L := L) (L' := L) qc h1).2] at g1
    show A.2.2 + al_nc cap + ro_S A ≤ A.2.2 + ro_S A' + 0
    omega
theorem ah_same {y : ac} (e : A.1 a = y) : ah_set A a y = A := by
  unfold ah_set
  have : (fun b => if b = a then y else A.1 b) = A.1 := by
    funext b
    by_cases q : b = a
    · rw [if_pos q, q, e]
    · rw [if_neg q]
  rw [this]
theorem ar_lc (R : ar A h) (e : A.1 a = ac_l L cap) : lc_of h (some a) = some 12 := by
  obtain ⟨_, ee, m, q, _⟩ := R.2.2.2.2.1 a L cap e
  exact hc_lc q.1
theorem ll_size (R : ar A h) (e : A.1 a = ac_l L cap) : ll_86 (some a) h = some (.inl (some (.inl (Int32.ofNat L.length))), h) := by
  obtain ⟨_, ee, m, q, _⟩ := R.2.2.2.2.1 a L cap e
  exact al_size q
theorem ll_get (R : ar A h) (e : A.1 a = ac_l L cap) {i : Nat} (hi : i < L.length) : ll_87 (some a) (Int32.ofNat i) h = some (.inl (some (.inr (.inr (some (L.getD i 0))))), h) := by
  obtain ⟨_, ee, m, q, _⟩ := R.2.2.2.2.1 a L cap e
  exact al_get q hi
/-- one more change counted -/
theorem al_mod (R : ar A h) (e : A.1 a = ac_l L cap) (v : Int32) : ∃ g, lf_P 81 h (some a) [0, 12, 2] (.inl v) = some g ∧ ar A g ∧ g.1.length = h.1.length ∧ ∀ ee m, al_c h a ee L cap m → al_c g a ee L cap v := by
  obtain ⟨h81, ee, m, q, qc, q0, qt, qo⟩ := R.2.2.2.2.1 a L cap e
  have e1 := hc_P (v := .inl v) (t := 0) q.1 (show 2 < 3 by decide) h81 rfl
  have hq : ∀ ee m, al_c h a ee L cap m → al_c (h.1.set a (.inl (12, [.ref ee, .int (Int32.ofNat L.length), .int v])), h.2) a ee L cap v := by
    intro ee m q
    exact ⟨hs_eq q.1, (hs_ne (al_ne q).symm).trans q.2.1, q.2.2⟩
  have hr := (al_f0 (h' := (h.1.set a (.inl (12, [.ref ee, .int (Int32.ofNat L.length), .int v])), h.2)) R e q qc q0 qt List.length_set rfl (fun b q1 _ => hs_ne q1) (hq ee m q) qo).1
  rw [ah_same e] at hr
  refine ⟨_, e1, hr, List.length_set, fun ee' m' q' => ?_⟩
  have : ee' = ee := by
    have h1 := q'.1
    rw [q.1] at h1
    cases h1; rfl
  subst this
  exact hq _ _ q'
/-- a larger array -/
theorem al_gr (R : ar A h) (ha : a < 145) (e : A.1 a = ac_l L cap) (hf : L.length = cap) (h1 : cap < 163) : ∃ A' g, ll_107 (some a) h = some (.inl (some (.inr (.inr (some h.1.length)))), g) ∧ ar A' g ∧ A'.1 a = ac_l L (al_nc cap) ∧ st A A' [a] 0 0 ∧ ∃ m, al_c g a h.1.length L (al_nc cap) m := by
  obtain ⟨h81, ee, m, q, qc, q0, qt, qo⟩ := R.2.2.2.2.1 a L cap e
  have hal : a < h.1.length := hc_lt q.1
  obtain ⟨n1, n2, n3, n4⟩ := al_nc_in qc h1
  have q' : al_c ((h.1 ++ [al_arr L (al_nc cap)]).set a (al_obj h.1.length L m), h.2 + al_nc cap) a h.1.length L (al_nc cap) m := by
    refine ⟨?_, ?_, by omega, by omega⟩
    · exact hs_eq (h := (h.1 ++ [al_arr L (al_nc cap)], 0)) (n := h.2 + al_nc cap) ((hn_lt (n := 0) hal).trans q.1)
    · have e1 : ((h.1 ++ [al_arr L (al_nc cap)]).set a (al_obj h.1.length L m))[h.1.length]? = (h.1 ++ [al_arr L (al_nc cap)])[h.1.length]? := List.getElem?_set_ne (by omega)
      exact e1.trans (hn_eq (h := h) (n := 0))
  obtain ⟨A', r1, r2, r3⟩ := al_f1 (h' := ((h.1 ++ [al_arr L (al_nc cap)]).set a (al_obj h.1.length L m), h.2 + al_nc cap)) R ha e q qc h1 q0 qt (by rw [List.length_set, List.length_append]; rfl) rfl (fun b g1 g2 => (hs_ne (h := (h.1 ++ [al_arr L (al_nc cap)], 0)) g2).trans (hn_lt (n := 0) g1)) q' qo
  exact ⟨A', _, al_grow q qc (fun x hx => ar_ob R (qo x hx)) hf q0 h81 (by omega), r1, r2, r3, m, q'⟩
/-- ready to take one more: the array that it goes into -/
theorem al_rd (R : ar A h) (ha : a < 145) (e : A.1 a = ac_l L cap) (hl : L.length < 163) : ∃ A' g ee cap' m, ar A' g ∧ A'.1 a = ac_l L cap' ∧ st A A' [a] 0 0 ∧ al_c g a ee L cap' m ∧ L.length < cap' ∧ 81 ≤ ee ∧ (∀ e0 m0, al_c h a e0 L cap m0 → ((if Int32.ofNat L.length = Int32.ofNat cap then ll_107 (some a) h else some (.inl (some (.inr (.inr (some e0)))), h)) = some (.inl (some (.inr (.inr (some ee)))), g))) := by
  obtain ⟨h81, e0, m, q, qc, q0, qt, qo⟩ := R.2.2.2.2.1 a L cap e
  by_cases hf : L.length = cap
  · obtain ⟨A', g, g1, g2, g3, g4, m', g5⟩ := al_gr R ha e hf (by omega)
    obtain ⟨n1, n2, n3, n4⟩ := al_nc_in qc (show cap < 163 by omega)
    refine ⟨A', g, h.1.length, al_nc cap, m', g2, g3, g4, g5, by omega, ?_, fun e1 m1 _ => ?_⟩
    · rw [R.1]; exact R.2.2.2.2.2.2.2
    · rw [if_pos (by rw [hf]), g1]
  · have hle := q.2.2.1
    refine ⟨A, h, e0, cap, m, R, e, st_w st_refl (by simp) (by omega) (by omega), q, by omega, (qt (by omega)).1, fun e1 m1 q1 => ?_⟩
    rw [if_neg (i32_ofne (by omega) (by have := q.2.2.2; omega) hf)]
    have h1 := q1.1
    rw [q.1] at h1
    cases h1; rfl
end AHL
