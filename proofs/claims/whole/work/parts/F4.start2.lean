/-! THE START: the core holds -/
section ST5
variable {xs : List Int32} {a o : Nat} {y : pm_C}
abbrev sD : aD := fun _ => none
abbrev sG : Nat → fo := fun _ => sF
abbrev sM : aM := fun _ _ => 0
theorem s_f (ha : 81 ≤ a) (h1 : a ∉ sL) (h2 : a ≠ 84) (h3 : a ≠ 92) (h4 : a ≠ 85) (h5 : a ≠ 93) (h6 : a < 178) (e : pt_fF[a - 81]? = some y) : (sA xs).1 a = ac_c y := s_c h1 h2 h3 h4 h5 h6 ((s_hi ha).trans e)
theorem s_Ref : RefC (sA xs) sS := by
  intro j hj
  have key : (List.range 32).all (fun j => decide (pt_fF[64 + j]? = some (rsc sS j))) = true := by decide +kernel
  have h1 := of_decide_eq_true (List.all_eq_true.mp key j (List.mem_range.mpr hj))
  refine s_f (by omega) (fun z => by have := sL_81 z; omega) (by omega) (by omega) (by omega) (by omega) (by omega) ?_
  rw [show 145 + j - 81 = 64 + j by omega]
  exact h1
theorem s_Cb : Cb (sA xs) := by
  refine ⟨s_f (by omega) (by decide) (by omega) (by omega) (by omega) (by omega) (by omega) rfl, s_f (by omega) (by decide) (by omega) (by omega) (by omega) (by omega) (by omega) rfl, fun k y e => ?_⟩
  have hk := (List.getElem?_eq_some_iff.mp e).1
  rw [pt_K1l] at hk
  exact s_c (fun z => by have := sL_81 z; omega) (by omega) (by omega) (by omega) (by omega) (by omega) ((s_lo k hk).trans e)
def sNull : List Value := List.replicate 120 .null
theorem s_n1 : sNull = ra 120 (fun i => tm_r (if fA sF i = true then some (sM 0 i) else none)) := ra_rep
theorem s_n2 : sNull = ra 120 (fun l => tm_r ((xP (fX sF 0) l).map (sM 0))) := ra_rep
theorem s_n3 : List.replicate 120 (Value.int (-1)) = ra 120 (fun l => .int (xA (fX sF 0) l)) := ra_rep
theorem s_X (c : Nat) (hc : 93 < c) (hc2 : c + 5 < 145) (h0 : c ∉ sL) (h1 : c + 1 ∈ sL) (h2 : c + 2 ∈ sL) (h3 : c + 3 ∉ sL) (h4 : c + 4 ∉ sL) (h5 : c + 5 ∉ sL) (e0 : pt_fF[c - 81]? = some (.inl (5, [.ref (c + 1), .ref (c + 2), .ref (c + 3), .ref (c + 4), .ref (c + 5)]))) (e3 : pt_fF[c + 3 - 81]? = some (.inr (11, sNull))) (e4 : pt_fF[c + 4 - 81]? = some (.inr (11, sNull))) (e5 : pt_fF[c + 5 - 81]? = some (.inr (0, List.replicate 120 (.int (-1))))) (k : Nat) : Cx sM (sA xs) c (fX sF k) := by
  refine ⟨s_f (by omega) h0 (by omega) (by omega) (by omega) (by omega) (by omega) e0, ⟨0, s_l h1⟩, ⟨0, s_l h2⟩, ?_, ?_, ?_⟩
  · have := s_f (xs := xs) (by omega) h3 (by omega) (by omega) (by omega) (by omega) (by omega) e3
    rw [s_n2] at this
    exact this
  · have := s_f (xs := xs) (by omega) h4 (by omega) (by omega) (by omega) (by omega) (by omega) e4
    rw [s_n2] at this
    exact this
  · have := s_f (xs := xs) (by omega) h5 (by omega) (by omega) (by omega) (by omega) (by omega) e5
    rw [s_n3] at this
    exact this
theorem s_Cf (ho : o < 3) : Cf sM (sA xs) o sF := by
  have h : o = 0 ∨ o = 1 ∨ o = 2 := by omega
  have fin : ∀ b, 93 < b → b + 16 < 145 → b = 94 + 17 * o → b ∉ sL → b + 1 ∉ sL → b + 2 ∉ sL → b + 3 ∉ sL → b + 4 ∈ sL → pt_fF[b - 81]? = some (.inl (4, [.int (Int32.ofNat o), .ref (b + 1), .ref (b + 2), .ref (b + 3), .ref (b + 4), .int 0])) → pt_fF[b + 1 - 81]? = some (.inr (0, [.int 0, .int 0, .int 0])) → pt_fF[b + 2 - 81]? = some (.inr (11, sNull)) → pt_fF[b + 3 - 81]? = some (.inr (12, [.ref (b + 5), .ref (b + 11)])) → (∀ k, k < 2 → Cx sM (sA xs) (b + 5 + 6 * k) (fX sF k)) → Cf sM (sA xs) o sF := by
    intro b g1 g2 g3 n0 n1 n2 n3 n4 e0 e1 e2 e3 ex
    subst g3
    refine ⟨s_f (by omega) n0 (by omega) (by omega) (by omega) (by omega) (by omega) e0, s_f (by omega) n1 (by omega) (by omega) (by omega) (by omega) (by omega) e1, ?_, s_f (by omega) n3 (by omega) (by omega) (by omega) (by omega) (by omega) e3, ⟨0, s_l n4⟩, ex⟩
    have := s_f (xs := xs) (by omega) n2 (by omega) (by omega) (by omega) (by omega) (by omega) e2
    rw [s_n1] at this
    exact this
  rcases h with e | e | e
  · subst e
    refine fin 94 (by omega) (by omega) rfl (by decide) (by decide) (by decide) (by decide) (by decide) rfl rfl rfl rfl (fun k hk => ?_)
    have hk' : k = 0 ∨ k = 1 := by omega
    rcases hk' with q | q
    · subst q; exact s_X 99 (by omega) (by omega) (by decide) (by decide) (by decide) (by decide) (by decide) (by decide) rfl rfl rfl rfl 0
    · subst q; exact s_X 105 (by omega) (by omega) (by decide) (by decide) (by decide) (by decide) (by decide) (by decide) rfl rfl rfl rfl 1
  · subst e
    refine fin 111 (by omega) (by omega) rfl (by decide) (by decide) (by decide) (by decide) (by decide) rfl rfl rfl rfl (fun k hk => ?_)
    have hk' : k = 0 ∨ k = 1 := by omega
    rcases hk' with q | q
    · subst q; exact s_X 116 (by omega) (by omega) (by decide) (by decide) (by decide) (by decide) (by decide) (by decide) rfl rfl rfl rfl 0
    · subst q; exact s_X 122 (by omega) (by omega) (by decide) (by decide) (by decide) (by decide) (by decide) (by decide) rfl rfl rfl rfl 1
  · subst e
    refine fin 128 (by omega) (by omega) rfl (by decide) (by decide) (by decide) (by decide) (by decide) rfl rfl rfl rfl (fun k hk => ?_)
    have hk' : k = 0 ∨ k = 1 := by omega
    rcases hk' with q | q
    · subst q; exact s_X 133 (by omega) (by omega) (by decide) (by decide) (by decide) (by decide) (by decide) (by decide) rfl rfl rfl rfl 0
    · subst q; exact s_X 139 (by omega) (by omega) (by decide) (by decide) (by decide) (by decide) (by decide) (by decide) rfl rfl rfl rfl 1
theorem s_CR : CR (sA xs) [] [] := by
  have f : ∀ a, 81 ≤ a → a ∉ sL → a ≠ 84 → a ≠ 92 → a ≠ 85 → a ≠ 93 → a < 178 → ∀ y, pt_fF[a - 81]? = some y → (sA xs).1 a = ac_c y := fun a g1 g2 g3 g4 g5 g6 g7 y e => s_f g1 g2 g3 g4 g5 g6 g7 e
  have r86 : (sA xs).1 86 = ac_c (.inr (0, List.replicate 22 (.int 0))) := f 86 (by omega) (by decide) (by omega) (by omega) (by omega) (by omega) (by omega) _ rfl
  have r88 : (sA xs).1 88 = ac_c (.inr (11, List.replicate 120 .null)) := f 88 (by omega) (by decide) (by omega) (by omega) (by omega) (by omega) (by omega) _ rfl
  have r89 : (sA xs).1 89 = ac_c (.inr (1, List.replicate 120 (.long 0))) := f 89 (by omega) (by decide) (by omega) (by omega) (by omega) (by omega) (by omega) _ rfl
  have r90 : (sA xs).1 90 = ac_c (.inr (3, List.replicate 120 (.int 0))) := f 90 (by omega) (by decide) (by omega) (by omega) (by omega) (by omega) (by omega) _ rfl
  rw [ra_rep] at r86 r88 r89 r90
  exact ⟨⟨0, 0, -1, none, none, f 83 (by omega) (by decide) (by omega) (by omega) (by omega) (by omega) (by omega) _ rfl⟩, ⟨16, rfl⟩, ⟨fun _ => 0, r86⟩, ⟨0, none, none, 0, f 87 (by omega) (by decide) (by omega) (by omega) (by omega) (by omega) (by omega) _ rfl⟩, ⟨fun _ => none, r88⟩, ⟨fun _ => 0, r89⟩, ⟨fun _ => false, r90⟩, ⟨none, none, f 91 (by omega) (by decide) (by omega) (by omega) (by omega) (by omega) (by omega) _ rfl⟩, ⟨16, rfl⟩⟩
theorem s_nt (i : Nat) : ¬ tkn sF i := by
  unfold tkn
  exact Nat.not_lt_zero _
theorem s_tB (i : Nat) : tkB sF i = false := decide_eq_false (Nat.not_lt_zero _)
theorem s_OI : OI sD sF := by
  refine ⟨⟨fun k hk => ⟨List.nodup_nil, fun p hp => by cases hp⟩, List.nodup_nil, fun x hx => by cases hx⟩, fun i r hi => (by cases hi), fun y z => ⟨?_, (show (0 : Nat) ≤ 1 by omega)⟩, fun k hk => ⟨⟨fun p => ⟨fun hp => (by cases hp), fun hp => absurd hp.2.1 (s_nt p)⟩, List.Pairwise.nil, List.nodup_nil⟩, fun l => ⟨?_, ?_⟩, rfl, rfl⟩⟩
  · intro i hi
    have h2 := hi.2
    unfold qW at h2
    rw [s_tB] at h2
    cases h2
  · intro i hi
    have h2 := hi.2.1
    unfold qL at h2
    rw [s_tB] at h2
    cases h2
  · intro i hi
    have h2 := hi.2.1
    unfold qL at h2
    rw [s_tB] at h2
    cases h2
theorem s_GW : GW sD sG := by
  refine ⟨fun i r hi => (by cases hi), ⟨fun x y hx => (by obtain ⟨r, hr⟩ := hx; cases hr), fun x r y hx => (by cases hx)⟩, fun x r y hx => (by cases hx), fun i r hi => (by cases hi), fun i r hi => (by cases hi), fun i hi => ⟨fun hx => (by obtain ⟨r, hr⟩ := hx; cases hr), fun hx => absurd hx (s_nt i)⟩, fun i r hi => (by cases hi), fun o ho => ⟨⟨⟨ho, fun j => Nat.zero_le _, fun i hi => (by cases hi), fun i hi => (by cases hi), Nat.zero_le _, by show 0 < 1000; omega, fun k hk => ⟨fun p hp => (by cases hp), fun p hp => (by cases hp), fun l i hi => (by cases hi), fun l i hi => (by cases hi), Nat.zero_le _, Nat.zero_le _⟩⟩, s_OI, fun i hi ht => absurd ht (s_nt i), fun i hi => (by cases hi), Nat.zero_le _, rfl⟩, rfl⟩⟩
theorem s_RT (ho : o < 3) : RT sD o sF sS := by
  refine ⟨⟨ho, fun i r hi => (by cases hi), fun j hj => rfl, fun j => Nat.zero_le _, fun i hi ht => absurd ht (s_nt i)⟩, rfl, fun k hk => ⟨rfl, fun j hj => (by cases hj)⟩, fun i hi => ?_⟩
  rfl
theorem s_IC : IC sM (sA xs) sD sG sS [] [] 0 := ⟨s_Ref, ⟨s_Cb, ⟨fun i r hi => (by cases hi), fun q i j hi => (by obtain ⟨r, hr⟩ := hi; cases hr)⟩, fun o ho => s_Cf ho, by show 178 ≤ 178; omega⟩, s_CR, s_f (by omega) (by decide) (by omega) (by omega) (by omega) (by omega) (by omega) rfl, s_GW, fun o ho => s_RT ho, ⟨rfl, Nat.zero_le _, fun c hc => (by cases hc), fun j hj => (by cases hj), rfl, Nat.zero_le _, fun j hj => (by cases hj)⟩, fun i r hi => (by cases hi)⟩
theorem s_0 : (sA xs).1 0 = ac_c (.inr (0, xs.map Value.int)) := s_c (by decide) (by omega) (by omega) (by omega) (by omega) (by omega) rfl
end ST5
