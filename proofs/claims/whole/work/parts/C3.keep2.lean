/-! WHAT a taken act leaves true: the order -/
section KP2
variable {D : aD} {F : fo} {o i j l k b p q x y z : Nat} {r : rc} {L : List Nat} {X : ax}
theorem od_none : ∀ (L : List Nat) (i : Nat), od L i none = none
  | [], _ => rfl
  | x :: L, i => by
    rw [od, if_neg (fun e => by cases e)]
    exact od_none L (i + 1)
theorem od_dec : ∀ (L : List Nat) (i q j : Nat), od L i (some q) = some j → ∃ A B, L = A ++ q :: B ∧ j = i + A.length
  | [], _, _, _, e => by cases e
  | x :: L, i, q, j, e => by
    rw [od] at e
    by_cases z : some x = some q
    · rw [if_pos z] at e
      cases e
      cases z
      exact ⟨[], L, rfl, rfl⟩
    · rw [if_neg z] at e
      obtain ⟨A, B, h1, h2⟩ := od_dec L (i + 1) q j e
      exact ⟨x :: A, B, by rw [h1]; rfl, by rw [List.length_cons]; omega⟩
theorem od_in : ∀ (L : List Nat) (i q : Nat), q ∈ L → ∃ j, od L i (some q) = some j
  | [], _, _, h => by cases h
  | x :: L, i, q, h => by
    rw [od]
    by_cases z : some x = some q
    · rw [if_pos z]; exact ⟨i, rfl⟩
    · rw [if_neg z]
      rcases List.mem_cons.mp h with g | g
      · exact absurd (by rw [g]) z
      · exact od_in L (i + 1) q g
theorem tw_all {f : Nat → Bool} : ∀ L : List Nat, ∀ z ∈ L.takeWhile f, f z = true
  | [], z, h => by cases h
  | x :: L, z, h => by
    rw [List.takeWhile_cons] at h
    by_cases e : f x = true
    · rw [if_pos e] at h
      rcases List.mem_cons.mp h with g | g
      · rw [g]; exact e
      · exact tw_all L z g
    · rw [if_neg e] at h
      cases h
theorem dw_hd {f : Nat → Bool} : ∀ (L : List Nat) (z : Nat) (R : List Nat), L.dropWhile f = z :: R → ¬ f z = true
  | [], z, R, h => by cases h
  | x :: L, z, R, h => by
    rw [List.dropWhile_cons] at h
    by_cases e : f x = true
    · rw [if_pos e] at h
      exact dw_hd L z R h
    · rw [if_neg e] at h
      cases h
      exact e
theorem ins_dec (hq : ∀ q, pR D p = some q → q ∈ L) : ∃ H T R, L = H ++ (T ++ R) ∧ ins D L p = (H ++ T) ++ p :: R ∧ (∀ z ∈ T, stp D p < stp D z) ∧ (∀ z R', R = z :: R' → ¬ stp D p < stp D z) ∧ (pR D p = none → H = []) ∧ ∀ q, pR D p = some q → ∃ H', H = H' ++ [q] := by
  have hk0 := @ik0_le L (pR D p)
  have hT := List.takeWhile_append_dropWhile (p := fun z => decide (stp D p < stp D z)) (l := L.drop (ik0 L (pR D p)))
  refine ⟨L.take (ik0 L (pR D p)), (L.drop (ik0 L (pR D p))).takeWhile (fun z => decide (stp D p < stp D z)), (L.drop (ik0 L (pR D p))).dropWhile (fun z => decide (stp D p < stp D z)), ?_, ?_, ?_, ?_, ?_, ?_⟩
  · rw [hT, List.take_append_drop]
  · have hL : L = (L.take (ik0 L (pR D p)) ++ (L.drop (ik0 L (pR D p))).takeWhile (fun z => decide (stp D p < stp D z))) ++ (L.drop (ik0 L (pR D p))).dropWhile (fun z => decide (stp D p < stp D z)) := by
      rw [List.append_assoc, hT, List.take_append_drop]
    have hlen : (L.take (ik0 L (pR D p)) ++ (L.drop (ik0 L (pR D p))).takeWhile (fun z => decide (stp D p < stp D z))).length = ink D L p := by
      rw [List.length_append, List.length_take, Nat.min_eq_left hk0]
      rfl
    have h1 : L.take (ink D L p) = L.take (ik0 L (pR D p)) ++ (L.drop (ik0 L (pR D p))).takeWhile (fun z => decide (stp D p < stp D z)) := by
      have := List.take_left' (l₂ := (L.drop (ik0 L (pR D p))).dropWhile (fun z => decide (stp D p < stp D z))) hlen
      rw [← hL] at this
      exact this
    have h2 : L.drop (ink D L p) = (L.drop (ik0 L (pR D p))).dropWhile (fun z => decide (stp D p < stp D z)) := by
      have := List.drop_left' (l₂ := (L.drop (ik0 L (pR D p))).dropWhile (fun z => decide (stp D p < stp D z))) hlen
      rw [← hL] at this
      exact this
    unfold ins
    rw [h1, h2]
  · intro z hz
    have := tw_all _ z hz
    simpa using this
  · intro z R' e
    have h2 := dw_hd _ z R' e
    simpa using h2
  · intro e
    rw [e]
    unfold ik0
    rw [od_none]
    rfl
  · intro q e
    rw [e]
    obtain ⟨j, hj⟩ := od_in L 0 q (hq q e)
    obtain ⟨A, B, h1, h2⟩ := od_dec L 0 q j hj
    refine ⟨A, ?_⟩
    unfold ik0
    rw [hj]
    show L.take (j + 1) = _
    have h3 : L = (A ++ [q]) ++ B := by rw [h1]; simp
    have h4 : (A ++ [q]).length = j + 1 := by rw [List.length_append]; simp; omega
    have := List.take_left' (l₂ := B) h4
    rw [← h3] at this
    exact this
theorem ord_ins (W : Wd D) (hs : WS D) (K : Pok (pR D) (pM D) (pP D) L) (Kp : Pok (pR D) (pM D) (pP D) (p :: L)) (hp : p ∉ L) (hst : ∀ x ∈ p :: L, stp D x < 400) (hso : L.Pairwise (fun x y => lx (pP D x) (pP D y))) : (ins D L p).Pairwise (fun x y => lx (pP D x) (pP D y)) := by
  have hq : ∀ q, pR D p = some q → q ∈ L := by
    intro q e
    obtain ⟨h1, h2⟩ := Kp.2.1 p List.mem_cons_self q e
    rcases List.mem_cons.mp h1 with g | g
    · rw [g] at h2; omega
    · exact g
  obtain ⟨H, T, R, hL, hi, hT, hR, hH0, hH1⟩ := ins_dec hq
  have hmm : ∀ z ∈ L, (pM D z < pM D p ↔ stp D p < stp D z) := by
    intro z hz
    have h1 := hst z (List.mem_cons_of_mem _ hz)
    have h2 := hst p List.mem_cons_self
    show 1000 - stp D z < 1000 - stp D p ↔ _
    omega
  have hmT : ∀ z ∈ T ++ R, z ∈ L := fun z hz => by rw [hL]; exact List.mem_append_right _ hz
  have hso' := hso
  rw [hL, List.pairwise_append] at hso'
  obtain ⟨s1, s2, s3⟩ := hso'
  have ep := Kp.1 p List.mem_cons_self
  rw [hi]
  refine pa_ins K hp Kp hL hso ?_ ?_ ?_ ?_ ?_
  · intro z hz
    cases hpp : pR D p with
    | none => rw [hH0 hpp] at hz; cases hz
    | some q =>
      obtain ⟨H', hH'⟩ := hH1 q hpp
      rw [hpp] at ep
      have ep' : pP D p = pP D q ++ [pM D p] := ep
      have hqp : lx (pP D q) (pP D p) := by rw [ep']; exact lx_pre _ _ _
      rw [hH'] at hz s1
      rcases List.mem_append.mp hz with g | g
      · exact lx_tr _ _ _ ((List.pairwise_append.mp s1).2.2 z g q (by simp)) hqp
      · rw [List.mem_singleton.mp g]; exact hqp
  · intro z hz q e
    obtain ⟨H', hH'⟩ := hH1 q e
    exact s3 q (by rw [hH']; simp) z hz
  · intro z hz h
    rw [hL] at hz
    rcases List.mem_append.mp hz with g | g
    · exfalso
      cases hpp : pR D p with
      | none => rw [hH0 hpp] at g; cases g
      | some q =>
        obtain ⟨H', hH'⟩ := hH1 q hpp
        have h1 := h q hpp
        rw [hH'] at g s1
        rcases List.mem_append.mp g with g2 | g2
        · exact lx_irr _ (lx_tr _ _ _ ((List.pairwise_append.mp s1).2.2 z g2 q (by simp)) h1)
        · rw [List.mem_singleton.mp g2] at h1
          exact lx_irr _ h1
    · exact g
  · intro z hz
    exact (hmm z (hmT z (List.mem_append_left _ hz))).mpr (hT z hz)
  · intro z R' e h
    exact hR z R' e ((hmm z (hmT z (List.mem_append_right _ (by rw [e]; simp)))).mp h)
end KP2
