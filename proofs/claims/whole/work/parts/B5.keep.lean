/-! WHAT a taken act leaves true: what lists hold, and how many -/
/-- an act that an office has taken -/
def tkn (F : fo) (i : Nat) : Prop := i % 40 < fK F (i / 40)
def WN (F : fo) : Prop := (∀ k, k < 2 → (xO (fX F k)).Nodup ∧ ∀ p ∈ xO (fX F k), tkn F p) ∧ (fW F).Nodup ∧ ∀ x ∈ fW F, tkn F x
theorem nd_len : ∀ (n : Nat) (L : List Nat), L.Nodup → (∀ x ∈ L, x < n) → L.length ≤ n
  | 0, L, _, h => by
    cases L with
    | nil => exact Nat.le_refl _
    | cons x L => exact absurd (h x List.mem_cons_self) (Nat.not_lt_zero _)
  | n + 1, L, hd, h => by
    have h1 := nd_len n (L.erase n) (hd.erase n) (fun x hx => by
      have h2 := (hd.mem_erase_iff).mp hx
      have h3 := h x h2.2
      have h4 := h2.1
      omega)
    have h5 : L.length ≤ (L.erase n).length + 1 := by
      rw [List.length_erase]
      by_cases q : n ∈ L
      · rw [if_pos q]; omega
      · rw [if_neg q]; omega
    omega
theorem nd_lt {n : Nat} {L : List Nat} {i : Nat} (hd : L.Nodup) (h : ∀ x ∈ L, x < n) (hi : i < n) (hn : i ∉ L) : L.length < n := by
  have := nd_len n (i :: L) (List.nodup_cons.mpr ⟨hn, hd⟩) (fun x hx => by
    rcases List.mem_cons.mp hx with q | q
    · rw [q]; exact hi
    · exact h x q)
  rw [List.length_cons] at this
  omega
section KP
variable {D : aD} {X : ax} {F : fo} {o i j l p k x : Nat} {r : rc}
theorem shl_f (D : aD) (X : ax) (W : Wd D) : ∀ (L : List Nat) (s : List Nat × (Nat → Int32)), (∀ p ∈ L, PN D p) → (shl D X L s).1.length ≤ s.1.length + L.length ∧ ∀ l ∈ (shl D X L s).1, l ∈ s.1 ∨ LN D l
  | [], s, _ => ⟨Nat.le_refl _, fun l hl => Or.inl hl⟩
  | p :: L, s, h => by
    have e : shl D X (p :: L) s = shl D X L (shs D X s p) := rfl
    obtain ⟨h1, h2⟩ := shl_f D X W L (shs D X s p) (fun q hq => h q (List.mem_cons_of_mem _ hq))
    rw [e]
    have hs : (shs D X s p).1.length ≤ s.1.length + 1 ∧ ∀ l ∈ (shs D X s p).1, l ∈ s.1 ∨ LN D l := by
      unfold shs
      by_cases q : plc D X (lnp D p) = some p ∧ thr D X (lnp D p) = true
      · rw [if_pos q]
        refine ⟨by simp, fun l hl => ?_⟩
        rcases List.mem_append.mp hl with z | z
        · exact Or.inl z
        · rw [List.mem_singleton.mp z]
          exact Or.inr (lnp_LN W (h p List.mem_cons_self)).2
      · rw [if_neg q]
        exact ⟨by omega, fun l hl => Or.inl hl⟩
    refine ⟨by rw [List.length_cons]; omega, fun l hl => ?_⟩
    rcases h2 l hl with z | z
    · exact hs.2 l z
    · exact Or.inr z
theorem Wx_shw (W : Wd D) (Wxx : Wx D X) : Wx D (shw D X) := by
  obtain ⟨h1, h2⟩ := shl_f D X W (xO X) ([], fun _ => -1) Wxx.1
  refine ⟨Wxx.1, fun l hl => ?_, Wxx.2.2.1, Wxx.2.2.2.1, Wxx.2.2.2.2.1, ?_⟩
  · rcases h2 l hl with z | z
    · cases z
    · exact z
  · have h3 := Wxx.2.2.2.2.1
    have h4 : ([] : List Nat).length = 0 := rfl
    show (shl D X (xO X) ([], fun _ => -1)).1.length ≤ 120
    have h5 : (([], fun _ => -1) : List Nat × (Nat → Int32)).1.length = 0 := rfl
    omega
theorem Wx_lrP (Wxx : Wx D X) (hi : AN D i) : Wx D (lrP D X i l) := by
  unfold lrP
  by_cases q : knd D i ≤ 3 ∧ lat D i (xP X l) = true
  · rw [if_pos q]; exact Wx_P Wxx hi
  · rw [if_neg q]; exact Wxx
theorem Wx_lrB (Wxx : Wx D X) (hi : AN D i) : Wx D (lrB D X i l) := by
  unfold lrB
  by_cases q : (knd D i = 1 ∨ knd D i = 4 ∨ knd D i = 5) ∧ lat D i (xB X l) = true
  · rw [if_pos q]; exact Wx_B Wxx hi
  · rw [if_neg q]; exact Wxx
theorem Wx_lrn (W : Wd D) (Wxx : Wx D X) (hi : D i = some r) (hl : rk r ≤ 2 → (xO X).length < 120) : Wx D (lrn D X i) := by
  have hI : Wx D (lrI D X i) := by
    unfold lrI
    rw [knd_e hi]
    by_cases q : rk r ≤ 2
    · rw [if_pos q]; exact Wx_I Wxx ⟨r, hi, q⟩ (hl q)
    · rw [if_neg q]; exact Wxx
  exact Wx_shw W (Wx_lrB (Wx_lrP hI ⟨r, hi⟩) ⟨r, hi⟩)
theorem lrn_O : xO (lrn D X i) = xO (lrI D X i) := by
  have h2 : ∀ Z l, xO (lrP D Z i l) = xO Z := by
    intro Z l
    unfold lrP
    split <;> rfl
  have h3 : ∀ Z l, xO (lrB D Z i l) = xO Z := by
    intro Z l
    unfold lrB
    split <;> rfl
  show xO (lrB D (lrP D (lrI D X i) i (lnp D i)) i (lnp D i)) = _
  rw [h3, h2]
theorem ins_nd {L : List Nat} (hd : L.Nodup) (hp : p ∉ L) : (ins D L p).Nodup := by
  unfold ins
  have h1 : (L.take (ink D L p) ++ L.drop (ink D L p)).Nodup := by rw [List.take_append_drop]; exact hd
  rw [List.nodup_append] at h1 ⊢
  obtain ⟨a1, a2, a3⟩ := h1
  refine ⟨a1, List.nodup_cons.mpr ⟨fun z => hp (List.mem_of_mem_drop z), a2⟩, fun x hx y hy => ?_⟩
  rcases List.mem_cons.mp hy with z | z
  · rw [z]
    intro e
    rw [e] at hx
    exact hp (List.mem_of_mem_take hx)
  · exact a3 x hx y z
theorem wrs_f : ∀ (L : List Nat), L.Nodup → i ∉ L → (wrs D i L).Nodup ∧ (∀ x ∈ wrs D i L, x = i ∨ x ∈ L) ∧ (wrs D i L).length ≤ L.length + 1
  | [], _, _ => ⟨by simp [wrs], fun x hx => Or.inl (by simpa [wrs] using hx), by simp [wrs]⟩
  | y :: L, hd, hn => by
    obtain ⟨d1, d2⟩ := List.nodup_cons.mp hd
    have hn2 : i ∉ L := fun z => hn (List.mem_cons_of_mem _ z)
    obtain ⟨a1, a2, a3⟩ := wrs_f L d2 hn2
    rw [wrs]
    by_cases q : samB D y i = true
    · rw [if_pos q]
      by_cases q2 : lat D i (some y) = true
      · rw [if_pos q2]
        refine ⟨List.nodup_cons.mpr ⟨hn2, d2⟩, fun x hx => ?_, by simp⟩
        rcases List.mem_cons.mp hx with z | z
        · exact Or.inl z
        · exact Or.inr (List.mem_cons_of_mem _ z)
      · rw [if_neg q2]
        exact ⟨hd, fun x hx => Or.inr hx, by simp⟩
    · rw [if_neg q]
      refine ⟨List.nodup_cons.mpr ⟨fun z => ?_, a1⟩, fun x hx => ?_, by rw [List.length_cons, List.length_cons]; omega⟩
      · rcases a2 y z with e | e
        · rw [e] at hn
          exact hn List.mem_cons_self
        · exact d1 e
      · rcases List.mem_cons.mp hx with z | z
        · rw [z]; exact Or.inr List.mem_cons_self
        · rcases a2 x z with e | e
          · exact Or.inl e
          · exact Or.inr (List.mem_cons_of_mem _ e)
/-- known, with one more -/
theorem tkF_K : fK (tkF D F i) = up (fK F) (i / 40) (i % 40 + 1) := by
  unfold tkF
  split <;> rfl
theorem tkF_A : fA (tkF D F i) = up (fA F) i true := by
  unfold tkF
  split <;> rfl
theorem tkF_C : fC (tkF D F i) = max (fC F) (stp D i / 3) := by
  unfold tkF
  split <;> rfl
theorem tkn_tk (hn : i % 40 = fK F (i / 40)) : tkn (tkF D F i) x ↔ tkn F x ∨ x = i := by
  unfold tkn
  rw [tkF_K]
  by_cases q : x / 40 = i / 40
  · rw [q, up_e]
    constructor
    · intro z
      by_cases e : x % 40 = i % 40
      · exact Or.inr (by omega)
      · exact Or.inl (by omega)
    · rintro (z | z)
      · omega
      · omega
  · rw [up_n q]
    constructor
    · exact Or.inl
    · rintro (z | z)
      · exact z
      · rw [z] at q
        exact absurd rfl q
theorem WN_tk (W : Wd D) (Wff : Wf D o F) (N : WN F) (hi : D i = some r) (hn : i % 40 = fK F (i / 40)) : WN (tkF D F i) ∧ Wf D o (tkF D F i) ∧ (rk r = 6 → (fW F).length < 120) ∧ (rk r ≤ 2 → ∀ k, k < 2 → (xO (fX F k)).length < 120) := by
  obtain ⟨ho, hK, hA, hW, hWl, hC, hX⟩ := Wff
  obtain ⟨n1, n2, n3⟩ := N
  have w1 := W i r hi
  have hnt : ¬ tkn F i := by unfold tkn; omega
  have hlt : ∀ x, AN D x → x < 120 := fun x ⟨q, hq⟩ => (W x q hq).1
  have l6 : (fW F).length < 120 := nd_lt n2 (fun x hx => hlt x ⟨(hW x hx).choose, (hW x hx).choose_spec.1⟩) w1.1 (fun z => hnt (n3 i z))
  have l2 : ∀ k, k < 2 → (xO (fX F k)).length < 120 := fun k hk => nd_lt (n1 k hk).1 (fun x hx => hlt x (PN_AN ((hX k hk).1 x hx))) w1.1 (fun z => hnt ((n1 k hk).2 i z))
  have tt : ∀ x, tkn F x → tkn (tkF D F i) x := fun x hx => (tkn_tk hn).mpr (Or.inl hx)
  have ti : tkn (tkF D F i) i := (tkn_tk hn).mpr (Or.inr rfl)
  have hst : stp D i < 1000 := by rw [stp_e hi]; exact Nat.lt_trans w1.2.2.2.1 (by omega)
  have K2 : ∀ j, fK (tkF D F i) j ≤ 40 := fun j => by
    rw [tkF_K]
    by_cases q : j = i / 40
    · rw [q, up_e]; omega
    · rw [up_n q]; exact hK j
  have A2 : ∀ x, fA (tkF D F i) x = true → AN D x := fun x hx => by
    rw [tkF_A] at hx
    by_cases q : x = i
    · rw [q]; exact ⟨r, hi⟩
    · rw [up_n q] at hx; exact hA x hx
  have C2 : fC (tkF D F i) < 1000 := by rw [tkF_C]; omega
  by_cases q : rk r = 6
  · have e : tkF D F i = (up (fK F) (i / 40) (i % 40 + 1), up (fA F) i true, wrs D i (fW F), max (fC F) (stp D i / 3), fX F) := if_pos (by rw [knd_e hi]; exact q)
    have eW : fW (tkF D F i) = wrs D i (fW F) := by rw [e]
    have eX : fX (tkF D F i) = fX F := by rw [e]
    obtain ⟨a1, a2, a3⟩ := wrs_f (D := D) (fW F) n2 (fun z => hnt (n3 i z))
    refine ⟨⟨fun k hk => ?_, ?_, fun x hx => ?_⟩, ⟨ho, K2, A2, fun x hx => ?_, ?_, C2, fun k hk => ?_⟩, fun _ => l6, fun _ => l2⟩
    · rw [eX]; exact ⟨(n1 k hk).1, fun p hp => tt p ((n1 k hk).2 p hp)⟩
    · rw [eW]; exact a1
    · rw [eW] at hx
      rcases a2 x hx with z | z
      · rw [z]; exact ti
      · exact tt x (n3 x z)
    · rw [eW] at hx
      rcases a2 x hx with z | z
      · rw [z]; exact ⟨r, hi, q⟩
      · exact hW x z
    · rw [eW]; omega
    · rw [eX]; exact hX k hk
  · have e : tkF D F i = (up (fK F) (i / 40) (i % 40 + 1), up (fA F) i true, fW F, max (fC F) (stp D i / 3), up (fX F) (lkd D (lnp D i)) (lrn D (fX F (lkd D (lnp D i))) i)) := if_neg (by rw [knd_e hi]; exact q)
    have eW : fW (tkF D F i) = fW F := by rw [e]
    have eX : fX (tkF D F i) = up (fX F) (lkd D (lnp D i)) (lrn D (fX F (lkd D (lnp D i))) i) := by rw [e]
    refine ⟨⟨fun k hk => ?_, ?_, fun x hx => ?_⟩, ⟨ho, K2, A2, fun x hx => ?_, ?_, C2, fun k hk => ?_⟩, fun _ => l6, fun _ => l2⟩
    · rw [eX]
      by_cases z : k = lkd D (lnp D i)
      · rw [← z, up_e, lrn_O]
        unfold lrI
        by_cases q2 : knd D i ≤ 2
        · rw [if_pos q2]
          refine ⟨ins_nd (n1 k hk).1 (fun z => hnt ((n1 k hk).2 i z)), fun p hp => ?_⟩
          rcases ins_mem.mp hp with e | e
          · rw [e]; exact ti
          · exact tt p ((n1 k hk).2 p e)
        · rw [if_neg q2]
          exact ⟨(n1 k hk).1, fun p hp => tt p ((n1 k hk).2 p hp)⟩
      · rw [up_n z]
        exact ⟨(n1 k hk).1, fun p hp => tt p ((n1 k hk).2 p hp)⟩
    · rw [eW]; exact n2
    · rw [eW] at hx; exact tt x (n3 x hx)
    · rw [eW] at hx; exact hW x hx
    · rw [eW]; exact hWl
    · rw [eX]
      by_cases z : k = lkd D (lnp D i)
      · rw [← z, up_e]
        exact Wx_lrn W (hX k hk) hi (fun q2 => l2 k hk)
      · rw [up_n z]
        exact hX k hk
end KP
