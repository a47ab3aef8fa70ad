/-! WHICH CELLS SETTLE, by levels; the reference's levels say it -/
def gd (P : Nat → List Nat) (fm : Nat → Bool) : Nat → Nat → Bool
  | 0, i => !fm i
  | k + 1, i => !fm i || (P i).all (gd P fm k)
theorem all_cg {p q : Nat → Bool} : ∀ l : List Nat, (∀ x ∈ l, p x = q x) → l.all p = l.all q
  | [], _ => rfl
  | a :: l, h => by rw [List.all_cons, List.all_cons, h a List.mem_cons_self, all_cg l (fun x hx => h x (List.mem_cons_of_mem _ hx))]
theorem cP_lt {p q : Nat → Bool} : ∀ l : List Nat, (∀ x ∈ l, p x = true → q x = true) → (∃ x ∈ l, q x = true ∧ p x = false) → l.countP p + 1 ≤ l.countP q
  | [], _, h => by obtain ⟨x, hx, _⟩ := h; cases hx
  | a :: l, h1, h2 => by
    have hm : l.countP p ≤ l.countP q := List.countP_mono_left (fun x hx => h1 x (List.mem_cons_of_mem _ hx))
    rw [List.countP_cons, List.countP_cons]
    obtain ⟨x, hx, q1, q2⟩ := h2
    rcases List.mem_cons.mp hx with e | e
    · subst e
      rw [if_pos q1, if_neg (by rw [q2]; decide)]
      omega
    · have h3 := cP_lt l (fun x hx => h1 x (List.mem_cons_of_mem _ hx)) ⟨x, e, q1, q2⟩
      by_cases ha : p a = true
      · rw [if_pos ha, if_pos (h1 a List.mem_cons_self ha)]
        omega
      · rw [if_neg ha]
        split <;> omega
section GDS
variable {P : Nat → List Nat} {fm : Nat → Bool} {n i k m t : Nat}
theorem gd_s : ∀ k i, gd P fm k i = true → gd P fm (k + 1) i = true
  | 0, i, h => by
    have h' : (!fm i) = true := h
    show (!fm i || (P i).all (gd P fm 0)) = true
    rw [h']
    rfl
  | k + 1, i, h => by
    have h' : (!fm i || (P i).all (gd P fm k)) = true := h
    show (!fm i || (P i).all (gd P fm (k + 1))) = true
    rw [Bool.or_eq_true] at h' ⊢
    rcases h' with h' | h'
    · exact Or.inl h'
    · exact Or.inr (List.all_eq_true.mpr (fun x hx => gd_s k x (List.all_eq_true.mp h' x hx)))
theorem gd_m (h : k ≤ m) (g : gd P fm k i = true) : gd P fm m i = true := by
  obtain ⟨d, rfl⟩ := Nat.le.dest h
  clear h
  induction d with
  | zero => exact g
  | succ d ih => exact gd_s _ _ ih
theorem gd_st (hP : ∀ i, i < n → ∀ x ∈ P i, x < n) (e : ∀ i, i < n → gd P fm (k + 1) i = gd P fm k i) : ∀ j i, i < n → gd P fm (k + j) i = gd P fm k i
  | 0, i, hi => rfl
  | j + 1, i, hi => by
    rw [← e i hi]
    show (!fm i || (P i).all (gd P fm (k + j))) = (!fm i || (P i).all (gd P fm k))
    rw [all_cg (P i) (fun x hx => gd_st hP e j x (hP i hi x hx))]
theorem gd_p : ∀ m, (∃ k, k < m ∧ ∀ i, i < n → gd P fm (k + 1) i = gd P fm k i) ∨ m ≤ (List.range n).countP (gd P fm m)
  | 0 => Or.inr (Nat.zero_le _)
  | m + 1 => by
    rcases gd_p m with ⟨k, h1, h2⟩ | h
    · exact Or.inl ⟨k, by omega, h2⟩
    · by_cases e : ∀ i, i < n → gd P fm (m + 1) i = gd P fm m i
      · exact Or.inl ⟨m, by omega, e⟩
      · refine Or.inr ?_
        have h3 : ∃ x ∈ List.range n, gd P fm (m + 1) x = true ∧ gd P fm m x = false := by
          apply Classical.byContradiction
          intro h2
          apply e
          intro i hi
          cases h3 : gd P fm m i with
          | true => exact gd_s m i h3
          | false =>
            cases h4 : gd P fm (m + 1) i with
            | false => rfl
            | true => exact absurd ⟨i, List.mem_range.mpr hi, h4, h3⟩ h2
        have h4 := cP_lt (p := gd P fm m) (q := gd P fm (m + 1)) (List.range n) (fun x _ => gd_s m x) h3
        omega
/-- as many levels as cells are enough -/
theorem gd_n (hP : ∀ i, i < n → ∀ x ∈ P i, x < n) (hi : i < n) (g : gd P fm k i = true) : gd P fm n i = true := by
  rcases gd_p (P := P) (fm := fm) (n := n) (n + 1) with ⟨k0, h1, h2⟩ | h
  · have e1 := gd_st hP h2 (max k n - k0) i hi
    have e2 := gd_st hP h2 (n - k0) i hi
    rw [show k0 + (max k n - k0) = max k n by omega, gd_m (Nat.le_max_left k n) g] at e1
    rw [show k0 + (n - k0) = n by omega, ← e1] at e2
    exact e2
  · have h2 := List.countP_le_length (p := gd P fm (n + 1)) (l := List.range n)
    rw [List.length_range] at h2
    omega
theorem gd_fm (hf : fm i = true) (g : gd P fm k i = true) : ∃ k', k = k' + 1 ∧ ∀ x ∈ P i, gd P fm k' x = true := by
  cases k with
  | zero =>
    have h' : (!fm i) = true := g
    rw [hf] at h'
    cases h'
  | succ k =>
    have h' : (!fm i || (P i).all (gd P fm k)) = true := g
    rw [hf] at h'
    exact ⟨k, rfl, List.all_eq_true.mp h'⟩
theorem gd_nf (g : gd P fm (k + 1) i = false) : fm i = true ∧ ∃ x ∈ P i, gd P fm k x = false := by
  have h' : (!fm i || (P i).all (gd P fm k)) = false := g
  rw [Bool.or_eq_false_iff] at h'
  refine ⟨by simpa using h'.1, ?_⟩
  have h2 := h'.2
  rw [List.all_eq_false] at h2
  obtain ⟨x, hx, h3⟩ := h2
  exact ⟨x, hx, by simpa using h3⟩
theorem gd_0 (hf : fm i = false) : gd P fm k i = true := gd_m (Nat.zero_le k) (by show (!fm i) = true; rw [hf]; rfl)
end GDS
theorem mxl_leM {lev : Nat → Nat} {B : Nat} : ∀ (l : List Nat) (x : Nat), (∀ j ∈ l, lev j ≤ B) → x ≤ B → mxl lev x l ≤ B
  | [], x, _, hx => hx
  | j :: l, x, h, hx => mxl_leM l _ (fun k hk => h k (List.mem_cons_of_mem _ hk)) (by have := h j List.mem_cons_self; show max x (lev j) ≤ B; omega)
theorem mxl_mem {lev : Nat → Nat} {j : Nat} : ∀ (l : List Nat) (x : Nat), j ∈ l → lev j ≤ mxl lev x l
  | [], x, h => by cases h
  | a :: l, x, h => by
    show lev j ≤ mxl lev (max x (lev a)) l
    rcases List.mem_cons.mp h with e | e
    · subst e
      have := mxl_ge (lev := lev) l (max x (lev j))
      omega
    · exact mxl_mem l _ e
theorem mxl_cg {lev lev' : Nat → Nat} : ∀ (l : List Nat) (x : Nat), (∀ j ∈ l, lev j = lev' j) → mxl lev x l = mxl lev' x l
  | [], x, _ => rfl
  | a :: l, x, h => by
    show mxl lev (max x (lev a)) l = mxl lev' (max x (lev' a)) l
    rw [h a List.mem_cons_self, mxl_cg l _ (fun j hj => h j (List.mem_cons_of_mem _ hj))]
def dpi (cs : List (Nat × Nat)) (Lr Lc : List Nat) (K : kc) (i : Nat) : List Nat := match K i with
  | some (_, ts) => dpa cs Lr Lc ts
  | none => []
def fmB (K : kc) (i : Nat) : Bool := match K i with
  | some (true, _) => true
  | _ => false
section LVS
variable {cs : List (Nat × Nat)} {Lr Lc : List Nat} {K : kc} {n i k t : Nat} {lev : Nat → Nat}
abbrev gdK (cs : List (Nat × Nat)) (Lr Lc : List Nat) (K : kc) : Nat → Nat → Bool := gd (dpi cs Lr Lc K) (fmB K)
theorem lup_f (hf : fmB K i = true) (hl : lev i ≤ n) : lup cs Lr Lc K n lev i = fun j => if j = i then mxl lev 0 (dpi cs Lr Lc K i) + 1 else lev j := by
  unfold fmB at hf
  unfold lup dpi
  split at hf
  · next ts e => rw [e]; dsimp only; rw [if_pos hl]
  · cases hf
theorem lup_o (h : ¬ (fmB K i = true ∧ lev i ≤ n)) : lup cs Lr Lc K n lev i = lev := by
  unfold lup
  cases e : K i with
  | none => rfl
  | some p =>
    obtain ⟨fm, ts⟩ := p
    cases fm with
    | false => rfl
    | true =>
      dsimp only
      rw [if_neg]
      intro hl
      exact h ⟨by unfold fmB; rw [e], hl⟩
/-- levels that hold within a bound; cells that settle by t levels have theirs; the others have t at least -/
def RJ (cs : List (Nat × Nat)) (Lr Lc : List Nat) (K : kc) (n t : Nat) (lev : Nat → Nat) : Prop := (∀ k c, c < n → gdK cs Lr Lc K k c = true → lev c ≤ k) ∧ (∀ c, c < n → gdK cs Lr Lc K t c = true → fmB K c = true → lev c = mxl lev 0 (dpi cs Lr Lc K c) + 1) ∧ ∀ s c, s ≤ t → c < n → gdK cs Lr Lc K s c = false → s ≤ lev c
def RJi (cs : List (Nat × Nat)) (Lr Lc : List Nat) (K : kc) (n t i : Nat) (lev : Nat → Nat) : Prop := RJ cs Lr Lc K n t lev ∧ (∀ c, c < i → gdK cs Lr Lc K (t + 1) c = true → fmB K c = true → lev c = mxl lev 0 (dpi cs Lr Lc K c) + 1) ∧ ∀ c, c < i → gdK cs Lr Lc K (t + 1) c = false → t + 1 ≤ lev c
theorem RJ_up (hP : ∀ i, i < n → ∀ x ∈ dpi cs Lr Lc K i, x < n) (ht : t ≤ n) (hi : i < n) (J : RJi cs Lr Lc K n t i lev) : RJi cs Lr Lc K n t (i + 1) (lup cs Lr Lc K n lev i) := by
  obtain ⟨⟨a, c, f⟩, d, e⟩ := J
  have cl : ∀ s c, fmB K c = true → gdK cs Lr Lc K s c = true → ∀ x ∈ dpi cs Lr Lc K c, gdK cs Lr Lc K s x = true := by
    intro s c hf g x hx
    obtain ⟨k', e1, e2⟩ := gd_fm hf g
    exact gd_m (by omega) (e2 x hx)
  by_cases u : fmB K i = true ∧ lev i ≤ n
  · obtain ⟨uf, ul⟩ := u
    obtain ⟨lev', hl⟩ : ∃ lev', lev' = lup cs Lr Lc K n lev i := ⟨_, rfl⟩
    have hi' : lev' i = mxl lev 0 (dpi cs Lr Lc K i) + 1 := by rw [hl, lup_f uf ul]; exact if_pos rfl
    have ho : ∀ j, j ≠ i → lev' j = lev j := fun j hj => by rw [hl, lup_f uf ul]; exact if_neg hj
    rw [← hl]
    have sm : ∀ c0, c0 < n → gdK cs Lr Lc K t c0 = true → lev' c0 = lev c0 := by
      intro c0 h0 g
      by_cases q : c0 = i
      · rw [q, hi', c i hi (q ▸ g) uf]
      · exact ho c0 q
    have smx : ∀ c0, c0 < n → fmB K c0 = true → gdK cs Lr Lc K (t + 1) c0 = true → mxl lev 0 (dpi cs Lr Lc K c0) = mxl lev' 0 (dpi cs Lr Lc K c0) := by
      intro c0 h0 hf g
      obtain ⟨k', e1, e2⟩ := gd_fm hf g
      have e3 : k' = t := by omega
      subst e3
      exact mxl_cg _ _ (fun x hx => (sm x (hP c0 h0 x hx) (e2 x hx)).symm)
    refine ⟨⟨fun k c0 h0 g => ?_, fun c0 h0 g hf => ?_, fun s c0 hs h0 g => ?_⟩, fun c0 h0 g hf => ?_, fun c0 h0 g => ?_⟩
    · by_cases q : c0 = i
      · subst q
        obtain ⟨k', e1, e2⟩ := gd_fm uf g
        rw [hi', e1]
        have := mxl_leM (lev := lev) (B := k') (dpi cs Lr Lc K c0) 0 (fun x hx => a k' x (hP c0 h0 x hx) (e2 x hx)) (Nat.zero_le _)
        omega
      · rw [ho c0 q]; exact a k c0 h0 g
    · rw [sm c0 h0 g, c c0 h0 g hf, smx c0 h0 hf (gd_s _ _ g)]
    · by_cases q : c0 = i
      · subst q
        cases s with
        | zero => exact Nat.zero_le _
        | succ s =>
          obtain ⟨-, x, hx, g2⟩ := gd_nf g
          have h1 := f s x (by omega) (hP c0 h0 x hx) g2
          have h2 := mxl_mem (lev := lev) (dpi cs Lr Lc K c0) 0 hx
          rw [hi']; omega
      · rw [ho c0 q]; exact f s c0 hs h0 g
    · by_cases q : c0 = i
      · subst q
        rw [hi', smx c0 hi hf g]
      · rw [ho c0 q, d c0 (by omega) g hf, smx c0 (by omega) hf g]
    · by_cases q : c0 = i
      · subst q
        obtain ⟨-, x, hx, g2⟩ := gd_nf g
        have h1 := f t x (Nat.le_refl _) (hP c0 hi x hx) g2
        have h2 := mxl_mem (lev := lev) (dpi cs Lr Lc K c0) 0 hx
        rw [hi']; omega
      · rw [ho c0 q]; exact e c0 (by omega) g
  · rw [lup_o u]
    refine ⟨⟨a, c, f⟩, fun c0 h0 g hf => ?_, fun c0 h0 g => ?_⟩
    · by_cases q : c0 = i
      · subst q
        exact absurd ⟨hf, a n c0 hi (gd_n hP hi g)⟩ u
      · exact d c0 (by omega) g hf
    · by_cases q : c0 = i
      · subst q
        have hf := (gd_nf g).1
        have : ¬ lev c0 ≤ n := fun hl => u ⟨hf, hl⟩
        omega
      · exact e c0 (by omega) g
theorem RJ_ups (hP : ∀ i, i < n → ∀ x ∈ dpi cs Lr Lc K i, x < n) (ht : t ≤ n) : ∀ k i lev, i + k = n → RJi cs Lr Lc K n t i lev → RJi cs Lr Lc K n t n (ups cs Lr Lc K n k i lev)
  | 0, i, lev, h, J => by
    have e : i = n := by omega
    subst e
    exact J
  | k + 1, i, lev, h, J => by
    rw [ups]
    exact RJ_ups hP ht k (i + 1) _ (by omega) (RJ_up hP ht (by omega) J)
theorem RJ_s (J : RJi cs Lr Lc K n t n lev) : RJ cs Lr Lc K n (t + 1) lev := by
  obtain ⟨⟨a, c, f⟩, d, e⟩ := J
  refine ⟨a, fun c0 h0 g hf => d c0 h0 g hf, fun s c0 hs h0 g => ?_⟩
  by_cases q : s = t + 1
  · subst q; exact e c0 h0 g
  · exact f s c0 (by omega) h0 g
theorem RJ_upN (hP : ∀ i, i < n → ∀ x ∈ dpi cs Lr Lc K i, x < n) : ∀ k t lev, t + k = n + 1 → RJ cs Lr Lc K n t lev → RJ cs Lr Lc K n (n + 1) (upN cs Lr Lc K n k lev)
  | 0, t, lev, h, J => by
    have e : t = n + 1 := by omega
    subst e
    exact J
  | k + 1, t, lev, h, J => by
    rw [upN]
    exact RJ_upN hP k (t + 1) _ (by omega) (RJ_s (RJ_ups hP (by omega) n 0 lev (by omega) ⟨J, fun c h => absurd h (Nat.not_lt_zero _), fun c h => absurd h (Nat.not_lt_zero _)⟩))
/-- the levels in the end -/
theorem RJ_end (hP : ∀ i, i < n → ∀ x ∈ dpi cs Lr Lc K i, x < n) : (∀ c, c < n → gdK cs Lr Lc K n c = true → upN cs Lr Lc K n (n + 1) (fun _ => 0) c ≤ n ∧ (fmB K c = true → upN cs Lr Lc K n (n + 1) (fun _ => 0) c = mxl (upN cs Lr Lc K n (n + 1) (fun _ => 0)) 0 (dpi cs Lr Lc K c) + 1) ∧ (fmB K c = false → upN cs Lr Lc K n (n + 1) (fun _ => 0) c = 0)) ∧ ∀ c, c < n → gdK cs Lr Lc K n c = false → n < upN cs Lr Lc K n (n + 1) (fun _ => 0) c := by
  obtain ⟨a, c, f⟩ := RJ_upN hP (n + 1) 0 (fun _ => 0) (by omega) ⟨fun _ _ _ _ => Nat.zero_le _, fun c h g hf => by
    obtain ⟨k', e1, _⟩ := gd_fm hf g
    omega, fun s c hs h g => hs⟩
  refine ⟨fun c0 h0 g => ⟨a n c0 h0 g, fun hf => c c0 h0 (gd_s _ _ g) hf, fun hf => ?_⟩, fun c0 h0 g => ?_⟩
  · have := a 0 c0 h0 (gd_0 hf)
    omega
  · refine f (n + 1) c0 (Nat.le_refl _) h0 ?_
    cases q : gdK cs Lr Lc K (n + 1) c0 with
    | false => rfl
    | true => exact absurd (g.symm.trans (gd_n hP h0 q)) (by decide)
end LVS
