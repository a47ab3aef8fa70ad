/-! THE CLASS's cells and the reference's -/
theorem srt_u : ∀ l1 l2 : List Nat, l1.Pairwise (· < ·) → l2.Pairwise (· < ·) → (∀ x, x ∈ l1 ↔ x ∈ l2) → l1 = l2
  | [], [], _, _, _ => rfl
  | [], b :: t, _, _, h => by have := (h b).mpr List.mem_cons_self; cases this
  | a :: t, [], _, _, h => by have := (h a).mp List.mem_cons_self; cases this
  | a :: t1, b :: t2, h1, h2, h => by
    have p1 := List.pairwise_cons.mp h1
    have p2 := List.pairwise_cons.mp h2
    have e : a = b := by
      have m1 := (h a).mp List.mem_cons_self
      have m2 := (h b).mpr List.mem_cons_self
      rcases List.mem_cons.mp m1 with q | q
      · exact q
      · rcases List.mem_cons.mp m2 with q2 | q2
        · exact q2.symm
        · have := p2.1 a q
          have := p1.1 b q2
          omega
    subst e
    rw [srt_u t1 t2 p1.2 p2.2 (fun x => ?_)]
    constructor
    · intro hx
      have hlt := p1.1 x hx
      rcases List.mem_cons.mp ((h x).mp (List.mem_cons_of_mem _ hx)) with q | q
      · omega
      · exact q
    · intro hx
      have hlt := p2.1 x hx
      rcases List.mem_cons.mp ((h x).mpr (List.mem_cons_of_mem _ hx)) with q | q
      · omega
      · exact q
theorem fnd_some : ∀ (cs : List (Nat × Nat)) (i y z : Nat), (y, z) ∈ cs → ∃ j, fnd cs i y z = some j
  | [], _, _, _, h => by cases h
  | p :: cs, i, y, z, h => by
    rw [fnd]
    by_cases q : p.1 = y ∧ p.2 = z
    · exact ⟨i, if_pos q⟩
    · rw [if_neg q]
      rcases List.mem_cons.mp h with e | e
      · exact absurd ⟨by rw [← e], by rw [← e]⟩ q
      · exact fnd_some cs (i + 1) y z e
/-- positions of a block's cells that are filled, by the class -/
def hsE (D : aD) (Lr Lc E : List Nat) (r c : Nat) : Bool := (fnd (prs D E) 0 (Lr.getD r 0) (Lc.getD c 0)).isSome
def kl1 (D : aD) (Lr Lc E : List Nat) (r : Nat) : Nat → Nat → List Nat
  | 0, _ => []
  | n + 1, c => if hsE D Lr Lc E r c = true then (120 * r + c) :: kl1 D Lr Lc E r n (c + 1) else kl1 D Lr Lc E r n (c + 1)
def klr (D : aD) (Lr Lc E : List Nat) (c0 nc : Nat) : Nat → Nat → List Nat
  | 0, _ => []
  | n + 1, r => kl1 D Lr Lc E r nc c0 ++ klr D Lr Lc E c0 nc n (r + 1)
def vlk (D : aD) (Lr Lc E : List Nat) (fr : Nat → Int64) (k : Nat) : Int64 := (fnd (prs D E) 0 (Lr.getD (k / 120) 0) (Lc.getD (k % 120) 0)).elim 0 fr
def fcs (D : aD) (E : List Nat) (cs : List (Nat × Nat)) (fr : Nat → Int64) (i : Nat) : Int64 := (fnd (prs D E) 0 (cs.getD i (0, 0)).1 (cs.getD i (0, 0)).2).elim 0 fr
def scs (D : aD) (E : List Nat) (cs : List (Nat × Nat)) (fs : Nat → Bool) (i : Nat) : Bool := (fnd (prs D E) 0 (cs.getD i (0, 0)).1 (cs.getD i (0, 0)).2).elim true fs
section LNK
variable {D : aD} {F : fo} {S : rs_S} {o i j k p q x y z p2 q2 a b n m r c c0 nc : Nat} {E L Lr Lc : List Nat} {fr f : Nat → Int64} {fs sg : Nat → Bool} {cs : List (Nat × Nat)} {K : kc}
theorem prs_l : (prs D E).length = E.length := by unfold prs; rw [List.length_map]
theorem prs_g (hj : j < E.length) : (prs D E).getD j (0, 0) = (rwo D (E.getD j 0), clo D (E.getD j 0)) := by
  unfold prs
  simp [List.getD_eq_getElem?_getD, List.getElem?_map, List.getElem?_eq_getElem hj]
theorem prs_f (e : fnd (prs D E) 0 y z = some j) : j < E.length ∧ rwo D (E.getD j 0) = y ∧ clo D (E.getD j 0) = z := by
  obtain ⟨h1, h2, h3⟩ := fnd_lt _ 0 y z j e
  rw [prs_l] at h2
  have hj : j < E.length := by omega
  rw [Nat.sub_zero, prs_g hj] at h3
  exact ⟨hj, congrArg Prod.fst h3, congrArg Prod.snd h3⟩
theorem prs_m (ha : a ∈ E) : (rwo D a, clo D a) ∈ prs D E := by
  unfold prs
  exact List.mem_map.mpr ⟨a, ha, rfl⟩
/-- what the class's list must be -/
def EP (D : aD) (F : fo) (Lr Lc E : List Nat) : Prop := EL D Lr Lc E (fW F) ∧ E.length ≤ 120 ∧ Lr.Nodup ∧ Lc.Nodup ∧ Lr.length ≤ 120 ∧ Lc.length ≤ 120
theorem EP_s (P : EP D F Lr Lc E) (ha : a ∈ E) : shB Lr Lc (rwo D a) (clo D a) = true := by
  have := ((P.1.2 a).mp ha).2
  unfold cnB at this
  rw [Bool.and_eq_true] at this
  exact this.2
theorem prs_j (P : EP D F Lr Lc E) (hj : j < E.length) : fnd (prs D E) 0 (rwo D (E.getD j 0)) (clo D (E.getD j 0)) = some j := by
  obtain ⟨j', e⟩ := fnd_some (prs D E) 0 _ _ (prs_m (D := D) (el_mem hj))
  obtain ⟨h1, h2, h3⟩ := prs_f e
  rw [e]
  have hk : kyA D Lr Lc (E.getD j' 0) = kyA D Lr Lc (E.getD j 0) := by unfold kyA; rw [h2, h3]
  rcases Nat.lt_trichotomy j' j with q | q | q
  · have := P.1.1 j' j q hj; omega
  · rw [q]
  · have := P.1.1 j j' q h1; omega
theorem pos_gd (P : EP D F Lr Lc E) (hr : r < Lr.length) (hc : c < Lc.length) : pos Lr (Lr.getD r 0) = some r ∧ pos Lc (Lc.getD c 0) = some c := ⟨pos_g P.2.2.1 hr, pos_g P.2.2.2.1 hc⟩
theorem hs_j (P : EP D F Lr Lc E) (hr : r < Lr.length) (hc : c < Lc.length) (e : fnd (prs D E) 0 (Lr.getD r 0) (Lc.getD c 0) = some j) : j < E.length ∧ kyA D Lr Lc (E.getD j 0) = 120 * r + c ∧ pos Lr (rwo D (E.getD j 0)) = some r ∧ pos Lc (clo D (E.getD j 0)) = some c := by
  obtain ⟨h1, h2, h3⟩ := prs_f e
  obtain ⟨g1, g2⟩ := pos_gd P hr hc
  unfold kyA
  rw [h2, h3, g1, g2]
  exact ⟨h1, rfl, rfl, rfl⟩
/-! keys of a block -/
theorem kl1_m : ∀ n c, x ∈ kl1 D Lr Lc E r n c ↔ ∃ c', c ≤ c' ∧ c' < c + n ∧ hsE D Lr Lc E r c' = true ∧ x = 120 * r + c'
  | 0, c => ⟨fun h => (by cases h), fun ⟨c', h1, h2, _⟩ => (by omega)⟩
  | n + 1, c => by
    rw [kl1]
    by_cases q : hsE D Lr Lc E r c = true
    · rw [if_pos q, List.mem_cons, kl1_m n (c + 1)]
      constructor
      · rintro (e | ⟨c', h1, h2, h3, h4⟩)
        · exact ⟨c, by omega, by omega, q, e⟩
        · exact ⟨c', by omega, by omega, h3, h4⟩
      · rintro ⟨c', h1, h2, h3, h4⟩
        by_cases e : c' = c
        · rw [e] at h4; exact Or.inl h4
        · exact Or.inr ⟨c', by omega, by omega, h3, h4⟩
    · rw [if_neg q, kl1_m n (c + 1)]
      constructor
      · rintro ⟨c', h1, h2, h3, h4⟩
        exact ⟨c', by omega, by omega, h3, h4⟩
      · rintro ⟨c', h1, h2, h3, h4⟩
        by_cases e : c' = c
        · rw [e] at h3; exact absurd h3 q
        · exact ⟨c', by omega, by omega, h3, h4⟩
theorem klr_m : ∀ n r, x ∈ klr D Lr Lc E c0 nc n r ↔ ∃ r' c', r ≤ r' ∧ r' < r + n ∧ c0 ≤ c' ∧ c' < c0 + nc ∧ hsE D Lr Lc E r' c' = true ∧ x = 120 * r' + c'
  | 0, r => ⟨fun h => (by cases h), fun ⟨r', c', h1, h2, _⟩ => (by omega)⟩
  | n + 1, r => by
    rw [klr, List.mem_append, kl1_m, klr_m n (r + 1)]
    constructor
    · rintro (⟨c', h1, h2, h3, h4⟩ | ⟨r', c', h1, h2, h3⟩)
      · exact ⟨r, c', by omega, by omega, h1, h2, h3, h4⟩
      · exact ⟨r', c', by omega, by omega, h3⟩
    · rintro ⟨r', c', h1, h2, h3, h4, h5, h6⟩
      by_cases e : r' = r
      · subst e
        exact Or.inl ⟨c', h3, h4, h5, h6⟩
      · exact Or.inr ⟨r', c', by omega, by omega, h3, h4, h5, h6⟩
theorem kl1_s : ∀ n c, (kl1 D Lr Lc E r n c).Pairwise (· < ·)
  | 0, c => List.Pairwise.nil
  | n + 1, c => by
    rw [kl1]
    split
    · refine List.pairwise_cons.mpr ⟨fun x hx => ?_, kl1_s n (c + 1)⟩
      obtain ⟨c', h1, _, _, h4⟩ := (kl1_m n (c + 1)).mp hx
      omega
    · exact kl1_s n (c + 1)
theorem klr_s (hc : c0 + nc ≤ 120) : ∀ n r, (klr D Lr Lc E c0 nc n r).Pairwise (· < ·)
  | 0, r => List.Pairwise.nil
  | n + 1, r => by
    rw [klr, List.pairwise_append]
    refine ⟨kl1_s nc c0, klr_s hc n (r + 1), fun x hx y hy => ?_⟩
    obtain ⟨c', _, h2, _, h4⟩ := (kl1_m nc c0).mp hx
    obtain ⟨r', c'', g1, _, _, _, _, g6⟩ := (klr_m n (r + 1)).mp hy
    omega
/-! the class's side -/
theorem wl_m {B : Nat → Bool} : ∀ n j, x ∈ wl B E n j ↔ j ≤ x ∧ x < j + n ∧ B (E.getD x 0) = true
  | 0, j => ⟨fun h => (by cases h), fun h => (by omega)⟩
  | n + 1, j => by
    rw [wl]
    by_cases q : B (E.getD j 0) = true
    · rw [if_pos q, List.mem_cons, wl_m n (j + 1)]
      constructor
      · rintro (e | h)
        · rw [e]; exact ⟨by omega, by omega, q⟩
        · exact ⟨by omega, by omega, h.2.2⟩
      · rintro ⟨h1, h2, h3⟩
        by_cases e : x = j
        · exact Or.inl e
        · exact Or.inr ⟨by omega, by omega, h3⟩
    · rw [if_neg q, wl_m n (j + 1)]
      constructor
      · exact fun h => ⟨by omega, by omega, h.2.2⟩
      · rintro ⟨h1, h2, h3⟩
        by_cases e : x = j
        · rw [e] at h3; exact absurd h3 q
        · exact ⟨by omega, by omega, h3⟩
theorem wl_s {B : Nat → Bool} : ∀ n j, (wl B E n j).Pairwise (· < ·)
  | 0, j => List.Pairwise.nil
  | n + 1, j => by
    rw [wl]
    split
    · refine List.pairwise_cons.mpr ⟨fun x hx => ?_, wl_s n (j + 1)⟩
      have := (wl_m n (j + 1)).mp hx
      omega
    · exact wl_s n (j + 1)
theorem wk_t : wBk D Lr Lc p q p2 q2 a = true ↔ ∃ x x2, pos Lr (rwo D a) = some x ∧ pos Lc (clo D a) = some x2 ∧ min p p2 ≤ x ∧ x ≤ max p p2 ∧ min q q2 ≤ x2 ∧ x2 ≤ max q q2 := by
  unfold wBk
  cases e1 : pos Lr (rwo D a) with
  | none => simp
  | some x =>
    cases e2 : pos Lc (clo D a) with
    | none => simp
    | some x2 =>
      simp only [Option.elim_some, Bool.and_eq_true, decide_eq_true_eq]
      constructor
      · rintro ⟨⟨h1, h2⟩, h3, h4⟩
        exact ⟨x, x2, rfl, rfl, h1, h2, h3, h4⟩
      · rintro ⟨a1, a2, h1, h2, h3, h4, h5, h6⟩
        cases h1
        cases h2
        exact ⟨⟨h3, h4⟩, h5, h6⟩
theorem wl_k (P : EP D F Lr Lc E) (hp : p < Lr.length) (hq : q < Lc.length) (hp2 : p2 < Lr.length) (hq2 : q2 < Lc.length) : (wl (wBk D Lr Lc p q p2 q2) E E.length 0).map (fun j => kyA D Lr Lc (E.getD j 0)) = klr D Lr Lc E (min q q2) (max q q2 + 1 - min q q2) (max p p2 + 1 - min p p2) (min p p2) := by
  have hl := P.2.2.2.2
  refine srt_u _ _ ?_ (klr_s (by omega) _ _) (fun x => ?_)
  · rw [List.pairwise_map]
    refine (wl_s (E := E) (B := wBk D Lr Lc p q p2 q2) E.length 0).imp_of_mem ?_
    intro a b ha hb hab
    have h2 := (wl_m E.length 0).mp hb
    exact P.1.1 a b hab (by omega)
  · rw [klr_m, List.mem_map]
    constructor
    · rintro ⟨j, hj, e⟩
      obtain ⟨h1, h2, h3⟩ := (wl_m E.length 0).mp hj
      obtain ⟨x1, x2, u1, u2, u3, u4, u5, u6⟩ := wk_t.mp h3
      refine ⟨x1, x2, u3, by omega, u5, by omega, ?_, ?_⟩
      · unfold hsE
        rw [pos_d u1, pos_d u2, prs_j P (by omega)]
        rfl
      · rw [← e]
        unfold kyA
        rw [u1, u2]
        rfl
    · rintro ⟨r', c', h1, h2, h3, h4, h5, h6⟩
      unfold hsE at h5
      cases e : fnd (prs D E) 0 (Lr.getD r' 0) (Lc.getD c' 0) with
      | none => rw [e] at h5; cases h5
      | some j =>
        obtain ⟨g1, g2, g3, g4⟩ := hs_j P (show r' < Lr.length by omega) (show c' < Lc.length by omega) e
        exact ⟨j, (wl_m E.length 0).mpr ⟨Nat.zero_le _, by omega, wk_t.mpr ⟨r', c', g3, g4, by omega, by omega, by omega, by omega⟩⟩, by rw [g2, h6]⟩
theorem wl_v (P : EP D F Lr Lc E) : (wl (wBk D Lr Lc p q p2 q2) E E.length 0).map fr = ((wl (wBk D Lr Lc p q p2 q2) E E.length 0).map (fun j => kyA D Lr Lc (E.getD j 0))).map (vlk D Lr Lc E fr) := by
  rw [List.map_map]
  refine List.map_congr_left (fun j hj => ?_)
  obtain ⟨h1, h2, h3⟩ := (wl_m E.length 0).mp hj
  obtain ⟨x1, x2, u1, u2, -⟩ := wk_t.mp h3
  have b2 := pos_lt u2
  have hl := P.2.2.2.2
  show fr j = vlk D Lr Lc E fr (kyA D Lr Lc (E.getD j 0))
  unfold vlk kyA
  rw [u1, u2, Option.getD_some, Option.getD_some, show (120 * x1 + x2) / 120 = x1 by omega, show (120 * x1 + x2) % 120 = x2 by omega, pos_d u1, pos_d u2, prs_j P (by omega)]
  rfl
/-! the reference's side -/
/-- the two lists of cells belong together -/
def LNK0 (D : aD) (E Lr Lc : List Nat) (cs : List (Nat × Nat)) (K : kc) : Prop := (∀ y z, fnd cs 0 y z = none → fnd (prs D E) 0 y z = none) ∧ ∀ y z i, shB Lr Lc y z = true → fnd cs 0 y z = some i → ((K i).isSome = (fnd (prs D E) 0 y z).isSome)
theorem rgc_v (P : EP D F Lr Lc E) (N : LNK0 D E Lr Lc cs K) (hr : r < Lr.length) : ∀ n c, c + n ≤ Lc.length → bvl K (fcs D E cs fr) (rgc cs Lr Lc r n c) = (kl1 D Lr Lc E r n c).map (vlk D Lr Lc E fr)
  | 0, c, _ => rfl
  | n + 1, c, h => by
    have hl := P.2.2.2.2
    rw [rgc, bvl_app, rgc_v P N hr n (c + 1) (by omega), kl1]
    obtain ⟨g1, g2⟩ := pos_gd P hr (show c < Lc.length by omega)
    have hs : shB Lr Lc (Lr.getD r 0) (Lc.getD c 0) = true := by unfold shB; rw [g1, g2]; rfl
    cases e : fnd cs 0 (Lr.getD r 0) (Lc.getD c 0) with
    | none =>
      have h2 : hsE D Lr Lc E r c = false := by unfold hsE; rw [N.1 _ _ e]; rfl
      rw [if_neg (by rw [h2]; decide)]
      rfl
    | some i =>
      have hi := N.2 _ _ i hs e
      have hc := (fnd_lt cs 0 _ _ i e).2.2
      rw [Nat.sub_zero] at hc
      by_cases q : hsE D Lr Lc E r c = true
      · have hk : (K i).isSome = true := hi.trans q
        have eb : bvl K (fcs D E cs fr) (some i).toList = [fcs D E cs fr i] := by
          unfold bvl
          show List.map _ (List.filter _ [i]) = _
          rw [List.filter_cons, if_pos hk]
          rfl
        have ev : fcs D E cs fr i = vlk D Lr Lc E fr (120 * r + c) := by
          unfold fcs vlk
          rw [hc, show (120 * r + c) / 120 = r by omega, show (120 * r + c) % 120 = c by omega]
        rw [eb, if_pos q, List.map_cons, ev]
        rfl
      · have hq : hsE D Lr Lc E r c = false := by simpa using q
        have hk : (K i).isSome = false := hi.trans hq
        have eb : bvl K (fcs D E cs fr) (some i).toList = [] := by
          unfold bvl
          show List.map _ (List.filter _ [i]) = _
          rw [List.filter_cons, if_neg (by rw [hk]; decide)]
          rfl
        rw [eb, if_neg q]
        rfl
theorem rgr_v (P : EP D F Lr Lc E) (N : LNK0 D E Lr Lc cs K) (hc : c0 + nc ≤ Lc.length) : ∀ n r, r + n ≤ Lr.length → bvl K (fcs D E cs fr) (rgr cs Lr Lc c0 nc n r) = (klr D Lr Lc E c0 nc n r).map (vlk D Lr Lc E fr)
  | 0, r, _ => rfl
  | n + 1, r, h => by
    rw [rgr, bvl_app, rgc_v P N (by omega) nc c0 hc, rgr_v P N hc n (r + 1) (by omega), klr, List.map_append]
theorem rgc_m : ∀ n c, i ∈ rgc cs Lr Lc r n c ↔ ∃ c', c ≤ c' ∧ c' < c + n ∧ fnd cs 0 (Lr.getD r 0) (Lc.getD c' 0) = some i
  | 0, c => ⟨fun h => (by cases h), fun ⟨c', h1, h2, _⟩ => (by omega)⟩
  | n + 1, c => by
    rw [rgc, List.mem_append, rgc_m n (c + 1), Option.mem_toList]
    constructor
    · rintro (e | ⟨c', h1, h2, h3⟩)
      · exact ⟨c, by omega, by omega, e⟩
      · exact ⟨c', by omega, by omega, h3⟩
    · rintro ⟨c', h1, h2, h3⟩
      by_cases e : c' = c
      · rw [e] at h3; exact Or.inl h3
      · exact Or.inr ⟨c', by omega, by omega, h3⟩
theorem rgr_m : ∀ n r, i ∈ rgr cs Lr Lc c0 nc n r ↔ ∃ r' c', r ≤ r' ∧ r' < r + n ∧ c0 ≤ c' ∧ c' < c0 + nc ∧ fnd cs 0 (Lr.getD r' 0) (Lc.getD c' 0) = some i
  | 0, r => ⟨fun h => (by cases h), fun ⟨r', c', h1, h2, _⟩ => (by omega)⟩
  | n + 1, r => by
    rw [rgr, List.mem_append, rgc_m, rgr_m n (r + 1)]
    constructor
    · rintro (⟨c', h1, h2, h3⟩ | ⟨r', c', h1, h2, h3⟩)
      · exact ⟨r, c', by omega, by omega, h1, h2, h3⟩
      · exact ⟨r', c', by omega, by omega, h3⟩
    · rintro ⟨r', c', h1, h2, h3, h4, h5⟩
      by_cases e : r' = r
      · subst e
        exact Or.inl ⟨c', h3, h4, h5⟩
      · exact Or.inr ⟨r', c', by omega, by omega, h3, h4, h5⟩
theorem LK_of (P : EP D F Lr Lc E) (N : LNK0 D E Lr Lc cs K) : LK D Lr Lc cs K E fr fs (fcs D E cs fr) (scs D E cs fs) := by
  have hl := P.2.2.2.2
  refine ⟨fun y z _ => ?_, fun p q p2 q2 hp hq hp2 hq2 => ⟨?_, ?_⟩⟩
  · cases e : fnd cs 0 y z with
    | none => rw [N.1 y z e]; exact ⟨rfl, rfl⟩
    | some i =>
      have hc := (fnd_lt cs 0 _ _ i e).2.2
      rw [Nat.sub_zero] at hc
      constructor
      · show _ = fcs D E cs fr i
        unfold fcs
        rw [hc]
      · show _ = scs D E cs fs i
        unfold scs
        rw [hc]
  · rw [wl_v P, wl_k P hp hq hp2 hq2]
    unfold rgn
    rw [rgr_v P N (by omega) _ _ (by omega)]
  · rw [Bool.eq_iff_iff, List.all_eq_true, List.all_eq_true]
    constructor
    · intro h i hi
      unfold rgn at hi
      obtain ⟨r', c', h1, h2, h3, h4, h5⟩ := (rgr_m _ _).mp hi
      have hc := (fnd_lt cs 0 _ _ i h5).2.2
      rw [Nat.sub_zero] at hc
      unfold scs
      rw [hc]
      cases e : fnd (prs D E) 0 (Lr.getD r' 0) (Lc.getD c' 0) with
      | none => rfl
      | some j =>
        obtain ⟨g1, g2, g3, g4⟩ := hs_j P (show r' < Lr.length by omega) (show c' < Lc.length by omega) e
        exact h j ((wl_m E.length 0).mpr ⟨Nat.zero_le _, by omega, wk_t.mpr ⟨r', c', g3, g4, by omega, by omega, by omega, by omega⟩⟩)
    · intro h j hj
      obtain ⟨h1, h2, h3⟩ := (wl_m E.length 0).mp hj
      obtain ⟨x1, x2, u1, u2, u3, u4, u5, u6⟩ := wk_t.mp h3
      have hpj := prs_j P (show j < E.length by omega)
      cases e : fnd cs 0 (rwo D (E.getD j 0)) (clo D (E.getD j 0)) with
      | none => rw [N.1 _ _ e] at hpj; cases hpj
      | some i =>
        have hc := (fnd_lt cs 0 _ _ i e).2.2
        rw [Nat.sub_zero] at hc
        have h7 := h i (by
          unfold rgn
          exact (rgr_m _ _).mpr ⟨x1, x2, u3, by omega, u5, by omega, by rw [pos_d u1, pos_d u2]; exact e⟩)
        unfold scs at h7
        rw [hc, hpj] at h7
        exact h7
end LNK
