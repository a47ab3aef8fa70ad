/-! THE VALUE of a content, by its tokens; the reference's stack -/
abbrev isO (k : Nat) : Prop := k = 43 ∨ k = 45 ∨ k = 42 ∨ k = 47
def tkv (cs : List (Nat × Nat)) (Lr Lc : List Nat) (K : kc) (f : Nat → Int64) (t : Nat × Int32) : Int64 :=
  if t.1 = 97 then t.2.toInt64
  else if t.1 = 114 then (if shB Lr Lc (t.2.toNatClampNeg % 128) (t.2.toNatClampNeg / 128) = true then (fnd cs 0 (t.2.toNatClampNeg % 128) (t.2.toNatClampNeg / 128)).elim 0 f else 1000000002)
  else if (shB Lr Lc (t.2.toNatClampNeg % 128) (t.2.toNatClampNeg / 128 % 128) && shB Lr Lc (t.2.toNatClampNeg / 16384 % 128) (t.2.toNatClampNeg / 2097152)) = true then bfin t.1 (bfo (bvl K f (dep cs Lr Lc t))) else 1000000002
def ev1 (g : (Nat × Int32) → Int64) (st : List Int64) (t : Nat × Int32) : List Int64 :=
  if t.1 = 126 then (match st with
    | v :: r => ngv v :: r
    | [] => [])
  else if isO t.1 then (match st with
    | b :: a :: r => tw2 t.1 a b :: r
    | st => st)
  else g t :: st
def evs (g : (Nat × Int32) → Int64) (ts : List (Nat × Int32)) (st : List Int64) : List Int64 := ts.foldl (ev1 g) st
def evV (cs : List (Nat × Nat)) (Lr Lc : List Nat) (K : kc) (f : Nat → Int64) (ts : List (Nat × Int32)) : Int64 := (evs (tkv cs Lr Lc K f) ts []).headD 0
/-- how deep the stack is behind tokens -/
def dpt : List (Nat × Int32) → Nat → Option Nat
  | [], d => some d
  | t :: ts, d => if t.1 = 126 then (if d = 0 then none else dpt ts d) else if isO t.1 then (if d < 2 then none else dpt ts (d - 1)) else dpt ts (d + 1)
def tkG (t : Nat × Int32) : Prop := (t.1 = 97 ∧ -1000000000 ≤ t.2.toInt ∧ t.2.toInt ≤ 1000000000) ∨ t.1 = 114 ∨ isB t.1 ∨ t.1 = 126 ∨ isO t.1
/-- the reference's stack -/
def STK : List Int64 → rs_S → Prop
  | [], _ => True
  | v :: r, S => S.2.2 38 r.length = cv v ∧ STK r S
def Skj (S S' : rs_S) : Prop := S'.1 = S.1 ∧ S'.2.1 = S.2.1 ∧ ∀ a j, a ≠ 38 → S'.2.2 a j = S.2.2 a j
section VAL
variable {D : aD} {S S' S2 : rs_S} {F : fo} {o i j l k y z y2 z2 n c : Nat} {cs : List (Nat × Nat)} {Lr Lc : List Nat} {K : kc} {f g : Nat → Int64} {t : Nat × Int32} {ts : List (Nat × Int32)} {v : Int64}
theorem tkv_r (h1 : t.1 = 114) (hy : y < 120) (hz : z < 120) (h2 : t.2 = Int32.ofNat (y + 128 * z)) : tkv cs Lr Lc K f t = if shB Lr Lc y z = true then (fnd cs 0 y z).elim 0 f else 1000000002 := by
  unfold tkv
  rw [if_neg (by omega), if_pos h1, h2, i32_tn (by omega), show (y + 128 * z) % 128 = y by omega, show (y + 128 * z) / 128 = z by omega]
theorem tkv_b (h1 : isB t.1) (hy : y < 120) (hz : z < 120) (hy2 : y2 < 120) (hz2 : z2 < 120) (h2 : t.2 = Int32.ofNat (y + 128 * z + 16384 * (y2 + 128 * z2))) : tkv cs Lr Lc K f t = if (shB Lr Lc y z && shB Lr Lc y2 z2) = true then bfin t.1 (bfo (bvl K f (dep cs Lr Lc t))) else 1000000002 := by
  have h3 : t.1 = 115 ∨ t.1 = 110 ∨ t.1 = 109 := h1
  unfold tkv
  rw [if_neg (by omega), if_neg (by omega), h2, i32_tn (by omega), show (y + 128 * z + 16384 * (y2 + 128 * z2)) % 128 = y by omega, show (y + 128 * z + 16384 * (y2 + 128 * z2)) / 128 % 128 = z by omega, show (y + 128 * z + 16384 * (y2 + 128 * z2)) / 16384 % 128 = y2 by omega, show (y + 128 * z + 16384 * (y2 + 128 * z2)) / 2097152 = z2 by omega]
theorem dep_len (ht : tkO t) (hr : Lr.length ≤ 120) (hc : Lc.length ≤ 120) : (dep cs Lr Lc t).length ≤ 14400 := by
  by_cases q1 : t.1 = 114
  · obtain ⟨y, z, hy, hz, e⟩ := ht.2.1 q1
    rw [dep_r q1 hy hz e]
    split
    · cases fnd cs 0 y z <;> simp
    · simp
  · by_cases qb : isB t.1
    · obtain ⟨y, z, y2, z2, hy, hz, hy2, hz2, e⟩ := ht.2.2 qb
      rw [dep_b qb hy hz hy2 hz2 e]
      split
      · next hs =>
        obtain ⟨s1, s2⟩ := Bool.and_eq_true .. ▸ hs
        obtain ⟨p, q, e1, e2⟩ := shB_t s1
        obtain ⟨p2, q2, e3, e4⟩ := shB_t s2
        rw [e1, e2, e3, e4]
        have b1 := pos_lt e1
        have b2 := pos_lt e2
        have b3 := pos_lt e3
        have b4 := pos_lt e4
        exact rgn_len (show p < 120 by omega) (show q < 120 by omega) (show p2 < 120 by omega) (show q2 < 120 by omega)
      · simp
    · rw [dep_0 q1 qb]
      simp
theorem bvl_B (hB : ∀ i, VB (f i)) (l : List Nat) : ∀ v ∈ bvl K f l, VB v := by
  intro v hv
  unfold bvl at hv
  obtain ⟨i, -, e⟩ := List.mem_map.mp hv
  rw [← e]
  exact hB i
theorem bvl_len (l : List Nat) : (bvl K f l).length ≤ l.length := by
  unfold bvl
  rw [List.length_map]
  exact List.length_filter_le _ _
theorem VB_0 : VB 0 := ⟨by decide, by decide⟩
theorem VB_2 : VB 1000000002 := ⟨by decide, by decide⟩
theorem tkv_B (hB : ∀ i, VB (f i)) (ht : tkO t) (hg : tkG t) (hr : Lr.length ≤ 120) (hc : Lc.length ≤ 120) : VB (tkv cs Lr Lc K f t) := by
  have hl := dep_len (cs := cs) ht hr hc
  unfold tkv
  split
  · next h1 =>
    have h2 : t.1 = 97 ∧ -1000000000 ≤ t.2.toInt ∧ t.2.toInt ≤ 1000000000 := by
      rcases hg with q | q | q | q | q
      · exact q
      · omega
      · unfold isB at q; omega
      · omega
      · omega
    unfold VB
    rw [Int32.toInt_toInt64]
    omega
  · split
    · split
      · cases fnd cs 0 (t.2.toNatClampNeg % 128) (t.2.toNatClampNeg / 128) with
        | none => exact VB_0
        | some i => exact hB i
      · exact VB_2
    · split
      · exact bfin_B _ (bvl_B hB _) (by have := bvl_len (K := K) (f := f) (dep cs Lr Lc t); omega)
      · exact VB_2
theorem ngv_B (h : VB v) : VB (ngv v) := by
  unfold ngv
  by_cases q : isE v = true
  · rw [if_pos q]; exact h
  · rw [if_neg q]
    have q2 := isE_n.mp (isE_f q)
    unfold VB at h ⊢
    rw [j_neg (by omega) (by omega)]
    omega
theorem ev1_B {gg : (Nat × Int32) → Int64} {st : List Int64} (hs : ∀ v ∈ st, VB v) (hg : ¬ t.1 = 126 → ¬ isO t.1 → VB (gg t)) : ∀ v ∈ ev1 gg st t, VB v := by
  unfold ev1
  split
  · cases st with
    | nil => intro v hv; cases hv
    | cons a r =>
      intro v hv
      rcases List.mem_cons.mp hv with e | e
      · rw [e]; exact ngv_B (hs a List.mem_cons_self)
      · exact hs v (List.mem_cons_of_mem _ e)
  · next h1 =>
    split
    · cases st with
      | nil => intro v hv; cases hv
      | cons b r =>
        cases r with
        | nil => exact hs
        | cons a r =>
          intro v hv
          rcases List.mem_cons.mp hv with e | e
          · rw [e]; exact tw2_B (hs a (List.mem_cons_of_mem _ List.mem_cons_self)) (hs b List.mem_cons_self)
          · exact hs v (List.mem_cons_of_mem _ (List.mem_cons_of_mem _ e))
    · next h2 =>
      intro v hv
      rcases List.mem_cons.mp hv with e | e
      · rw [e]; exact hg h1 h2
      · exact hs v e
theorem evs_B {gg : (Nat × Int32) → Int64} : ∀ (ts : List (Nat × Int32)) (st : List Int64), (∀ v ∈ st, VB v) → (∀ t ∈ ts, ¬ t.1 = 126 → ¬ isO t.1 → VB (gg t)) → ∀ v ∈ evs gg ts st, VB v
  | [], st, hs, _ => hs
  | t :: ts, st, hs, hg => evs_B ts _ (ev1_B hs (hg t List.mem_cons_self)) (fun x hx => hg x (List.mem_cons_of_mem _ hx))
theorem headD_B {st : List Int64} (hs : ∀ v ∈ st, VB v) : VB (st.headD 0) := by
  cases st with
  | nil => exact VB_0
  | cons v r => exact hs v List.mem_cons_self
theorem evV_B (hB : ∀ i, VB (f i)) (ht : ∀ t ∈ ts, tkO t ∧ tkG t) (hr : Lr.length ≤ 120) (hc : Lc.length ≤ 120) : VB (evV cs Lr Lc K f ts) := headD_B (evs_B ts [] (fun v hv => by cases hv) (fun t h _ _ => tkv_B hB (ht t h).1 (ht t h).2 hr hc))
/-- only what is read counts -/
theorem bvl_cg : ∀ l : List Nat, (∀ i ∈ l, f i = g i) → bvl K f l = bvl K g l := by
  intro l h
  unfold bvl
  exact List.map_congr_left (fun i hi => h i (List.mem_filter.mp hi).1)
theorem tkv_cg (ht : tkO t) (h : ∀ i ∈ dep cs Lr Lc t, f i = g i) : tkv cs Lr Lc K f t = tkv cs Lr Lc K g t := by
  by_cases q1 : t.1 = 114
  · obtain ⟨y, z, hy, hz, e⟩ := ht.2.1 q1
    rw [dep_r q1 hy hz e] at h
    rw [tkv_r q1 hy hz e, tkv_r q1 hy hz e]
    split
    · next hs =>
      rw [if_pos hs] at h
      cases hf : fnd cs 0 y z with
      | none => rfl
      | some i =>
        rw [hf] at h
        exact h i List.mem_cons_self
    · rfl
  · unfold tkv
    rw [bvl_cg _ h, if_neg q1, if_neg q1]
theorem evs_cg {gg hh : (Nat × Int32) → Int64} : ∀ (ts : List (Nat × Int32)) (st : List Int64), (∀ t ∈ ts, gg t = hh t) → evs gg ts st = evs hh ts st
  | [], st, _ => rfl
  | t :: ts, st, h => by
    show evs gg ts (ev1 gg st t) = evs hh ts (ev1 hh st t)
    have e : ev1 gg st t = ev1 hh st t := by unfold ev1; rw [h t List.mem_cons_self]
    rw [e, evs_cg ts _ (fun x hx => h x (List.mem_cons_of_mem _ hx))]
theorem dpa_mem : ∀ (ts : List (Nat × Int32)), t ∈ ts → i ∈ dep cs Lr Lc t → i ∈ dpa cs Lr Lc ts
  | [], h, _ => by cases h
  | a :: ts, h, hi => by
    rw [dpa]
    rcases List.mem_cons.mp h with e | e
    · rw [← e]; exact List.mem_append_left _ hi
    · exact List.mem_append_right _ (dpa_mem ts e hi)
theorem evV_cg (ht : ∀ t ∈ ts, tkO t) (h : ∀ i ∈ dpa cs Lr Lc ts, f i = g i) : evV cs Lr Lc K f ts = evV cs Lr Lc K g ts := by
  unfold evV
  rw [evs_cg ts [] (fun t htm => tkv_cg (ht t htm) (fun i hi => h i (dpa_mem ts htm hi)))]
theorem fnd_b (e : fnd cs 0 y z = some i) : i < cs.length := by
  have := fnd_lt cs 0 y z i e
  omega
theorem rgc_lt : ∀ n x4 x5, ∀ i ∈ rgc cs Lr Lc x4 n x5, i < cs.length
  | 0, _, _, i, h => by cases h
  | n + 1, x4, x5, i, h => by
    rw [rgc] at h
    rcases List.mem_append.mp h with e | e
    · exact fnd_b (Option.mem_toList.mp e)
    · exact rgc_lt n x4 (x5 + 1) i e
theorem rgr_lt : ∀ c0 nc n x4, ∀ i ∈ rgr cs Lr Lc c0 nc n x4, i < cs.length
  | _, _, 0, _, i, h => by cases h
  | c0, nc, n + 1, x4, i, h => by
    rw [rgr] at h
    rcases List.mem_append.mp h with e | e
    · exact rgc_lt _ _ _ i e
    · exact rgr_lt c0 nc n (x4 + 1) i e
theorem dep_lt (h : i ∈ dep cs Lr Lc t) : i < cs.length := by
  unfold dep at h
  split at h
  · split at h
    · exact fnd_b (Option.mem_toList.mp h)
    · cases h
  · split at h
    · split at h
      · exact rgr_lt _ _ _ _ i h
      · cases h
    · cases h
theorem dpa_lt : ∀ (ts : List (Nat × Int32)), i ∈ dpa cs Lr Lc ts → i < cs.length
  | [], h => by cases h
  | t :: ts, h => by
    rw [dpa] at h
    rcases List.mem_append.mp h with e | e
    · exact dep_lt e
    · exact dpa_lt ts e
/-! frames -/
theorem SW_2 (e : S'.2.1 = S.2.1) (w : SW o Lr Lc S) : SW o Lr Lc S' := by
  obtain ⟨w1, w2, w3, w4⟩ := w
  refine ⟨w1, ?_, ?_, w4⟩
  · unfold SH at w2 ⊢; rw [e]; exact w2
  · unfold SH at w3 ⊢; rw [e]; exact w3
theorem CS_2 (e1 : S'.1 = S.1) (e : S'.2.1 = S.2.1) (C : CS D F cs S) : CS D F cs S' := by
  unfold CS at C ⊢
  rw [e1, e]
  exact C
theorem TKS_2 (e : S'.2.1 = S.2.1) (T : TKS c ts S) : TKS c ts S' := by
  unfold TKS at T ⊢
  rw [e]
  exact T
theorem CK_2 (e : S'.2.1 = S.2.1) (Q : CK K n S) : CK K n S' := by
  intro i hi
  obtain ⟨a, h1, h2, h3⟩ := Q i hi
  refine ⟨a, h1, by rw [e]; exact h2, ?_⟩
  rw [e]
  rcases h3 with h3 | ⟨c, fm, ts, g1, g2, g3, g4⟩
  · exact Or.inl h3
  · exact Or.inr ⟨c, fm, ts, g1, g2, TKS_2 e g3, g4⟩
theorem Skj_refl : Skj S S := ⟨rfl, rfl, fun _ _ _ => rfl⟩
theorem Skj_tr (h1 : Skj S S') (h2 : Skj S' S2) : Skj S S2 := ⟨h2.1.trans h1.1, h2.2.1.trans h1.2.1, fun a j n => (h2.2.2 a j n).trans (h1.2.2 a j n)⟩
theorem Skj_J : Skj S (rs_setJ S 38 j v) := ⟨rfl, rfl, fun b x n => if_neg (fun e => n e.1)⟩
theorem STK_set : ∀ (st : List Int64) (j : Nat), st.length ≤ j → STK st S → STK st (rs_setJ S 38 j v)
  | [], _, _, _ => trivial
  | a :: r, j, h, hs => by
    rw [List.length_cons] at h
    refine ⟨?_, STK_set r j (by omega) hs.2⟩
    rw [← hs.1]
    exact if_neg (fun e => by have := e.2; omega)
theorem wrJ {k n : Nat} (hk : rs_len k = n) (hi : i < n) (hn : n < 2 ^ 31) : wr_J S k (Int32.ofNat i) v = some (rs_setJ S k i v) := by
  unfold wr_J
  rw [hk, la_ix_of hi hn]
  rfl
theorem i32_pm (n : Nat) : Int32.ofNat (n + 1) + (-1 : Int32) = Int32.ofNat n := by
  rw [show Int32.ofNat (n + 1) = Int32.ofNat n + 1 from (i32_add n 1).symm, Int32.add_assoc, show (1 : Int32) + (-1) = 0 by decide, Int32.add_zero]
theorem q293l (T0 : TKS c ts S) (hg : ∀ t ∈ ts, tkG t) (hB : ∀ i, VB (f i)) : ∀ k m j st S, j + k = ts.length → k < m → SW o Lr Lc S → CS D F cs S → CK K cs.length S → TKS c ts S → (∀ i ∈ dpa cs Lr Lc (ts.drop j), S.2.2 37 i = cv (f i)) → (∀ v ∈ st, VB v) → st.length + k ≤ 20 → STK st S → dpt (ts.drop j) st.length = some 1 → ∃ S', r293_8 m (Int32.ofNat o) (Int32.ofNat c) (Int32.ofNat st.length) (Int32.ofNat (20 * c + j)) S = some (cv ((evs (tkv cs Lr Lc K f) (ts.drop j) st).headD 0), S') ∧ Skj S S' := by
  obtain ⟨hc, hl, -, -⟩ := T0
  have i1 : (20 : Int32) * Int32.ofNat c + Int32.ofNat ts.length = Int32.ofNat (20 * c + ts.length) := by
    rw [show (20 : Int32) * Int32.ofNat c = Int32.ofNat (20 * c) from i32_ml 20 c, i32_add]
  intro k
  induction k with
  | zero =>
    intro m j st S h1 h2 w C Q T hv hst hsl hS hd
    cases m with
    | zero => omega
    | succ m =>
      have e13 := T.2.2.1
      rw [List.drop_of_length_le (by omega)] at hd ⊢
      have hd' : st.length = 1 := by injection hd
      cases st with
      | nil => cases hd'
      | cons v r =>
        have hr : r.length = 0 := by rw [List.length_cons] at hd'; omega
        have hS0 := hS.1
        rw [hr] at hS0
        refine ⟨S, ?_, Skj_refl⟩
        rw [r293_8]
        dsimp only
        rw [rdI (n := 120) (by decide) hc (by omega), Option.bind_some, e13, i1, if_pos ((i32_len (by omega) (by omega)).mpr (by omega)), show (0 : Int32) = Int32.ofNat 0 from rfl, rdJ (n := 24) (by decide) (by omega) (by omega), Option.bind_some, hS0]
        rfl
  | succ k ih =>
    intro m j st S h1 h2 w C Q T hv hst hsl hS hd
    cases m with
    | zero => omega
    | succ m =>
      have hj : j < ts.length := by omega
      have T' := T
      obtain ⟨-, -, e13, tk⟩ := T'
      obtain ⟨b1, b2, b3⟩ := tk j hj
      have n4 : Int32.ofNat (20 * c + j) + (1 : Int32) = Int32.ofNat (20 * c + (j + 1)) := i32_add _ 1
      have n3 : Int32.ofNat st.length + (1 : Int32) = Int32.ofNat (st.length + 1) := i32_add _ 1
      rw [td_drop hj] at hv hd ⊢
      obtain ⟨t, ht⟩ : ∃ t, t = ts.getD j (0, 0) := ⟨_, rfl⟩
      have htm : t ∈ ts := by
        rw [ht, List.getD_eq_getElem?_getD, List.getElem?_eq_getElem hj]
        exact List.getElem_mem hj
      have hgt := hg t htm
      rw [← ht] at b1 b2 b3 hv hd ⊢
      rw [dpa] at hv
      have hv1 := fun i hi => hv i (List.mem_append_left _ hi)
      have hv2 := fun i hi => hv i (List.mem_append_right _ hi)
      have r14 : rd_I S 14 (Int32.ofNat (20 * c + j)) = some (Int32.ofNat t.1) := by rw [rdI (n := 2400) (by decide) (by omega) (by omega), b1]
      have r15 : rd_I S 15 (Int32.ofNat (20 * c + j)) = some t.2 := by rw [rdI (n := 2400) (by decide) (by omega) (by omega), b2]
      have t200 := b3.1
      have ne : ∀ a : Nat, a < 200 → t.1 ≠ a → ¬ Int32.ofNat t.1 = Int32.ofNat a := fun a ha hn e => hn (i32_inj (by omega) (by omega) e)
      -- a value is laid on the stack
      have push : ∀ v, VB v → v = tkv cs Lr Lc K f t → ¬ t.1 = 126 → ¬ isO t.1 → ∃ S', r293_261 (r293_8 m) (Int32.ofNat o) (Int32.ofNat c) (Int32.ofNat st.length + 1) (Int32.ofNat (20 * c + j)) (rs_setJ S 38 st.length (cv v)) = some (cv ((evs (tkv cs Lr Lc K f) (t :: ts.drop (j + 1)) st).headD 0), S') ∧ Skj S S' := by
        intro v hvb hve h126 hop
        have sk : Skj S (rs_setJ S 38 st.length (cv v)) := Skj_J
        rw [dpt, if_neg h126, if_neg hop] at hd
        obtain ⟨S', p1, p2⟩ := ih m (j + 1) (v :: st) (rs_setJ S 38 st.length (cv v)) (by omega) (by omega) (SW_2 rfl w) (CS_2 rfl rfl C) (CK_2 rfl Q) (TKS_2 rfl T) (fun i hi => by rw [sk.2.2 37 i (by omega)]; exact hv2 i hi) (fun x hx => by
          rcases List.mem_cons.mp hx with e | e
          · rw [e]; exact hvb
          · exact hst x e) (by rw [List.length_cons]; omega) ⟨if_pos ⟨rfl, rfl⟩, STK_set st _ (Nat.le_refl _) hS⟩ hd
        refine ⟨S', ?_, Skj_tr sk p2⟩
        unfold r293_261
        rw [n3, n4]
        have he : ev1 (tkv cs Lr Lc K f) st t = v :: st := by unfold ev1; rw [if_neg h126, if_neg hop, hve]
        show _ = some (cv ((evs (tkv cs Lr Lc K f) (ts.drop (j + 1)) (ev1 (tkv cs Lr Lc K f) st t)).headD 0), S')
        rw [he]
        exact p1
      have wj : ∀ v, wr_J S 38 (Int32.ofNat st.length) v = some (rs_setJ S 38 st.length v) := fun v => wrJ (n := 24) (by decide) (by omega) (by omega)
      have vb := tkv_B (cs := cs) (K := K) hB b3 hgt w.2.2.2.1 w.2.2.2.2.1
      rw [r293_8]
      dsimp only
      rw [rdI (n := 120) (by decide) hc (by omega), Option.bind_some, e13, i1, if_neg (fun e => by have := (i32_len (by omega) (by omega)).mp e; omega), r14, Option.bind_some]
      by_cases q97 : t.1 = 97
      · have ev : tkv cs Lr Lc K f t = t.2.toInt64 := by unfold tkv; rw [if_pos q97]
        have b97 := ev ▸ vb
        have en : isE t.2.toInt64 = false := isE_n.mpr (by
          rcases hgt with q | q | q | q | q
          · rw [Int32.toInt_toInt64]; omega
          · omega
          · unfold isB at q; omega
          · omega
          · omega)
        rw [if_pos (by rw [q97]; rfl), r15, Option.bind_some, ← cv_n en, wj, Option.bind_some]
        exact push _ b97 ev.symm (by omega) (by omega)
      · rw [if_neg (show ¬ Int32.ofNat t.1 = (97 : Int32) from ne 97 (by omega) q97)]
        by_cases q114 : t.1 = 114
        · obtain ⟨y, z, hy, hz, e2⟩ := b3.2.1 q114
          obtain ⟨m1, m2⟩ := i32_m128 (n := y + 128 * z) (by omega)
          have ev := tkv_r (K := K) (f := f) (cs := cs) (Lr := Lr) (Lc := Lc) q114 hy hz e2
          have hde := dep_r (cs := cs) (Lr := Lr) (Lc := Lc) q114 hy hz e2
          rw [if_pos (by rw [q114]; rfl), r15, Option.bind_some, Option.bind_some, e2, m2, m1, show (y + 128 * z) % 128 = y by omega, show (y + 128 * z) / 128 = z by omega, q283 C hy hz, rb_r, r15, Option.bind_some, e2, q287 w hy hz, rb_r]
          unfold r293_137
          by_cases hs : shB Lr Lc y z = true
          · rw [if_pos hs] at ev hde
            rw [if_pos hs, if_neg (by decide)]
            cases hf : fnd cs 0 y z with
            | none =>
              rw [hf] at ev
              rw [if_neg (by decide), show (0 : Int64) = cv 0 from rfl, wj, Option.bind_some]
              exact push 0 VB_0 ev.symm (by omega) (by omega)
            | some x =>
              rw [hf] at ev hde
              have hx := fnd_lt cs 0 _ _ x hf
              have hc2 := C.2.1
              rw [if_pos (show (0 : Int32) ≤ oi (some x) from (i32_len (a := 0) (b := x) (by omega) (by omega)).mpr (Nat.zero_le _)), show oi (some x) = Int32.ofNat x from rfl, rdJ (n := 120) (by decide) (by omega) (by omega), Option.bind_some, hv1 x (by rw [hde]; exact List.mem_cons_self), wj, Option.bind_some]
              exact push (f x) (hB x) ev.symm (by omega) (by omega)
          · rw [if_neg hs] at ev
            rw [if_neg hs, if_pos rfl, show (4000000002 : Int64) = cv 1000000002 from rfl, wj, Option.bind_some]
            exact push _ VB_2 ev.symm (by omega) (by omega)
        · rw [if_neg (show ¬ Int32.ofNat t.1 = (114 : Int32) from ne 114 (by omega) q114)]
          by_cases qb : isB t.1
          · obtain ⟨y, z, y2, z2, hy, hz, hy2, hz2, e2⟩ := b3.2.2 qb
            have qb' : t.1 = 115 ∨ t.1 = 110 ∨ t.1 = 109 := qb
            have ev := tkv_b (K := K) (f := f) (cs := cs) (Lr := Lr) (Lc := Lc) qb hy hz hy2 hz2 e2
            have hde := dep_b (cs := cs) (Lr := Lr) (Lc := Lc) qb hy hz hy2 hz2 e2
            have g := q294 (S := S) (f := f) w C Q hB qb' hy hz hy2 hz2 (fun hs i hi _ => hv1 i (by rw [hde, if_pos hs]; exact hi))
            have ev2 : tkv cs Lr Lc K f t = if (shB Lr Lc y z && shB Lr Lc y2 z2) = true then bfin t.1 (bfo (bvl K f (rgn cs Lr Lc ((pos Lr y).getD 0) ((pos Lc z).getD 0) ((pos Lr y2).getD 0) ((pos Lc z2).getD 0)))) else 1000000002 := by
              rw [ev, hde]
              split <;> rfl
            rw [(q289 t200).1 qb, rb_r, if_neg (by decide), r15, Option.bind_some, e2, g, rb_r, ← ev2, wj, Option.bind_some]
            exact push _ vb rfl (by omega) (by omega)
          · rw [(q289 t200).2 qb, rb_r, if_pos rfl]
            by_cases q126 : t.1 = 126
            · rw [dpt, if_pos q126] at hd
              cases st with
              | nil => cases hd
              | cons v r =>
                rw [List.length_cons] at hd hsl
                rw [if_neg (by omega)] at hd
                have sk : Skj S (rs_setJ S 38 r.length (cv (ngv v))) := Skj_J
                have hvb := hst v List.mem_cons_self
                have rs1 : Int32.ofNat (v :: r).length - (1 : Int32) = Int32.ofNat r.length := by
                  rw [List.length_cons]
                  exact i32_sub (a := r.length + 1) (b := 1) (by omega)
                obtain ⟨S', p1, p2⟩ := ih m (j + 1) (ngv v :: r) (rs_setJ S 38 r.length (cv (ngv v))) (by omega) (by omega) (SW_2 rfl w) (CS_2 rfl rfl C) (CK_2 rfl Q) (TKS_2 rfl T) (fun i hi => by rw [sk.2.2 37 i (by omega)]; exact hv2 i hi) (fun x hx => by
                  rcases List.mem_cons.mp hx with e | e
                  · rw [e]; exact ngv_B hvb
                  · exact hst x (List.mem_cons_of_mem _ e)) (by rw [List.length_cons]; omega) ⟨if_pos ⟨rfl, rfl⟩, STK_set r _ (Nat.le_refl _) hS.2⟩ hd
                have he : ev1 (tkv cs Lr Lc K f) (v :: r) t = ngv v :: r := by unfold ev1; rw [if_pos q126]
                refine ⟨S', ?_, Skj_tr sk p2⟩
                show _ = some (cv ((evs (tkv cs Lr Lc K f) (ts.drop (j + 1)) (ev1 (tkv cs Lr Lc K f) (v :: r) t)).headD 0), S')
                rw [he, if_pos (by rw [q126]; rfl), rs1, rdJ (n := 24) (by decide) (by omega) (by omega), Option.bind_some, hS.1, Option.bind_some, Option.bind_some]
                unfold r293_227 r293_261
                cases qe : isE v with
                | true =>
                  have e5 : ngv v = v := by unfold ngv; rw [if_pos qe]
                  rw [e5] at p1 ⊢
                  rw [if_neg (fun z => by rw [(c4e hvb).1.mp z] at qe; cases qe), wrJ (n := 24) (by decide) (by omega) (by omega), Option.bind_some, n4]
                  exact p1
                | false =>
                  have e5 : ngv v = -v := by unfold ngv; rw [if_neg (by rw [qe]; decide)]
                  have e6 : cv (-v) = -v := cv_n (isE_n.mpr (by
                    have := isE_n.mp qe
                    rw [j_neg (by have := hvb.1; omega) (by omega)]
                    have := hvb.1
                    omega))
                  rw [e5, e6] at p1
                  rw [e5, if_pos ((c4e hvb).1.mpr qe), cv_n qe, wrJ (n := 24) (by decide) (by omega) (by omega), Option.bind_some, n4]
                  exact p1
            · have hop : isO t.1 := by
                rcases hgt with q | q | q | q | q
                · omega
                · omega
                · exact absurd q qb
                · omega
                · exact q
              rw [dpt, if_neg q126, if_pos hop] at hd
              cases st with
              | nil => rw [if_pos (by show 0 < 2; omega)] at hd; cases hd
              | cons b r0 =>
                cases r0 with
                | nil => rw [if_pos (by show 1 < 2; omega)] at hd; cases hd
                | cons a r =>
                  have hlen : (b :: a :: r).length = r.length + 1 + 1 := rfl
                  rw [hlen] at hd hsl ⊢
                  rw [if_neg (by omega), show r.length + 1 + 1 - 1 = r.length + 1 by omega] at hd
                  have sk : Skj S (rs_setJ S 38 r.length (cv (tw2 t.1 a b))) := Skj_J
                  have hvb := hst b List.mem_cons_self
                  have hva := hst a (List.mem_cons_of_mem _ List.mem_cons_self)
                  have rs0 := i32_pm (r.length + 1)
                  have rs1 : Int32.ofNat (r.length + 1) - (1 : Int32) = Int32.ofNat r.length := i32_sub (a := r.length + 1) (b := 1) (by omega)
                  have hS1 : S.2.2 38 (r.length + 1) = cv b := hS.1
                  have hS2 : S.2.2 38 r.length = cv a := hS.2.1
                  obtain ⟨S', p1, p2⟩ := ih m (j + 1) (tw2 t.1 a b :: r) (rs_setJ S 38 r.length (cv (tw2 t.1 a b))) (by omega) (by omega) (SW_2 rfl w) (CS_2 rfl rfl C) (CK_2 rfl Q) (TKS_2 rfl T) (fun i hi => by rw [sk.2.2 37 i (by omega)]; exact hv2 i hi) (fun x hx => by
                    rcases List.mem_cons.mp hx with e | e
                    · rw [e]; exact tw2_B hva hvb
                    · exact hst x (List.mem_cons_of_mem _ (List.mem_cons_of_mem _ e))) (by rw [List.length_cons]; omega) ⟨if_pos ⟨rfl, rfl⟩, STK_set r _ (Nat.le_refl _) hS.2.2⟩ hd
                  have he : ev1 (tkv cs Lr Lc K f) (b :: a :: r) t = tw2 t.1 a b :: r := by unfold ev1; rw [if_neg q126, if_pos hop]
                  refine ⟨S', ?_, Skj_tr sk p2⟩
                  show _ = some (cv ((evs (tkv cs Lr Lc K f) (ts.drop (j + 1)) (ev1 (tkv cs Lr Lc K f) (b :: a :: r) t)).headD 0), S')
                  rw [he, if_neg (show ¬ Int32.ofNat t.1 = (126 : Int32) from ne 126 (by omega) q126), rs0, rs1, rdJ (n := 24) (by decide) (by omega) (by omega), Option.bind_some, rdJ (n := 24) (by decide) (by omega) (by omega), Option.bind_some, hS1, hS2, q296 hva hvb hop, rb_r, wrJ (n := 24) (by decide) (by omega) (by omega), Option.bind_some]
                  unfold r293_261
                  rw [n4]
                  exact p1
theorem q293 (w : SW o Lr Lc S) (C : CS D F cs S) (Q : CK K cs.length S) (T : TKS c ts S) (hg : ∀ t ∈ ts, tkG t) (hB : ∀ i, VB (f i)) (hv : ∀ i ∈ dpa cs Lr Lc ts, S.2.2 37 i = cv (f i)) (hd : dpt ts 0 = some 1) : ∃ S', rf_293 (Int32.ofNat o) (Int32.ofNat c) S = some (cv (evV cs Lr Lc K f ts), S') ∧ Skj S S' := by
  obtain ⟨S', p1, p2⟩ := q293l (o := o) (K := K) (F := F) (D := D) T hg hB ts.length lf_N 0 [] S (by omega) (by have := T.2.1; unfold lf_N; omega) w C Q T (by rw [List.drop_zero]; exact hv) (fun v h => by cases h) (by have := T.2.1; show 0 + _ ≤ 20; omega) trivial (by rw [List.drop_zero]; exact hd)
  refine ⟨S', ?_, p2⟩
  unfold rf_293
  rw [show (20 : Int32) * Int32.ofNat c = Int32.ofNat (20 * c) from i32_ml 20 c]
  rw [List.drop_zero] at p1
  exact p1
end VAL
