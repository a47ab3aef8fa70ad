/-! THE VALUES of all cells; the reference works them out -/
def tv (cs : List (Nat × Nat)) (Lr Lc : List Nat) (K : kc) : Nat → Nat → Int64
  | 0, _ => 0
  | k + 1, i => match K i with
    | none => 0
    | some p => evV cs Lr Lc K (tv cs Lr Lc K k) p.2
/-- contents as they are made -/
def KOK (cs : List (Nat × Nat)) (Lr Lc : List Nat) (K : kc) : Prop := ∀ i fm ts, K i = some (fm, ts) → (∀ t ∈ ts, tkO t ∧ tkG t) ∧ dpt ts 0 = some 1 ∧ (fm = false → dpa cs Lr Lc ts = [])
def WV (cs : List (Nat × Nat)) (Lr Lc : List Nat) (K : kc) (n i : Nat) : Int64 := if gdK cs Lr Lc K n i = true then tv cs Lr Lc K (n + 1) i else 1000000003
def Sw (S S' : rs_S) : Prop := S'.1 = S.1 ∧ S'.2.1 = S.2.1 ∧ ∀ a j, a ≠ 37 → a ≠ 38 → S'.2.2 a j = S.2.2 a j
section WRK
variable {D : aD} {S S' S2 : rs_S} {F : fo} {o i j l k c n : Nat} {cs : List (Nat × Nat)} {Lr Lc : List Nat} {K : kc} {fm : Bool} {ts : List (Nat × Int32)} {lev : Nat → Nat}
theorem tv_B (hK : KOK cs Lr Lc K) (hr : Lr.length ≤ 120) (hc : Lc.length ≤ 120) : ∀ k i, VB (tv cs Lr Lc K k i)
  | 0, _ => VB_0
  | k + 1, i => by
    rw [tv]
    split
    · exact VB_0
    · next p e => exact evV_B (tv_B hK hr hc k) (hK i p.1 p.2 e).1 hr hc
theorem tv_nf (hK : KOK cs Lr Lc K) (hf : fmB K i = false) : ∀ m m', tv cs Lr Lc K (m + 1) i = tv cs Lr Lc K (m' + 1) i := by
  intro m m'
  rw [tv, tv]
  cases e : K i with
  | none => rfl
  | some p =>
    obtain ⟨fm, ts⟩ := p
    have h := hK i fm ts e
    have h0 : fm = false := by
      unfold fmB at hf
      rw [e] at hf
      cases fm with
      | false => rfl
      | true => cases hf
    dsimp only
    exact evV_cg (fun t ht => (h.1 t ht).1) (fun x hx => by rw [h.2.2 h0] at hx; cases hx)
theorem fmB_t (hf : fmB K i = true) : ∃ ts, K i = some (true, ts) ∧ dpi cs Lr Lc K i = dpa cs Lr Lc ts := by
  unfold fmB at hf
  unfold dpi
  split at hf
  · next ts e => exact ⟨ts, e, by rw [e]⟩
  · cases hf
theorem tv_st (hK : KOK cs Lr Lc K) : ∀ k i, gdK cs Lr Lc K k i = true → ∀ m, k ≤ m → tv cs Lr Lc K (m + 1) i = tv cs Lr Lc K (k + 1) i := by
  intro k
  induction k with
  | zero =>
    intro i g m _
    have h' : (!fmB K i) = true := g
    exact tv_nf hK (by simpa using h') m 0
  | succ k ih =>
    intro i g m hm
    cases hf : fmB K i with
    | false => exact tv_nf hK hf m (k + 1)
    | true =>
      obtain ⟨k', e1, e2⟩ := gd_fm hf g
      have e3 : k' = k := by omega
      subst e3
      obtain ⟨ts, e4, e5⟩ := fmB_t (cs := cs) (Lr := Lr) (Lc := Lc) hf
      rw [e5] at e2
      have h := hK i true ts e4
      obtain ⟨m1, rfl⟩ : ∃ m1, m = m1 + 1 := ⟨m - 1, by omega⟩
      rw [tv, tv, e4]
      dsimp only
      exact evV_cg (fun t ht => (h.1 t ht).1) (fun x hx => ih x (e2 x hx) m1 (by omega))
theorem tv_eq (hK : KOK cs Lr Lc K) (g : gdK cs Lr Lc K n i = true) (e : K i = some (fm, ts)) : tv cs Lr Lc K (n + 1) i = evV cs Lr Lc K (tv cs Lr Lc K (n + 1)) ts := by
  have h := tv_st hK n i g (n + 1) (by omega)
  rw [← h, tv, e]
theorem tv_no (e : K i = none) : tv cs Lr Lc K k i = 0 := by
  cases k with
  | zero => rfl
  | succ k => rw [tv, e]
theorem dpi_lt : ∀ i, ∀ x ∈ dpi cs Lr Lc K i, x < cs.length := by
  intro i x hx
  unfold dpi at hx
  split at hx
  · exact dpa_lt _ hx
  · cases hx
theorem Sw_refl : Sw S S := ⟨rfl, rfl, fun _ _ _ _ => rfl⟩
theorem Sw_tr (h1 : Sw S S') (h2 : Sw S' S2) : Sw S S2 := ⟨h2.1.trans h1.1, h2.2.1.trans h1.2.1, fun a j n n2 => (h2.2.2 a j n n2).trans (h1.2.2 a j n n2)⟩
theorem Sw_k (h : Skj S S') : Sw S S' := ⟨h.1, h.2.1, fun a j _ n => h.2.2 a j n⟩
theorem Sw_37 {v : Int64} : Sw S (rs_setJ S 37 j v) := ⟨rfl, rfl, fun a x n _ => if_neg (fun e => n e.1)⟩
theorem LV_2 {m : Nat} (e : S'.2.1 = S.2.1) (V : LV m lev S) : LV m lev S' := by
  unfold LV at V ⊢
  rw [e]
  exact V
/-- the levels, and what is worked out so far -/
def HL (cs : List (Nat × Nat)) (Lr Lc : List Nat) (K : kc) (lev : Nat → Nat) : Prop := (∀ c, c < cs.length → gdK cs Lr Lc K cs.length c = true → lev c ≤ cs.length ∧ (fmB K c = true → lev c = mxl lev 0 (dpi cs Lr Lc K c) + 1) ∧ (fmB K c = false → lev c = 0)) ∧ ∀ c, c < cs.length → gdK cs Lr Lc K cs.length c = false → cs.length < lev c
def VI (cs : List (Nat × Nat)) (Lr Lc : List Nat) (K : kc) (lev : Nat → Nat) (l c : Nat) (S : rs_S) : Prop := ∀ i, i < cs.length → gdK cs Lr Lc K cs.length i = true → (lev i < l ∨ (lev i = l ∧ i < c) ∨ (K i).isSome = false) → S.2.2 37 i = cv (tv cs Lr Lc K (cs.length + 1) i)
def WI (o : Nat) (D : aD) (F : fo) (cs : List (Nat × Nat)) (Lr Lc : List Nat) (K : kc) (lev : Nat → Nat) (S : rs_S) : Prop := SW o Lr Lc S ∧ CS D F cs S ∧ CK K cs.length S ∧ LV cs.length lev S
theorem WI_2 (e1 : S'.1 = S.1) (e : S'.2.1 = S.2.1) (w : WI o D F cs Lr Lc K lev S) : WI o D F cs Lr Lc K lev S' := ⟨SW_2 e w.1, CS_2 e1 e w.2.1, CK_2 e w.2.2.1, LV_2 e w.2.2.2⟩
theorem q281c (hK : KOK cs Lr Lc K) (H : HL cs Lr Lc K lev) (J : Int32 → Int32 → rs_S → Option (Unit × rs_S)) (hl : l ≤ cs.length) : ∀ k m c S, c + k = cs.length → k < m → WI o D F cs Lr Lc K lev S → VI cs Lr Lc K lev l c S → ∃ S', r281_36 J m (Int32.ofNat o) (Int32.ofNat l) (Int32.ofNat c) S = J (Int32.ofNat o) (Int32.ofNat (l + 1)) S' ∧ Sw S S' ∧ VI cs Lr Lc K lev (l + 1) 0 S' := by
  have nl : Int32.ofNat l + (1 : Int32) = Int32.ofNat (l + 1) := i32_add l 1
  intro k
  induction k with
  | zero =>
    intro m c S h1 h2 w V
    have hc1 := w.2.1.1
    have hc2 := w.2.1.2.1
    cases m with
    | zero => omega
    | succ m =>
      refine ⟨S, ?_, Sw_refl, ?_⟩
      · rw [r281_36]
        dsimp only
        rw [hc1, if_pos ((i32_len (by omega) (by omega)).mpr (by omega)), nl]
      · intro i hi g hh
        refine V i hi g ?_
        rcases hh with e | e | e
        · omega
        · omega
        · exact Or.inr (Or.inr e)
  | succ k ih =>
    intro m c S h1 h2 w V
    have hc1 := w.2.1.1
    have hc2 := w.2.1.2.1
    have n4 : Int32.ofNat c + (1 : Int32) = Int32.ofNat (c + 1) := i32_add c 1
    cases m with
    | zero => omega
    | succ m =>
      have hci : c < cs.length := by omega
      have hv := w.2.2.2 c hci
      have skip : (lev c ≠ l ∨ (K c).isSome = false) → ∃ S', r281_36 J m (Int32.ofNat o) (Int32.ofNat l) (Int32.ofNat c + 1) S = J (Int32.ofNat o) (Int32.ofNat (l + 1)) S' ∧ Sw S S' ∧ VI cs Lr Lc K lev (l + 1) 0 S' := by
        intro hh
        rw [n4]
        refine ih m (c + 1) S (by omega) (by omega) w (fun i hi g h3 => V i hi g ?_)
        rcases h3 with e | e | e
        · exact Or.inl e
        · by_cases q : i = c
          · subst q
            rcases hh with h4 | h4
            · exact absurd e.1 h4
            · exact Or.inr (Or.inr h4)
          · exact Or.inr (Or.inl ⟨e.1, by omega⟩)
        · exact Or.inr (Or.inr e)
      rw [r281_36]
      dsimp only
      rw [hc1, if_neg (fun e => by have := (i32_len (by omega) (by omega)).mp e; omega), rdI (n := 120) (by decide) (by omega) (by omega), Option.bind_some, hv.1]
      by_cases el : lev c = l
      · rw [if_pos (by rw [el])]
        rcases q285 w.2.2.1 hci hc2 with ⟨k1, k2⟩ | ⟨d, fm, ts, k1, k2, k3, k4⟩
        · rw [k2, rb_r, if_pos (by decide)]
          unfold r281_78
          exact skip (Or.inr k1)
        · have hd := k3.1
          have hk := hK c fm ts k1
          have g : gdK cs Lr Lc K cs.length c = true := by
            cases q : gdK cs Lr Lc K cs.length c with
            | true => rfl
            | false => have := H.2 c hci q; omega
          have hdv : ∀ i ∈ dpa cs Lr Lc ts, S.2.2 37 i = cv (tv cs Lr Lc K (cs.length + 1) i) := by
            intro i hi
            cases fm with
            | false => rw [hk.2.2 rfl] at hi; cases hi
            | true =>
              have hf : fmB K c = true := by unfold fmB; rw [k1]
              have ed : dpi cs Lr Lc K c = dpa cs Lr Lc ts := by unfold dpi; rw [k1]
              have h5 := (H.1 c hci g).2.1 hf
              rw [ed] at h5
              have h6 := mxl_mem (lev := lev) (dpa cs Lr Lc ts) 0 hi
              obtain ⟨k', e1, e2⟩ := gd_fm hf g
              exact V i (dpa_lt ts hi) (gd_m (by omega) (e2 i (by rw [ed]; exact hi))) (Or.inl (by omega))
          obtain ⟨S9, p1, p2⟩ := q293 (D := D) (F := F) w.1 w.2.1 w.2.2.1 k3 (fun t ht => (hk.1 t ht).2) (tv_B hK w.1.2.2.2.1 w.1.2.2.2.2.1 _) hdv hk.2.1
          rw [← tv_eq hK g k1] at p1
          have sw9 : Sw S (rs_setJ S9 37 c (cv (tv cs Lr Lc K (cs.length + 1) c))) := Sw_tr (Sw_k p2) Sw_37
          obtain ⟨S', u1, u2, u3⟩ := ih m (c + 1) (rs_setJ S9 37 c (cv (tv cs Lr Lc K (cs.length + 1) c))) (by omega) (by omega) (WI_2 sw9.1 sw9.2.1 w) (fun i hi g2 h3 => by
            by_cases q : i = c
            · subst q; exact if_pos ⟨rfl, rfl⟩
            · have e9 : (rs_setJ S9 37 c (cv (tv cs Lr Lc K (cs.length + 1) c))).2.2 37 i = S9.2.2 37 i := if_neg (fun e => q e.2)
              rw [e9, p2.2.2 37 i (by omega)]
              refine V i hi g2 ?_
              rcases h3 with e | e | e
              · exact Or.inl e
              · exact Or.inr (Or.inl ⟨e.1, by omega⟩)
              · exact Or.inr (Or.inr e))
          refine ⟨S', ?_, Sw_tr sw9 u2, u3⟩
          rw [k2, rb_r, if_neg (i32_lt d (by omega)), k2, rb_r, p1, rb_r, wrJ (n := 120) (by decide) (by omega) (by omega), Option.bind_some]
          unfold r281_78
          rw [n4]
          exact u1
      · rw [if_neg (fun e => el (i32_inj (by omega) (by omega) e))]
        unfold r281_78
        exact skip (Or.inl el)
theorem q281z (H : HL cs Lr Lc K lev) : ∀ k m c S, c + k = cs.length → k < m → WI o D F cs Lr Lc K lev S → (∀ i, i < cs.length → (i < c → S.2.2 37 i = cv (WV cs Lr Lc K cs.length i)) ∧ (c ≤ i → gdK cs Lr Lc K cs.length i = true → S.2.2 37 i = cv (tv cs Lr Lc K (cs.length + 1) i))) → ∃ S', r281_92 m (Int32.ofNat c) S = some ((), S') ∧ Sw S S' ∧ ∀ i, i < cs.length → S'.2.2 37 i = cv (WV cs Lr Lc K cs.length i) := by
  intro k
  induction k with
  | zero =>
    intro m c S h1 h2 w V
    have hc1 := w.2.1.1
    have hc2 := w.2.1.2.1
    cases m with
    | zero => omega
    | succ m =>
      refine ⟨S, ?_, Sw_refl, fun i hi => (V i hi).1 (by omega)⟩
      rw [r281_92]
      dsimp only
      rw [hc1, if_pos ((i32_len (by omega) (by omega)).mpr (by omega))]
  | succ k ih =>
    intro m c S h1 h2 w V
    have hc1 := w.2.1.1
    have hc2 := w.2.1.2.1
    have n4 : Int32.ofNat c + (1 : Int32) = Int32.ofNat (c + 1) := i32_add c 1
    cases m with
    | zero => omega
    | succ m =>
      have hci : c < cs.length := by omega
      have hv := w.2.2.2 c hci
      have go : ∀ v, v = cv (WV cs Lr Lc K cs.length c) → ∃ S', r281_130 (r281_92 m) (Int32.ofNat c) v (Int32.ofNat c) S = some ((), S') ∧ Sw S S' ∧ ∀ i, i < cs.length → S'.2.2 37 i = cv (WV cs Lr Lc K cs.length i) := by
        intro v ev
        have sw9 : Sw S (rs_setJ S 37 c v) := Sw_37
        obtain ⟨S', u1, u2, u3⟩ := ih m (c + 1) (rs_setJ S 37 c v) (by omega) (by omega) (WI_2 rfl rfl w) (fun i hi => by
          by_cases q : i = c
          · subst q
            have e9 : (rs_setJ S 37 i v).2.2 37 i = v := if_pos ⟨rfl, rfl⟩
            exact ⟨fun _ => by rw [e9, ev], fun h => absurd h (by omega)⟩
          · have e9 : (rs_setJ S 37 c v).2.2 37 i = S.2.2 37 i := if_neg (fun e => q e.2)
            rw [e9]
            exact ⟨fun h => (V i hi).1 (by omega), fun h => (V i hi).2 (by omega)⟩)
        refine ⟨S', ?_, Sw_tr sw9 u2, u3⟩
        unfold r281_130
        rw [wrJ (n := 120) (by decide) (by omega) (by omega), Option.bind_some, n4]
        exact u1
      rw [r281_92]
      dsimp only
      rw [hc1, if_neg (fun e => by have := (i32_len (by omega) (by omega)).mp e; omega), rdI (n := 120) (by decide) (by omega) (by omega), Option.bind_some, hv.1]
      cases g : gdK cs Lr Lc K cs.length c with
      | true =>
        have h5 := (H.1 c hci g).1
        rw [if_pos ((i32_len (by omega) (by omega)).mpr h5), rdJ (n := 120) (by decide) (by omega) (by omega), Option.bind_some]
        refine go _ ?_
        rw [(V c hci).2 (Nat.le_refl _) g]
        unfold WV
        rw [if_pos g]
      | false =>
        have h5 := H.2 c hci g
        rw [if_neg (fun e => by have := (i32_len (by omega) (by omega)).mp e; omega)]
        refine go _ ?_
        unfold WV
        rw [if_neg (by rw [g]; decide)]
        rfl
theorem q281l (hK : KOK cs Lr Lc K) (H : HL cs Lr Lc K lev) : ∀ k m l S, l + k = cs.length + 1 → k < m → WI o D F cs Lr Lc K lev S → VI cs Lr Lc K lev l 0 S → ∃ S', r281_26 m (Int32.ofNat o) (Int32.ofNat l) S = some ((), S') ∧ Sw S S' ∧ ∀ i, i < cs.length → S'.2.2 37 i = cv (WV cs Lr Lc K cs.length i) := by
  intro k
  induction k with
  | zero =>
    intro m l S h1 h2 w V
    have hc1 := w.2.1.1
    have hc2 := w.2.1.2.1
    cases m with
    | zero => omega
    | succ m =>
      obtain ⟨S', u1, u2, u3⟩ := q281z H cs.length lf_N 0 S (by omega) (by unfold lf_N; omega) w (fun i hi => ⟨fun h => absurd h (Nat.not_lt_zero _), fun _ g => V i hi g (Or.inl (by have := (H.1 i hi g).1; omega))⟩)
      refine ⟨S', ?_, u2, u3⟩
      rw [r281_26]
      dsimp only
      rw [hc1, if_pos ((i32_ltn (by omega) (by omega)).mpr (by omega))]
      exact u1
  | succ k ih =>
    intro m l S h1 h2 w V
    have hc1 := w.2.1.1
    have hc2 := w.2.1.2.1
    cases m with
    | zero => omega
    | succ m =>
      obtain ⟨S1, u1, u2, u3⟩ := q281c hK H (r281_26 m) (show l ≤ cs.length by omega) cs.length lf_N 0 S (by omega) (by unfold lf_N; omega) w V
      obtain ⟨S', p1, p2, p3⟩ := ih m (l + 1) S1 (by omega) (by omega) (WI_2 u2.1 u2.2.1 w) u3
      refine ⟨S', ?_, Sw_tr u2 p2, p3⟩
      rw [r281_26]
      dsimp only
      rw [hc1, if_neg (fun e => by have := (i32_ltn (by omega) (by omega)).mp e; omega)]
      exact u1.trans p1
/-! contents out of the reference's own rows -/
def rowK (S : rs_S) (c : Nat) : Bool × List (Nat × Int32) := (decide (S.2.1 12 c = 1), (List.range (S.2.1 13 c).toNatClampNeg).map (fun j => ((S.2.1 14 (20 * c + j)).toNatClampNeg, S.2.1 15 (20 * c + j))))
def KA (S : rs_S) (a : Nat) : Option (Bool × List (Nat × Int32)) := if S.2.1 10 a = -1 then none else some (rowK S (S.2.1 10 a).toNatClampNeg)
def KF (D : aD) (F : fo) (S : rs_S) (cs : List (Nat × Nat)) (i : Nat) : Option (Bool × List (Nat × Int32)) := if i < cs.length then (wtc D F (cs.getD i (0, 0)).1 (cs.getD i (0, 0)).2).bind (KA S) else none
/-- the content of a made act, as the reference has it -/
def KR (S : rs_S) (a : Nat) : Prop := (S.2.1 10 a = -1) ∨ ∃ c fm ts, S.2.1 10 a = Int32.ofNat c ∧ TKS c ts S ∧ (S.2.1 12 c = if fm = true then 1 else 0) ∧ (∀ t ∈ ts, tkG t) ∧ dpt ts 0 = some 1 ∧ (fm = false → ∃ v, ts = [(97, v)])
theorem rowK_e (T : TKS c ts S) (e : S.2.1 12 c = if fm = true then 1 else 0) : rowK S c = (fm, ts) := by
  obtain ⟨hc, hl, e13, tk⟩ := T
  unfold rowK
  refine Prod.ext ?_ ?_
  · show decide (S.2.1 12 c = 1) = fm
    rw [e]
    cases fm <;> rfl
  · show (List.range (S.2.1 13 c).toNatClampNeg).map _ = ts
    rw [e13, i32_tn (by omega)]
    apply List.ext_getElem?
    intro j
    by_cases hj : j < ts.length
    · obtain ⟨b1, b2, b3⟩ := tk j hj
      rw [List.getElem?_map, List.getElem?_range hj]
      show some ((S.2.1 14 (20 * c + j)).toNatClampNeg, S.2.1 15 (20 * c + j)) = _
      rw [b1, b2, i32_tn (by have := b3.1; omega), List.getD_eq_getElem?_getD, List.getElem?_eq_getElem hj]
      rfl
    · rw [List.getElem?_eq_none (by rw [List.length_map, List.length_range]; omega), List.getElem?_eq_none (by omega)]
theorem KA_e {a : Nat} (h : KR S a) : (S.2.1 10 a = -1 ∧ KA S a = none) ∨ ∃ c fm ts, S.2.1 10 a = Int32.ofNat c ∧ TKS c ts S ∧ (S.2.1 12 c = if fm = true then 1 else 0) ∧ (∀ t ∈ ts, tkG t) ∧ dpt ts 0 = some 1 ∧ (fm = false → ∃ v, ts = [(97, v)]) ∧ KA S a = some (fm, ts) := by
  rcases h with h | ⟨c, fm, ts, h1, h2, h3, h4, h5, h6⟩
  · exact Or.inl ⟨h, by unfold KA; rw [if_pos h]⟩
  · refine Or.inr ⟨c, fm, ts, h1, h2, h3, h4, h5, h6, ?_⟩
    have hc := h2.1
    unfold KA
    rw [if_neg (fun e => by
      rw [h1] at e
      have := congrArg Int32.toInt e
      rw [Int32.toInt_ofNat_of_lt (by omega)] at this
      have e1 : (-1 : Int32).toInt = -1 := rfl
      omega), h1, i32_tn (by omega), rowK_e h2 h3]
theorem KA_2 {a : Nat} (h10 : S'.2.1 10 a = S.2.1 10 a) (hr : ∀ b j, 12 ≤ b → b ≤ 15 → S'.2.1 b j = S.2.1 b j) : KA S' a = KA S a := by
  unfold KA rowK
  rw [h10, hr 12 _ (by omega) (by omega), hr 13 _ (by omega) (by omega)]
  have : (fun j => ((S'.2.1 14 (20 * (S.2.1 10 a).toNatClampNeg + j)).toNatClampNeg, S'.2.1 15 (20 * (S.2.1 10 a).toNatClampNeg + j))) = (fun j => ((S.2.1 14 (20 * (S.2.1 10 a).toNatClampNeg + j)).toNatClampNeg, S.2.1 15 (20 * (S.2.1 10 a).toNatClampNeg + j))) := funext fun j => by rw [hr 14 _ (by omega) (by omega), hr 15 _ (by omega) (by omega)]
  rw [this]
/-! cells that are listed -/
theorem clk_mem : ∀ n j cs p, p ∈ clk D F n j cs → p ∈ cs ∨ ∃ x, j ≤ x ∧ x < j + n ∧ wtk D F x = true ∧ p = (rwo D x, clo D x)
  | 0, _, _, _, h => Or.inl h
  | n + 1, j, cs, p, h => by
    rw [clk] at h
    rcases clk_mem n (j + 1) _ p h with e | ⟨x, e1, e2, e3, e4⟩
    · split at e
      · next hw =>
        rcases List.mem_append.mp e with e | e
        · exact Or.inl e
        · exact Or.inr ⟨j, by omega, by omega, hw.1, by simpa using e⟩
      · exact Or.inl e
    · exact Or.inr ⟨x, by omega, by omega, e3, e4⟩
end WRK
