/-! THE START: the heap that the premises give is the pure machine's -/
section START2
variable {args : Array Value} {s : State}
/-- an object of a class that is known only by its name -/
theorem pt_enumA {a : Nat} {o : Int32} (ha : a < 81) (h : ∀ w ∈ pt_xp a (.inl (18, [.int o])), w.before args s = true) : pm_at (pt_D s) pt_cl (pt_tys (pt_A s)) (pt_mu args s) 81 a (.inl (18, [.int o])) s.heap := by
  have h1 := h _ List.mem_cons_self
  have h2 := va_eqt (h _ (List.mem_cons_of_mem _ List.mem_cons_self))
  obtain ⟨q, c0, cell, kA, q1, q2, q3, q4, q5, q6, -⟩ := Cond.exactly_spec (args := args) (first := s) (o := none) (s := s) (idx := []) h1
  obtain ⟨-, cell2, k1, k2, k3, k4⟩ := pm_fld q1 h2
  cases q3.symm.trans k1
  refine ⟨("OfficeSheet$ActKind", pt_T18, 0), cell, rfl, fun z => absurd ha (by omega), by rw [pt_mu_of ha q1]; exact q3, ?_, k2, q5, fun z => absurd ha (by omega), ?_⟩
  · rw [q6]; exact (pm_ci_of q2).symm
  · intro k v hv
    match k with
    | 0 => cases hv; exact k4
    | k + 1 => cases hv
theorem pt_enumP {a t : Nat} {o : Int32} (ha : a < 81) (ht : t < 81) (hte : ∃ q, (pt_tm t).eval args s none [] s = some (.ref q)) (h : ∀ w ∈ pt_xp a (.inl (19, [.int o, .ref t])), w.before args s = true) : pm_at (pt_D s) pt_cl (pt_tys (pt_A s)) (pt_mu args s) 81 a (.inl (19, [.int o, .ref t])) s.heap := by
  have h1 := h _ List.mem_cons_self
  have h2 := va_eqt (h _ (List.mem_cons_of_mem _ List.mem_cons_self))
  have h3 := h _ (List.mem_cons_of_mem _ (List.mem_cons_of_mem _ List.mem_cons_self))
  obtain ⟨qt, hqt⟩ := hte
  have h4 := pm_eqr (v := .null) h3 hqt
  obtain ⟨q, c0, cell, kA, q1, q2, q3, q4, q5, q6, -⟩ := Cond.exactly_spec (args := args) (first := s) (o := none) (s := s) (idx := []) h1
  obtain ⟨-, cell2, k1, k2, k3, k4⟩ := pm_fld q1 h2
  cases q3.symm.trans k1
  obtain ⟨-, cell3, m1, m2, m3, m4⟩ := pm_fld q1 h4
  cases q3.symm.trans m1
  refine ⟨("OfficeSheet$PartKind", pt_T19, 0), cell, rfl, fun z => absurd ha (by omega), by rw [pt_mu_of ha q1]; exact q3, ?_, k2, q5, fun z => absurd ha (by omega), ?_⟩
  · rw [q6]; exact (pm_ci_of q2).symm
  · intro k v hv
    match k with
    | 0 => cases hv; exact k4
    | 1 =>
      cases hv
      show cell.slots[pm_sl s "OfficeSheet$PartKind" "sign" "Ljava/lang/String;"]? = some (.ref (pt_mu args s t))
      rw [pt_mu_of ht hqt]
      exact m4
    | k + 2 => cases hv
theorem pt_arrK {a t : Nat} {ty : FieldType} {vs : List Value} (ha : a < 81) (hty : pt_tys (pt_A s) t = some (pt_A s t, ty)) (hp : pm_prim ty) (hall : vs.all pt_isI = true) (hlen : vs.length < 1000) (h : ∀ w ∈ pt_ar (pt_tm a) ty vs, w.before args s = true) : pm_at (pt_D s) pt_cl (pt_tys (pt_A s)) (pt_mu args s) 81 a (.inr (t, vs)) s.heap := by
  obtain ⟨q, cell, h1, h2, h3, h4, h5, h6⟩ := pm_arrc hall hlen h
  obtain ⟨-, k, hk, comp, hkind⟩ := h3
  refine Or.inr ⟨_, cell, hty, by rw [pt_mu_of ha h1]; exact h2, Or.inr ⟨ha, hp, k, comp, hk, hkind⟩, h4, h5, ?_⟩
  rw [pm_allI hall]
  exact h6
theorem pt_emptyK {a : Nat} (ha : a < 81) (h : ∀ w ∈ pt_xp a (.inr (13, [])), w.before args s = true) : pm_at (pt_D s) pt_cl (pt_tys (pt_A s)) (pt_mu args s) 81 a (.inr (13, [])) s.heap := by
  have h1 := h _ List.mem_cons_self
  have h2 := h _ (List.mem_cons_of_mem _ List.mem_cons_self)
  have h3 := va_eqt (h _ (List.mem_cons_of_mem _ (List.mem_cons_of_mem _ List.mem_cons_self)))
  obtain ⟨q, cell, ht, hat, hsz⟩ := pm_lenx (N := 0) (by decide) h3
  obtain ⟨hcell, hkn, hst, -⟩ := State.arrayAt?_spec hat
  obtain ⟨q', c0, cell', kA, q1, q2, q3, q4, q5, q6, -⟩ := Cond.exactly_spec (args := args) (first := s) (o := none) (s := s) (idx := []) h2
  cases ht.symm.trans q1
  cases hcell.symm.trans q3
  refine Or.inr ⟨(pt_A s 13, .object "java/lang/Object"), cell, rfl, by rw [pt_mu_of ha ht]; exact hcell, Or.inl ?_, hkn, hst, ?_⟩
  · show cell.cls = pt_A s 13
    rw [q6]
    exact (pm_ci_of (show s.vm.findClass (pt_an 13) = some c0 from q2)).symm
  · exact Array.eq_empty_of_size_eq_zero hsz
theorem pt_KS {i : Nat} (hi : i < 80) : pt_ok1 (i + 1) (pt_K1.getD i (.inr (9, []))) = true ∧ pt_seg (pt_pos.getD i 0) (pt_xp (i + 1) (pt_K1.getD i (.inr (9, [])))) = true := by
  have h := List.all_eq_true.mp pt_kS i (List.mem_range.mpr hi)
  simp only [Bool.and_eq_true] at h
  exact h
theorem pt_K1l : pt_K1.length = 80 := by decide +kernel
/-- the terms of arrays and texts name cells -/
theorem pt_ev4 (hgv : (Jvm.Cond.and given_1 narrow_1).before args s = true) {b : Nat} (hb : 49 ≤ b ∧ b < 77) : ∃ q, (pt_tm b).eval args s none [] s = some (.ref q) := by
  have hk : ∀ i : Fin 28, ∃ vs, pt_K1.getD (48 + i.val) (.inr (9, [])) = .inr (4, vs) := by
    have key : (List.range 28).all (fun i => match pt_K1.getD (48 + i) (.inr (9, [])) with | .inr (4, _) => true | _ => false) = true := by decide +kernel
    intro i
    have h := List.all_eq_true.mp key i.val (List.mem_range.mpr i.isLt)
    split at h
    · next vs hx => exact ⟨vs, hx⟩
    · cases h
  obtain ⟨vs, hvs⟩ := hk ⟨b - 49, by omega⟩
  have e : 48 + (b - 49) = b - 1 := by omega
  simp only [e] at hvs
  obtain ⟨g1, g2⟩ := pt_KS (i := b - 1) (by omega)
  rw [hvs] at g1 g2
  have e2 : b - 1 + 1 = b := by omega
  rw [e2] at g1 g2
  simp only [pt_ok1, Bool.and_eq_true, decide_eq_true_eq] at g1
  obtain ⟨q, cell, h1, -⟩ := pm_arrc (args := args) (s := s) g1.1 g1.2 (fun w hw => pt_lvs hgv g2 hw)
  exact ⟨q, h1⟩
theorem pt_ev13 (hgv : (Jvm.Cond.and given_1 narrow_1).before args s = true) {b : Nat} (hb : 21 ≤ b ∧ b < 49) : ∃ q, (pt_tm b).eval args s none [] s = some (.ref q) := by
  have hk : ∀ i : Fin 28, ∃ x c, pt_K1.getD (20 + i.val) (.inr (9, [])) = .inl (13, [.ref x, .int c]) := by
    have key : (List.range 28).all (fun i => match pt_K1.getD (20 + i) (.inr (9, [])) with | .inl (13, [.ref _, .int _]) => true | _ => false) = true := by decide +kernel
    intro i
    have h := List.all_eq_true.mp key i.val (List.mem_range.mpr i.isLt)
    split at h
    · next x c hx => exact ⟨x, c, hx⟩
    · cases h
  obtain ⟨x, c, hvs⟩ := hk ⟨b - 21, by omega⟩
  have e : 20 + (b - 21) = b - 1 := by omega
  simp only [e] at hvs
  obtain ⟨g1, g2⟩ := pt_KS (i := b - 1) (by omega)
  rw [hvs] at g2
  have e2 : b - 1 + 1 = b := by omega
  rw [e2] at g2
  have h1 := pt_lvs hgv g2 (w := .exactly (pt_tm b) "java/lang/String") List.mem_cons_self
  obtain ⟨q, c0, cell, kA, q1, -⟩ := Cond.exactly_spec (args := args) (first := s) (o := none) (s := s) (idx := []) h1
  exact ⟨q, q1⟩
/-- every constant lies in the heap -/
theorem pt_atK (hgv : (Jvm.Cond.and given_1 narrow_1).before args s = true) {i : Nat} {x : pm_C} (hx : pt_K1[i]? = some x) : pm_at (pt_D s) pt_cl (pt_tys (pt_A s)) (pt_mu args s) 81 (i + 1) x s.heap := by
  have hi : i < 80 := by
    have := (List.getElem?_eq_some_iff.mp hx).1
    rw [pt_K1l] at this
    exact this
  obtain ⟨g1, g2⟩ := pt_KS hi
  have e : pt_K1.getD i (.inr (9, [])) = x := by rw [List.getD_eq_getElem?_getD, hx]; rfl
  rw [e] at g1 g2
  have hl : ∀ w ∈ pt_xp (i + 1) x, w.before args s = true := fun w hw => pt_lvs hgv g2 hw
  have ha : i + 1 < 81 := by omega
  unfold pt_ok1 at g1
  split at g1
  · exact pt_enumA ha hl
  · next o t =>
    have ht := of_decide_eq_true g1
    exact pt_enumP ha (Nat.lt_trans ht.2 (by decide)) (pt_ev13 hgv ht) hl
  · next b c =>
    simp only [Bool.and_eq_true, decide_eq_true_eq] at g1
    exact pt_text ha (Nat.lt_trans g1.1.2 (by decide)) g1.2 (pt_ev4 hgv g1.1) hl
  · simp only [Bool.and_eq_true, decide_eq_true_eq] at g1
    exact pt_arrK ha rfl trivial g1.1 g1.2 hl
  · simp only [Bool.and_eq_true, decide_eq_true_eq] at g1
    exact pt_arrK ha rfl trivial g1.1 g1.2 hl
  · exact pt_emptyK ha hl
  · exact Or.inl ⟨rfl, ha⟩
  · cases g1
theorem pt_at0 {b : Nat} {xs : List Int32} (hargs : args = #[.ref b]) (hx : s.IntsAt b xs) : pm_at (pt_D s) pt_cl (pt_tys (pt_A s)) (pt_mu args s) 81 0 (.inr (0, xs.map Value.int)) s.heap := by
  subst hargs
  obtain ⟨scr, harrAt, hlist, hof, hsmall⟩ := hx
  obtain ⟨hcb, hkn, hst, -⟩ := State.arrayAt?_spec harrAt
  obtain ⟨-, k, hk, comp, hkind⟩ := hof
  refine Or.inr ⟨(pt_A s 0, .int), scr, rfl, ?_, Or.inr ⟨by decide, trivial, k, comp, hk, hkind⟩, hkn, hst, ?_⟩
  · rw [pt_mu_of (a := 0) (by decide) (show (pt_tm 0).eval #[Value.ref b] s none [] s = some (.ref b) from rfl)]
    exact hcb
  · rw [pm_allI (by simp [pt_isI])]
    exact Array.toList_inj.mp (by simpa using hlist)
theorem pt_atA (hgv : (Jvm.Cond.and given_1 narrow_1).before args s = true) {b : Nat} {xs : List Int32} (hargs : args = #[.ref b]) (hx : s.IntsAt b xs) : ∀ (a : Nat) (x : pm_C), (pt_K xs)[a]? = some x → pm_at (pt_D s) pt_cl (pt_tys (pt_A s)) (pt_mu args s) 81 a x s.heap := by
  intro a x h
  cases a with
  | zero => cases h; exact pt_at0 hargs hx
  | succ i => exact pt_atK hgv h
theorem pt_Kl (xs : List Int32) : (pt_K xs).length = 81 := by
  show pt_K1.length + 1 = 81
  rw [pt_K1l]
theorem pt_K9 : ∀ i x, pt_K1[i]? = some x → pm_opq (i + 1) = true → ∃ z, x = .inr (9, z) := by
  intro i x hx ho
  have hi : i = 78 ∨ i = 79 := by
    simp only [pm_opq, Bool.or_eq_true, beq_iff_eq] at ho
    omega
  rcases hi with rfl | rfl
  · have e : pt_K1[78]? = some (.inr (9, [])) := by decide +kernel
    rw [e] at hx; cases hx; exact ⟨_, rfl⟩
  · have e : pt_K1[79]? = some (.inr (9, [])) := by decide +kernel
    rw [e] at hx; cases hx; exact ⟨_, rfl⟩
theorem pt_repK (hgv : (Jvm.Cond.and given_1 narrow_1).before args s = true) {b : Nat} {xs : List Int32} (hargs : args = #[.ref b]) (hx : s.IntsAt b xs) : pm_rep (pt_D s) pt_cl (pt_tys (pt_A s)) (pt_mu args s) 81 s.heap.size s.heap (pt_K xs, 0) s.heap := by
  refine ⟨pt_atA hgv hargs hx, by rw [pt_Kl]; exact Nat.le_refl _, by simp only [pt_Kl]; rfl, fun q _ => rfl, fun a x h ho => ?_⟩
  cases a with
  | zero => cases ho
  | succ i => exact pt_K9 i x h ho
/-- the constants lie below the heap's end -/
theorem pt_muB (hgv : (Jvm.Cond.and given_1 narrow_1).before args s = true) {b : Nat} {xs : List Int32} (hargs : args = #[.ref b]) (hx : s.IntsAt b xs) (a : Nat) (ha : a < 81) (ho : pm_opq a = false) : pt_mu args s a < s.heap.size := by
  have hl : a < (pt_K xs).length := by rw [pt_Kl]; exact ha
  have h := pt_atA hgv hargs hx a _ (List.getElem?_eq_getElem hl)
  generalize hz : (pt_K xs)[a] = x at h
  cases x with
  | inl o =>
    obtain ⟨r, cell, -, -, h3, -⟩ := h
    exact (Array.getElem?_eq_some_iff.mp h3).1
  | inr t =>
    rcases h with ⟨h9, -⟩ | ⟨q, cell, -, h3, -⟩
    · exfalso
      cases a with
      | zero =>
        have e : (pt_K xs)[0] = .inr (0, xs.map Value.int) := rfl
        rw [e] at hz
        cases hz
        cases h9
      | succ i =>
        have hi : i < 80 := by omega
        have e : pt_K1.getD i (.inr (9, [])) = .inr t := by
          have e1 : (pt_K xs)[i + 1]? = some (.inr t) := by rw [List.getElem?_eq_getElem hl, hz]
          have e2 : pt_K1[i]? = some (.inr t) := e1
          rw [List.getD_eq_getElem?_getD, e2]; rfl
        obtain ⟨g1, -⟩ := pt_KS hi
        rw [e] at g1
        obtain ⟨t1, t2⟩ := t
        simp only at h9
        subst h9
        unfold pt_ok1 at g1
        split at g1
        · next hh => cases hh
        · next hh => cases hh
        · next hh => cases hh
        · next hh => cases hh
        · next hh => cases hh
        · next hh => cases hh
        · rw [ho] at g1; cases g1
        · cases g1
    · exact (Array.getElem?_eq_some_iff.mp h3).1
end START2
