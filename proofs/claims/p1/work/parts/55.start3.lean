/-! THE START: where the cells lie; the classes; what the frames' states know -/
def pt_app : List (Nat × Nat × Nat) := (((List.range 17).flatMap (fun i => (List.range (16 - i)).map (fun j => (i + 1, i + j + 2)))).zip pt_apw).map (fun q => (q.1.1, q.1.2, q.2))
set_option maxRecDepth 100000 in
theorem pt_kA2 : pt_app.all (fun q => pt_l1 q.2.2 (.not (.eq (pt_tm q.1) (pt_tm q.2.1))) || pt_l1 q.2.2 (.not (.eq (pt_tm q.2.1) (pt_tm q.1)))) = true := by decide +kernel
theorem pt_app_in : ∀ i : Fin 18, ∀ j : Fin 18, 1 ≤ i.val → i.val < j.val → ∃ p, (i.val, j.val, p) ∈ pt_app := by
  have key : (List.range 18).all (fun i => (List.range 18).all (fun j => !(decide (1 ≤ i ∧ i < j)) || pt_app.any (fun q => q.1 == i && q.2.1 == j))) = true := by decide +kernel
  intro i j h1 h2
  have h := List.all_eq_true.mp (List.all_eq_true.mp key i.val (List.mem_range.mpr i.isLt)) j.val (List.mem_range.mpr j.isLt)
  simp only [Bool.or_eq_true, Bool.not_eq_true', decide_eq_false_iff_not] at h
  rcases h with h | h
  · exact absurd ⟨h1, h2⟩ h
  · obtain ⟨⟨a, b, p⟩, hm, hq⟩ := List.any_eq_true.mp h
    simp only [Bool.and_eq_true, beq_iff_eq] at hq
    obtain ⟨rfl, rfl⟩ := hq
    exact ⟨p, hm⟩
section START3
variable {args : Array Value} {s : State}
theorem pm_neq {t u : Term} {q : Nat} (h : (Cond.not (.eq t u)).before args s = true) (ht : t.eval args s none [] s = some (.ref q)) (hu : u.eval args s none [] s = some (.ref q)) : False := by
  simp [Cond.before, Cond.holds, Cond.value, ht, hu] at h
theorem pm_fcn {C C' : String} {c : ClassId} (h : s.vm.findClass C = some c) (h' : s.vm.findClass C' = some c) : C = C' := by
  obtain ⟨hlt, hp, -⟩ := Array.findIdx?_eq_some_iff_getElem.mp h
  obtain ⟨hlt', hp', -⟩ := Array.findIdx?_eq_some_iff_getElem.mp h'
  simp only [Bool.and_eq_true, beq_iff_eq] at hp hp'
  exact hp.1.1.1.symm.trans hp'.1.1.1
theorem pt_evA (hgv : (Jvm.Cond.and given_1 narrow_1).before args s = true) {a : Nat} (h1 : 1 ≤ a) (h2 : a < 79) : (pt_tm a).eval args s none [] s = some (.ref (pt_mu args s a)) := by
  have hi : a - 1 < 80 := by omega
  obtain ⟨g1, g2⟩ := pt_KS hi
  have e : a - 1 + 1 = a := by omega
  rw [e] at g1 g2
  have ho : pm_opq a = false := by
    simp only [pm_opq, Bool.or_eq_false_iff, beq_eq_false_iff_ne]
    omega
  have key : ∃ q, (pt_tm a).eval args s none [] s = some (.ref q) := by
    generalize pt_K1.getD (a - 1) (.inr (9, [])) = x at g1 g2
    have hl : ∀ w ∈ pt_xp a x, w.before args s = true := fun w hw => pt_lvs hgv g2 hw
    have hex : ∀ {C : String}, (Cond.exactly (pt_tm a) C).before args s = true → ∃ q, (pt_tm a).eval args s none [] s = some (.ref q) := by
      intro C h
      obtain ⟨q, c0, cell, kA, q1, -⟩ := Cond.exactly_spec (args := args) (first := s) (o := none) (s := s) (idx := []) h
      exact ⟨q, q1⟩
    unfold pt_ok1 at g1
    split at g1
    · exact hex (hl _ List.mem_cons_self)
    · exact hex (hl _ List.mem_cons_self)
    · exact hex (hl _ List.mem_cons_self)
    · simp only [Bool.and_eq_true, decide_eq_true_eq] at g1
      obtain ⟨q, cell, h1, -⟩ := pm_arrc (args := args) (s := s) g1.1 g1.2 hl
      exact ⟨q, h1⟩
    · simp only [Bool.and_eq_true, decide_eq_true_eq] at g1
      obtain ⟨q, cell, h1, -⟩ := pm_arrc (args := args) (s := s) g1.1 g1.2 hl
      exact ⟨q, h1⟩
    · exact hex (hl _ (List.mem_cons_of_mem _ List.mem_cons_self))
    · rw [ho] at g1; cases g1
    · cases g1
  obtain ⟨q, hq⟩ := key
  rw [pt_mu_of (by omega) hq]
  exact hq
theorem pt_clsA (hgv : (Jvm.Cond.and given_1 narrow_1).before args s = true) {a : Nat} (h1 : 1 ≤ a) (h2 : a < 18) : ∃ cell c C, s.heap[pt_mu args s a]? = some cell ∧ cell.cls = c ∧ s.vm.findClass C = some c ∧ C ≠ "[Ljava/lang/Object;" := by
  have key : (List.range 17).all (fun i => pt_l1 (pt_pos.getD i 0) (.exactly (pt_tm (i + 1)) "OfficeSheet$ActKind") || pt_l1 (pt_pos.getD i 0) (.exactly (pt_tm (i + 1)) "OfficeSheet$PartKind")) = true := by decide +kernel
  have h := List.all_eq_true.mp key (a - 1) (List.mem_range.mpr (by omega))
  have e : a - 1 + 1 = a := by omega
  simp only [e, Bool.or_eq_true] at h
  rcases h with h | h
  · obtain ⟨q, c0, cell, kA, q1, q2, q3, q4, q5, q6, -⟩ := Cond.exactly_spec (args := args) (first := s) (o := none) (s := s) (idx := []) (pt_lv1 hgv h)
    exact ⟨cell, c0, _, by rw [pt_mu_of (by omega) q1]; exact q3, q6, q2, by decide⟩
  · obtain ⟨q, c0, cell, kA, q1, q2, q3, q4, q5, q6, -⟩ := Cond.exactly_spec (args := args) (first := s) (o := none) (s := s) (idx := []) (pt_lv1 hgv h)
    exact ⟨cell, c0, _, by rw [pt_mu_of (by omega) q1]; exact q3, q6, q2, by decide⟩
theorem pt_cls20 (hgv : (Jvm.Cond.and given_1 narrow_1).before args s = true) : ∃ cell c, s.heap[pt_mu args s 20]? = some cell ∧ cell.cls = c ∧ s.vm.findClass "[Ljava/lang/Object;" = some c := by
  have key : pt_l1 5 (.exactly (pt_tm 20) "[Ljava/lang/Object;") = true := by decide +kernel
  obtain ⟨q, c0, cell, kA, q1, q2, q3, q4, q5, q6, -⟩ := Cond.exactly_spec (args := args) (first := s) (o := none) (s := s) (idx := []) (pt_lv1 hgv key)
  exact ⟨cell, c0, by rw [pt_mu_of (by decide) q1]; exact q3, q6, q2⟩
theorem pt_muOK (hgv : (Jvm.Cond.and given_1 narrow_1).before args s = true) {b : Nat} {xs : List Int32} (hargs : args = #[.ref b]) (hx : s.IntsAt b xs) : pm_mu (pt_mu args s) 81 s.heap.size := by
  have hge : ∀ a : Nat, 81 ≤ a → pt_mu args s a = s.heap.size + (a - 81) := fun a h => if_neg (by omega)
  have hB := pt_muB hgv hargs hx
  have hne : ∀ a c : Nat, 1 ≤ a → a < c → c < 18 → pt_mu args s a ≠ pt_mu args s c := by
    intro a c h1 h2 h3 e
    obtain ⟨p, hp⟩ := pt_app_in ⟨a, by omega⟩ ⟨c, h3⟩ h1 h2
    have h := List.all_eq_true.mp pt_kA2 _ hp
    simp only [Bool.or_eq_true] at h
    have ea := pt_evA hgv h1 (show a < 79 by omega)
    have ec := pt_evA hgv (show 1 ≤ c by omega) (show c < 79 by omega)
    rw [← e] at ec
    rcases h with h | h
    · exact pm_neq (pt_lv1 hgv h) ea ec
    · exact pm_neq (pt_lv1 hgv h) ec ea
  have hn20 : ∀ a : Nat, 1 ≤ a → a < 18 → pt_mu args s a ≠ pt_mu args s 20 := by
    intro a h1 h2 e
    obtain ⟨cell, c, C, k1, k2, k3, k4⟩ := pt_clsA hgv h1 h2
    obtain ⟨cell', c', m1, m2, m3⟩ := pt_cls20 hgv
    rw [e] at k1
    cases k1.symm.trans m1
    rw [← k2] at k3
    rw [← m2] at m3
    exact k4 (pm_fcn k3 m3)
  refine ⟨fun a c ha hc e => ?_, hge, hB, fun a ho => ?_⟩
  · simp only [pm_idn, Bool.or_eq_true, decide_eq_true_eq, beq_iff_eq] at ha hc
    have lt : ∀ x : Nat, ((1 ≤ x ∧ x < 18) ∨ x = 20) → pt_mu args s x < s.heap.size := by
      intro x hx
      refine hB x (by omega) ?_
      simp only [pm_opq, Bool.or_eq_false_iff, beq_eq_false_iff_ne]
      omega
    by_cases h1 : 81 ≤ a <;> by_cases h2 : 81 ≤ c
    · rw [hge a h1, hge c h2] at e; omega
    · have := lt c (by omega); rw [hge a h1] at e; omega
    · have := lt a (by omega); rw [hge c h2] at e; omega
    · by_cases h3 : a = 20 <;> by_cases h4 : c = 20
      · rw [h3, h4]
      · rw [h3] at e; exact absurd e.symm (hn20 c (by omega) (by omega))
      · rw [h4] at e; exact absurd e (hn20 a (by omega) (by omega))
      · rcases Nat.lt_trichotomy a c with h | h | h
        · exact absurd e (hne a c (by omega) h (by omega))
        · exact h
        · exact absurd e.symm (hne c a (by omega) h (by omega))
  · simp only [pm_opq, Bool.or_eq_true, beq_iff_eq] at ho
    omega
end START3
