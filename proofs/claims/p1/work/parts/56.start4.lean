/-! THE START: classes, arrays' classes, statics, texts -/
def pt_tw (i : Nat) (w : Cond) : Bool := decide (tables_1[i]? = some w)
theorem pt_tw_in {i : Nat} {w : Cond} (h : pt_tw i w = true) : w ∈ tables_1 := List.mem_of_getElem? (of_decide_eq_true h)
set_option maxRecDepth 100000 in
theorem pt_kI2 : (List.range 18).all (fun ci => pt_tw (pt_inw.getD ci (0, 0)).2 (.instantiable (pt_clN ci) (pt_inw.getD ci (0, 0)).1)) = true := by decide +kernel
set_option maxRecDepth 100000 in
theorem pt_kO2 : (List.range 4).all (fun i => pt_tw (pt_aow.getD i 0) (.arrayOver (.object (pt_aos.getD i "")))) = true := by decide +kernel
set_option maxRecDepth 100000 in
theorem pt_kS2 : (List.range 24).all (fun i => pt_tw (pt_skw.getD i (0, 0)).1 (.laysStatic ((pt_SK .null).getD i pt_skd).1 ((pt_SK .null).getD i pt_skd).2.1 ((pt_SK .null).getD i pt_skd).2.2.1) && pt_tw (pt_skw.getD i (0, 0)).2 (.initialized ((pt_SK .null).getD i pt_skd).1)) = true := by decide +kernel
set_option maxRecDepth 100000 in
theorem pt_kE2 : pt_SE.all (fun q => pt_sew.any (fun i => pt_tw i (.stringRef (pt_own.getD q.1 "") q.2.1 q.2.2.1)) && (decide (21 ≤ q.2.2.2 ∧ q.2.2.2 < 49) && decide (pt_tm q.2.2.2 = .string (pt_own.getD q.1 "") q.2.1))) = true := by decide +kernel
set_option maxRecDepth 100000 in
theorem pt_kN2 : pt_ncw.all (fun q => pt_l1 q.2.2 (.not (.castable (pt_exn.getD q.1 "") (pt_exn.getD q.2.1 "")))) = true := by decide +kernel
def pt_skc (k : Nat) : Bool := match ((pt_SK .null).getD k pt_skd).2.2.2 with
  | .ref a => decide (1 ≤ a ∧ a < 79 ∧ pt_tm a = .static ((pt_SK .null).getD k pt_skd).1 ((pt_SK .null).getD k pt_skd).2.1 ((pt_SK .null).getD k pt_skd).2.2.1)
  | _ => false
theorem pt_kK2 : (List.range 24).all (fun k => decide (k = 0) || (decide (k = 2) || pt_skc k)) = true := by decide +kernel
section START4
variable {args : Array Value} {s : State}
theorem pt_KnOK (hgv : (Jvm.Cond.and given_1 narrow_1).before args s = true) (hts : ∀ w ∈ tables_1, w.before args s = true) (hTs : ∀ w ∈ pt_Ts, w.before args s = true) : pm_Kn (pt_D s) pt_cl (pt_tys (pt_A s)) s := by
  refine ⟨fun ci q hq => ?_, fun t q hq => ?_, fun c ty h => h⟩
  · have hlt : ci < 20 := (List.getElem?_eq_some_iff.mp hq).1
    have hN : pt_clN ci = q.1 := by unfold pt_clN; rw [hq]; rfl
    by_cases h18 : ci < 18
    · have hi := List.all_eq_true.mp pt_kI2 ci (List.mem_range.mpr h18)
      have hw := hts _ (pt_tw_in hi)
      rw [hN] at hw
      obtain ⟨cC, kC, hfc, hk, hkind, -⟩ := Cond.instantiable_spec hw
      obtain ⟨-, -, hin⟩ := pt_okC ci q hq
      refine ⟨fun k hkN => ?_, ?_, kC, ?_, fun _ => hkind⟩
      · obtain ⟨i, h⟩ := u_found (u_lays hTs hin hkN)
        have h2 := pm_sl_is h
        show SlotIs s (q.2.1 k).1 (q.2.1 k).2.1 (q.2.1 k).2.2.1 ((pt_D s).1.2 ci k)
        have e : (pt_D s).1.2 ci k = pm_sl s (q.2.1 k).1 (q.2.1 k).2.1 (q.2.1 k).2.2.1 := by
          show (if ci = 18 then _ else if ci = 19 then _ else _) = _
          rw [if_neg (by omega), if_neg (by omega)]
          have ef : pt_f ci k = ((q.2.1 k).1, (q.2.1 k).2.1, (q.2.1 k).2.2.1) := by unfold pt_f; rw [hq]; rfl
          rw [ef]
        rw [e]
        exact h2
      · show s.vm.findClass q.1 = some (pm_ci s (pt_clN ci))
        rw [hN, pm_ci_of hfc]; exact hfc
      · show s.vm.classes[pm_ci s (pt_clN ci)]? = some kC
        rw [hN, pm_ci_of hfc]; exact hk
    · have h2 : ci = 18 ∨ ci = 19 := by omega
      have hq0 : q.2.2 = 0 := by
        rcases h2 with rfl | rfl
        · cases hq; rfl
        · cases hq; rfl
      have hfin : ∀ {C : String}, pt_clN ci = C → (∃ (t : Term), (Cond.exactly t C).before args s = true) → ∃ (c0 : ClassId) (kA : Class), s.vm.findClass (pt_clN ci) = some c0 ∧ s.vm.classes[c0]? = some kA := by
        rintro C hC ⟨t, h⟩
        obtain ⟨q, c0, cell, kA, q1, q2, q3, q4, -⟩ := Cond.exactly_spec (args := args) (first := s) (o := none) (s := s) (idx := []) h
        exact ⟨c0, kA, by rw [hC]; exact q2, q4⟩
      have key : ∃ (c0 : ClassId) (kA : Class), s.vm.findClass (pt_clN ci) = some c0 ∧ s.vm.classes[c0]? = some kA := by
        rcases h2 with rfl | rfl
        · exact hfin (C := "OfficeSheet$ActKind") rfl ⟨pt_tm 1, pt_lv1 (k := 219) hgv (by decide +kernel)⟩
        · exact hfin (C := "OfficeSheet$PartKind") rfl ⟨pt_tm 7, pt_lv1 (k := 246) hgv (by decide +kernel)⟩
      obtain ⟨c0, kA, k1, k2⟩ := key
      refine ⟨fun k hk => absurd hk (by omega), ?_, kA, ?_, fun h => absurd h (by omega)⟩
      · show s.vm.findClass q.1 = some (pm_ci s (pt_clN ci))
        rw [pm_ci_of k1, ← hN]; exact k1
      · show s.vm.classes[pm_ci s (pt_clN ci)]? = some kA
        rw [pm_ci_of k1]; exact k2
  · have hprim : ∀ {ty : FieldType} {t : Nat}, Cond.arrayClass ty ∈ pt_Ts → "[" ++ ty.toString = pt_an t → ArrOfT s (pt_A s t) ty ∧ s.vm.findClass ("[" ++ ty.toString) = some (pt_A s t) := by
      intro ty t hw hn
      obtain ⟨c, k, comp, h1, h2, h3⟩ := Cond.arrayClass_spec (args := args) (first := s) (o := none) (s := s) (idx := []) (hTs _ hw)
      have e : pt_A s t = c := by unfold pt_A; rw [← hn]; exact pm_ci_of h1
      rw [e]
      exact ⟨fun N z => ⟨(fun k h => by cases h), k, h2, comp, h3⟩, h1⟩
    have hobj : ∀ (i t : Nat), i < 4 → pt_aos.getD i "" = pt_tn t → "[" ++ (FieldType.object (pt_tn t)).toString = pt_an t → ArrOfT s (pt_A s t) (.object (pt_tn t)) ∧ va_RA s (pt_A s t) (.object (pt_tn t)) := by
      intro i t hi hn hna
      have hw := hts _ (pt_tw_in (List.all_eq_true.mp pt_kO2 i (List.mem_range.mpr hi)))
      rw [hn] at hw
      obtain ⟨comp, c, k, h1, -, h2, h3, h4⟩ := Cond.arrayOver_spec (args := args) (first := s) (o := none) (s := s) (idx := []) hw
      have e : pt_A s t = c := by unfold pt_A; rw [← hna]; exact pm_ci_of h4
      rw [e]
      exact ⟨fun N z => ⟨(fun k h => by cases h), k, h2, comp, h3⟩, k, comp, h2, h3, h1, h4⟩
    unfold pt_tys at hq
    split at hq
    · cases hq; exact hprim (ty := .int) (t := 0) pt_ar0 (by decide +kernel)
    · cases hq; exact hprim (ty := .long) (t := 1) pt_ar1 (by decide +kernel)
    · cases hq; exact hprim (ty := .boolean) (t := 3) pt_ar3 (by decide +kernel)
    · cases hq; exact hprim (ty := .byte) (t := 4) pt_ar4 (by decide +kernel)
    · cases hq; exact hobj 0 10 (by decide) rfl rfl
    · cases hq; exact hobj 1 11 (by decide) rfl rfl
    · cases hq; exact hobj 2 12 (by decide) rfl rfl
    · cases hq; exact hobj 3 13 (by decide) rfl rfl
    · cases hq
/-- the formatter: a reference (cell 80) or null -/
def pt_wu (args : Array Value) (s : State) : Option Nat := match (pt_tm 80).eval args s none [] s with
  | some (.ref _) => some 80
  | _ => none
def pt_u (args : Array Value) (s : State) : Value := match pt_wu args s with
  | some _ => .ref 80
  | none => .null
theorem pt_uOK : pt_u args s = .null ∨ pt_u args s = .ref 80 := by
  unfold pt_u
  cases pt_wu args s with
  | none => exact Or.inl rfl
  | some a => exact Or.inr rfl
theorem pt_StOK (hgv : (Jvm.Cond.and given_1 narrow_1).before args s = true) (hts : ∀ w ∈ tables_1, w.before args s = true) (hTs : ∀ w ∈ pt_Ts, w.before args s = true) : pt_St (pt_u args s) (pt_D s) (pt_A s) (pt_mu args s) s.heap.size s.heap s := by
  refine ⟨pt_KnOK hgv hts hTs, fun w hw => ?_, fun C hC => ?_, fun q hq => ?_, fun q hq => ?_, fun C hC T hT hne => ?_, ?_, ?_, ?_, ?_, ?_, ?_⟩
  · obtain ⟨h1, h2⟩ := List.mem_filter.mp hw
    refine va_Nw.of ?_ (hts w h1)
    cases w <;> first | (cases h2; done) | rfl
  · obtain ⟨i, hi⟩ := List.mem_iff_getElem?.mp hC
    have hi4 : i < 4 := (List.getElem?_eq_some_iff.mp hi).1
    have hw := hts _ (pt_tw_in (List.all_eq_true.mp pt_kO2 i (List.mem_range.mpr hi4)))
    have e : pt_aos.getD i "" = C := by rw [List.getD_eq_getElem?_getD, hi]; rfl
    rw [e] at hw
    exact va_AO.of hw
  · have h := List.all_eq_true.mp pt_kE2 q hq
    simp only [Bool.and_eq_true, decide_eq_true_eq] at h
    obtain ⟨h1, h2, h3⟩ := h
    obtain ⟨i, -, h1⟩ := List.any_eq_true.mp h1
    refine vk_R.of (hts _ (pt_tw_in h1)) ?_
    have h4 := pt_evA hgv (a := q.2.2.2) (by omega) (by omega)
    rw [h3] at h4
    exact h4
  · obtain ⟨k, hk⟩ := List.mem_iff_getElem?.mp hq
    have hk24 : k < 24 := (List.getElem?_eq_some_iff.mp hk).1
    have h := List.all_eq_true.mp pt_kS2 k (List.mem_range.mpr hk24)
    simp only [Bool.and_eq_true] at h
    have e0 : q = (pt_SK (pt_u args s)).getD k pt_skd := by rw [List.getD_eq_getElem?_getD, hk]; rfl
    obtain ⟨n1, n2, n3⟩ := pt_skn (pt_u args s) k
    rw [e0, ← n1, ← n2, ← n3]
    refine va_Zof (hts _ (pt_tw_in h.1)) (hts _ (pt_tw_in h.2)) ?_ (fun a h9 => Nat.not_le.mpr h9)
    have hc := List.all_eq_true.mp pt_kK2 k (List.mem_range.mpr hk24)
    simp only [Bool.or_eq_true, decide_eq_true_eq] at hc
    rcases hc with rfl | rfl | hc
    · exact va_eqt (pt_lv1 (k := 2) hgv (by decide +kernel))
    · have hr : (Cond.isRef (pt_tm 80)).before args s = true := pt_lv1 (k := 9) hgv (by decide +kernel)
      obtain ⟨v, hv, hvr⟩ := Cond.isRef_spec (args := args) (first := s) (o := none) (s := s) (idx := []) hr
      show (pt_tm 80).eval args s none [] s = some (pm_v (pt_mu args s) (pt_u args s))
      cases v with
      | null =>
        have e1 : pt_wu args s = none := by unfold pt_wu; rw [hv]
        rw [show pt_u args s = .null by unfold pt_u; rw [e1]]
        exact hv
      | ref t =>
        have e1 : pt_wu args s = some 80 := by unfold pt_wu; rw [hv]
        rw [show pt_u args s = .ref 80 by unfold pt_u; rw [e1]]
        show _ = some (Value.ref (pt_mu args s 80))
        rw [pt_mu_of (by decide) hv]
        exact hv
      | _ => cases hvr
    · have hne0 : k ≠ 2 := by
        rintro rfl
        revert hc
        decide +kernel
      have eu : ((pt_SK (pt_u args s)).getD k pt_skd).2.2.2 = ((pt_SK .null).getD k pt_skd).2.2.2 := by
        have key : ∀ n : Fin 24, n.val ≠ 2 → ((pt_SK (pt_u args s)).getD n.val pt_skd).2.2.2 = ((pt_SK .null).getD n.val pt_skd).2.2.2 := by
          intro n hn
          match n with
          | ⟨0, _⟩ | ⟨1, _⟩ | ⟨3, _⟩ | ⟨4, _⟩ | ⟨5, _⟩ | ⟨6, _⟩ | ⟨7, _⟩ | ⟨8, _⟩ | ⟨9, _⟩ | ⟨10, _⟩ | ⟨11, _⟩ | ⟨12, _⟩ | ⟨13, _⟩ | ⟨14, _⟩ | ⟨15, _⟩ | ⟨16, _⟩ | ⟨17, _⟩ | ⟨18, _⟩ | ⟨19, _⟩ | ⟨20, _⟩ | ⟨21, _⟩ | ⟨22, _⟩ | ⟨23, _⟩ => rfl
          | ⟨2, _⟩ => exact absurd rfl hn
          | ⟨n + 24, hn⟩ => exact absurd hn (by omega)
        exact key ⟨k, hk24⟩ hne0
      rw [eu]
      unfold pt_skc at hc
      split at hc
      · next a hx =>
        obtain ⟨c1, c2, c3⟩ := of_decide_eq_true hc
        rw [hx, ← c3]
        exact pt_evA hgv c1 c2
      · cases hc
  · have key : pt_exn.all (fun C => pt_exn.all (fun T => decide (C = T) || pt_ncw.any (fun q => decide (pt_exn.getD q.1 "" = C ∧ pt_exn.getD q.2.1 "" = T)))) = true := by decide +kernel
    have h := List.all_eq_true.mp (List.all_eq_true.mp key C hC) T hT
    simp only [Bool.or_eq_true, decide_eq_true_eq] at h
    rcases h with h | h
    · exact absurd h hne
    · obtain ⟨q, hm, hq⟩ := List.any_eq_true.mp h
      have hq2 := of_decide_eq_true hq
      have hl := List.all_eq_true.mp pt_kN2 q hm
      rw [hq2.1, hq2.2] at hl
      exact va_Nc.of (pt_lv1 hgv hl)
  · have h2 := va_eqt (pt_lv1 (k := 220) (w := .eq (.field (pt_tm 1) "java/lang/Enum" "ordinal" "I") (.int 0)) hgv (by decide +kernel))
    exact (pm_fld (pt_evA hgv (a := 1) (by decide) (by decide)) h2).1
  · have h2 := va_eqt (pt_lv1 (k := 220) (w := .eq (.field (pt_tm 1) "java/lang/Enum" "ordinal" "I") (.int 0)) hgv (by decide +kernel))
    exact (pm_fld (pt_evA hgv (a := 1) (by decide) (by decide)) h2).1
  · have h3 := pt_lv1 (k := 248) (w := .eq (.field (pt_tm 7) "OfficeSheet$PartKind" "sign" "Ljava/lang/String;") (pt_tm 32)) hgv (by decide +kernel)
    have h4 := pm_eqr (v := .null) h3 (pt_evA hgv (a := 32) (by decide) (by decide))
    exact (pm_fld (pt_evA hgv (a := 7) (by decide) (by decide)) h4).1
  · have hr : (Cond.isRef (pt_tm 79)).before args s = true := pt_lv1 (k := 505) hgv (by decide +kernel)
    obtain ⟨v, hv, -⟩ := Cond.isRef_spec (args := args) (first := s) (o := none) (s := s) (idx := []) hr
    obtain ⟨c, k, a, h1, h2, h3, h4⟩ := Term.mirror_spec hv
    subst h4
    refine ⟨c, k, h1, h2, ?_⟩
    rw [pt_mu_of (by decide) hv]
    exact h3
  · exact pm_LS.of (hts _ (pt_tw_in (i := 304) (by decide +kernel))) (pt_lv1 (k := 7) hgv (by decide +kernel))
  · exact pm_LS.of (hts _ (pt_tw_in (i := 306) (by decide +kernel))) (pt_lv1 (k := 8) hgv (by decide +kernel))
end START4
