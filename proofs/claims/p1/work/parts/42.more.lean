/-! fields written: the entry, its kind ahead of class and place, and whether the field is final (then only its class's constructor writes it) -/
def pt_okP (q : Nat × Nat × List Nat × Bool) : Prop := pm_okF pt_Ts pt_Ns pt_cl (pt_own.getD q.1 "") q.2.1 q.2.2.1.tail ∧ (∀ ci k, pm_slot q.2.2.1.tail ci = some k → pm_tag (q.2.2.1.headD 0) (pt_ft ci k) = true) ∧ ∀ (ci k : Nat) (r : vw_C), pm_slot q.2.2.1.tail ci = some k → pt_cl[ci]? = some r → (r.2.1 k).2.2.2 = true → q.2.2.2 = true ∧ (r.2.1 k).1 = pt_own.getD q.1 ""
theorem pt_okP1 {o idx t ci k : Nat} {fin : Bool} {r : vw_C} (hF : pm_okF pt_Ts pt_Ns pt_cl (pt_own.getD o "") idx [ci, k]) (ht : pm_tag t (pt_ft ci k) = true) (hc : pt_cl[ci]? = some r) (hf : (r.2.1 k).2.2.2 = true → fin = true ∧ (r.2.1 k).1 = pt_own.getD o "") : pt_okP (o, idx, [t, ci, k], fin) := by
  have hsl : ∀ ci' k', pm_slot [ci, k] ci' = some k' → ci' = ci ∧ k' = k := by
    intro ci' k' h
    unfold pm_slot at h
    split at h
    · next e => cases h; exact ⟨e.symm, rfl⟩
    · unfold pm_slot at h; cases h
  refine ⟨hF, fun ci' k' h => ?_, fun ci' k' r' h hr hfin => ?_⟩
  · obtain ⟨rfl, rfl⟩ := hsl ci' k' h
    exact ht
  · obtain ⟨rfl, rfl⟩ := hsl ci' k' h
    cases hc.symm.trans hr
    exact hf hfin
theorem pp_1_11 : pt_okP (1, 11, [2, 0, 0], true) := pt_okP1 (r := ("OfficeSheet", pt_T0, 4)) pf_1_11 (by decide +kernel) rfl (fun _ => ⟨rfl, rfl⟩)
theorem pp_1_18 : pt_okP (1, 18, [2, 0, 1], true) := pt_okP1 (r := ("OfficeSheet", pt_T0, 4)) pf_1_18 (by decide +kernel) rfl (fun _ => ⟨rfl, rfl⟩)
theorem pp_1_25 : pt_okP (1, 25, [2, 0, 2], true) := pt_okP1 (r := ("OfficeSheet", pt_T0, 4)) pf_1_25 (by decide +kernel) rfl (fun _ => ⟨rfl, rfl⟩)
theorem pp_1_32 : pt_okP (1, 32, [2, 0, 3], true) := pt_okP1 (r := ("OfficeSheet", pt_T0, 4)) pf_1_32 (by decide +kernel) rfl (fun _ => ⟨rfl, rfl⟩)
theorem pp_2_12 : pt_okP (2, 12, [2, 1, 0], true) := pt_okP1 (r := ("OfficeSheet$Reader", pt_T1, 7)) pf_2_12 (by decide +kernel) rfl (fun _ => ⟨rfl, rfl⟩)
theorem pp_2_18 : pt_okP (2, 18, [2, 1, 1], true) := pt_okP1 (r := ("OfficeSheet$Reader", pt_T1, 7)) pf_2_18 (by decide +kernel) rfl (fun _ => ⟨rfl, rfl⟩)
theorem pp_2_22 : pt_okP (2, 22, [0, 1, 2], false) := pt_okP1 (r := ("OfficeSheet$Reader", pt_T1, 7)) pf_2_22 (by decide +kernel) rfl (fun h => by cases h)
theorem pp_2_26 : pt_okP (2, 26, [0, 1, 3], false) := pt_okP1 (r := ("OfficeSheet$Reader", pt_T1, 7)) pf_2_26 (by decide +kernel) rfl (fun h => by cases h)
theorem pp_2_29 : pt_okP (2, 29, [0, 1, 4], false) := pt_okP1 (r := ("OfficeSheet$Reader", pt_T1, 7)) pf_2_29 (by decide +kernel) rfl (fun h => by cases h)
theorem pp_2_32 : pt_okP (2, 32, [2, 1, 5], false) := pt_okP1 (r := ("OfficeSheet$Reader", pt_T1, 7)) pf_2_32 (by decide +kernel) rfl (fun h => by cases h)
theorem pp_2_36 : pt_okP (2, 36, [2, 1, 6], false) := pt_okP1 (r := ("OfficeSheet$Reader", pt_T1, 7)) pf_2_36 (by decide +kernel) rfl (fun h => by cases h)
theorem pp_4_15 : pt_okP (4, 15, [2, 11, 0], false) := pt_okP1 (r := ("java/lang/StringBuilder", pt_T11, 4)) pf_4_15 (by decide +kernel) rfl (fun h => by cases h)
theorem pp_4_22 : pt_okP (4, 22, [4, 11, 1], false) := pt_okP1 (r := ("java/lang/StringBuilder", pt_T11, 4)) pf_4_22 (by decide +kernel) rfl (fun h => by cases h)
theorem pp_4_73 : pt_okP (4, 73, [3, 11, 2], false) := pt_okP1 (r := ("java/lang/StringBuilder", pt_T11, 4)) pf_4_73 (by decide +kernel) rfl (fun h => by cases h)
theorem pp_4_79 : pt_okP (4, 79, [0, 11, 3], false) := pt_okP1 (r := ("java/lang/StringBuilder", pt_T11, 4)) pf_4_79 (by decide +kernel) rfl (fun h => by cases h)
theorem pp_6_11 : pt_okP (6, 11, [2, 2, 0], true) := pt_okP1 (r := ("OfficeSheet$Calculator", pt_T2, 7)) pf_6_11 (by decide +kernel) rfl (fun _ => ⟨rfl, rfl⟩)
theorem pp_6_17 : pt_okP (6, 17, [2, 2, 1], true) := pt_okP1 (r := ("OfficeSheet$Calculator", pt_T2, 7)) pf_6_17 (by decide +kernel) rfl (fun _ => ⟨rfl, rfl⟩)
theorem pp_6_21 : pt_okP (6, 21, [2, 2, 2], true) := pt_okP1 (r := ("OfficeSheet$Calculator", pt_T2, 7)) pf_6_21 (by decide +kernel) rfl (fun _ => ⟨rfl, rfl⟩)
theorem pp_6_25 : pt_okP (6, 25, [0, 2, 3], false) := pt_okP1 (r := ("OfficeSheet$Calculator", pt_T2, 7)) pf_6_25 (by decide +kernel) rfl (fun h => by cases h)
theorem pp_6_29 : pt_okP (6, 29, [3, 2, 6], false) := pt_okP1 (r := ("OfficeSheet$Calculator", pt_T2, 7)) pf_6_29 (by decide +kernel) rfl (fun h => by cases h)
theorem pp_6_61 : pt_okP (6, 61, [2, 2, 4], false) := pt_okP1 (r := ("OfficeSheet$Calculator", pt_T2, 7)) pf_6_61 (by decide +kernel) rfl (fun h => by cases h)
theorem pp_6_65 : pt_okP (6, 65, [2, 2, 5], false) := pt_okP1 (r := ("OfficeSheet$Calculator", pt_T2, 7)) pf_6_65 (by decide +kernel) rfl (fun h => by cases h)
theorem pp_7_12 : pt_okP (7, 12, [2, 3, 0], true) := pt_okP1 (r := ("OfficeSheet$Writer", pt_T3, 3)) pf_7_12 (by decide +kernel) rfl (fun _ => ⟨rfl, rfl⟩)
theorem pp_7_18 : pt_okP (7, 18, [2, 3, 1], false) := pt_okP1 (r := ("OfficeSheet$Writer", pt_T3, 3)) pf_7_18 (by decide +kernel) rfl (fun h => by cases h)
theorem pp_7_22 : pt_okP (7, 22, [2, 3, 2], false) := pt_okP1 (r := ("OfficeSheet$Writer", pt_T3, 3)) pf_7_22 (by decide +kernel) rfl (fun h => by cases h)
theorem pp_8_9 : pt_okP (8, 9, [2, 4, 1], true) := pt_okP1 (r := ("OfficeSheet$Office", pt_T4, 6)) pf_8_9 (by decide +kernel) rfl (fun _ => ⟨rfl, rfl⟩)
theorem pp_8_17 : pt_okP (8, 17, [2, 4, 2], true) := pt_okP1 (r := ("OfficeSheet$Office", pt_T4, 6)) pf_8_17 (by decide +kernel) rfl (fun _ => ⟨rfl, rfl⟩)
theorem pp_8_23 : pt_okP (8, 23, [2, 4, 3], true) := pt_okP1 (r := ("OfficeSheet$Office", pt_T4, 6)) pf_8_23 (by decide +kernel) rfl (fun _ => ⟨rfl, rfl⟩)
theorem pp_8_30 : pt_okP (8, 30, [2, 4, 4], true) := pt_okP1 (r := ("OfficeSheet$Office", pt_T4, 6)) pf_8_30 (by decide +kernel) rfl (fun _ => ⟨rfl, rfl⟩)
theorem pp_8_34 : pt_okP (8, 34, [0, 4, 5], false) := pt_okP1 (r := ("OfficeSheet$Office", pt_T4, 6)) pf_8_34 (by decide +kernel) rfl (fun h => by cases h)
theorem pp_8_38 : pt_okP (8, 38, [0, 4, 0], true) := pt_okP1 (r := ("OfficeSheet$Office", pt_T4, 6)) pf_8_38 (by decide +kernel) rfl (fun _ => ⟨rfl, rfl⟩)
theorem pp_9_9 : pt_okP (9, 9, [2, 12, 0], false) := pt_okP1 (r := ("java/util/ArrayList", pt_T12, 3)) pf_9_9 (by decide +kernel) rfl (fun h => by cases h)
theorem pp_9_48 : pt_okP (9, 48, [0, 12, 1], false) := pt_okP1 (r := ("java/util/ArrayList", pt_T12, 3)) pf_9_48 (by decide +kernel) rfl (fun h => by cases h)
theorem pp_9_63 : pt_okP (9, 63, [0, 12, 2], false) := pt_okP1 (r := ("java/util/ArrayList", pt_T12, 3)) pf_9_63 (by decide +kernel) rfl (fun h => by cases h)
theorem pp_10_7 : pt_okP (10, 7, [0, 12, 2], false) := pt_okP1 (r := ("java/util/ArrayList", pt_T12, 3)) pf_10_7 (by decide +kernel) rfl (fun h => by cases h)
theorem pp_12_12 : pt_okP (12, 12, [2, 5, 0], true) := pt_okP1 (r := ("OfficeSheet$Axis", pt_T5, 5)) pf_12_12 (by decide +kernel) rfl (fun _ => ⟨rfl, rfl⟩)
theorem pp_12_18 : pt_okP (12, 18, [2, 5, 1], true) := pt_okP1 (r := ("OfficeSheet$Axis", pt_T5, 5)) pf_12_18 (by decide +kernel) rfl (fun _ => ⟨rfl, rfl⟩)
theorem pp_12_23 : pt_okP (12, 23, [2, 5, 2], true) := pt_okP1 (r := ("OfficeSheet$Axis", pt_T5, 5)) pf_12_23 (by decide +kernel) rfl (fun _ => ⟨rfl, rfl⟩)
theorem pp_12_27 : pt_okP (12, 27, [2, 5, 3], true) := pt_okP1 (r := ("OfficeSheet$Axis", pt_T5, 5)) pf_12_27 (by decide +kernel) rfl (fun _ => ⟨rfl, rfl⟩)
theorem pp_12_30 : pt_okP (12, 30, [2, 5, 4], true) := pt_okP1 (r := ("OfficeSheet$Axis", pt_T5, 5)) pf_12_30 (by decide +kernel) rfl (fun _ => ⟨rfl, rfl⟩)
theorem pp_17_9 : pt_okP (17, 9, [2, 13, 0], true) := pt_okP1 (r := ("java/lang/String", pt_T13, 4)) pf_17_9 (by decide +kernel) rfl (fun _ => ⟨rfl, rfl⟩)
theorem pp_17_15 : pt_okP (17, 15, [4, 13, 1], true) := pt_okP1 (r := ("java/lang/String", pt_T13, 4)) pf_17_15 (by decide +kernel) rfl (fun _ => ⟨rfl, rfl⟩)
theorem pp_21_7 : pt_okP (21, 7, [0, 6, 0], true) := pt_okP1 (r := ("OfficeSheet$Line", pt_T6, 3)) pf_21_7 (by decide +kernel) rfl (fun _ => ⟨rfl, rfl⟩)
theorem pp_21_13 : pt_okP (21, 13, [0, 6, 1], true) := pt_okP1 (r := ("OfficeSheet$Line", pt_T6, 3)) pf_21_13 (by decide +kernel) rfl (fun _ => ⟨rfl, rfl⟩)
theorem pp_21_22 : pt_okP (21, 22, [0, 6, 2], true) := pt_okP1 (r := ("OfficeSheet$Line", pt_T6, 3)) pf_21_22 (by decide +kernel) rfl (fun _ => ⟨rfl, rfl⟩)
theorem pp_22_7 : pt_okP (22, 7, [2, 7, 0], true) := pt_okP1 (r := ("OfficeSheet$Act", pt_T7, 12)) pf_22_7 (by decide +kernel) rfl (fun _ => ⟨rfl, rfl⟩)
theorem pp_22_19 : pt_okP (22, 19, [0, 7, 1], true) := pt_okP1 (r := ("OfficeSheet$Act", pt_T7, 12)) pf_22_19 (by decide +kernel) rfl (fun _ => ⟨rfl, rfl⟩)
theorem pp_22_26 : pt_okP (22, 26, [0, 7, 2], true) := pt_okP1 (r := ("OfficeSheet$Act", pt_T7, 12)) pf_22_26 (by decide +kernel) rfl (fun _ => ⟨rfl, rfl⟩)
theorem pp_22_32 : pt_okP (22, 32, [0, 7, 3], true) := pt_okP1 (r := ("OfficeSheet$Act", pt_T7, 12)) pf_22_32 (by decide +kernel) rfl (fun _ => ⟨rfl, rfl⟩)
theorem pp_22_44 : pt_okP (22, 44, [2, 7, 4], true) := pt_okP1 (r := ("OfficeSheet$Act", pt_T7, 12)) pf_22_44 (by decide +kernel) rfl (fun _ => ⟨rfl, rfl⟩)
theorem pp_22_47 : pt_okP (22, 47, [2, 7, 5], false) := pt_okP1 (r := ("OfficeSheet$Act", pt_T7, 12)) pf_22_47 (by decide +kernel) rfl (fun h => by cases h)
theorem pp_22_51 : pt_okP (22, 51, [2, 7, 6], false) := pt_okP1 (r := ("OfficeSheet$Act", pt_T7, 12)) pf_22_51 (by decide +kernel) rfl (fun h => by cases h)
theorem pp_22_55 : pt_okP (22, 55, [2, 7, 7], false) := pt_okP1 (r := ("OfficeSheet$Act", pt_T7, 12)) pf_22_55 (by decide +kernel) rfl (fun h => by cases h)
theorem pp_22_58 : pt_okP (22, 58, [2, 7, 8], false) := pt_okP1 (r := ("OfficeSheet$Act", pt_T7, 12)) pf_22_58 (by decide +kernel) rfl (fun h => by cases h)
theorem pp_22_61 : pt_okP (22, 61, [2, 7, 9], false) := pt_okP1 (r := ("OfficeSheet$Act", pt_T7, 12)) pf_22_61 (by decide +kernel) rfl (fun h => by cases h)
theorem pp_22_64 : pt_okP (22, 64, [2, 7, 10], false) := pt_okP1 (r := ("OfficeSheet$Act", pt_T7, 12)) pf_22_64 (by decide +kernel) rfl (fun h => by cases h)
theorem pp_22_68 : pt_okP (22, 68, [2, 7, 11], false) := pt_okP1 (r := ("OfficeSheet$Act", pt_T7, 12)) pf_22_68 (by decide +kernel) rfl (fun h => by cases h)
theorem pp_23_7 : pt_okP (23, 7, [2, 8, 0], true) := pt_okP1 (r := ("OfficeSheet$Place", pt_T8, 3)) pf_23_7 (by decide +kernel) rfl (fun _ => ⟨rfl, rfl⟩)
theorem pp_23_13 : pt_okP (23, 13, [2, 8, 1], true) := pt_okP1 (r := ("OfficeSheet$Place", pt_T8, 3)) pf_23_13 (by decide +kernel) rfl (fun _ => ⟨rfl, rfl⟩)
theorem pp_23_17 : pt_okP (23, 17, [0, 8, 2], true) := pt_okP1 (r := ("OfficeSheet$Place", pt_T8, 3)) pf_23_17 (by decide +kernel) rfl (fun _ => ⟨rfl, rfl⟩)
theorem pp_25_7 : pt_okP (25, 7, [2, 9, 0], true) := pt_okP1 (r := ("OfficeSheet$Part", pt_T9, 8)) pf_25_7 (by decide +kernel) rfl (fun _ => ⟨rfl, rfl⟩)
theorem pp_25_13 : pt_okP (25, 13, [2, 9, 1], true) := pt_okP1 (r := ("OfficeSheet$Part", pt_T9, 8)) pf_25_13 (by decide +kernel) rfl (fun _ => ⟨rfl, rfl⟩)
theorem pp_25_17 : pt_okP (25, 17, [2, 9, 2], true) := pt_okP1 (r := ("OfficeSheet$Part", pt_T9, 8)) pf_25_17 (by decide +kernel) rfl (fun _ => ⟨rfl, rfl⟩)
theorem pp_25_28 : pt_okP (25, 28, [1, 9, 3], false) := pt_okP1 (r := ("OfficeSheet$Part", pt_T9, 8)) pf_25_28 (by decide +kernel) rfl (fun h => by cases h)
theorem pp_25_35 : pt_okP (25, 35, [2, 9, 4], false) := pt_okP1 (r := ("OfficeSheet$Part", pt_T9, 8)) pf_25_35 (by decide +kernel) rfl (fun h => by cases h)
theorem pp_25_39 : pt_okP (25, 39, [2, 9, 5], false) := pt_okP1 (r := ("OfficeSheet$Part", pt_T9, 8)) pf_25_39 (by decide +kernel) rfl (fun h => by cases h)
theorem pp_25_42 : pt_okP (25, 42, [2, 9, 6], false) := pt_okP1 (r := ("OfficeSheet$Part", pt_T9, 8)) pf_25_42 (by decide +kernel) rfl (fun h => by cases h)
theorem pp_25_45 : pt_okP (25, 45, [2, 9, 7], false) := pt_okP1 (r := ("OfficeSheet$Part", pt_T9, 8)) pf_25_45 (by decide +kernel) rfl (fun h => by cases h)
theorem pp_28_7 : pt_okP (28, 7, [2, 10, 1], true) := pt_okP1 (r := ("OfficeSheetModel", pt_T10, 44)) pf_28_7 (by decide +kernel) rfl (fun _ => ⟨rfl, rfl⟩)
theorem pp_28_13 : pt_okP (28, 13, [2, 10, 2], true) := pt_okP1 (r := ("OfficeSheetModel", pt_T10, 44)) pf_28_13 (by decide +kernel) rfl (fun _ => ⟨rfl, rfl⟩)
theorem pp_28_16 : pt_okP (28, 16, [2, 10, 3], true) := pt_okP1 (r := ("OfficeSheetModel", pt_T10, 44)) pf_28_16 (by decide +kernel) rfl (fun _ => ⟨rfl, rfl⟩)
theorem pp_28_19 : pt_okP (28, 19, [2, 10, 4], true) := pt_okP1 (r := ("OfficeSheetModel", pt_T10, 44)) pf_28_19 (by decide +kernel) rfl (fun _ => ⟨rfl, rfl⟩)
theorem pp_28_22 : pt_okP (28, 22, [2, 10, 5], true) := pt_okP1 (r := ("OfficeSheetModel", pt_T10, 44)) pf_28_22 (by decide +kernel) rfl (fun _ => ⟨rfl, rfl⟩)
theorem pp_28_25 : pt_okP (28, 25, [2, 10, 6], true) := pt_okP1 (r := ("OfficeSheetModel", pt_T10, 44)) pf_28_25 (by decide +kernel) rfl (fun _ => ⟨rfl, rfl⟩)
theorem pp_28_28 : pt_okP (28, 28, [2, 10, 7], true) := pt_okP1 (r := ("OfficeSheetModel", pt_T10, 44)) pf_28_28 (by decide +kernel) rfl (fun _ => ⟨rfl, rfl⟩)
theorem pp_28_31 : pt_okP (28, 31, [2, 10, 8], true) := pt_okP1 (r := ("OfficeSheetModel", pt_T10, 44)) pf_28_31 (by decide +kernel) rfl (fun _ => ⟨rfl, rfl⟩)
theorem pp_28_34 : pt_okP (28, 34, [2, 10, 9], true) := pt_okP1 (r := ("OfficeSheetModel", pt_T10, 44)) pf_28_34 (by decide +kernel) rfl (fun _ => ⟨rfl, rfl⟩)
theorem pp_28_37 : pt_okP (28, 37, [2, 10, 10], true) := pt_okP1 (r := ("OfficeSheetModel", pt_T10, 44)) pf_28_37 (by decide +kernel) rfl (fun _ => ⟨rfl, rfl⟩)
theorem pp_28_40 : pt_okP (28, 40, [2, 10, 11], true) := pt_okP1 (r := ("OfficeSheetModel", pt_T10, 44)) pf_28_40 (by decide +kernel) rfl (fun _ => ⟨rfl, rfl⟩)
theorem pp_28_43 : pt_okP (28, 43, [2, 10, 12], true) := pt_okP1 (r := ("OfficeSheetModel", pt_T10, 44)) pf_28_43 (by decide +kernel) rfl (fun _ => ⟨rfl, rfl⟩)
theorem pp_28_47 : pt_okP (28, 47, [2, 10, 13], true) := pt_okP1 (r := ("OfficeSheetModel", pt_T10, 44)) pf_28_47 (by decide +kernel) rfl (fun _ => ⟨rfl, rfl⟩)
theorem pp_28_50 : pt_okP (28, 50, [2, 10, 14], true) := pt_okP1 (r := ("OfficeSheetModel", pt_T10, 44)) pf_28_50 (by decide +kernel) rfl (fun _ => ⟨rfl, rfl⟩)
theorem pp_28_53 : pt_okP (28, 53, [2, 10, 15], true) := pt_okP1 (r := ("OfficeSheetModel", pt_T10, 44)) pf_28_53 (by decide +kernel) rfl (fun _ => ⟨rfl, rfl⟩)
theorem pp_28_56 : pt_okP (28, 56, [2, 10, 16], true) := pt_okP1 (r := ("OfficeSheetModel", pt_T10, 44)) pf_28_56 (by decide +kernel) rfl (fun _ => ⟨rfl, rfl⟩)
theorem pp_28_59 : pt_okP (28, 59, [2, 10, 17], true) := pt_okP1 (r := ("OfficeSheetModel", pt_T10, 44)) pf_28_59 (by decide +kernel) rfl (fun _ => ⟨rfl, rfl⟩)
theorem pp_28_62 : pt_okP (28, 62, [2, 10, 18], true) := pt_okP1 (r := ("OfficeSheetModel", pt_T10, 44)) pf_28_62 (by decide +kernel) rfl (fun _ => ⟨rfl, rfl⟩)
theorem pp_28_65 : pt_okP (28, 65, [2, 10, 19], true) := pt_okP1 (r := ("OfficeSheetModel", pt_T10, 44)) pf_28_65 (by decide +kernel) rfl (fun _ => ⟨rfl, rfl⟩)
theorem pp_28_68 : pt_okP (28, 68, [2, 10, 20], true) := pt_okP1 (r := ("OfficeSheetModel", pt_T10, 44)) pf_28_68 (by decide +kernel) rfl (fun _ => ⟨rfl, rfl⟩)
theorem pp_28_71 : pt_okP (28, 71, [2, 10, 21], true) := pt_okP1 (r := ("OfficeSheetModel", pt_T10, 44)) pf_28_71 (by decide +kernel) rfl (fun _ => ⟨rfl, rfl⟩)
theorem pp_28_74 : pt_okP (28, 74, [2, 10, 28], true) := pt_okP1 (r := ("OfficeSheetModel", pt_T10, 44)) pf_28_74 (by decide +kernel) rfl (fun _ => ⟨rfl, rfl⟩)
theorem pp_28_77 : pt_okP (28, 77, [0, 10, 31], false) := pt_okP1 (r := ("OfficeSheetModel", pt_T10, 44)) pf_28_77 (by decide +kernel) rfl (fun h => by cases h)
theorem pp_28_81 : pt_okP (28, 81, [2, 10, 33], true) := pt_okP1 (r := ("OfficeSheetModel", pt_T10, 44)) pf_28_81 (by decide +kernel) rfl (fun _ => ⟨rfl, rfl⟩)
theorem pp_28_84 : pt_okP (28, 84, [2, 10, 34], true) := pt_okP1 (r := ("OfficeSheetModel", pt_T10, 44)) pf_28_84 (by decide +kernel) rfl (fun _ => ⟨rfl, rfl⟩)
theorem pp_28_87 : pt_okP (28, 87, [2, 10, 35], true) := pt_okP1 (r := ("OfficeSheetModel", pt_T10, 44)) pf_28_87 (by decide +kernel) rfl (fun _ => ⟨rfl, rfl⟩)
theorem pp_28_90 : pt_okP (28, 90, [2, 10, 36], true) := pt_okP1 (r := ("OfficeSheetModel", pt_T10, 44)) pf_28_90 (by decide +kernel) rfl (fun _ => ⟨rfl, rfl⟩)
theorem pp_28_93 : pt_okP (28, 93, [2, 10, 37], true) := pt_okP1 (r := ("OfficeSheetModel", pt_T10, 44)) pf_28_93 (by decide +kernel) rfl (fun _ => ⟨rfl, rfl⟩)
theorem pp_28_97 : pt_okP (28, 97, [2, 10, 38], true) := pt_okP1 (r := ("OfficeSheetModel", pt_T10, 44)) pf_28_97 (by decide +kernel) rfl (fun _ => ⟨rfl, rfl⟩)
theorem pp_28_100 : pt_okP (28, 100, [2, 10, 40], true) := pt_okP1 (r := ("OfficeSheetModel", pt_T10, 44)) pf_28_100 (by decide +kernel) rfl (fun _ => ⟨rfl, rfl⟩)
theorem pp_28_103 : pt_okP (28, 103, [2, 10, 41], true) := pt_okP1 (r := ("OfficeSheetModel", pt_T10, 44)) pf_28_103 (by decide +kernel) rfl (fun _ => ⟨rfl, rfl⟩)
theorem pp_28_106 : pt_okP (28, 106, [2, 10, 42], true) := pt_okP1 (r := ("OfficeSheetModel", pt_T10, 44)) pf_28_106 (by decide +kernel) rfl (fun _ => ⟨rfl, rfl⟩)
theorem pp_28_109 : pt_okP (28, 109, [0, 10, 0], false) := pt_okP1 (r := ("OfficeSheetModel", pt_T10, 44)) pf_28_109 (by decide +kernel) rfl (fun h => by cases h)
theorem pp_28_172 : pt_okP (28, 172, [0, 10, 22], false) := pt_okP1 (r := ("OfficeSheetModel", pt_T10, 44)) pf_28_172 (by decide +kernel) rfl (fun h => by cases h)
theorem pp_28_175 : pt_okP (28, 175, [0, 10, 23], false) := pt_okP1 (r := ("OfficeSheetModel", pt_T10, 44)) pf_28_175 (by decide +kernel) rfl (fun h => by cases h)
theorem pp_28_190 : pt_okP (28, 190, [0, 10, 26], false) := pt_okP1 (r := ("OfficeSheetModel", pt_T10, 44)) pf_28_190 (by decide +kernel) rfl (fun h => by cases h)
theorem pp_28_193 : pt_okP (28, 193, [0, 10, 25], false) := pt_okP1 (r := ("OfficeSheetModel", pt_T10, 44)) pf_28_193 (by decide +kernel) rfl (fun h => by cases h)
theorem pp_28_196 : pt_okP (28, 196, [0, 10, 27], false) := pt_okP1 (r := ("OfficeSheetModel", pt_T10, 44)) pf_28_196 (by decide +kernel) rfl (fun h => by cases h)
theorem pp_28_199 : pt_okP (28, 199, [0, 10, 24], false) := pt_okP1 (r := ("OfficeSheetModel", pt_T10, 44)) pf_28_199 (by decide +kernel) rfl (fun h => by cases h)
theorem pp_28_209 : pt_okP (28, 209, [0, 10, 29], false) := pt_okP1 (r := ("OfficeSheetModel", pt_T10, 44)) pf_28_209 (by decide +kernel) rfl (fun h => by cases h)
theorem pp_28_224 : pt_okP (28, 224, [0, 10, 30], false) := pt_okP1 (r := ("OfficeSheetModel", pt_T10, 44)) pf_28_224 (by decide +kernel) rfl (fun h => by cases h)
theorem pp_28_246 : pt_okP (28, 246, [0, 10, 32], false) := pt_okP1 (r := ("OfficeSheetModel", pt_T10, 44)) pf_28_246 (by decide +kernel) rfl (fun h => by cases h)
theorem pp_28_330 : pt_okP (28, 330, [0, 10, 39], false) := pt_okP1 (r := ("OfficeSheetModel", pt_T10, 44)) pf_28_330 (by decide +kernel) rfl (fun h => by cases h)
theorem pp_28_339 : pt_okP (28, 339, [0, 10, 43], false) := pt_okP1 (r := ("OfficeSheetModel", pt_T10, 44)) pf_28_339 (by decide +kernel) rfl (fun h => by cases h)
def pt_PE : List (Nat × Nat × List Nat × Bool) := [(1, 11, [2, 0, 0], true), (1, 18, [2, 0, 1], true), (1, 25, [2, 0, 2], true), (1, 32, [2, 0, 3], true), (2, 12, [2, 1, 0], true), (2, 18, [2, 1, 1], true), (2, 22, [0, 1, 2], false), (2, 26, [0, 1, 3], false), (2, 29, [0, 1, 4], false), (2, 32, [2, 1, 5], false), (2, 36, [2, 1, 6], false), (4, 15, [2, 11, 0], false), (4, 22, [4, 11, 1], false), (4, 73, [3, 11, 2], false), (4, 79, [0, 11, 3], false), (6, 11, [2, 2, 0], true), (6, 17, [2, 2, 1], true), (6, 21, [2, 2, 2], true), (6, 25, [0, 2, 3], false), (6, 29, [3, 2, 6], false), (6, 61, [2, 2, 4], false), (6, 65, [2, 2, 5], false), (7, 12, [2, 3, 0], true), (7, 18, [2, 3, 1], false), (7, 22, [2, 3, 2], false), (8, 9, [2, 4, 1], true), (8, 17, [2, 4, 2], true), (8, 23, [2, 4, 3], true), (8, 30, [2, 4, 4], true), (8, 34, [0, 4, 5], false), (8, 38, [0, 4, 0], true), (9, 9, [2, 12, 0], false), (9, 48, [0, 12, 1], false), (9, 63, [0, 12, 2], false), (10, 7, [0, 12, 2], false), (12, 12, [2, 5, 0], true), (12, 18, [2, 5, 1], true), (12, 23, [2, 5, 2], true), (12, 27, [2, 5, 3], true), (12, 30, [2, 5, 4], true), (17, 9, [2, 13, 0], true), (17, 15, [4, 13, 1], true), (21, 7, [0, 6, 0], true), (21, 13, [0, 6, 1], true), (21, 22, [0, 6, 2], true), (22, 7, [2, 7, 0], true), (22, 19, [0, 7, 1], true), (22, 26, [0, 7, 2], true), (22, 32, [0, 7, 3], true), (22, 44, [2, 7, 4], true), (22, 47, [2, 7, 5], false), (22, 51, [2, 7, 6], false), (22, 55, [2, 7, 7], false), (22, 58, [2, 7, 8], false), (22, 61, [2, 7, 9], false), (22, 64, [2, 7, 10], false), (22, 68, [2, 7, 11], false), (23, 7, [2, 8, 0], true), (23, 13, [2, 8, 1], true), (23, 17, [0, 8, 2], true), (25, 7, [2, 9, 0], true), (25, 13, [2, 9, 1], true), (25, 17, [2, 9, 2], true), (25, 28, [1, 9, 3], false), (25, 35, [2, 9, 4], false), (25, 39, [2, 9, 5], false), (25, 42, [2, 9, 6], false), (25, 45, [2, 9, 7], false), (28, 7, [2, 10, 1], true), (28, 13, [2, 10, 2], true), (28, 16, [2, 10, 3], true), (28, 19, [2, 10, 4], true), (28, 22, [2, 10, 5], true), (28, 25, [2, 10, 6], true), (28, 28, [2, 10, 7], true), (28, 31, [2, 10, 8], true), (28, 34, [2, 10, 9], true), (28, 37, [2, 10, 10], true), (28, 40, [2, 10, 11], true), (28, 43, [2, 10, 12], true), (28, 47, [2, 10, 13], true), (28, 50, [2, 10, 14], true), (28, 53, [2, 10, 15], true), (28, 56, [2, 10, 16], true), (28, 59, [2, 10, 17], true), (28, 62, [2, 10, 18], true), (28, 65, [2, 10, 19], true), (28, 68, [2, 10, 20], true), (28, 71, [2, 10, 21], true), (28, 74, [2, 10, 28], true), (28, 77, [0, 10, 31], false), (28, 81, [2, 10, 33], true), (28, 84, [2, 10, 34], true), (28, 87, [2, 10, 35], true), (28, 90, [2, 10, 36], true), (28, 93, [2, 10, 37], true), (28, 97, [2, 10, 38], true), (28, 100, [2, 10, 40], true), (28, 103, [2, 10, 41], true), (28, 106, [2, 10, 42], true), (28, 109, [0, 10, 0], false), (28, 172, [0, 10, 22], false), (28, 175, [0, 10, 23], false), (28, 190, [0, 10, 26], false), (28, 193, [0, 10, 25], false), (28, 196, [0, 10, 27], false), (28, 199, [0, 10, 24], false), (28, 209, [0, 10, 29], false), (28, 224, [0, 10, 30], false), (28, 246, [0, 10, 32], false), (28, 330, [0, 10, 39], false), (28, 339, [0, 10, 43], false)]
set_option maxRecDepth 100000 in
theorem pt_PE_ok : ∀ q ∈ pt_PE, pt_okP q := pm_fc (P := pt_okP) pp_1_11 (pm_fc (P := pt_okP) pp_1_18 (pm_fc (P := pt_okP) pp_1_25 (pm_fc (P := pt_okP) pp_1_32 (pm_fc (P := pt_okP) pp_2_12 (pm_fc (P := pt_okP) pp_2_18 (pm_fc (P := pt_okP) pp_2_22 (pm_fc (P := pt_okP) pp_2_26 (pm_fc (P := pt_okP) pp_2_29 (pm_fc (P := pt_okP) pp_2_32 (pm_fc (P := pt_okP) pp_2_36 (pm_fc (P := pt_okP) pp_4_15 (pm_fc (P := pt_okP) pp_4_22 (pm_fc (P := pt_okP) pp_4_73 (pm_fc (P := pt_okP) pp_4_79 (pm_fc (P := pt_okP) pp_6_11 (pm_fc (P := pt_okP) pp_6_17 (pm_fc (P := pt_okP) pp_6_21 (pm_fc (P := pt_okP) pp_6_25 (pm_fc (P := pt_okP) pp_6_29 (pm_fc (P := pt_okP) pp_6_61 (pm_fc (P := pt_okP) pp_6_65 (pm_fc (P := pt_okP) pp_7_12 (pm_fc (P := pt_okP) pp_7_18 (pm_fc (P := pt_okP) pp_7_22 (pm_fc (P := pt_okP) pp_8_9 (pm_fc (P := pt_okP) pp_8_17 (pm_fc (P := pt_okP) pp_8_23 (pm_fc (P := pt_okP) pp_8_30 (pm_fc (P := pt_okP) pp_8_34 (pm_fc (P := pt_okP) pp_8_38 (pm_fc (P := pt_okP) pp_9_9 (pm_fc (P := pt_okP) pp_9_48 (pm_fc (P := pt_okP) pp_9_63 (pm_fc (P := pt_okP) pp_10_7 (pm_fc (P := pt_okP) pp_12_12 (pm_fc (P := pt_okP) pp_12_18 (pm_fc (P := pt_okP) pp_12_23 (pm_fc (P := pt_okP) pp_12_27 (pm_fc (P := pt_okP) pp_12_30 (pm_fc (P := pt_okP) pp_17_9 (pm_fc (P := pt_okP) pp_17_15 (pm_fc (P := pt_okP) pp_21_7 (pm_fc (P := pt_okP) pp_21_13 (pm_fc (P := pt_okP) pp_21_22 (pm_fc (P := pt_okP) pp_22_7 (pm_fc (P := pt_okP) pp_22_19 (pm_fc (P := pt_okP) pp_22_26 (pm_fc (P := pt_okP) pp_22_32 (pm_fc (P := pt_okP) pp_22_44 (pm_fc (P := pt_okP) pp_22_47 (pm_fc (P := pt_okP) pp_22_51 (pm_fc (P := pt_okP) pp_22_55 (pm_fc (P := pt_okP) pp_22_58 (pm_fc (P := pt_okP) pp_22_61 (pm_fc (P := pt_okP) pp_22_64 (pm_fc (P := pt_okP) pp_22_68 (pm_fc (P := pt_okP) pp_23_7 (pm_fc (P := pt_okP) pp_23_13 (pm_fc (P := pt_okP) pp_23_17 (pm_fc (P := pt_okP) pp_25_7 (pm_fc (P := pt_okP) pp_25_13 (pm_fc (P := pt_okP) pp_25_17 (pm_fc (P := pt_okP) pp_25_28 (pm_fc (P := pt_okP) pp_25_35 (pm_fc (P := pt_okP) pp_25_39 (pm_fc (P := pt_okP) pp_25_42 (pm_fc (P := pt_okP) pp_25_45 (pm_fc (P := pt_okP) pp_28_7 (pm_fc (P := pt_okP) pp_28_13 (pm_fc (P := pt_okP) pp_28_16 (pm_fc (P := pt_okP) pp_28_19 (pm_fc (P := pt_okP) pp_28_22 (pm_fc (P := pt_okP) pp_28_25 (pm_fc (P := pt_okP) pp_28_28 (pm_fc (P := pt_okP) pp_28_31 (pm_fc (P := pt_okP) pp_28_34 (pm_fc (P := pt_okP) pp_28_37 (pm_fc (P := pt_okP) pp_28_40 (pm_fc (P := pt_okP) pp_28_43 (pm_fc (P := pt_okP) pp_28_47 (pm_fc (P := pt_okP) pp_28_50 (pm_fc (P := pt_okP) pp_28_53 (pm_fc (P := pt_okP) pp_28_56 (pm_fc (P := pt_okP) pp_28_59 (pm_fc (P := pt_okP) pp_28_62 (pm_fc (P := pt_okP) pp_28_65 (pm_fc (P := pt_okP) pp_28_68 (pm_fc (P := pt_okP) pp_28_71 (pm_fc (P := pt_okP) pp_28_74 (pm_fc (P := pt_okP) pp_28_77 (pm_fc (P := pt_okP) pp_28_81 (pm_fc (P := pt_okP) pp_28_84 (pm_fc (P := pt_okP) pp_28_87 (pm_fc (P := pt_okP) pp_28_90 (pm_fc (P := pt_okP) pp_28_93 (pm_fc (P := pt_okP) pp_28_97 (pm_fc (P := pt_okP) pp_28_100 (pm_fc (P := pt_okP) pp_28_103 (pm_fc (P := pt_okP) pp_28_106 (pm_fc (P := pt_okP) pp_28_109 (pm_fc (P := pt_okP) pp_28_172 (pm_fc (P := pt_okP) pp_28_175 (pm_fc (P := pt_okP) pp_28_190 (pm_fc (P := pt_okP) pp_28_193 (pm_fc (P := pt_okP) pp_28_196 (pm_fc (P := pt_okP) pp_28_199 (pm_fc (P := pt_okP) pp_28_209 (pm_fc (P := pt_okP) pp_28_224 (pm_fc (P := pt_okP) pp_28_246 (pm_fc (P := pt_okP) pp_28_330 (pm_fc (P := pt_okP) pp_28_339 (pm_fn))))))))))))))))))))))))))))))))))))))))))))))))))))))))))))))))))))))))))))))))))))))))))))))))))))))))))))))))
/-! objects made -/
def pt_okN (q : Nat × Nat × List Value × List Nat) : Prop := ∃ (ci sl : Nat) (r : vw_C), q.2.2.2 = [ci, sl] ∧ pt_cl[ci]? = some r ∧ q.2.2.1 = (List.range r.2.2).map (fun k => defaultValue (pt_ft ci k)) ∧ Cond.classLink (pt_own.getD q.1 "") q.2.1 r.1 ∈ pt_Ts ∧ Cond.instantiable r.1 sl ∈ pt_Ts ∧ Cond.initialized r.1 ∈ pt_Ts
theorem pn_0_8 : pt_okN (0, 8, [.null, .null, .null, .null], [0, 4]) := ⟨0, 4, ("OfficeSheet", pt_T0, 4), rfl, rfl, by decide +kernel, pt_in 40 (by decide +kernel) rfl, pt_in 41 (by decide +kernel) rfl, pt_in 1 (by decide +kernel) rfl⟩
theorem pn_0_77 : pt_okN (0, 77, [.int 0, .null, .null, .null, .null, .null, .null, .null, .null, .null, .null, .null, .null, .null, .null, .null, .null, .null, .null, .null, .null, .null, .int 0, .int 0, .int 0, .int 0, .int 0, .int 0, .null, .int 0, .int 0, .int 0, .int 0, .null, .null, .null, .null, .null, .null, .int 0, .null, .null, .null, .int 0], [10, 44]) := ⟨10, 44, ("OfficeSheetModel", pt_T10, 44), rfl, rfl, by decide +kernel, pt_in 1570 (by decide +kernel) rfl, pt_in 1571 (by decide +kernel) rfl, pt_in 15 (by decide +kernel) rfl⟩
theorem pn_1_9 : pt_okN (1, 9, [.int 0, .null, .null, .null, .null, .int 0], [4, 6]) := ⟨4, 6, ("OfficeSheet$Office", pt_T4, 6), rfl, rfl, by decide +kernel, pt_in 48 (by decide +kernel) rfl, pt_in 165 (by decide +kernel) rfl, pt_in 9 (by decide +kernel) rfl⟩
theorem pn_1_15 : pt_okN (1, 15, [.null, .null, .int 0, .int 0, .int 0, .null, .null], [1, 7]) := ⟨1, 7, ("OfficeSheet$Reader", pt_T1, 7), rfl, rfl, by decide +kernel, pt_in 50 (by decide +kernel) rfl, pt_in 51 (by decide +kernel) rfl, pt_in 2 (by decide +kernel) rfl⟩
theorem pn_1_22 : pt_okN (1, 22, [.null, .null, .null, .int 0, .null, .null, .int 0], [2, 7]) := ⟨2, 7, ("OfficeSheet$Calculator", pt_T2, 7), rfl, rfl, by decide +kernel, pt_in 114 (by decide +kernel) rfl, pt_in 115 (by decide +kernel) rfl, pt_in 7 (by decide +kernel) rfl⟩
theorem pn_1_29 : pt_okN (1, 29, [.null, .null, .null], [3, 3]) := ⟨3, 3, ("OfficeSheet$Writer", pt_T3, 3), rfl, rfl, by decide +kernel, pt_in 146 (by decide +kernel) rfl, pt_in 147 (by decide +kernel) rfl, pt_in 8 (by decide +kernel) rfl⟩
theorem pn_2_9 : pt_okN (2, 9, [.null, .int 0, .int 0, .int 0], [11, 4]) := ⟨11, 4, ("java/lang/StringBuilder", pt_T11, 4), rfl, rfl, by decide +kernel, pt_in 56 (by decide +kernel) rfl, pt_in 57 (by decide +kernel) rfl, pt_in 4 (by decide +kernel) rfl⟩
theorem pn_2_49 : pt_okN (2, 49, [.null, .null, .null, .long 0, .null, .null, .null, .null], [9, 8]) := ⟨9, 8, ("OfficeSheet$Part", pt_T9, 8), rfl, rfl, by decide +kernel, pt_in 1089 (by decide +kernel) rfl, pt_in 1090 (by decide +kernel) rfl, pt_in 36 (by decide +kernel) rfl⟩
theorem pn_3_18 : pt_okN (3, 18, [.null, .int 0, .int 0, .int 0], [13, 4]) := ⟨13, 4, ("java/lang/String", pt_T13, 4), rfl, rfl, by decide +kernel, pt_in 564 (by decide +kernel) rfl, pt_in 565 (by decide +kernel) rfl, pt_in 5 (by decide +kernel) rfl⟩
theorem pn_7_9 : pt_okN (7, 9, [.null, .int 0, .int 0, .int 0], [11, 4]) := ⟨11, 4, ("java/lang/StringBuilder", pt_T11, 4), rfl, rfl, by decide +kernel, pt_in 152 (by decide +kernel) rfl, pt_in 57 (by decide +kernel) rfl, pt_in 4 (by decide +kernel) rfl⟩
theorem pn_8_15 : pt_okN (8, 15, [.null, .int 0, .int 0, .int 0, .null, .null, .null, .null, .null, .null, .null, .null], [7, 12]) := ⟨7, 12, ("OfficeSheet$Act", pt_T7, 12), rfl, rfl, by decide +kernel, pt_in 170 (by decide +kernel) rfl, pt_in 764 (by decide +kernel) rfl, pt_in 32 (by decide +kernel) rfl⟩
theorem pn_8_21 : pt_okN (8, 21, [.null, .null, .null, .null, .null], [5, 5]) := ⟨5, 5, ("OfficeSheet$Axis", pt_T5, 5), rfl, rfl, by decide +kernel, pt_in 171 (by decide +kernel) rfl, pt_in 199 (by decide +kernel) rfl, pt_in 13 (by decide +kernel) rfl⟩
theorem pn_8_27 : pt_okN (8, 27, [.null, .int 0, .int 0], [12, 3]) := ⟨12, 3, ("java/util/ArrayList", pt_T12, 3), rfl, rfl, by decide +kernel, pt_in 173 (by decide +kernel) rfl, pt_in 174 (by decide +kernel) rfl, pt_in 12 (by decide +kernel) rfl⟩
theorem pn_8_42 : pt_okN (8, 42, [.int 0, .int 0, .int 0], [6, 3]) := ⟨6, 3, ("OfficeSheet$Line", pt_T6, 3), rfl, rfl, by decide +kernel, pt_in 741 (by decide +kernel) rfl, pt_in 742 (by decide +kernel) rfl, pt_in 31 (by decide +kernel) rfl⟩
theorem pn_8_60 : pt_okN (8, 60, [.null, .null, .int 0], [8, 3]) := ⟨8, 3, ("OfficeSheet$Place", pt_T8, 3), rfl, rfl, by decide +kernel, pt_in 835 (by decide +kernel) rfl, pt_in 836 (by decide +kernel) rfl, pt_in 35 (by decide +kernel) rfl⟩
theorem pn_9_20 : pt_okN (9, 20, [.null, .int 0, .int 0, .int 0], [11, 4]) := ⟨11, 4, ("java/lang/StringBuilder", pt_T11, 4), rfl, rfl, by decide +kernel, pt_in 973 (by decide +kernel) rfl, pt_in 57 (by decide +kernel) rfl, pt_in 4 (by decide +kernel) rfl⟩
theorem pn_12_9 : pt_okN (12, 9, [.null, .int 0, .int 0], [12, 3]) := ⟨12, 3, ("java/util/ArrayList", pt_T12, 3), rfl, rfl, by decide +kernel, pt_in 204 (by decide +kernel) rfl, pt_in 174 (by decide +kernel) rfl, pt_in 12 (by decide +kernel) rfl⟩
theorem pn_13_45 : pt_okN (13, 45, [.null, .int 0, .int 0, .int 0], [11, 4]) := ⟨11, 4, ("java/lang/StringBuilder", pt_T11, 4), rfl, rfl, by decide +kernel, pt_in 590 (by decide +kernel) rfl, pt_in 57 (by decide +kernel) rfl, pt_in 4 (by decide +kernel) rfl⟩
theorem pn_25_8 : pt_okN (25, 8, [.null, .null, .null, .long 0, .null, .null, .null, .null], [9, 8]) := ⟨9, 8, ("OfficeSheet$Part", pt_T9, 8), rfl, rfl, by decide +kernel, pt_in 1112 (by decide +kernel) rfl, pt_in 1090 (by decide +kernel) rfl, pt_in 36 (by decide +kernel) rfl⟩
def pt_NE : List (Nat × Nat × List Value × List Nat) := [(0, 8, [.null, .null, .null, .null], [0, 4]), (0, 77, [.int 0, .null, .null, .null, .null, .null, .null, .null, .null, .null, .null, .null, .null, .null, .null, .null, .null, .null, .null, .null, .null, .null, .int 0, .int 0, .int 0, .int 0, .int 0, .int 0, .null, .int 0, .int 0, .int 0, .int 0, .null, .null, .null, .null, .null, .null, .int 0, .null, .null, .null, .int 0], [10, 44]), (1, 9, [.int 0, .null, .null, .null, .null, .int 0], [4, 6]), (1, 15, [.null, .null, .int 0, .int 0, .int 0, .null, .null], [1, 7]), (1, 22, [.null, .null, .null, .int 0, .null, .null, .int 0], [2, 7]), (1, 29, [.null, .null, .null], [3, 3]), (2, 9, [.null, .int 0, .int 0, .int 0], [11, 4]), (2, 49, [.null, .null, .null, .long 0, .null, .null, .null, .null], [9, 8]), (3, 18, [.null, .int 0, .int 0, .int 0], [13, 4]), (7, 9, [.null, .int 0, .int 0, .int 0], [11, 4]), (8, 15, [.null, .int 0, .int 0, .int 0, .null, .null, .null, .null, .null, .null, .null, .null], [7, 12]), (8, 21, [.null, .null, .null, .null, .null], [5, 5]), (8, 27, [.null, .int 0, .int 0], [12, 3]), (8, 42, [.int 0, .int 0, .int 0], [6, 3]), (8, 60, [.null, .null, .int 0], [8, 3]), (9, 20, [.null, .int 0, .int 0, .int 0], [11, 4]), (12, 9, [.null, .int 0, .int 0], [12, 3]), (13, 45, [.null, .int 0, .int 0, .int 0], [11, 4]), (25, 8, [.null, .null, .null, .long 0, .null, .null, .null, .null], [9, 8])]
theorem pt_NE_ok : ∀ q ∈ pt_NE, pt_okN q := pm_fc (P := pt_okN) pn_0_8 (pm_fc (P := pt_okN) pn_0_77 (pm_fc (P := pt_okN) pn_1_9 (pm_fc (P := pt_okN) pn_1_15 (pm_fc (P := pt_okN) pn_1_22 (pm_fc (P := pt_okN) pn_1_29 (pm_fc (P := pt_okN) pn_2_9 (pm_fc (P := pt_okN) pn_2_49 (pm_fc (P := pt_okN) pn_3_18 (pm_fc (P := pt_okN) pn_7_9 (pm_fc (P := pt_okN) pn_8_15 (pm_fc (P := pt_okN) pn_8_21 (pm_fc (P := pt_okN) pn_8_27 (pm_fc (P := pt_okN) pn_8_42 (pm_fc (P := pt_okN) pn_8_60 (pm_fc (P := pt_okN) pn_9_20 (pm_fc (P := pt_okN) pn_12_9 (pm_fc (P := pt_okN) pn_13_45 (pm_fc (P := pt_okN) pn_25_8 (pm_fn)))))))))))))))))))
/-! arrays of references made; casts; numbers and texts of the pools -/
def pt_tn (t : Nat) : String := match t with
  | 10 => "OfficeSheet$Office"
  | 11 => "OfficeSheet$Act"
  | 12 => "OfficeSheet$Axis"
  | _ => "java/lang/Object"
def pt_tys (A : Nat → ClassId) (t : Nat) : Option (ClassId × FieldType) := match t with
  | 0 => some (A 0, .int)
  | 1 => some (A 1, .long)
  | 3 => some (A 3, .boolean)
  | 4 => some (A 4, .byte)
  | 10 => some (A 10, .object "OfficeSheet$Office")
  | 11 => some (A 11, .object "OfficeSheet$Act")
  | 12 => some (A 12, .object "OfficeSheet$Axis")
  | 13 => some (A 13, .object "java/lang/Object")
  | _ => none
theorem pt_tyk (A : Nat → ClassId) : pm_tyk (pt_tys A) := by
  intro t q h
  unfold pt_tys at h
  split at h
  all_goals first | (cases h; done) | (cases h; refine ⟨fun z => ?_, fun z => ?_, fun z => ?_, fun z => ?_, fun z => ?_, fun z => ?_, fun z => ?_⟩ <;> first | rfl | exact ⟨_, rfl⟩ | (exfalso; omega))
theorem pt_tys2 (A : Nat → ClassId) : pt_tys A 2 = none := rfl
theorem pt_tnk (A : Nat → ClassId) : ∀ (t : Nat) (q : ClassId × FieldType), 10 ≤ t → pt_tys A t = some q → q.2 = .object (pt_tn t) := by
  intro t q h10 h
  unfold pt_tys at h
  split at h
  all_goals first | (cases h; done) | (cases h; first | rfl | (exfalso; omega))
def pt_asg : List (Nat × Nat) := [(10, 4), (11, 7), (12, 5), (13, 6), (13, 7), (13, 8)]
theorem pt_okA : pm_okA pt_Ns pt_cl pt_tn pt_asg := pm_fc (fun r h => by cases h; exact Or.inl rfl) (pm_fc (fun r h => by cases h; exact Or.inl rfl) (pm_fc (fun r h => by cases h; exact Or.inl rfl) (pm_fc (fun r h => by cases h; exact Or.inr (pt_inN 2058 (by decide +kernel) rfl)) (pm_fc (fun r h => by cases h; exact Or.inr (pt_inN 2059 (by decide +kernel) rfl)) (pm_fc (fun r h => by cases h; exact Or.inr (pt_inN 2060 (by decide +kernel) rfl)) (pm_fn))))))
def pt_okO (q : Nat × Nat × List Nat) : Prop := ∃ t, q.2.2 = [t] ∧ 10 ≤ t ∧ t < 14 ∧ Cond.classLink (pt_own.getD q.1 "") q.2.1 (pt_tn t) ∈ pt_Ts
def pt_OE : List (Nat × Nat × List Nat) := [(1, 9, [10]), (12, 21, [11]), (6, 9, [11]), (8, 15, [11]), (8, 21, [12]), (9, 7, [13]), (13, 2, [13])]
theorem pt_OE_ok : ∀ q ∈ pt_OE, pt_okO q := pm_fc (P := pt_okO) ⟨10, rfl, by decide, by decide, pt_in 48 (by decide +kernel) rfl⟩ (pm_fc (P := pt_okO) ⟨11, rfl, by decide, by decide, pt_in 206 (by decide +kernel) rfl⟩ (pm_fc (P := pt_okO) ⟨11, rfl, by decide, by decide, pt_in 120 (by decide +kernel) rfl⟩ (pm_fc (P := pt_okO) ⟨11, rfl, by decide, by decide, pt_in 170 (by decide +kernel) rfl⟩ (pm_fc (P := pt_okO) ⟨12, rfl, by decide, by decide, pt_in 171 (by decide +kernel) rfl⟩ (pm_fc (P := pt_okO) ⟨13, rfl, by decide, by decide, pt_in 938 (by decide +kernel) rfl⟩ (pm_fc (P := pt_okO) ⟨13, rfl, by decide, by decide, pt_in 936 (by decide +kernel) rfl⟩ (pm_fn)))))))
def pt_okCa (q : Nat × Nat × List Nat) : Prop := ∃ nm, Cond.classLink (pt_own.getD q.1 "") q.2.1 nm ∈ pt_Ts ∧ (∀ (ci : Nat) (r : vw_C), ci ∈ q.2.2 → pt_cl[ci]? = some r → nm = r.1 ∨ Cond.castable r.1 nm ∈ pt_Ns) ∧ ∀ (A : Nat → ClassId) (t : Nat) (x : ClassId × FieldType), 1000 + t ∈ q.2.2 → pt_tys A t = some x → "[" ++ x.2.toString = nm
theorem pt_caO {o i ci : Nat} {nm : String} {r : vw_C} (h : Cond.classLink (pt_own.getD o "") i nm ∈ pt_Ts) (hlt : ci < 1000) (hc : pt_cl[ci]? = some r) (hn : nm = r.1) : pt_okCa (o, i, [ci]) := by
  refine ⟨nm, h, ?_, ?_⟩
  · intro ci' r' hm hr
    have e : ci' = ci := List.mem_singleton.mp hm
    subst e
    cases hc.symm.trans hr
    exact Or.inl hn
  · intro A t x hm _
    have e : 1000 + t = ci := List.mem_singleton.mp hm
    omega
theorem pt_caA {o i t : Nat} {nm : String} (h : Cond.classLink (pt_own.getD o "") i nm ∈ pt_Ts) (hn : ∀ (A : Nat → ClassId) (x : ClassId × FieldType), pt_tys A t = some x → "[" ++ x.2.toString = nm) : pt_okCa (o, i, [1000 + t]) := by
  refine ⟨nm, h, ?_, ?_⟩
  · intro ci' r' hm hr
    have e : ci' = 1000 + t := List.mem_singleton.mp hm
    subst e
    have hl : pt_cl.length < 1000 + t := Nat.lt_of_lt_of_le (show pt_cl.length < 1000 by decide) (Nat.le_add_right _ _)
    rw [List.getElem?_eq_none (Nat.le_of_lt hl)] at hr
    cases hr
  · intro A t' x hm hx
    have e : 1000 + t' = 1000 + t := List.mem_singleton.mp hm
    have e' : t' = t := by omega
    subst e'
    exact hn A x hx
def pt_CE : List (Nat × Nat × List Nat) := [(1, 98, [6]), (22, 40, [1000]), (12, 99, [8]), (6, 9, [7]), (8, 15, [7]), (2, 174, [6]), (13, 110, [1013]), (13, 311, [1004])]
theorem pt_ca0 : pt_okCa (1, 98, [6]) := pt_caO (nm := "OfficeSheet$Line") (pt_in 723 (by decide +kernel) rfl) (by decide) rfl rfl
theorem pt_ca1 : pt_okCa (22, 40, [1000]) := pt_caA (t := 0) (nm := "[I") (pt_in 780 (by decide +kernel) rfl) (fun A x hx => by cases hx; rfl)
theorem pt_ca2 : pt_okCa (12, 99, [8]) := pt_caO (nm := "OfficeSheet$Place") (pt_in 959 (by decide +kernel) rfl) (by decide) rfl rfl
theorem pt_ca3 : pt_okCa (6, 9, [7]) := pt_caO (nm := "OfficeSheet$Act") (pt_in 120 (by decide +kernel) rfl) (by decide) rfl rfl
theorem pt_ca4 : pt_okCa (8, 15, [7]) := pt_caO (nm := "OfficeSheet$Act") (pt_in 170 (by decide +kernel) rfl) (by decide) rfl rfl
theorem pt_ca5 : pt_okCa (2, 174, [6]) := pt_caO (nm := "OfficeSheet$Line") (pt_in 1189 (by decide +kernel) rfl) (by decide) rfl rfl
theorem pt_ca6 : pt_okCa (13, 110, [1013]) := pt_caA (t := 13) (nm := "[Ljava/lang/Object;") (pt_in 934 (by decide +kernel) rfl) (fun A x hx => by cases hx; rfl)
theorem pt_ca7 : pt_okCa (13, 311, [1004]) := pt_caA (t := 4) (nm := "[B") (pt_in 405 (by decide +kernel) rfl) (fun A x hx => by cases hx; rfl)
theorem pt_CE_ok : ∀ q ∈ pt_CE, pt_okCa q := pm_fc (P := pt_okCa) pt_ca0 (pm_fc (P := pt_okCa) pt_ca1 (pm_fc (P := pt_okCa) pt_ca2 (pm_fc (P := pt_okCa) pt_ca3 (pm_fc (P := pt_okCa) pt_ca4 (pm_fc (P := pt_okCa) pt_ca5 (pm_fc (P := pt_okCa) pt_ca6 (pm_fc (P := pt_okCa) pt_ca7 (pm_fn))))))))
def pt_okL (q : Nat × Nat × List Value) : Prop := ∃ v, q.2.2 = [.int v] ∧ Jvm.Cond.constant (pt_own.getD q.1 "") q.2.1 v ∈ pt_Ts
def pt_LE : List (Nat × Nat × List Value) := [(4, 39, [.int 2147483647]), (5, 20, [.int 1073741823]), (14, 200, [.int 2147483639])]
theorem pt_LE_ok : ∀ q ∈ pt_LE, pt_okL q := pm_fc (P := pt_okL) ⟨2147483647, rfl, pt_in 395 (by decide +kernel) rfl⟩ (pm_fc (P := pt_okL) ⟨1073741823, rfl, pt_in 73 (by decide +kernel) rfl⟩ (pm_fc (P := pt_okL) ⟨2147483639, rfl, pt_in 391 (by decide +kernel) rfl⟩ (pm_fn)))
def pt_okL2 (q : Nat × Nat × List Value) : Prop := ∃ v, q.2.2 = [.long v] ∧ Jvm.Cond.constantLong (pt_own.getD q.1 "") q.2.1 v ∈ pt_Ts
def pt_L2 : List (Nat × Nat × List Value) := [(6, 53, [.long 1000000000]), (6, 155, [.long 10000]), (6, 161, [.long (-1000000000)]), (6, 163, [.long 2]), (2, 180, [.long (-1)]), (2, 182, [.long 1000000000]), (2, 184, [.long 10]), (28, 184, [.long 10]), (28, 186, [.long 48]), (28, 188, [.long 1000000000]), (28, 276, [.long (-1000000000)]), (28, 281, [.long 2]), (28, 283, [.long 4000000000]), (28, 285, [.long 4000000001]), (28, 287, [.long 10000]), (28, 297, [.long 4000000004]), (28, 299, [.long 4000000002]), (28, 319, [.long 4000000003])]
theorem pt_L2_ok : ∀ q ∈ pt_L2, pt_okL2 q := pm_fc (P := pt_okL2) ⟨1000000000, rfl, pt_in 1403 (by decide +kernel) rfl⟩ (pm_fc (P := pt_okL2) ⟨10000, rfl, pt_in 1439 (by decide +kernel) rfl⟩ (pm_fc (P := pt_okL2) ⟨(-1000000000), rfl, pt_in 1434 (by decide +kernel) rfl⟩ (pm_fc (P := pt_okL2) ⟨2, rfl, pt_in 1447 (by decide +kernel) rfl⟩ (pm_fc (P := pt_okL2) ⟨(-1), rfl, pt_in 1206 (by decide +kernel) rfl⟩ (pm_fc (P := pt_okL2) ⟨1000000000, rfl, pt_in 1207 (by decide +kernel) rfl⟩ (pm_fc (P := pt_okL2) ⟨10, rfl, pt_in 1205 (by decide +kernel) rfl⟩ (pm_fc (P := pt_okL2) ⟨10, rfl, pt_in 1847 (by decide +kernel) rfl⟩ (pm_fc (P := pt_okL2) ⟨48, rfl, pt_in 1848 (by decide +kernel) rfl⟩ (pm_fc (P := pt_okL2) ⟨1000000000, rfl, pt_in 1849 (by decide +kernel) rfl⟩ (pm_fc (P := pt_okL2) ⟨(-1000000000), rfl, pt_in 1953 (by decide +kernel) rfl⟩ (pm_fc (P := pt_okL2) ⟨2, rfl, pt_in 1966 (by decide +kernel) rfl⟩ (pm_fc (P := pt_okL2) ⟨4000000000, rfl, pt_in 1949 (by decide +kernel) rfl⟩ (pm_fc (P := pt_okL2) ⟨4000000001, rfl, pt_in 1959 (by decide +kernel) rfl⟩ (pm_fc (P := pt_okL2) ⟨10000, rfl, pt_in 1954 (by decide +kernel) rfl⟩ (pm_fc (P := pt_okL2) ⟨4000000004, rfl, pt_in 1955 (by decide +kernel) rfl⟩ (pm_fc (P := pt_okL2) ⟨4000000002, rfl, pt_in 1944 (by decide +kernel) rfl⟩ (pm_fc (P := pt_okL2) ⟨4000000003, rfl, pt_in 1967 (by decide +kernel) rfl⟩ (pm_fn))))))))))))))))))
