/-! THE WORDS behind the rows: the steady ones (Ts), and those that stay as the tables grow (Ns); by their places in tables_1 -/
def pt_lw : Cond := .code ⟨"OfficeSheetLaw", "law", "([I)Z"⟩ code 7 (some .boolean)
def pt_Ts : List Cond := tables_1.filter goodWord ++ [pt_lw]
def pt_Ns : List Cond := tables_1.filter pm_nk
theorem pt_in {w : Cond} (i : Nat) (h : tables_1[i]? = some w) (g : goodWord w = true) : w ∈ pt_Ts := List.mem_append_left _ (List.mem_filter.mpr ⟨List.mem_of_getElem? h, g⟩)
theorem pt_lw_in : pt_lw ∈ pt_Ts := List.mem_append_right _ List.mem_cons_self
theorem pt_inN {w : Cond} (i : Nat) (h : tables_1[i]? = some w) (g : pm_nk w = true) : w ∈ pt_Ns := List.mem_filter.mpr ⟨List.mem_of_getElem? h, g⟩
theorem pt_good : ∀ w ∈ pt_Ts, (w.onTables && w.keeps) = true ∨ ∃ ty, w = .arrayClass ty := by
  intro w h
  rcases List.mem_append.mp h with h | h
  · exact good_of_word (List.mem_filter.mp h).2
  · rw [List.mem_singleton.mp h]
    exact Or.inl rfl
theorem pt_nk : ∀ w ∈ pt_Ns, pm_nk w = true := fun _ h => (List.mem_filter.mp h).2
theorem pt_sub {ws : List Cond} (is : List Nat) (h : is.map (fun i => tables_1[i]?) = ws.map some) (g : ws.all goodWord = true) : ∀ w ∈ ws, w ∈ pt_Ts := by
  intro w hw
  obtain ⟨k, hk⟩ := List.getElem?_of_mem hw
  have h1 : (ws.map some)[k]? = some (some w) := by rw [List.getElem?_map, hk]; rfl
  rw [← h, List.getElem?_map] at h1
  obtain ⟨i, hi, e⟩ := Option.map_eq_some_iff.mp h1
  exact pt_in i e (List.all_eq_true.mp g w hw)
theorem pm_okF1 {Ts Ns : List Cond} {cl : List vw_C} {own : String} {idx ci k : Nat} {r : vw_C} {ref : String} (hc : cl[ci]? = some r) (hk : k < r.2.2) (hw : ∀ w ∈ u_ws r.1 r.2.1 r.2.2, w ∈ Ts) (hl : Cond.fieldLink own idx ref (r.2.1 k).2.1 (r.2.1 k).2.2.1 ∈ Ts ∨ ∃ host, Cond.fieldLinkNest own idx ref (r.2.1 k).2.1 (r.2.1 k).2.2.1 host ∈ Ns) (hs : ref = (r.2.1 k).1 ∨ Cond.sameField ref (r.2.1 k).1 (r.2.1 k).2.1 (r.2.1 k).2.2.1 ∈ Ts) : pm_okF Ts Ns cl own idx [ci, k] := by
  intro ci' k' h
  unfold pm_slot at h
  split at h
  · next e => subst e; cases h; exact ⟨r, ref, hc, hk, hw, hl, hs⟩
  · unfold pm_slot at h; cases h
theorem pm_fc {α : Type} {P : α → Prop} {a : α} {l : List α} (h1 : P a) (h2 : ∀ x ∈ l, P x) : ∀ x ∈ a :: l, P x := List.forall_mem_cons.mpr ⟨h1, h2⟩
theorem pm_fn {α : Type} {P : α → Prop} : ∀ x ∈ ([] : List α), P x := fun _ h => absurd h List.not_mem_nil
abbrev pt_own : List String := ["OfficeSheetLaw", "OfficeSheet", "OfficeSheet$Reader", "java/lang/StringBuilder", "java/lang/AbstractStringBuilder", "java/lang/StringUTF16", "OfficeSheet$Calculator", "OfficeSheet$Writer", "OfficeSheet$Office", "java/util/ArrayList", "java/util/AbstractList", "java/util/AbstractCollection", "OfficeSheet$Axis", "java/util/Arrays", "jdk/internal/util/ArraysSupport", "java/lang/Math", "java/lang/StringLatin1", "java/lang/String", "jdk/internal/util/Preconditions", "java/lang/Integer", "java/util/Objects", "OfficeSheet$Line", "OfficeSheet$Act", "OfficeSheet$Place", "OfficeSheet$ActKind", "OfficeSheet$Part", "java/lang/Enum", "OfficeSheet$PartKind", "OfficeSheetModel"]
theorem pt_cw0 : ∀ w ∈ u_ws "OfficeSheet" pt_T0 4, w ∈ pt_Ts := pt_sub [259, 261, 263, 265] (by decide +kernel) (by decide +kernel)
theorem pt_cn0 : ∀ a, a < 4 → ∀ b, b < 4 → a ≠ b → (pt_T0 a).2.1 ≠ (pt_T0 b).2.1 := by decide +kernel
theorem pt_ct0 : ∀ k, k < 4 → parseFieldDescriptor (pt_T0 k).2.2.1 = some (pt_ft 0 k) := by decide +kernel
theorem pt_cw1 : ∀ w ∈ u_ws "OfficeSheet$Reader" pt_T1 7, w ∈ pt_Ts := pt_sub [98, 100, 102, 104, 106, 108, 110] (by decide +kernel) (by decide +kernel)
theorem pt_cn1 : ∀ a, a < 7 → ∀ b, b < 7 → a ≠ b → (pt_T1 a).2.1 ≠ (pt_T1 b).2.1 := by decide +kernel
theorem pt_ct1 : ∀ k, k < 7 → parseFieldDescriptor (pt_T1 k).2.2.1 = some (pt_ft 1 k) := by decide +kernel
theorem pt_cw2 : ∀ w ∈ u_ws "OfficeSheet$Calculator" pt_T2 7, w ∈ pt_Ts := pt_sub [129, 131, 133, 135, 137, 139, 141] (by decide +kernel) (by decide +kernel)
theorem pt_cn2 : ∀ a, a < 7 → ∀ b, b < 7 → a ≠ b → (pt_T2 a).2.1 ≠ (pt_T2 b).2.1 := by decide +kernel
theorem pt_ct2 : ∀ k, k < 7 → parseFieldDescriptor (pt_T2 k).2.2.1 = some (pt_ft 2 k) := by decide +kernel
theorem pt_cw3 : ∀ w ∈ u_ws "OfficeSheet$Writer" pt_T3 3, w ∈ pt_Ts := pt_sub [158, 160, 162] (by decide +kernel) (by decide +kernel)
theorem pt_cn3 : ∀ a, a < 3 → ∀ b, b < 3 → a ≠ b → (pt_T3 a).2.1 ≠ (pt_T3 b).2.1 := by decide +kernel
theorem pt_ct3 : ∀ k, k < 3 → parseFieldDescriptor (pt_T3 k).2.2.1 = some (pt_ft 3 k) := by decide +kernel
theorem pt_cw4 : ∀ w ∈ u_ws "OfficeSheet$Office" pt_T4 6, w ∈ pt_Ts := pt_sub [242, 244, 246, 248, 250, 252] (by decide +kernel) (by decide +kernel)
theorem pt_cn4 : ∀ a, a < 6 → ∀ b, b < 6 → a ≠ b → (pt_T4 a).2.1 ≠ (pt_T4 b).2.1 := by decide +kernel
theorem pt_ct4 : ∀ k, k < 6 → parseFieldDescriptor (pt_T4 k).2.2.1 = some (pt_ft 4 k) := by decide +kernel
theorem pt_cw5 : ∀ w ∈ u_ws "OfficeSheet$Axis" pt_T5 5, w ∈ pt_Ts := pt_sub [217, 219, 221, 223, 225] (by decide +kernel) (by decide +kernel)
theorem pt_cn5 : ∀ a, a < 5 → ∀ b, b < 5 → a ≠ b → (pt_T5 a).2.1 ≠ (pt_T5 b).2.1 := by decide +kernel
theorem pt_ct5 : ∀ k, k < 5 → parseFieldDescriptor (pt_T5 k).2.2.1 = some (pt_ft 5 k) := by decide +kernel
theorem pt_cw6 : ∀ w ∈ u_ws "OfficeSheet$Line" pt_T6 3, w ∈ pt_Ts := pt_sub [757, 759, 761] (by decide +kernel) (by decide +kernel)
theorem pt_cn6 : ∀ a, a < 3 → ∀ b, b < 3 → a ≠ b → (pt_T6 a).2.1 ≠ (pt_T6 b).2.1 := by decide +kernel
theorem pt_ct6 : ∀ k, k < 3 → parseFieldDescriptor (pt_T6 k).2.2.1 = some (pt_ft 6 k) := by decide +kernel
theorem pt_cw7 : ∀ w ∈ u_ws "OfficeSheet$Act" pt_T7 12, w ∈ pt_Ts := pt_sub [810, 812, 814, 816, 818, 820, 822, 824, 826, 828, 830, 832] (by decide +kernel) (by decide +kernel)
theorem pt_cn7 : ∀ a, a < 12 → ∀ b, b < 12 → a ≠ b → (pt_T7 a).2.1 ≠ (pt_T7 b).2.1 := by decide +kernel
theorem pt_ct7 : ∀ k, k < 12 → parseFieldDescriptor (pt_T7 k).2.2.1 = some (pt_ft 7 k) := by decide +kernel
theorem pt_cw8 : ∀ w ∈ u_ws "OfficeSheet$Place" pt_T8 3, w ∈ pt_Ts := pt_sub [847, 849, 851] (by decide +kernel) (by decide +kernel)
theorem pt_cn8 : ∀ a, a < 3 → ∀ b, b < 3 → a ≠ b → (pt_T8 a).2.1 ≠ (pt_T8 b).2.1 := by decide +kernel
theorem pt_ct8 : ∀ k, k < 3 → parseFieldDescriptor (pt_T8 k).2.2.1 = some (pt_ft 8 k) := by decide +kernel
theorem pt_cw9 : ∀ w ∈ u_ws "OfficeSheet$Part" pt_T9 8, w ∈ pt_Ts := pt_sub [1144, 1146, 1148, 1150, 1152, 1154, 1156, 1158] (by decide +kernel) (by decide +kernel)
theorem pt_cn9 : ∀ a, a < 8 → ∀ b, b < 8 → a ≠ b → (pt_T9 a).2.1 ≠ (pt_T9 b).2.1 := by decide +kernel
theorem pt_ct9 : ∀ k, k < 8 → parseFieldDescriptor (pt_T9 k).2.2.1 = some (pt_ft 9 k) := by decide +kernel
theorem pt_cw10 : ∀ w ∈ u_ws "OfficeSheetModel" pt_T10 44, w ∈ pt_Ts := pt_sub [1620, 1622, 1624, 1626, 1628, 1630, 1632, 1634, 1636, 1638, 1640, 1642, 1644, 1646, 1648, 1650, 1652, 1654, 1656, 1658, 1660, 1662, 1664, 1666, 1668, 1670, 1672, 1674, 1676, 1678, 1680, 1682, 1684, 1686, 1688, 1690, 1692, 1694, 1696, 1698, 1700, 1702, 1704, 1706] (by decide +kernel) (by decide +kernel)
theorem pt_cn10 : ∀ a, a < 44 → ∀ b, b < 44 → a ≠ b → (pt_T10 a).2.1 ≠ (pt_T10 b).2.1 := by decide +kernel
theorem pt_ct10 : ∀ k, k < 44 → parseFieldDescriptor (pt_T10 k).2.2.1 = some (pt_ft 10 k) := by decide +kernel
theorem pt_cw11 : ∀ w ∈ u_ws "java/lang/StringBuilder" pt_T11 4, w ∈ pt_Ts := pt_sub [79, 81, 83, 85] (by decide +kernel) (by decide +kernel)
theorem pt_cn11 : ∀ a, a < 4 → ∀ b, b < 4 → a ≠ b → (pt_T11 a).2.1 ≠ (pt_T11 b).2.1 := by decide +kernel
theorem pt_ct11 : ∀ k, k < 4 → parseFieldDescriptor (pt_T11 k).2.2.1 = some (pt_ft 11 k) := by decide +kernel
theorem pt_cw12 : ∀ w ∈ u_ws "java/util/ArrayList" pt_T12 3, w ∈ pt_Ts := pt_sub [192, 194, 196] (by decide +kernel) (by decide +kernel)
theorem pt_cn12 : ∀ a, a < 3 → ∀ b, b < 3 → a ≠ b → (pt_T12 a).2.1 ≠ (pt_T12 b).2.1 := by decide +kernel
theorem pt_ct12 : ∀ k, k < 3 → parseFieldDescriptor (pt_T12 k).2.2.1 = some (pt_ft 12 k) := by decide +kernel
theorem pt_cw13 : ∀ w ∈ u_ws "java/lang/String" pt_T13 4, w ∈ pt_Ts := pt_sub [612, 614, 616, 618] (by decide +kernel) (by decide +kernel)
theorem pt_cn13 : ∀ a, a < 4 → ∀ b, b < 4 → a ≠ b → (pt_T13 a).2.1 ≠ (pt_T13 b).2.1 := by decide +kernel
theorem pt_ct13 : ∀ k, k < 4 → parseFieldDescriptor (pt_T13 k).2.2.1 = some (pt_ft 13 k) := by decide +kernel
theorem pt_cw14 : ∀ w ∈ u_ws "java/lang/IllegalArgumentException" pt_T14 0, w ∈ pt_Ts := pt_sub [] (by decide +kernel) (by decide +kernel)
theorem pt_cn14 : ∀ a, a < 0 → ∀ b, b < 0 → a ≠ b → (pt_T14 a).2.1 ≠ (pt_T14 b).2.1 := by decide +kernel
theorem pt_ct14 : ∀ k, k < 0 → parseFieldDescriptor (pt_T14 k).2.2.1 = some (pt_ft 14 k) := by decide +kernel
theorem pt_cw15 : ∀ w ∈ u_ws "java/lang/IllegalStateException" pt_T15 0, w ∈ pt_Ts := pt_sub [] (by decide +kernel) (by decide +kernel)
theorem pt_cn15 : ∀ a, a < 0 → ∀ b, b < 0 → a ≠ b → (pt_T15 a).2.1 ≠ (pt_T15 b).2.1 := by decide +kernel
theorem pt_ct15 : ∀ k, k < 0 → parseFieldDescriptor (pt_T15 k).2.2.1 = some (pt_ft 15 k) := by decide +kernel
theorem pt_cw16 : ∀ w ∈ u_ws "java/lang/IndexOutOfBoundsException" pt_T16 0, w ∈ pt_Ts := pt_sub [] (by decide +kernel) (by decide +kernel)
theorem pt_cn16 : ∀ a, a < 0 → ∀ b, b < 0 → a ≠ b → (pt_T16 a).2.1 ≠ (pt_T16 b).2.1 := by decide +kernel
theorem pt_ct16 : ∀ k, k < 0 → parseFieldDescriptor (pt_T16 k).2.2.1 = some (pt_ft 16 k) := by decide +kernel
theorem pt_cw17 : ∀ w ∈ u_ws "java/lang/UnsupportedOperationException" pt_T17 0, w ∈ pt_Ts := pt_sub [] (by decide +kernel) (by decide +kernel)
theorem pt_cn17 : ∀ a, a < 0 → ∀ b, b < 0 → a ≠ b → (pt_T17 a).2.1 ≠ (pt_T17 b).2.1 := by decide +kernel
theorem pt_ct17 : ∀ k, k < 0 → parseFieldDescriptor (pt_T17 k).2.2.1 = some (pt_ft 17 k) := by decide +kernel
theorem pt_cw18 : ∀ w ∈ u_ws "OfficeSheet$ActKind" pt_T18 0, w ∈ pt_Ts := pt_sub [] (by decide +kernel) (by decide +kernel)
theorem pt_cn18 : ∀ a, a < 0 → ∀ b, b < 0 → a ≠ b → (pt_T18 a).2.1 ≠ (pt_T18 b).2.1 := by decide +kernel
theorem pt_ct18 : ∀ k, k < 0 → parseFieldDescriptor (pt_T18 k).2.2.1 = some (pt_ft 18 k) := by decide +kernel
theorem pt_cw19 : ∀ w ∈ u_ws "OfficeSheet$PartKind" pt_T19 0, w ∈ pt_Ts := pt_sub [] (by decide +kernel) (by decide +kernel)
theorem pt_cn19 : ∀ a, a < 0 → ∀ b, b < 0 → a ≠ b → (pt_T19 a).2.1 ≠ (pt_T19 b).2.1 := by decide +kernel
theorem pt_ct19 : ∀ k, k < 0 → parseFieldDescriptor (pt_T19 k).2.2.1 = some (pt_ft 19 k) := by decide +kernel
theorem pt_okC : pm_okC pt_Ts pt_cl pt_ft := by
  intro ci r h
  match ci, h with
  | 0, h => cases h; exact ⟨pt_ct0, pt_cn0, pt_cw0⟩
  | 1, h => cases h; exact ⟨pt_ct1, pt_cn1, pt_cw1⟩
  | 2, h => cases h; exact ⟨pt_ct2, pt_cn2, pt_cw2⟩
  | 3, h => cases h; exact ⟨pt_ct3, pt_cn3, pt_cw3⟩
  | 4, h => cases h; exact ⟨pt_ct4, pt_cn4, pt_cw4⟩
  | 5, h => cases h; exact ⟨pt_ct5, pt_cn5, pt_cw5⟩
  | 6, h => cases h; exact ⟨pt_ct6, pt_cn6, pt_cw6⟩
  | 7, h => cases h; exact ⟨pt_ct7, pt_cn7, pt_cw7⟩
  | 8, h => cases h; exact ⟨pt_ct8, pt_cn8, pt_cw8⟩
  | 9, h => cases h; exact ⟨pt_ct9, pt_cn9, pt_cw9⟩
  | 10, h => cases h; exact ⟨pt_ct10, pt_cn10, pt_cw10⟩
  | 11, h => cases h; exact ⟨pt_ct11, pt_cn11, pt_cw11⟩
  | 12, h => cases h; exact ⟨pt_ct12, pt_cn12, pt_cw12⟩
  | 13, h => cases h; exact ⟨pt_ct13, pt_cn13, pt_cw13⟩
  | 14, h => cases h; exact ⟨pt_ct14, pt_cn14, pt_cw14⟩
  | 15, h => cases h; exact ⟨pt_ct15, pt_cn15, pt_cw15⟩
  | 16, h => cases h; exact ⟨pt_ct16, pt_cn16, pt_cw16⟩
  | 17, h => cases h; exact ⟨pt_ct17, pt_cn17, pt_cw17⟩
  | 18, h => cases h; exact ⟨pt_ct18, pt_cn18, pt_cw18⟩
  | 19, h => cases h; exact ⟨pt_ct19, pt_cn19, pt_cw19⟩
  | n + 20, h => simp at h
