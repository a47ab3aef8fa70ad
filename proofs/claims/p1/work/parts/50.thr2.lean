theorem pm_nk_tab {w : Cond} (h : pm_nk w = true) : w.onTables = true := by
  cases w <;> first | rfl | cases h
/-! throws: the words of the exceptions' constructors -/
def pt_eqC (a b : Cond) : Bool := match a, b with
  | .code y b m r, .code y' b' m' r' => decide (y = y') && (decide (b.data.toList = b'.data.toList) && (decide (m = m') && decide (r = r')))
  | .codeSync y b m r, .codeSync y' b' m' r' => decide (y = y') && (decide (b.data.toList = b'.data.toList) && (decide (m = m') && decide (r = r')))
  | .code _ _ _ _, _ => false
  | .codeSync _ _ _ _, _ => false
  | a, b => decide (a = b)
theorem pt_eqC_eq {a b : Cond} (h : pt_eqC a b = true) : a = b := by
  unfold pt_eqC at h
  split at h
  · simp only [Bool.and_eq_true, decide_eq_true_eq] at h
    obtain ⟨rfl, hb, rfl, rfl⟩ := h
    rw [pm_bse hb]
  · simp only [Bool.and_eq_true, decide_eq_true_eq] at h
    obtain ⟨rfl, hb, rfl, rfl⟩ := h
    rw [pm_bse hb]
  · cases h
  · cases h
  · exact of_decide_eq_true h
def pt_ti (ci : Nat) : List Nat := match ci with
  | 14 => [16, 299, 308, 315, 318, 320, 300, 301, 46, 47, 302, 307, 316, 336, 289, 337, 291, 338, 293, 303, 9999, 305, 9999, 295, 332, 333, 335, 295, 323, 324, 325, 326, 281, 326, 327, 328, 329, 283, 329, 330, 331, 332, 285, 322, 278, 279, 286, 287, 288, 290, 292, 294, 9999, 9999, 298, 297, 296]
  | 15 => [16, 299, 308, 315, 318, 320, 300, 301, 46, 47, 302, 307, 316, 336, 289, 337, 291, 338, 293, 303, 9999, 305, 9999, 295, 332, 333, 335, 295, 365, 366, 367, 326, 281, 326, 327, 328, 329, 283, 329, 330, 331, 332, 285, 364, 355, 356, 357, 311, 358, 359, 360, 361, 9999, 9999, 298, 297, 362]
  | 16 => [16, 299, 308, 315, 318, 320, 300, 301, 46, 47, 302, 307, 316, 336, 289, 337, 291, 338, 293, 303, 9999, 305, 9999, 295, 332, 333, 335, 295, 622, 623, 624, 326, 281, 326, 327, 328, 329, 283, 329, 330, 331, 332, 285, 708, 699, 700, 701, 312, 702, 703, 704, 705, 9999, 9999, 298, 297, 706]
  | 17 => [16, 299, 308, 315, 318, 320, 300, 301, 46, 47, 302, 307, 316, 336, 289, 337, 291, 338, 293, 303, 9999, 305, 9999, 295, 332, 333, 335, 295, 1255, 1256, 1257, 326, 281, 326, 327, 328, 329, 283, 329, 330, 331, 332, 285, 1254, 1245, 1246, 1247, 314, 1248, 1249, 1250, 1251, 9999, 9999, 298, 297, 1252]
  | _ => []
def pt_ckO (a : Cond) (i : Nat) : Bool := pt_ckA a || (match tables_1[i]? with
  | some w => pt_eqC a w && (goodWord a || pm_nk a)
  | none => false)
def pt_ckOs : List Cond → List Nat → Bool
  | [], [] => true
  | a :: as, i :: is => pt_ckO a i && pt_ckOs as is
  | _, _ => false
theorem pt_ckOs_in : ∀ (as : List Cond) (is : List Nat), pt_ckOs as is = true → ∀ a ∈ as, pt_ckA a = true ∨ a ∈ pt_Ts ∨ a ∈ pt_Ns := by
  intro as
  induction as with
  | nil => intro is _ a ha; cases ha
  | cons b as ih =>
    intro is h a ha
    cases is with
    | nil => cases h
    | cons i is =>
      simp only [pt_ckOs, Bool.and_eq_true] at h
      rcases List.mem_cons.mp ha with rfl | ha
      · have h1 := h.1
        simp only [pt_ckO, Bool.or_eq_true] at h1
        rcases h1 with h1 | h1
        · exact Or.inl h1
        · cases hw : tables_1[i]? with
          | none => simp [hw] at h1
          | some w =>
            simp only [hw, Bool.and_eq_true, Bool.or_eq_true] at h1
            have e := pt_eqC_eq h1.1
            subst e
            rcases h1.2 with g | g
            · exact Or.inr (Or.inl (pt_in i hw g))
            · exact Or.inr (Or.inr (pt_inN i hw g))
      · exact ih is h.2 a ha
theorem pt_kO14 : pt_ckOs (Bundle.ownAtoms "OfficeSheet" (pt_ic 14) (pt_clN 14) pt_tnames) (pt_ti 14) = true := by decide +kernel
theorem pt_kO15 : pt_ckOs (Bundle.ownAtoms "OfficeSheet" (pt_ic 15) (pt_clN 15) pt_tnames) (pt_ti 15) = true := by decide +kernel
theorem pt_kO16 : pt_ckOs (Bundle.ownAtoms "OfficeSheet" (pt_ic 16) (pt_clN 16) pt_tnames) (pt_ti 16) = true := by decide +kernel
theorem pt_kO17 : pt_ckOs (Bundle.ownAtoms "OfficeSheet" (pt_ic 17) (pt_clN 17) pt_tnames) (pt_ti 17) = true := by decide +kernel
theorem pt_kO {ci : Nat} (h : 14 ≤ ci ∧ ci < 18) : ∀ a ∈ Bundle.ownAtoms "OfficeSheet" (pt_ic ci) (pt_clN ci) pt_tnames, pt_ckA a = true ∨ a ∈ pt_Ts ∨ a ∈ pt_Ns := by
  have : ci = 14 ∨ ci = 15 ∨ ci = 16 ∨ ci = 17 := by omega
  rcases this with rfl | rfl | rfl | rfl
  · exact pt_ckOs_in _ _ pt_kO14
  · exact pt_ckOs_in _ _ pt_kO15
  · exact pt_ckOs_in _ _ pt_kO16
  · exact pt_ckOs_in _ _ pt_kO17
def pt_exT (ci : Nat) : u_T := match ci with
  | 14 => pt_T14
  | 15 => pt_T15
  | 16 => pt_T16
  | _ => pt_T17
theorem pt_kI {ci : Nat} (h : 14 ≤ ci ∧ ci < 18) : Cond.instantiable (pt_clN ci) 6 ∈ pt_Ts ∧ Cond.initialized (pt_clN ci) ∈ pt_Ts ∧ Bundle.fit (pt_clN ci) = true ∧ pt_cl[ci]? = some (pt_clN ci, pt_exT ci, 0) := by
  have : ci = 14 ∨ ci = 15 ∨ ci = 16 ∨ ci = 17 := by omega
  rcases this with rfl | rfl | rfl | rfl
  · exact ⟨pt_w_in (i := 278) (by decide +kernel), pt_w_in (i := 19) (by decide +kernel), by decide +kernel, rfl⟩
  · exact ⟨pt_w_in (i := 355) (by decide +kernel), pt_w_in (i := 20) (by decide +kernel), by decide +kernel, rfl⟩
  · exact ⟨pt_w_in (i := 699) (by decide +kernel), pt_w_in (i := 26) (by decide +kernel), by decide +kernel, rfl⟩
  · exact ⟨pt_w_in (i := 1245) (by decide +kernel), pt_w_in (i := 38) (by decide +kernel), by decide +kernel, rfl⟩
theorem pt_thr {u : Value} {D : pm_D} {A : Nat → ClassId} {mu : Nat → Nat} {base : Nat} {H00 : Heap} {ci idx im q i : Nat} {tx : String} {args : Array Value} {s : State} (hci : 14 ≤ ci ∧ ci < 18) (hl : pt_w i (.classLink "OfficeSheet" idx (pt_clN ci)) = true) (hts : ∀ w ∈ pt_Ts, w.before args s = true) (hst : pt_St u D A mu base H00 s) (hse : vk_R "OfficeSheet" im tx q s) :
    ∀ U : State, s.WarmedH U.vm → (∀ z : Nat, z < base → U.heap[z]? = H00[z]?) → pm_Thr "OfficeSheet" idx im (pt_ic ci) (pt_clN ci) tx q pt_tnames args U := by
  intro U hW hH
  have ht : ∀ w ∈ pt_Ts, w.before args U = true := fun w hw => word_at hW (pt_good w hw) (hts w hw)
  have hS := pt_St.warm s U hW hst
  obtain ⟨k1, k2, -, -⟩ := pt_kI hci
  refine ⟨ht _ (pt_w_in hl), ht _ k1, ht _ k2, hse.warm hW, fun a ha => ?_⟩
  rcases pt_kO hci a ha with h | h | h
  · have u1 := hS.l1.use args hH
    have u2 := hS.l2.use args hH
    unfold pt_ckA at h
    split at h
    · exact u1.2
    · exact u2.2
    · exact u1.1
    · exact u2.1
    · cases h
  · exact ht a h
  · have hn := hS.nw a h
    exact va_Nw.use (pm_nk_tab (pt_nk a h)) hn
