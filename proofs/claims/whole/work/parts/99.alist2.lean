/-! LISTS of objects: a larger array -/
def al_nul (n : Nat) : pm_C := .inr (13, List.replicate n Value.null)
def al_arr (L : List Nat) (cap : Nat) : pm_C := .inr (13, L.map Value.ref ++ List.replicate (cap - L.length) Value.null)
def al_obj (e : Nat) (L : List Nat) (m : Int32) : pm_C := .inl (12, [.ref e, .int (Int32.ofNat L.length), .int m])
section ALGROW
variable {h : pm_H} {a e cap x : Nat} {L : List Nat} {m : Int32}
theorem al_ob_app {y : pm_C} {n : Nat} (hx : al_ob h x) : al_ob (h.1 ++ [y], n) x := by
  obtain ⟨ci, fs, hc, hci⟩ := hx
  exact ⟨ci, fs, (hn_lt (hc_lt hc)).trans hc, hci⟩
theorem al_ob_set {b : Nat} {t : Nat} {vs ws : List Value} {n : Nat} (hx : al_ob h x) (hb : h.1[b]? = some (.inl (12, vs))) : al_ob (h.1.set b (.inl (t, ws)), n) x := by
  obtain ⟨ci, fs, hc, hci⟩ := hx
  have hne : x ≠ b := by
    intro q
    rw [q, hb] at hc
    cases hc
    rcases hci with q | q | q <;> cases q
  exact ⟨ci, fs, (hs_ne hne).trans hc, hci⟩
theorem al_na {k : Nat} (hk : k ≤ 1000000) : lf_na h 13 .null (Int32.ofNat k) = some (h.1 ++ [al_nul k], h.2 + k) := by
  unfold lf_na
  have e1 : (Int32.ofNat k).toNatClampNeg = k := Int32.toNatClampNeg_ofNat_of_lt (by omega)
  rw [if_neg (i32_lt k (by omega)), e1, if_pos hk]
  rfl
/-- the array copied into a larger one -/
theorem al_copy (hA : al_c h a e L cap m) (hL : ∀ x ∈ L, al_ob h x) (hf : L.length = cap) {nc : Nat} (hn : cap ≤ nc) (hnc : nc ≤ 100000) (hl : 81 ≤ h.1.length) : ll_110 (some e) (Int32.ofNat nc) (some 79) h = some (.inl (some (.inr (.inr (some h.1.length)))), (h.1 ++ [al_arr L nc], h.2 + nc)) := by
  have hcap := hA.2.2.2
  have hel : e < h.1.length := hc_lt hA.2.1
  have hE : ((h.1 ++ [al_nul nc], h.2 + nc) : pm_H).1[e]? = some (.inr (13, L.map Value.ref ++ List.replicate (cap - L.length) Value.null)) := (hn_lt hel).trans hA.2.1
  have hN : ((h.1 ++ [al_nul nc], h.2 + nc) : pm_H).1[h.1.length]? = some (al_nul nc) := hn_eq
  have e27 : ll_27 (Int32.ofNat cap) (Int32.ofNat nc) (h.1 ++ [al_nul nc], h.2 + nc) = some (.inl (some (.inl (Int32.ofNat cap))), (h.1 ++ [al_nul nc], h.2 + nc)) := by
    unfold ll_27
    refine if_neg ?_
    rw [Int32.ofNat_lt_ofNat (by omega) (by omega)]
    omega
  have hxs : (L.map Value.ref ++ List.replicate (cap - L.length) Value.null) = L.map Value.ref := by
    rw [hf, Nat.sub_self]
    simp
  have ecp : lf_cp pt_P (h.1 ++ [al_nul nc], h.2 + nc) (some e) 0 (some h.1.length) 0 (Int32.ofNat cap) = some ((h.1 ++ [al_nul nc]).set h.1.length (Sum.inr (13, pm_cpy (L.map Value.ref) (List.replicate nc Value.null) 0 0 cap)), h.2 + nc) := by
    unfold lf_cp
    simp only [hc_arr hE, hc_arr hN, hxs]
    have e1 : (Int32.ofNat cap).toNatClampNeg = cap := Int32.toNatClampNeg_ofNat_of_lt (by omega)
    have e0 : (0 : Int32).toNatClampNeg = 0 := rfl
    rw [e1, e0]
    refine if_pos ⟨by trivial, by decide, hl, by decide, by decide, i32_lt cap (by omega), ?_, ?_, ?_⟩
    · rw [List.length_map]; omega
    · rw [List.length_replicate]; omega
    · have h1 := al_all (h := (h.1 ++ [al_nul nc], h.2 + nc)) (L := L) (n := 0) (fun x hx => al_ob_app (hL x hx))
      rw [List.replicate_zero, List.append_nil] at h1
      rw [List.all_eq_true] at h1 ⊢
      intro v hv
      exact h1 v (List.mem_of_mem_drop (List.mem_of_mem_take hv))
  have ecy : pm_cpy (L.map Value.ref) (List.replicate nc Value.null) 0 0 cap = L.map Value.ref ++ List.replicate (nc - L.length) Value.null := by
    unfold pm_cpy
    rw [List.take_zero, List.nil_append, List.drop_zero, List.take_of_length_le (by rw [List.length_map]; omega), Nat.zero_add, List.drop_replicate, hf]
  have eset : (h.1 ++ [al_nul nc]).set h.1.length (al_arr L nc) = h.1 ++ [al_arr L nc] := by
    rw [List.set_append_right _ _ (Nat.le_refl _), Nat.sub_self]
    rfl
  unfold ll_110
  have eA : tm_acm (some 79) (some 79) = some true := rfl
  rw [eA]
  show ((lf_na h 13 .null (Int32.ofNat nc)).bind _) = _
  rw [al_na (by omega), Option.bind_some, hc_len hE (by decide), Option.bind_some, al_capl hA, e27, lb_I_r, ecp, Option.bind_some, ecy]
  show some (_, ((h.1 ++ [al_nul nc]).set h.1.length (al_arr L nc), h.2 + nc)) = _
  rw [eset]
/-- a list's array grows -/
theorem al_grow (hA : al_c h a e L cap m) (hc : cap ∈ al_caps) (hL : ∀ x ∈ L, al_ob h x) (hf : L.length = cap) (h0 : cap = 0 → e = 20) (ha : 81 ≤ a) (hl : 81 ≤ h.1.length) : ll_107 (some a) h = some (.inl (some (.inr (.inr (some h.1.length)))), ((h.1 ++ [al_arr L (al_nc cap)]).set a (al_obj h.1.length L m), h.2 + al_nc cap)) := by
  have hcap := hA.2.2.2
  have hal : a < h.1.length := hc_lt hA.1
  have hP : ∀ (y : pm_C) (n : Nat), lf_P 81 (h.1 ++ [y], n) (some a) [2, 12, 0] (.inr (.inr (some h.1.length))) = some ((h.1 ++ [y]).set a (al_obj h.1.length L m), n) := by
    intro y n
    have h1 : ((h.1 ++ [y], n) : pm_H).1[a]? = some (.inl (12, [.ref e, .int (Int32.ofNat L.length), .int m])) := (hn_lt hal).trans hA.1
    rw [hc_P h1 (show 0 < 3 by decide) ha rfl]
    rfl
  have e108 : ll_108 (some a) (Int32.ofNat L.length + 1) h = some (.inl (some (.inr (.inr (some h.1.length)))), ((h.1 ++ [al_arr L (al_nc cap)]).set a (al_obj h.1.length L m), h.2 + al_nc cap)) := by
    unfold ll_108
    rw [hc_R (o := some e) hA.1 rfl, Option.bind_some, hc_len hA.2.1 (by decide), Option.bind_some, al_capl hA]
    by_cases hz : cap = 0
    · subst hz
      have he := h0 rfl
      subst he
      have hL0 : L = [] := List.length_eq_zero_iff.mp hf
      subst hL0
      rw [if_neg (by decide), Option.bind_some]
      have eA : tm_acm (some 20) (some 20) = some true := rfl
      rw [eA]
      simp only [lb_A]
      have e24 : ll_24 10 (Int32.ofNat ([] : List Nat).length + 1) h = some (.inl (some (.inl (Int32.ofNat 10))), h) := rfl
      rw [e24, lb_I_r, al_na (by decide), Option.bind_some, hP, Option.bind_some]
      rfl
    · have hpos : (0 : Int32) < Int32.ofNat cap := (Int32.ofNat_lt_ofNat (k := 0) (n := cap) (by decide) (by omega)).mpr (by omega)
      have hnc : al_nc cap = cap + cap / 2 := if_neg hz
      rw [if_pos hpos]
      unfold l108_20
      have e1 : Int32.ofNat L.length + (1 : Int32) = Int32.ofNat (cap + 1) := by rw [hf]; exact i32_add cap 1
      rw [e1, al_shr hc, al_23 hc hz, lb_I_r, hc_R (o := some e) hA.1 rfl, Option.bind_some]
      have e109 : ll_109 (some e) (Int32.ofNat (al_nc cap)) h = some (.inl (some (.inr (.inr (some h.1.length)))), (h.1 ++ [al_arr L (al_nc cap)], h.2 + al_nc cap)) := by
        unfold ll_109
        have eg : lf_gc h (some e) = true := by
          unfold lf_gc
          rw [hc_arr hA.2.1]
          rfl
        have hcs : cap ≤ 163 := by
          simp only [al_caps, List.mem_cons, List.not_mem_nil, or_false] at hc
          omega
        rw [if_pos eg, al_copy hA hL hf (by omega) (by omega) hl]
        rfl
      rw [e109]
      show ((lf_P 81 _ (some a) [2, 12, 0] (.inr (.inr (some h.1.length)))).bind _) = _
      rw [hP, Option.bind_some]
  unfold ll_107
  rw [hc_I hA.1 rfl, Option.bind_some, if_pos (hc_lc hA.1), e108]
  rfl
end ALGROW
