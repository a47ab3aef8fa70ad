/-! LISTS of objects: add -/
section ALADD2
variable {h : pm_H} {a e cap x : Nat} {L : List Nat} {m : Int32}
/-- what a list may be at any time -/
def al_w (h : pm_H) (a e : Nat) (L : List Nat) (cap : Nat) (m : Int32) : Prop := al_c h a e L cap m ∧ cap ∈ al_caps ∧ (cap = 0 → e = 20) ∧ (cap ≠ 0 → 81 ≤ e) ∧ 81 ≤ a ∧ ∀ x ∈ L, al_ob h x
theorem al_ne (hA : al_c h a e L cap m) : a ≠ e := by
  intro q
  have h1 := hA.1
  rw [q, hA.2.1] at h1
  cases h1
theorem al_m (hA : al_w h a e L cap m) (m' : Int32) : al_w (h.1.set a (al_obj e L m'), h.2) a e L cap m' := by
  obtain ⟨hc, h1, h2, h3, h4, h5⟩ := hA
  refine ⟨⟨hs_eq hc.1, (hs_ne (al_ne hc).symm).trans hc.2.1, hc.2.2⟩, h1, h2, h3, h4, fun x hx => al_ob_set (h5 x hx) hc.1⟩
theorem al_nc_in (hc : cap ∈ al_caps) (h1 : cap < 163) : al_nc cap ∈ al_caps ∧ cap < al_nc cap ∧ al_nc cap ≤ 163 ∧ al_nc cap ≠ 0 := by
  have key : al_caps.all (fun c => decide (c = 163) || decide (al_nc c ∈ al_caps ∧ c < al_nc c ∧ al_nc c ≤ 163 ∧ al_nc c ≠ 0)) = true := by decide +kernel
  have h := List.all_eq_true.mp key cap hc
  simp only [Bool.or_eq_true, decide_eq_true_eq] at h
  exact h.resolve_left (by omega)
/-- the grown list -/
theorem al_gw (hA : al_w h a e L cap m) (hf : L.length = cap) (h1 : cap < 163) : ll_107 (some a) h = some (.inl (some (.inr (.inr (some h.1.length)))), ((h.1 ++ [al_arr L (al_nc cap)]).set a (al_obj h.1.length L m), h.2 + al_nc cap)) ∧ al_w ((h.1 ++ [al_arr L (al_nc cap)]).set a (al_obj h.1.length L m), h.2 + al_nc cap) a h.1.length L (al_nc cap) m := by
  obtain ⟨hc, k1, k2, k3, k4, k5⟩ := hA
  have hal : a < h.1.length := hc_lt hc.1
  obtain ⟨n1, n2, n3, n4⟩ := al_nc_in k1 h1
  refine ⟨al_grow hc k1 k5 hf k2 k4 (by omega), ⟨?_, ?_, by omega, by omega⟩, n1, fun q => absurd q n4, fun _ => by omega, k4, fun x hx => ?_⟩
  · exact hs_eq (h := (h.1 ++ [al_arr L (al_nc cap)], 0)) ((hn_lt hal).trans hc.1)
  · have e1 : ((h.1 ++ [al_arr L (al_nc cap)]).set a (al_obj h.1.length L m))[h.1.length]? = (h.1 ++ [al_arr L (al_nc cap)])[h.1.length]? := List.getElem?_set_ne (by omega)
    exact e1.trans hn_eq
  · exact al_ob_set (h := (h.1 ++ [al_arr L (al_nc cap)], h.2)) (al_ob_app (k5 x hx)) ((hn_lt hal).trans hc.1)
/-- one more at the end -/
theorem al_add (hA : al_w h a e L cap m) (hx : al_ob h x) (hn : L.length < 163) : ∃ h' e' cap', ll_105 (some a) (some x) h = some (.inl (some (.inl 1)), h') ∧ al_w h' a e' (L ++ [x]) cap' (m + 1) ∧ (e' = e ∨ e' = h.1.length) ∧ (∀ b, b < h.1.length → b ≠ a → b ≠ e → h'.1[b]? = h.1[b]?) ∧ h.1.length ≤ h'.1.length ∧ h'.1.length ≤ h.1.length + 1 ∧ h.2 ≤ h'.2 ∧ h'.2 ≤ h.2 + 163 := by
  have hal : a < h.1.length := hc_lt hA.1.1
  have hA2 := al_m hA (m + 1)
  have hx2 : al_ob (h.1.set a (al_obj e L (m + 1)), h.2) x := al_ob_set hx hA.1.1
  -- what l106_11 leaves
  have put : ∀ {g : pm_H} {e2 cap2 : Nat}, al_w g a e2 L cap2 (m + 1) → al_ob g x → L.length < cap2 → ∃ g', l106_11 (some a) (some x) (some e2) (Int32.ofNat L.length) g = some (.inl none, g') ∧ al_w g' a e2 (L ++ [x]) cap2 (m + 1) ∧ (∀ b, b ≠ a → b ≠ e2 → g'.1[b]? = g.1[b]?) ∧ g'.1.length = g.1.length ∧ g'.2 = g.2 := by
    intro g e2 cap2 hG hxg hlt
    obtain ⟨hc, k1, k2, k3, k4, k5⟩ := hG
    have he2 : 81 ≤ e2 := k3 (by omega)
    have hne := al_ne hc
    refine ⟨_, al_put hc k4 he2 hxg hlt, ⟨⟨?_, ?_, ?_, hc.2.2.2⟩, k1, k2, k3, k4, fun y hy => ?_⟩, fun b hb1 hb2 => ?_, ?_, rfl⟩
    · exact hs_eq (h := (g.1.set e2 _, g.2)) ((hs_ne hne).trans hc.1)
    · have h1 : ((g.1.set e2 (Sum.inr (13, (L ++ [x]).map Value.ref ++ List.replicate (cap2 - (L ++ [x]).length) Value.null))).set a (Sum.inl (12, [.ref e2, .int (Int32.ofNat (L ++ [x]).length), .int (m + 1)])))[e2]? = (g.1.set e2 (Sum.inr (13, (L ++ [x]).map Value.ref ++ List.replicate (cap2 - (L ++ [x]).length) Value.null)))[e2]? := List.getElem?_set_ne hne
      exact h1.trans (hs_eq hc.2.1)
    · rw [List.length_append]; exact hlt
    · have hob : al_ob g y := by
        rcases List.mem_append.mp hy with hy | hy
        · exact k5 y hy
        · rw [List.mem_singleton.mp hy]; exact hxg
      obtain ⟨ci, fs, hcy, hci⟩ := hob
      have hya : y ≠ a := by
        intro q
        rw [q, hc.1] at hcy
        cases hcy
        rcases hci with q | q | q <;> cases q
      have hye : y ≠ e2 := by
        intro q
        rw [q, hc.2.1] at hcy
        cases hcy
      refine ⟨ci, fs, ?_, hci⟩
      have h1 : ((g.1.set e2 (Sum.inr (13, (L ++ [x]).map Value.ref ++ List.replicate (cap2 - (L ++ [x]).length) Value.null))).set a (Sum.inl (12, [.ref e2, .int (Int32.ofNat (L ++ [x]).length), .int (m + 1)])))[y]? = (g.1.set e2 (Sum.inr (13, (L ++ [x]).map Value.ref ++ List.replicate (cap2 - (L ++ [x]).length) Value.null)))[y]? := List.getElem?_set_ne (fun q => hya q.symm)
      exact (h1.trans (hs_ne hye)).trans hcy
    · have h1 : ((g.1.set e2 (Sum.inr (13, (L ++ [x]).map Value.ref ++ List.replicate (cap2 - (L ++ [x]).length) Value.null))).set a (Sum.inl (12, [.ref e2, .int (Int32.ofNat (L ++ [x]).length), .int (m + 1)])))[b]? = (g.1.set e2 (Sum.inr (13, (L ++ [x]).map Value.ref ++ List.replicate (cap2 - (L ++ [x]).length) Value.null)))[b]? := List.getElem?_set_ne (fun q => hb1 q.symm)
      exact h1.trans (hs_ne hb2)
    · rw [List.length_set, List.length_set]
  have hcap := hA.1.2.2.2
  have hle := hA.1.2.2.1
  have e105 : ∀ {g : pm_H}, ll_106 (some a) (some x) (some e) (Int32.ofNat L.length) (h.1.set a (al_obj e L (m + 1)), h.2) = some (.inl none, g) → ll_105 (some a) (some x) h = some (.inl (some (.inl 1)), g) := by
    intro g hg
    unfold ll_105
    rw [hc_I hA.1.1 rfl, Option.bind_some, hc_P hA.1.1 (show 2 < 3 by decide) hA.2.2.2.2.1 rfl, Option.bind_some]
    show ((lf_R (h.1.set a (al_obj e L (m + 1)), h.2) (some a) [12, 0]).bind _) = _
    rw [hc_R (o := some e) hA2.1.1 rfl, Option.bind_some, hc_I hA2.1.1 rfl, Option.bind_some, if_pos (hc_lc hA2.1.1), hg]
    rfl
  by_cases hf : L.length = cap
  · obtain ⟨g1, g2⟩ := al_gw hA2 hf (by omega)
    obtain ⟨n1, n2, n3, n4⟩ := al_nc_in hA.2.1 (show cap < 163 by omega)
    have hlen : (h.1.set a (al_obj e L (m + 1))).length = h.1.length := List.length_set
    have hx3 : al_ob (((h.1.set a (al_obj e L (m + 1))) ++ [al_arr L (al_nc cap)]).set a (al_obj (h.1.set a (al_obj e L (m + 1))).length L (m + 1)), h.2 + al_nc cap) x := al_ob_set (h := ((h.1.set a (al_obj e L (m + 1))) ++ [al_arr L (al_nc cap)], h.2)) (al_ob_app hx2) ((hn_lt (by rw [hlen]; exact hal)).trans hA2.1.1)
    obtain ⟨g', p1, p2, p3, p4, p5⟩ := put g2 hx3 (by omega)
    refine ⟨g', _, al_nc cap, e105 ?_, p2, Or.inr hlen, fun b hb1 hb2 hb3 => ?_, ?_, ?_, ?_, ?_⟩
    · unfold ll_106
      rw [hc_len hA2.1.2.1 (by decide), Option.bind_some, al_capl hA2.1, if_pos (by rw [hf]), if_pos (hc_lc hA2.1.1), g1]
      exact p1
    · rw [p3 b hb2 (by show b ≠ (h.1.set a (al_obj e L (m + 1))).length; rw [hlen]; omega)]
      have q1 : (((h.1.set a (al_obj e L (m + 1))) ++ [al_arr L (al_nc cap)]).set a (al_obj (h.1.set a (al_obj e L (m + 1))).length L (m + 1)))[b]? = ((h.1.set a (al_obj e L (m + 1))) ++ [al_arr L (al_nc cap)])[b]? := List.getElem?_set_ne (fun q => hb2 q.symm)
      exact q1.trans ((List.getElem?_append_left (by rw [hlen]; exact hb1)).trans (hs_ne hb2))
    · rw [p4]
      show _ ≤ (((h.1.set a (al_obj e L (m + 1))) ++ [al_arr L (al_nc cap)]).set a _).length
      rw [List.length_set, List.length_append, hlen]
      exact Nat.le_add_right _ _
    · rw [p4]
      show (((h.1.set a (al_obj e L (m + 1))) ++ [al_arr L (al_nc cap)]).set a _).length ≤ _
      rw [List.length_set, List.length_append, hlen]
      exact Nat.le_refl _
    · rw [p5]
      exact Nat.le_add_right _ _
    · rw [p5]
      show h.2 + al_nc cap ≤ h.2 + 163
      omega
  · obtain ⟨g', p1, p2, p3, p4, p5⟩ := put hA2 hx2 (by omega)
    refine ⟨g', e, cap, e105 ?_, p2, Or.inl rfl, fun b hb1 hb2 hb3 => (p3 b hb2 hb3).trans (hs_ne hb2), ?_, ?_, ?_, ?_⟩
    · unfold ll_106
      rw [hc_len hA2.1.2.1 (by decide), Option.bind_some, al_capl hA2.1, if_neg (i32_ofne (by omega) (by omega) hf)]
      exact p1
    · rw [p4]; exact Nat.le_of_eq List.length_set.symm
    · rw [p4]
      show (h.1.set a _).length ≤ _
      rw [List.length_set]
      omega
    · rw [p5]; exact Nat.le_refl _
    · rw [p5]; exact Nat.le_add_right _ _
end ALADD2
