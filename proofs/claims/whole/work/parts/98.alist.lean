/-! LISTS of objects: one more at the end, where there is room -/
def al_caps : List Nat := [0, 10, 15, 22, 33, 49, 73, 109, 163]
/-- an object that a list may hold: a line, an act, a place -/
def al_ob (h : pm_H) (x : Nat) : Prop := ∃ ci fs, h.1[x]? = some (.inl (ci, fs)) ∧ (ci = 6 ∨ ci = 7 ∨ ci = 8)
theorem al_setL (L : List Nat) (cap x : Nat) (hl : L.length < cap) : (L.map Value.ref ++ List.replicate (cap - L.length) Value.null).set L.length (.ref x) = (L ++ [x]).map Value.ref ++ List.replicate (cap - (L ++ [x]).length) Value.null := by
  have e1 : (L ++ [x]).length = L.length + 1 := by simp
  have e2 : cap - L.length = (cap - (L.length + 1)) + 1 := by omega
  rw [e1, e2, List.replicate_succ, List.set_append_right _ _ (by rw [List.length_map]; exact Nat.le_refl _), List.length_map, Nat.sub_self, List.set_cons_zero, List.map_append]
  simp
theorem al_capl {h : pm_H} {a e cap : Nat} {L : List Nat} {m : Int32} (hA : al_c h a e L cap m) : (L.map Value.ref ++ List.replicate (cap - L.length) Value.null).length = cap := by
  have := hA.2.2.1
  rw [List.length_append, List.length_map, List.length_replicate]
  omega
theorem al_nar {h : pm_H} {x : Nat} (hx : al_ob h x) : pm_nar pt_P.2 .aastore 13 h (tm_v (.inr (.inr (some x)))) = some (.ref x) := by
  obtain ⟨ci, fs, hc, hci⟩ := hx
  show (if 10 ≤ 13 then (match h.1[x]? with
    | some (.inl (ci, _)) => if pt_asg.contains (13, ci) then some (Value.ref x) else none
    | _ => none) else none) = _
  rw [if_pos (by decide)]
  simp only [hc]
  rcases hci with rfl | rfl | rfl <;> rfl
theorem i32_ofne {a b : Nat} (ha : a < 2 ^ 31) (hb : b < 2 ^ 31) (h : a ≠ b) : ¬ Int32.ofNat a = Int32.ofNat b := by
  intro e
  have h1 := congrArg Int32.toNatClampNeg e
  rw [Int32.toNatClampNeg_ofNat_of_lt ha, Int32.toNatClampNeg_ofNat_of_lt hb] at h1
  exact h h1
section ALADD
variable {h : pm_H} {a e cap x : Nat} {L : List Nat} {m : Int32}
/-- into an array with room -/
theorem al_put (hA : al_c h a e L cap m) (ha : 81 ≤ a) (he : 81 ≤ e) (hx : al_ob h x) (hl : L.length < cap) : l106_11 (some a) (some x) (some e) (Int32.ofNat L.length) h = some (.inl none, ((h.1.set e (.inr (13, (L ++ [x]).map Value.ref ++ List.replicate (cap - (L ++ [x]).length) Value.null))).set a (.inl (12, [.ref e, .int (Int32.ofNat (L ++ [x]).length), .int m])), h.2)) := by
  have hcap := hA.2.2.2
  have hae : a ≠ e := by
    intro q
    have h1 := hA.1
    rw [q, hA.2.1] at h1
    cases h1
  unfold l106_11
  rw [hc_st hA.2.1 he (by rw [al_capl hA]; exact hl) (by rw [al_capl hA]; omega) (al_nar hx), Option.bind_some, al_setL L cap x hl]
  have h2 : ((h.1.set e (.inr (13, (L ++ [x]).map Value.ref ++ List.replicate (cap - (L ++ [x]).length) Value.null)), h.2) : pm_H).1[a]? = some (.inl (12, [.ref e, .int (Int32.ofNat L.length), .int m])) := (hs_ne hae).trans hA.1
  have e1 : Int32.ofNat L.length + (1 : Int32) = Int32.ofNat (L ++ [x]).length := by
    rw [List.length_append]
    exact i32_add L.length 1
  rw [e1, hc_P h2 (show 1 < 3 by decide) ha rfl, Option.bind_some]
  rfl
/-- the new capacity -/
def al_nc (cap : Nat) : Nat := if cap = 0 then 10 else cap + cap / 2
theorem al_shr {c : Nat} (hc : c ∈ al_caps) : Int32.ofNat c >>> ((1 : Int32) &&& 31) = Int32.ofNat (c / 2) := by
  have key : al_caps.all (fun c => decide (Int32.ofNat c >>> ((1 : Int32) &&& 31) = Int32.ofNat (c / 2))) = true := by decide +kernel
  exact of_decide_eq_true (List.all_eq_true.mp key c hc)
theorem al_23 {c : Nat} (hc : c ∈ al_caps) (h0 : c ≠ 0) : ll_23 (Int32.ofNat c) (Int32.ofNat (c + 1) - Int32.ofNat c) (Int32.ofNat (c / 2)) h = some (.inl (some (.inl (Int32.ofNat (al_nc c)))), h) := by
  have hcs : c = 10 ∨ c = 15 ∨ c = 22 ∨ c = 33 ∨ c = 49 ∨ c = 73 ∨ c = 109 ∨ c = 163 := by
    simp only [al_caps, List.mem_cons, List.not_mem_nil, or_false] at hc
    omega
  rcases hcs with rfl | rfl | rfl | rfl | rfl | rfl | rfl | rfl <;> rfl
theorem al_all {L : List Nat} {n : Nat} (hL : ∀ x ∈ L, al_ob h x) : (L.map Value.ref ++ List.replicate n Value.null).all (pm_el pt_P.2 13 h) = true := by
  rw [List.all_eq_true]
  intro v hv
  rcases List.mem_append.mp hv with hv | hv
  · obtain ⟨x, hx, rfl⟩ := List.mem_map.mp hv
    obtain ⟨ci, fs, hc, hci⟩ := hL x hx
    show (match h.1[x]? with
      | some (.inl (ci, _)) => pt_asg.contains (13, ci)
      | _ => false) = true
    simp only [hc]
    rcases hci with rfl | rfl | rfl <;> rfl
  · rw [List.eq_of_mem_replicate hv]
    rfl
end ALADD
