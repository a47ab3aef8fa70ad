/-! CELLS: what the lifted methods read and write, by the cells -/
section HEAP
variable {h h' : pm_H} {a b ci k t : Nat} {fs xs : List Value}
theorem hc_lc (hc : h.1[a]? = some (.inl (ci, fs))) : lc_of h (some a) = some ci := by
  unfold lc_of
  simp only [hc]
theorem hc_V {v : Value} (hc : h.1[a]? = some (.inl (ci, fs))) (hk : fs[k]? = some v) : lf_V h (some a) [ci, k] = tm_of v := by
  unfold lf_V
  simp only [hc, pm_slot, if_true, hk]
theorem hc_I {v : Int32} (hc : h.1[a]? = some (.inl (ci, fs))) (hk : fs[k]? = some (.int v)) : lf_I h (some a) [ci, k] = some v := by
  unfold lf_I
  rw [hc_V hc hk]
  rfl
theorem hc_J {v : Int64} (hc : h.1[a]? = some (.inl (ci, fs))) (hk : fs[k]? = some (.long v)) : lf_J h (some a) [ci, k] = some v := by
  unfold lf_J
  rw [hc_V hc hk]
  rfl
theorem hc_R {o : Option Nat} (hc : h.1[a]? = some (.inl (ci, fs))) (hk : fs[k]? = some (tm_r o)) : lf_R h (some a) [ci, k] = some o := by
  unfold lf_R
  rw [hc_V hc hk]
  cases o <;> rfl
theorem hc_P {v : tm_V} (hc : h.1[a]? = some (.inl (ci, fs))) (hk : k < fs.length) (ha : 81 ≤ a) (hf : pm_fit t (tm_v v) = true) : lf_P 81 h (some a) [t, ci, k] v = some (h.1.set a (.inl (ci, fs.set k (tm_v v))), h.2) := by
  unfold lf_P
  simp only [hc, List.tail_cons, pm_slot, if_true]
  exact if_pos ⟨ha, hk, hf⟩
theorem hc_arr (hc : h.1[a]? = some (.inr (t, xs))) : la_arr h (some a) = some (a, t, xs) := by
  unfold la_arr
  simp only [hc]
theorem hc_len (hc : h.1[a]? = some (.inr (t, xs))) (ht : t ≠ 9) : la_len h (some a) = some (Int32.ofNat xs.length) := by
  unfold la_len
  simp only [hc_arr hc]
  rw [if_neg ht]
theorem hc_ld {i : Instr} {j : Nat} {v : Value} (hc : h.1[a]? = some (.inr (t, xs))) (hi : pm_ldk i t = true) (hj : j < 2 ^ 31) (hx : xs[j]? = some v) : la_V h i (some a) (Int32.ofNat j) = tm_of v := by
  have hl : j < xs.length := (List.getElem?_eq_some_iff.mp hx).1
  have h1 : la_ix (Int32.ofNat j) xs.length = some j := by
    unfold la_ix
    have e : (Int32.ofNat j).toNatClampNeg = j := Int32.toNatClampNeg_ofNat_of_lt hj
    rw [if_neg (i32_lt j hj), e, if_pos hl]
  unfold la_V
  simp only [hc_arr hc, hi, if_true, h1, hx]
theorem hc_ldI {i : Instr} {j : Nat} {v : Int32} (hc : h.1[a]? = some (.inr (t, xs))) (hi : pm_ldk i t = true) (hj : j < 2 ^ 31) (hx : xs[j]? = some (.int v)) : la_I h i (some a) (Int32.ofNat j) = some v := by
  unfold la_I
  rw [hc_ld hc hi hj hx]
  rfl
theorem hc_ldJ {i : Instr} {j : Nat} {v : Int64} (hc : h.1[a]? = some (.inr (t, xs))) (hi : pm_ldk i t = true) (hj : j < 2 ^ 31) (hx : xs[j]? = some (.long v)) : la_J h i (some a) (Int32.ofNat j) = some v := by
  unfold la_J
  rw [hc_ld hc hi hj hx]
  rfl
theorem hc_ldR {i : Instr} {j : Nat} {o : Option Nat} (hc : h.1[a]? = some (.inr (t, xs))) (hi : pm_ldk i t = true) (hj : j < 2 ^ 31) (hx : xs[j]? = some (tm_r o)) : la_R h i (some a) (Int32.ofNat j) = some o := by
  unfold la_R
  rw [hc_ld hc hi hj hx]
  cases o <;> rfl
theorem hc_st {i : Instr} {j : Nat} {v : tm_V} {w : Value} (hc : h.1[a]? = some (.inr (t, xs))) (ha : 81 ≤ a) (hj : j < xs.length) (hl : xs.length < 2 ^ 31) (hn : pm_nar pt_P.2 i t h (tm_v v) = some w) : la_S pt_P h i (some a) (Int32.ofNat j) v = some (h.1.set a (.inr (t, xs.set j w)), h.2) := by
  have h1 : la_ix (Int32.ofNat j) xs.length = some j := by
    unfold la_ix
    have e : (Int32.ofNat j).toNatClampNeg = j := Int32.toNatClampNeg_ofNat_of_lt (by omega)
    rw [if_neg (i32_lt j (by omega)), e, if_pos hj]
  unfold la_S
  simp only [hc_arr hc, h1, hn]
  rw [if_pos ha]
/-- another cell -/
theorem hs_ne {x : pm_C} {n : Nat} (e : b ≠ a) : ((h.1.set a x, n) : pm_H).1[b]? = h.1[b]? := List.getElem?_set_ne (fun q => e q.symm)
theorem hs_eq {x y : pm_C} {n : Nat} (hc : h.1[a]? = some y) : ((h.1.set a x, n) : pm_H).1[a]? = some x := List.getElem?_set_self (List.getElem?_eq_some_iff.mp hc).1
theorem hn_lt {x : pm_C} {n : Nat} (e : a < h.1.length) : ((h.1 ++ [x], n) : pm_H).1[a]? = h.1[a]? := List.getElem?_append_left e
theorem hn_eq {x : pm_C} {n : Nat} : ((h.1 ++ [x], n) : pm_H).1[h.1.length]? = some x := by
  show (h.1 ++ [x])[h.1.length]? = some x
  simp
theorem hc_lt {x : pm_C} (hc : h.1[a]? = some x) : a < h.1.length := (List.getElem?_eq_some_iff.mp hc).1
end HEAP
/-! LISTS of objects (ArrayList) -/
/-- the list a holds the objects L; e: its array; cap: how many it could hold -/
def al_c (h : pm_H) (a e : Nat) (L : List Nat) (cap : Nat) (m : Int32) : Prop :=
  h.1[a]? = some (.inl (12, [.ref e, .int (Int32.ofNat L.length), .int m])) ∧ h.1[e]? = some (.inr (13, L.map Value.ref ++ List.replicate (cap - L.length) .null)) ∧ L.length ≤ cap ∧ cap < 100000
section ALIST
variable {h : pm_H} {a e cap : Nat} {L : List Nat} {m : Int32}
theorem al_size (hA : al_c h a e L cap m) : ll_86 (some a) h = some (.inl (some (.inl (Int32.ofNat L.length))), h) := by
  unfold ll_86
  rw [hc_I hA.1 rfl]
  rfl
theorem al_el (hA : al_c h a e L cap m) {i : Nat} (hi : i < L.length) : (L.map Value.ref ++ List.replicate (cap - L.length) Value.null)[i]? = some (tm_r (some (L.getD i 0))) := by
  rw [List.getElem?_append_left (by rw [List.length_map]; exact hi), List.getElem?_map, List.getElem?_eq_getElem hi, List.getD_eq_getElem?_getD, List.getElem?_eq_getElem hi]
  rfl
theorem al_get (hA : al_c h a e L cap m) {i : Nat} (hi : i < L.length) : ll_87 (some a) (Int32.ofNat i) h = some (.inl (some (.inr (.inr (some (L.getD i 0))))), h) := by
  have hL : L.length < 100000 := Nat.lt_of_le_of_lt hA.2.2.1 hA.2.2.2
  have e41 : ll_88 (Int32.ofNat i) (Int32.ofNat L.length) h = some (.inl (some (.inl (Int32.ofNat i))), h) := by
    unfold ll_88 ll_41
    rw [if_neg (i32_lt i (by omega)), if_pos ((Int32.ofNat_lt_ofNat (by omega) (by omega)).mpr hi)]
    rfl
  have e89 : ll_89 (some a) (Int32.ofNat i) h = some (.inl (some (.inr (.inr (some (L.getD i 0))))), h) := by
    unfold ll_89
    rw [hc_R (o := some e) hA.1 rfl, Option.bind_some, hc_ldR hA.2.1 rfl (by omega) (al_el hA hi)]
    rfl
  unfold ll_87
  rw [hc_I hA.1 rfl, Option.bind_some, e41, lb_I_r, if_pos (hc_lc hA.1), e89]
  rfl
end ALIST
