/-! LISTS in the abstract heap: add, add at, set, clear -/
theorem i32_sub {a b : Nat} (h : b ≤ a) : Int32.ofNat a - Int32.ofNat b = Int32.ofNat (a - b) := by
  have e : Int32.ofNat a = Int32.ofNat (a - b) + Int32.ofNat b := by
    rw [i32_add, Nat.sub_add_cancel h]
  rw [e, Int32.add_sub_cancel]
theorem i32_ltn {a b : Nat} (ha : a < 2 ^ 31) (hb : b < 2 ^ 31) : (Int32.ofNat a < Int32.ofNat b) ↔ a < b := Int32.ofNat_lt_ofNat ha hb
theorem i32_len {a b : Nat} (ha : a < 2 ^ 31) (hb : b < 2 ^ 31) : (Int32.ofNat a ≤ Int32.ofNat b) ↔ a ≤ b := Int32.ofNat_le_ofNat ha hb
theorem lb_R_r (v : Option Nat) (g : pm_H) (k : Option Nat → pm_H → tm_L) : lb_R (some (.inl (some (.inr (.inr v))), g)) k = k v g := rfl
theorem al_br {c : Prop} {dc : Decidable c} {a e0 ee : Nat} {g g' : pm_H} {K : Option Nat → pm_H → tm_L} (hrd : (if c then ll_107 (some a) g else some (.inl (some (.inr (.inr (some e0)))), g)) = some (.inl (some (.inr (.inr (some ee)))), g')) (hlc : lc_of g (some a) = some 12) : (if c then if lc_of g (some a) = some 12 then lb_R (ll_107 (some a) g) K else none else K (some e0) g) = K (some ee) g' := by
  by_cases q : c
  · rw [if_pos q] at hrd ⊢
    rw [if_pos hlc, hrd]
    rfl
  · rw [if_neg q] at hrd ⊢
    cases hrd
    rfl
section AHL2
variable {A A' : ah} {h h' : pm_H} {a b cap k x ee : Nat} {L L' : List Nat} {m m' : Int32} {w : Option Nat}
theorem ar_lx (R : ar A h) (e : A.1 a = ac_l L cap) (q : al_c h a ee L cap m) : 81 ≤ a ∧ cap ∈ al_caps ∧ (cap = 0 → ee = 20) ∧ (cap ≠ 0 → 81 ≤ ee ∧ A.1 ee = ac_x a) ∧ ∀ x ∈ L, ar_o A x := by
  obtain ⟨h81, e0, m0, q1, q2⟩ := R.2.2.2.2.1 a L cap e
  have h1 := q1.1
  rw [q.1] at h1
  cases h1
  exact ⟨h81, q2⟩
theorem ar_o_st {X : List Nat} {k j : Nat} (R : ar A h) (s : st A A' X k j) (ho : ar_o A x) (hx : x ∉ X) : ar_o A' x := by
  obtain ⟨ci, fs, e, hci⟩ := ho
  exact ⟨ci, fs, st_c s R e (by intro q; cases q) hx, hci⟩
theorem ar_o_nl (e : A.1 a = ac_l L cap) (ho : ar_o A x) : x ∉ [a] := by
  intro q
  rw [List.mem_singleton] at q
  subst q
  obtain ⟨ci, fs, e2, _⟩ := ho
  rw [e] at e2
  cases e2
/-- two cells of one list written: its array, itself -/
theorem al_two (q : al_c h a ee L cap m) (hl : L'.length ≤ cap) : al_c ((h.1.set ee (al_arr L' cap)).set a (al_obj ee L' m'), h.2) a ee L' cap m' ∧ ((h.1.set ee (al_arr L' cap)).set a (al_obj ee L' m')).length = h.1.length ∧ (∀ b, b ≠ a → b ≠ ee → (((h.1.set ee (al_arr L' cap)).set a (al_obj ee L' m'), h.2) : pm_H).1[b]? = h.1[b]?) := by
  have hne := al_ne q
  refine ⟨⟨?_, ?_, hl, q.2.2.2⟩, by rw [List.length_set, List.length_set], fun b q1 q2 => ?_⟩
  · exact hs_eq (h := (h.1.set ee _, h.2)) (n := h.2) ((hs_ne (n := h.2) hne).trans q.1)
  · exact (hs_ne (h := (h.1.set ee _, h.2)) (n := h.2) hne.symm).trans (hs_eq (n := h.2) q.2.1)
  · exact (hs_ne (h := (h.1.set ee _, h.2)) (n := h.2) q1).trans (hs_ne (n := h.2) q2)
theorem ll_add (R : ar A h) (ha : a < 145) (e : A.1 a = ac_l L cap) (hl : L.length < 163) (ho : ar_o A x) : ∃ A' h' cap', ll_105 (some a) (some x) h = some (.inl (some (.inl 1)), h') ∧ ar A' h' ∧ A'.1 a = ac_l (L ++ [x]) cap' ∧ st A A' [a] 0 0 := by
  obtain ⟨h81, e0, m, q, qc, q0, qt, qo⟩ := R.2.2.2.2.1 a L cap e
  obtain ⟨g, p1, R1, p2, p3⟩ := al_mod R e (m + 1)
  have q1 := p3 e0 m q
  obtain ⟨A1, g', ee, cap', m', R2, e2, s2, q2, hlt, hee, hrd⟩ := al_rd R1 ha e hl
  have hrd := hrd e0 _ q1
  have ho' : ar_o A1 x := ar_o_st R s2 ho (ar_o_nl e ho)
  have hput := al_put q2 h81 hee (ar_ob R2 ho') hlt
  obtain ⟨_, c2, c3, c4, c5⟩ := ar_lx R2 e2 q2
  obtain ⟨t1, t2, t3⟩ := al_two (m' := m') (L' := L ++ [x]) q2 (by rw [List.length_append]; exact hlt)
  obtain ⟨f1, f2⟩ := al_f0 (h' := ((g'.1.set ee (al_arr (L ++ [x]) cap')).set a (al_obj ee (L ++ [x]) m'), g'.2)) (L' := L ++ [x]) R2 e2 q2 c2 c3 c4 t2 rfl (fun b q1 q2 => t3 b q1 (q2 (by omega))) t1 (fun y hy => by
    rcases List.mem_append.mp hy with hy | hy
    · exact c5 y hy
    · rw [List.mem_singleton.mp hy]; exact ho')
  refine ⟨_, _, cap', ?_, f1, ah_set_e, st_w (st_trans s2 f2) (by simp) (Nat.le_refl _) (Nat.le_refl _)⟩
  unfold ll_105
  rw [hc_I q.1 rfl, Option.bind_some, p1, Option.bind_some, hc_R (o := some e0) q1.1 rfl, Option.bind_some, hc_I q1.1 rfl, Option.bind_some, if_pos (hc_lc q1.1)]
  unfold ll_106
  rw [hc_len q1.2.1 (by decide), Option.bind_some, al_capl q1, al_br hrd (hc_lc q1.1), hput]
  rfl
theorem al_insL (L : List Nat) (cap x i : Nat) (hl : L.length < cap) (hi : i ≤ L.length) : (pm_cpy (L.map Value.ref ++ List.replicate (cap - L.length) Value.null) (L.map Value.ref ++ List.replicate (cap - L.length) Value.null) i (i + 1) (L.length - i)).set i (.ref x) = (L.take i ++ x :: L.drop i).map Value.ref ++ List.replicate (cap - (L.take i ++ x :: L.drop i).length) Value.null := by
  have hlen : (L.take i ++ x :: L.drop i).length = L.length + 1 := by
    rw [List.length_append, List.length_cons, List.length_take, List.length_drop]; omega
  have hxl : i < (L.map Value.ref ++ List.replicate (cap - L.length) Value.null).length := by
    rw [List.length_append, List.length_map, List.length_replicate]; omega
  unfold pm_cpy
  rw [List.take_add_one, List.getElem?_eq_getElem hxl, List.append_assoc, List.set_append_right _ _ (by rw [List.length_take]; omega), List.length_take, Nat.min_eq_left (Nat.le_of_lt hxl), Nat.sub_self]
  show List.take i _ ++ (Value.ref x :: ((List.drop i _).take (L.length - i) ++ List.drop (i + 1 + (L.length - i)) _)) = _
  have e1 : i + 1 + (L.length - i) = L.length + 1 := by omega
  have a1 : List.take i (L.map Value.ref ++ List.replicate (cap - L.length) Value.null) = (L.take i).map Value.ref := by
    rw [List.take_append_of_le_length (by rw [List.length_map]; exact hi), List.map_take]
  have a2 : (List.drop i (L.map Value.ref ++ List.replicate (cap - L.length) Value.null)).take (L.length - i) = (L.drop i).map Value.ref := by
    rw [List.drop_append_of_le_length (by rw [List.length_map]; exact hi), List.take_append_of_le_length (by rw [List.length_drop, List.length_map]; exact Nat.le_refl _), List.take_of_length_le (by rw [List.length_drop, List.length_map]; exact Nat.le_refl _), List.map_drop]
  have a3 : List.drop (L.length + 1) (L.map Value.ref ++ List.replicate (cap - L.length) Value.null) = List.replicate (cap - (L.length + 1)) Value.null := by
    rw [List.drop_append, List.length_map, List.drop_eq_nil_of_le (by rw [List.length_map]; omega), List.drop_replicate, List.nil_append]
    congr 1
    omega
  rw [e1, hlen, a1, a2, a3, List.map_append, List.map_cons, List.append_assoc, List.cons_append]
theorem ll_ins (R : ar A h) (ha : a < 145) (e : A.1 a = ac_l L cap) (hl : L.length < 163) (ho : ar_o A x) {i : Nat} (hi : i ≤ L.length) : ∃ A' h' cap', ll_115 w (some a) (Int32.ofNat i) (some x) h = some (.inl none, h') ∧ ar A' h' ∧ A'.1 a = ac_l (L.take i ++ x :: L.drop i) cap' ∧ st A A' [a] 0 0 := by
  obtain ⟨h81, e0, m, q, qc, q0, qt, qo⟩ := R.2.2.2.2.1 a L cap e
  obtain ⟨g, p1, R1, p2, p3⟩ := al_mod R e (m + 1)
  have q1 := p3 e0 m q
  obtain ⟨A1, g', ee, cap', m', R2, e2, s2, q2, hlt, hee, hrd⟩ := al_rd R1 ha e hl
  have hrd := hrd e0 _ q1
  have ho' : ar_o A1 x := ar_o_st R s2 ho (ar_o_nl e ho)
  have hcap := q2.2.2.2
  have hL' : (L.take i ++ x :: L.drop i).length = L.length + 1 := by
    rw [List.length_append, List.length_cons, List.length_take, List.length_drop]; omega
  obtain ⟨_, c2, c3, c4, c5⟩ := ar_lx R2 e2 q2
  obtain ⟨t1, t2, t3⟩ := al_two (m' := m') (L' := L.take i ++ x :: L.drop i) q2 (by rw [hL']; exact hlt)
  obtain ⟨f1, f2⟩ := al_f0 (h' := ((g'.1.set ee (al_arr (L.take i ++ x :: L.drop i) cap')).set a (al_obj ee (L.take i ++ x :: L.drop i) m'), g'.2)) (L' := L.take i ++ x :: L.drop i) R2 e2 q2 c2 c3 c4 t2 rfl (fun b q1 q2 => t3 b q1 (q2 (by omega))) t1 (fun y hy => by
    rcases List.mem_append.mp hy with hy | hy
    · exact c5 y (List.mem_of_mem_take hy)
    · rcases List.mem_cons.mp hy with hy | hy
      · rw [hy]; exact ho'
      · exact c5 y (List.mem_of_mem_drop hy))
  -- what is written
  have hcp : lf_cp pt_P g' (some ee) (Int32.ofNat i) (some ee) (Int32.ofNat (i + 1)) (Int32.ofNat (L.length - i)) = some (g'.1.set ee (.inr (13, pm_cpy (L.map Value.ref ++ List.replicate (cap' - L.length) Value.null) (L.map Value.ref ++ List.replicate (cap' - L.length) Value.null) i (i + 1) (L.length - i))), g'.2) := by
    unfold lf_cp
    simp only [hc_arr q2.2.1]
    have n1 : (Int32.ofNat i).toNatClampNeg = i := Int32.toNatClampNeg_ofNat_of_lt (by omega)
    have n2 : (Int32.ofNat (i + 1)).toNatClampNeg = i + 1 := Int32.toNatClampNeg_ofNat_of_lt (by omega)
    have n3 : (Int32.ofNat (L.length - i)).toNatClampNeg = L.length - i := Int32.toNatClampNeg_ofNat_of_lt (by omega)
    rw [n1, n2, n3, al_capl q2]
    refine if_pos ⟨by trivial, by decide, hee, i32_lt _ (by omega), i32_lt _ (by omega), i32_lt _ (by omega), by omega, by omega, ?_⟩
    have h1 := al_all (h := g') (L := L) (n := cap' - L.length) (fun x hx => ar_ob R2 (c5 x hx))
    rw [List.all_eq_true] at h1 ⊢
    intro v hv
    exact h1 v (List.mem_of_mem_drop (List.mem_of_mem_take hv))
  have hC : ((g'.1.set ee (.inr (13, pm_cpy (L.map Value.ref ++ List.replicate (cap' - L.length) Value.null) (L.map Value.ref ++ List.replicate (cap' - L.length) Value.null) i (i + 1) (L.length - i))), g'.2) : pm_H).1[ee]? = some (.inr (13, pm_cpy (L.map Value.ref ++ List.replicate (cap' - L.length) Value.null) (L.map Value.ref ++ List.replicate (cap' - L.length) Value.null) i (i + 1) (L.length - i))) := hs_eq q2.2.1
  have hpl : (pm_cpy (L.map Value.ref ++ List.replicate (cap' - L.length) Value.null) (L.map Value.ref ++ List.replicate (cap' - L.length) Value.null) i (i + 1) (L.length - i)).length = cap' := by
    unfold pm_cpy
    simp only [List.length_append, List.length_take, List.length_drop, al_capl q2]
    omega
  have hxo : al_ob (g'.1.set ee (.inr (13, pm_cpy (L.map Value.ref ++ List.replicate (cap' - L.length) Value.null) (L.map Value.ref ++ List.replicate (cap' - L.length) Value.null) i (i + 1) (L.length - i))), g'.2) x := by
    obtain ⟨ci, fs, hcx, hci⟩ := ar_ob R2 ho'
    exact ⟨ci, fs, (hs_ne (by intro q; rw [q, q2.2.1] at hcx; cases hcx)).trans hcx, hci⟩
  have hS := hc_st (i := .aastore) (j := i) (v := .inr (.inr (some x))) hC hee (by rw [hpl]; omega) (by rw [hpl]; omega) (al_nar hxo)
  rw [al_insL L cap' x i hlt hi, List.set_set] at hS
  have h3 : ((g'.1.set ee (al_arr (L.take i ++ x :: L.drop i) cap'), g'.2) : pm_H).1[a]? = some (.inl (12, [.ref ee, .int (Int32.ofNat L.length), .int m'])) := (hs_ne (al_ne q2)).trans q2.1
  have hP := hc_P (v := .inl (Int32.ofNat (L.take i ++ x :: L.drop i).length)) (t := 0) h3 (show 1 < 3 by decide) h81 rfl
  refine ⟨_, _, cap', ?_, f1, ah_set_e, st_w (st_trans s2 f2) (by simp) (Nat.le_refl _) (Nat.le_refl _)⟩
  unfold ll_115 ll_116
  rw [if_pos (hc_lc q.1), hc_I q.1 rfl, Option.bind_some, if_neg (by rw [i32_ltn (by omega) (by omega)]; omega), if_pos (by rw [show (0 : Int32) = Int32.ofNat 0 from rfl, i32_len (by omega) (by omega)]; omega), lb_V_r, hc_I q.1 rfl, Option.bind_some, p1, Option.bind_some, hc_I q1.1 rfl, Option.bind_some, hc_R (o := some e0) q1.1 rfl, Option.bind_some, hc_len q1.2.1 (by decide), Option.bind_some, al_capl q1, al_br (K := fun v h => l115_38 w (some a) (Int32.ofNat i) (some x) (Int32.ofNat L.length) v h) hrd (hc_lc q1.1)]
  unfold l115_38
  have n4 : Int32.ofNat i + (1 : Int32) = Int32.ofNat (i + 1) := i32_add i 1
  have n5 : Int32.ofNat L.length + (1 : Int32) = Int32.ofNat (L.take i ++ x :: L.drop i).length := by rw [hL']; exact i32_add L.length 1
  rw [i32_sub hi, n4, n5, hcp, Option.bind_some, hS, Option.bind_some]
  show ((lf_P 81 (g'.1.set ee (al_arr (L.take i ++ x :: L.drop i) cap'), g'.2) (some a) [0, 12, 1] (.inl (Int32.ofNat (L.take i ++ x :: L.drop i).length))).bind _) = _
  rw [hP, Option.bind_some]
  rfl
theorem al_setG (L : List Nat) (cap x i : Nat) (hi : i < L.length) : (L.map Value.ref ++ List.replicate (cap - L.length) Value.null).set i (.ref x) = (L.set i x).map Value.ref ++ List.replicate (cap - (L.set i x).length) Value.null := by
  rw [List.set_append_left _ _ (by rw [List.length_map]; exact hi), List.length_set, List.map_set]
theorem ll_setA (R : ar A h) (e : A.1 a = ac_l L cap) (ho : ar_o A x) {i : Nat} (hi : i < L.length) : ∃ A' h', ll_104 (some a) (Int32.ofNat i) (some x) h = some (.inl (some (.inr (.inr (some (L.getD i 0))))), h') ∧ ar A' h' ∧ A'.1 a = ac_l (L.set i x) cap ∧ st A A' [a] 0 0 := by
  obtain ⟨h81, ee, m, q, qc, q0, qt, qo⟩ := R.2.2.2.2.1 a L cap e
  have hcap := q.2.2.2
  have hle := q.2.2.1
  have hee := (qt (by omega)).1
  have hS := hc_st (i := .aastore) (j := i) (v := .inr (.inr (some x))) q.2.1 hee (by rw [al_capl q]; omega) (by rw [al_capl q]; omega) (al_nar (ar_ob R ho))
  rw [al_setG L cap x i hi] at hS
  have q' : al_c (h.1.set ee (al_arr (L.set i x) cap), h.2) a ee (L.set i x) cap m := by
    refine ⟨?_, hs_eq q.2.1, by rw [List.length_set]; exact hle, hcap⟩
    rw [List.length_set]
    exact (hs_ne (al_ne q)).trans q.1
  obtain ⟨f1, f2⟩ := al_f0 (h' := (h.1.set ee (al_arr (L.set i x) cap), h.2)) (L' := L.set i x) R e q qc q0 qt List.length_set rfl (fun b q1 q2 => hs_ne (q2 (by omega))) q' (fun y hy => by
    rcases List.mem_or_eq_of_mem_set hy with hy | hy
    · exact qo y hy
    · rw [hy]; exact ho)
  refine ⟨_, _, ?_, f1, ah_set_e, f2⟩
  have e88 : ll_88 (Int32.ofNat i) (Int32.ofNat L.length) h = some (.inl (some (.inl (Int32.ofNat i))), h) := by
    unfold ll_88 ll_41
    rw [if_neg (i32_lt i (by omega)), if_pos ((Int32.ofNat_lt_ofNat (by omega) (by omega)).mpr hi)]
    rfl
  have e89 : ll_89 (some a) (Int32.ofNat i) h = some (.inl (some (.inr (.inr (some (L.getD i 0))))), h) := by
    unfold ll_89
    rw [hc_R (o := some ee) q.1 rfl, Option.bind_some, hc_ldR q.2.1 rfl (by omega) (al_el q hi)]
    rfl
  unfold ll_104
  rw [hc_I q.1 rfl, Option.bind_some, e88, lb_I_r, if_pos (hc_lc q.1), e89, lb_R_r, hc_R (o := some ee) q.1 rfl, Option.bind_some, hS]
  rfl
/-- the first i are nulled -/
theorem al_clr {t : Nat} (hL : t < 100000) (he : 81 ≤ ee) : ∀ (n i : Nat) (g : pm_H) (xs : List Value), g.1[ee]? = some (.inr (13, List.replicate i Value.null ++ xs)) → t ≤ i + xs.length → i ≤ t → xs.length < 100000 → t - i < n → l121_27 n (some ee) (Int32.ofNat t) (Int32.ofNat i) g = some (.inl none, (g.1.set ee (.inr (13, List.replicate t Value.null ++ xs.drop (t - i))), g.2)) := by
  intro n
  induction n with
  | zero => intro i g xs _ _ _ _ h; omega
  | succ n ih =>
    intro i g xs hc h1 h2 hx h3
    rw [l121_27]
    dsimp only
    by_cases q : t ≤ i
    · have : i = t := by omega
      subst this
      rw [if_pos ((i32_len (by omega) (by omega)).mpr q), Nat.sub_self, List.drop_zero]
      have e : g.1.set ee (.inr (13, List.replicate i Value.null ++ xs)) = g.1 := by
        apply List.ext_getElem?
        intro b
        by_cases q : b = ee
        · subst q; rw [List.getElem?_set_self (List.getElem?_eq_some_iff.mp hc).1, hc]
        · rw [List.getElem?_set_ne (fun z => q z.symm)]
      rw [e]
    · rw [if_neg (by rw [i32_len (by omega) (by omega)]; exact q)]
      cases xs with
      | nil => simp at h1; omega
      | cons y ys =>
        have hl : (List.replicate i Value.null ++ y :: ys).length = i + (ys.length + 1) := by simp
        have hx' : ys.length + 1 < 100000 := by simpa using hx
        have h1' : t ≤ i + (ys.length + 1) := by simpa using h1
        rw [hc_st (i := .aastore) (j := i) (w := .null) hc he (by rw [hl]; omega) (by rw [hl]; omega) rfl, Option.bind_some]
        have e1 : (List.replicate i Value.null ++ y :: ys).set i Value.null = List.replicate (i + 1) Value.null ++ ys := by
          rw [List.set_append_right _ _ (by simp), List.length_replicate, Nat.sub_self, List.set_cons_zero, List.replicate_succ']
          simp
        rw [e1]
        have n4 : Int32.ofNat i + (1 : Int32) = Int32.ofNat (i + 1) := i32_add i 1
        rw [n4, ih (i + 1) _ ys (hs_eq hc) (by omega) (by omega) (by omega) (by omega)]
        have e2 : (y :: ys).drop (t - i) = ys.drop (t - (i + 1)) := by
          rw [show t - i = (t - (i + 1)) + 1 by omega, List.drop_succ_cons]
        rw [e2]
        simp only [List.set_set]
theorem ll_clear (R : ar A h) (e : A.1 a = ac_l L cap) : ∃ A' h', ll_121 (some a) h = some (.inl none, h') ∧ ar A' h' ∧ A'.1 a = ac_l [] cap ∧ st A A' [a] 0 0 := by
  obtain ⟨h81, ee, m, q, qc, q0, qt, qo⟩ := R.2.2.2.2.1 a L cap e
  obtain ⟨g, p1, R1, p2, p3⟩ := al_mod R e (m + 1)
  have q1 := p3 ee m q
  have hcap := q.2.2.2
  have hle := q.2.2.1
  have hP := hc_P (v := .inl (0 : Int32)) (t := 0) q1.1 (show 1 < 3 by decide) h81 rfl
  have hne := al_ne q1
  have hc163 : cap ≤ 163 := by
    have := qc
    simp only [al_caps, List.mem_cons, List.not_mem_nil, or_false] at this
    omega
  have hE : ((g.1.set a (.inl (12, [.ref ee, .int 0, .int (m + 1)])), g.2) : pm_H).1[ee]? = some (.inr (13, L.map Value.ref ++ List.replicate (cap - L.length) Value.null)) := (hs_ne hne.symm).trans q1.2.1
  have e0 : ∀ {h' : pm_H}, l121_27 lf_N (some ee) (Int32.ofNat L.length) 0 (g.1.set a (.inl (12, [.ref ee, .int 0, .int (m + 1)])), g.2) = some (.inl none, h') → ll_121 (some a) h = some (.inl none, h') := by
    intro h' hh
    unfold ll_121
    rw [hc_I q.1 rfl, Option.bind_some, p1, Option.bind_some, hc_R (o := some ee) q1.1 rfl, Option.bind_some, hc_I q1.1 rfl, Option.bind_some, hP, Option.bind_some]
    exact hh
  by_cases c0 : cap = 0
  · have hL : L = [] := List.length_eq_zero_iff.mp (by omega)
    subst hL
    subst c0
    have q' : al_c (g.1.set a (.inl (12, [.ref ee, .int 0, .int (m + 1)])), g.2) a ee [] 0 (m + 1) := ⟨hs_eq q1.1, hE, Nat.le_refl _, by omega⟩
    obtain ⟨f1, f2⟩ := al_f0 (h' := (g.1.set a (.inl (12, [.ref ee, .int 0, .int (m + 1)])), g.2)) R1 e q1 qc q0 qt List.length_set rfl (fun b q1 _ => hs_ne q1) q' qo
    exact ⟨_, _, e0 rfl, f1, ah_set_e, f2⟩
  · have hr := al_clr (t := L.length) (by omega) (qt c0).1 lf_N 0 _ (L.map Value.ref ++ List.replicate (cap - L.length) Value.null) hE (by rw [List.length_append, List.length_map]; omega) (by omega) (by rw [al_capl q]; omega) (by unfold lf_N; omega)
    rw [Nat.sub_zero, List.drop_append_of_le_length (by rw [List.length_map]; exact Nat.le_refl _), List.drop_of_length_le (by rw [List.length_map]; exact Nat.le_refl _), List.nil_append, List.replicate_append_replicate] at hr
    rw [Nat.add_sub_cancel' hle] at hr
    have q' : al_c (((g.1.set a (.inl (12, [.ref ee, .int 0, .int (m + 1)]))).set ee (.inr (13, List.replicate cap Value.null))), g.2) a ee [] cap (m + 1) := by
      refine ⟨?_, ?_, Nat.zero_le _, hcap⟩
      · exact (hs_ne (h := (g.1.set a _, g.2)) (n := g.2) hne).trans (hs_eq (n := g.2) q1.1)
      · exact hs_eq (h := (g.1.set a _, g.2)) (n := g.2) hE
    obtain ⟨f1, f2⟩ := al_f0 (h' := (((g.1.set a (.inl (12, [.ref ee, .int 0, .int (m + 1)]))).set ee (.inr (13, List.replicate cap Value.null))), g.2)) R1 e q1 qc q0 qt (by rw [List.length_set, List.length_set]) rfl (fun b q1 q2 => (hs_ne (h := (g.1.set a _, g.2)) (n := g.2) (q2 c0)).trans (hs_ne (n := g.2) q1)) q' (fun x hx => by cases hx)
    exact ⟨_, _, e0 hr, f1, ah_set_e, f2⟩
end AHL2
