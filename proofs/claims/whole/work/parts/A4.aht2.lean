/-! TEXTS in the abstract heap: growing, append of a character, setLength -/
theorem sb_sl0 {n : Nat} : Int32.ofNat n <<< ((0 : Int32) &&& 31) = Int32.ofNat n := by
  have e : ((0 : Int32) &&& 31) = 0 := rfl
  rw [e, Int32.shiftLeft_zero]
section AHT2
variable {A A' : ah} {h h' : pm_H} {a b cap k x ee : Nat} {T T' : List Nat} {m m' : Int32} {w : Option Nat} {rest rest' : List Value}
theorem sb_naB {k : Nat} (hk : k ≤ 1000000) : lf_na h 4 (.int 0) (Int32.ofNat k) = some (h.1 ++ [.inr (4, List.replicate k (.int 0))], h.2 + k) := by
  unfold lf_na
  have e1 : (Int32.ofNat k).toNatClampNeg = k := Int32.toNatClampNeg_ofNat_of_lt (by omega)
  rw [if_neg (i32_lt k (by omega)), e1, if_pos hk]
theorem sb_fitT (hT : ∀ c ∈ T, c < 128) : (T.map (fun c => Value.int (Int32.ofNat c))).all (pm_fit 4) = true := by
  rw [List.all_eq_true]
  intro v hv
  obtain ⟨c, hc, rfl⟩ := List.mem_map.mp hv
  exact (sb_chr (hT c hc)).2.2.2.2
theorem sb_copy (q : sb_c h a ee T cap m rest) (qc : cap ∈ sb_caps) (h81 : 81 ≤ h.1.length) : ll_26 (some ee) (Int32.ofNat (2 * cap + 2)) h = some (.inl (some (.inr (.inr (some h.1.length)))), (h.1 ++ [sb_arr T (rest ++ List.replicate (cap + 2) (.int 0))], h.2 + (2 * cap + 2))) := by
  have hcap := sbq_cap qc
  have hlen := q.2.2.1
  have hel : ee < h.1.length := hc_lt q.2.1
  have hE : ((h.1 ++ [.inr (4, List.replicate (2 * cap + 2) (.int 0))], h.2 + (2 * cap + 2)) : pm_H).1[ee]? = some (sb_arr T rest) := (hn_lt hel).trans q.2.1
  have hN : ((h.1 ++ [.inr (4, List.replicate (2 * cap + 2) (.int 0))], h.2 + (2 * cap + 2)) : pm_H).1[h.1.length]? = some (.inr (4, List.replicate (2 * cap + 2) (.int 0))) := hn_eq
  have e27 : ll_27 (Int32.ofNat cap) (Int32.ofNat (2 * cap + 2)) (h.1 ++ [.inr (4, List.replicate (2 * cap + 2) (.int 0))], h.2 + (2 * cap + 2)) = some (.inl (some (.inl (Int32.ofNat cap))), (h.1 ++ [.inr (4, List.replicate (2 * cap + 2) (.int 0))], h.2 + (2 * cap + 2))) := by
    unfold ll_27
    refine if_neg ?_
    rw [i32_ltn (by omega) (by omega)]
    omega
  have ecp : lf_cp pt_P (h.1 ++ [.inr (4, List.replicate (2 * cap + 2) (.int 0))], h.2 + (2 * cap + 2)) (some ee) 0 (some h.1.length) 0 (Int32.ofNat cap) = some ((h.1 ++ [(.inr (4, List.replicate (2 * cap + 2) (.int 0)) : pm_C)]).set h.1.length (Sum.inr (4, pm_cpy (T.map (fun c => Value.int (Int32.ofNat c)) ++ rest) (List.replicate (2 * cap + 2) (.int 0)) 0 0 cap)), h.2 + (2 * cap + 2)) := by
    unfold lf_cp
    simp only [hc_arr hE, hc_arr hN]
    have e1 : (Int32.ofNat cap).toNatClampNeg = cap := Int32.toNatClampNeg_ofNat_of_lt (by omega)
    have e0 : (0 : Int32).toNatClampNeg = 0 := rfl
    rw [e1, e0]
    refine if_pos ⟨by trivial, by decide, h81, by decide, by decide, i32_lt cap (by omega), ?_, ?_, ?_⟩
    · rw [sb_len]; omega
    · rw [List.length_replicate]; omega
    · rw [List.all_eq_true]
      intro v hv
      have hv := List.mem_of_mem_drop (List.mem_of_mem_take hv)
      show pm_fit 4 v = true
      rcases List.mem_append.mp hv with hv | hv
      · exact List.all_eq_true.mp (sb_fitT q.2.2.2.2) v hv
      · exact List.all_eq_true.mp q.2.2.2.1 v hv
  have ecy : pm_cpy (T.map (fun c => Value.int (Int32.ofNat c)) ++ rest) (List.replicate (2 * cap + 2) (.int 0)) 0 0 cap = T.map (fun c => Value.int (Int32.ofNat c)) ++ (rest ++ List.replicate (cap + 2) (.int 0)) := by
    unfold pm_cpy
    rw [List.take_zero, List.nil_append, List.drop_zero, List.take_of_length_le (by rw [sb_len]; omega), Nat.zero_add, List.drop_replicate, show 2 * cap + 2 - cap = cap + 2 by omega, List.append_assoc]
  have eset : (h.1 ++ [(.inr (4, List.replicate (2 * cap + 2) (.int 0)) : pm_C)]).set h.1.length (sb_arr T (rest ++ List.replicate (cap + 2) (.int 0))) = h.1 ++ [sb_arr T (rest ++ List.replicate (cap + 2) (.int 0))] := by
    rw [List.set_append_right _ _ (Nat.le_refl _), Nat.sub_self]
    rfl
  unfold ll_26
  rw [hc_len q.2.1 (by decide), Option.bind_some, sb_len, hlen, if_neg (i32_ofne (by omega) (by omega) (by omega)), sb_naB (by omega), Option.bind_some, hc_len hE (by decide), Option.bind_some, sb_len, hlen, e27, lb_I_r, ecp, Option.bind_some, ecy]
  show some (_, ((h.1 ++ [(.inr (4, List.replicate (2 * cap + 2) (.int 0)) : pm_C)]).set h.1.length (sb_arr T (rest ++ List.replicate (cap + 2) (.int 0))), h.2 + (2 * cap + 2))) = _
  rw [eset]
/-- more room -/
theorem sb_ens1 (R : ar A h) (ha : a < 145) (e : A.1 a = ac_t T cap) {n : Nat} (hn : cap < n) (hn2 : n ≤ 2 * cap + 2) (h1 : cap < 286) : ∃ A' h', ll_21 (some a) (Int32.ofNat n) h = some (.inl none, h') ∧ ar A' h' ∧ A'.1 a = ac_t T (2 * cap + 2) ∧ st A A' [a] 0 0 := by
  obtain ⟨h81, ee, m, rest, q, qc, q81, qt⟩ := R.2.2.2.2.2.1 a T cap e
  have hcap := sbq_cap qc
  have hlen := q.2.2.1
  have hal : a < h.1.length := hc_lt q.1
  have e22 : ll_22 (some a) (Int32.ofNat n) h = some (.inl (some (.inl (Int32.ofNat (2 * cap + 2)))), h) := by
    have e24 : ll_24 (Int32.ofNat (n - cap)) (Int32.ofNat (cap + 2)) h = some (.inl (some (.inl (Int32.ofNat (cap + 2)))), h) := by
      unfold ll_24
      by_cases q : n - cap < cap + 2
      · rw [if_pos ((i32_ltn (by omega) (by omega)).mpr q)]
      · rw [if_neg (by rw [i32_ltn (by omega) (by omega)]; exact q), show n - cap = cap + 2 by omega]
    have e23 : ll_23 (Int32.ofNat cap) (Int32.ofNat (n - cap)) (Int32.ofNat (cap + 2)) h = some (.inl (some (.inl (Int32.ofNat (2 * cap + 2)))), h) := by
      unfold ll_23
      rw [e24, lb_I_r, i32_add, show cap + (cap + 2) = 2 * cap + 2 by omega, if_neg (by rw [show (0 : Int32) = Int32.ofNat 0 from rfl, i32_len (by omega) (by omega)]; omega), if_neg (by rw [show (2147483639 : Int32) = Int32.ofNat 2147483639 from rfl, i32_ltn (by omega) (by omega)]; omega)]
    have e2 : (2 : Int32) <<< ((0 : Int32) &&& 31) = 2 := rfl
    unfold ll_22
    rw [hc_R (o := some ee) q.1 rfl, Option.bind_some, hc_len q.2.1 (by decide), Option.bind_some, hc_I (v := 0) q.1 rfl, Option.bind_some, Option.bind_some, sb_len, hlen, sb_sl0, e2, i32_sub (by omega), show Int32.ofNat cap + 2 = Int32.ofNat (cap + 2) from i32_add cap 2, e23, lb_I_r, if_neg (show ¬ Int32.ofNat (2 * cap + 2) = 2147483647 from i32_ofne (a := 2 * cap + 2) (b := 2147483647) (by omega) (by omega) (by omega)), hc_I (v := 0) q.1 rfl, Option.bind_some, sb_sh0 (by omega)]
  have hA : ((h.1 ++ [sb_arr T (rest ++ List.replicate (cap + 2) (.int 0))], h.2 + (2 * cap + 2)) : pm_H).1[a]? = some (sb_obj ee T m) := (hn_lt hal).trans q.1
  have hP := hc_P (v := .inr (.inr (some h.1.length))) (t := 2) hA (show 0 < 4 by decide) h81 rfl
  have q' : sb_c ((h.1 ++ [sb_arr T (rest ++ List.replicate (cap + 2) (.int 0))]).set a (sb_obj h.1.length T m), h.2 + (2 * cap + 2)) a h.1.length T (2 * cap + 2) m (rest ++ List.replicate (cap + 2) (.int 0)) := by
    refine ⟨?_, ?_, by rw [List.length_append, List.length_replicate]; omega, ?_, q.2.2.2.2⟩
    · exact hs_eq (h := (h.1 ++ [sb_arr T (rest ++ List.replicate (cap + 2) (.int 0))], 0)) (n := h.2 + (2 * cap + 2)) hA
    · have e1 : ((h.1 ++ [sb_arr T (rest ++ List.replicate (cap + 2) (.int 0))]).set a (sb_obj h.1.length T m))[h.1.length]? = (h.1 ++ [sb_arr T (rest ++ List.replicate (cap + 2) (.int 0))])[h.1.length]? := List.getElem?_set_ne (by omega)
      exact e1.trans (hn_eq (h := h) (n := 0))
    · rw [List.all_append, q.2.2.2.1, Bool.true_and, List.all_eq_true]
      intro v hv
      rw [List.eq_of_mem_replicate hv]
      rfl
  obtain ⟨A', r1, r2, r3, r4⟩ := sb_f1 (h' := ((h.1 ++ [sb_arr T (rest ++ List.replicate (cap + 2) (.int 0))]).set a (sb_obj h.1.length T m), h.2 + (2 * cap + 2))) R ha e q qc h1 qt (by rw [List.length_set, List.length_append]; rfl) rfl (fun b g1 g2 => (hs_ne (h := (h.1 ++ [sb_arr T (rest ++ List.replicate (cap + 2) (.int 0))], 0)) g2).trans (hn_lt (n := 0) g1)) q'
  refine ⟨A', _, ?_, r1, r2, r3⟩
  unfold ll_21
  rw [hc_R (o := some ee) q.1 rfl, Option.bind_some, hc_len q.2.1 (by decide), Option.bind_some, hc_I (v := 0) q.1 rfl, Option.bind_some, sb_len, q.2.2.1, sb_sh0 (by omega), i32_sub (by omega), if_neg (by rw [show (0 : Int32) = Int32.ofNat 0 from rfl, i32_len (by omega) (by omega)]; omega), Option.bind_some, if_pos (hc_lc q.1), e22, lb_I_r, hc_I (v := 0) q.1 rfl, Option.bind_some, sb_sl0, sb_copy q qc (by omega), lb_R_r, hP, Option.bind_some]
  rfl
/-- room for n characters -/
theorem sb_ens (R : ar A h) (ha : a < 145) (e : A.1 a = ac_t T cap) {n : Nat} (hn2 : n ≤ 2 * T.length + 2) (h1 : n ≤ 286) (hT : T.length ≤ cap) : ∃ A' h' cap', ll_21 (some a) (Int32.ofNat n) h = some (.inl none, h') ∧ ar A' h' ∧ A'.1 a = ac_t T cap' ∧ st A A' [a] 0 0 ∧ n ≤ cap' := by
  by_cases q : n ≤ cap
  · exact ⟨A, h, cap, sb_ens0 R e q, R, e, st_w st_refl (by simp) (Nat.le_refl _) (Nat.le_refl _), q⟩
  · obtain ⟨A', h', r1, r2, r3, r4⟩ := sb_ens1 R ha e (n := n) (by omega) (by omega) (by omega)
    exact ⟨A', h', _, r1, r2, r3, r4, by omega⟩
theorem sb_le (R : ar A h) (e : A.1 a = ac_t T cap) : T.length ≤ cap ∧ (∀ c ∈ T, c < 128) ∧ cap ≤ 286 := by
  obtain ⟨h81, ee, m, rest, q, qc, q81, qt⟩ := R.2.2.2.2.2.1 a T cap e
  have := q.2.2.1
  exact ⟨by omega, q.2.2.2.2, (sbq_cap qc).2⟩
theorem ll_append (R : ar A h) (ha : a < 145) (e : A.1 a = ac_t T cap) {c : Nat} (hc : c < 128) (h1 : T.length < 286) : ∃ A' h' cap', ll_19 w (some a) (Int32.ofNat c) h = some (.inl (some (.inr (.inr (some a)))), h') ∧ ar A' h' ∧ A'.1 a = ac_t (T ++ [c]) cap' ∧ st A A' [a] 0 0 := by
  obtain ⟨l1, l2, l3⟩ := sb_le R e
  obtain ⟨_, ee0, m0, rest0, q0, _⟩ := R.2.2.2.2.2.1 a T cap e
  obtain ⟨A1, g, cap', r1, R1, r2, r3, r4⟩ := sb_ens R ha e (n := T.length + 1) (by omega) (by omega) l1
  obtain ⟨h81, ee, m, rest, q, qc, q81, qt⟩ := R1.2.2.2.2.2.1 a T cap' r2
  have hcap := sbq_cap qc
  have hlen := q.2.2.1
  obtain ⟨v, rest', hr⟩ : ∃ v rest', rest = v :: rest' := by
    cases rest with
    | nil => simp at hlen; omega
    | cons v r => exact ⟨v, r, rfl⟩
  subst hr
  have hne := sb_ne q
  have e1 : Int32.ofNat T.length + (1 : Int32) = Int32.ofNat (T ++ [c]).length := by
    rw [List.length_append]
    exact i32_add T.length 1
  have hP := hc_P (v := .inl (Int32.ofNat (T ++ [c]).length)) (t := 0) q.1 (show 3 < 4 by decide) h81 rfl
  have hE : ((g.1.set a (sb_obj ee (T ++ [c]) m), g.2) : pm_H).1[ee]? = some (sb_arr T (v :: rest')) := (hs_ne hne.symm).trans q.2.1
  have hS := hc_st (i := .bastore) (j := T.length) (v := .inl (Int8.toInt32 (Int32.toInt8 (Int32.ofNat c)))) (w := .int (Int32.ofNat c)) hE q81 (by rw [sb_len, List.length_cons]; omega) (by rw [sb_len, List.length_cons]; simp at hlen; omega) (sb_chr hc).2.2.2.1
  have eT : (T.map (fun c => Value.int (Int32.ofNat c)) ++ v :: rest').set T.length (.int (Int32.ofNat c)) = (T ++ [c]).map (fun c => Value.int (Int32.ofNat c)) ++ rest' := by
    rw [List.set_append_right _ _ (by rw [List.length_map]; exact Nat.le_refl _), List.length_map, Nat.sub_self, List.set_cons_zero, List.map_append, List.append_assoc]
    rfl
  rw [eT] at hS
  have hfit : pm_fit 4 v = true ∧ rest'.all (pm_fit 4) = true := by
    have := q.2.2.2.1
    rw [List.all_cons, Bool.and_eq_true] at this
    exact this
  have q' : sb_c ((g.1.set a (sb_obj ee (T ++ [c]) m)).set ee (sb_arr (T ++ [c]) rest'), g.2) a ee (T ++ [c]) cap' m rest' := by
    refine ⟨?_, ?_, ?_, hfit.2, fun y hy => ?_⟩
    · exact (hs_ne (h := (g.1.set a _, g.2)) (n := g.2) hne).trans (hs_eq (n := g.2) q.1)
    · exact hs_eq (h := (g.1.set a _, g.2)) (n := g.2) hE
    · rw [List.length_append]
      rw [List.length_cons] at hlen
      show T.length + 1 + _ = _
      omega
    · rcases List.mem_append.mp hy with hy | hy
      · exact l2 y hy
      · rw [List.mem_singleton.mp hy]; exact hc
  obtain ⟨f1, f2⟩ := sb_f0 (h' := ((g.1.set a (sb_obj ee (T ++ [c]) m)).set ee (sb_arr (T ++ [c]) rest'), g.2)) R1 r2 q qc q81 qt (by rw [List.length_set, List.length_set]) rfl (fun b z1 z2 => (hs_ne (h := (g.1.set a _, g.2)) (n := g.2) z2).trans (hs_ne (n := g.2) z1)) q'
  refine ⟨_, _, cap', ?_, f1, ah_set_e, st_w (st_trans r3 f2) (by simp) (Nat.le_refl _) (Nat.le_refl _)⟩
  have e28 : ll_28 (some a) g = some (.inl (some (.inl 1)), g) := by
    unfold ll_28
    rw [hc_I (v := 0) q.1 rfl]
    rfl
  have e29 : ll_29 (Int32.ofNat c) g = some (.inl (some (.inl 1)), g) := by
    unfold ll_29
    rw [if_neg (by rw [show (255 : Int32) = Int32.ofNat 255 from rfl, i32_ltn (by omega) (by omega)]; omega)]
  have e10 : ¬ (1 : Int32) = 0 := by decide
  unfold ll_19 ll_20
  rw [if_pos (hc_lc q0.1), hc_I q0.1 rfl, Option.bind_some, if_pos (hc_lc q0.1), show Int32.ofNat T.length + (1 : Int32) = Int32.ofNat (T.length + 1) from i32_add T.length 1, r1, lb_V_r, if_pos (hc_lc q.1), e28, lb_I_r, if_neg e10, e29, lb_I_r, if_neg e10, hc_R (o := some ee) q.1 rfl, Option.bind_some, hc_I q.1 rfl, Option.bind_some, e1, hP, Option.bind_some]
  show lb_R ((la_S pt_P (g.1.set a (sb_obj ee (T ++ [c]) m), g.2) .bastore (some ee) (Int32.ofNat T.length) (.inl (Int8.toInt32 (Int32.toInt8 (Int32.ofNat c))))).bind _) _ = _
  rw [hS, Option.bind_some, lb_R_r]
  rfl
theorem ll_setLength (R : ar A h) (e : A.1 a = ac_t T cap) {n : Nat} (hn : n ≤ T.length) : ∃ A' h', ll_44 w (some a) (Int32.ofNat n) h = some (.inl none, h') ∧ ar A' h' ∧ A'.1 a = ac_t (T.take n) cap ∧ st A A' [a] 0 0 := by
  obtain ⟨l1, l2, l3⟩ := sb_le R e
  obtain ⟨h81, ee, m, rest, q, qc, q81, qt⟩ := R.2.2.2.2.2.1 a T cap e
  have hlen := q.2.2.1
  have hne := sb_ne q
  have eT : T.map (fun c => Value.int (Int32.ofNat c)) ++ rest = (T.take n).map (fun c => Value.int (Int32.ofNat c)) ++ ((T.drop n).map (fun c => Value.int (Int32.ofNat c)) ++ rest) := by
    rw [← List.append_assoc, ← List.map_append, List.take_append_drop]
  have hTn : (T.take n).length = n := by rw [List.length_take]; omega
  have key : ∀ m', sb_c (h.1.set a (sb_obj ee (T.take n) m'), h.2) a ee (T.take n) cap m' ((T.drop n).map (fun c => Value.int (Int32.ofNat c)) ++ rest) := by
    intro m'
    refine ⟨hs_eq q.1, ?_, ?_, ?_, fun y hy => l2 y (List.mem_of_mem_take hy)⟩
    · refine (hs_ne hne.symm).trans (q.2.1.trans ?_)
      unfold sb_arr
      rw [eT]
    · rw [hTn, List.length_append, List.length_map, List.length_drop]; omega
    · rw [List.all_append, q.2.2.2.1, sb_fitT (fun y hy => l2 y (List.mem_of_mem_drop hy))]
      rfl
  have fin : ∀ m', ar (ah_set A a (ac_t (T.take n) cap)) (h.1.set a (sb_obj ee (T.take n) m'), h.2) ∧ st A (ah_set A a (ac_t (T.take n) cap)) [a] 0 0 := fun m' => sb_f0 (h' := (h.1.set a (sb_obj ee (T.take n) m'), h.2)) R e q qc q81 qt List.length_set rfl (fun b z1 z2 => hs_ne z1) (key m')
  have e0 : ∀ {h' : pm_H}, (if Int32.ofNat T.length ≤ Int32.ofNat n then l45_76 w (some a) (Int32.ofNat n) h else (lf_P 81 h (some a) [3, 11, 2] (.inl (1 : Int32))).bind fun h7 => l45_76 w (some a) (Int32.ofNat n) h7) = some (.inl none, h') → ll_44 w (some a) (Int32.ofNat n) h = some (.inl none, h') := by
    intro h' hh
    unfold ll_44 ll_45
    rw [if_pos (hc_lc q.1), if_pos (by rw [show (0 : Int32) = Int32.ofNat 0 from rfl, i32_len (by omega) (by omega)]; omega), if_pos (hc_lc q.1), sb_ens0 R e (n := n) (by omega), lb_V_r, hc_I q.1 rfl, Option.bind_some, if_pos ((i32_len (by omega) (by omega)).mpr hn), Option.bind_some, hh]
    rfl
  by_cases hq : T.length ≤ n
  · have hP := hc_P (v := .inl (Int32.ofNat n)) (t := 0) q.1 (show 3 < 4 by decide) h81 rfl
    refine ⟨_, _, e0 ?_, (fin m).1, ah_set_e, (fin m).2⟩
    rw [if_pos ((i32_len (by omega) (by omega)).mpr hq)]
    unfold l45_76
    rw [hP, Option.bind_some]
    unfold sb_obj
    rw [hTn]
    rfl
  · have hP1 := hc_P (v := .inl (1 : Int32)) (t := 3) q.1 (show 2 < 4 by decide) h81 rfl
    have h2 : ((h.1.set a (sb_obj ee T 1), h.2) : pm_H).1[a]? = some (sb_obj ee T 1) := hs_eq q.1
    have hP := hc_P (v := .inl (Int32.ofNat n)) (t := 0) h2 (show 3 < 4 by decide) h81 rfl
    refine ⟨_, _, e0 ?_, (fin 1).1, ah_set_e, (fin 1).2⟩
    rw [if_neg (by rw [i32_len (by omega) (by omega)]; exact hq), hP1, Option.bind_some]
    show l45_76 w (some a) (Int32.ofNat n) (h.1.set a (sb_obj ee T 1), h.2) = _
    unfold l45_76
    rw [hP, Option.bind_some]
    unfold sb_obj
    rw [hTn]
    simp only [List.set_set]
    rfl
end AHT2
