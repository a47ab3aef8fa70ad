/-! TEXTS: a constant of one character is put behind -/
section APS
variable {A : ah} {h : pm_H} {T : List Nat} {a cap : Nat} {w : Option Nat}
theorem ll_appS (R : ar A h) (ha : a < 145) (e : A.1 a = ac_t T cap) {c s b : Nat} (hc : c < 128) (h1 : T.length < 286) (es : A.1 s = ac_c (.inl (13, [.ref b, .int 0]))) (eb : A.1 b = ac_c (.inr (4, [.int (Int32.ofNat c)]))) : ∃ A' h' cap', ll_46 w (some a) (some s) h = rtR (some a) h' ∧ ar A' h' ∧ A'.1 a = ac_t (T ++ [c]) cap' ∧ st A A' [a] 0 0 := by
  obtain ⟨l1, l2, l3⟩ := sb_le R e
  obtain ⟨_, ee0, m0, rest0, q0, _⟩ := R.2.2.2.2.2.1 a T cap e
  obtain ⟨A1, g, cap', r1, R1, r2, r3, r4⟩ := sb_ens R ha e (n := T.length + 1) (by omega) (by omega) l1
  obtain ⟨h81, ee, m, rest, q, qc, q81, qt⟩ := R1.2.2.2.2.2.1 a T cap' r2
  have hcap := sbq_cap qc
  have hlen := q.2.2.1
  obtain ⟨v, rest', hr⟩ : ∃ v rest', rest = v :: rest' := by
    cases rest with
    | nil => simp at hlen; omega
    | cons v r => exact ⟨v, r, rfl⟩
  subst hr
  have hne := sb_ne q
  have hsa : s ∉ [a] := by
    intro z
    rw [List.mem_singleton.mp z, e] at es
    cases es
  have hba : b ∉ [a] := by
    intro z
    rw [List.mem_singleton.mp z, e] at eb
    cases eb
  have es1 := st_c r3 R es (by intro q; cases q) hsa
  have eb1 := st_c r3 R eb (by intro q; cases q) hba
  have hbe : b ≠ ee := by
    intro z
    rw [z, qt] at eb1
    cases eb1
  have e54 : ∀ {A : ah} {h : pm_H}, ar A h → A.1 s = ac_c (.inl (13, [.ref b, .int 0])) → ll_54 (some s) h = rtI 0 h := by
    intro A h R es
    unfold ll_54
    rw [hc_I (v := 0) (ar_c R es) rfl, Option.bind_some, if_pos (by decide)]
  have e53 : ll_53 (some s) h = rtI (Int32.ofNat 1) h := by
    unfold ll_53
    rw [hc_R (o := some b) (ar_c R es) rfl, Option.bind_some, hc_len (ar_c R eb) (by decide), Option.bind_some, if_pos (hc_lc (ar_c R es)), e54 R es, rt_I]
    rfl
  have eT : pm_cpy [.int (Int32.ofNat c)] (T.map (fun c => Value.int (Int32.ofNat c)) ++ v :: rest') 0 T.length 1 = (T ++ [c]).map (fun c => Value.int (Int32.ofNat c)) ++ rest' := by
    unfold pm_cpy
    rw [List.take_left' (by rw [List.length_map])]
    have h2 : (T.map (fun c => Value.int (Int32.ofNat c)) ++ v :: rest').drop (T.length + 1) = rest' := by
      have : T.map (fun c => Value.int (Int32.ofNat c)) ++ v :: rest' = (T.map (fun c => Value.int (Int32.ofNat c)) ++ [v]) ++ rest' := by simp
      rw [this]
      exact List.drop_left' (by simp)
    rw [h2, List.map_append, List.append_assoc]
    rfl
  have hcp : lf_cp pt_P g (some b) 0 (some ee) (Int32.ofNat T.length) (Int32.ofNat 1) = some (g.1.set ee (sb_arr (T ++ [c]) rest'), g.2) := by
    unfold lf_cp
    rw [hc_arr (ar_c R1 eb1), hc_arr (show g.1[ee]? = some (.inr (4, T.map (fun c => Value.int (Int32.ofNat c)) ++ v :: rest')) from q.2.1)]
    dsimp only
    have e1 : (Int32.ofNat T.length).toNatClampNeg = T.length := Int32.toNatClampNeg_ofNat_of_lt (by omega)
    have e0 : (0 : Int32).toNatClampNeg = 0 := rfl
    have e2 : (Int32.ofNat 1).toNatClampNeg = 1 := rfl
    rw [e1, e0, e2, eT]
    refine if_pos ⟨rfl, by decide, q81, by decide, i32_lt _ (by omega), by decide, by simp, ?_, ?_⟩
    · rw [List.length_append, List.length_map, List.length_cons]; omega
    · show ([Value.int (Int32.ofNat c)].all (pm_el pt_P.2 4 g)) = true
      rw [List.all_cons, List.all_nil, Bool.and_true]
      exact (sb_chr hc).2.2.2.2
  have hE : ((g.1.set ee (sb_arr (T ++ [c]) rest'), g.2) : pm_H).1[a]? = some (sb_obj ee T m) := (hs_ne hne).trans q.1
  have hP := hc_P (v := .inl (Int32.ofNat (T ++ [c]).length)) (t := 0) hE (show 3 < 4 by decide) h81 rfl
  have hfit : pm_fit 4 v = true ∧ rest'.all (pm_fit 4) = true := by
    have := q.2.2.2.1
    rw [List.all_cons, Bool.and_eq_true] at this
    exact this
  have q' : sb_c ((g.1.set ee (sb_arr (T ++ [c]) rest')).set a (sb_obj ee (T ++ [c]) m), g.2) a ee (T ++ [c]) cap' m rest' := by
    refine ⟨?_, ?_, ?_, hfit.2, fun y hy => ?_⟩
    · exact hs_eq (h := (g.1.set ee _, g.2)) (n := g.2) hE
    · exact (hs_ne (h := (g.1.set ee _, g.2)) (n := g.2) hne.symm).trans (hs_eq (n := g.2) q.2.1)
    · rw [List.length_append]
      rw [List.length_cons] at hlen
      show T.length + 1 + _ = _
      omega
    · rcases List.mem_append.mp hy with hy | hy
      · exact l2 y hy
      · rw [List.mem_singleton.mp hy]; exact hc
  obtain ⟨f1, f2⟩ := sb_f0 (h' := ((g.1.set ee (sb_arr (T ++ [c]) rest')).set a (sb_obj ee (T ++ [c]) m), g.2)) R1 r2 q qc q81 qt (by rw [List.length_set, List.length_set]) rfl (fun b z1 z2 => (hs_ne (h := (g.1.set ee _, g.2)) (n := g.2) z1).trans (hs_ne (n := g.2) z2)) q'
  refine ⟨_, _, cap', ?_, f1, ah_set_e, st_w (st_trans r3 f2) (by simp) (Nat.le_refl _) (Nat.le_refl _)⟩
  have n4 : Int32.ofNat T.length + Int32.ofNat 1 = Int32.ofNat (T.length + 1) := i32_add _ 1
  have e57 : ll_57 w (some s) (some ee) (Int32.ofNat T.length) 0 g = rtV (g.1.set ee (sb_arr (T ++ [c]) rest'), g.2) := by
    unfold ll_57
    rw [if_pos (hc_lc (ar_c R1 es1)), e54 R1 es1, rt_I, if_pos rfl, hc_R (o := some b) (ar_c R1 es1) rfl, Option.bind_some, Option.bind_some, hc_len (ar_c R1 eb1) (by decide), Option.bind_some, sb_sl0]
    show (lf_cp pt_P g (some b) 0 (some ee) (Int32.ofNat T.length) (Int32.ofNat 1)).bind _ = _
    rw [hcp]
    rfl
  have e56 : ll_56 w (some a) (some s) g = rtV g := by
    unfold ll_56
    rw [hc_I (v := 0) q.1 rfl, Option.bind_some, if_pos (hc_lc (ar_c R1 es1)), e54 R1 es1, rt_I, if_pos rfl]
  have e55 : ll_55 w (some a) (Int32.ofNat T.length) (some s) g = rtV (g.1.set ee (sb_arr (T ++ [c]) rest'), g.2) := by
    unfold ll_55
    rw [if_pos (hc_lc q.1), e56, rt_V, hc_R (o := some ee) q.1 rfl, Option.bind_some, hc_I (v := 0) q.1 rfl, Option.bind_some, if_pos (hc_lc (ar_c R1 es1)), e57]
    rfl
  have hlc : lc_of (g.1.set ee (sb_arr (T ++ [c]) rest'), g.2) (some a) = some 11 := hc_lc hE
  have hL : Int32.ofNat (T ++ [c]).length = Int32.ofNat (T.length + 1) := by rw [List.length_append]; rfl
  unfold ll_46 ll_47
  dsimp only
  rw [if_pos (hc_lc q0.1), if_pos (hc_lc (ar_c R es)), e53, rt_I, hc_I q0.1 rfl, Option.bind_some, if_pos (hc_lc q0.1), n4, r1, lb_V_r, hc_I q.1 rfl, Option.bind_some, if_pos (hc_lc q.1), e55, rt_V, hc_I hE rfl, Option.bind_some, n4, ← hL, hP, Option.bind_some]
  rfl
end APS
