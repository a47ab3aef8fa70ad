/-! TEXTS in the abstract heap: length, charAt, setLength, append of a character -/
theorem sb_ne {h : pm_H} {a ee cap : Nat} {T : List Nat} {m : Int32} {rest : List Value} (q : sb_c h a ee T cap m rest) : a ≠ ee := by
  intro z
  have h1 := q.1
  rw [z, q.2.1] at h1
  cases h1
theorem sbq_cap {cap : Nat} (h : cap ∈ sb_caps) : 16 ≤ cap ∧ cap ≤ 286 := by
  simp only [sb_caps, List.mem_cons, List.not_mem_nil, or_false] at h
  omega
theorem sb_len {T : List Nat} {rest : List Value} : (T.map (fun c => Value.int (Int32.ofNat c)) ++ rest).length = T.length + rest.length := by
  rw [List.length_append, List.length_map]
section AHT
variable {A A' : ah} {h h' : pm_H} {a b cap k x ee : Nat} {T T' : List Nat} {m m' : Int32} {w : Option Nat} {rest rest' : List Value}
/-- the text is another, in the same array -/
theorem sb_f0 (R : ar A h) (e : A.1 a = ac_t T cap) (q : sb_c h a ee T cap m rest) (qc : cap ∈ sb_caps) (q81 : 81 ≤ ee) (qt : A.1 ee = ac_x a) (hl : h'.1.length = h.1.length) (hs : h'.2 = h.2) (hc : ∀ b, b ≠ a → b ≠ ee → h'.1[b]? = h.1[b]?) (q' : sb_c h' a ee T' cap m' rest') : ar (ah_set A a (ac_t T' cap)) h' ∧ st A (ah_set A a (ac_t T' cap)) [a] 0 0 := by
  have h81 := (R.2.2.2.2.2.1 a T cap e).1
  refine ⟨ar_upd (a0 := a) R h81 (fun o q => by rw [e] at q; cases q) (Nat.le_refl _) (fun b _ q => ah_set_n q) (fun b q1 q2 => absurd q2 (Nat.not_lt.mpr q1)) (fun b q1 => ?_) (hl.trans R.1) (hs.trans R.2.1) (fun b q1 q2 q3 => hc b q2 (fun q4 => ?_)) (fun ⟨ci, fs, e1, e2⟩ => by rw [e] at e1; cases e1) ?_ ?_ ?_, ?_, ?_, ?_⟩
  · rw [ah_set_n (by intro q2; subst q2; exact absurd (ar_lt_t R e) (Nat.not_lt.mpr q1))]
    exact R.2.2.1 b q1
  · subst q4; exact q3 qt
  · intro y q; rw [ah_set_e] at q; cases q
  · intro L2 cap2 q2; rw [ah_set_e] at q2; cases q2
  · intro T2 cap2 q2
    rw [ah_set_e] at q2
    cases q2
    exact ⟨ee, m', rest', q', qc, q81, by rw [ah_set_n (sb_ne q).symm]; exact qt⟩
  · exact Nat.le_refl _
  · intro b _ q2; exact ah_set_n (by simpa using q2)
  · have h1 : ∀ b, ro_n ((ah_set A a (ac_t T' cap)).1 b) = ro_n (A.1 b) := by
      intro b
      by_cases q : b = a
      · subst q; rw [ah_set_e, e]; rfl
      · rw [ah_set_n q]
    have h2 : ∀ b, ro_s ((ah_set A a (ac_t T' cap)).1 b) = ro_s (A.1 b) := by
      intro b
      by_cases q : b = a
      · subst q; rw [ah_set_e, e]; rfl
      · rw [ah_set_n q]
    have e1 : ro_N (ah_set A a (ac_t T' cap)) = ro_N A := by unfold ro_N; rw [funext h1]
    have e2 : ro_S (ah_set A a (ac_t T' cap)) = ro_S A := by unfold ro_S; rw [funext h2]
    rw [e1, e2]
    constructor
    · show A.2.1 + _ ≤ _; omega
    · show A.2.2 + _ ≤ _; omega
theorem sb_grow (hc : cap ∈ sb_caps) (h1 : cap < 286) : ro_n (ac_t T' (2 * cap + 2)) = ro_n (ac_t T cap) + 1 ∧ ro_s (ac_t T' (2 * cap + 2)) = ro_s (ac_t T cap) + (2 * cap + 2) ∧ 2 * cap + 2 ∈ sb_caps := by
  have key : sb_caps.all (fun cap => decide (cap = 286) || decide (ro_n (ac_t [] (2 * cap + 2)) = ro_n (ac_t [] cap) + 1 ∧ ro_s (ac_t [] (2 * cap + 2)) = ro_s (ac_t [] cap) + (2 * cap + 2) ∧ 2 * cap + 2 ∈ sb_caps)) = true := by decide +kernel
  have h := List.all_eq_true.mp key cap hc
  simp only [Bool.or_eq_true, decide_eq_true_eq] at h
  exact h.resolve_left (by omega)
theorem sb_f1 (R : ar A h) (ha : a < 145) (e : A.1 a = ac_t T cap) (q : sb_c h a ee T cap m rest) (qc : cap ∈ sb_caps) (h1 : cap < 286) (qt : A.1 ee = ac_x a) (hl : h'.1.length = h.1.length + 1) (hs : h'.2 = h.2 + (2 * cap + 2)) (hc : ∀ b, b < h.1.length → b ≠ a → h'.1[b]? = h.1[b]?) (q' : sb_c h' a h.1.length T (2 * cap + 2) m' rest') : ∃ A', ar A' h' ∧ A'.1 a = ac_t T (2 * cap + 2) ∧ st A A' [a] 0 0 ∧ A'.1 h.1.length = ac_x a := by
  have h81 := (R.2.2.2.2.2.1 a T cap e).1
  have hla := ar_lt_t R e
  let A' : ah := (fun b => if b = a then ac_t T (2 * cap + 2) else if b = A.2.1 then ac_x a else A.1 b, (A.2.1 + 1, A.2.2 + (2 * cap + 2)))
  have Aa : A'.1 a = ac_t T (2 * cap + 2) := if_pos rfl
  have Ab : ∀ b, b ≠ a → b ≠ A.2.1 → A'.1 b = A.1 b := fun b q1 q2 => (if_neg q1).trans (if_neg q2)
  have An : A'.1 A.2.1 = ac_x a := (if_neg (by omega)).trans (if_pos rfl)
  obtain ⟨n1, n2, n3⟩ := sb_grow (T := T) (T' := T) qc h1
  refine ⟨A', ar_upd (a0 := a) (A' := A') R h81 (fun o q => by rw [e] at q; cases q) (Nat.le_succ _) (fun b q1 q2 => Ab b q2 (by omega)) (fun b q1 q2 => ?_) (fun b q1 => ?_) ?_ ?_ (fun b q1 q2 _ => hc b (by rw [R.1]; exact q1) q2) (fun ⟨ci, fs, e1, e2⟩ => by rw [e] at e1; cases e1) ?_ ?_ ?_, Aa, ⟨Nat.le_succ _, ?_, ?_, ?_⟩, by rw [R.1]; exact An⟩
  · have : b = A.2.1 := by have : b < A.2.1 + 1 := q2; omega
    subst this; exact An
  · have : A.2.1 + 1 ≤ b := q1
    rw [Ab b (by omega) (by omega)]
    exact R.2.2.1 b (by omega)
  · rw [hl, R.1]
  · rw [hs, R.2.1]
  · intro y q; rw [Aa] at q; cases q
  · intro L2 cap2 q2; rw [Aa] at q2; cases q2
  · intro T2 cap2 q2
    rw [Aa] at q2
    cases q2
    exact ⟨h.1.length, m', rest', q', n3, by rw [R.1]; exact R.2.2.2.2.2.2.2, by rw [R.1]; exact An⟩
  · intro b q1 q2
    exact Ab b (by simpa using q2) (by omega)
  · have g := (sum_upd 145 a (fun b => ro_n (A'.1 b)) (fun b => ro_n (A.1 b)) (fun b q1 q2 => by
      show ro_n (A'.1 b) = ro_n (A.1 b)
      by_cases q3 : b = A.2.1
      · subst q3; rw [An, R.2.2.1 _ (Nat.le_refl _)]; rfl
      · rw [Ab b q2 q3])).1 ha
    have g1 : ro_N A' + ro_n (A.1 a) = ro_N A + ro_n (A'.1 a) := g
    rw [Aa, e, n1] at g1
    show A.2.1 + 1 + ro_N A ≤ A.2.1 + ro_N A' + 0
    omega
  · have g := (sum_upd 145 a (fun b => ro_s (A'.1 b)) (fun b => ro_s (A.1 b)) (fun b q1 q2 => by
      show ro_s (A'.1 b) = ro_s (A.1 b)
      by_cases q3 : b = A.2.1
      · subst q3; rw [An, R.2.2.1 _ (Nat.le_refl _)]; rfl
      · rw [Ab b q2 q3])).1 ha
    have g1 : ro_S A' + ro_s (A.1 a) = ro_S A + ro_s (A'.1 a) := g
    rw [Aa, e, n2] at g1
    show A.2.2 + (2 * cap + 2) + ro_S A ≤ A.2.2 + ro_S A' + 0
    omega
theorem sb_lc (R : ar A h) (e : A.1 a = ac_t T cap) : lc_of h (some a) = some 11 := by
  obtain ⟨_, ee, m, rest, q, _⟩ := R.2.2.2.2.2.1 a T cap e
  exact hc_lc q.1
theorem ll_length (R : ar A h) (e : A.1 a = ac_t T cap) : ll_17 (some a) h = some (.inl (some (.inl (Int32.ofNat T.length))), h) := by
  obtain ⟨_, ee, m, rest, q, _⟩ := R.2.2.2.2.2.1 a T cap e
  unfold ll_17 ll_18
  rw [if_pos (hc_lc q.1), hc_I q.1 rfl]
  rfl
theorem sb_sh0 {n : Nat} (hn : n < 2 ^ 31) : Int32.ofNat n >>> ((0 : Int32) &&& 31) = Int32.ofNat n := by
  have e : ((0 : Int32) &&& 31) = 0 := rfl
  rw [e, Int32.shiftRight_zero]
theorem sb_chr {c : Nat} (hc : c < 128) : pm_fit 5 (.int (UInt32.toInt32 (Int32.toUInt32 (Int32.ofNat c &&& (255 : Int32)) % 65536))) = true ∧ UInt32.toInt32 (Int32.toUInt32 (Int32.ofNat c &&& (255 : Int32)) % 65536) = Int32.ofNat c ∧ pm_fit 5 (.int (Int32.ofNat c)) = true ∧ pm_nar pt_P.2 .bastore 4 ([], 0) (tm_v (.inl (Int8.toInt32 (Int32.toInt8 (Int32.ofNat c))))) = some (.int (Int32.ofNat c)) ∧ pm_fit 4 (.int (Int32.ofNat c)) = true := by
  have key : (List.range 128).all (fun c => decide (pm_fit 5 (.int (UInt32.toInt32 (Int32.toUInt32 (Int32.ofNat c &&& (255 : Int32)) % 65536))) = true ∧ UInt32.toInt32 (Int32.toUInt32 (Int32.ofNat c &&& (255 : Int32)) % 65536) = Int32.ofNat c ∧ pm_fit 5 (.int (Int32.ofNat c)) = true ∧ pm_nar pt_P.2 .bastore 4 ([], 0) (tm_v (.inl (Int8.toInt32 (Int32.toInt8 (Int32.ofNat c))))) = some (.int (Int32.ofNat c)) ∧ pm_fit 4 (.int (Int32.ofNat c)) = true)) = true := by decide +kernel
  exact of_decide_eq_true (List.all_eq_true.mp key c (List.mem_range.mpr hc))
theorem sb_el {i : Nat} (hi : i < T.length) : (T.map (fun c => Value.int (Int32.ofNat c)) ++ rest)[i]? = some (.int (Int32.ofNat (T.getD i 0))) := by
  rw [List.getElem?_append_left (by rw [List.length_map]; exact hi), List.getElem?_map, List.getElem?_eq_getElem hi, List.getD_eq_getElem?_getD, List.getElem?_eq_getElem hi]
  rfl
theorem sb_T128 {i : Nat} (hT : ∀ c ∈ T, c < 128) : T.getD i 0 < 128 := by
  rw [List.getD_eq_getElem?_getD]
  rcases Nat.lt_or_ge i T.length with q | q
  · rw [List.getElem?_eq_getElem q]; exact hT _ (List.getElem_mem q)
  · rw [List.getElem?_eq_none q]; decide
theorem ll_charAt (R : ar A h) (e : A.1 a = ac_t T cap) {i : Nat} (hi : i < T.length) : ll_134 w (some a) (Int32.ofNat i) h = some (.inl (some (.inl (Int32.ofNat (T.getD i 0)))), h) := by
  obtain ⟨_, ee, m, rest, q, qc, _⟩ := R.2.2.2.2.2.1 a T cap e
  have hcap := sbq_cap qc
  have hlen := q.2.2.1
  have e27 : ll_27 (Int32.ofNat T.length) (Int32.ofNat cap >>> ((0 : Int32) &&& 31)) h = some (.inl (some (.inl (Int32.ofNat T.length))), h) := by
    unfold ll_27
    rw [sb_sh0 (by omega), if_neg (by rw [i32_ltn (by omega) (by omega)]; omega)]
  have e40 : ll_40 w (Int32.ofNat i) (Int32.ofNat T.length) h = some (.inl none, h) := by
    unfold ll_40 ll_41
    rw [if_neg (i32_lt i (by omega)), if_pos ((i32_ltn (by omega) (by omega)).mpr hi)]
    rfl
  obtain ⟨c1, c2, c3, _⟩ := sb_chr (sb_T128 (i := i) q.2.2.2.2)
  unfold ll_134 ll_135
  rw [if_pos (hc_lc q.1), hc_I (v := 0) q.1 rfl, Option.bind_some, hc_R (o := some ee) q.1 rfl, Option.bind_some, hc_I q.1 rfl, Option.bind_some, hc_len q.2.1 (by decide), Option.bind_some, sb_len, hlen, e27, lb_I_r, e40, lb_V_r, if_pos rfl, hc_ldI q.2.1 rfl (by omega) (sb_el hi), Option.bind_some, if_pos c1, lb_I_r, c2, if_pos c3]
/-- room for n characters is there -/
theorem sb_ens0 (R : ar A h) (e : A.1 a = ac_t T cap) {n : Nat} (hn : n ≤ cap) : ll_21 (some a) (Int32.ofNat n) h = some (.inl none, h) := by
  obtain ⟨_, ee, m, rest, q, qc, _⟩ := R.2.2.2.2.2.1 a T cap e
  have hcap := sbq_cap qc
  unfold ll_21
  rw [hc_R (o := some ee) q.1 rfl, Option.bind_some, hc_len q.2.1 (by decide), Option.bind_some, hc_I (v := 0) q.1 rfl, Option.bind_some, sb_len, q.2.2.1, sb_sh0 (by omega)]
  refine if_pos ?_
  rw [Int32.le_iff_toInt_le, Int32.toInt_sub, Int32.toInt_ofNat_of_lt (by omega), Int32.toInt_ofNat_of_lt (by omega)]
  have : (0 : Int32).toInt = 0 := rfl
  rw [this, Int.bmod_eq_of_le (by omega) (by omega)]
  omega
end AHT
