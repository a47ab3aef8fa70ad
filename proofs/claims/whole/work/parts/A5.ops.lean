/-! CELLS written and made in the abstract heap; numbers as indices; what is thrown -/
def up {α : Type} (f : Nat → α) (i : Nat) (v : α) : Nat → α := fun j => if j = i then v else f j
theorem up_e {α : Type} {f : Nat → α} {i : Nat} {v : α} : up f i v i = v := if_pos rfl
theorem up_n {α : Type} {f : Nat → α} {i j : Nat} {v : α} (h : j ≠ i) : up f i v j = f j := if_neg h
def ra (n : Nat) (f : Nat → Value) : List Value := (List.range n).map f
theorem ra_len {n : Nat} {f : Nat → Value} : (ra n f).length = n := by
  unfold ra
  rw [List.length_map, List.length_range]
theorem ra_get {n i : Nat} {f : Nat → Value} (hi : i < n) : (ra n f)[i]? = some (f i) := by
  unfold ra
  rw [List.getElem?_map, List.getElem?_range hi]
  rfl
theorem ra_ext {n : Nat} {f g : Nat → Value} (h : ∀ i, i < n → f i = g i) : ra n f = ra n g := by
  unfold ra
  exact List.map_congr_left (fun i hi => h i (List.mem_range.mp hi))
theorem ra_set {n i : Nat} {f : Nat → Value} {v : Value} : (ra n f).set i v = ra n (up f i v) := by
  apply List.ext_getElem?
  intro j
  by_cases hj : j < n
  · rw [ra_get hj]
    by_cases q : j = i
    · subst q
      rw [List.getElem?_set_self (by rw [ra_len]; exact hj), up_e]
    · rw [List.getElem?_set_ne (fun z => q z.symm), ra_get hj, up_n q]
  · rw [List.getElem?_eq_none (by rw [List.length_set, ra_len]; omega), List.getElem?_eq_none (by rw [ra_len]; omega)]
theorem ra_rep {n : Nat} {v : Value} : List.replicate n v = ra n (fun _ => v) := by
  unfold ra
  rw [List.map_const', List.length_range]
theorem ix_s {a : Int32} {n j : Nat} (hn : n < 2 ^ 31) (e : la_ix a n = some j) : a = Int32.ofNat j ∧ j < n := by
  unfold la_ix at e
  split at e
  · cases e
  · next q =>
    split at e
    · next q2 =>
      cases e
      refine ⟨?_, q2⟩
      apply Int32.toInt_inj.mp
      rw [Int32.toInt_ofNat_of_lt (by omega)]
      have z0 : (0 : Int32).toInt = 0 := rfl
      rw [Int32.lt_iff_toInt_lt, z0] at q
      show a.toInt = (a.toInt.toNat : Int)
      omega
    · cases e
theorem ix_n {a : Int32} {n : Nat} (hn : n < 2 ^ 31) (e : la_ix a n = none) (q : ¬ a < 0) : ¬ a < Int32.ofNat n := by
  unfold la_ix at e
  rw [if_neg q] at e
  split at e
  · cases e
  · next q2 =>
    intro z
    have z0 : (0 : Int32).toInt = 0 := rfl
    rw [Int32.lt_iff_toInt_lt, Int32.toInt_ofNat_of_lt hn] at z
    rw [Int32.lt_iff_toInt_lt, z0] at q
    apply q2
    show a.toInt.toNat < n
    omega
/-- an exception, thrown -/
def tw (h : pm_H) (ci : Nat) : tm_L := some (.inr h.1.length, lf_new h ci 6 [])
section TW
variable {h : pm_H} {ci : Nat}
theorem tw_x : lb_x h.1.length (lf_new h ci 6 []) = tw h ci := by
  unfold lb_x
  rw [hc_lc (h := lf_new h ci 6 []) (ci := ci) (fs := []) hn_eq]
  rfl
theorem tw_R {K : Option Nat → pm_H → tm_L} : lb_R (tw h ci) K = tw h ci := tw_x
theorem tw_I {K : Int32 → pm_H → tm_L} : lb_I (tw h ci) K = tw h ci := tw_x
theorem tw_J {K : Int64 → pm_H → tm_L} : lb_J (tw h ci) K = tw h ci := tw_x
theorem tw_V {K : pm_H → tm_L} : lb_V (tw h ci) K = tw h ci := tw_x
/-- what comes back -/
abbrev rtI (v : Int32) (h : pm_H) : tm_L := some (.inl (some (.inl v)), h)
abbrev rtJ (v : Int64) (h : pm_H) : tm_L := some (.inl (some (.inr (.inl v))), h)
abbrev rtR (v : Option Nat) (h : pm_H) : tm_L := some (.inl (some (.inr (.inr v))), h)
abbrev rtV (h : pm_H) : tm_L := some (.inl none, h)
theorem rt_I {v : Int32} {K : Int32 → pm_H → tm_L} : lb_I (rtI v h) K = K v h := rfl
theorem rt_J {v : Int64} {K : Int64 → pm_H → tm_L} : lb_J (rtJ v h) K = K v h := rfl
theorem rt_R {v : Option Nat} {K : Option Nat → pm_H → tm_L} : lb_R (rtR v h) K = K v h := rfl
theorem rt_V {K : pm_H → tm_L} : lb_V (rtV h) K = K h := rfl
end TW
/-- two references, held against each other -/
theorem idn_k {k : Nat} (h1 : 1 ≤ k) (h2 : k < 18) : pm_idn (some k) = true := by
  unfold pm_idn
  simp [h1, h2]
theorem idn_h {a : Nat} (h : 81 ≤ a) : pm_idn (some a) = true := by
  unfold pm_idn
  simp [h]
theorem idn_m {f : Nat → Nat} {o : Option Nat} (h : ∀ x, o = some x → 81 ≤ f x) : pm_idn (o.map f) = true := by
  cases o with
  | none => rfl
  | some x => exact idn_h (h x rfl)
theorem acmA {a b : Option Nat} {x y : tm_L} (ha : pm_idn a = true) (hb : pm_idn b = true) : lb_A (tm_acm a b) x y = if a = b then x else y := by
  unfold tm_acm
  rw [ha, hb]
  by_cases q : a = b
  · rw [if_pos q]
    simp [q, lb_A]
  · rw [if_neg q]
    simp [q, lb_A]
/-! writing, in the abstract heap -/
section AW
variable {A : ah} {h : pm_H} {a ci k t n j : Nat} {fs xs : List Value} {f : Nat → Value} {v : tm_V} {w : Value} {i : Instr}
theorem ah_ss {x y : ac} : ah_set (ah_set A a x) a y = ah_set A a y := by
  unfold ah_set
  refine Prod.ext (funext fun b => ?_) rfl
  by_cases q : b = a
  · simp [q]
  · simp [q]
theorem aw_P (R : ar A h) (e : A.1 a = ac_c (.inl (ci, fs))) (h81 : 81 ≤ a) (hk : k < fs.length) (hf : pm_fit t (tm_v v) = true) : ∃ h', lf_P 81 h (some a) [t, ci, k] v = some h' ∧ ar (ah_set A a (ac_c (.inl (ci, fs.set k (tm_v v))))) h' :=
  ⟨_, hc_P (ar_c R e) hk h81 hf, ar_w R h81 e (fun ci' fs' q => by cases q; exact ⟨_, rfl⟩)⟩
theorem aw_S (R : ar A h) (e : A.1 a = ac_c (.inr (t, xs))) (h81 : 81 ≤ a) (hj : j < xs.length) (hl : xs.length < 2 ^ 31) (hn : pm_nar pt_P.2 i t h (tm_v v) = some w) : ∃ h', la_S pt_P h i (some a) (Int32.ofNat j) v = some h' ∧ ar (ah_set A a (ac_c (.inr (t, xs.set j w)))) h' :=
  ⟨_, hc_st (ar_c R e) h81 hj hl hn, ar_w R h81 e (fun ci' fs' q => by cases q)⟩
theorem aw_Sr (R : ar A h) (e : A.1 a = ac_c (.inr (t, ra n f))) (h81 : 81 ≤ a) (hj : j < n) (hl : n < 2 ^ 31) (hn : pm_nar pt_P.2 i t h (tm_v v) = some w) : ∃ h', la_S pt_P h i (some a) (Int32.ofNat j) v = some h' ∧ ar (ah_set A a (ac_c (.inr (t, ra n (up f j w))))) h' := by
  obtain ⟨h', p, q⟩ := aw_S R e h81 (by rw [ra_len]; exact hj) (by rw [ra_len]; exact hl) hn
  rw [ra_set] at q
  exact ⟨h', p, q⟩
theorem nar_act {x : Nat} (R : ar A h) (e : A.1 x = ac_c (.inl (7, fs))) : pm_nar pt_P.2 .aastore 11 h (tm_v (.inr (.inr (some x)))) = some (.ref x) := by
  show (if 10 ≤ 11 then (match h.1[x]? with
    | some (.inl (ci, _)) => if pt_asg.contains (11, ci) then some (Value.ref x) else none
    | _ => none) else none) = _
  rw [if_pos (by decide), ar_c R e]
  rfl
theorem aw_cl (R : ar A h) (e : A.1 a = ac_c (.inr (0, xs))) (h81 : 81 ≤ a) (hf : xs.all (pm_fit 0) = true) : lf_cl 81 h (some a) = some (h.1 ++ [.inr (0, xs)], h.2 + xs.length) := by
  unfold lf_cl
  rw [hc_arr (ar_c R e)]
  exact if_pos ⟨rfl, h81, hf⟩
/-- Arrays.fill -/
theorem fill_l {z : Int32} (hn : n < 19999) (h81 : 81 ≤ a) : ∀ (m i : Nat) (f : Nat → Value) (A : ah) (h : pm_H), ar A h → A.1 a = ac_c (.inr (0, ra n f)) → i ≤ n → n - i < m → ∃ h', l14_5 m (some a) z (Int32.ofNat i) (Int32.ofNat n) h = rtV h' ∧ ar (ah_set A a (ac_c (.inr (0, ra n (fun j => if i ≤ j then .int z else f j))))) h' := by
  intro m
  induction m with
  | zero => intro i f A h R e hi hm; omega
  | succ m ih =>
    intro i f A h R e hi hm
    rw [l14_5]
    dsimp only
    by_cases q : n ≤ i
    · rw [if_pos ((i32_len (by omega) (by omega)).mpr q)]
      refine ⟨h, rfl, ?_⟩
      have e2 : ra n (fun j => if i ≤ j then Value.int z else f j) = ra n f := ra_ext (fun j hj => if_neg (by omega))
      rw [e2, ah_same e]
      exact R
    · rw [if_neg (fun q2 => q ((i32_len (by omega) (by omega)).mp q2))]
      obtain ⟨h1, p1, R1⟩ := aw_Sr (i := .iastore) (j := i) (v := .inl z) (w := .int z) R e h81 (by omega) (by omega) rfl
      have n4 : Int32.ofNat i + (1 : Int32) = Int32.ofNat (i + 1) := i32_add i 1
      rw [p1, Option.bind_some, n4]
      obtain ⟨h2, p2, R2⟩ := ih (i + 1) _ _ h1 R1 ah_set_e (by omega) (by omega)
      refine ⟨h2, p2, ?_⟩
      have e2 : ra n (fun j => if i + 1 ≤ j then Value.int z else up f i (.int z) j) = ra n (fun j => if i ≤ j then Value.int z else f j) := by
        refine ra_ext (fun j hj => ?_)
        by_cases c : i ≤ j
        · rw [if_pos c]
          by_cases c2 : j = i
          · rw [if_neg (by omega), c2, up_e]
          · rw [if_pos (by omega)]
        · rw [if_neg c, if_neg (by omega), up_n (by omega)]
      rw [ah_ss, e2] at R2
      exact R2
theorem ll_fill {z : Int32} (R : ar A h) (e : A.1 a = ac_c (.inr (0, ra n f))) (h81 : 81 ≤ a) (hn : n < 19999) : ∃ h', ll_14 (some a) z h = rtV h' ∧ ar (ah_set A a (ac_c (.inr (0, ra n (fun _ => .int z))))) h' := by
  obtain ⟨h', p, q⟩ := fill_l (z := z) hn h81 lf_N 0 f A h R e (by omega) (by unfold lf_N; omega)
  refine ⟨h', ?_, ?_⟩
  · unfold ll_14
    rw [hc_len (ar_c R e) (by decide), Option.bind_some, ra_len]
    exact p
  · have e2 : ra n (fun j => if 0 ≤ j then Value.int z else f j) = ra n (fun _ => .int z) := ra_ext (fun j _ => if_pos (Nat.zero_le j))
    rw [e2] at q
    exact q
theorem c24 {a b : Nat} (ha : a < 2 ^ 31) (hb : b < 2 ^ 31) : ll_24 (Int32.ofNat a) (Int32.ofNat b) h = rtI (Int32.ofNat (max a b)) h := by
  unfold ll_24
  by_cases q : a < b
  · rw [if_pos ((i32_ltn ha hb).mpr q), Nat.max_eq_right (by omega)]
  · rw [if_neg (fun z => q ((i32_ltn ha hb).mp z)), Nat.max_eq_left (by omega)]
end AW
