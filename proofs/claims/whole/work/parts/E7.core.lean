/-! THE CORE of what holds between calls -/
def IC (M : aM) (A : ah) (D : aD) (G : Nat → fo) (S : rs_S) (T U : List Nat) (u : Int64) : Prop := RefC A S ∧ CW M A D G ∧ CR A T U ∧ A.1 177 = ac_c (.inr (1, [.long u])) ∧ GW D G ∧ (∀ o, o < 3 → RT D o (G o) S) ∧ TX T U S ∧ CTT M A D S
section COR
variable {A A' : ah} {h h' : pm_H} {M : aM} {D : aD} {G : Nat → fo} {S S' : rs_S} {T U : List Nat} {u v : Int64} {n k : Nat} {w : Option Nat}
theorem CW_st {Y : List Nat} (C : CW M A D G) (R : ar A h) (s : st A A' Y n k) (hY : ∀ x ∈ Y, 145 ≤ x ∧ x < 178) : CW M A' D G := by
  obtain ⟨c1, c2, c3, c4⟩ := C
  exact ⟨Cb_st c1 R s (fun x hx => by have := hY x hx; omega), Cd_st c2 R s (fun x hx => by have := hY x hx; omega), fun o ho => Cf_st (c3 o ho) R s (fun x hx => by have := hY x hx; omega), Nat.le_trans c4 s.1⟩
theorem CTT_s {Y : List Nat} (C : CTT M A D S) (R : ar A h) (s : st A A' Y n k) (hY : ∀ x ∈ Y, x < 178) (hS : S'.2.1 = S.2.1) : CTT M A' D S' := by
  intro i r hi hk
  obtain ⟨h1, h2⟩ := C i r hi hk
  rw [hS]
  exact ⟨cte_s R s hY (fun a j _ _ => by rw [hS]) h1, cte_s R s hY (fun a j _ _ => by rw [hS]) h2⟩
theorem RT_2 {o : Nat} {F : fo} (e : S'.2 = S.2) (R : RT D o F S) : RT D o F S' := by
  obtain ⟨⟨a1, a2, a3, a4, a5⟩, b, c, d⟩ := R
  refine ⟨⟨a1, ?_, ?_, a4, a5⟩, ?_, ?_, ?_⟩
  · unfold RD at a2 ⊢; rw [e]; exact a2
  · unfold RK at a3 ⊢; rw [e]; exact a3
  · rw [e]; exact b
  · unfold SH at c ⊢; rw [e]; exact c
  · rw [e]; exact d
theorem TX_2 (e : S'.2 = S.2) (h1 : S'.1 22 = S.1 22) (h2 : S'.1 39 = S.1 39) (X : TX T U S) : TX T U S' := by
  unfold TX at X ⊢
  rw [e, h1, h2]
  exact X
/-- a new object that no one knows -/
theorem IC_new (R : ar A h) (I : IC M A D G S T U u) (ci m : Nat) : IC M (ah_new A (ac_c (.inl (ci, []))) m) D G S T U u := by
  obtain ⟨i1, i2, i3, i4, i5, i6, i7, i8⟩ := I
  have s := st_new R (show 145 ≤ A.2.1 by have := i2.2.2.2; omega) (.inl (ci, [])) m
  exact ⟨RefC_st i1 R s (by intro x hx; cases hx), CW_st i2 R s (by intro x hx; cases hx), CR_st i3 R s (by intro x hx; cases hx), st_c s R i4 (by intro q; cases q) (by simp), i5, i6, i7, CTT_s i8 R s (by intro x hx; cases hx) rfl⟩
theorem IC_177 (R : ar A h) (I : IC M A D G S T U u) : IC M (ah_set A 177 (ac_c (.inr (1, [.long v])))) D G S T U v := by
  obtain ⟨i1, i2, i3, i4, i5, i6, i7, i8⟩ := I
  have s := st_set (y := .inr (1, [.long v])) i4
  exact ⟨RefC_st i1 R s (by intro x hx; simp at hx; omega), CW_st i2 R s (by intro x hx; simp at hx; omega), CR_st i3 R s (by intro x hx; simp at hx; omega), ah_set_e, i5, i6, i7, CTT_s i8 R s (by intro x hx; simp at hx; omega) rfl⟩
theorem rng_m {x : Nat} (hx : x ∈ (List.range 32).map (fun j => 145 + j)) : 145 ≤ x ∧ x < 177 := by
  obtain ⟨j, h1, h2⟩ := List.mem_map.mp hx
  have := List.mem_range.mp h1
  omega
/-- the reference's picture becomes another, its arrays the same -/
theorem IC_S (R : ar A h) (I : IC M A D G S T U u) (e : S'.2 = S.2) (h1 : S'.1 22 = S.1 22) (h2 : S'.1 39 = S.1 39) : IC M (ahS A S') D G S' T U u := by
  obtain ⟨i1, i2, i3, i4, i5, i6, i7, i8⟩ := I
  have s := ahS_st (A := A) (S := S')
  exact ⟨ahS_C, CW_st i2 R s (fun x hx => by have := rng_m hx; omega), CR_st i3 R s (fun x hx => by have := rng_m hx; omega), st_c s R i4 (by intro q; cases q) (fun hx => by have := rng_m hx; omega), i5, fun o ho => RT_2 e (i6 o ho), TX_2 e h1 h2 i7, CTT_s i8 R s (fun x hx => by have := rng_m hx; omega) (by rw [e])⟩
/-- what a call leaves: cells of the class and the reference may be others, n new cells and k slots, the script stays -/
def Lv (A A' : ah) (n k : Nat) : Prop := A.2.1 ≤ A'.2.1 ∧ A'.1 0 = A.1 0 ∧ A'.2.1 + ro_N A ≤ A.2.1 + ro_N A' + n ∧ A'.2.2 + ro_S A ≤ A.2.2 + ro_S A' + k
theorem Lv_st {Y : List Nat} (R : ar A h) (s : st A A' Y n k) (h0 : 0 ∉ Y) : Lv A A' n k := ⟨s.1, s.2.1 0 (by have := R.2.2.2.2.2.2.2; omega) h0, s.2.2.1, s.2.2.2⟩
theorem Lv_tr {A2 : ah} {n' k' : Nat} (h1 : Lv A A' n k) (h2 : Lv A' A2 n' k') : Lv A A2 (n + n') (k + k') := by
  obtain ⟨a1, a2, a3, a4⟩ := h1
  obtain ⟨b1, b2, b3, b4⟩ := h2
  exact ⟨Nat.le_trans a1 b1, b2.trans a2, by omega, by omega⟩
theorem Lv_h0 {y : pm_C} (R : ar A h) (R' : ar A' h') (l : Lv A A' n k) (e : A.1 0 = ac_c y) : h'.1[0]? = h.1[0]? := by
  rw [ar_c R e, ar_c R' (l.2.1.trans e)]
/-- a call that throws on both sides -/
theorem fin_thr {cmp : Int32 → Option tm_V → pm_H → Prop} {y1 y2 ci : Nat} {as1 as2 : List tm_V} {c : Int32} {b : Option tm_V} {y : pm_C} (R : ar A h) (I : IC M A D G S T U u) (e0 : A.1 0 = ac_c y) (t1 : tx_R w y1 as1 h (.inl (some (.inl c)), lf_new h ci 6 [])) (t2 : ∀ h1 : pm_H, 177 ≤ h1.1.length → tx_R w y2 as2 (rs_h S h1) (.inl b, rs_h S' h1)) (hS : S'.2 = S.2) (h0 : S'.1 0 = c) (h1 : S'.1 22 = S.1 22) (h2 : S'.1 39 = S.1 39) (hc : ∀ h3, cmp c b h3) : ∃ A3 h3, pt_O w cmp y1 as1 y2 as2 h h3 ∧ ar A3 h3 ∧ IC M A3 D G S' T U u ∧ Lv A A3 1 6 := by
  have R1 : ar (ah_new A (ac_c (.inl (ci, []))) 6) (lf_new h ci 6 []) := ar_n R _ 6
  have I1 := IC_new R I ci 6
  have hn := I.2.1.2.2.2
  have s1 := st_new R (show 145 ≤ A.2.1 by omega) (.inl (ci, [])) 6
  have l1 := Lv_st R s1 (by simp)
  have hl1 : 177 ≤ (lf_new h ci 6 []).1.length := by rw [ar_len R1]; show 177 ≤ A.2.1 + 1; omega
  refine ⟨_, rs_h S' (lf_new h ci 6 []), pO_mk t1 (Lv_h0 R R1 l1 e0) R1 I1.1 (by show 177 ≤ A.2.1 + 1; omega) (t2 _ hl1) h0 (hc _), ar_S R1 I1.1 hl1, IC_S R1 I1 hS h1 h2, ?_⟩
  exact Lv_tr l1 (Lv_st R1 (ahS_st (S := S')) (fun hx => by have := rng_m hx; omega))
end COR
