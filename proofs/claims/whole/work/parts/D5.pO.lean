/-! A CALL of the class and one of the reference, put together; contents -/
theorem pO_mk {w : Option Nat} {cmp : Int32 → Option tm_V → pm_H → Prop} {y1 y2 : Nat} {as1 as2 : List tm_V} {h h1 : pm_H} {A1 : ah} {S S' : rs_S} {k : Int32} {b : Option tm_V} (t1 : tx_R w y1 as1 h (.inl (some (.inl k)), h1)) (h0 : h1.1[0]? = h.1[0]?) (R1 : ar A1 h1) (C1 : RefC A1 S) (hl : 177 ≤ A1.2.1) (t2 : tx_R w y2 as2 (rs_h S h1) (.inl b, rs_h S' h1)) (hk : S'.1 0 = k) (hc : cmp k b (rs_h S' h1)) : pt_O w cmp y1 as1 y2 as2 h (rs_h S' h1) := by
  have hl1 : 177 ≤ h1.1.length := by rw [ar_len R1]; exact hl
  have e1 := RefC_h R1 C1 hl1
  have l1 : lc_of h1 (some 145) = some 10 := by
    rw [← e1]
    exact rs_lc hl1
  rw [e1] at t2
  refine ⟨k, h1, b, rs_h S' h1, t1, h0, l1, t2, rs_lc hl1, ?_, hc⟩
  have t3 : ll_235 (some 145) (rs_h S' h1) = some (.inl (some (.inl (S'.1 0))), rs_h S' h1) := rt_235 hl1 rfl
  rw [hk] at t3
  exact tx_l (by decide) (lq_235 t3)
/-! what the wrappers do with an end -/
theorem lh_It {h : pm_H} {ci : Nat} {K : Int32 → pm_H → tm_L} {X : Nat → Nat → pm_H → tm_L} : lh_I (tw h ci) K X = X h.1.length ci (lf_new h ci 6 []) := by
  unfold lh_I tw
  dsimp only
  rw [hc_lc (h := lf_new h ci 6 []) (ci := ci) (fs := []) hn_eq]
theorem lh_Vt {h : pm_H} {ci : Nat} {K : pm_H → tm_L} {X : Nat → Nat → pm_H → tm_L} : lh_V (tw h ci) K X = X h.1.length ci (lf_new h ci 6 []) := by
  unfold lh_V tw
  dsimp only
  rw [hc_lc (h := lf_new h ci 6 []) (ci := ci) (fs := []) hn_eq]
theorem lh_Ir {h : pm_H} {v : Int32} {K : Int32 → pm_H → tm_L} {X : Nat → Nat → pm_H → tm_L} : lh_I (rtI v h) K X = K v h := rfl
theorem lh_Vr {h : pm_H} {K : pm_H → tm_L} {X : Nat → Nat → pm_H → tm_L} : lh_V (rtV h) K X = K h := rfl
/-- the answer is laid into the law's cell -/
theorem st_177 {A : ah} {h : pm_H} {u v : Int64} (R : ar A h) (e : A.1 177 = ac_c (.inr (1, [.long u]))) : ∃ h', la_S pt_P h .lastore (some 177) (0 : Int32) (.inr (.inl v)) = some h' ∧ ar (ah_set A 177 (ac_c (.inr (1, [.long v])))) h' := by
  obtain ⟨h', p, q⟩ := aw_S (i := .lastore) (j := 0) (v := .inr (.inl v)) (w := .long v) R e (by omega) (by simp) (by simp) rfl
  exact ⟨h', p, q⟩
theorem ld_177 {A : ah} {h : pm_H} {u : Int64} (R : ar A h) (e : A.1 177 = ac_c (.inr (1, [.long u]))) : la_J h .laload (some 177) 0 = some u := hc_ldJ (j := 0) (ar_c R e) rfl (by omega) rfl
