/-! CALLS put together: those that change nothing -/
section STP
variable {A A' : ah} {h h' : pm_H} {M : aM} {D : aD} {G : Nat → fo} {S S' : rs_S} {T U : List Nat} {u : Int64} {n k : Nat} {w : Option Nat} {a1 a2 a3 : Int32} {y : pm_C}
/-- a call that answers a number and leaves all as it was -/
theorem fin_rd {y1 y2 : Nat} {as1 as2 : List tm_V} {v : Int32} (R : ar A h) (I : IC M A D G S T U u) (e0 : A.1 0 = ac_c y) (t1 : ∀ h5, la_S pt_P h .lastore (some 177) (0 : Int32) (.inr (.inl v.toInt64)) = some h5 → tx_R w y1 as1 h (.inl (some (.inl 0)), h5)) (t2 : ∀ h1 : pm_H, 177 ≤ h1.1.length → tx_R w y2 as2 (rs_h S h1) (.inl (some (.inl v)), rs_h S' h1)) (hS : S'.2 = S.2) (h0 : S'.1 0 = 0) (h1 : S'.1 22 = S.1 22) (h2 : S'.1 39 = S.1 39) : ∃ A3 h3, pt_O w pt_cI y1 as1 y2 as2 h h3 ∧ ar A3 h3 ∧ IC M A3 D G S' T U v.toInt64 ∧ Lv A A3 1 6 := by
  obtain ⟨h5, p5, R5⟩ := st_177 (v := v.toInt64) R I.2.2.2.1
  have I5 := IC_177 (v := v.toInt64) R I
  have hn := I.2.1.2.2.2
  have s5 := st_set (y := .inr (1, [.long v.toInt64])) I.2.2.2.1
  have l5 := Lv_st R s5 (by simp)
  have hl5 : 177 ≤ h5.1.length := by rw [ar_len R5]; show 177 ≤ A.2.1; omega
  have R6 := ar_S (S' := S') R5 I5.1 hl5
  have I6 := IC_S R5 I5 hS h1 h2
  refine ⟨_, rs_h S' h5, pO_mk (t1 h5 p5) (Lv_h0 R R5 l5 e0) R5 I5.1 (by show 177 ≤ A.2.1; omega) (t2 _ hl5) h0 ⟨v, rfl, fun _ => ld_177 R6 I6.2.2.2.1⟩, R6, I6, ?_⟩
  obtain ⟨z1, z2, z3, z4⟩ := Lv_tr l5 (Lv_st R5 (ahS_st (S := S')) (fun hx => by have := rng_m hx; omega))
  exact ⟨z1, z2, by omega, by omega⟩
theorem IC_K (I : IC M A D G S T U u) : ∀ o, o < 3 → ∀ m, fK (G o) m ≤ 40 := fun o ho => (I.2.2.2.2.1.2.2.2.2.2.2.2 o ho).1.1.2.1
theorem IC_W (I : IC M A D G S T U u) : ∀ o, o < 3 → Wf D o (G o) := fun o ho => (I.2.2.2.2.1.2.2.2.2.2.2.2 o ho).1.1
theorem IC_L (R : ar A h) (I : IC M A D G S T U u) : lc_of h (some 81) = some 0 := hc_lc (ar_c R I.2.1.1.1)
theorem cI_t {c : Int32} {v : Int32} (hc : c ≠ 0) : ∀ h3, pt_cI c (some (.inl v)) h3 := fun _ => ⟨v, rfl, fun e => absurd e hc⟩
/-- a call, done: what it leaves -/
def Spc (w : Option Nat) (M : aM) (A : ah) (D : aD) (G : Nat → fo) (S : rs_S) (T U : List Nat) (y1 : Nat) (as1 : List tm_V) (y2 : Nat) (as2 : List tm_V) (h : pm_H) : Prop := ∃ A3 h3 S3 u3, pt_O w pt_cI y1 as1 y2 as2 h h3 ∧ ar A3 h3 ∧ IC M A3 D G S3 T U u3 ∧ Lv A A3 1 6 ∧ S3.2 = S.2 ∧ ∀ j, j ≠ 0 → S3.1 j = S.1 j
theorem spc_t {y1 y2 ci : Nat} {as1 as2 : List tm_V} {c v : Int32} (R : ar A h) (I : IC M A D G S T U u) (e0 : A.1 0 = ac_c y) (hc : c ≠ 0) (t1 : tx_R w y1 as1 h (.inl (some (.inl c)), lf_new h ci 6 [])) (t2 : ∀ h1 : pm_H, 177 ≤ h1.1.length → tx_R w y2 as2 (rs_h S h1) (.inl (some (.inl v)), rs_h (rs_setI S 0 c) h1)) : Spc w M A D G S T U y1 as1 y2 as2 h := by
  obtain ⟨A3, h3, g1, g2, g3, g4⟩ := fin_thr (S' := rs_setI S 0 c) R I e0 t1 t2 rfl rfl rfl rfl (cI_t hc)
  exact ⟨A3, h3, _, u, g1, g2, g3, g4, rfl, fun j hj => if_neg hj⟩
theorem spc_r {y1 y2 : Nat} {as1 as2 : List tm_V} {v : Int32} (R : ar A h) (I : IC M A D G S T U u) (e0 : A.1 0 = ac_c y) (t1 : ∀ h5, la_S pt_P h .lastore (some 177) (0 : Int32) (.inr (.inl v.toInt64)) = some h5 → tx_R w y1 as1 h (.inl (some (.inl 0)), h5)) (t2 : ∀ h1 : pm_H, 177 ≤ h1.1.length → tx_R w y2 as2 (rs_h S h1) (.inl (some (.inl v)), rs_h (rs_setI S 0 0) h1)) : Spc w M A D G S T U y1 as1 y2 as2 h := by
  obtain ⟨A3, h3, g1, g2, g3, g4⟩ := fin_rd (S' := rs_setI S 0 0) R I e0 t1 t2 rfl rfl rfl rfl
  exact ⟨A3, h3, _, _, g1, g2, g3, g4, rfl, fun j hj => if_neg hj⟩
theorem sp_known (R : ar A h) (I : IC M A D G S T U u) (e0 : A.1 0 = ac_c y) : Spc w M A D G S T U 174 [.inr (.inr (some 81)), .inl a1, .inl a2, .inr (.inr (some 177))] 258 [.inr (.inr (some 145)), .inl a1, .inl a2] h := by
  have c : ll_175 (some 81) a1 a2 h = _ := c175 R I.2.1 (IC_K I)
  have q : rf_258 a1 a2 S = _ := q258 (fun o ho => (I.2.2.2.2.2.1 o ho).1.2.2.1)
  have t2 : ∀ {v S'}, rf_258 a1 a2 S = some (v, S') → ∀ h1 : pm_H, 177 ≤ h1.1.length → tx_R w 258 [.inr (.inr (some 145)), .inl a1, .inl a2] (rs_h S h1) (.inl (some (.inl v)), rs_h S' h1) := fun hr h1 hl => tx_l (by decide) (lq_258 (rt_258 hl hr))
  have thr : ∀ ci k, ll_175 (some 81) a1 a2 h = tw h ci → rf_258 a1 a2 S = some (0, rs_setI S 0 k) → k ≠ 0 → ll_174 (some 81) a1 a2 (some 177) h = some (.inl (some (.inl k)), lf_new h ci 6 []) → Spc w M A D G S T U 174 [.inr (.inr (some 81)), .inl a1, .inl a2, .inr (.inr (some 177))] 258 [.inr (.inr (some 145)), .inl a1, .inl a2] h := fun ci k c q hk t1 => spc_t R I e0 hk (tx_l (by decide) (lq_174 t1)) (t2 q)
  have ok : ∀ v, ll_175 (some 81) a1 a2 h = rtI v h → rf_258 a1 a2 S = some (v, rs_setI S 0 0) → Spc w M A D G S T U 174 [.inr (.inr (some 81)), .inl a1, .inl a2, .inr (.inr (some 177))] 258 [.inr (.inr (some 145)), .inl a1, .inl a2] h := fun v c q => spc_r R I e0 (fun h5 p5 => tx_l (by decide) (lq_174 (by
    unfold ll_174
    rw [if_pos (IC_L R I), c, lh_Ir, p5]
    rfl))) (t2 q)
  cases e1 : la_ix a1 3 with
  | none =>
    simp only [e1, Option.elim_some, Option.elim_none] at c q
    exact thr 14 1 c q (by decide) (by
      unfold ll_174
      rw [if_pos (IC_L R I), c, lh_It]
      rfl)
  | some o =>
    cases e2 : la_ix a2 3 with
    | none =>
      simp only [e1, e2, Option.elim_some, Option.elim_none] at c q
      exact thr 14 1 c q (by decide) (by
        unfold ll_174
        rw [if_pos (IC_L R I), c, lh_It]
        rfl)
    | some m =>
      simp only [e1, e2, Option.elim_some] at c q
      exact ok _ c q
theorem sp_wait (R : ar A h) (I : IC M A D G S T U u) (e0 : A.1 0 = ac_c y) : Spc w M A D G S T U 176 [.inr (.inr (some 81)), .inl a1, .inr (.inr (some 177))] 259 [.inr (.inr (some 145)), .inl a1] h := by
  have c : ll_177 (some 81) a1 h = _ := c177 R I.2.1 I.2.2.2.2.1.1 (IC_W I)
  have q : rf_259 a1 S = _ := q259 (fun o ho => (I.2.2.2.2.2.1 o ho).2.2.2)
  have t2 : ∀ {v S'}, rf_259 a1 S = some (v, S') → ∀ h1 : pm_H, 177 ≤ h1.1.length → tx_R w 259 [.inr (.inr (some 145)), .inl a1] (rs_h S h1) (.inl (some (.inl v)), rs_h S' h1) := fun hr h1 hl => tx_l (by decide) (lq_259 (rt_259 hl hr))
  have thr : ∀ ci k, ll_177 (some 81) a1 h = tw h ci → rf_259 a1 S = some (0, rs_setI S 0 k) → k ≠ 0 → ll_176 (some 81) a1 (some 177) h = some (.inl (some (.inl k)), lf_new h ci 6 []) → Spc w M A D G S T U 176 [.inr (.inr (some 81)), .inl a1, .inr (.inr (some 177))] 259 [.inr (.inr (some 145)), .inl a1] h := fun ci k c q hk t1 => spc_t R I e0 hk (tx_l (by decide) (lq_176 t1)) (t2 q)
  have ok : ∀ v, ll_177 (some 81) a1 h = rtI v h → rf_259 a1 S = some (v, rs_setI S 0 0) → Spc w M A D G S T U 176 [.inr (.inr (some 81)), .inl a1, .inr (.inr (some 177))] 259 [.inr (.inr (some 145)), .inl a1] h := fun v c q => spc_r R I e0 (fun h5 p5 => tx_l (by decide) (lq_176 (by
    unfold ll_176
    rw [if_pos (IC_L R I), c, lh_Ir, p5]
    rfl))) (t2 q)
  cases e1 : la_ix a1 3 with
  | none =>
    simp only [e1, Option.elim_some, Option.elim_none] at c q
    exact thr 14 1 c q (by decide) (by
      unfold ll_176
      rw [if_pos (IC_L R I), c, lh_It]
      rfl)
  | some o =>
    simp only [e1, Option.elim_some] at c q
    exact ok _ c q
theorem sp_lines (R : ar A h) (I : IC M A D G S T U u) (e0 : A.1 0 = ac_c y) : Spc w M A D G S T U 180 [.inr (.inr (some 81)), .inl a1, .inl a2, .inr (.inr (some 177))] 260 [.inr (.inr (some 145)), .inl a1, .inl a2] h := by
  have c : ll_181 (some 81) a1 a2 h = _ := c181 R I.2.1
  have q : rf_260 a1 a2 S = _ := q260 (fun o ho => (I.2.2.2.2.2.1 o ho).2.2.1)
  have t2 : ∀ {v S'}, rf_260 a1 a2 S = some (v, S') → ∀ h1 : pm_H, 177 ≤ h1.1.length → tx_R w 260 [.inr (.inr (some 145)), .inl a1, .inl a2] (rs_h S h1) (.inl (some (.inl v)), rs_h S' h1) := fun hr h1 hl => tx_l (by decide) (lq_260 (rt_260 hl hr))
  have thr : ∀ ci k, ll_181 (some 81) a1 a2 h = tw h ci → rf_260 a1 a2 S = some (0, rs_setI S 0 k) → k ≠ 0 → ll_180 (some 81) a1 a2 (some 177) h = some (.inl (some (.inl k)), lf_new h ci 6 []) → Spc w M A D G S T U 180 [.inr (.inr (some 81)), .inl a1, .inl a2, .inr (.inr (some 177))] 260 [.inr (.inr (some 145)), .inl a1, .inl a2] h := fun ci k c q hk t1 => spc_t R I e0 hk (tx_l (by decide) (lq_180 t1)) (t2 q)
  have ok : ∀ v, ll_181 (some 81) a1 a2 h = rtI v h → rf_260 a1 a2 S = some (v, rs_setI S 0 0) → Spc w M A D G S T U 180 [.inr (.inr (some 81)), .inl a1, .inl a2, .inr (.inr (some 177))] 260 [.inr (.inr (some 145)), .inl a1, .inl a2] h := fun v c q => spc_r R I e0 (fun h5 p5 => tx_l (by decide) (lq_180 (by
    unfold ll_180
    rw [if_pos (IC_L R I), c, lh_Ir, p5]
    rfl))) (t2 q)
  cases e1 : la_ix a1 3 with
  | none =>
    simp only [e1, Option.elim_some, Option.elim_none] at c q
    exact thr 14 1 c q (by decide) (by
      unfold ll_180
      rw [if_pos (IC_L R I), c, lh_It]
      rfl)
  | some o =>
    cases e2 : la_ix a2 2 with
    | none =>
      simp only [e1, e2, Option.elim_some, Option.elim_none] at c q
      exact thr 14 1 c q (by decide) (by
        unfold ll_180
        rw [if_pos (IC_L R I), c, lh_It]
        rfl)
    | some k =>
      simp only [e1, e2, Option.elim_some] at c q
      exact ok _ c q
theorem sp_line (R : ar A h) (I : IC M A D G S T U u) (e0 : A.1 0 = ac_c y) : Spc w M A D G S T U 182 [.inr (.inr (some 81)), .inl a1, .inl a2, .inl a3, .inr (.inr (some 177))] 261 [.inr (.inr (some 145)), .inl a1, .inl a2, .inl a3] h := by
  have c : ll_183 (some 81) a1 a2 a3 h = _ := c183 R I.2.1 I.2.2.2.2.1.1 (IC_W I)
  have q : rf_261 a1 a2 a3 S = _ := q261 (fun o ho => (I.2.2.2.2.2.1 o ho).2.2.1) (IC_W I) I.2.2.2.2.1.1
  have t2 : ∀ {v S'}, rf_261 a1 a2 a3 S = some (v, S') → ∀ h1 : pm_H, 177 ≤ h1.1.length → tx_R w 261 [.inr (.inr (some 145)), .inl a1, .inl a2, .inl a3] (rs_h S h1) (.inl (some (.inl v)), rs_h S' h1) := fun hr h1 hl => tx_l (by decide) (lq_261 (rt_261 hl hr))
  have thr : ∀ ci k, ll_183 (some 81) a1 a2 a3 h = tw h ci → rf_261 a1 a2 a3 S = some (0, rs_setI S 0 k) → k ≠ 0 → ll_182 (some 81) a1 a2 a3 (some 177) h = some (.inl (some (.inl k)), lf_new h ci 6 []) → Spc w M A D G S T U 182 [.inr (.inr (some 81)), .inl a1, .inl a2, .inl a3, .inr (.inr (some 177))] 261 [.inr (.inr (some 145)), .inl a1, .inl a2, .inl a3] h := fun ci k c q hk t1 => spc_t R I e0 hk (tx_l (by decide) (lq_182 t1)) (t2 q)
  have ok : ∀ v, ll_183 (some 81) a1 a2 a3 h = rtI v h → rf_261 a1 a2 a3 S = some (v, rs_setI S 0 0) → Spc w M A D G S T U 182 [.inr (.inr (some 81)), .inl a1, .inl a2, .inl a3, .inr (.inr (some 177))] 261 [.inr (.inr (some 145)), .inl a1, .inl a2, .inl a3] h := fun v c q => spc_r R I e0 (fun h5 p5 => tx_l (by decide) (lq_182 (by
    unfold ll_182
    rw [if_pos (IC_L R I), c, lh_Ir, p5]
    rfl))) (t2 q)
  cases e1 : la_ix a1 3 with
  | none =>
    simp only [e1, Option.elim_some, Option.elim_none] at c q
    exact thr 14 1 c q (by decide) (by
      unfold ll_182
      rw [if_pos (IC_L R I), c, lh_It]
      rfl)
  | some o =>
    cases e2 : la_ix a2 2 with
    | none =>
      simp only [e1, e2, Option.elim_some, Option.elim_none] at c q
      exact thr 14 1 c q (by decide) (by
        unfold ll_182
        rw [if_pos (IC_L R I), c, lh_It]
        rfl)
    | some k =>
      cases e3 : la_ix a3 (xS (fX (G o) k)).length with
      | none =>
        simp only [e1, e2, e3, Option.elim_some, Option.elim_none] at c q
        exact thr 16 2 c q (by decide) (by
          unfold ll_182
          rw [if_pos (IC_L R I), c, lh_It]
          rfl)
      | some j =>
        simp only [e1, e2, e3, Option.elim_some] at c q
        exact ok _ c q
theorem sp_out (R : ar A h) (I : IC M A D G S T U u) (e0 : A.1 0 = ac_c y) : Spc w M A D G S T U 232 [.inr (.inr (some 81)), .inl a1, .inr (.inr (some 177))] 313 [.inr (.inr (some 145)), .inl a1] h := by
  have c : ll_233 w (some 81) a1 h = _ := c233 R I.2.1.1 I.2.2.1 I.2.2.2.2.2.2.1.2.2.2.2.2.1
  have q : rf_313 a1 S = _ := q313 I.2.2.2.2.2.2.1
  have t2 : ∀ {v S'}, rf_313 a1 S = some (v, S') → ∀ h1 : pm_H, 177 ≤ h1.1.length → tx_R w 313 [.inr (.inr (some 145)), .inl a1] (rs_h S h1) (.inl (some (.inl v)), rs_h S' h1) := fun hr h1 hl => tx_l (by decide) (lq_313 (rt_313 hl hr))
  have thr : ∀ ci k, ll_233 w (some 81) a1 h = tw h ci → rf_313 a1 S = some (0, rs_setI S 0 k) → k ≠ 0 → ll_232 w (some 81) a1 (some 177) h = some (.inl (some (.inl k)), lf_new h ci 6 []) → Spc w M A D G S T U 232 [.inr (.inr (some 81)), .inl a1, .inr (.inr (some 177))] 313 [.inr (.inr (some 145)), .inl a1] h := fun ci k c q hk t1 => spc_t R I e0 hk (tx_l (by decide) (lq_232 t1)) (t2 q)
  have ok : ∀ v, ll_233 w (some 81) a1 h = rtI v h → rf_313 a1 S = some (v, rs_setI S 0 0) → Spc w M A D G S T U 232 [.inr (.inr (some 81)), .inl a1, .inr (.inr (some 177))] 313 [.inr (.inr (some 145)), .inl a1] h := fun v c q => spc_r R I e0 (fun h5 p5 => tx_l (by decide) (lq_232 (by
    unfold ll_232
    rw [if_pos (IC_L R I), c, lh_Ir, p5]
    rfl))) (t2 q)
  cases e1 : la_ix a1 U.length with
  | none =>
    simp only [e1, Option.elim_some, Option.elim_none] at c q
    exact thr 16 1 c q (by decide) (by
      unfold ll_232
      rw [if_pos (IC_L R I), c, lh_It]
      rfl)
  | some j =>
    simp only [e1, Option.elim_some] at c q
    exact ok _ c q
end STP
