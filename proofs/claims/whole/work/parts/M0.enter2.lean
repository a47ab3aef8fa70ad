/-! ENTER: the whole call -/
section EN2
variable {A : ah} {h : pm_H} {M : aM} {D : aD} {G : Nat → fo} {S : rs_S} {T U : List Nat} {u : Int64} {w : Option Nat} {yy : pm_C} {a1 a2 a3 : Int32} {n : Nat}
theorem sp_enter (R : ar A h) (I : IC M A D G S T U u) (hC : CCH D G n S) (hn : n = 120) (e0 : A.1 0 = ac_c yy) : Nx w n A pt_cI 129 [.inr (.inr (some 81)), .inl a1, .inl a2, .inl a3, .inr (.inr (some 177))] 264 [.inr (.inr (some 145)), .inl a1, .inl a2, .inl a3] h := by
  have I' := I
  obtain ⟨i1, C, B, i4, H, RR, X7, CT⟩ := I'
  have is1 : ∀ {x : Nat}, (if (some x).isSome = true then (1 : Int32) else 0) = 1 := rfl
  have is0 : (if (none : Option Nat).isSome = true then (1 : Int32) else 0) = 0 := rfl
  have thr : ∀ (ci : Nat) (c : Int32), c ≠ 0 → ((ci = 14 ∧ c = 1) ∨ (ci = 16 ∧ c = 2) ∨ (ci = 15 ∧ c = 3)) → ll_130 w (some 81) a1 a2 a3 h = tw h ci → rf_264 a1 a2 a3 S = r264_53 a1 a2 a3 c S → Nx w n A pt_cI 129 [.inr (.inr (some 81)), .inl a1, .inl a2, .inl a3, .inr (.inr (some 177))] 264 [.inr (.inr (some 145)), .inl a1, .inl a2, .inl a3] h := by
    intro ci c hc hcc hl hr
    have t1 : ll_129 w (some 81) a1 a2 a3 (some 177) h = some (.inl (some (.inl c)), lf_new h ci 6 []) := by
      unfold ll_129
      rw [if_pos (IC_L R I), hl, lh_It]
      rcases hcc with ⟨z1, z2⟩ | ⟨z1, z2⟩ | ⟨z1, z2⟩ <;> subst z1 z2 <;> rfl
    have t2 : rf_264 a1 a2 a3 S = some (0, rs_setI S 0 c) := by
      rw [hr]
      unfold r264_53
      rw [rbS_r, set0]
      rcases hcc with ⟨z1, z2⟩ | ⟨z1, z2⟩ | ⟨z1, z2⟩ <;> subst z1 z2 <;> rw [if_neg (by decide)]
    exact nx_v (spv_t R I hC e0 hc (tx_l (by decide) (lq_129 t1)) (fun h1 hl => tx_l (by decide) (lq_264 (rt_264 hl t2))))
  cases e1 : la_ix a1 3 with
  | none =>
    refine thr 14 1 (by decide) (Or.inl ⟨rfl, rfl⟩) ?_ ?_
    · unfold ll_130
      rw [if_pos (IC_L R I), c81 R C.1, e1]
      exact tw_R
    · unfold rf_264
      rw [q237, e1, is0, rb_r, if_pos rfl]
  | some o =>
    obtain ⟨ea, ho⟩ := ix_s (by omega) e1
    have Wff := IC_W I o ho
    obtain ⟨x1, x2, x3⟩ := ax_rd R (C.2.2.1 o ho)
    obtain ⟨l0, -⟩ := c84p (a2 := a2) R C Wff ho
    obtain ⟨-, l1⟩ := c84p (a2 := a3) R C Wff ho
    have w0 := Wff.2.2.2.2.2.2 0 (by omega)
    have w1 := Wff.2.2.2.2.2.2 1 (by omega)
    have s0 := (RR o ho).2.2.1 0 (by omega)
    have s1 := (RR o ho).2.2.1 1 (by omega)
    have q0 : rf_239 a1 (0 : Int32) a2 S = some ((if (la_ix a2 (xS (fX (G o) 0)).length).isSome = true then 1 else 0), S) := by rw [ea]; exact q239 (k := 0) ho (by omega) s0 w0.2.2.2.2.2
    have q1 : rf_239 a1 (1 : Int32) a3 S = some ((if (la_ix a3 (xS (fX (G o) 1)).length).isSome = true then 1 else 0), S) := by rw [ea]; exact q239 (k := 1) ho (by omega) s1 w1.2.2.2.2.2
    cases e2 : la_ix a2 (xS (fX (G o) 0)).length with
    | none =>
      refine thr 16 2 (by decide) (Or.inr (Or.inl ⟨rfl, rfl⟩)) ?_ ?_
      · unfold ll_130
        rw [if_pos (IC_L R I), c81 R C.1, e1]
        show lb_R (rtR (some (94 + 17 * o)) h) _ = _
        rw [rt_R, x1, Option.bind_some, x2, Option.bind_some, l0, e2]
        exact tw_R
      · unfold rf_264
        rw [q237, e1, is1, rb_r, if_neg (by decide), q0, e2, is0, rb_r, if_pos rfl]
        rfl
    | some p =>
      obtain ⟨ep, hp⟩ := ix_s (by have := w0.2.2.2.2.2; omega) e2
      cases e3 : la_ix a3 (xS (fX (G o) 1)).length with
      | none =>
        refine thr 16 2 (by decide) (Or.inr (Or.inl ⟨rfl, rfl⟩)) ?_ ?_
        · unfold ll_130
          rw [if_pos (IC_L R I), c81 R C.1, e1]
          show lb_R (rtR (some (94 + 17 * o)) h) _ = _
          rw [rt_R, x1, Option.bind_some, x2, Option.bind_some, l0, e2]
          show lb_R (rtR (some (M 1 ((xS (fX (G o) 0)).getD p 0))) h) _ = _
          rw [rt_R, x1, Option.bind_some, x3, Option.bind_some, l1, e3]
          exact tw_R
        · unfold rf_264
          rw [q237, e1, is1, rb_r, if_neg (by decide), q0, e2, is1, rb_r, if_neg (by decide), q1, e3, is0, rb_r, if_pos rfl]
          rfl
      | some q =>
        obtain ⟨eq, hq⟩ := ix_s (by have := w1.2.2.2.2.2; omega) e3
        have h40 := Wff.2.1 o
        by_cases hm : fK (G o) o < 40
        · -- it reads
          have OIo := (H.2.2.2.2.2.2.2 o ho).1.2.1
          have d1 : lf_R h (some 81) [0, 1] = some (some 83) := hc_R (o := some 83) (ar_c R C.1.1) rfl
          have lc83 : lc_of h (some 83) = some 1 := by
            obtain ⟨⟨v1, v2, v3, x, y, c1⟩, -⟩ := B
            exact hc_lc (ar_c R c1)
          have cl : ll_130 w (some 81) a1 a2 a3 h = lb_R (ll_131 w (some 83) (some (94 + 17 * o + 5)) (some (94 + 17 * o + 11)) h) (fun v24 h25 => (lf_R h25 (some 81) [0, 1]).bind fun v27 => (lf_I h25 v27 [1, 4]).bind fun v28 => if v28 = (-1 : Int32) then if lc_of h25 (some (94 + 17 * o)) = some 4 then lb_V (ll_157 w (some (94 + 17 * o)) (some (M 1 ((xS (fX (G o) 0)).getD p 0))) (some (M 1 ((xS (fX (G o) 1)).getD q 0))) v24 h25) (fun h31 => l130_83 w (some 81) h31) else none else l130_83 w (some 81) h25) := by
            unfold ll_130
            rw [if_pos (IC_L R I), c81 R C.1, e1]
            show lb_R (rtR (some (94 + 17 * o)) h) _ = _
            rw [rt_R, x1, Option.bind_some, x2, Option.bind_some, l0, e2]
            show lb_R (rtR (some (M 1 ((xS (fX (G o) 0)).getD p 0))) h) _ = _
            rw [rt_R, x1, Option.bind_some, x3, Option.bind_some, l1, e3]
            show lb_R (rtR (some (M 1 ((xS (fX (G o) 1)).getD q 0))) h) _ = _
            rw [rt_R, c91 R (C.2.2.1 o ho) ho h40, if_pos hm, rt_V, d1, Option.bind_some, x1, Option.bind_some, x2, Option.bind_some, Option.bind_some, x3, Option.bind_some, if_pos lc83]
          have hk16 := (RR o ho).1.2.2.1 o ho
          rw [show 3 * o + o = 4 * o by omega] at hk16
          obtain ⟨i, hi⟩ : ∃ i, i = 40 * o + fK (G o) o := ⟨_, rfl⟩
          obtain ⟨hD, hi2, -, -, -, -⟩ := GW_rdy H ho hm hi
          have ii : ((40 : Int32) * Int32.ofNat o) + Int32.ofNat (fK (G o) o) = Int32.ofNat i := by
            rw [show (40 : Int32) * Int32.ofNat o = Int32.ofNat (40 * o) from i32_ml 40 o, i32_add, hi]
          have rfq : rf_264 a1 a2 a3 S = if S.1 22 ≤ (0 : Int32) then r264_102 (Int32.ofNat o) (Int32.ofNat p) (Int32.ofNat q) (Int32.ofNat i) (rs_setI S 0 0) else rb (rf_265 (Int32.ofNat o) (Int32.ofNat i) (rs_setI S 0 0)) (fun v3 S4 => if v3 = (0 : Int32) then some ((S4.1 24), S4) else r264_102 (Int32.ofNat o) (Int32.ofNat p) (Int32.ofNat q) (Int32.ofNat i) S4) := by
            have q240' : rf_240 a1 S = some ((0 : Int32), S) := by rw [ea, q240 (RR o ho) Wff, if_pos hm]
            unfold rf_264
            rw [q237, e1, is1, rb_r, if_neg (by decide), q0, e2, is1, rb_r, if_neg (by decide), q1, e3, is1, rb_r, if_neg (by decide), q240', rb_r, if_pos rfl, ea, ep, eq]
            unfold r264_53
            rw [rbS_r, set0, if_pos (by decide), show (4 : Int32) * Int32.ofNat o = Int32.ofNat (4 * o) from i32_ml 4 o, rdI (n := 9) (by decide) (by omega) (by omega), Option.bind_some, show (rs_setI S 0 0).2.1 16 (4 * o) = Int32.ofNat (fK (G o) o) from hk16, ii]
            rfl
          have X0 : TX0 T (rs_setI S 0 0) := ⟨X7.1, X7.2.1, X7.2.2.1, X7.2.2.2.1⟩
          have HS : SHL o (xS (fX (G o) 0)) (xS (fX (G o) 1)) (rs_setI S 0 0) := ⟨ho, s0, s1, w0.2.2.2.2.2, w1.2.2.2.2.2⟩
          have hL0 : ∀ l ∈ xS (fX (G o) 0), lkd D l = 0 := fun l hl => (shn_t OIo H.1 (show 0 < 2 by omega) hl).2.2.2.1
          have hL1 : ∀ l ∈ xS (fX (G o) 1), lkd D l = 1 := fun l hl => (shn_t OIo H.1 (show 1 < 2 by omega) hl).2.2.2.1
          have hX : RX M A D (94 + 17 * o + 5) (94 + 17 * o + 11) (fX (G o) 0) (fX (G o) 1) := ⟨(C.2.2.1 o ho).2.2.2.2.2 0 (by omega), (C.2.2.1 o ho).2.2.2.2.2 1 (by omega), C.2.1, w0, w1, C.2.2.2, by omega, by omega, by omega, by omega⟩
          by_cases hT : T.length = 0
          · -- nothing is drafted
            have h22 : S.1 22 ≤ (0 : Int32) := by rw [X7.1, hT]; decide
            rw [if_pos h22] at rfq
            obtain ⟨k, A1, h1, K, R1, r1, u1, hcl⟩ := c131a (w := w) R B X7.2.2.1 X7.2.1 (show 81 ≤ 94 + 17 * o + 5 by omega) (show 81 ≤ 94 + 17 * o + 11 by omega)
            have hk0 : k = 0 := by
              by_cases z : k = 0
              · exact z
              · have := K.2.2.2.2 0 (by omega); omega
            subst hk0
            rw [if_pos (show Int32.ofNat 0 = (0 : Int32) from rfl)] at hcl
            have C1 := CW_r R C u1
            have t1 : ll_130 w (some 81) a1 a2 a3 h = lb_V (ll_157 w (some (94 + 17 * o)) (some (M 1 ((xS (fX (G o) 0)).getD p 0))) (some (M 1 ((xS (fX (G o) 1)).getD q 0))) none h1) (fun h31 => l130_83 w (some 81) h31) := by
              rw [cl, hcl]
              show lb_R (rtR none h1) _ = _
              rw [rt_R, hc_R (o := some 83) (ar_c R1 C1.1.1) rfl, Option.bind_some, rs_fl R1 r1, Option.bind_some, if_pos rfl, if_pos (hc_lc (ar_c R1 (C1.2.2.1 o ho).1))]
            exact entW R I hC hn e0 ho hm hi hp hq R1 u1 (by omega) r1 ⟨fun _ _ => rfl, rfl, fun _ _ _ _ _ => rfl⟩ (Or.inl ⟨rfl, h22⟩) t1 rfq
          · have h22 : ¬ S.1 22 ≤ (0 : Int32) := by
              rw [X7.1]
              have := X7.2.1
              exact fun z => by have := (i32_len (b := 0) (by omega) (by omega)).mp z; omega
            rw [if_neg h22] at rfq
            obtain ⟨x, t', fl', k, A1, h1, S4, c, y, j1, R1, r1, u1, j5, j6, j7, j8⟩ := readA (w := w) (id := i) R B hX X0 HS hL0 hL1 hi2 (by omega)
            have C1 := CW_r R C u1
            rw [j6, rb_r] at rfq
            rcases j8 with ⟨z1, z2, z3⟩ | ⟨z1, f, z2, z3, z4⟩
            · subst z1 z2
              rw [if_neg (by decide)] at rfq
              have t1 : ll_130 w (some 81) a1 a2 a3 h = lb_V (ll_157 w (some (94 + 17 * o)) (some (M 1 ((xS (fX (G o) 0)).getD p 0))) (some (M 1 ((xS (fX (G o) 1)).getD q 0))) (some x) h1) (fun h31 => l130_83 w (some 81) h31) := by
                rw [cl, j1, rt_R, hc_R (o := some 83) (ar_c R1 C1.1.1) rfl, Option.bind_some, rs_fl R1 r1, Option.bind_some, if_pos rfl, if_pos (hc_lc (ar_c R1 (C1.2.2.1 o ho).1))]
              exact entW R I hC hn e0 ho hm hi hp hq R1 u1 j5 r1 j7 (Or.inr ⟨x, rfl, by rw [j7.1 22 (by omega)]; exact h22, z3⟩) t1 rfq
            · subst z1 z4
              rw [if_pos rfl, z3] at rfq
              have t1 : ll_130 w (some 81) a1 a2 a3 h = rtI (Int32.ofNat f) h1 := by
                have r81 : lf_R h1 (some 81) [0, 1] = some (some 83) := hc_R (o := some 83) (ar_c R1 C1.1.1) rfl
                rw [cl, j1, rt_R, r81, Option.bind_some, rs_fl R1 r1, Option.bind_some, if_neg (i32_nn (by omega))]
                unfold l130_83
                rw [r81, Option.bind_some, rs_fl R1 r1, Option.bind_some]
              exact entB R I hC hn e0 hD R1 u1 j5 r1 j7 t1 rfq
        · refine thr 15 3 (by decide) (Or.inr (Or.inr ⟨rfl, rfl⟩)) ?_ ?_
          · unfold ll_130
            rw [if_pos (IC_L R I), c81 R C.1, e1]
            show lb_R (rtR (some (94 + 17 * o)) h) _ = _
            rw [rt_R, x1, Option.bind_some, x2, Option.bind_some, l0, e2]
            show lb_R (rtR (some (M 1 ((xS (fX (G o) 0)).getD p 0))) h) _ = _
            rw [rt_R, x1, Option.bind_some, x3, Option.bind_some, l1, e3]
            show lb_R (rtR (some (M 1 ((xS (fX (G o) 1)).getD q 0))) h) _ = _
            rw [rt_R, c91 R (C.2.2.1 o ho) ho h40, if_neg hm]
            exact tw_V
          · have q240' : rf_240 a1 S = some ((1 : Int32), S) := by rw [ea, q240 (RR o ho) Wff, if_neg hm]
            unfold rf_264
            rw [q237, e1, is1, rb_r, if_neg (by decide), q0, e2, is1, rb_r, if_neg (by decide), q1, e3, is1, rb_r, if_neg (by decide), q240', rb_r, if_neg (by decide)]
end EN2
