/-! CALLS put together: print, the end -/
section PRT3
variable {S S' S0 S2 : rs_S} {o k m c y z id b n p q j i : Nat} {T U X Lr Lc Y : List Nat} {M : aM} {A A' A0 A1 A2 : ah} {h h0 h1 : pm_H} {D : aD} {G : Nat → fo} {F : fo} {ts : List (Nat × Int32)} {u : Int64} {w : Option Nat} {a1 a2 a3 : Int32} {yy : pm_C}
theorem CTT_c (R : ar A h) (hS : Sc (rs_setI S 0 0) S') (C : CTT M A D S) : CTT M A D S' := by
  intro i r hi hk
  obtain ⟨h1, h2⟩ := C i r hi hk
  have hf : ∀ a j, a ≤ 20 → S'.2.1 a j = S.2.1 a j := fun a j ha => hS.2.1 a j (by omega)
  rw [hf 10 i (by omega), hf 11 i (by omega)]
  exact ⟨cte_s R st_refl (by intro x hx; cases hx) (fun a j _ _ => hf a j (by omega)) h1, cte_s R st_refl (by intro x hx; cases hx) (fun a j _ _ => hf a j (by omega)) h2⟩
theorem PU_st (R : ar A h) (s : PU A A0) {y : pm_C} {x : Nat} (e : A.1 x = ac_c y) (hx : 178 ≤ x) : A0.1 x = ac_c y := st_c s R e (by intro g; cases g) (by simp; omega)
/-- a content printed on both sides -/
theorem prn (R : ar A h) (W : Wd D) (Wff : Wf D o F) (I : OI D F) (w0 : SW o (xS (fX F 0)) (xS (fX F 1)) S) (hO : OU [] S) {x : Option Nat} {cc : Int32} (C : CTS M A D S x cc) : ∃ Y S', Y.length ≤ 61 ∧ (∀ A0 h0, ar A0 h0 → PU A A0 → WrQ M D o F (fun h => ll_219 w 40 (some 91) x (0 : Int32) h) Y A0) ∧ r302_38 (Int32.ofNat o) cc S = some (Int32.ofNat Y.length, S') ∧ OU Y S' ∧ Spp S S' := by
  rcases C with ⟨e1, e2⟩ | ⟨p, id, fm, ts, e1, e2, e3, e4, e5, e6, e7, e8⟩
  · subst e1
    subst e2
    refine ⟨[], S, Nat.zero_le _, fun A0 h0 R0 s => null_w (by omega), ?_, hO, Spp_refl⟩
    unfold r302_38
    rw [if_neg (by decide)]
    rfl
  · subst e1
    subst e2
    obtain ⟨n, q, X, hX, hn, hh⟩ := PT_X (Lr := xS (fX F 0)) (Lc := xS (fX F 1)) e5
    have hr := (Wff.2.2.2.2.2.2 0 (by omega)).2.2.2.2.2
    have hlen := prX_len hr n q ts X hX
    obtain ⟨S', u1, u2, u3⟩ := q302r w0 W e3 e4 e7 e8 hX (by omega) hO
    refine ⟨if fm = true then 61 :: X else X, S', ?_, fun A0 h0 R0 s => ?_, u1, u2, u3⟩
    · split
      · rw [List.length_cons]; omega
      · omega
    · have hX0 := prX_s R s (fun x hx => by simp at hx; omega) n q ts X hX
      refine c219r W Wff I R0 hX0 hn ?_
      rcases hh with g | ⟨g1, g2, g3⟩
      · exact Or.inl g
      · exact Or.inr ⟨g1, g2, PU_st R s g3 g2⟩
theorem c217t (R : ar A h) (I : IC M A D G S T U u) : (la_ix a1 3 = none → ll_217 w (some 81) a1 a2 a3 h = tw h 14) ∧ ∀ o, la_ix a1 3 = some o → ((la_ix a2 (xS (fX (G o) 0)).length = none ∨ la_ix a3 (xS (fX (G o) 1)).length = none) → ll_217 w (some 81) a1 a2 a3 h = tw h 16) ∧ ∀ p q Y, la_ix a2 (xS (fX (G o) 0)).length = some p → la_ix a3 (xS (fX (G o) 1)).length = some q → Y.length ≤ 61 → (∀ A0 h0, ar A0 h0 → PU A A0 → WrQ M D o (G o) (fun h => ll_219 w 40 (some 91) (cnt D (G o) ((xS (fX (G o) 0)).getD p 0) ((xS (fX (G o) 1)).getD q 0)) (0 : Int32) h) Y A0) → ∃ A' h', ll_217 w (some 81) a1 a2 a3 h = rtI (Int32.ofNat Y.length) h' ∧ ar A' h' ∧ PU A A' ∧ CR A' T Y := by
  have I' := I
  obtain ⟨-, C, B, -, H, RR, -, CT⟩ := I'
  unfold ll_217
  rw [if_pos (IC_L R I), c81 R C.1]
  constructor
  · intro e; rw [e]; exact tw_R
  · intro o e1
    rw [e1]
    obtain ⟨-, ho⟩ := ix_s (by omega) e1
    have Wff := IC_W I o ho
    have W := H.1
    obtain ⟨x1, x2, x3⟩ := ax_rd R (C.2.2.1 o ho)
    obtain ⟨l0, -⟩ := c84p (a2 := a2) R C Wff ho
    obtain ⟨-, l1⟩ := c84p (a2 := a3) R C Wff ho
    show (_ → lb_R (rtR (some (94 + 17 * o)) h) _ = _) ∧ _
    rw [rt_R, x1, Option.bind_some, x2, Option.bind_some, l0]
    constructor
    · intro hh
      cases e2 : la_ix a2 (xS (fX (G o) 0)).length with
      | none => exact tw_R
      | some p =>
        rcases hh with g | g
        · rw [e2] at g; cases g
        · show lb_R (rtR (some (M 1 ((xS (fX (G o) 0)).getD p 0))) h) _ = _
          rw [rt_R, x1, Option.bind_some, x3, Option.bind_some, l1, g]
          exact tw_R
    · intro p q Y e2 e3 hY hX
      have wl0 := (Wff.2.2.2.2.2.2 0 (by omega))
      have wl1 := (Wff.2.2.2.2.2.2 1 (by omega))
      have hp := (ix_s (by have := wl0.2.2.2.2.2; omega) e2).2
      have hq := (ix_s (by have := wl1.2.2.2.2.2; omega) e3).2
      have n1 := wl0.2.1 _ (gl_mem hp)
      have n2 := wl1.2.1 _ (gl_mem hq)
      obtain ⟨A', h', g1, R1, s1, B1⟩ := c218 (w := w) R (CX_of C ho) B hX hY
      have B1' := B1
      obtain ⟨-, -, -, -, -, -, -, ⟨x8, y8, c8⟩, ⟨cap9, c9⟩⟩ := B1'
      have C1 := Cb_st C.1 R s1 (fun x hx => by simp at hx; omega)
      refine ⟨A', h', ?_, R1, s1, B1⟩
      show lb_R (rtR (some (94 + 17 * o)) h) _ = _
      rw [rt_R, x1, Option.bind_some, x2, Option.bind_some, l0, e2]
      show lb_R (rtR (some (M 1 ((xS (fX (G o) 0)).getD p 0))) h) _ = _
      rw [rt_R, x1, Option.bind_some, x3, Option.bind_some, l1, e3]
      show lb_R (rtR (some (M 1 ((xS (fX (G o) 1)).getD q 0))) h) _ = _
      have d3 : lf_R h (some 81) [0, 3] = some (some 91) := hc_R (o := some 91) (ar_c R C.1.1) rfl
      have d3' : lf_R h' (some 81) [0, 3] = some (some 91) := hc_R (o := some 91) (ar_c R1 C1.1) rfl
      have d0' : lf_R h' (some 91) [3, 0] = some (some 92) := hc_R (o := some 92) (ar_c R1 c8) rfl
      have hlc : lc_of h (some 91) = some 3 := by
        obtain ⟨-, -, -, -, -, -, -, ⟨x8, y8, c8⟩, -⟩ := B
        exact hc_lc (ar_c R c8)
      rw [rt_R, d3, Option.bind_some, if_pos (hc_lc (ar_c R (C.2.2.1 o ho).1)), c158 R (C.2.2.1 o ho) C.2.1 W Wff n1 n2, rt_R, x1, Option.bind_some, x2, Option.bind_some, Option.bind_some, x3, Option.bind_some, if_pos hlc, g1, rt_V, d3', Option.bind_some, d0', Option.bind_some, if_pos (sb_lc R1 c9), ll_length R1 c9]
      rfl
theorem sp_print (R : ar A h) (I : IC M A D G S T U u) (hC : CCH D G n S) (hn : n = 120) (e0 : A.1 0 = ac_c yy) : Spv w n M A D G T 216 [.inr (.inr (some 81)), .inl a1, .inl a2, .inl a3, .inr (.inr (some 177))] 302 [.inr (.inr (some 145)), .inl a1, .inl a2, .inl a3] h := by
  obtain ⟨q0, q1⟩ := q280 (a1 := a1) (a2 := a2) (a3 := a3) I.2.2.2.2.2.1 I.2.2.2.2.1.1 I.2.2.2.2.1.2.1 (IC_W I) (fun o ho => (I.2.2.2.2.1.2.2.2.2.2.2.2 o ho).1.2.1) (KRA_of I.2.2.2.2.1.1 I.2.2.2.2.2.2.2) hn hC
  obtain ⟨c0, c1⟩ := c217t (w := w) (a1 := a1) (a2 := a2) (a3 := a3) R I
  have hL := IC_L R I
  have t2 : ∀ {v S'}, rf_302 a1 a2 a3 S = some (v, S') → ∀ h1 : pm_H, 177 ≤ h1.1.length → tx_R w 302 [.inr (.inr (some 145)), .inl a1, .inl a2, .inl a3] (rs_h S h1) (.inl (some (.inl v)), rs_h S' h1) := fun hr h1 hl => tx_l (by decide) (lq_302 (rt_302 hl hr))
  have thr : ∀ ci k, ll_217 w (some 81) a1 a2 a3 h = tw h ci → rf_280 a1 a2 a3 S = some (-1, rs_setI S 0 k) → (k = 1 ∨ k = 2) → ll_216 w (some 81) a1 a2 a3 (some 177) h = some (.inl (some (.inl k)), lf_new h ci 6 []) → Spv w n M A D G T 216 [.inr (.inr (some 81)), .inl a1, .inl a2, .inl a3, .inr (.inr (some 177))] 302 [.inr (.inr (some 145)), .inl a1, .inl a2, .inl a3] h := fun ci k c q hk t1 => spv_t R I hC e0 (by rcases hk with e | e <;> rw [e] <;> decide) (tx_l (by decide) (lq_216 t1)) (t2 (v := 0) (by
      unfold rf_302
      rw [q, rb_r, set0]
      rcases hk with e | e <;> rw [e, if_neg (by decide)]))
  cases e1 : la_ix a1 3 with
  | none =>
    have c := c0 e1
    exact thr 14 1 c (q0 e1) (Or.inl rfl) (by
      unfold ll_216
      rw [if_pos hL, c, lh_It]
      rfl)
  | some o =>
    obtain ⟨c2, c3⟩ := c1 o e1
    obtain ⟨q2, q3⟩ := q1 o e1
    obtain ⟨ea1, ho⟩ := ix_s (by omega) e1
    cases e2 : la_ix a2 (xS (fX (G o) 0)).length with
    | none =>
      have c := c2 (Or.inl e2)
      exact thr 16 2 c (q2 (Or.inl e2)) (Or.inr rfl) (by
        unfold ll_216
        rw [if_pos hL, c, lh_It]
        rfl)
    | some p =>
      cases e3 : la_ix a3 (xS (fX (G o) 1)).length with
      | none =>
        have c := c2 (Or.inr e3)
        exact thr 16 2 c (q2 (Or.inr e3)) (Or.inr rfl) (by
          unfold ll_216
          rw [if_pos hL, c, lh_It]
          rfl)
      | some q =>
        obtain ⟨S', u1, u2, u3, u4⟩ := q3 p q e2 e3
        have Wff := IC_W I o ho
        have W := I.2.2.2.2.1.1
        have OIo := (I.2.2.2.2.1.2.2.2.2.2.2.2 o ho).1.2.1
        have RR := RT_c u2 (RT_0 (v := 0) (I.2.2.2.2.2.1 o ho))
        have wS := SW_of RR W Wff
        obtain ⟨S4, hS4⟩ : ∃ S4, S4 = rs_setI S' 39 0 := ⟨_, rfl⟩
        have hO4 : OU [] S4 := by rw [hS4]; exact ⟨rfl, fun j hj => absurd hj (Nat.not_lt_zero _)⟩
        have w4 : SW o (xS (fX (G o) 0)) (xS (fX (G o) 1)) S4 := by rw [hS4]; exact SW_2 rfl wS
        have s4 : Spp S' S4 := by rw [hS4]; exact Spp_I (Or.inl rfl)
        -- the content
        obtain ⟨cc, hcc, hCT⟩ : ∃ cc, (rb (rf_280 a1 a2 a3 S) fun v1 S2 => if (S2.1 0) ≤ (0 : Int32) then rb_S (rs_setI S2 39 (0 : Int32)) fun S4 => if (0 : Int32) ≤ v1 then rb (rf_285 v1 S4) fun v5 S6 => r302_38 a1 v5 S6 else r302_38 a1 (-1 : Int32) S4 else some ((0 : Int32), S2)) = r302_38 (Int32.ofNat o) cc S4 ∧ CTS M A D S4 (cnt D (G o) ((xS (fX (G o) 0)).getD p 0) ((xS (fX (G o) 1)).getD q 0)) cc := by
          rw [u1, rb_r, show S'.1 0 = 0 from u2.1 0 (by omega) (by omega), if_pos (by decide), rbS_r, ← hS4, ea1]
          cases ef : fnd (clA D (G o) n) 0 ((xS (fX (G o) 0)).getD p 0) ((xS (fX (G o) 1)).getD q 0) with
          | none =>
            refine ⟨-1, by rw [if_neg (by decide)], Or.inl ⟨?_, rfl⟩⟩
            unfold cnt
            cases ew : wtc D (G o) ((xS (fX (G o) 0)).getD p 0) ((xS (fX (G o) 1)).getD q 0) with
            | none => rfl
            | some a =>
              exfalso
              obtain ⟨r, g1, g2, g3, g4, g5⟩ := wtc_r Wff W ew
              have haW : a ∈ fW (G o) := by unfold wtc at ew; exact List.mem_of_find?_eq_some ew
              obtain ⟨f1, f2, -, -⟩ := act_wr W g1 g2
              have hw : wtk D (G o) a = true := by unfold wtk; rw [tkB_t.mpr (OIo.1.2.2 a haW), knd_e g1]; simp [g2]
              have hm := clk_all n 0 [] a (Nat.zero_le _) (by omega) hw
              rw [Option.some.inj (f1.symm.trans g4), Option.some.inj (f2.symm.trans g5)] at hm
              obtain ⟨i, hi⟩ := fnd_some _ 0 _ _ hm
              unfold clA at ef
              rw [hi] at ef
              cases ef
          | some i =>
            have hi := fnd_b ef
            have hl := u4.1.2.1
            have hcs := (fnd_lt _ 0 _ _ i ef).2.2
            rw [Nat.sub_zero] at hcs
            obtain ⟨a, r, g1, g2, g3, g4⟩ := wtc_s RR W Wff OIo (show n ≤ 120 by omega) (gd_mem hi)
            rw [hcs] at g1
            obtain ⟨-, -, -, -, b5⟩ := u4.1.2.2 i hi
            rw [hcs, g1] at b5
            have b5' : S4.2.1 35 i = Int32.ofNat a := by rw [s4.2.1 35 _ (by omega) (by omega) (by omega)]; exact b5
            have hct : CTT M A D S4 := by
              have := CTT_c R u2 I.2.2.2.2.2.2.2
              intro j rj hj hk
              rw [hS4]
              exact this j rj hj hk
            refine ⟨S4.2.1 10 a, ?_, ?_⟩
            · rw [if_pos (show (0 : Int32) ≤ oi (some i) from (i32_len (a := 0) (b := i) (by omega) (by omega)).mpr (Nat.zero_le _)), show oi (some i) = Int32.ofNat i from rfl]
              unfold rf_285
              rw [rdI (n := 120) (by decide) (by omega) (by omega), Option.bind_some, b5', rdI (n := 120) (by decide) g4 (by omega), Option.bind_some, rb_r]
            · have : cnt D (G o) ((xS (fX (G o) 0)).getD p 0) ((xS (fX (G o) 1)).getD q 0) = rct r := by
                unfold cnt
                rw [g1, Option.bind_some, g2, Option.bind_some]
              rw [this]
              exact CTS_of W hct g2 g3
        obtain ⟨Y, S5, y1, y2, y3, y4, y5⟩ := prn (w := w) R W Wff OIo w4 hO4 hCT
        obtain ⟨A1, h1', g1, R1, s1, B1⟩ := c3 p q Y e2 e3 y1 y2
        have hr : rf_302 a1 a2 a3 S = some (Int32.ofNat Y.length, S5) := hcc.trans y3
        have s5 := Spp_tr s4 y5
        have e177 := st_c s1 R I.2.2.2.1 (by intro q; cases q) (by simp)
        obtain ⟨h5, p5, R5⟩ := st_177 (v := (Int32.ofNat Y.length).toInt64) R1 e177
        have s6 := st_set (y := .inr (1, [.long (Int32.ofNat Y.length).toInt64])) e177
        have s16 := st_trans s1 s6
        have hY : ∀ x ∈ [91, 92] ++ [177], (83 ≤ x ∧ x ≤ 92) ∨ x = 177 := by intro x hx; simp at hx; omega
        have f1 := RefC_st I.1 R s1 (by intro x hx; simp at hx; omega)
        have f5 := RefC_st f1 R1 s6 (by intro x hx; simp at hx; omega)
        have c5 := CR_st B1 R1 s6 (by intro x hx; simp at hx; omega)
        have hnn := Nat.le_trans I.2.1.2.2.2 s16.1
        have fS : ∀ a j, a ≤ 20 → S5.2.1 a j = S.2.1 a j := fun a j ha => (s5.2.1 a j (by omega) (by omega) (by omega)).trans (u2.2.1 a j (by omega))
        have hTX : TX T Y S5 := by
          obtain ⟨x1, x2, x3, x4, -⟩ := I.2.2.2.2.2.2.1
          exact ⟨by rw [s5.1 22 (by omega) (by omega), u2.1 22 (by omega) (by omega)]; exact x1, x2, x3, fun j hj => by rw [s5.2.1 21 _ (by omega) (by omega) (by omega), u2.2.1 21 _ (by omega)]; exact x4 j hj, y4.1, by omega, y4.2⟩
        obtain ⟨I6, R6⟩ := IC_c R I R5 s16 hY f5 c5 ah_set_e hTX fS
        have l5 := Lv_st R s16 (by simp)
        have hk0 : S5.1 0 = 0 := by rw [s5.1 0 (by omega) (by omega)]; exact u2.1 0 (by omega) (by omega)
        refine ⟨_, _, S5, Y, _, pO_mk (tx_l (by decide) (lq_216 ?_)) (Lv_h0 R R5 l5 e0) R5 f5 (by omega) (t2 hr h5 (by rw [ar_len R5]; omega)) hk0 ⟨_, rfl, fun _ => ld_177 R6 I6.2.2.2.1⟩, R6, I6, ?_, ?_⟩
        · unfold ll_216
          rw [if_pos hL, g1, lh_Ir, p5]
          rfl
        · exact Lv_w (Lv_tr l5 (Lv_st R5 (ahS_st (S := S5)) (fun hx => by have := rng_m hx; omega))) (by omega) (by omega)
        · exact CCH_1 (by rw [s5.1 31 (by omega) (by omega)]; exact u3) ho (WO_p s5 u4)
end PRT3
