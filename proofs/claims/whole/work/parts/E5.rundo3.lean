/-! UNDO: the reference, where the latest act counts -/
section RU3
variable {D : aD} {G : Nat → fo} {F : fo} {S S' S8 : rs_S} {X : ax} {o i j l k m n c p b kd : Nat} {r r' : rc} {a1 a2 a3 a4 a : Int32} {q : Option Nat} {L : List Nat}
theorem q253f (H : GW D G) (hR : ∀ m, m < 3 → RT D m (G m) S) (e : udc G a1 = .inr o) (hb : b = 40 * o + fK (G o) o - 1) : rf_253 a1 S = rb (rf_254 (Int32.ofNat o) (Int32.ofNat b) (rs_setI S 0 0)) (fun v3 S4 => if v3 = (0 : Int32) then some ((0 : Int32), S4) else some ((1 : Int32), S4)) := by
  obtain ⟨e1, hz, hm⟩ := udc_r e
  obtain ⟨h1, ho⟩ := ix_s (by omega) e1
  have Wo := (H.2.2.2.2.2.2.2 o ho).1.1
  have h40 := Wo.2.1 o
  have hk := (hR o ho).1.2.2.1 o ho
  rw [show 3 * o + o = 4 * o by omega] at hk
  have ii : (((40 : Int32) * Int32.ofNat o) + Int32.ofNat (fK (G o) o)) - (1 : Int32) = Int32.ofNat b := by
    rw [show (40 : Int32) * Int32.ofNat o = Int32.ofNat (40 * o) from i32_ml 40 o, i32_add, hb]
    exact i32_sub (b := 1) (by omega)
  unfold rf_253
  rw [q237, e1]
  try rw [rb_r]
  show (rd_I S 16 ((4 : Int32) * a1)).bind _ = _
  rw [h1, show (4 : Int32) * Int32.ofNat o = Int32.ofNat (4 * o) from i32_ml 4 o, rdI (n := 9) (by decide) (by omega) (by omega), Option.bind_some, hk, if_neg (show ¬ Int32.ofNat (fK (G o) o) = (0 : Int32) from fun y => hz (i32_inj (b := 0) (by omega) (by omega) y)), q240 (hR o ho) Wo, if_pos hm]
  try rw [rb_r]
  show r253_40 (Int32.ofNat o) 0 S = _
  unfold r253_40
  first | rw [rbS_r, set0] | rw [rb_r]
  rw [if_pos rfl, show (4 : Int32) * Int32.ofNat o = Int32.ofNat (4 * o) from i32_ml 4 o, rdI (n := 9) (by decide) (by omega) (by omega), Option.bind_some]
  try rw [rb_r]
  show rb (rf_254 (Int32.ofNat o) ((((40 : Int32) * Int32.ofNat o) + S.2.1 16 (4 * o)) - (1 : Int32)) (rs_setI S 0 0)) _ = _
  rw [hk, ii]
theorem q253n (H : GW D G) (hR : ∀ m, m < 3 → RT D m (G m) S) (e : udc G a1 = .inr o) (hb : b = 40 * o + fK (G o) o - 1) (hc : couB D (G o) b = false) : rf_253 a1 S = some (0, rs_setI S 0 0) := by
  obtain ⟨e1, hz, hm⟩ := udc_r e
  obtain ⟨h1, ho⟩ := ix_s (by omega) e1
  obtain ⟨-, ⟨r, hr⟩, ht⟩ := own_act (b := b) H ho (by omega) (by omega) (by omega)
  obtain ⟨⟨Wo, I, -⟩, -⟩ := H.2.2.2.2.2.2.2 o ho
  obtain ⟨v, g1, g2⟩ := q254c (S := rs_setI S 0 0) (RT_I 0 0 (hR o ho)) H.1 H.2.1 I hr
  rw [q253f H hR e hb, g1]
  unfold r254_59
  rw [if_neg (fun y => by have := g2.mp y; rw [hc] at this; cases this)]
  rfl
/-- the act that takes back, as the reference begins it -/
theorem q254b (H : GW D G) (ho : o < 3) (hm : fK (G o) o < 40) (hi : i = 40 * o + fK (G o) o) (hR0 : ∀ m, m < 3 → RT D m (G m) S) (hb : D b = some r) (hbn : b ≠ i) (hl : S.2.1 5 b = Int32.ofNat l) (hl2 : l < 120) : ∃ S4, rf_246 (Int32.ofNat o) (Int32.ofNat kd) (S.2.1 2 b) (S.2.1 5 b) S = some (Int32.ofNat i, S4) ∧ Sb i S S4 ∧ S4.2.1 1 i = Int32.ofNat kd ∧ S4.2.1 2 i = S.2.1 2 b ∧ S4.2.1 3 i = Int32.ofNat (fC (G o) + 1) ∧ S4.2.1 5 i = Int32.ofNat l ∧ S4.2.1 10 i = -1 ∧ S4.2.1 11 i = -1 ∧ (∀ j, j < 3 → S4.2.1 4 (3 * i + j) = Int32.ofNat (fK (G o) j)) ∧ ∀ a, S4.2.1 a b = if a = 4 then S4.2.1 4 b else S.2.1 a b := by
  obtain ⟨S6, g1, g2, v1, v2, v3, v5, v6, v7, v8, v9, v10, v11, v4⟩ := q246 (kd := kd) (kv := S.2.1 2 b) (ln := some l) (hR0 o ho).1.2.2.1 ho hm (hR0 o ho).2.1 hi (fun x hx => by cases hx; exact hl2)
  have g1' : rf_246 (Int32.ofNat o) (Int32.ofNat kd) (S.2.1 2 b) (S.2.1 5 b) S = some (Int32.ofNat i, S6) := by
    rw [hl]
    exact g1
  refine ⟨S6, g1', g2, v1, v2, v3, v5, v10, v11, v4, fun a => ?_⟩
  by_cases e : a = 4
  · rw [if_pos e, e]
  · rw [if_neg e]
    exact g2.2.2 a b (fun g => hbn g.2.2.2) (fun g => e g.1)
theorem q253s (H : GW D G) (hR : ∀ m, m < 3 → RT D m (G m) S) (e : udc G a1 = .inr o) (hb : b = 40 * o + fK (G o) o - 1) (hi : i = 40 * o + fK (G o) o) (hc : couB D (G o) b = true) (hr : D b = some r) (W' : Wd (up D i (some (tbR D o (G o) b)))) : ∃ S8 S', rf_253 a1 S = some (1, S') ∧ Sb i (rs_setI S 0 0) S8 ∧ (rk r = 6 → S8.2.1 10 i = S.2.1 11 b ∧ S8.2.1 11 i = S.2.1 10 b) ∧ Sk o S8 S' ∧ (∀ m, m < 3 → RT (up D i (some (tbR D o (G o) b))) m (up G o (tkF (up D i (some (tbR D o (G o) b))) (G o) i) m) S') ∧ GW (up D i (some (tbR D o (G o) b))) (up G o (tkF (up D i (some (tbR D o (G o) b))) (G o) i)) := by
  obtain ⟨e1, hz, hm⟩ := udc_r e
  obtain ⟨h1, ho⟩ := ix_s (by omega) e1
  have hb2 : b < 120 := by omega
  obtain ⟨-, -, ht⟩ := own_act (b := b) H ho hb2 (by omega) (by omega)
  obtain ⟨hD, hi2, i1, i2, hnt, hbd⟩ := GW_rdy H ho hm hi
  have H' := GW_mk H ho hm hi W' (new_T H ho hm hi hr ht hc)
  obtain ⟨⟨Wo, I, -⟩, -⟩ := H.2.2.2.2.2.2.2 o ho
  have hR0 : ∀ m, m < 3 → RT D m (G m) (rs_setI S 0 0) := fun m hm => RT_I 0 0 (hR m hm)
  have w1 := H.1 b r hr
  have hbn : b ≠ i := by omega
  obtain ⟨d1, d2, d3, d4, d5, d6, d7, d8, d9⟩ := (hR0 o ho).1.2.1 b r hr
  obtain ⟨v, g1, g2⟩ := q254c (hR0 o ho) H.1 H.2.1 I hr
  have hv := g2.mpr hc
  have hii : up D i (some (tbR D o (G o) b)) i = some (tbR D o (G o) b) := up_e
  have h3 : Int32.ofNat (((fC (G o) + 1) * 3 + o) / 3) = Int32.ofNat (fC (G o) + 1) := by rw [show ((fC (G o) + 1) * 3 + o) / 3 = fC (G o) + 1 by omega]
  have h3m : ((fC (G o) + 1) * 3 + o) % 3 = i / 40 := by omega
  have pre : ∀ S', r254_59 (Int32.ofNat o) (Int32.ofNat b) (Int32.ofNat (rk r)) (Int32.ofNat b) (rs_setI S 0 0) = some (1, S') → rf_253 a1 S = some (1, S') := by
    intro S' hS
    rw [q253f H hR e hb, g1, hv, hS]
    rfl
  by_cases q6 : rk r = 6
  · obtain ⟨f1, f2, f3, f4⟩ := act_w0 H.1 hr q6
    have hrow := LN_lt H.1 f1
    obtain ⟨S4, k1, k2, u1, u2, u3, u5, u10, u11, u4, ub⟩ := q254b (kd := 6) (l := rwo D b) H ho hm hi hR0 hr hbn (d6 q6).1 hrow
    have etb : tbR D o (G o) b = rW o (G o) (rwo D b) (clo D b) ((D b).bind rcb) (cnt D (G o) (rwo D b) (clo D b)) := by
      unfold tbR
      rw [knd_e hr, if_neg (by omega), if_neg (by omega), if_pos q6]
    have erw : rwo (up D i (some (tbR D o (G o) b))) i = rwo D b := by
      show ((up D i (some (tbR D o (G o) b)) i).bind rrw).getD 0 = _
      rw [hii, etb]; rfl
    have ecl : clo (up D i (some (tbR D o (G o) b))) i = clo D b := by
      show ((up D i (some (tbR D o (G o) b)) i).bind rcl).getD 0 = _
      rw [hii, etb]; rfl
    obtain ⟨S8, hS8⟩ : ∃ S8, S8 = rs_setA (rs_setA (rs_setA S4 6 i (Int32.ofNat (clo D b))) 10 i (S.2.1 11 b)) 11 i (S.2.1 10 b) := ⟨_, rfl⟩
    have g8 : Sb i (rs_setI S 0 0) S8 := by
      rw [hS8]
      exact Sb_tr k2 (Sb_tr (Sb_tr (Sb_set (by omega) (by omega) (by omega)) (Sb_set (by omega) (by omega) (by omega))) (Sb_set (by omega) (by omega) (by omega)))
    have hRD : RD (up D i (some (tbR D o (G o) b))) S8 := by
      refine RD_new H.1 (hR0 o ho).1.2.1 hD g8 (Or.inr ?_)
      rw [erw, ecl, etb, hS8]
      refine ⟨?_, ?_, h3m, fun j hj => ?_, fun z => absurd rfl z, fun _ => ⟨?_, ?_⟩, fun z => ?_, fun z => ?_, fun z => ?_⟩
      · rw [set_a (by omega), set_a (by omega), set_a (by omega)]; exact u1
      · rw [set_a (by omega), set_a (by omega), set_a (by omega), u3]; exact h3.symm
      · rw [set_a (by omega), set_a (by omega), set_a (by omega)]; exact u4 j hj
      · rw [set_a (by omega), set_a (by omega), set_a (by omega)]; exact u5
      · rw [set_a (by omega), set_a (by omega), set_e]
      · have z' : 6 ≤ 3 := z; omega
      · have z' : 6 ≤ 2 := z; omega
      · rcases z with z | z
        · have z' : 6 = 2 := z; omega
        · have z' : 6 = 3 := z; omega
    obtain ⟨S', m1, m2, m3⟩ := RT_mk H ho hm hi H' hR0 g8 hRD
    refine ⟨S8, S', pre S' ?_, g8, fun _ => ⟨by rw [hS8, set_a (by omega), set_e], by rw [hS8, set_e]⟩, m3, m2, H'⟩
    have r6 : ∀ T : rs_S, rd_I T 6 (Int32.ofNat b) = some (T.2.1 6 b) := fun T => rdI (n := 120) (by decide) hb2 (by omega)
    unfold r254_59
    rw [if_pos rfl, q6, if_pos (by decide)]
    unfold r254_106
    rw [rdI (n := 120) (by decide) hb2 (by omega), Option.bind_some, rdI (n := 120) (by decide) hb2 (by omega), Option.bind_some]
    have k1' : rf_246 (Int32.ofNat o) (6 : Int32) ((rs_setI S 0 0).2.1 2 b) ((rs_setI S 0 0).2.1 5 b) (rs_setI S 0 0) = some (Int32.ofNat i, S4) := k1
    rw [k1', rb_r, if_pos (by decide), r6, Option.bind_some, ub 6, if_neg (by omega), (d6 q6).2, wrI (n := 120) (by decide) hi2 (by omega), Option.bind_some, rdI (n := 120) (by decide) hb2 (by omega), Option.bind_some, set_a (by omega), ub 11, if_neg (by omega), wrI (n := 120) (by decide) hi2 (by omega), Option.bind_some, rdI (n := 120) (by decide) hb2 (by omega), Option.bind_some, set_i hbn, set_a (by omega), ub 10, if_neg (by omega), wrI (n := 120) (by decide) hi2 (by omega), Option.bind_some]
    have hS8' : rs_setA (rs_setA (rs_setA S4 6 i (Int32.ofNat (clo D b))) 10 i ((rs_setI S 0 0).2.1 11 b)) 11 i ((rs_setI S 0 0).2.1 10 b) = S8 := hS8.symm
    rw [hS8']
    unfold r254_168
    rw [if_neg (by decide), if_neg (by decide)]
    unfold r254_204
    rw [m1]
    rfl
  · obtain ⟨hLN, hrl⟩ := act_l0 H.1 hr q6
    have hl120 := LN_lt H.1 hLN
    by_cases q23 : rk r = 2 ∨ rk r = 3
    · obtain ⟨S4, k1, k2, u1, u2, u3, u5, u10, u11, u4, ub⟩ := q254b (kd := 3) (l := lnp D b) H ho hm hi hR0 hr hbn (d5 q6).1 hl120
      have hpl : plc D (fX (G o) (lkd D (lnp D b))) (lnp D b) = rpl r := by
        have hc' := hc
        unfold couB at hc'
        rw [knd_e hr, if_neg q6, if_neg (by omega)] at hc'
        have hx := of_decide_eq_true hc'
        unfold plc
        rw [hx, Option.bind_some, hr]
        rfl
      have etb : tbR D o (G o) b = rB o (G o) (lnp D b) (rpb r) (rpl r) := by
        unfold tbR
        rw [knd_e hr, if_neg (by omega), if_neg (by omega), if_neg q6, hpl, hr]
        rfl
      have el : lnp (up D i (some (tbR D o (G o) b))) i = lnp D b := by
        show ((up D i (some (tbR D o (G o) b)) i).bind rl).getD 0 = _
        rw [hii, etb]; rfl
      have ek : lkd (up D i (some (tbR D o (G o) b))) (lnp D b) = lkd D (lnp D b) := lkd_u (ne_D hD (LN_AN hLN))
      obtain ⟨S8, hS8⟩ : ∃ S8, S8 = rs_setA (rs_setA S4 7 i (oi (rpb r))) 9 i (oi (rpl r)) := ⟨_, rfl⟩
      have g8 : Sb i (rs_setI S 0 0) S8 := by
        rw [hS8]
        exact Sb_tr k2 (Sb_tr (Sb_set (by omega) (by omega) (by omega)) (Sb_set (by omega) (by omega) (by omega)))
      have hRD : RD (up D i (some (tbR D o (G o) b))) S8 := by
        refine RD_new H.1 (hR0 o ho).1.2.1 hD g8 (Or.inr ?_)
        rw [el, ek, etb, hS8]
        refine ⟨?_, ?_, h3m, fun j hj => ?_, fun _ => ⟨?_, ?_⟩, fun z => ?_, fun _ => ?_, fun z => ?_, fun _ => ?_⟩
        · rw [set_a (by omega), set_a (by omega)]; exact u1
        · rw [set_a (by omega), set_a (by omega), u3]; exact h3.symm
        · rw [set_a (by omega), set_a (by omega)]; exact u4 j hj
        · rw [set_a (by omega), set_a (by omega)]; exact u5
        · rw [set_a (by omega), set_a (by omega), u2]; exact (d5 q6).2
        · have z' : 3 = 6 := z; omega
        · rw [set_a (by omega), set_e]; rfl
        · have z' : 3 ≤ 2 := z; omega
        · rw [set_e]; rfl
      obtain ⟨S', m1, m2, m3⟩ := RT_mk H ho hm hi H' hR0 g8 hRD
      refine ⟨S8, S', pre S' ?_, g8, fun z => absurd z q6, m3, m2, H'⟩
      have h92 : r254_59 (Int32.ofNat o) (Int32.ofNat b) (Int32.ofNat (rk r)) (Int32.ofNat b) (rs_setI S 0 0) = r254_106 (Int32.ofNat o) (Int32.ofNat b) (Int32.ofNat (rk r)) (3 : Int32) (Int32.ofNat o) (rs_setI S 0 0) := by
        unfold r254_59
        rw [if_pos rfl]
        rcases q23 with z | z <;> rw [z] <;> rfl
      have h178 : ∀ T : rs_S, r254_168 (Int32.ofNat o) (Int32.ofNat b) (Int32.ofNat (rk r)) (Int32.ofNat i) T = r254_178 (Int32.ofNat o) (Int32.ofNat b) (Int32.ofNat i) T := by
        intro T
        unfold r254_168
        rcases q23 with z | z <;> rw [z] <;> rfl
      have hn6 : ¬ Int32.ofNat (rk r) = (6 : Int32) := fun y => q6 (i32_inj (b := 6) (by have := w1.2.2.1; omega) (by omega) y)
      rw [h92]
      unfold r254_106
      rw [rdI (n := 120) (by decide) hb2 (by omega), Option.bind_some, rdI (n := 120) (by decide) hb2 (by omega), Option.bind_some]
      have k1' : rf_246 (Int32.ofNat o) (3 : Int32) ((rs_setI S 0 0).2.1 2 b) ((rs_setI S 0 0).2.1 5 b) (rs_setI S 0 0) = some (Int32.ofNat i, S4) := k1
      rw [k1', rb_r, if_neg hn6, h178]
      unfold r254_178
      rw [rdI (n := 120) (by decide) hb2 (by omega), Option.bind_some, ub 9, if_neg (by omega), d9 q23, wrI (n := 120) (by decide) hi2 (by omega), Option.bind_some, rdI (n := 120) (by decide) hb2 (by omega), Option.bind_some, set_i hbn, ub 7, if_neg (by omega), d7 (by omega), wrI (n := 120) (by decide) hi2 (by omega), Option.bind_some, ← hS8]
      unfold r254_204
      rw [m1]
      rfl
    · obtain ⟨kd, hkd⟩ : ∃ kd, kd = if rk r = 5 then 4 else 5 := ⟨_, rfl⟩
      have hkd' : kd = 4 ∨ kd = 5 := by rw [hkd]; split <;> omega
      obtain ⟨S4, k1, k2, u1, u2, u3, u5, u10, u11, u4, ub⟩ := q254b (kd := kd) (l := lnp D b) H ho hm hi hR0 hr hbn (d5 q6).1 hl120
      have etb : tbR D o (G o) b = rG o (G o) kd (lnp D b) := by
        unfold tbR
        rw [knd_e hr, hkd]
        by_cases z5 : rk r = 5
        · rw [if_neg (by omega), if_pos z5, if_pos z5]
        · rw [if_pos (by have := w1.2.1; have := w1.2.2.1; omega), if_neg z5]
      have el : lnp (up D i (some (tbR D o (G o) b))) i = lnp D b := by
        show ((up D i (some (tbR D o (G o) b)) i).bind rl).getD 0 = _
        rw [hii, etb]; rfl
      have ek : lkd (up D i (some (tbR D o (G o) b))) (lnp D b) = lkd D (lnp D b) := lkd_u (ne_D hD (LN_AN hLN))
      have hRD : RD (up D i (some (tbR D o (G o) b))) S4 := by
        refine RD_new H.1 (hR0 o ho).1.2.1 hD k2 (Or.inr ?_)
        rw [el, ek, etb]
        refine ⟨u1, ?_, h3m, u4, fun _ => ⟨u5, ?_⟩, fun z => ?_, fun z => ?_, fun z => ?_, fun z => ?_⟩
        · rw [u3]; exact h3.symm
        · rw [u2]; exact (d5 q6).2
        · have z' : kd = 6 := z; omega
        · have z' : kd ≤ 3 := z; omega
        · have z' : kd ≤ 2 := z; omega
        · rcases z with z | z
          · have z' : kd = 2 := z; omega
          · have z' : kd = 3 := z; omega
      obtain ⟨S', m1, m2, m3⟩ := RT_mk H ho hm hi H' hR0 k2 hRD
      refine ⟨S4, S', pre S' ?_, k2, fun z => absurd z q6, m3, m2, H'⟩
      have hk3 : rk r = 1 ∨ rk r = 4 ∨ rk r = 5 := by have := w1.2.1; have := w1.2.2.1; omega
      have h106 : r254_59 (Int32.ofNat o) (Int32.ofNat b) (Int32.ofNat (rk r)) (Int32.ofNat b) (rs_setI S 0 0) = r254_106 (Int32.ofNat o) (Int32.ofNat b) (Int32.ofNat (rk r)) (Int32.ofNat kd) (Int32.ofNat o) (rs_setI S 0 0) := by
        unfold r254_59
        rw [if_pos rfl, hkd]
        rcases hk3 with z | z | z <;> rw [z] <;> rfl
      have h204 : ∀ T : rs_S, r254_168 (Int32.ofNat o) (Int32.ofNat b) (Int32.ofNat (rk r)) (Int32.ofNat i) T = r254_204 (Int32.ofNat o) (Int32.ofNat i) T := by
        intro T
        unfold r254_168
        rcases hk3 with z | z | z <;> rw [z] <;> rfl
      have hn6 : ¬ Int32.ofNat (rk r) = (6 : Int32) := fun y => q6 (i32_inj (b := 6) (by have := w1.2.2.1; omega) (by omega) y)
      rw [h106]
      unfold r254_106
      rw [rdI (n := 120) (by decide) hb2 (by omega), Option.bind_some, rdI (n := 120) (by decide) hb2 (by omega), Option.bind_some]
      have k1' : rf_246 (Int32.ofNat o) (Int32.ofNat kd) ((rs_setI S 0 0).2.1 2 b) ((rs_setI S 0 0).2.1 5 b) (rs_setI S 0 0) = some (Int32.ofNat i, S4) := k1
      rw [k1', rb_r, if_neg hn6, h204]
      unfold r254_204
      rw [m1]
      rfl
end RU3
