/-! CALLS put together: undo, deliver, type, cut -/
section ST3
variable {A A' A1 A2 : ah} {h h' h1 h2 : pm_H} {M M' : aM} {D : aD} {G : Nat → fo} {F : fo} {S S' S8 : rs_S} {T T' U : List Nat} {u v : Int64} {n k o i y1 y2 ci : Nat} {as1 as2 : List tm_V} {w : Option Nat} {r : rc} {y : pm_C} {cmp : Int32 → Option tm_V → pm_H → Prop} {a1 a2 a3 a4 c : Int32} {b : Option tm_V} {Y : List Nat}
/-- nothing changed, something laid down -/
theorem spm_r (R : ar A h) (I : IC M A D G S T U u) (e0 : A.1 0 = ac_c y) (t1 : ∀ h5, la_S pt_P h .lastore (some 177) (0 : Int32) (.inr (.inl v)) = some h5 → tx_R w y1 as1 h (.inl (some (.inl 0)), h5)) (t2 : ∀ h1 : pm_H, 177 ≤ h1.1.length → tx_R w y2 as2 (rs_h S h1) (.inl b, rs_h (rs_setI S 0 0) h1)) (hc : ∀ h3, la_J h3 .laload (some 177) 0 = some v → cmp 0 b h3) : Spm w cmp A D G S T U y1 as1 y2 as2 h := by
  obtain ⟨h5, p5, R5⟩ := st_177 (v := v) R I.2.2.2.1
  have I5 := IC_177 (v := v) R I
  have hn := I.2.1.2.2.2
  have s5 := st_set (y := .inr (1, [.long v])) I.2.2.2.1
  have l5 := Lv_st R s5 (by simp)
  have hl5 : 177 ≤ h5.1.length := by rw [ar_len R5]; show 177 ≤ A.2.1; omega
  have R6 := ar_S (S' := rs_setI S 0 0) R5 I5.1 hl5
  have I6 := IC_S (S' := rs_setI S 0 0) R5 I5 rfl rfl rfl
  refine ⟨_, rs_h (rs_setI S 0 0) h5, M, D, G, _, T, v, pO_mk (t1 h5 p5) (Lv_h0 R R5 l5 e0) R5 I5.1 (by show 177 ≤ A.2.1; omega) (t2 _ hl5) rfl (hc _ (ld_177 R6 I6.2.2.2.1)), R6, I6, ?_, Ch_I⟩
  exact Lv_w (Lv_tr l5 (Lv_st R5 (ahS_st (S := rs_setI S 0 0)) (fun hx => by have := rng_m hx; omega))) (by omega) (by omega)
theorem sp_undo (R : ar A h) (I : IC M A D G S T U u) (e0 : A.1 0 = ac_c y) : Spm w pt_cB A D G S T U 161 [.inr (.inr (some 81)), .inl a1, .inr (.inr (some 177))] 253 [.inr (.inr (some 145)), .inl a1] h := by
  have t2 : ∀ {v S'}, rf_253 a1 S = some (v, S') → ∀ h1 : pm_H, 177 ≤ h1.1.length → tx_R w 253 [.inr (.inr (some 145)), .inl a1] (rs_h S h1) (.inl (some (.inl v)), rs_h S' h1) := fun hr h1 hl => tx_l (by decide) (lq_253 (rt_253 hl hr))
  have hC := I.2.1
  have H := I.2.2.2.2.1
  have hR := I.2.2.2.2.2.1
  have hCT := I.2.2.2.2.2.2.2
  cases e : udc G a1 with
  | inl c =>
    have hc3 := udc_c e
    have t1 : ll_161 w (some 81) a1 (some 177) h = some (.inl (some (.inl (Int32.ofNat c))), lf_new h (ecu c) 6 []) := by
      unfold ll_161
      rw [if_pos (IC_L R I), c162t R hC H e, lh_It]
      rcases hc3 with q | q | q <;> rw [q] <;> rfl
    exact spm_t R I e0 (tx_l (by decide) (lq_161 t1)) (t2 (q253t H hR e)) (fun _ => ⟨0, rfl, fun z => absurd z (ofN_ne hc3)⟩)
  | inr o =>
    obtain ⟨e1, hz, hm⟩ := udc_r e
    obtain ⟨-, ho⟩ := ix_s (by omega) e1
    have hD := (GW_rdy H ho hm rfl).1
    obtain ⟨hA, ⟨r, hr⟩, ht⟩ := own_act (b := 40 * o + fK (G o) o - 1) H ho (by omega) (by omega) (by omega)
    obtain ⟨p0, p1⟩ := c162s (w := w) R hC H e rfl (i := 40 * o + fK (G o) o) rfl
    cases hc : couB D (G o) (40 * o + fK (G o) o - 1) with
    | false =>
      have p0 := p0 hc
      refine spm_r (v := 0) R I e0 (fun h5 p5 => tx_l (by decide) (lq_161 ?_)) (t2 (q253n H hR e rfl hc)) (fun h3 z => ⟨0, rfl, fun _ => z⟩)
      unfold ll_161
      rw [if_pos (IC_L R I), p0, lh_Ir, if_pos rfl]
      unfold l161_15
      rw [p5]
      rfl
    | true =>
      obtain ⟨M', A1, h1', p1, R1, C1, s1, W1, g⟩ := p1 hc
      obtain ⟨S8, S', q1, q2, q3, q5, q6, q7⟩ := q253s H hR e rfl rfl hc hr W1
      refine fin_mkI (v := 1) R I e0 ho hD R1 C1 s1 (by omega) (by omega) g q7 q6 q2 q5 (fun z => ?_) (fun h2 p2 => tx_l (by decide) (lq_161 ?_)) (t2 q1) (fun h3 e => ⟨1, rfl, fun _ => e⟩)
      · have w1 := H.1 _ r hr
        have q6' : rk r = 6 := by
          rcases Nat.lt_or_ge (rk r) 6 with hlt | hge
          · exfalso
            unfold tbR at z
            rw [knd_e hr] at z
            by_cases z1 : rk r = 1 ∨ rk r = 4
            · rw [if_pos z1] at z; have z' : 5 = 6 := z; omega
            · rw [if_neg z1] at z
              by_cases z5 : rk r = 5
              · rw [if_pos z5] at z; have z' : 4 = 6 := z; omega
              · rw [if_neg z5, if_neg (by omega)] at z; have z' : 3 = 6 := z; omega
          · have := w1.2.2.1; omega
        have etb : tbR D o (G o) (40 * o + fK (G o) o - 1) = rW o (G o) (rwo D (40 * o + fK (G o) o - 1)) (clo D (40 * o + fK (G o) o - 1)) ((D (40 * o + fK (G o) o - 1)).bind rcb) (cnt D (G o) (rwo D (40 * o + fK (G o) o - 1)) (clo D (40 * o + fK (G o) o - 1))) := by
          unfold tbR
          rw [knd_e hr, if_neg (by omega), if_neg (by omega), if_pos q6']
        have hw : wtc D (G o) (rwo D (40 * o + fK (G o) o - 1)) (clo D (40 * o + fK (G o) o - 1)) = some (40 * o + fK (G o) o - 1) := by
          unfold couB at hc
          rw [knd_e hr, if_pos q6'] at hc
          exact of_decide_eq_true hc
        obtain ⟨g1, g2⟩ := hCT _ r hr q6'
        obtain ⟨g3, g4⟩ := q3 q6'
        refine ⟨_, _, g3, g4, ?_, ?_⟩
        · rw [etb]
          show cte M A D S ((D (40 * o + fK (G o) o - 1)).bind rcb) _
          rw [hr]
          exact g2
        · rw [etb]
          show cte M A D S (cnt D (G o) (rwo D (40 * o + fK (G o) o - 1)) (clo D (40 * o + fK (G o) o - 1))) _
          unfold cnt
          rw [hw, Option.bind_some, hr]
          exact g1
      · unfold ll_161
        rw [if_pos (IC_L R I), p1, lh_Ir, if_neg (by decide)]
        unfold l161_15
        rw [p2]
        rfl
/-! deliver -/
theorem tkW_cK (H : GW D G) : ∀ n F, G1 D G o F → cK F ≤ cK (tkW D n F)
  | 0, F, _ => Nat.le_refl _
  | n + 1, F, I => by
    rw [tkW]
    cases e : fsr D F with
    | none => exact Nat.le_refl _
    | some i =>
      obtain ⟨⟨r, hi⟩, h2, h3, h4, h5⟩ := G1_fsr I e
      have := tkW_cK H n _ (G1_tk H I hi h2 h4 h5)
      rw [cK_tk h2 (H.1 i r hi).1] at this
      show cK F ≤ cK (tkW D n (tkF D F i))
      omega
theorem rcv_same (H : GW D G) (ho : o < 3) (hi : D i = some r) (hno : i / 40 ≠ o) (e : fK (rcv D (G o) i).2 = fK (G o)) : fW (rcv D (G o) i).2 = fW (G o) ∧ fX (rcv D (G o) i).2 = fX (G o) := by
  obtain ⟨I, f0⟩ := H.2.2.2.2.2.2.2 o ho
  have hi120 := (H.1 i r hi).1
  have eK : cK (rcv D (G o) i).2 = cK (G o) := by unfold cK; rw [e]
  unfold rcv at eK ⊢
  by_cases z : fA (G o) i = true
  · rw [if_pos z]; exact ⟨rfl, rfl⟩
  · rw [if_neg z] at eK ⊢
    by_cases z2 : rdy D (G o) i = true
    · exfalso
      rw [if_pos z2] at eK
      have hnt : ¬ tkn (G o) i := fun t => z (I.2.2.1 i hi120 t).1
      have hn : i % 40 = fK (rcA (G o) i) (i / 40) := by
        have h2 : rpa r (i / 40) ≤ fK (G o) (i / 40) := rdy_le hi z2 _ (by omega)
        rw [H.2.2.2.1 i r hi] at h2
        unfold tkn at hnt
        show i % 40 = fK (G o) (i / 40)
        omega
      have IT := G1_tk H (G1_rcA I hi hno) hi hn (show rdy D (rcA (G o) i) i = true from z2) hno
      have h3 := tkW_cK H 120 _ IT
      rw [cK_tk hn hi120] at h3
      have h4 : cK (rcA (G o) i) = cK (G o) := rfl
      have eK' : cK (tkW D 120 (tkF D (rcA (G o) i) i)) = cK (G o) := eK
      omega
    · rw [if_neg z2]; exact ⟨rfl, rfl⟩
theorem ddc_c {c : Nat} (e : ddc G a1 a2 a3 = .inl c) : c = 1 := by
  unfold ddc at e
  cases e1 : la_ix a1 3 with
  | none => rw [e1] at e; cases e; rfl
  | some o' =>
    rw [e1] at e
    cases e2 : la_ix a2 3 with
    | none => simp only [Option.elim_some, e2, Option.elim_none] at e; cases e; rfl
    | some m' =>
      simp only [Option.elim_some, e2] at e
      by_cases z : o' = m'
      · rw [if_pos z] at e; cases e; rfl
      · rw [if_neg z] at e
        cases e3 : la_ix a3 (fK (G m') m' + 1) with
        | none => simp only [e3, Option.elim_none] at e; cases e; rfl
        | some n' =>
          simp only [e3, Option.elim_some] at e
          by_cases z2 : n' = 0
          · rw [if_pos z2] at e; cases e; rfl
          · rw [if_neg z2] at e; cases e
theorem sp_deliver (R : ar A h) (I : IC M A D G S T U u) (e0 : A.1 0 = ac_c y) : Spm w pt_cI A D G S T U 168 [.inr (.inr (some 81)), .inl a1, .inl a2, .inl a3, .inr (.inr (some 177))] 256 [.inr (.inr (some 145)), .inl a1, .inl a2, .inl a3] h := by
  have t2 : ∀ {v S'}, rf_256 a1 a2 a3 S = some (v, S') → ∀ h1 : pm_H, 177 ≤ h1.1.length → tx_R w 256 [.inr (.inr (some 145)), .inl a1, .inl a2, .inl a3] (rs_h S h1) (.inl (some (.inl v)), rs_h S' h1) := fun hr h1 hl => tx_l (by decide) (lq_256 (rt_256 hl hr))
  have I' := I
  obtain ⟨i1, hC, i3, i4, H, hR, i7, i8⟩ := I'
  cases e : ddc G a1 a2 a3 with
  | inl c =>
    have t1 : ll_168 w (some 81) a1 a2 a3 (some 177) h = some (.inl (some (.inl 1)), lf_new h 14 6 []) := by
      unfold ll_168
      rw [if_pos (IC_L R I), c169t R hC H e, lh_It]
      rfl
    exact spm_t R I e0 (tx_l (by decide) (lq_168 t1)) (t2 (q256t' H hR e)) (cI_t (by decide))
  | inr x =>
    obtain ⟨o, m, nn⟩ := x
    obtain ⟨e1, e2, hne, e3, hn0⟩ := ddc_r e
    obtain ⟨-, ho⟩ := ix_s (by omega) e1
    obtain ⟨-, hm⟩ := ix_s (by omega) e2
    have h40 := (H.2.2.2.2.2.2.2 m hm).1.1.2.1 m
    have hnn := la_ix_lt e3
    obtain ⟨ii, hii⟩ : ∃ ii, ii = 40 * m + nn - 1 := ⟨_, rfl⟩
    obtain ⟨-, ⟨r, hr⟩, -⟩ := own_act (b := ii) H hm (by omega) (by omega) (by omega)
    obtain ⟨A1, h1', p1, R1, C1, s1⟩ := c169s (w := w) R hC H e hii
    obtain ⟨S', q1, q2, q3, q4⟩ := q256s H hR e hii
    have hno : ii / 40 ≠ o := by omega
    have H' := GW_rc H ho hr hno
    have hb : ∀ x ∈ blk o, 94 ≤ x ∧ x < 145 := fun x hx => by rw [blk_m] at hx; omega
    have e177 := st_c s1 R i4 (by intro q; cases q) (fun z => by have := hb _ z; omega)
    obtain ⟨A2, h2, p2, R2, s2, f177, f2, c2, w2⟩ := C177 (v := (Int32.ofNat (rcv D (G o) ii).1).toInt64) R1 e177 (RefC_st i1 R s1 (fun x hx => by have := hb x hx; omega)) (CR_st i3 R s1 (fun x hx => by have := hb x hx; omega)) C1
    have s12 := st_trans s1 s2
    have hl2 : 177 ≤ A2.2.1 := by have := w2.2.2.2; omega
    have hl2' : 177 ≤ h2.1.length := by rw [ar_len R2]; exact hl2
    have R3 := ar_S (S' := S') R2 f2 hl2'
    have s3 := ahS_st (A := A2) (S := S')
    have s23 := st_trans s12 s3
    have hY : ∀ x ∈ (blk o ++ [177]) ++ (List.range 32).map (fun j => 145 + j), 94 ≤ x ∧ x < 178 := by
      intro x hx
      rcases List.mem_append.mp hx with q | q
      · rcases List.mem_append.mp q with q | q
        · have := hb x q; omega
        · have := List.mem_singleton.mp q; omega
      · have := rng_m q; omega
    obtain ⟨r1, r2, r3, r4⟩ := q3
    have fr : ∀ a j, a ≠ 16 → a ≠ 17 → a ≠ 18 → a ≠ 19 → a ≠ 20 → S'.2.1 a j = S.2.1 a j := fun a j n1 n2 n3 n4 n5 => r4 a j (fun e => n1 e.1) (fun e => n2 e.1) (fun e => n3 e.1) (fun e => n5 e.1) (fun e => n4 e.1)
    have fi : ∀ a, a ≠ 0 → a ≠ 31 → S'.1 a = S.1 a := fun a n0 n31 => (r2 a n31).trans (if_neg n0)
    have f0 : S'.1 0 = 0 := r2 0 (by omega)
    have f31 : S'.1 31 = S.1 31 ∨ S'.1 31 = -1 := r3
    have I3 : IC M (ahS A2 S') D (up G o (rcv D (G o) ii).2) S' T U (Int32.ofNat (rcv D (G o) ii).1).toInt64 := by
      refine ⟨ahS_C, CW_st w2 R2 s3 (fun x hx => by have := rng_m hx; omega), CR_st c2 R2 s3 (fun x hx => by have := rng_m hx; omega), st_c s3 R2 f177 (by intro q; cases q) (fun hx => by have := rng_m hx; omega), H', q2, ?_, ?_⟩
      · obtain ⟨x1, x2, x3, x4, x5, x6, x7⟩ := i7
        exact ⟨by rw [fi 22 (by omega) (by omega)]; exact x1, x2, x3, fun j hj => by rw [fr 21 j (by omega) (by omega) (by omega) (by omega) (by omega)]; exact x4 j hj, by rw [fi 39 (by omega) (by omega)]; exact x5, x6, fun j hj => by rw [fr 40 j (by omega) (by omega) (by omega) (by omega) (by omega)]; exact x7 j hj⟩
      · intro j q hq h6
        obtain ⟨g3, g4⟩ := i8 j q hq h6
        rw [fr 10 j (by omega) (by omega) (by omega) (by omega) (by omega), fr 11 j (by omega) (by omega) (by omega) (by omega) (by omega)]
        have hS : ∀ a j, 12 ≤ a → a ≤ 15 → S'.2.1 a j = S.2.1 a j := fun a j h1 h2 => fr a j (by omega) (by omega) (by omega) (by omega) (by omega)
        exact ⟨cte_s R s23 (fun x hx => by have := hY x hx; omega) hS g3, cte_s R s23 (fun x hx => by have := hY x hx; omega) hS g4⟩
    have l2 := Lv_st R s12 (fun z => by have := hY 0 (List.mem_append_left _ z); omega)
    refine ⟨_, rs_h S' h2, M, D, _, S', T, _, pO_mk (tx_l (by decide) (lq_168 ?_)) (Lv_h0 R R2 l2 e0) R2 f2 hl2 (t2 q1 h2 hl2') f0 ⟨_, rfl, fun _ => ld_177 R3 I3.2.2.2.1⟩, R3, I3, Lv_w (Lv_tr l2 (Lv_st R2 s3 (fun hx => by have := rng_m hx; omega))) (by omega) (by omega), ⟨r1, fi 32 (by omega) (by omega), fun a j h1 h2 => fr a j (by omega) (by omega) (by omega) (by omega) (by omega), fun a j h1 h2 => fr a j (by omega) (by omega) (by omega) (by omega) (by omega), fun j q hq => ⟨hq, fr 10 j (by omega) (by omega) (by omega) (by omega) (by omega)⟩, fun p hp e31 => ?_⟩⟩
    · unfold ll_168
      rw [if_pos (IC_L R I), p1, lh_Ir, p2]
      rfl
    · have ne : (-1 : Int32) ≠ Int32.ofNat p := fun e => i32_lt p (by omega) (by rw [← e]; decide)
      have hS31 : S.1 31 = Int32.ofNat p := by
        rcases f31 with q | q
        · rw [← q]; exact e31
        · rw [q] at e31; exact absurd e31 ne
      refine ⟨hS31, ?_⟩
      by_cases ep : p = o
      · subst ep
        rw [up_e]
        rcases q4 with q | q
        · exact ⟨q, rcv_same H hp hr hno q⟩
        · exact absurd e31 q
      · rw [up_n ep]
        exact ⟨rfl, rfl, rfl⟩
end ST3
