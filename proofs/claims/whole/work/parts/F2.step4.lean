/-! CALLS put together: type, cut -/
section ST4
variable {A A' A1 A2 : ah} {h h' h1 h2 : pm_H} {M M' : aM} {D : aD} {G : Nat → fo} {F : fo} {S S' S8 : rs_S} {T T' U : List Nat} {u v : Int64} {n k o i y1 y2 ci : Nat} {as1 as2 : List tm_V} {w : Option Nat} {r : rc} {y : pm_C} {cmp : Int32 → Option tm_V → pm_H → Prop} {a1 a2 a3 a4 c : Int32} {b : Option tm_V} {Y : List Nat}
theorem RT_f (hf : ∀ a j, a ≤ 20 → S'.2.1 a j = S.2.1 a j) (R : RT D o F S) : RT D o F S' := by
  obtain ⟨⟨a1, a2, a3, a4, a5⟩, b, c, d⟩ := R
  refine ⟨⟨a1, ?_, fun j hj => by rw [hf 16 _ (by omega)]; exact a3 j hj, a4, a5⟩, by rw [hf 17 _ (by omega)]; exact b, fun k hk => ⟨by rw [hf 20 _ (by omega)]; exact (c k hk).1, fun j hj => by rw [hf 19 _ (by omega)]; exact (c k hk).2 j hj⟩, fun j hj => by rw [hf 18 _ (by omega)]; exact d j hj⟩
  intro j q hq
  obtain ⟨d1, d2, d3, d4, d5, d6, d7, d8, d9⟩ := a2 j q hq
  rw [hf 1 _ (by omega), hf 3 _ (by omega), hf 5 _ (by omega), hf 2 _ (by omega), hf 6 _ (by omega), hf 7 _ (by omega), hf 8 _ (by omega), hf 9 _ (by omega)]
  exact ⟨d1, d2, d3, fun m hm => by rw [hf 4 _ (by omega)]; exact d4 m hm, d5, d6, d7, d8, d9⟩
/-- the draft changed on both sides -/
theorem IC_tx (R : ar A h) (I : IC M A D G S T U u) (R2 : ar A2 h2) (s2 : st A A2 Y n k) (hY : ∀ x ∈ Y, x = 84 ∨ x = 177) (hRef : RefC A2 S) (hCR : CR A2 T' U) (e177 : A2.1 177 = ac_c (.inr (1, [.long v]))) (hX : TX T' U S') (hf : ∀ a j, a ≠ 21 → S'.2.1 a j = S.2.1 a j) : IC M (ahS A2 S') D G S' T' U v ∧ ar (ahS A2 S') (rs_h S' h2) := by
  obtain ⟨i1, i2, i3, i4, i5, i6, i7, i8⟩ := I
  have hn := Nat.le_trans i2.2.2.2 s2.1
  have hl2 : 177 ≤ h2.1.length := by rw [ar_len R2]; omega
  have s3 := ahS_st (A := A2) (S := S')
  have s23 := st_trans s2 s3
  have hY2 : ∀ x ∈ Y ++ (List.range 32).map (fun j => 145 + j), x = 84 ∨ (145 ≤ x ∧ x < 178) := by
    intro x hx
    rcases List.mem_append.mp hx with q | q
    · have := hY x q; omega
    · have := rng_m q; omega
  obtain ⟨c1, c2, c3, c4⟩ := i2
  refine ⟨⟨ahS_C, ⟨Cb_st c1 R s23 (fun x hx => by have := hY2 x hx; omega), Cd_st c2 R s23 (fun x hx => by have := hY2 x hx; omega), fun o ho => Cf_st (c3 o ho) R s23 (fun x hx => by have := hY2 x hx; omega), Nat.le_trans c4 s23.1⟩, CR_st hCR R2 s3 (fun x hx => by have := rng_m hx; omega), st_c s3 R2 e177 (by intro q; cases q) (fun hx => by have := rng_m hx; omega), i5, fun o ho => RT_f (fun a j h => hf a j (by omega)) (i6 o ho), hX, ?_⟩, ar_S R2 hRef hl2⟩
  intro j q hq h6
  obtain ⟨g3, g4⟩ := i8 j q hq h6
  rw [hf 10 j (by omega), hf 11 j (by omega)]
  have hS : ∀ a j, 12 ≤ a → a ≤ 15 → S'.2.1 a j = S.2.1 a j := fun a j h1 h2 => hf a j (by omega)
  exact ⟨cte_s R s23 (fun x hx => by have := hY2 x hx; omega) hS g3, cte_s R s23 (fun x hx => by have := hY2 x hx; omega) hS g4⟩
theorem Ch_tx (hf : ∀ a j, a ≠ 21 → S'.2.1 a j = S.2.1 a j) (h2 : S'.2.2 = S.2.2) (h32 : S'.1 32 = S.1 32) (h31 : S'.1 31 = S.1 31) : Ch D G S D G S' := ⟨h2, h32, fun a j _ _ => hf a j (by omega), fun a j _ _ => hf a j (by omega), fun j q hq => ⟨hq, hf 10 j (by omega)⟩, fun p _ e => ⟨by rw [← h31]; exact e, rfl, rfl, rfl⟩⟩
theorem chr_n (a : Int32) : ∃ c, c < 65536 ∧ UInt32.toInt32 (Int32.toUInt32 a % 65536) = Int32.ofNat c := by
  refine ⟨(Int32.toUInt32 a % 65536).toNat, ?_, ?_⟩
  · have : (Int32.toUInt32 a % 65536).toNat = (Int32.toUInt32 a).toNat % 65536 := by
      rw [UInt32.toNat_mod]
      rfl
    omega
  · generalize Int32.toUInt32 a % 65536 = z
    first
    | (have e := UInt32.toInt32_ofNat' (n := z.toNat); rw [UInt32.ofNat_toNat] at e; exact e)
    | (apply Int32.toBitVec_inj.mp; simp [Int32.ofNat])
    | (cases z; rfl)
theorem sp_type (R : ar A h) (I : IC M A D G S T U u) (e0 : A.1 0 = ac_c y) : Spm w pt_cI A D G S T U 15 [.inr (.inr (some 81)), .inl (UInt32.toInt32 (Int32.toUInt32 a1 % 65536)), .inr (.inr (some 177))] 262 [.inr (.inr (some 145)), .inl (UInt32.toInt32 (Int32.toUInt32 a1 % 65536))] h := by
  obtain ⟨c, hc, ec⟩ := chr_n a1
  rw [ec]
  have t2 : ∀ {v S'}, rf_262 (Int32.ofNat c) S = some (v, S') → ∀ h1 : pm_H, 177 ≤ h1.1.length → tx_R w 262 [.inr (.inr (some 145)), .inl (Int32.ofNat c)] (rs_h S h1) (.inl (some (.inl v)), rs_h S' h1) := fun hr h1 hl => tx_l (by decide) (lq_262 (rt_262 hl hr))
  have I' := I
  obtain ⟨i1, hC, i3, i4, H, hR, i7, i8⟩ := I'
  have hT := i7.2.1
  by_cases hr : 32 ≤ c ∧ c ≤ 126
  · obtain ⟨p0, p1⟩ := c16 (w := w) R hC.1 i3 hT hr.1 hr.2
    obtain ⟨q0, q1⟩ := q262 i7 hr.1 hr.2
    by_cases hl : T.length = 20
    · have t1 : ll_15 w (some 81) (Int32.ofNat c) (some 177) h = some (.inl (some (.inl 2)), lf_new h 15 6 []) := by
        unfold ll_15
        rw [if_pos (IC_L R I), p0 hl, lh_It]
        rfl
      exact spm_t R I e0 (tx_l (by decide) (lq_15 t1)) (t2 (q0 hl)) (cI_t (by decide))
    · have hl' : T.length < 20 := by omega
      obtain ⟨A1, h1', g1, R1, c1, s1⟩ := p1 hl'
      obtain ⟨g5, g6⟩ := q1 hl'
      have e177 := st_c s1 R i4 (by intro q; cases q) (by simp)
      obtain ⟨h2, p2, R2⟩ := st_177 (v := (Int32.ofNat (T.length + 1)).toInt64) R1 e177
      have s2 := st_set (y := .inr (1, [.long (Int32.ofNat (T.length + 1)).toInt64])) e177
      have s12 := st_trans s1 s2
      have hY : ∀ x ∈ [84] ++ [177], x = 84 ∨ x = 177 := by intro x hx; simp at hx; omega
      have f1 := RefC_st i1 R s1 (by intro x hx; simp at hx; omega)
      have f2 := RefC_st f1 R1 s2 (by intro x hx; simp at hx; omega)
      have c2 := CR_st c1 R1 s2 (by intro x hx; simp at hx; omega)
      have hn := Nat.le_trans hC.2.2.2 s12.1
      obtain ⟨I3, R3⟩ := IC_tx R I R2 s12 hY f2 c2 ah_set_e g6 (fun a j ha => set_a ha)
      have l2 := Lv_st R s12 (by simp)
      refine ⟨_, _, M, D, G, _, T ++ [c], _, pO_mk (tx_l (by decide) (lq_15 ?_)) (Lv_h0 R R2 l2 e0) R2 f2 (by omega) (t2 g5 h2 (by rw [ar_len R2]; omega)) rfl ⟨_, rfl, fun _ => ld_177 R3 I3.2.2.2.1⟩, R3, I3, Lv_w (Lv_tr l2 (Lv_st R2 ahS_st (fun hx => by have := rng_m hx; omega))) (by omega) (by omega), Ch_tx (fun a j ha => set_a ha) rfl rfl rfl⟩
      unfold ll_15
      rw [if_pos (IC_L R I), g1, lh_Ir, p2]
      rfl
  · have t1 : ll_15 w (some 81) (Int32.ofNat c) (some 177) h = some (.inl (some (.inl 1)), lf_new h 14 6 []) := by
      unfold ll_15
      rw [if_pos (IC_L R I), c16t R hC.1 i3 hT hr hc, lh_It]
      rfl
    exact spm_t R I e0 (tx_l (by decide) (lq_15 t1)) (t2 (q262t hc hr)) (cI_t (by decide))
theorem sp_cut (R : ar A h) (I : IC M A D G S T U u) (e0 : A.1 0 = ac_c y) : Spm w pt_cV A D G S T U 42 [.inr (.inr (some 81)), .inl a1] 263 [.inr (.inr (some 145)), .inl a1] h := by
  have t2 : ∀ {v S'}, rf_263 a1 S = some (v, S') → ∀ h1 : pm_H, 177 ≤ h1.1.length → tx_R w 263 [.inr (.inr (some 145)), .inl a1] (rs_h S h1) (.inl none, rs_h S' h1) := fun hr h1 hl => tx_l (by decide) (lq_263 (rt_263 hl hr))
  have I' := I
  obtain ⟨i1, hC, i3, i4, H, hR, i7, i8⟩ := I'
  have hT := i7.2.1
  obtain ⟨p0, p1⟩ := c43 (w := w) (a := a1) R hC.1 i3 hT
  obtain ⟨q0, q1⟩ := q263 (a := a1) i7
  cases e : la_ix a1 (T.length + 1) with
  | none =>
    obtain ⟨S', g1, g2, g3, g4⟩ := q0 e
    have t1 : ll_42 w (some 81) a1 h = some (.inl (some (.inl 1)), lf_new h 14 6 []) := by
      unfold ll_42
      rw [if_pos (IC_L R I), p0 e, lh_Vt]
      rfl
    obtain ⟨A3, h3, k1, k2, k3, k4⟩ := fin_thr (cmp := pt_cV) R I e0 (tx_l (by decide) (lq_42 t1)) (t2 g1) g3 g2 (g4 22 (by omega)) (g4 39 (by omega)) (fun _ => rfl)
    exact ⟨A3, h3, M, D, G, S', T, u, k1, k2, k3, Lv_w k4 (by omega) (by omega), Ch_tx (fun a j _ => by rw [g3]) (by rw [g3]) (g4 32 (by omega)) (g4 31 (by omega))⟩
  | some n =>
    obtain ⟨S', g1, g2, g3, g4, g5⟩ := q1 n e
    obtain ⟨A1, h1', k1, R1, c1, s1⟩ := p1 n e
    have hn := la_ix_lt e
    have e177 := st_c s1 R i4 (by intro q; cases q) (by simp)
    have f1 := RefC_st i1 R s1 (by intro x hx; simp at hx; omega)
    have hnn := Nat.le_trans hC.2.2.2 s1.1
    have hX : TX (T.take n) U S' := by
      obtain ⟨x1, x2, x3, x4, x5, x6, x7⟩ := i7
      have hlen : (T.take n).length = n := by rw [List.length_take]; omega
      refine ⟨by rw [g4, hlen], by rw [hlen]; omega, fun d hd => x3 d (List.mem_of_mem_take hd), fun j hj => ?_, by rw [g5 39 (by omega) (by omega)]; exact x5, x6, fun j hj => by rw [g3]; exact x7 j hj⟩
      rw [hlen] at hj
      rw [g3, x4 j (by omega)]
      congr 1
      simp [List.getD_eq_getElem?_getD, List.getElem?_take, hj]
    obtain ⟨I3, R3⟩ := IC_tx R I R1 s1 (by intro x hx; simp at hx; omega) f1 c1 e177 hX (fun a j _ => by rw [g3])
    have l1 := Lv_st R s1 (by simp)
    refine ⟨_, _, M, D, G, S', T.take n, u, pO_mk (tx_l (by decide) (lq_42 ?_)) (Lv_h0 R R1 l1 e0) R1 f1 (by omega) (t2 g1 h1' (by rw [ar_len R1]; omega)) g2 rfl, R3, I3, Lv_w (Lv_tr l1 (Lv_st R1 ahS_st (fun hx => by have := rng_m hx; omega))) (by omega) (by omega), Ch_tx (fun a j _ => by rw [g3]) (by rw [g3]) (g5 32 (by omega) (by omega)) (g5 31 (by omega) (by omega))⟩
    unfold ll_42
    rw [if_pos (IC_L R I), k1, lh_Vr]
end ST4
