/-! ENTER put together -/
section ENT
variable {A A' A1 A2 Ar : ah} {h h1 hr : pm_H} {M M' : aM} {D D' : aD} {G : Nat → fo} {F : fo} {S S' S8 Sr : rs_S} {T U : List Nat} {u : Int64} {o i j l k m n c p q y z id t f : Nat} {r : rc} {a1 a2 a3 a x5 v fl : Int32} {x : Option Nat} {cc : Int32} {w : Option Nat} {yy : pm_C} {Y : List Nat}
theorem CR_r {b d : Nat} (R : ar A h) (C : CR A T U) (s : RU A A' c) (rs : RS T k t fl b d A') : CR A' T U := by
  obtain ⟨-, -, -, ⟨v4, x4, y4, b4, c4⟩, ⟨f5, c5⟩, ⟨f6, c6⟩, ⟨f7, c7⟩, ⟨x8, y8, c8⟩, ⟨cap9, c9⟩⟩ := C
  obtain ⟨r1, r2, f, r3, -⟩ := rs
  exact ⟨⟨Int32.ofNat k, Int32.ofNat t, fl, some b, some d, r1⟩, r2, ⟨f, r3⟩, ⟨v4, x4, y4, b4, st_c s R c4 (by intro q; cases q) (by simp)⟩, ⟨f5, st_c s R c5 (by intro q; cases q) (by simp)⟩, ⟨f6, st_c s R c6 (by intro q; cases q) (by simp)⟩, ⟨f7, st_c s R c7 (by intro q; cases q) (by simp)⟩, ⟨x8, y8, st_c s R c8 (by intro q; cases q) (by simp)⟩, ⟨cap9, st_c s R c9 (by intro q; cases q) (by simp)⟩⟩
theorem CW_r (R : ar A h) (C : CW M A D G) (s : RU A A' c) : CW M A' D G := by
  obtain ⟨c1, c2, c3, c4⟩ := C
  exact ⟨Cb_st c1 R s (fun x hx => by simp at hx; omega), Cd_st c2 R s (fun x hx => by simp at hx; omega), fun o ho => Cf_st (c3 o ho) R s (fun x hx => by simp at hx; omega), Nat.le_trans c4 s.1⟩
theorem KA_E {a : Nat} (C : cte M A D S x (S.2.1 10 a)) (h10 : S'.2.1 10 a = S.2.1 10 a) (hid : ∀ id, AN D id → id < 120) (hS : ∀ id, AN D id → S'.2.1 12 id = S.2.1 12 id ∧ S'.2.1 13 id = S.2.1 13 id ∧ ∀ j, j < 20 → S'.2.1 14 (20 * id + j) = S.2.1 14 (20 * id + j) ∧ S'.2.1 15 (20 * id + j) = S.2.1 15 (20 * id + j)) : KA S' a = KA S a := by
  unfold KA
  rw [h10]
  rcases C with ⟨-, e⟩ | ⟨p, id, ts, e1, e2, e3, e4, e5, -⟩
  · rw [if_pos e, if_pos e]
  · have h120 := hid id e2
    obtain ⟨s1, s2, s3⟩ := hS id e2
    have ne : ¬ S.2.1 10 a = -1 := by rw [e3]; exact i32_nn (by omega)
    rw [if_neg ne, if_neg ne, e3, i32_tn (by omega)]
    unfold rowK
    rw [s1, s2, e5, i32_tn (by omega)]
    congr 2
    exact List.map_congr_left (fun j hj => by
      have hj := List.mem_range.mp hj
      rw [(s3 j (by omega)).1, (s3 j (by omega)).2])
theorem TX_q (h : Rq i (rs_setI S 0 0) S') (X : TX T U S) : TX T U S' := by
  obtain ⟨x1, x2, x3, x4, x5, x6, x7⟩ := X
  exact ⟨by rw [h.1 22 (by omega)]; exact x1, x2, x3, fun j hj => by rw [h.2.2 21 j (by omega) (by omega) (by omega)]; exact x4 j hj, by rw [h.1 39 (by omega)]; exact x5, x6, fun j hj => by rw [h.2.2 40 j (by omega) (by omega) (by omega)]; exact x7 j hj⟩
/-- nothing is made -/
theorem entB {b d : Nat} (R : ar A h) (I : IC M A D G S T U u) (hC : CCH D G n S) (hn : n = 120) (e0 : A.1 0 = ac_c yy) (hD : D i = none) (Rr : ar Ar hr) (su : RU A Ar c) (hc : c ≤ 70) (rs : RS T k t (Int32.ofNat f) b d Ar) (hq : Rq i (rs_setI S 0 0) Sr) (t1 : ll_130 w (some 81) a1 a2 a3 h = rtI (Int32.ofNat f) hr) (t2 : rf_264 a1 a2 a3 S = some (Int32.ofNat f, Sr)) : Nx w n A pt_cI 129 [.inr (.inr (some 81)), .inl a1, .inl a2, .inl a3, .inr (.inr (some 177))] 264 [.inr (.inr (some 145)), .inl a1, .inl a2, .inl a3] h := by
  have I' := I
  obtain ⟨i1, i2, i3, i4, i5, i6, i7, i8⟩ := I'
  have e177 := st_c su R i4 (by intro q; cases q) (by simp)
  obtain ⟨A2, h2, p2, R2, s2, e2, f2, c2, w2⟩ := C177 (v := (Int32.ofNat f).toInt64) Rr e177 (RefC_st i1 R su (fun x hx => by simp at hx; omega)) (CR_r R i3 su rs) (CW_r R i2 su)
  have s12 := st_trans su s2
  have s3 := ahS_st (A := A2) (S := Sr)
  have s123 := st_trans s12 s3
  have hl2 : 177 ≤ A2.2.1 := by have := w2.2.2.2; omega
  have R3 := ar_S (S' := Sr) R2 f2 (by rw [ar_len R2]; exact hl2)
  have hY : ∀ x ∈ ([83, 86] ++ [177]) ++ (List.range 32).map (fun j => 145 + j), 82 < x ∧ x < 178 := by
    intro x hx
    rcases List.mem_append.mp hx with q | q
    · simp at q; omega
    · have := rng_m q; omega
  have hrow : ∀ id, AN D id → Sr.2.1 12 id = S.2.1 12 id ∧ Sr.2.1 13 id = S.2.1 13 id ∧ ∀ j, j < 20 → Sr.2.1 14 (20 * id + j) = S.2.1 14 (20 * id + j) ∧ Sr.2.1 15 (20 * id + j) = S.2.1 15 (20 * id + j) := fun id hid => by
    have := Rq_row hq hD hid
    exact this
  have h10 : ∀ a j, a ≤ 11 → Sr.2.1 a j = S.2.1 a j := fun a j ha => hq.2.2 a j (by omega) (by omega) (by omega)
  have I3 : IC M (ahS A2 Sr) D G Sr T U (Int32.ofNat f).toInt64 := by
    refine ⟨ahS_C, CW_st w2 R2 s3 (fun x hx => by have := rng_m hx; omega), CR_st c2 R2 s3 (fun x hx => by have := rng_m hx; omega), st_c s3 R2 e2 (by intro q; cases q) (fun hx => by have := rng_m hx; omega), i5, fun m hm => RT_q (fun a j ha => hq.2.2 a j (by omega) (by omega) (by omega)) (i6 m hm), TX_q hq i7, ?_⟩
    intro j rj hj h6
    obtain ⟨g3, g4⟩ := i8 j rj hj h6
    rw [h10 10 j (by omega), h10 11 j (by omega)]
    have tr : ∀ n p ts, prt M A D n p ts → prt M (ahS A2 Sr) D n p ts := fun n p ts hp => prt_s R s123 (fun x hx => (hY x hx).2) n p ts hp
    have cl : ∀ p y, 178 ≤ p → A.1 p = ac_c y → (ahS A2 Sr).1 p = ac_c y := fun p y hp e => st_c s123 R e (by intro q; cases q) (fun z => by have := hY p z; omega)
    exact ⟨cte_E g3 (fun _ z => z) tr cl hrow, cte_E g4 (fun _ z => z) tr cl hrow⟩
  have l2 := Lv_st R s12 (by simp)
  have t1' : ll_129 w (some 81) a1 a2 a3 (some 177) h = some (.inl (some (.inl 0)), h2) := by
    unfold ll_129
    rw [if_pos (IC_L R I), t1, lh_Ir, p2]
    rfl
  refine ⟨ahS A2 Sr, rs_h Sr h2, M, D, G, Sr, T, U, (Int32.ofNat f).toInt64, pO_mk (k := 0) (tx_l (by decide) (lq_129 t1')) (Lv_h0 R R2 l2 e0) R2 f2 hl2 (tx_l (by decide) (lq_264 (rt_264 (by rw [ar_len R2]; exact hl2) t2))) (hq.1 0 (by omega)) ⟨_, rfl, fun _ => ld_177 R3 I3.2.2.2.1⟩, R3, I3, Lv_w (Lv_tr l2 (Lv_st R2 s3 (fun hx => by have := rng_m hx; omega))) (by omega) (by omega), ?_⟩
  refine CCH_g hC (by omega) i6 (IC_W I) hq.2.1 (hq.1 32 (by omega)) (fun a j g1 g2 => hq.2.2 a j (by omega) (by omega) (by omega)) (fun _ _ z => z) (fun j rj hj h6 => KA_E (i8 j rj hj h6).1 (h10 10 j (by omega)) (fun id hid => by obtain ⟨r', hr'⟩ := hid; exact (i5.1 id r' hr').1) hrow) (fun p hp e => ?_)
  rw [hq.1 31 (by omega)] at e
  exact ⟨e, rfl, rfl, rfl⟩
/-- a write is made -/
theorem entW {b d : Nat} (R : ar A h) (I : IC M A D G S T U u) (hC : CCH D G n S) (hn : n = 120) (e0 : A.1 0 = ac_c yy) (ho : o < 3) (hm : fK (G o) o < 40) (hi : i = 40 * o + fK (G o) o) (hp : p < (xS (fX (G o) 0)).length) (hqq : q < (xS (fX (G o) 1)).length) (Rr : ar Ar hr) (su : RU A Ar c) (hc : c ≤ 70) (rs : RS T k t (-1) b d Ar) (hq : Rq i (rs_setI S 0 0) Sr) (hx : (x = none ∧ Sr.1 22 ≤ (0 : Int32)) ∨ ∃ p, x = some p ∧ ¬ Sr.1 22 ≤ (0 : Int32) ∧ CNT M Ar D i Sr p) (t1 : ll_130 w (some 81) a1 a2 a3 h = lb_V (ll_157 w (some (94 + 17 * o)) (some (M 1 ((xS (fX (G o) 0)).getD p 0))) (some (M 1 ((xS (fX (G o) 1)).getD q 0))) x hr) (fun h31 => l130_83 w (some 81) h31)) (t2 : rf_264 a1 a2 a3 S = r264_102 (Int32.ofNat o) (Int32.ofNat p) (Int32.ofNat q) (Int32.ofNat i) Sr) : Nx w n A pt_cI 129 [.inr (.inr (some 81)), .inl a1, .inl a2, .inl a3, .inr (.inr (some 177))] 264 [.inr (.inr (some 145)), .inl a1, .inl a2, .inl a3] h := by
  have I' := I
  obtain ⟨i1, i2, i3, i4, i5, i6, i7, i8⟩ := I'
  have H := i5
  obtain ⟨hD, hi2, -, -, -, -⟩ := GW_rdy H ho hm hi
  obtain ⟨⟨Wo, OIo, -⟩, -⟩ := H.2.2.2.2.2.2.2 o ho
  have Wr := CW_r R i2 su
  have Cr := CR_r R i3 su rs
  have hrd := Rdy_of H ho hm
  rw [← hi] at hrd
  obtain ⟨y1, y2, y3, y4, -⟩ := shn_t OIo H.1 (show 0 < 2 by omega) (gl_mem hp)
  obtain ⟨z1, z2, z3, z4, -⟩ := shn_t OIo H.1 (show 1 < 2 by omega) (gl_mem hqq)
  have K := c157 (w := w) (ct := x) Rr Wr.1 (Wr.2.2.1 o ho) Wr.2.1 H.1 Wo Wr.2.2.2 hrd y1 z1 (ord_120 H ho hm).2
  obtain ⟨M', A1, h1, k1, R1, C1, s1, W1, g⟩ := CW_mk Wr H Rr ho hD K
  have hb : ∀ x ∈ blk o, 94 ≤ x ∧ x < 145 := fun x hx => by rw [blk_m] at hx; omega
  have hRr : ∀ m, m < 3 → RT D m (G m) Sr := fun m hm => RT_q (fun a j ha => hq.2.2 a j (by omega) (by omega) (by omega)) (i6 m hm)
  obtain ⟨S8, S', q1, q2, q3, q4, q5, q6, q7⟩ := q264w (x5 := Int32.ofNat i) H ho hm hi hRr hp hqq rfl rfl rfl W1
  have e83 : A1.1 83 = ac_c (cl83 k t (-1) b d) := st_c s1 Rr rs.1 (by intro q; cases q) (fun z => by have := hb _ z; omega)
  have e177 : A1.1 177 = _ := st_c s1 Rr (st_c su R i4 (by intro q; cases q) (by simp)) (by intro q; cases q) (fun z => by have := hb _ z; omega)
  obtain ⟨A2, h2, p2, R2, s2, e2, f2, c2, w2⟩ := C177 (v := (-1 : Int32).toInt64) R1 e177 (RefC_st (RefC_st i1 R su (fun x hx => by simp at hx; omega)) Rr s1 (fun x hx => by have := hb x hx; omega)) (CR_st Cr Rr s1 (fun x hx => by have := hb x hx; omega)) C1
  have sr2 := st_trans s1 s2
  have s12 := st_trans su sr2
  have s3 := ahS_st (A := A2) (S := S')
  have sr3 := st_trans sr2 s3
  have hl2 : 177 ≤ A2.2.1 := by have := w2.2.2.2; omega
  have R3 := ar_S (S' := S') R2 f2 (by rw [ar_len R2]; exact hl2)
  have hY : ∀ x ∈ (blk o ++ [177]) ++ (List.range 32).map (fun j => 145 + j), 82 < x ∧ x < 178 := by
    intro x hx
    rcases List.mem_append.mp hx with q | q
    · rcases List.mem_append.mp q with q | q
      · have := hb x q; omega
      · simp at q; omega
    · have := rng_m q; omega
  have SS : ∀ a j, 12 ≤ a → a ≠ 16 → a ≠ 17 → a ≠ 19 → a ≠ 20 → S'.2.1 a j = Sr.2.1 a j := fun a j h12 n1 n2 n3 n4 => by
    rw [q5.2.2.2 a j (fun e => n1 e.1) (fun e => n2 e.1) (fun e => n4 e.1) (fun e => n3 e.1), q2.2.2 a j (fun e => by have := e.2.1; omega) (fun e => by have := e.1; omega)]
  have S10 : ∀ a j, 10 ≤ a → a ≤ 11 → j ≠ i → S'.2.1 a j = S.2.1 a j := fun a j g1 g2 hj => by
    rw [q5.2.2.2 a j (fun e => by have := e.1; omega) (fun e => by have := e.1; omega) (fun e => by have := e.1; omega) (fun e => by have := e.1; omega), q2.2.2 a j (fun e => hj e.2.2.2) (fun e => by have := e.1; omega)]
    exact hq.2.2 a j (by omega) (by omega) (by omega)
  have S1 : ∀ a, a ≠ 31 → S'.1 a = Sr.1 a := fun a ha => by rw [q5.2.1 a ha, q2.1]
  have hrow : ∀ id, AN D id → S'.2.1 12 id = S.2.1 12 id ∧ S'.2.1 13 id = S.2.1 13 id ∧ ∀ j, j < 20 → S'.2.1 14 (20 * id + j) = S.2.1 14 (20 * id + j) ∧ S'.2.1 15 (20 * id + j) = S.2.1 15 (20 * id + j) := fun id hid => by
    obtain ⟨r1, r2, r3⟩ := Rq_row hq hD hid
    refine ⟨(SS 12 id (by omega) (by omega) (by omega) (by omega) (by omega)).trans r1, (SS 13 id (by omega) (by omega) (by omega) (by omega) (by omega)).trans r2, fun j hj => ⟨(SS 14 _ (by omega) (by omega) (by omega) (by omega) (by omega)).trans (r3 j hj).1, (SS 15 _ (by omega) (by omega) (by omega) (by omega) (by omega)).trans (r3 j hj).2⟩⟩
  have trr : ∀ n p ts, prt M Ar D n p ts → prt M' (ahS A2 S') (up D i (some (rW o (G o) ((xS (fX (G o) 0)).getD p 0) ((xS (fX (G o) 1)).getD q 0) x (cnt D (G o) ((xS (fX (G o) 0)).getD p 0) ((xS (fX (G o) 1)).getD q 0))))) n p ts → True := fun _ _ _ _ _ => trivial
  have TR : ∀ nn pp ts, prt M Ar D nn pp ts → prt M' (ahS A2 S') (up D i (some (rW o (G o) ((xS (fX (G o) 0)).getD p 0) ((xS (fX (G o) 1)).getD q 0) x (cnt D (G o) ((xS (fX (G o) 0)).getD p 0) ((xS (fX (G o) 1)).getD q 0))))) nn pp ts := fun nn pp ts hpp => prt_k Rr sr3 (fun x hx => (hY x hx).2) g hD nn pp ts hpp
  have CLr : ∀ pp y, 178 ≤ pp → Ar.1 pp = ac_c y → (ahS A2 S').1 pp = ac_c y := fun pp y hpp e => st_c sr3 Rr e (by intro q; cases q) (fun z => by have := hY pp z; omega)
  have TA : ∀ nn pp ts, prt M A D nn pp ts → prt M' (ahS A2 S') (up D i (some (rW o (G o) ((xS (fX (G o) 0)).getD p 0) ((xS (fX (G o) 1)).getD q 0) x (cnt D (G o) ((xS (fX (G o) 0)).getD p 0) ((xS (fX (G o) 1)).getD q 0))))) nn pp ts := fun nn pp ts hpp => TR nn pp ts (prt_u R su hpp)
  have CLA : ∀ pp y, 178 ≤ pp → A.1 pp = ac_c y → (ahS A2 S').1 pp = ac_c y := fun pp y hpp e => CLr pp y hpp (st_c su R e (by intro q; cases q) (by simp; omega))
  have ANu : ∀ id, AN D id → AN (up D i (some (rW o (G o) ((xS (fX (G o) 0)).getD p 0) ((xS (fX (G o) 1)).getD q 0) x (cnt D (G o) ((xS (fX (G o) 0)).getD p 0) ((xS (fX (G o) 1)).getD q 0))))) id := fun id hid => AN_up hD hid
  have old : ∀ x c, cte M A D S x c → cte M' (ahS A2 S') (up D i (some (rW o (G o) ((xS (fX (G o) 0)).getD p 0) ((xS (fX (G o) 1)).getD q 0) x (cnt D (G o) ((xS (fX (G o) 0)).getD p 0) ((xS (fX (G o) 1)).getD q 0))))) S' x c → True := fun _ _ _ _ => trivial
  have s10 : S'.2.1 10 i = (if Sr.1 22 ≤ (0 : Int32) then -1 else Int32.ofNat i) := by
    rw [q5.2.2.2 10 i (fun e => by have := e.1; omega) (fun e => by have := e.1; omega) (fun e => by have := e.1; omega) (fun e => by have := e.1; omega)]
    exact q3
  have s11 : S'.2.1 11 i = (wtc D (G o) ((xS (fX (G o) 0)).getD p 0) ((xS (fX (G o) 1)).getD q 0)).elim (-1) (fun a => Sr.2.1 10 a) := by
    rw [q5.2.2.2 11 i (fun e => by have := e.1; omega) (fun e => by have := e.1; omega) (fun e => by have := e.1; omega) (fun e => by have := e.1; omega)]
    exact q4
  have I3 : IC M' (ahS A2 S') (up D i (some (rW o (G o) ((xS (fX (G o) 0)).getD p 0) ((xS (fX (G o) 1)).getD q 0) x (cnt D (G o) ((xS (fX (G o) 0)).getD p 0) ((xS (fX (G o) 1)).getD q 0))))) (up G o (tkF (up D i (some (rW o (G o) ((xS (fX (G o) 0)).getD p 0) ((xS (fX (G o) 1)).getD q 0) x (cnt D (G o) ((xS (fX (G o) 0)).getD p 0) ((xS (fX (G o) 1)).getD q 0))))) (G o) i)) S' T U (-1 : Int32).toInt64 := by
    refine ⟨ahS_C, CW_st w2 R2 s3 (fun x hx => by have := rng_m hx; omega), CR_st c2 R2 s3 (fun x hx => by have := rng_m hx; omega), st_c s3 R2 e2 (by intro q; cases q) (fun hx => by have := rng_m hx; omega), q7, q6, ?_, ?_⟩
    · obtain ⟨x1, x2, x3, x4, x5, x6, x7⟩ := TX_q hq i7
      exact ⟨by rw [S1 22 (by omega)]; exact x1, x2, x3, fun j hj => by rw [SS 21 j (by omega) (by omega) (by omega) (by omega) (by omega)]; exact x4 j hj, by rw [S1 39 (by omega)]; exact x5, x6, fun j hj => by rw [SS 40 j (by omega) (by omega) (by omega) (by omega) (by omega)]; exact x7 j hj⟩
    · intro j rj hj h6
      by_cases e : j = i
      · subst e
        rw [up_e] at hj
        cases hj
        constructor
        · show cte M' (ahS A2 S') _ S' x (S'.2.1 10 j)
          rw [s10]
          rcases hx with ⟨e1, e2⟩ | ⟨pc, e1, e2, ts, e3, ⟨e4, e4'⟩, e5⟩
          · rw [if_pos e2]
            exact Or.inl ⟨e1, rfl⟩
          · rw [if_neg e2]
            refine Or.inr ⟨pc, j, ts, e1, ⟨_, up_e⟩, rfl, e3, ?_, fun jj hjj => ?_, ?_⟩
            · rw [SS 13 j (by omega) (by omega) (by omega) (by omega) (by omega)]; exact e4
            · rw [SS 14 _ (by omega) (by omega) (by omega) (by omega) (by omega), SS 15 _ (by omega) (by omega) (by omega) (by omega) (by omega)]; exact e4' jj hjj
            · rw [SS 12 j (by omega) (by omega) (by omega) (by omega) (by omega)]
              rcases e5 with ⟨g1, g2, g3⟩ | ⟨g1, g2, qq, g3, g4⟩
              · exact Or.inl ⟨g1, g2, TR 1 pc ts g3⟩
              · exact Or.inr ⟨g1, g2, qq, CLr pc _ g2 g3, TR 22 qq ts g4⟩
        · show cte M' (ahS A2 S') _ S' (cnt D (G o) ((xS (fX (G o) 0)).getD p 0) ((xS (fX (G o) 1)).getD q 0)) (S'.2.1 11 j)
          cases hw : wtc D (G o) ((xS (fX (G o) 0)).getD p 0) ((xS (fX (G o) 1)).getD q 0) with
          | none =>
            have hcnt : cnt D (G o) ((xS (fX (G o) 0)).getD p 0) ((xS (fX (G o) 1)).getD q 0) = none := by
              unfold cnt
              rw [hw]
              rfl
            rw [hw] at s11
            exact Or.inl ⟨hcnt, s11⟩
          | some bb =>
            obtain ⟨rb', hb1, hb2, hb3, -⟩ := wtc_r Wo H.1 hw
            have hcnt : cnt D (G o) ((xS (fX (G o) 0)).getD p 0) ((xS (fX (G o) 1)).getD q 0) = rct rb' := by
              unfold cnt
              rw [hw, Option.bind_some, hb1, Option.bind_some]
            have key := cte_E (i8 bb rb' hb1 hb2).1 ANu TA CLA hrow
            have e11 : S'.2.1 11 j = S.2.1 10 bb := by
              rw [s11, hw, Option.elim_some]
              exact hq.2.2 10 bb (by omega) (by omega) (by omega)
            rw [e11]
            have gen : ∀ xx, xx = rct rb' → cte M' (ahS A2 S') (up D j (some (rW o (G o) ((xS (fX (G o) 0)).getD p 0) ((xS (fX (G o) 1)).getD q 0) x (cnt D (G o) ((xS (fX (G o) 0)).getD p 0) ((xS (fX (G o) 1)).getD q 0))))) S' xx (S.2.1 10 bb) := by
              intro xx hxx
              subst hxx
              exact key
            exact gen _ hcnt
      · rw [up_n e] at hj
        obtain ⟨g3, g4⟩ := i8 j rj hj h6
        rw [S10 10 j (by omega) (by omega) e, S10 11 j (by omega) (by omega) e]
        exact ⟨cte_E g3 ANu TA CLA hrow, cte_E g4 ANu TA CLA hrow⟩
  have l2 := Lv_st R s12 (fun z => by
    rcases List.mem_append.mp z with q | q
    · simp at q
    · rcases List.mem_append.mp q with q | q
      · have := hb 0 q; omega
      · simp at q)
  have t1' : ll_129 w (some 81) a1 a2 a3 (some 177) h = some (.inl (some (.inl 0)), h2) := by
    unfold ll_129
    rw [if_pos (IC_L R I), t1, k1, rt_V]
    unfold l130_83
    rw [hc_R (o := some 83) (ar_c R1 C1.1.1) rfl, Option.bind_some, hc_I (v := -1) (ar_c R1 e83) rfl, Option.bind_some, lh_Ir, p2]
    rfl
  refine ⟨ahS A2 S', rs_h S' h2, M', _, _, S', T, U, (-1 : Int32).toInt64, pO_mk (k := 0) (tx_l (by decide) (lq_129 t1')) (Lv_h0 R R2 l2 e0) R2 f2 hl2 (tx_l (by decide) (lq_264 (rt_264 (by rw [ar_len R2]; exact hl2) (t2.trans q1)))) (by rw [S1 0 (by omega)]; exact hq.1 0 (by omega)) ⟨_, rfl, fun _ => ld_177 R3 I3.2.2.2.1⟩, R3, I3, Lv_w (Lv_tr l2 (Lv_st R2 s3 (fun hx => by have := rng_m hx; omega))) (by omega) (by omega), ?_⟩
  refine CCH_g hC (by omega) i6 (IC_W I) (by rw [q5.1, q2.2.1]; exact hq.2.1) (by rw [S1 32 (by omega)]; exact hq.1 32 (by omega)) (fun a j g1 g2 => by rw [SS a j (by omega) (by omega) (by omega) (by omega) (by omega)]; exact hq.2.2 a j (by omega) (by omega) (by omega)) (fun j rj hj => up_D hD hj) (fun j rj hj h6 => KA_E (i8 j rj hj h6).1 (S10 10 j (by omega) (by omega) (ne_D hD ⟨rj, hj⟩)) (fun id hid => by obtain ⟨r', hr'⟩ := hid; exact (H.1 id r' hr').1) hrow) (fun pp hpp e => ?_)
  have ne : ∀ m, m < 3 → (-1 : Int32) ≠ Int32.ofNat m := fun m hm e => i32_lt m (by omega) (by rw [← e]; decide)
  rw [q5.2.2.1, q2.1, hq.1 31 (by omega)] at e
  by_cases zz : S.1 31 = Int32.ofNat o
  · rw [if_pos (show (rs_setI S 0 0).1 31 = Int32.ofNat o from zz)] at e
    exact absurd e (ne pp hpp)
  · rw [if_neg (show ¬ (rs_setI S 0 0).1 31 = Int32.ofNat o from zz)] at e
    have hpo : pp ≠ o := by intro q; rw [q] at e; exact zz e
    rw [up_n hpo]
    exact ⟨e, rfl, rfl, rfl⟩
end ENT
