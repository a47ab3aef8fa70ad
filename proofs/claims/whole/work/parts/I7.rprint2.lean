/-! THE REFERENCE prints a row -/
section PR2
variable {S S' S0 S2 : rs_S} {o k m r c y z y2 z2 id b n p j : Nat} {U X Lr Lc : List Nat} {v : Int32} {K : List Int32} {M : aM} {A : ah} {D : aD} {t t1 t2 ts : List (Nat × Int32)}
theorem SW_f (h : Fr S S') (w : SW o Lr Lc S) : SW o Lr Lc S' := by
  obtain ⟨w1, w2, w3, w4⟩ := w
  exact ⟨w1, ⟨by rw [h.2.1 20 _ (by omega) (by omega)]; exact w2.1, fun j hj => by rw [h.2.1 19 _ (by omega) (by omega)]; exact w2.2 j hj⟩, ⟨by rw [h.2.1 20 _ (by omega) (by omega)]; exact w3.1, fun j hj => by rw [h.2.1 19 _ (by omega) (by omega)]; exact w3.2 j hj⟩, w4⟩
/-- what a token reads as -/
theorem tk_rd (hid : id < 120) (T : TKb id b t S0) (hb : b + t.length ≤ 20) (hj : j < t.length) (F : Fr S0 S) : rd_I S 14 (Int32.ofNat (20 * id + (b + j))) = some (Int32.ofNat (t.getD j (0, 0)).1) ∧ rd_I S 15 (Int32.ofNat (20 * id + (b + j))) = some (t.getD j (0, 0)).2 := by
  obtain ⟨t1, t2⟩ := T j hj
  rw [show 20 * id + b + j = 20 * id + (b + j) by omega] at t1 t2
  constructor
  · rw [rdI (n := 2400) (by decide) (by omega) (by omega), F.2.1 14 _ (by omega) (by omega), t1]
  · rw [rdI (n := 2400) (by decide) (by omega) (by omega), F.2.1 15 _ (by omega) (by omega), t2]
theorem ix20 {k : Nat} : (20 : Int32) * Int32.ofNat id + Int32.ofNat k = Int32.ofNat (20 * id + k) := by
  rw [show (20 : Int32) * Int32.ofNat id = Int32.ofNat (20 * id) from i32_ml 20 id, i32_add]
theorem AWb_1 (h1 : wlt t = wlt t1 ++ X) (hl : (wlt t1).length = t1.length) (hle : t1.length ≤ t.length) (T : AWb b t S) : AWb b t1 S := fun j hj => by
  have := T j (by omega)
  rw [h1, ng_a1 (by omega)] at this
  exact this
theorem AWb_2 {X1 : List Nat} (h1 : wlt t = X1 ++ (wlt t2 ++ X)) (hl : (wlt t2).length = t2.length) (hx : X1.length = m) (hle : m + t2.length ≤ t.length) (T : AWb b t S) : AWb (b + m) t2 S := fun j hj => by
  have := T (m + j) (by omega)
  rw [h1, ← hx, ng_a2, ng_a1 (by omega), hx, show b + (m + j) = b + m + j by omega] at this
  exact this
theorem cd_b (h : prX M A D Lr Lc n p t X) (hj : j < t.length) (W : Wd D) : (t.getD j (0, 0)).1 < 200 := by
  have hm : ∀ n p t X, prX M A D Lr Lc n p t X → ∀ s ∈ t, s.1 < 200 := by
    intro n
    induction n with
    | zero => intro p t X h; cases h
    | succ n ih =>
      intro p t X ⟨hp, hh⟩ s hs
      rcases hh with ⟨v, e, tt, tX⟩ | ⟨y, z, h1, h2, e, tt, tX⟩ | ⟨kc, cd, y, z, y2, z2, hm, h1, h2, h3, h4, e, tt, tX⟩ | ⟨q', t', X', e, h1, tt, tX⟩ | ⟨kc, cd, q1, q2, t1, t2, X1, X2, hm, e, h1, h2, tt, tX⟩
      · obtain ⟨t1, -⟩ := tt
        subst t1
        have : s = (97, v) := by simpa using hs
        rw [this]; show (97 : Nat) < 200; omega
      · subst tt
        have : s = (114, Int32.ofNat (y + 128 * z)) := by simpa using hs
        rw [this]; show (114 : Nat) < 200; omega
      · subst tt
        have hk' : cd = 115 ∨ cd = 110 ∨ cd = 109 := by
          unfold kcB at hm
          simp at hm
          omega
        have : s = (cd, Int32.ofNat (y + 128 * z + 16384 * (y2 + 128 * z2))) := by simpa using hs
        rw [this]; show cd < 200; omega
      · subst tt
        rcases List.mem_append.mp hs with g | g
        · exact ih q' t' X' h1 s g
        · have : s = (126, 0) := by simpa using g
          rw [this]; show (126 : Nat) < 200; omega
      · subst tt
        have hk' : cd = 43 ∨ cd = 45 ∨ cd = 42 ∨ cd = 47 := by
          unfold kcT at hm
          simp at hm
          omega
        rcases List.mem_append.mp hs with g | g
        · rcases List.mem_append.mp g with g | g
          · exact ih q1 t1 X1 h1 s g
          · exact ih q2 t2 X2 h2 s g
        · have : s = (cd, 0) := by simpa using g
          rw [this]; show cd < 200; omega
  refine hm n p t X h _ ?_
  rw [List.getD_eq_getElem?_getD, List.getElem?_eq_getElem hj]
  exact List.getElem_mem hj
theorem pr_run (w0 : SW o Lr Lc S0) (hid : id < 120) (W : Wd D) : ∀ n p t X, prX M A D Lr Lc n p t X → ∀ b, TKb id b t S0 → AWb b t S0 → b + t.length ≤ 20 → ∀ K U S, Sta S0 (Int32.ofNat (b + t.length - 1) :: K) U S → K.length + 4 * t.length ≤ 80 → U.length + X.length ≤ 80 → ∃ c S', c ≤ 8 * t.length ∧ RN o id S c S' ∧ Sta S0 K (U ++ X) S' := by
  have lt : ∀ l, LN D l → l < 120 := fun l hl => LN_lt W hl
  intro n
  induction n with
  | zero => intro p t X h; cases h
  | succ n ih =>
    intro p t X hpX
    have hpX' := hpX
    obtain ⟨hp, hh⟩ := hpX'
    rcases hh with ⟨v, e, tt, tX⟩ | ⟨y, z, h1, h2, e, tt, tX⟩ | ⟨kc, cd, y, z, y2, z2, hm, h1, h2, h3, h4, e, tt, tX⟩ | ⟨q', t', X', e, h1, tt, tX⟩ | ⟨kc, cd, q1, q2, t1, t2, X1, X2, hm, e, h1, h2, tt, tX⟩
    · obtain ⟨t1, b1, b2⟩ := tt
      subst t1
      subst tX
      intro b T AW hb K U S H hK hU
      have hK' : K.length + 4 * 1 ≤ 80 := hK
      have hb' : b + 1 ≤ 20 := hb
      obtain ⟨S', p1, p2⟩ := run_p (o := o) (id := id) (k := b) (X2K := K) (X2U := U ++ ntx v) H (by omega) (by omega) (fun S1 H1 => by
        obtain ⟨r1, r2⟩ := tk_rd hid T hb (j := 0) (by show 0 < 1; omega) H1.2.2.2
        obtain ⟨S2, u1, u2, u3⟩ := q306 b1 b2 H1.2.2.1 (by omega)
        refine ⟨S2, ?_, Sta_y H1 u3 u2⟩
        unfold rf_305
        rw [ix20, show (20 * id + b) = 20 * id + (b + 0) by omega, r1, Option.bind_some, r2, Option.bind_some]
        show (if Int32.ofNat 97 = (97 : Int32) then rb (rf_306 v S1) _ else _) = _
        rw [if_pos (by decide), u1, rb_r])
      exact ⟨1, S', by show 1 ≤ 8 * 1; omega, p1, p2⟩
    · subst tt
      subst tX
      intro b T AW hb K U S H hK hU
      have hK' : K.length + 4 * 1 ≤ 80 := hK
      have hb' : b + 1 ≤ 20 := hb
      obtain ⟨S', p1, p2⟩ := run_p (o := o) (id := id) (k := b) (X2K := K) (X2U := U ++ rfx Lr Lc y z) H (by omega) (by omega) (fun S1 H1 => by
        obtain ⟨r1, r2⟩ := tk_rd hid T hb (j := 0) (by show 0 < 1; omega) H1.2.2.2
        have w1 := SW_f H1.2.2.2 w0
        unfold rf_305
        rw [ix20, show (20 * id + b) = 20 * id + (b + 0) by omega, r1, Option.bind_some, r2, Option.bind_some]
        show ∃ S', (if Int32.ofNat 114 = (97 : Int32) then _ else if Int32.ofNat 114 = (114 : Int32) then rb (rf_308 (Int32.ofNat o) (Int32.ofNat (y + 128 * z)) S1) _ else _) = _ ∧ _
        rw [if_neg (by decide), if_pos (by decide), q308 w1 (lt y h1) (lt z h2), rb_r]
        unfold rfx
        by_cases hc : cnm Lr Lc y z = true
        · obtain ⟨S2, u1, u2, u3⟩ := q309 w1 (lt y h1) (lt z h2) hc H1.2.2.1 (by omega)
          refine ⟨S2, ?_, by rw [if_pos hc]; exact Sta_y H1 u3 u2⟩
          rw [if_pos hc, if_neg (by decide)]
          show rb (rf_309 (Int32.ofNat o) (Int32.ofNat (y + 128 * z)) S1) _ = _
          rw [u1, rb_r]
        · obtain ⟨S2, u1, u2, u3⟩ := q303 (c := 35) H1.2.2.1 (by omega)
          refine ⟨S2, ?_, by rw [if_neg hc]; exact Sta_y H1 u3 u2⟩
          rw [if_neg hc, if_pos rfl, show (35 : Int32) = Int32.ofNat 35 from rfl, u1, rb_r])
      exact ⟨1, S', by show 1 ≤ 8 * 1; omega, p1, p2⟩
    · subst tt
      subst tX
      have hk' : cd = 115 ∨ cd = 110 ∨ cd = 109 := by
        unfold kcB at hm
        simp at hm
        omega
      intro b T AW hb K U S H hK hU
      have hK' : K.length + 4 * 1 ≤ 80 := hK
      have hb' : b + 1 ≤ 20 := hb
      obtain ⟨S', p1, p2⟩ := run_p (o := o) (id := id) (k := b) (X2K := K) (X2U := U ++ cd :: 40 :: (bkx Lr Lc y z y2 z2 ++ [41])) H (by omega) (by omega) (fun S1 H1 => by
        obtain ⟨r1, r2⟩ := tk_rd hid T hb (j := 0) (by show 0 < 1; omega) H1.2.2.2
        have w1 := SW_f H1.2.2.2 w0
        obtain ⟨S2, u1, u2, u3⟩ := q310 (c := cd) w1 (by omega) (lt y h1) (lt z h2) (lt y2 h3) (lt z2 h4) H1.2.2.1 (by omega)
        refine ⟨S2, ?_, Sta_y H1 u3 u2⟩
        unfold rf_305
        rw [ix20, show (20 * id + b) = 20 * id + (b + 0) by omega, r1, Option.bind_some, r2, Option.bind_some]
        show (if Int32.ofNat cd = (97 : Int32) then _ else if Int32.ofNat cd = (114 : Int32) then _ else rb (rf_289 (Int32.ofNat cd) S1) _) = _
        rw [if_neg (show ¬ Int32.ofNat cd = (97 : Int32) from fun e => by have := i32_inj (b := 97) (by omega) (by omega) e; omega), if_neg (show ¬ Int32.ofNat cd = (114 : Int32) from fun e => by have := i32_inj (b := 114) (by omega) (by omega) e; omega), (q289 (by omega)).1 hk', rb_r, if_neg (by decide)]
        show rb (rf_310 (Int32.ofNat o) (Int32.ofNat cd) (Int32.ofNat (y + 128 * z + 16384 * (y2 + 128 * z2))) S1) _ = _
        rw [u1, rb_r])
      exact ⟨1, S', by show 1 ≤ 8 * 1; omega, p1, p2⟩
    · subst tt
      subst tX
      intro b T AW hb K U S H hK hU
      obtain ⟨w1, w2, w3, -⟩ := wfd_p n q' t' X' h1
      have el : (t' ++ [((126 : Nat), (0 : Int32))]).length = t'.length + 1 := by rw [List.length_append]; rfl
      rw [el] at hb H hK ⊢
      rw [List.length_cons] at hU
      have T' := TKb_1 T
      have AW' := AWb_1 (wlt_n h1) w2 (by rw [el]; omega) AW
      have hlast := stg_g w1
      have hcb := cd_b h1 (show t'.length - 1 < t'.length by omega) W
      have hbk : ((b + (t'.length + 1) - 1) : Nat) = b + t'.length := by omega
      rw [hbk] at H
      obtain ⟨S1, p1, p2⟩ := run_p (o := o) (id := id) (k := b + t'.length) (X2K := plb (decide (stg t' = 1 ∨ stg t' = 2)) (Int32.ofNat (b + t'.length - 1)) ++ K) (X2U := U ++ [45]) H (by omega) (by omega) (fun S1 H1 => by
        obtain ⟨r1, r2⟩ := tk_rd hid T (by rw [el]; exact hb) (j := t'.length) (by rw [el]; omega) H1.2.2.2
        have e126 : (t' ++ [((126 : Nat), (0 : Int32))]).getD t'.length (0, 0) = (126, 0) := by
          have := gd_a2 (t1 := t') (t2 := [((126 : Nat), (0 : Int32))]) (j := 0)
          rw [Nat.add_zero] at this
          exact this
        rw [e126] at r1 r2
        obtain ⟨r3, -⟩ := tk_rd hid T' (by omega) (j := t'.length - 1) (by omega) H1.2.2.2
        obtain ⟨S2, u1, u2, u3⟩ := q303 (c := 45) H1.2.2.1 (by omega)
        have H2 := Sta_y H1 u3 u2
        have n1 : Int32.ofNat (b + t'.length) - (1 : Int32) = Int32.ofNat (b + t'.length - 1) := i32_sub (b := 1) (by omega)
        have n2 : Int32.ofNat (20 * id + (b + t'.length)) - (1 : Int32) = Int32.ofNat (20 * id + (b + (t'.length - 1))) := by
          rw [show (1 : Int32) = Int32.ofNat 1 from rfl, i32_sub (by omega), show 20 * id + (b + t'.length) - 1 = 20 * id + (b + (t'.length - 1)) by omega]
        have p312 : ∀ bb : Bool, bb = decide (stg t' = 1 ∨ stg t' = 2) → ∃ S', rf_312 (Int32.ofNat (b + t'.length - 1)) (if bb = true then 1 else 0) S2 = some ((), S') ∧ Sta S0 (plb (decide (stg t' = 1 ∨ stg t' = 2)) (Int32.ofNat (b + t'.length - 1)) ++ K) (U ++ [45]) S' := by
          intro bb hbb
          rw [← hbb]
          exact q312 H2 (by omega)
        unfold rf_305
        rw [ix20, r1, Option.bind_some, r2, Option.bind_some]
        show ∃ S', (if Int32.ofNat 126 = (97 : Int32) then _ else if Int32.ofNat 126 = (114 : Int32) then _ else rb (rf_289 (Int32.ofNat 126) S1) _) = _ ∧ _
        rw [if_neg (by decide), if_neg (by decide), (q289 (S := S1) (show 126 < 200 by omega)).2 (fun g => by unfold isB at g; omega), rb_r, if_pos rfl]
        show ∃ S', rb (rf_311 (Int32.ofNat id) (Int32.ofNat (b + t'.length)) (Int32.ofNat 126) S1) _ = _ ∧ _
        unfold rf_311 r311_46 r311_51
        rw [ix20, n2, r3, Option.bind_some, q277 hcb, rb_r, ← hlast, if_pos (by decide), show (45 : Int32) = Int32.ofNat 45 from rfl, u1, rb_r, n1]
        have hs3 : stg t' ≤ 3 := by rw [hlast]; unfold stg1; repeat' (first | omega | split)
        by_cases g1 : stg t' = 1
        · obtain ⟨S3, v1, v2⟩ := p312 true (by rw [g1]; rfl)
          refine ⟨S3, ?_, v2⟩
          rw [if_pos (by rw [g1]; rfl)]
          rw [if_pos rfl] at v1
          rw [v1, rb_r, rb_r]
        · rw [if_neg (show ¬ Int32.ofNat (stg t') = (1 : Int32) from fun e => g1 (i32_inj (b := 1) (by omega) (by omega) e))]
          by_cases g2 : stg t' = 2
          · obtain ⟨S3, v1, v2⟩ := p312 true (by rw [g2]; rfl)
            refine ⟨S3, ?_, v2⟩
            rw [if_pos (by rw [g2]; rfl)]
            rw [if_pos rfl] at v1
            rw [v1, rb_r, rb_r]
          · obtain ⟨S3, v1, v2⟩ := p312 false (by rw [decide_eq_false (by omega)])
            refine ⟨S3, ?_, v2⟩
            rw [if_neg (show ¬ Int32.ofNat (stg t') = (2 : Int32) from fun e => g2 (i32_inj (b := 2) (by omega) (by omega) e))]
            rw [if_neg (by decide)] at v1
            rw [v1, rb_r, rb_r])
      have ihr := ih q' t' X' h1 b T' AW' (by omega)
      obtain ⟨c, S2, u1, u2, u3⟩ := plb_run (bb := decide (stg t' = 1 ∨ stg t' = 2)) (n := 4 * t'.length) (m := 8 * t'.length) ihr K (U ++ [45]) S1 p2 (by omega) (by omega) (by rw [List.length_append, List.length_singleton]; omega)
      refine ⟨_, S2, ?_, RN_tr p1 u2, ?_⟩
      · omega
      · rw [List.append_assoc] at u3
        exact u3
    · subst tt
      subst tX
      have hk' : cd = 43 ∨ cd = 45 ∨ cd = 42 ∨ cd = 47 := by
        unfold kcT at hm
        simp at hm
        omega
      intro b T AW hb K U S H hK hU
      obtain ⟨w1, w2, w3, -⟩ := wfd_p n q1 t1 X1 h1
      obtain ⟨v1, v2, v3, -⟩ := wfd_p n q2 t2 X2 h2
      have el : (t1 ++ t2 ++ [(cd, (0 : Int32))]).length = t1.length + t2.length + 1 := by rw [List.length_append, List.length_append]; rfl
      rw [el] at hb H hK ⊢
      rw [List.length_append, List.length_cons] at hU
      have hw := wlt_b h1 h2 hk'
      have T1 := TKb_1 (TKb_1 T)
      have T2 := TKb_2 (TKb_1 T)
      have AW1 := AWb_1 (X := wlt t2 ++ [1 + t2.length + t1.length]) (by rw [hw, List.append_assoc]) w2 (by rw [el]; omega) AW
      have AW2 := AWb_2 (X1 := wlt t1) (X := [1 + t2.length + t1.length]) (by rw [hw, List.append_assoc]) v2 w2 (by rw [el]; omega) AW
      have hl1 := stg_g w1
      have hl2 := stg_g v1
      have hc1 := cd_b h1 (show t1.length - 1 < t1.length by omega) W
      have hc2 := cd_b h2 (show t2.length - 1 < t2.length by omega) W
      have hs1 : stg t1 ≤ 3 := by rw [hl1]; unfold stg1; repeat' (first | omega | split)
      have hs2 : stg t2 ≤ 3 := by rw [hl2]; unfold stg1; repeat' (first | omega | split)
      rw [show b + (t1.length + t2.length + 1) - 1 = b + t1.length + t2.length by omega] at H
      obtain ⟨S1, p1, p2⟩ := run_p (o := o) (id := id) (k := b + t1.length + t2.length) (X2K := plb (decide (stg t1 = 1 ∧ stg1 cd = 2)) (Int32.ofNat (b + t1.length - 1)) ++ (-(Int32.ofNat cd) :: (plb (decide (stg t2 = 1 ∨ (stg t2 = 2 ∧ stg1 cd = 2))) (Int32.ofNat (b + t1.length + t2.length - 1)) ++ K))) (X2U := U) H (by omega) (by omega) (fun S1 H1 => by
        obtain ⟨r1, r2⟩ := tk_rd hid T (by rw [el]; exact hb) (j := t1.length + t2.length) (by rw [el]; omega) H1.2.2.2
        have ecd : (t1 ++ t2 ++ [(cd, (0 : Int32))]).getD (t1.length + t2.length) (0, 0) = (cd, 0) := by
          have := gd_a2 (t1 := t1 ++ t2) (t2 := [(cd, (0 : Int32))]) (j := 0)
          rw [Nat.add_zero, List.length_append] at this
          exact this
        rw [ecd, show b + (t1.length + t2.length) = b + t1.length + t2.length by omega] at r1 r2
        obtain ⟨r3, -⟩ := tk_rd hid T2 (by omega) (j := t2.length - 1) (by omega) H1.2.2.2
        obtain ⟨r4, -⟩ := tk_rd hid T1 (by omega) (j := t1.length - 1) (by omega) H1.2.2.2
        have n1 : Int32.ofNat (b + t1.length + t2.length) - (1 : Int32) = Int32.ofNat (b + t1.length + t2.length - 1) := i32_sub (b := 1) (by omega)
        have n2 : Int32.ofNat (20 * id + (b + t1.length + t2.length)) - (1 : Int32) = Int32.ofNat (20 * id + (b + t1.length + (t2.length - 1))) := by
          rw [show (1 : Int32) = Int32.ofNat 1 from rfl, i32_sub (by omega), show 20 * id + (b + t1.length + t2.length) - 1 = 20 * id + (b + t1.length + (t2.length - 1)) by omega]
        have r5 : rd_I S1 41 (Int32.ofNat (b + t1.length + t2.length - 1)) = some (Int32.ofNat t2.length) := by
          have := AW2 (t2.length - 1) (by omega)
          rw [v3, show b + t1.length + (t2.length - 1) = b + t1.length + t2.length - 1 by omega] at this
          rw [rdI (n := 20) (by decide) (by omega) (by omega), H1.2.2.2.2.1 41 _ (by omega) (by omega), this]
        have n3 : Int32.ofNat (b + t1.length + t2.length - 1) - Int32.ofNat t2.length = Int32.ofNat (b + t1.length - 1) := by
          rw [i32_sub (by omega), show b + t1.length + t2.length - 1 - t2.length = b + t1.length - 1 by omega]
        have n4 : 20 * id + (b + t1.length - 1) = 20 * id + (b + (t1.length - 1)) := by omega
        have hst1 : stg1 cd = 1 ∨ stg1 cd = 2 := by rcases hk' with g | g | g | g <;> subst g <;> decide
        -- right, sign, left
        obtain ⟨Sa, a1, a2⟩ := q312 (bb := decide (stg t2 = 1 ∨ (stg t2 = 2 ∧ stg1 cd = 2))) (v := Int32.ofNat (b + t1.length + t2.length - 1)) H1 (by omega)
        have hpl : (plb (decide (stg t2 = 1 ∨ (stg t2 = 2 ∧ stg1 cd = 2))) (Int32.ofNat (b + t1.length + t2.length - 1)) ++ K).length ≤ K.length + 3 := by
          unfold plb
          rw [List.length_append]
          split
          · show 3 + K.length ≤ _; omega
          · show 1 + K.length ≤ _; omega
        obtain ⟨Sb, b1, b2⟩ := q304 (v := -(Int32.ofNat cd)) a2 (by omega)
        obtain ⟨Sc, c1, c2⟩ := q312 (bb := decide (stg t1 = 1 ∧ stg1 cd = 2)) (v := Int32.ofNat (b + t1.length - 1)) b2 (by rw [List.length_cons]; omega)
        refine ⟨Sc, ?_, c2⟩
        have left : (if Int32.ofNat (stg t1) = (1 : Int32) then if Int32.ofNat (if stg1 cd = 1 then 1 else 0) = (0 : Int32) then r311_155 (1 : Int32) (Int32.ofNat (b + t1.length - 1)) Sb else r311_154 (Int32.ofNat (b + t1.length - 1)) Sb else r311_154 (Int32.ofNat (b + t1.length - 1)) Sb) = some ((), Sc) := by
          unfold r311_154 r311_155
          by_cases g1 : stg t1 = 1
          · rw [if_pos (by rw [g1]; rfl)]
            by_cases g2 : stg1 cd = 2
            · rw [if_pos (by rw [g2]; rfl)]
              rw [decide_eq_true (show stg t1 = 1 ∧ stg1 cd = 2 from ⟨g1, g2⟩), if_pos rfl] at c1
              rw [c1, rb_r]
            · rw [if_neg (by rw [if_pos (show stg1 cd = 1 by omega)]; decide)]
              rw [decide_eq_false (show ¬ (stg t1 = 1 ∧ stg1 cd = 2) from fun g => g2 g.2), if_neg (by decide)] at c1
              rw [c1, rb_r]
          · rw [if_neg (show ¬ Int32.ofNat (stg t1) = (1 : Int32) from fun e => g1 (i32_inj (b := 1) (by omega) (by omega) e))]
            rw [decide_eq_false (show ¬ (stg t1 = 1 ∧ stg1 cd = 2) from fun g => g1 g.1), if_neg (by decide)] at c1
            rw [c1, rb_r]
        have r127 : ∀ bb : Bool, bb = decide (stg t2 = 1 ∨ (stg t2 = 2 ∧ stg1 cd = 2)) → r311_127 (Int32.ofNat cd) (Int32.ofNat (b + t1.length - 1)) (Int32.ofNat (stg t1)) (Int32.ofNat (if stg1 cd = 1 then 1 else 0)) (if bb = true then 1 else 0) (Int32.ofNat (b + t1.length + t2.length - 1)) S1 = some ((), Sc) := by
          intro bb hbb
          unfold r311_127
          rw [hbb, a1, rb_r, b1, rb_r]
          exact left
        have r99 : r311_99 (Int32.ofNat (b + t1.length + t2.length)) (Int32.ofNat cd) (Int32.ofNat (stg t2)) (Int32.ofNat (b + t1.length - 1)) (Int32.ofNat (stg t1)) (Int32.ofNat (if stg1 cd = 1 then 1 else 0)) S1 = some ((), Sc) := by
          unfold r311_99 r311_122 r311_126
          rw [n1]
          by_cases g1 : stg t2 = 1
          · rw [if_pos (by rw [g1]; rfl)]
            exact r127 true (by rw [decide_eq_true (Or.inl g1)])
          · rw [if_neg (show ¬ Int32.ofNat (stg t2) = (1 : Int32) from fun e => g1 (i32_inj (b := 1) (by omega) (by omega) e))]
            by_cases g2 : stg t2 = 2
            · rw [if_pos (by rw [g2]; rfl)]
              by_cases g3 : stg1 cd = 2
              · rw [if_pos (by rw [g3]; rfl)]
                exact r127 true (by rw [decide_eq_true (Or.inr ⟨g2, g3⟩)])
              · rw [if_neg (by rw [if_pos (show stg1 cd = 1 by omega)]; decide)]
                exact r127 false (by rw [decide_eq_false (fun g => by omega)])
            · rw [if_neg (show ¬ Int32.ofNat (stg t2) = (2 : Int32) from fun e => g2 (i32_inj (b := 2) (by omega) (by omega) e))]
              exact r127 false (by rw [decide_eq_false (fun g => by omega)])
        unfold rf_305
        rw [ix20, r1, Option.bind_some, r2, Option.bind_some]
        show (if Int32.ofNat cd = (97 : Int32) then _ else if Int32.ofNat cd = (114 : Int32) then _ else rb (rf_289 (Int32.ofNat cd) S1) _) = _
        rw [if_neg (show ¬ Int32.ofNat cd = (97 : Int32) from fun e => by have := i32_inj (b := 97) (by omega) (by omega) e; omega), if_neg (show ¬ Int32.ofNat cd = (114 : Int32) from fun e => by have := i32_inj (b := 114) (by omega) (by omega) e; omega), (q289 (by omega)).2 (fun g => by unfold isB at g; omega), rb_r, if_pos rfl]
        show rb (rf_311 (Int32.ofNat id) (Int32.ofNat (b + t1.length + t2.length)) (Int32.ofNat cd) S1) _ = _
        unfold rf_311
        rw [ix20, n2, r3, Option.bind_some, q277 hc2, rb_r, ← hl2, if_neg (show ¬ Int32.ofNat cd = (126 : Int32) from fun e => by have := i32_inj (b := 126) (by omega) (by omega) e; omega), n1, r5, Option.bind_some, n3, ix20, n4, r4, Option.bind_some, q277 hc1, rb_r, ← hl1, q277 (show cd < 200 by omega), rb_r]
        have r99' := r99
        by_cases g : stg1 cd = 1
        · rw [if_pos g] at r99'
          rw [if_pos (by rw [g]; rfl), show (1 : Int32) = Int32.ofNat 1 from rfl, r99', rb_r]
        · rw [if_neg g] at r99'
          rw [if_neg (show ¬ Int32.ofNat (stg1 cd) = (1 : Int32) from fun e => g (i32_inj (b := 1) (by omega) (by omega) e)), show (0 : Int32) = Int32.ofNat 0 from rfl, r99', rb_r])
      have ih1 := ih q1 t1 X1 h1 b T1 AW1 (by omega)
      have ih2 := ih q2 t2 X2 h2 (b + t1.length) T2 AW2 (by omega)
      have hpl : (plb (decide (stg t2 = 1 ∨ (stg t2 = 2 ∧ stg1 cd = 2))) (Int32.ofNat (b + t1.length + t2.length - 1)) ++ K).length ≤ K.length + 3 := by
        unfold plb
        rw [List.length_append]
        split
        · show 3 + K.length ≤ _; omega
        · show 1 + K.length ≤ _; omega
      obtain ⟨c1, S2, u1, u2, u3⟩ := plb_run (bb := decide (stg t1 = 1 ∧ stg1 cd = 2)) (n := 4 * t1.length) (m := 8 * t1.length) ih1 _ U S1 p2 (by rw [List.length_cons]; omega) (by rw [List.length_cons]; omega) (by omega)
      obtain ⟨S3, x1, x2⟩ := run_c (o := o) (id := id) (c := cd) (by omega) (by omega) u3 (by omega) (by rw [List.length_append]; omega)
      obtain ⟨c2, S4, y1, y2, y3⟩ := plb_run (bb := decide (stg t2 = 1 ∨ (stg t2 = 2 ∧ stg1 cd = 2))) (n := 4 * t2.length) (m := 8 * t2.length) ih2 K _ S3 x2 (by omega) (by omega) (by rw [List.length_append, List.length_append, List.length_singleton]; omega)
      refine ⟨_, S4, ?_, RN_tr (RN_tr (RN_tr p1 u2) x1) y2, ?_⟩
      · omega
      · rw [List.append_assoc, List.append_assoc] at y3
        exact y3
end PR2
