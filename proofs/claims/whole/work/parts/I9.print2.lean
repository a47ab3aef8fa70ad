/-! CALLS put together: print -/
def Spp (S S' : rs_S) : Prop := (∀ a, a ≠ 39 → a ≠ 43 → S'.1 a = S.1 a) ∧ (∀ a j, a ≠ 40 → a ≠ 41 → a ≠ 42 → S'.2.1 a j = S.2.1 a j) ∧ S'.2.2 = S.2.2
/-- a content, on both sides -/
def CTS (M : aM) (A : ah) (D : aD) (S : rs_S) (x : Option Nat) (c : Int32) : Prop := (x = none ∧ c = -1) ∨ ∃ p id fm ts, x = some p ∧ c = Int32.ofNat id ∧ TKS id ts S ∧ (S.2.1 12 id = if fm = true then 1 else 0) ∧ PT M A D p fm ts ∧ wgt ts ≤ 60 ∧ dpt ts 0 = some 1 ∧ ∀ t ∈ ts, t.1 < 200
section PRT2
variable {S S' S0 S2 S4 : rs_S} {o k m r c y z id b n p q j i : Nat} {T U X Lr Lc Y : List Nat} {v : Int32} {M : aM} {A A' A0 A1 A2 : ah} {h h0 h1 : pm_H} {D : aD} {G : Nat → fo} {F : fo} {t ts : List (Nat × Int32)} {u vv : Int64} {w : Option Nat} {a1 a2 a3 : Int32} {yy : pm_C} {fm : Bool} {rr : rc} {a : Nat}
theorem Spp_refl : Spp S S := ⟨fun _ _ _ => rfl, fun _ _ _ _ _ => rfl, rfl⟩
theorem Spp_tr (h1 : Spp S S') (h2 : Spp S' S2) : Spp S S2 := ⟨fun a n1 n2 => (h2.1 a n1 n2).trans (h1.1 a n1 n2), fun a j n1 n2 n3 => (h2.2.1 a j n1 n2 n3).trans (h1.2.1 a j n1 n2 n3), h2.2.2.trans h1.2.2⟩
theorem Spp_y (h : Sy S S') : Spp S S' := ⟨fun a n1 _ => h.1 a n1, fun a j n1 _ _ => h.2.1 a j n1, h.2.2⟩
theorem Spp_v (h : Sv S S') : Spp S S' := ⟨fun a _ _ => by rw [h.1], fun a j _ n _ => h.2.1 a j n, h.2.2⟩
theorem Spp_f (h : Fr S S') : Spp S S' := ⟨h.1, fun a j n1 _ n3 => h.2.1 a j n1 n3, h.2.2⟩
theorem Spp_I (hk : k = 39 ∨ k = 43) : Spp S (rs_setI S k v) := ⟨fun a n1 n2 => if_neg (by omega), fun _ _ _ _ _ => rfl, rfl⟩
theorem CTS_of (W : Wd D) (C : CTT M A D S) (h1 : D a = some rr) (h2 : rk rr = 6) : CTS M A D S (rct rr) (S.2.1 10 a) := by
  obtain ⟨c1, -⟩ := C a rr h1 h2
  rcases c1 with ⟨e1, e2⟩ | ⟨p, id, ts, e1, e2, e3, e4, e5, e6, e7⟩
  · exact Or.inl ⟨e1, e2⟩
  · obtain ⟨r2, hr2⟩ := e2
    have hid := (W id r2 hr2).1
    have key : ∀ n q fm, prt M A D n q ts → (S.2.1 12 id = if fm = true then 1 else 0) → PT M A D p fm ts → CTS M A D S (rct rr) (S.2.1 10 a) := by
      intro n q fm hp h12 hPT
      obtain ⟨g1, g2⟩ := prt_tk W n q ts hp
      have hd : dpt ts 0 = some 1 := by
        have := g2 [] 0
        rw [List.append_nil] at this
        exact this
      exact Or.inr ⟨p, id, fm, ts, e1, e3, ⟨hid, e4.1, e5, fun j hj => ⟨(e6 j hj).1, (e6 j hj).2, (g1 _ (by rw [List.getD_eq_getElem?_getD, List.getElem?_eq_getElem hj]; exact List.getElem_mem hj)).1⟩⟩, h12, hPT, e4.2, hd, fun t ht => (g1 t ht).1.1⟩
    rcases e7 with ⟨g1, g2, g3⟩ | ⟨g1, g2, q, g3, g4⟩
    · exact key 1 p false g3 g1 (Or.inl ⟨rfl, g3⟩)
    · exact key 22 q true g4 g1 (Or.inr ⟨rfl, g2, q, g3, g4⟩)
/-- what is written of a content -/
theorem PT_X (hP : PT M A D p fm ts) : ∃ n q X, prX M A D Lr Lc n q ts X ∧ n ≤ 22 ∧ ((fm = false ∧ n = 1 ∧ q = p) ∨ (fm = true ∧ 178 ≤ p ∧ A.1 p = ac_c (.inl (9, [.ref 7, .null, .ref q, .long 0, .null, .null, .null, .null])))) := by
  rcases hP with ⟨h1, h2⟩ | ⟨h1, h2, q, h3, h4⟩
  · obtain ⟨X, g⟩ := prX_of (Lr := Lr) (Lc := Lc) 1 p ts h2
    exact ⟨1, p, X, g, by omega, Or.inl ⟨h1, rfl, rfl⟩⟩
  · obtain ⟨X, g⟩ := prX_of (Lr := Lr) (Lc := Lc) 22 q ts h4
    exact ⟨22, q, X, g, by omega, Or.inr ⟨h1, h2, h3⟩⟩
theorem c219r (W : Wd D) (Wff : Wf D o F) (I : OI D F) (R0 : ar A0 h0) (hX : prX M A0 D (xS (fX F 0)) (xS (fX F 1)) n q ts X) (hn : n ≤ 22) (hh : (fm = false ∧ n = 1 ∧ q = p) ∨ (fm = true ∧ 178 ≤ p ∧ A0.1 p = ac_c (.inl (9, [.ref 7, .null, .ref q, .long 0, .null, .null, .null, .null])))) : WrQ M D o F (fun h => ll_219 w 40 (some 91) (some p) (0 : Int32) h) (if fm = true then 61 :: X else X) A0 := by
  rcases hh with ⟨h1, h2, h3⟩ | ⟨h1, h2, h3⟩
  · subst h2
    subst h3
    rw [h1]
    exact c219 W Wff I R0 1 q ts X 40 0 hX (by omega) (by omega)
  · rw [h1, if_pos rfl]
    intro T A h R Q s H hl
    have np : p ∉ [92] := by simp; omega
    have epA := st_c s R0 h3 (by intro g; cases g) np
    obtain ⟨k1, fs2, e1, e2, e3, e4, e5, e6⟩ := prX_k n hX
    obtain ⟨g1, g2, g3⟩ := kdw R Q.2.2 (k := 7) (by omega) (by omega)
    obtain ⟨w1, w2, w3, -⟩ := w_rd R H
    have hL : WrQ M D o F (fun h => ll_225 w (ll_219 w 39) (some 91) (some p) (0 : Int32) h) (brk false []) A0 := c225 (l0 := none) R0 h2 h3 (by omega) (by omega) (Or.inl ⟨rfl, by omega⟩) (null_w (by omega))
    have hR : WrQ M D o F (fun h => ll_230 w (ll_219 w 39) (some 91) (some p) (0 : Int32) h) (brk false X) A0 := c230 (l0 := none) R0 h2 h3 (by omega) (by omega) e2 e1 e3 e4 (by constructor; intro g; cases g; omega) (c219 W Wff I R0 n q ts X 39 1 hX (by omega) (by omega))
    obtain ⟨A1, k1', p1, R1, s1, H1⟩ := c219d (w := w) (s := 32) (c := 61) h2 R0 h3 (by decide) hL hR R Q s H hl
    refine ⟨A1, k1', ?_, R1, s1, H1⟩
    show ll_219 w (39 + 1) (some 91) (some p) 0 h = _
    rw [ll_219]
    unfold lm_219
    dsimp only
    rw [if_pos (by decide), hc_R (o := some 7) (ar_c R epA) rfl, Option.bind_some, if_pos g1, g2, rt_I, g3 1 rfl, Option.bind_some, if_neg (by decide), if_neg (by decide), if_neg (by decide), if_neg (by decide), if_neg (by decide), if_neg (by decide), if_pos w3]
    exact p1
/-- the reference prints a row -/
theorem q302r (w0 : SW o Lr Lc S) (W : Wd D) (T : TKS id ts S) (h12 : S.2.1 12 id = if fm = true then 1 else 0) (hd : dpt ts 0 = some 1) (hc : ∀ t ∈ ts, t.1 < 200) (hX : prX M A D Lr Lc n q ts X) (hl : X.length ≤ 60) (hO : OU [] S) : ∃ S', r302_38 (Int32.ofNat o) (Int32.ofNat id) S = some (Int32.ofNat (if fm = true then 61 :: X else X).length, S') ∧ OU (if fm = true then 61 :: X else X) S' ∧ Spp S S' := by
  obtain ⟨hid, hlen, h13, tk⟩ := T
  obtain ⟨w1, w2, w3, -⟩ := wfd_p n q ts X hX
  have body : ∀ U S1, OU U S1 → U.length ≤ 1 → Sy S S1 → ∃ S', r302_63 (Int32.ofNat o) (Int32.ofNat id) S1 = some (Int32.ofNat (U ++ X).length, S') ∧ OU (U ++ X) S' ∧ Spp S S' := by
    intro U S1 hU hU1 hy
    have h13' : S1.2.1 13 id = Int32.ofNat ts.length := by rw [hy.2.1 13 _ (by omega)]; exact h13
    have Tb : TKb id 0 ts S1 := fun j hj => by
      obtain ⟨b1, b2, -⟩ := tk j hj
      rw [hy.2.1 14 _ (by omega), hy.2.1 15 _ (by omega)]
      exact ⟨b1, b2⟩
    obtain ⟨S2, p1, p2, p3⟩ := q302w (o := o) hid hlen ts.length lf_N 0 S1 [] [] (by omega) (by unfold lf_N; omega) h13' Tb hc rfl (fun j hj => absurd hj (Nat.not_lt_zero _)) trivial (fun w hw => by cases hw) (by rw [List.drop_zero]; exact hd)
    rw [List.drop_zero] at p3
    obtain ⟨S3, hS3⟩ : ∃ S3, S3 = rs_setI S2 43 0 := ⟨_, rfl⟩
    have s3 : Spp S S3 := by rw [hS3]; exact Spp_tr (Spp_tr (Spp_y hy) (Spp_v p2)) (Spp_I (Or.inr rfl))
    have hU3 : OU U S3 := by
      rw [hS3]
      refine ⟨?_, fun j hj => ?_⟩
      · show S2.1 39 = _
        rw [p2.1]
        exact hU.1
      · show S2.2.1 40 j = _
        rw [p2.2.1 40 j (by omega)]
        exact hU.2 j hj
    have st3 : Sta S3 [] U S3 := ⟨by rw [hS3]; rfl, trivial, hU3, Fr_refl⟩
    obtain ⟨S4, u1, u2⟩ := q304 (v := Int32.ofNat (0 + ts.length - 1)) st3 (by show 0 < 80; omega)
    have Tb3 : TKb id 0 ts S3 := fun j hj => by
      rw [s3.2.1 14 _ (by omega) (by omega) (by omega), s3.2.1 15 _ (by omega) (by omega) (by omega)]
      obtain ⟨b1, b2, -⟩ := tk j hj
      exact ⟨b1, b2⟩
    have AW3 : AWb 0 ts S3 := fun j hj => by
      rw [hS3]
      show S2.2.1 41 (0 + j) = _
      rw [Nat.zero_add]
      exact p3 j hj
    have w3' : SW o Lr Lc S3 := by
      obtain ⟨x1, x2, x3, x4⟩ := w0
      exact ⟨x1, ⟨by rw [s3.2.1 20 _ (by omega) (by omega) (by omega)]; exact x2.1, fun j hj => by rw [s3.2.1 19 _ (by omega) (by omega) (by omega)]; exact x2.2 j hj⟩, ⟨by rw [s3.2.1 20 _ (by omega) (by omega) (by omega)]; exact x3.1, fun j hj => by rw [s3.2.1 19 _ (by omega) (by omega) (by omega)]; exact x3.2 j hj⟩, x4⟩
    obtain ⟨c, S5, g1, g2, g3⟩ := pr_run w3' hid W n q ts X hX 0 Tb3 AW3 (by omega) [] U S4 u2 (by show 0 + _ ≤ 80; omega) (by omega)
    refine ⟨S5, ?_, g3.2.2.1, Spp_tr s3 (Spp_f g3.2.2.2)⟩
    have h13'' : S2.2.1 13 id = Int32.ofNat ts.length := by rw [p2.2.1 13 _ (by omega)]; exact h13'
    have nl : Int32.ofNat ts.length - (1 : Int32) = Int32.ofNat (0 + ts.length - 1) := by
      rw [Nat.zero_add]
      exact i32_sub (b := 1) (by omega)
    unfold r302_63
    rw [show (0 : Int32) = Int32.ofNat 0 from rfl, p1, r302_66]
    dsimp only
    rw [rdI (n := 120) (by decide) hid (by omega), Option.bind_some, h13'', if_pos ((i32_len (by omega) (by omega)).mpr (Nat.le_refl _)), rbS_r, ← hS3, rdI (n := 120) (by decide) hid (by omega), Option.bind_some, s3.2.1 13 _ (by omega) (by omega) (by omega), h13, nl, u1, rb_r]
    have hm : lf_N = (lf_N - c - 1 + 1) + c := by unfold lf_N; omega
    rw [hm, g2, r302_187]
    dsimp only
    rw [g3.1, if_pos (by decide), g3.2.2.1.1]
  unfold r302_38
  rw [if_pos (show (0 : Int32) ≤ Int32.ofNat id from (i32_len (a := 0) (by omega) (by omega)).mpr (Nat.zero_le _)), rdI (n := 120) (by decide) hid (by omega), Option.bind_some, h12]
  cases fm with
  | false =>
    obtain ⟨S', u1, u2, u3⟩ := body [] S hO (Nat.zero_le _) Sy_refl
    refine ⟨S', ?_, u2, u3⟩
    rw [if_pos (by decide)]
    exact u1
  | true =>
    obtain ⟨S1, t1, t2, t3⟩ := q303 (c := 61) hO (by show 0 < 120; omega)
    obtain ⟨S', u1, u2, u3⟩ := body [61] S1 t2 (Nat.le_refl _) t3
    refine ⟨S', ?_, u2, u3⟩
    rw [if_neg (by decide), show (61 : Int32) = Int32.ofNat 61 from rfl, t1, rb_r]
    exact u1
theorem WO_p {cs : List (Nat × Nat)} (h : Spp S S') (H : WO D F cs S) : WO D F cs S' := by
  obtain ⟨⟨c1, c2, c3⟩, c4⟩ := H
  have e : KF D F S' cs = KF D F S cs := KF_2 (fun a => h.2.1 10 a (by omega) (by omega) (by omega)) (fun b j _ _ => h.2.1 b j (by omega) (by omega) (by omega))
  refine ⟨⟨by rw [h.1 32 (by omega) (by omega)]; exact c1, c2, fun j hj => ?_⟩, fun i hi => by rw [e, h.2.2]; exact c4 i hi⟩
  rw [h.2.1 33 _ (by omega) (by omega) (by omega), h.2.1 34 _ (by omega) (by omega) (by omega), h.2.1 35 _ (by omega) (by omega) (by omega)]
  exact c3 j hj
abbrev PU (A A' : ah) : Prop := st A A' [91, 92] 0 0
/-- the class's writer begins -/
theorem c218 {c' : Option Nat} (R : ar A h) (Q : CX M A D o F) (B : CR A T U) (hX : ∀ A0 h0, ar A0 h0 → PU A A0 → WrQ M D o F (fun h => ll_219 w 40 (some 91) c' (0 : Int32) h) X A0) (hl : X.length ≤ 61) : ∃ A' h', ll_218 w (some 91) c' (some (94 + 17 * o + 5)) (some (94 + 17 * o + 11)) h = rtV h' ∧ ar A' h' ∧ PU A A' ∧ CR A' T X := by
  obtain ⟨⟨v1, v2, v3, x, y, c1⟩, ⟨cap, c2⟩, ⟨f3, c3⟩, c4, c5, c6, c7, ⟨x8, y8, c8⟩, ⟨cap9, c9⟩⟩ := B
  obtain ⟨h1, p1, R1⟩ := aw_P (k := 1) (t := 2) (v := .inr (.inr (some (94 + 17 * o + 5)))) R c8 (by omega) (show 1 < 3 by omega) rfl
  have s1 := st_set (y := .inl (3, [Value.ref 92, .ref (94 + 17 * o + 5), tm_r y8])) c8
  obtain ⟨A1, hA1⟩ : ∃ A1, A1 = ah_set A 91 (ac_c (.inl (3, [Value.ref 92, .ref (94 + 17 * o + 5), tm_r y8]))) := ⟨_, rfl⟩
  have R1' : ar A1 h1 := by rw [hA1]; exact R1
  rw [← hA1] at s1
  have e1 : A1.1 91 = ac_c (.inl (3, [Value.ref 92, .ref (94 + 17 * o + 5), tm_r y8])) := by rw [hA1]; exact ah_set_e
  obtain ⟨h2, p2, R2⟩ := aw_P (k := 2) (t := 2) (v := .inr (.inr (some (94 + 17 * o + 11)))) R1' e1 (by omega) (show 2 < 3 by omega) rfl
  have s2 := st_set (y := .inl (3, [Value.ref 92, .ref (94 + 17 * o + 5), .ref (94 + 17 * o + 11)])) e1
  obtain ⟨A2, hA2⟩ : ∃ A2, A2 = ah_set A1 91 (ac_c (.inl (3, [Value.ref 92, .ref (94 + 17 * o + 5), .ref (94 + 17 * o + 11)]))) := ⟨_, rfl⟩
  have R2' : ar A2 h2 := by rw [hA2]; exact R2
  rw [← hA2] at s2
  have e2 : A2.1 91 = ac_c (.inl (3, [Value.ref 92, .ref (94 + 17 * o + 5), .ref (94 + 17 * o + 11)])) := by rw [hA2]; exact ah_set_e
  have e92 : A2.1 92 = ac_t U cap9 := by rw [hA2, ah_set_n (by omega), hA1, ah_set_n (by omega)]; exact c9
  obtain ⟨A3, h3, p3, R3, e3, s3⟩ := ll_setLength (w := w) R2' e92 (n := 0) (Nat.zero_le _)
  rw [List.take_zero] at e3
  have e91 := st_c s3 R2' e2 (by intro g; cases g) (by simp)
  have s123 : PU A A3 := st_w (st_trans (st_trans s1 s2) s3) (fun b hb => by simp at hb ⊢; omega) (by omega) (by omega)
  have Q3 : CX M A3 D o F := ⟨Cf_st Q.1 R s123 (fun x hx => by simp at hx; omega), Cd_st Q.2.1 R s123 (fun x hx => by simp at hx; omega), Cb_st Q.2.2 R s123 (fun x hx => by simp at hx; omega)⟩
  have H3 : WRt A3 o [] := ⟨e91, cap9, e3⟩
  obtain ⟨A4, h4, p4, R4, s4, H4⟩ := hX A3 h3 R3 s123 [] A3 h3 R3 Q3 WU_refl H3 (by show 0 + _ ≤ 150; omega)
  rw [List.nil_append] at H4
  have s14 : PU A A4 := st_w (st_trans s123 s4) (fun b hb => by simp at hb ⊢; omega) (by omega) (by omega)
  have nm : ∀ q, q < 91 → q ∉ [91, 92] := fun q h1 z => by simp at z; omega
  obtain ⟨c5a, c5b⟩ := H4
  refine ⟨A4, h4, ?_, R4, s14, ⟨v1, v2, v3, x, y, st_c s14 R c1 (by intro q; cases q) (nm _ (by omega))⟩, ⟨cap, st_c s14 R c2 (by intro q; cases q) (nm _ (by omega))⟩, ⟨f3, st_c s14 R c3 (by intro q; cases q) (nm _ (by omega))⟩, ?_, ?_, ?_, ?_, ⟨some (94 + 17 * o + 5), some (94 + 17 * o + 11), c5a⟩, c5b⟩
  · have g1 : lf_R h2 (some 91) [3, 0] = some (some 92) := hc_R (o := some 92) (ar_c R2' e2) rfl
    unfold ll_218
    rw [p1, Option.bind_some, p2, Option.bind_some, g1, Option.bind_some, if_pos (sb_lc R2' e92), show (0 : Int32) = Int32.ofNat 0 from rfl, p3, lb_V_r, if_pos (hc_lc (ar_c R3 e91)), show ll_219 w 40 (some 91) c' (Int32.ofNat 0) h3 = rtV h4 from p4, rt_V]
  · obtain ⟨v, x, y, b, k0⟩ := c4
    exact ⟨v, x, y, b, st_c s14 R k0 (by intro q; cases q) (nm _ (by omega))⟩
  · obtain ⟨f, k0⟩ := c5
    exact ⟨f, st_c s14 R k0 (by intro q; cases q) (nm _ (by omega))⟩
  · obtain ⟨f, k0⟩ := c6
    exact ⟨f, st_c s14 R k0 (by intro q; cases q) (nm _ (by omega))⟩
  · obtain ⟨f, k0⟩ := c7
    exact ⟨f, st_c s14 R k0 (by intro q; cases q) (nm _ (by omega))⟩
end PRT2
