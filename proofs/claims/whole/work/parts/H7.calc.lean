/-! THE CLASS calculates an office; value and error answered on both sides -/
section CAL
variable {A A' A1 A2 : ah} {h h1 : pm_H} {M : aM} {D : aD} {F : fo} {G : Nat → fo} {S S' : rs_S} {o i j k p q x y z a b n m : Nat} {E L Lr Lc T U : List Nat} {fr f : Nat → Int64} {fs fs0 sg : Nat → Bool} {cs : List (Nat × Nat)} {K : kc} {ev : Int32} {fm : Bool} {ts : List (Nat × Int32)} {r : rc} {u v : Int64} {w : Option Nat} {a1 a2 a3 : Int32} {Y : List Nat}
theorem prt_tk (W : Wd D) : ∀ n p ts, prt M A D n p ts → (∀ t ∈ ts, tkO t ∧ tkG t) ∧ ∀ rest d, dpt (ts ++ rest) d = dpt rest (d + 1) := by
  have lt : ∀ l, LN D l → l < 120 := fun l hl => LN_lt W hl
  intro n
  induction n with
  | zero => intro p ts hp; cases hp
  | succ n ih =>
    intro p ts ⟨hp, hh⟩
    have one : ∀ (t : Nat × Int32), ¬ t.1 = 126 → ¬ isO t.1 → tkO t → tkG t → (∀ s ∈ [t], tkO s ∧ tkG s) ∧ ∀ rest d, dpt ([t] ++ rest) d = dpt rest (d + 1) := by
      intro t h1 h2 h3 h4
      refine ⟨fun s hs => ?_, fun rest d => ?_⟩
      · have : s = t := by simpa using hs
        rw [this]; exact ⟨h3, h4⟩
      · show dpt (t :: rest) d = _
        rw [dpt, if_neg h1, if_neg h2]
    rcases hh with ⟨v, e, t, tb⟩ | ⟨y, z, h1, h2, h3, h4, e, t⟩ | ⟨kc, cd, y, z, y2, z2, hm, h1, h2, h3, h4, h5, h6, h7, h8, e, t⟩ | ⟨q, t', e, h1, t⟩ | ⟨kc, cd, q1, q2, t1, t2, hm, e, h1, h2, t⟩
    · subst t
      exact one (97, v) (by show ¬ (97 : Nat) = 126; omega) (by show ¬ isO 97; decide) ⟨by show (97 : Nat) < 200; omega, fun g => absurd g (by show ¬ (97 : Nat) = 114; omega), fun g => absurd g (by show ¬ ((97 : Nat) = 115 ∨ (97 : Nat) = 110 ∨ (97 : Nat) = 109); omega)⟩ (Or.inl ⟨rfl, tb⟩)
    · subst t
      exact one (114, _) (by show ¬ (114 : Nat) = 126; omega) (by show ¬ isO 114; decide) ⟨by show (114 : Nat) < 200; omega, fun _ => ⟨y, z, lt y h1, lt z h2, rfl⟩, fun g => absurd g (by show ¬ ((114 : Nat) = 115 ∨ (114 : Nat) = 110 ∨ (114 : Nat) = 109); omega)⟩ (Or.inr (Or.inl rfl))
    · subst t
      have hk' : cd = 115 ∨ cd = 110 ∨ cd = 109 := by
        unfold kcB at hm
        simp at hm
        omega
      exact one (cd, _) (by show ¬ cd = 126; omega) (by show ¬ isO cd; omega) ⟨by show cd < 200; omega, fun g => absurd g (by show ¬ cd = 114; omega), fun _ => ⟨y, z, y2, z2, lt y h1, lt z h2, lt y2 h3, lt z2 h4, rfl⟩⟩ (Or.inr (Or.inr (Or.inl hk')))
    · subst t
      obtain ⟨g1, g2⟩ := ih q t' h1
      refine ⟨fun s hs => ?_, fun rest d => ?_⟩
      · rcases List.mem_append.mp hs with z | z
        · exact g1 s z
        · have : s = (126, 0) := by simpa using z
          rw [this]
          exact ⟨⟨by show (126 : Nat) < 200; omega, fun g => absurd g (by show ¬ (126 : Nat) = 114; omega), fun g => absurd g (by show ¬ ((126 : Nat) = 115 ∨ (126 : Nat) = 110 ∨ (126 : Nat) = 109); omega)⟩, Or.inr (Or.inr (Or.inr (Or.inl rfl)))⟩
      · rw [List.append_assoc, g2]
        show dpt ((126, 0) :: rest) (d + 1) = _
        rw [dpt, if_pos rfl, if_neg (by omega)]
    · subst t
      have hk' : cd = 43 ∨ cd = 45 ∨ cd = 42 ∨ cd = 47 := by
        unfold kcT at hm
        simp at hm
        omega
      obtain ⟨g1, g2⟩ := ih q1 t1 h1
      obtain ⟨g3, g4⟩ := ih q2 t2 h2
      refine ⟨fun s hs => ?_, fun rest d => ?_⟩
      · rcases List.mem_append.mp hs with z | z
        · rcases List.mem_append.mp z with z | z
          · exact g1 s z
          · exact g3 s z
        · have : s = (cd, 0) := by simpa using z
          rw [this]
          exact ⟨⟨by show cd < 200; omega, fun g => absurd g (by show ¬ cd = 114; omega), fun g => absurd g (by show ¬ (cd = 115 ∨ cd = 110 ∨ cd = 109); omega)⟩, Or.inr (Or.inr (Or.inr (Or.inr hk')))⟩
      · rw [List.append_assoc, List.append_assoc, g2, g4]
        show dpt ((cd, 0) :: rest) (d + 1 + 1) = _
        rw [dpt, if_neg (show ¬ cd = 126 by omega), if_pos (show isO cd from hk'), if_neg (by omega), Nat.add_sub_cancel]
/-- contents on both sides -/
theorem KR_of (W : Wd D) (C : CTT M A D S) (h1 : D a = some r) (h2 : rk r = 6) : KR S a ∧ ((rct r = none ∧ KA S a = none) ∨ ∃ p fm ts, rct r = some p ∧ KA S a = some (fm, ts) ∧ PT M A D p fm ts) := by
  obtain ⟨c1, -⟩ := C a r h1 h2
  rcases c1 with ⟨e1, e2⟩ | ⟨p, id, ts, e1, e2, e3, e4, e5, e6, e7⟩
  · exact ⟨Or.inl e2, Or.inl ⟨e1, by unfold KA; rw [if_pos e2]⟩⟩
  · obtain ⟨rr, hrr⟩ := e2
    have hid := (W id rr hrr).1
    have key : ∀ n q fm, prt M A D n q ts → (S.2.1 12 id = if fm = true then 1 else 0) → (fm = false → ∃ v, ts = [(97, v)]) → PT M A D p fm ts → KR S a ∧ ((rct r = none ∧ KA S a = none) ∨ ∃ p fm ts, rct r = some p ∧ KA S a = some (fm, ts) ∧ PT M A D p fm ts) := by
      intro n q fm hp h12 hv hPT
      obtain ⟨g1, g2⟩ := prt_tk W n q ts hp
      have T : TKS id ts S := ⟨hid, e4.1, e5, fun j hj => ⟨(e6 j hj).1, (e6 j hj).2, (g1 _ (by rw [List.getD_eq_getElem?_getD, List.getElem?_eq_getElem hj]; exact List.getElem_mem hj)).1⟩⟩
      have hd : dpt ts 0 = some 1 := by
        have := g2 [] 0
        rw [List.append_nil] at this
        exact this
      have hKR : KR S a := Or.inr ⟨id, fm, ts, e3, T, h12, fun t ht => (g1 t ht).2, hd, hv⟩
      refine ⟨hKR, Or.inr ⟨p, fm, ts, e1, ?_, hPT⟩⟩
      unfold KA
      rw [if_neg (fun e => by
        rw [e3] at e
        have := congrArg Int32.toInt e
        rw [Int32.toInt_ofNat_of_lt (by omega)] at this
        have e1 : (-1 : Int32).toInt = -1 := rfl
        omega), e3, i32_tn (by omega), rowK_e T h12]
    rcases e7 with ⟨g1, g2, g3⟩ | ⟨g1, g2, q, g3, g4⟩
    · exact key 1 p false g3 g1 (fun _ => g2) (Or.inl ⟨rfl, g3⟩)
    · exact key 22 q true g4 g1 (fun z => by cases z) (Or.inr ⟨rfl, g2, q, g3, g4⟩)
theorem KRA_of (W : Wd D) (C : CTT M A D S) : KRA D S := fun a r h1 h2 => (KR_of W C h1 h2).1
/-! the listed cells are all -/
theorem clk_sub : ∀ n j cs p, p ∈ cs → p ∈ clk D F n j cs
  | 0, _, _, _, h => h
  | n + 1, j, cs, p, h => by
    rw [clk]
    refine clk_sub n (j + 1) _ p ?_
    split
    · exact List.mem_append_left _ h
    · exact h
theorem clk_all : ∀ n j cs x, j ≤ x → x < j + n → wtk D F x = true → (rwo D x, clo D x) ∈ clk D F n j cs
  | 0, j, _, x, h1, h2, _ => by omega
  | n + 1, j, cs, x, h1, h2, hw => by
    rw [clk]
    by_cases q : x = j
    · subst q
      refine clk_sub n (x + 1) _ _ ?_
      cases e : fnd cs 0 (rwo D x) (clo D x) with
      | none => rw [if_pos ⟨hw, rfl⟩]; exact List.mem_append_right _ List.mem_cons_self
      | some i =>
        rw [if_neg (fun z => by cases z.2)]
        obtain ⟨g1, g2, g3⟩ := fnd_lt cs 0 _ _ i e
        rw [Nat.sub_zero] at g3
        rw [← g3]
        exact gd_mem (by omega)
    · exact clk_all n (j + 1) _ x (by omega) (by omega) hw
theorem EP_of (I : OI D F) (Wff : Wf D o F) (P : EL D (xS (fX F 0)) (xS (fX F 1)) E (fW F)) (hl : E.length ≤ 120) : EP D F (xS (fX F 0)) (xS (fX F 1)) E := ⟨P, hl, (xA_pos I (k := 0) (by omega)).2, (xA_pos I (k := 1) (by omega)).2, (Wff.2.2.2.2.2.2 0 (by omega)).2.2.2.2.2, (Wff.2.2.2.2.2.2 1 (by omega)).2.2.2.2.2⟩
theorem EA_of (Wff : Wf D o F) (P : EP D F Lr Lc E) : EA D E := ⟨P.2.1, fun a ha => Wff.2.2.2.1 a ((P.1.2 a).mp ha).1⟩
theorem LNK_of (R : RT D o F S) (W : Wd D) (Wff : Wf D o F) (I : OI D F) (C : CTT M A D S) (P : EP D F Lr Lc E) (hn : n = 120) : LNK0 D E Lr Lc (clA D F n) (KF D F S (clA D F n)) := by
  refine ⟨fun y z e => ?_, fun y z i hs e => ?_⟩
  · cases e2 : fnd (prs D E) 0 y z with
    | none => rfl
    | some j =>
      exfalso
      obtain ⟨h1, h2, h3⟩ := prs_f e2
      have ha := ((P.1.2 _).mp (el_mem h1)).1
      obtain ⟨r, hr, h6⟩ := Wff.2.2.2.1 _ ha
      have ht := I.1.2.2 _ ha
      have hw : wtk D F (E.getD j 0) = true := by unfold wtk; rw [tkB_t.mpr ht, knd_e hr]; simp [h6]
      have hm := clk_all n 0 [] (E.getD j 0) (Nat.zero_le _) (by have := (W _ r hr).1; omega) hw
      rw [h2, h3] at hm
      obtain ⟨i, hi⟩ := fnd_some _ 0 y z hm
      unfold clA at e
      rw [hi] at e
      cases e
  · have hc := (fnd_lt _ 0 _ _ i e).2.2
    rw [Nat.sub_zero] at hc
    have hi := fnd_b e
    obtain ⟨a, r, g1, g2, g3, g4, g5⟩ := KF_s (S := S) R W Wff I (show n ≤ 120 by omega) hi
    rw [hc] at g1
    rw [g5]
    obtain ⟨rr, w1, w2, w3, w4, w5⟩ := wtc_r Wff W g1
    rw [g2] at w1
    cases w1
    have haW : a ∈ fW F := by unfold wtc at g1; exact List.mem_of_find?_eq_some g1
    obtain ⟨f1, f2, -, -⟩ := act_wr W g2 g3
    have p1 : rwo D a = y := Option.some.inj (f1.symm.trans w4)
    have p2 : clo D a = z := Option.some.inj (f2.symm.trans w5)
    have hcn : cnB D Lr Lc a = (rct r).isSome := by
      unfold cnB
      rw [p1, p2, hs, g2, Bool.and_true]
      rfl
    rcases (KR_of W C g2 g3).2 with ⟨k1, k2⟩ | ⟨p, fm, ts, k1, k2, -⟩
    · rw [k2]
      cases e2 : fnd (prs D E) 0 y z with
      | none => rfl
      | some j =>
        exfalso
        obtain ⟨h1, h2, h3⟩ := prs_f e2
        obtain ⟨hb1, hb2⟩ := (P.1.2 _).mp (el_mem h1)
        obtain ⟨rb, hrb, hb6⟩ := Wff.2.2.2.1 _ hb1
        have wb := wrB_o W hrb hb6
        rw [h2, h3] at wb
        have := wtc_u I hb1 wb
        rw [g1] at this
        rw [← Option.some.inj this, hcn, k1] at hb2
        cases hb2
    · rw [k2]
      have haE : a ∈ E := (P.1.2 a).mpr ⟨haW, by rw [hcn, k1]; rfl⟩
      have hm := prs_m (D := D) haE
      rw [p1, p2] at hm
      obtain ⟨j, hj⟩ := fnd_some _ 0 y z hm
      rw [hj]
      rfl
theorem PTE_of (R : RT D o F S) (W : Wd D) (Wff : Wf D o F) (I : OI D F) (C : CTT M A D S) (P : EP D F Lr Lc E) (hn : n = 120) : PTE M A D E (clA D F n) (KF D F S (clA D F n)) := by
  intro j hj
  have N := LNK_of (Lr := Lr) (Lc := Lc) R W Wff I C P hn
  obtain ⟨e1, e2, e3⟩ := ixE_s P N hj
  have hc := (fnd_lt _ 0 _ _ _ e1).2.2
  rw [Nat.sub_zero] at hc
  obtain ⟨a, r, g1, g2, g3, g4, g5⟩ := KF_s (S := S) R W Wff I (show n ≤ 120 by omega) e2
  rw [hc] at g1
  obtain ⟨hb1, hb2⟩ := (P.1.2 _).mp (el_mem hj)
  obtain ⟨rb, hrb, hb6⟩ := Wff.2.2.2.1 _ hb1
  have hu := wtc_u I hb1 (wrB_o W hrb hb6)
  rw [hu] at g1
  have ea : E.getD j 0 = a := Option.some.inj g1
  rw [← ea] at g2 g5
  rcases (KR_of W C g2 g3).2 with ⟨k1, k2⟩ | ⟨p, fm, ts, k1, k2, k3⟩
  · rw [g5, k2] at e3; cases e3
  · have ht : tsE D E (clA D F n) (KF D F S (clA D F n)) j = ts := by unfold tsE; rw [g5, k2]; rfl
    rw [ht]
    exact ⟨r, p, fm, g2, k1, by rw [g5, k2], k3⟩
/-- the calculator's cells stay what they are to be -/
theorem CR_u (R : ar A h) (C : CR A T U) (s : CU A A') (H : CCi M A' o E fr fs ev) : CR A' T U := by
  obtain ⟨⟨v1, v2, v3, x, y, c1⟩, ⟨cap, c2⟩, ⟨f3, c3⟩, -, -, -, -, ⟨x8, y8, c8⟩, ⟨cap9, c9⟩⟩ := C
  obtain ⟨k0, ⟨g, k1, -⟩, k3, k4⟩ := H
  have nm : ∀ q, q < 87 ∨ 90 < q → q ∉ [87, 88, 89, 90] := fun q h1 z => by have := CU_m z; omega
  exact ⟨⟨v1, v2, v3, x, y, st_c s R c1 (by intro q; cases q) (nm _ (by omega))⟩, ⟨cap, st_c s R c2 (by intro q; cases q) (nm _ (by omega))⟩, ⟨f3, st_c s R c3 (by intro q; cases q) (nm _ (by omega))⟩, ⟨_, some (94 + 17 * o + 5), some (94 + 17 * o + 11), _, k0⟩, ⟨g, k1⟩, ⟨fr, k3⟩, ⟨fs, k4⟩, ⟨x8, y8, st_c s R c8 (by intro q; cases q) (nm _ (by omega))⟩, ⟨cap9, st_c s R c9 (by intro q; cases q) (nm _ (by omega))⟩⟩
theorem c187 (R : ar A h) (Q : CX M A D o F) (B : CR A T U) (RR : RT D o F S) (W : Wd D) (Wff : Wf D o F) (I : OI D F) (C : CTT M A D S) (hn : n = 120) : ∃ A' h' E fr fs ev, ll_187 (some 87) (some (94 + 17 * o)) h = rtV h' ∧ ar A' h' ∧ CU A A' ∧ CCi M A' o E fr fs ev ∧ EP D F (xS (fX F 0)) (xS (fX F 1)) E ∧ SI D E (clA D F n) (xS (fX F 0)) (xS (fX F 1)) (KF D F S (clA D F n)) fr fs ∧ DN D E (clA D F n) (xS (fX F 0)) (xS (fX F 1)) (KF D F S (clA D F n)) fs := by
  obtain ⟨A1, h1, E, fr, fs, ev, p1, R1, s1, H1, P1, l1, z1⟩ := c188 R Q B W Wff I
  have P := EP_of I Wff P1 l1
  have C1 : CTT M A1 D S := CTT_s C R s1 (fun x hx => by have := CU_m hx; omega) rfl
  have N := LNK_of (Lr := xS (fX F 0)) (Lc := xS (fX F 1)) RR W Wff I C1 P hn
  have hK := KOK_of (Lr := xS (fX F 0)) (Lc := xS (fX F 1)) RR W Wff I (show n ≤ 120 by omega) (KRA_of W C1)
  obtain ⟨A2, h2, fr2, fs2, ev2, v1, v2, v3, v4, v5, v6⟩ := c187o (M := M) W Wff I (EA_of Wff P) P N hK (E.length + 1) lf_N 0 true fr fs ev A1 h1 (by omega) (by unfold lf_N; omega) R1 (CX_u R Q s1) H1 (PTE_of RR W Wff I C1 P hn) (fun j hj hf => by rw [(z1 j hj).2] at hf; cases hf) (fun _ => Nat.zero_le _) (fun g => by cases g)
  have hc : lc_of h (some 87) = some 2 := by
    obtain ⟨-, -, -, ⟨v, x, y, b, k0⟩, -⟩ := B
    exact hc_lc (ar_c R k0)
  refine ⟨A2, h2, E, fr2, fs2, ev2, ?_, v2, CU_tr s1 v3, v4, P, v5, v6⟩
  unfold ll_187
  rw [if_pos hc, p1, rt_V]
  exact v1
theorem c207 (R : ar A h) (Q : CX M A D o F) (W : Wd D) (H : CCi M A o E fr fs ev) (hE : EA D E) (hy : LN D y) (hz : LN D z) : ll_207 (some 87) (some (M 1 y)) (some (M 1 z)) h = rtJ ((fnd (prs D E) 0 y z).elim 0 (fun j => if fs j = true then fr j else 1000000003)) h := by
  obtain ⟨n0, n1⟩ := cell_n R H
  unfold ll_207
  rw [if_pos n1, c196 R Q W H hE hy hz, rt_I]
  cases e : fnd (prs D E) 0 y z with
  | none => rw [if_pos (show oi none = (-1 : Int32) from rfl)]; rfl
  | some x =>
    have hx := (prs_f e).1
    have hE1 := hE.1
    obtain ⟨k0, -, k3, k4⟩ := H
    have d2 : lf_R h (some 87) [2, 2] = some (some 90) := hc_R (o := some 90) (ar_c R k0) rfl
    have d3 : la_I h .baload (some 90) (Int32.ofNat x) = some (if fs x = true then 1 else 0) := hc_ldI (ar_c R k4) rfl (by omega) (ra_get (show x < 120 by omega))
    have d4 : lf_R h (some 87) [2, 1] = some (some 89) := hc_R (o := some 89) (ar_c R k0) rfl
    have d5 : la_J h .laload (some 89) (Int32.ofNat x) = some (fr x) := hc_ldJ (ar_c R k3) rfl (by omega) (ra_get (show x < 120 by omega))
    rw [if_neg (fun q => by have := (oi_m1 (x := some x) (fun i hi => by cases hi; omega)).mp q; cases this), show oi (some x) = Int32.ofNat x from rfl, d2, Option.bind_some, d3, Option.bind_some]
    show _ = rtJ (if fs x = true then fr x else 1000000003) h
    cases hf : fs x with
    | true => rw [if_pos rfl, if_neg (by decide), d4, Option.bind_some, d5]; rfl
    | false => rfl
end CAL
