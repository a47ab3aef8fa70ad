/-! THE CLASS's list of cells -/
/-- sorted by where they stand -/
def SR (D : aD) (Lr Lc E : List Nat) : Prop := ∀ i j, i < j → j < E.length → kyA D Lr Lc (E.getD i 0) < kyA D Lr Lc (E.getD j 0)
/-- just those of the writes that are shown and hold something -/
def EL (D : aD) (Lr Lc E Wt : List Nat) : Prop := SR D Lr Lc E ∧ ∀ a, a ∈ E ↔ a ∈ Wt ∧ cnB D Lr Lc a = true
section LY2
variable {A A' A2 : ah} {h : pm_H} {M : aM} {D : aD} {X : ax} {F : fo} {c o i j l k p q x y z y2 z2 p2 q2 a b n m d s : Nat} {r : rc} {w : Option Nat} {E L Lr Lc Wt T U : List Nat} {fr f : Nat → Int64} {fs sg : Nat → Bool} {ev : Int32}
theorem inz_mem : x ∈ E.take s ++ a :: E.drop s ↔ x = a ∨ x ∈ E := by
  rw [List.mem_append, List.mem_cons]
  conv => rhs; rw [← List.take_append_drop s E, List.mem_append]
  constructor
  · rintro (q | q | q)
    · exact Or.inr (Or.inl q)
    · exact Or.inl q
    · exact Or.inr (Or.inr q)
  · rintro (q | q | q)
    · exact Or.inr (Or.inl q)
    · exact Or.inl q
    · exact Or.inr (Or.inr q)
theorem SR_ins (S : SR D Lr Lc E) (hs : s ≤ E.length) (h1 : ∀ i, s ≤ i → i < E.length → kyA D Lr Lc a < kyA D Lr Lc (E.getD i 0)) (h2 : 0 < s → kyA D Lr Lc (E.getD (s - 1) 0) ≤ kyA D Lr Lc a) (hn : ∀ b ∈ E, kyA D Lr Lc b ≠ kyA D Lr Lc a) : SR D Lr Lc (E.take s ++ a :: E.drop s) := by
  have hlen : (E.take s ++ a :: E.drop s).length = E.length + 1 := by rw [List.length_append, List.length_cons, List.length_take, List.length_drop]; omega
  intro i j hij hj
  rw [hlen] at hj
  rw [ins_g hs, ins_g hs]
  by_cases q1 : i < s
  · rw [if_pos q1]
    by_cases q2 : j < s
    · rw [if_pos q2]; exact S i j hij (by omega)
    · rw [if_neg q2]
      by_cases q3 : j = s
      · rw [if_pos q3]
        have h3 := h2 (by omega)
        by_cases q4 : i = s - 1
        · have h4 := hn _ (gl_mem (L := E) (i := s - 1) (by omega))
          rw [q4]
          omega
        · have h4 := S i (s - 1) (by omega) (by omega)
          omega
      · rw [if_neg q3]; exact S i (j - 1) (by omega) (by omega)
  · rw [if_neg q1]
    by_cases q2 : i = s
    · rw [if_pos q2, if_neg (by omega), if_neg (by omega)]
      exact h1 (j - 1) (by omega) (by omega)
    · rw [if_neg q2, if_neg (by omega), if_neg (by omega)]
      exact S (i - 1) (j - 1) (by omega) (by omega)
/-- one write for each cell -/
theorem cell_u (I : OI D F) (ha : a ∈ fW F) (hb : b ∈ fW F) (wa : wrB D y z a = true) (wb : wrB D y z b = true) : a = b := by
  have h := (I.2.2.1 y z).2
  have m1 := List.mem_filter.mpr ⟨ha, wa⟩
  have m2 := List.mem_filter.mpr ⟨hb, wb⟩
  cases e : (fW F).filter (wrB D y z) with
  | nil => rw [e] at m1; cases m1
  | cons c t =>
    rw [e] at h m1 m2
    cases t with
    | nil =>
      have h1 : a = c := by simpa using m1
      have h2 : b = c := by simpa using m2
      rw [h1, h2]
    | cons c2 t => simp at h
theorem wtc_u (I : OI D F) (ha : a ∈ fW F) (wa : wrB D y z a = true) : wtc D F y z = some a := by
  unfold wtc
  cases e : (fW F).find? (wrB D y z) with
  | none =>
    have := List.find?_eq_none.mp e a ha
    exact absurd wa this
  | some b => rw [cell_u I ha (List.mem_of_find?_eq_some e) wa (List.find?_some e)]
theorem wrB_o (W : Wd D) (ha : D a = some r) (h6 : rk r = 6) : wrB D (rwo D a) (clo D a) a = true := by
  obtain ⟨f1, f2, -, -⟩ := act_wr W ha h6
  unfold wrB
  rw [ha, Option.bind_some, Option.bind_some, f1, f2]
  simp
theorem ky_inj (hc : Lc.length ≤ 120) (sa : shB Lr Lc (rwo D a) (clo D a) = true) (sb : shB Lr Lc (rwo D b) (clo D b) = true) (e : kyA D Lr Lc a = kyA D Lr Lc b) : rwo D a = rwo D b ∧ clo D a = clo D b := by
  obtain ⟨x, x2, u1, u2⟩ := shB_t sa
  obtain ⟨y, y2, u3, u4⟩ := shB_t sb
  unfold kyA at e
  rw [u1, u2, u3, u4, Option.getD_some, Option.getD_some, Option.getD_some, Option.getD_some] at e
  have b2 := pos_lt u2
  have b4 := pos_lt u4
  have e1 : x = y := by omega
  have e2 : x2 = y2 := by omega
  rw [← pos_d u1, ← pos_d u2, ← pos_d u3, ← pos_d u4, e1, e2]
  exact ⟨rfl, rfl⟩
theorem tk_s (hj : j < Wt.length) : Wt.take (j + 1) = Wt.take j ++ [Wt.getD j 0] := by
  rw [List.take_succ, List.getD_eq_getElem?_getD, List.getElem?_eq_getElem hj]
  rfl
theorem c191 (R : ar A h) (Q : CX M A D o F) (H : CCi M A o E fr fs ev) (W : Wd D) (Wff : Wf D o F) (I : OI D F) (hE : EA D E) (hS : ES D (xS (fX F 0)) (xS (fX F 1)) E) (hl : E.length < 120) (ha : D a = some r) (h6 : rk r = 6) (sa : shB (xS (fX F 0)) (xS (fX F 1)) (rwo D a) (clo D a) = true) : ∃ A' h' s, ll_191 (some 87) (some (M 0 a)) h = rtV h' ∧ ar A' h' ∧ CU A A' ∧ s ≤ E.length ∧ CCi M A' o (E.take s ++ a :: E.drop s) (up fr E.length 0) (up fs E.length false) ev ∧ (∀ i, s ≤ i → i < E.length → kyA D (xS (fX F 0)) (xS (fX F 1)) a < kyA D (xS (fX F 0)) (xS (fX F 1)) (E.getD i 0)) ∧ (0 < s → kyA D (xS (fX F 0)) (xS (fX F 1)) (E.getD (s - 1) 0) ≤ kyA D (xS (fX F 0)) (xS (fX F 1)) a) := by
  have H' := H
  obtain ⟨k0, ⟨g, k1, k2⟩, k3, k4⟩ := H'
  have G : CG M A o E fr fs ev E.length := ⟨k0, ⟨g, k1, k2, fun i h1 h2 => absurd h1 (by omega)⟩, k3, k4⟩
  obtain ⟨A', h', s, p⟩ := l191 W Wff I hE hS hl ha h6 sa lf_N E.length A h (by unfold lf_N; omega) (Nat.le_refl _) R Q G (fun i h1 h2 => absurd h2 (by omega))
  refine ⟨A', h', s, ?_, p.2⟩
  unfold ll_191
  rw [(cell_n R H).1, Option.bind_some]
  exact p.1
theorem c188l (W : Wd D) (Wff : Wf D o F) (I : OI D F) : ∀ n m j E fr fs A h, j + n = (fW F).length → n < m → ar A h → CX M A D o F → CCi M A o E fr fs ev → EL D (xS (fX F 0)) (xS (fX F 1)) E ((fW F).take j) → E.length ≤ j → (∀ i, i < E.length → fr i = 0 ∧ fs i = false) → ∃ A' h' E' fr' fs', l188_27 m (some 87) (some (94 + 17 * o)) (Int32.ofNat j) h = rtV h' ∧ ar A' h' ∧ CU A A' ∧ CCi M A' o E' fr' fs' ev ∧ EL D (xS (fX F 0)) (xS (fX F 1)) E' (fW F) ∧ E'.length ≤ 120 ∧ ∀ i, i < E'.length → fr' i = 0 ∧ fs' i = false := by
  have hW := Wff.2.2.2.1
  have hlen := Wff.2.2.2.2.1
  intro n
  induction n with
  | zero =>
    intro m j E fr fs A h h1 h2 R Q H HE hl hz
    cases m with
    | zero => omega
    | succ m =>
      obtain ⟨c0, c1, c2, c3, ⟨cap, c4⟩, c5⟩ := Q.1
      rw [List.take_of_length_le (by omega)] at HE
      refine ⟨A, h, E, fr, fs, ?_, R, CU_refl, H, HE, by omega, hz⟩
      rw [l188_27]
      dsimp only
      rw [hc_R (o := some (94 + 17 * o + 4)) (ar_c R c0) rfl, Option.bind_some, if_pos (ar_lc R c4), ll_size R c4, List.length_map, rt_I, if_pos ((i32_len (by omega) (by omega)).mpr (by omega))]
  | succ n ih =>
    intro m j E fr fs A h h1 h2 R Q H HE hl hz
    cases m with
    | zero => omega
    | succ m =>
      have hj : j < (fW F).length := by omega
      have n4 : Int32.ofNat j + (1 : Int32) = Int32.ofNat (j + 1) := i32_add j 1
      obtain ⟨c0, c1, c2, c3, ⟨cap, c4⟩, c5⟩ := Q.1
      obtain ⟨r, hr, hk⟩ := hW _ (gl_mem hj)
      have hget := ll_get R c4 (i := j) (by rw [List.length_map]; exact hj)
      rw [gl_map hj] at hget
      have htk := tk_s hj
      have hmem := gl_mem hj
      have hnd := I.1.2.1
      have hnj : (fW F).getD j 0 ∉ (fW F).take j := by
        intro z
        have e : fW F = (fW F).take j ++ (fW F).getD j 0 :: (fW F).drop (j + 1) := by rw [← gl_drop hj, List.take_append_drop]
        rw [e, List.nodup_append] at hnd
        exact hnd.2.2 _ z _ List.mem_cons_self rfl
      generalize hg : (fW F).getD j 0 = g at hr hget htk hmem hnj
      have hcc : lf_cc 81 h (some (M 0 g)) [7] = true := by
        unfold lf_cc
        dsimp only
        rw [ar_c R (Q.2.1.1 g r hr).1]
        rfl
      obtain ⟨r8, r9, r10⟩ := act_rd R Q.2.1 W hr hk
      obtain ⟨-, -, n1, n2⟩ := act_wr W hr hk
      have ecn : cnB D (xS (fX F 0)) (xS (fX F 1)) g = ((rct r).isSome && shB (xS (fX F 0)) (xS (fX F 1)) (rwo D g) (clo D g)) := by unfold cnB; rw [hr]; rfl
      have skip : cnB D (xS (fX F 0)) (xS (fX F 1)) g = false → ∃ A' h' E' fr' fs', l188_77 (l188_27 m) (some 87) (some (94 + 17 * o)) (Int32.ofNat j) h = rtV h' ∧ ar A' h' ∧ CU A A' ∧ CCi M A' o E' fr' fs' ev ∧ EL D (xS (fX F 0)) (xS (fX F 1)) E' (fW F) ∧ E'.length ≤ 120 ∧ ∀ i, i < E'.length → fr' i = 0 ∧ fs' i = false := by
        intro hc
        unfold l188_77
        rw [n4]
        refine ih m (j + 1) E fr fs A h (by omega) (by omega) R Q H ⟨HE.1, fun x => ?_⟩ (by omega) hz
        rw [HE.2 x, htk, List.mem_append]
        constructor
        · exact fun z => ⟨Or.inl z.1, z.2⟩
        · rintro ⟨z | z, z2⟩
          · exact ⟨z, z2⟩
          · have : x = g := by simpa using z
            rw [this, hc] at z2
            cases z2
      rw [l188_27]
      dsimp only
      rw [hc_R (o := some (94 + 17 * o + 4)) (ar_c R c0) rfl, Option.bind_some, if_pos (ar_lc R c4), ll_size R c4, List.length_map, rt_I, if_neg (fun z => by have := (i32_len (by omega) (by omega)).mp z; omega), hc_R (o := some (94 + 17 * o + 4)) (ar_c R c0) rfl, Option.bind_some, if_pos (ar_lc R c4), hget, rt_R, if_pos hcc, r10, Option.bind_some]
      cases hct : rct r with
      | none =>
        rw [hct] at ecn
        exact skip ecn
      | some pp =>
        rw [hct] at ecn
        dsimp only
        rw [r8, Option.bind_some, r9, Option.bind_some, if_pos (cell_n R H).2, c189 R Q W Wff I H n1 n2, rt_I]
        by_cases hs : shB (xS (fX F 0)) (xS (fX F 1)) (rwo D g) (clo D g) = true
        · have hEA : EA D E := ⟨by omega, fun x hx => hW x (List.mem_of_mem_take ((HE.2 x).mp hx).1)⟩
          have hES : ES D (xS (fX F 0)) (xS (fX F 1)) E := fun x hx => by
            have := ((HE.2 x).mp hx).2
            unfold cnB at this
            rw [Bool.and_eq_true] at this
            exact this.2
          obtain ⟨A1, h1', s, p1, R1, s1, hs1, H1, u1, u2⟩ := c191 R Q H W Wff I hEA hES (by omega) hr hk hs
          have hlen2 : (E.take s ++ g :: E.drop s).length = E.length + 1 := by rw [List.length_append, List.length_cons, List.length_take, List.length_drop]; omega
          obtain ⟨A2, h2', E', fr', fs', v1, v2, v3, v4, v5⟩ := ih m (j + 1) (E.take s ++ g :: E.drop s) _ _ A1 h1' (by omega) (by omega) R1 (CX_u R Q s1) H1 ⟨SR_ins HE.1 hs1 u1 u2 (fun b hb e => by
              have hb1 := (HE.2 b).mp hb
              have hbW := List.mem_of_mem_take hb1.1
              obtain ⟨rb, hrb, hkb⟩ := hW b hbW
              have w1 := (Wff.2.2.2.2.2.2 1 (by omega)).2.2.2.2.2
              obtain ⟨i1, i2⟩ := ky_inj w1 (hES b hb) hs e
              have wb := wrB_o W hrb hkb
              rw [i1, i2] at wb
              have : b = g := cell_u I hbW hmem wb (wrB_o W hr hk)
              exact hnj (this ▸ hb1.1)), fun x => by
              rw [inz_mem, HE.2 x, htk, List.mem_append]
              have hcg : cnB D (xS (fX F 0)) (xS (fX F 1)) g = true := by rw [ecn, hs]; rfl
              constructor
              · rintro (z | z)
                · rw [z]; exact ⟨Or.inr List.mem_cons_self, hcg⟩
                · exact ⟨Or.inl z.1, z.2⟩
              · rintro ⟨z | z, z2⟩
                · exact Or.inr ⟨z, z2⟩
                · exact Or.inl (by simpa using z)⟩ (by rw [hlen2]; omega) (fun i hi => by
              rw [hlen2] at hi
              by_cases q : i = E.length
              · rw [q, up_e, up_e]; exact ⟨rfl, rfl⟩
              · rw [up_n q, up_n q]; exact hz i (by omega))
          refine ⟨A2, h2', E', fr', fs', ?_, v2, CU_tr s1 v3, v4, v5⟩
          rw [if_pos hs, if_neg (by decide), if_pos (cell_n R H).2, p1, rt_V]
          unfold l188_77
          rw [n4]
          exact v1
        · have hsf : shB (xS (fX F 0)) (xS (fX F 1)) (rwo D g) (clo D g) = false := by simpa using hs
          rw [if_neg hs, if_pos rfl]
          exact skip (by rw [ecn, hsf]; rfl)
theorem c188 (R : ar A h) (Q : CX M A D o F) (C : CR A T U) (W : Wd D) (Wff : Wf D o F) (I : OI D F) : ∃ A' h' E fr fs ev, ll_188 (some 87) (some (94 + 17 * o)) h = rtV h' ∧ ar A' h' ∧ CU A A' ∧ CCi M A' o E fr fs ev ∧ EL D (xS (fX F 0)) (xS (fX F 1)) E (fW F) ∧ E.length ≤ 120 ∧ ∀ i, i < E.length → fr i = 0 ∧ fs i = false := by
  obtain ⟨-, -, -, ⟨v, x, y, b, k0⟩, ⟨g, k1⟩, ⟨fr0, k2⟩, ⟨fs0, k3⟩, -⟩ := C
  obtain ⟨c0, c1, c2, c3, c4, c5⟩ := Q.1
  obtain ⟨h1, p1, R1⟩ := aw_P (k := 4) (t := 2) (v := .inr (.inr (some (94 + 17 * o + 5)))) R k0 (by omega) (show 4 < 7 by omega) rfl
  have s1 := CU_set (y1 := .inl (2, [Value.ref 88, .ref 89, .ref 90, .int v, .ref (94 + 17 * o + 5), tm_r y, .int b])) k0 (Or.inl rfl)
  have e1 : (ah_set A 87 (ac_c (.inl (2, [Value.ref 88, .ref 89, .ref 90, .int v, .ref (94 + 17 * o + 5), tm_r y, .int b])))).1 87 = _ := ah_set_e
  obtain ⟨A1, hA1⟩ : ∃ A1, A1 = ah_set A 87 (ac_c (.inl (2, [Value.ref 88, .ref 89, .ref 90, .int v, .ref (94 + 17 * o + 5), tm_r y, .int b]))) := ⟨_, rfl⟩
  have R1' : ar A1 h1 := by rw [hA1]; exact R1
  rw [← hA1] at s1 e1
  have Q1 := CX_u R Q s1
  obtain ⟨d0, -, -, d3, -⟩ := Q1.1
  obtain ⟨h2, p2, R2⟩ := aw_P (k := 5) (t := 2) (v := .inr (.inr (some (94 + 17 * o + 11)))) R1' e1 (by omega) (show 5 < 7 by omega) rfl
  have s2 := CU_set (y1 := .inl (2, [Value.ref 88, .ref 89, .ref 90, .int v, .ref (94 + 17 * o + 5), .ref (94 + 17 * o + 11), .int b])) e1 (Or.inl rfl)
  have e2 : (ah_set A1 87 (ac_c (.inl (2, [Value.ref 88, .ref 89, .ref 90, .int v, .ref (94 + 17 * o + 5), .ref (94 + 17 * o + 11), .int b])))).1 87 = _ := ah_set_e
  obtain ⟨A2, hA2⟩ : ∃ A2, A2 = ah_set A1 87 (ac_c (.inl (2, [Value.ref 88, .ref 89, .ref 90, .int v, .ref (94 + 17 * o + 5), .ref (94 + 17 * o + 11), .int b]))) := ⟨_, rfl⟩
  have R2' : ar A2 h2 := by rw [hA2]; exact R2
  rw [← hA2] at s2 e2
  obtain ⟨h3, p3, R3⟩ := aw_P (k := 3) (t := 0) (v := .inl 0) R2' e2 (by omega) (show 3 < 7 by omega) rfl
  have s3 := CU_set (y1 := .inl (2, [Value.ref 88, .ref 89, .ref 90, .int 0, .ref (94 + 17 * o + 5), .ref (94 + 17 * o + 11), .int b])) e2 (Or.inl rfl)
  have e3 : (ah_set A2 87 (ac_c (.inl (2, [Value.ref 88, .ref 89, .ref 90, .int 0, .ref (94 + 17 * o + 5), .ref (94 + 17 * o + 11), .int b])))).1 87 = _ := ah_set_e
  obtain ⟨A3, hA3⟩ : ∃ A3, A3 = ah_set A2 87 (ac_c (.inl (2, [Value.ref 88, .ref 89, .ref 90, .int 0, .ref (94 + 17 * o + 5), .ref (94 + 17 * o + 11), .int b]))) := ⟨_, rfl⟩
  have R3' : ar A3 h3 := by rw [hA3]; exact R3
  rw [← hA3] at s3 e3
  have s13 := CU_tr (CU_tr s1 s2) s3
  have nn : ∀ b, b ≠ 87 → A3.1 b = A.1 b := fun b hb => by rw [hA3, ah_set_n hb, hA2, ah_set_n hb, hA1, ah_set_n hb]
  have H3 : CCi M A3 o [] fr0 fs0 b := ⟨e3, ⟨g, (nn 88 (by omega)).trans k1, fun i hi => absurd hi (Nat.not_lt_zero _)⟩, (nn 89 (by omega)).trans k2, (nn 90 (by omega)).trans k3⟩
  obtain ⟨A', h', E, fr, fs, u1, u2, u3, u4, u5, u6⟩ := c188l (M := M) (ev := b) W Wff I (fW F).length lf_N 0 [] fr0 fs0 A3 h3 (by omega) (by have := Wff.2.2.2.2.1; unfold lf_N; omega) R3' (CX_u R Q s13) H3 ⟨fun i j h1 h2 => absurd h2 (Nat.not_lt_zero _), fun a => ⟨fun z => (by cases z), fun z => (by have := z.1; rw [List.take_zero] at this; cases this)⟩⟩ (Nat.le_refl _) (fun i hi => absurd hi (Nat.not_lt_zero _))
  refine ⟨A', h', E, fr, fs, b, ?_, u2, CU_tr s13 u3, u4, u5, u6⟩
  have g0 : la_R h .aaload (some (94 + 17 * o + 3)) (0 : Int32) = some (some (94 + 17 * o + 5)) := hc_ldR (j := 0) (o := some (94 + 17 * o + 5)) (ar_c R c3) rfl (by omega) (ra_get (i := 0) (by omega))
  have g1 : la_R h1 .aaload (some (94 + 17 * o + 3)) (1 : Int32) = some (some (94 + 17 * o + 11)) := hc_ldR (j := 1) (o := some (94 + 17 * o + 11)) (ar_c R1' d3) rfl (by omega) (ra_get (i := 1) (by omega))
  unfold ll_188
  rw [hc_R (o := some (94 + 17 * o + 3)) (ar_c R c0) rfl, Option.bind_some, g0, Option.bind_some, p1, Option.bind_some, hc_R (o := some (94 + 17 * o + 3)) (ar_c R1' d0) rfl, Option.bind_some, g1, Option.bind_some, p2, Option.bind_some, p3, Option.bind_some]
  exact u1
end LY2
