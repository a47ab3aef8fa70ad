/-! THE CLASS lays the cells out: sorted, each once -/
def kyA (D : aD) (Lr Lc : List Nat) (a : Nat) : Nat := 120 * (pos Lr (rwo D a)).getD 0 + (pos Lc (clo D a)).getD 0
/-- an act whose cell is shown and holds something -/
def cnB (D : aD) (Lr Lc : List Nat) (a : Nat) : Bool := ((D a).bind rct).isSome && shB Lr Lc (rwo D a) (clo D a)
section LAY
variable {A A' A2 : ah} {h : pm_H} {M : aM} {D : aD} {X : ax} {F : fo} {c o i j l k p q x y z y2 z2 p2 q2 a b n m d : Nat} {r : rc} {w : Option Nat} {E L Lr Lc : List Nat} {fr f : Nat → Int64} {fs sg : Nat → Bool} {ev : Int32}
theorem i32_sd (hx : x < 2 ^ 30) (hy : y < 2 ^ 30) : (Int32.ofNat x - Int32.ofNat y < (0 : Int32) ↔ x < y) ∧ (Int32.ofNat x - Int32.ofNat y = (0 : Int32) ↔ x = y) := by
  have e : (Int32.ofNat x - Int32.ofNat y).toInt = (x : Int) - y := by
    rw [Int32.toInt_sub, Int32.toInt_ofNat_of_lt (by omega), Int32.toInt_ofNat_of_lt (by omega)]
    apply Int.bmod_eq_of_le <;> omega
  have e0 : (0 : Int32).toInt = 0 := rfl
  rw [Int32.lt_iff_toInt_lt, ← Int32.toInt_inj, e, e0]
  omega
theorem act_rd (R : ar A h) (V : Cd M A D) (W : Wd D) (ha : D a = some r) (h6 : rk r = 6) : lf_R h (some (M 0 a)) [7, 8] = some (some (M 1 (rwo D a))) ∧ lf_R h (some (M 0 a)) [7, 9] = some (some (M 1 (clo D a))) ∧ lf_R h (some (M 0 a)) [7, 10] = some (rct r) := by
  obtain ⟨f1, f2, n1, n2⟩ := act_wr W ha h6
  have hca := ar_c R (V.1 a r ha).1
  refine ⟨?_, ?_, hc_R (o := rct r) hca rfl⟩
  · rw [hc_R (o := (rrw r).map (M 1)) hca rfl, f1]
    rfl
  · rw [hc_R (o := (rcl r).map (M 1)) hca rfl, f2]
    rfl
theorem c192' {r2 : rc} (R : ar A h) (Q : CX M A D o F) (W : Wd D) (Wff : Wf D o F) (I : OI D F) (k0 : A.1 87 = ac_c (.inl (2, [.ref 88, .ref 89, .ref 90, .int (Int32.ofNat E.length), .ref (94 + 17 * o + 5), .ref (94 + 17 * o + 11), .int ev]))) (ha : D a = some r) (h6 : rk r = 6) (hb : D b = some r2) (h62 : rk r2 = 6) (sa : shB (xS (fX F 0)) (xS (fX F 1)) (rwo D a) (clo D a) = true) (sb : shB (xS (fX F 0)) (xS (fX F 1)) (rwo D b) (clo D b) = true) : ll_192 (some 87) (some (M 0 a)) (some (M 0 b)) h = rtI (if kyA D (xS (fX F 0)) (xS (fX F 1)) a < kyA D (xS (fX F 0)) (xS (fX F 1)) b then 1 else 0) h := by
  obtain ⟨s0, s1, l0, l1⟩ := cpos R Q W I
  have w0 := (Wff.2.2.2.2.2.2 0 (by omega)).2.2.2.2.2
  have w1 := (Wff.2.2.2.2.2.2 1 (by omega)).2.2.2.2.2
  obtain ⟨-, -, n1, n2⟩ := act_wr W ha h6
  obtain ⟨-, -, n3, n4⟩ := act_wr W hb h62
  obtain ⟨x, x2, u1, u2⟩ := shB_t sa
  obtain ⟨y, y2, u3, u4⟩ := shB_t sb
  obtain ⟨r1, r2', -⟩ := act_rd R Q.2.1 W ha h6
  obtain ⟨r3, r4, -⟩ := act_rd R Q.2.1 W hb h62
  have b1 := pos_lt u1
  have b2 := pos_lt u2
  have b3 := pos_lt u3
  have b4 := pos_lt u4
  have d0 : lf_R h (some 87) [2, 4] = some (some (94 + 17 * o + 5)) := hc_R (o := some (94 + 17 * o + 5)) (ar_c R k0) rfl
  have d1 : lf_R h (some 87) [2, 5] = some (some (94 + 17 * o + 11)) := hc_R (o := some (94 + 17 * o + 11)) (ar_c R k0) rfl
  have t1 : ll_190 (some (94 + 17 * o + 5)) (some (M 1 (rwo D a))) h = rtI (Int32.ofNat x) h := by rw [s0 _ n1, u1]; rfl
  have t2 : ll_190 (some (94 + 17 * o + 5)) (some (M 1 (rwo D b))) h = rtI (Int32.ofNat y) h := by rw [s0 _ n3, u3]; rfl
  have t3 : ll_190 (some (94 + 17 * o + 11)) (some (M 1 (clo D a))) h = rtI (Int32.ofNat x2) h := by rw [s1 _ n2, u2]; rfl
  have t4 : ll_190 (some (94 + 17 * o + 11)) (some (M 1 (clo D b))) h = rtI (Int32.ofNat y2) h := by rw [s1 _ n4, u4]; rfl
  obtain ⟨v1, v2⟩ := i32_sd (x := x) (y := y) (by omega) (by omega)
  unfold ll_192 kyA
  rw [d0, Option.bind_some, r1, Option.bind_some, if_pos l0, t1, rt_I, d0, Option.bind_some, r3, Option.bind_some, if_pos l0, t2, rt_I, u1, u2, u3, u4, Option.getD_some, Option.getD_some, Option.getD_some, Option.getD_some]
  by_cases q1 : x < y
  · rw [if_pos (v1.mpr q1), if_pos (show 120 * x + x2 < 120 * y + y2 by omega)]
  · rw [if_neg (fun g => q1 (v1.mp g))]
    by_cases q2 : x = y
    · rw [if_pos (v2.mpr q2), d1, Option.bind_some, r2', Option.bind_some, if_pos l1, t3, rt_I, d1, Option.bind_some, r4, Option.bind_some, if_pos l1, t4, rt_I]
      by_cases q3 : y2 ≤ x2
      · rw [if_pos ((i32_len (by omega) (by omega)).mpr q3), if_neg (show ¬ 120 * x + x2 < 120 * y + y2 by omega)]
      · rw [if_neg (fun g => q3 ((i32_len (by omega) (by omega)).mp g)), if_pos (show 120 * x + x2 < 120 * y + y2 by omega)]
    · rw [if_neg (fun g => q2 (v2.mp g)), if_neg (show ¬ 120 * x + x2 < 120 * y + y2 by omega)]
theorem ins_g {t : Nat} (ht : t ≤ E.length) : (E.take t ++ a :: E.drop t).getD i 0 = if i < t then E.getD i 0 else if i = t then a else E.getD (i - 1) 0 := by
  have hl : (E.take t).length = t := by rw [List.length_take]; omega
  rw [List.getD_eq_getElem?_getD, List.getD_eq_getElem?_getD, List.getD_eq_getElem?_getD]
  by_cases q : i < t
  · rw [if_pos q, List.getElem?_append_left (by omega), List.getElem?_take, if_pos q]
  · rw [if_neg q, List.getElem?_append_right (by omega), hl]
    by_cases q2 : i = t
    · rw [if_pos q2, q2, Nat.sub_self]
      rfl
    · rw [if_neg q2, show i - t = (i - t - 1) + 1 by omega, List.getElem?_cons_succ, List.getElem?_drop, show t + (i - t - 1) = i - 1 by omega]
/-- cells shifted from t on -/
def CG (M : aM) (A : ah) (o : Nat) (E : List Nat) (fr : Nat → Int64) (fs : Nat → Bool) (ev : Int32) (t : Nat) : Prop := A.1 87 = ac_c (.inl (2, [.ref 88, .ref 89, .ref 90, .int (Int32.ofNat E.length), .ref (94 + 17 * o + 5), .ref (94 + 17 * o + 11), .int ev])) ∧ (∃ g : Nat → Option Nat, A.1 88 = ac_c (.inr (11, ra 120 (fun i => tm_r (g i)))) ∧ (∀ i, i < t → g i = some (M 0 (E.getD i 0))) ∧ ∀ i, t < i → i ≤ E.length → g i = some (M 0 (E.getD (i - 1) 0))) ∧ A.1 89 = ac_c (.inr (1, ra 120 (fun i => .long (fr i)))) ∧ A.1 90 = ac_c (.inr (3, ra 120 (fun i => .int (if fs i = true then 1 else 0))))
theorem nm78 {b : Nat} {y : ac} (hb : b ≠ c) : (ah_set A c y).1 b = A.1 b := ah_set_n hb
theorem l45 {t : Nat} (R : ar A h) (V : Cd M A D) (G : CG M A o E fr fs ev t) (ht : t ≤ E.length) (hE : E.length < 120) (ha : D a = some r) : ∃ A' h', l191_45 (some 87) (some (M 0 a)) (Int32.ofNat t) h = rtV h' ∧ ar A' h' ∧ CU A A' ∧ CCi M A' o (E.take t ++ a :: E.drop t) (up fr E.length 0) (up fs E.length false) ev := by
  obtain ⟨k0, ⟨g, k1, k2, k3⟩, k4, k5⟩ := G
  have hact := (V.1 a r ha).1
  have hlen : (E.take t ++ a :: E.drop t).length = E.length + 1 := by rw [List.length_append, List.length_cons, List.length_take, List.length_drop]; omega
  -- the cell
  obtain ⟨h1, p1, R1⟩ := aw_Sr (i := .aastore) (j := t) (v := .inr (.inr (some (M 0 a)))) (w := .ref (M 0 a)) R k1 (by omega) (show t < 120 by omega) (by omega) (nar_act R hact)
  have s1 : CU A (ah_set A 88 (ac_c (.inr (11, ra 120 (up (fun i => tm_r (g i)) t (.ref (M 0 a))))))) := CU_set k1 (Or.inr (Or.inl rfl))
  obtain ⟨A1, hA1⟩ : ∃ A1, A1 = ah_set A 88 (ac_c (.inr (11, ra 120 (up (fun i => tm_r (g i)) t (.ref (M 0 a)))))) := ⟨_, rfl⟩
  rw [← hA1] at R1 s1
  have a87 := (show A1.1 87 = A.1 87 by rw [hA1]; exact ah_set_n (by omega)).trans k0
  have a88 : A1.1 88 = ac_c (.inr (11, ra 120 (up (fun i => tm_r (g i)) t (.ref (M 0 a))))) := by rw [hA1]; exact ah_set_e
  have a89 := (show A1.1 89 = A.1 89 by rw [hA1]; exact ah_set_n (by omega)).trans k4
  have a90 := (show A1.1 90 = A.1 90 by rw [hA1]; exact ah_set_n (by omega)).trans k5
  -- its result
  obtain ⟨h2, p2, R2⟩ := aw_Sr (i := .lastore) (j := E.length) (v := .inr (.inl 0)) (w := .long 0) R1 a89 (by omega) hE (by omega) rfl
  have s2 : CU A1 (ah_set A1 89 (ac_c (.inr (1, ra 120 (up (fun i => .long (fr i)) E.length (.long 0)))))) := CU_set a89 (Or.inr (Or.inr (Or.inl rfl)))
  obtain ⟨A2, hA2⟩ : ∃ A2, A2 = ah_set A1 89 (ac_c (.inr (1, ra 120 (up (fun i => .long (fr i)) E.length (.long 0))))) := ⟨_, rfl⟩
  rw [← hA2] at R2 s2
  have c87 := (show A2.1 87 = A1.1 87 by rw [hA2]; exact ah_set_n (by omega)).trans a87
  have c88 := (show A2.1 88 = A1.1 88 by rw [hA2]; exact ah_set_n (by omega)).trans a88
  have c89 : A2.1 89 = ac_c (.inr (1, ra 120 (up (fun i => .long (fr i)) E.length (.long 0)))) := by rw [hA2]; exact ah_set_e
  have c90 := (show A2.1 90 = A1.1 90 by rw [hA2]; exact ah_set_n (by omega)).trans a90
  -- not settled
  obtain ⟨h3, p3, R3⟩ := aw_Sr (i := .bastore) (j := E.length) (v := .inl 0) (w := .int 0) R2 c90 (by omega) hE (by omega) rfl
  have s3 : CU A2 (ah_set A2 90 (ac_c (.inr (3, ra 120 (up (fun i => .int (if fs i = true then 1 else 0)) E.length (.int 0)))))) := CU_set c90 (Or.inr (Or.inr (Or.inr rfl)))
  obtain ⟨A3, hA3⟩ : ∃ A3, A3 = ah_set A2 90 (ac_c (.inr (3, ra 120 (up (fun i => .int (if fs i = true then 1 else 0)) E.length (.int 0))))) := ⟨_, rfl⟩
  rw [← hA3] at R3 s3
  have d87 := (show A3.1 87 = A2.1 87 by rw [hA3]; exact ah_set_n (by omega)).trans c87
  have d88 := (show A3.1 88 = A2.1 88 by rw [hA3]; exact ah_set_n (by omega)).trans c88
  have d89 := (show A3.1 89 = A2.1 89 by rw [hA3]; exact ah_set_n (by omega)).trans c89
  have d90 : A3.1 90 = ac_c (.inr (3, ra 120 (up (fun i => .int (if fs i = true then 1 else 0)) E.length (.int 0)))) := by rw [hA3]; exact ah_set_e
  -- one more
  obtain ⟨h4, p4, R4⟩ := aw_P (k := 3) (t := 0) (v := .inl (Int32.ofNat E.length + 1)) R3 d87 (by omega) (show 3 < 7 by omega) rfl
  have n1 : Int32.ofNat E.length + (1 : Int32) = Int32.ofNat (E.length + 1) := i32_add _ 1
  refine ⟨_, h4, ?_, R4, CU_tr (CU_tr (CU_tr s1 s2) s3) (CU_set d87 (Or.inl rfl)), ?_, ⟨up g t (some (M 0 a)), ?_, ?_⟩, ?_, ?_⟩
  · unfold l191_45
    rw [hc_R (o := some 88) (ar_c R k0) rfl, Option.bind_some, p1, Option.bind_some, hc_R (o := some 89) (ar_c R1 a87) rfl, Option.bind_some, hc_I (ar_c R1 a87) rfl, Option.bind_some, p2, Option.bind_some, hc_R (o := some 90) (ar_c R2 c87) rfl, Option.bind_some, hc_I (ar_c R2 c87) rfl, Option.bind_some, p3, Option.bind_some, hc_I (ar_c R3 d87) rfl, Option.bind_some, p4, Option.bind_some]
  · rw [ah_set_e, hlen, ← n1]
    rfl
  · rw [ah_set_n (by omega), d88]
    congr 3
    refine ra_ext (fun i _ => ?_)
    by_cases q : i = t
    · rw [q, up_e, up_e]; rfl
    · rw [up_n q, up_n q]
  · intro i hi
    rw [hlen] at hi
    rw [ins_g ht]
    by_cases q : i < t
    · rw [if_pos q, up_n (by omega), k2 i q]
    · rw [if_neg q]
      by_cases q2 : i = t
      · rw [if_pos q2, q2, up_e]
      · rw [if_neg q2, up_n q2, k3 i (by omega) (by omega)]
  · rw [ah_set_n (by omega), d89]
    congr 3
    refine ra_ext (fun i _ => ?_)
    by_cases q : i = E.length
    · rw [q, up_e, up_e]
    · rw [up_n q, up_n q]
  · rw [ah_set_n (by omega), d90]
    congr 3
    refine ra_ext (fun i _ => ?_)
    by_cases q : i = E.length
    · rw [q, up_e, up_e]; rfl
    · rw [up_n q, up_n q]
theorem l191 (W : Wd D) (Wff : Wf D o F) (I : OI D F) (hE : EA D E) (hS : ES D (xS (fX F 0)) (xS (fX F 1)) E) (hl : E.length < 120) (ha : D a = some r) (h6 : rk r = 6) (sa : shB (xS (fX F 0)) (xS (fX F 1)) (rwo D a) (clo D a) = true) : ∀ m t A h, t < m → t ≤ E.length → ar A h → CX M A D o F → CG M A o E fr fs ev t → (∀ i, t ≤ i → i < E.length → kyA D (xS (fX F 0)) (xS (fX F 1)) a < kyA D (xS (fX F 0)) (xS (fX F 1)) (E.getD i 0)) → ∃ A' h' s, l191_5 m (some 87) (some (M 0 a)) (Int32.ofNat t) h = rtV h' ∧ ar A' h' ∧ CU A A' ∧ s ≤ E.length ∧ CCi M A' o (E.take s ++ a :: E.drop s) (up fr E.length 0) (up fs E.length false) ev ∧ (∀ i, s ≤ i → i < E.length → kyA D (xS (fX F 0)) (xS (fX F 1)) a < kyA D (xS (fX F 0)) (xS (fX F 1)) (E.getD i 0)) ∧ (0 < s → kyA D (xS (fX F 0)) (xS (fX F 1)) (E.getD (s - 1) 0) ≤ kyA D (xS (fX F 0)) (xS (fX F 1)) a) := by
  intro m
  induction m with
  | zero => intro t A h hm; omega
  | succ m ih =>
    intro t A h hm ht R Q G hk
    rw [l191_5]
    dsimp only
    cases t with
    | zero =>
      obtain ⟨A', h', p1, p2, p3, p4⟩ := l45 R Q.2.1 G ht hl ha
      refine ⟨A', h', 0, ?_, p2, p3, Nat.zero_le _, p4, hk, fun z => absurd z (Nat.lt_irrefl _)⟩
      rw [if_pos (by decide)]
      exact p1
    | succ t =>
      have G' := G
      obtain ⟨k0, ⟨g, k1, k2, k3⟩, k4, k5⟩ := G'
      obtain ⟨rb, hb, hb6⟩ := hE.2 _ (el_mem (show t < E.length by omega))
      have hbact := (Q.2.1.1 _ rb hb).1
      have t1 : Int32.ofNat (t + 1) - (1 : Int32) = Int32.ofNat t := i32_sub (a := t + 1) (b := 1) (by omega)
      have d0 : lf_R h (some 87) [2, 0] = some (some 88) := hc_R (o := some 88) (ar_c R k0) rfl
      have d1 : la_R h .aaload (some 88) (Int32.ofNat t) = some (some (M 0 (E.getD t 0))) := by
        rw [← k2 t (by omega)]
        exact hc_ldR (ar_c R k1) rfl (by omega) (ra_get (f := fun i => tm_r (g i)) (show t < 120 by omega))
      have g192 : ll_192 (some 87) (some (M 0 a)) (some (M 0 (E.getD t 0))) h = rtI (if kyA D (xS (fX F 0)) (xS (fX F 1)) a < kyA D (xS (fX F 0)) (xS (fX F 1)) (E.getD t 0) then 1 else 0) h := c192' R Q W Wff I k0 ha h6 hb hb6 sa (hS _ (el_mem (by omega)))
      rw [if_neg (fun z => by have := (i32_len (b := 0) (by omega) (by omega)).mp z; omega), d0, Option.bind_some, t1, d1, Option.bind_some, if_pos (hc_lc (ar_c R k0)), g192, rt_I]
      by_cases q : kyA D (xS (fX F 0)) (xS (fX F 1)) a < kyA D (xS (fX F 0)) (xS (fX F 1)) (E.getD t 0)
      · obtain ⟨h1, p1, R1⟩ := aw_Sr (i := .aastore) (j := t + 1) (v := .inr (.inr (some (M 0 (E.getD t 0))))) (w := .ref (M 0 (E.getD t 0))) R k1 (by omega) (show t + 1 < 120 by omega) (by omega) (nar_act R hbact)
        have s1 : CU A (ah_set A 88 (ac_c (.inr (11, ra 120 (up (fun i => tm_r (g i)) (t + 1) (.ref (M 0 (E.getD t 0)))))))) := CU_set k1 (Or.inr (Or.inl rfl))
        have G1 : CG M (ah_set A 88 (ac_c (.inr (11, ra 120 (up (fun i => tm_r (g i)) (t + 1) (.ref (M 0 (E.getD t 0)))))))) o E fr fs ev t := by
          refine ⟨(ah_set_n (by omega)).trans k0, ⟨up g (t + 1) (some (M 0 (E.getD t 0))), ?_, fun i hi => ?_, fun i h1 h2 => ?_⟩, (ah_set_n (by omega)).trans k4, (ah_set_n (by omega)).trans k5⟩
          · rw [ah_set_e]
            congr 3
            refine ra_ext (fun i _ => ?_)
            by_cases q : i = t + 1
            · rw [q, up_e, up_e]; rfl
            · rw [up_n q, up_n q]
          · rw [up_n (by omega)]; exact k2 i (by omega)
          · by_cases q : i = t + 1
            · rw [q, up_e, Nat.add_sub_cancel]
            · rw [up_n q]; exact k3 i (by omega) h2
        obtain ⟨A', h', s, u1, u2, u3, u4, u5, u6, u7⟩ := ih t _ h1 (by omega) (by omega) R1 (CX_u R Q s1) G1 (fun i h1 h2 => by
          by_cases q2 : i = t
          · rw [q2]; exact q
          · exact hk i (by omega) h2)
        refine ⟨A', h', s, ?_, u2, CU_tr s1 u3, u4, u5, u6, u7⟩
        rw [if_pos q, if_neg (by decide), d0, Option.bind_some, Option.bind_some, d1, Option.bind_some, p1, Option.bind_some, i32_pm]
        exact u1
      · obtain ⟨A', h', p1, p2, p3, p4⟩ := l45 R Q.2.1 G ht hl ha
        refine ⟨A', h', t + 1, ?_, p2, p3, ht, p4, hk, fun _ => by rw [Nat.add_sub_cancel]; omega⟩
        rw [if_neg q, if_pos rfl]
        exact p1
end LAY
