/-! CONTENTS WRITTEN: what is written, and the class's writer -/
def frF : Nat → Nat → List Nat
  | 0, _ => []
  | k + 1, r => if r = 0 then [] else (48 + r / 1000) :: frF k (r % 1000 * 10)
def ntx (v : Int32) : List Nat := (if v.toInt < 0 then [45] else []) ++ (dgs (v.toInt.natAbs / 10000) ++ (if v.toInt.natAbs % 10000 = 0 then [] else 46 :: frF 4 (v.toInt.natAbs % 10000)))
def cnm (Lr Lc : List Nat) (y z : Nat) : Bool := shB Lr Lc y z && decide ((pos Lc z).getD 0 < 26)
def nmx (Lr Lc : List Nat) (y z : Nat) : List Nat := (65 + (pos Lc z).getD 0) :: dgs ((pos Lr y).getD 0 + 1)
def rfx (Lr Lc : List Nat) (y z : Nat) : List Nat := if cnm Lr Lc y z = true then nmx Lr Lc y z else [35]
def bkx (Lr Lc : List Nat) (y z y2 z2 : Nat) : List Nat := if (cnm Lr Lc y z && cnm Lr Lc y2 z2) = true then nmx Lr Lc y z ++ 58 :: nmx Lr Lc y2 z2 else [35]
def stg1 (c : Nat) : Nat := if c = 43 ∨ c = 45 then 1 else if c = 42 ∨ c = 47 then 2 else if c = 126 then 3 else 0
def stg (t : List (Nat × Int32)) : Nat := stg1 (t.getLast?.getD (0, 0)).1
def brk (b : Bool) (X : List Nat) : List Nat := if b = true then 40 :: (X ++ [41]) else X
/-- a part and what is written of it -/
def prX (M : aM) (A : ah) (D : aD) (Lr Lc : List Nat) : Nat → Nat → List (Nat × Int32) → List Nat → Prop
  | 0, _, _, _ => False
  | n + 1, p, ts, X => 178 ≤ p ∧ ((∃ v : Int32, A.1 p = ac_c (.inl (9, [.ref 8, .null, .null, .long v.toInt64, .null, .null, .null, .null])) ∧ (ts = [(97, v)] ∧ -1000000000 ≤ v.toInt ∧ v.toInt ≤ 1000000000) ∧ X = ntx v) ∨ (∃ y z, LN D y ∧ LN D z ∧ A.1 p = ac_c (.inl (9, [.ref 9, .null, .null, .long 0, .ref (M 1 y), .ref (M 1 z), .null, .null])) ∧ ts = [(114, Int32.ofNat (y + 128 * z))] ∧ X = rfx Lr Lc y z) ∨ (∃ kc cd y z y2 z2, (kc, cd) ∈ kcB ∧ LN D y ∧ LN D z ∧ LN D y2 ∧ LN D z2 ∧ A.1 p = ac_c (.inl (9, [.ref kc, .null, .null, .long 0, .ref (M 1 y), .ref (M 1 z), .ref (M 1 y2), .ref (M 1 z2)])) ∧ ts = [(cd, Int32.ofNat (y + 128 * z + 16384 * (y2 + 128 * z2)))] ∧ X = cd :: 40 :: (bkx Lr Lc y z y2 z2 ++ [41])) ∨ (∃ q t X', A.1 p = ac_c (.inl (9, [.ref 10, .null, .ref q, .long 0, .null, .null, .null, .null])) ∧ prX M A D Lr Lc n q t X' ∧ ts = t ++ [(126, 0)] ∧ X = 45 :: brk (decide (stg t = 1 ∨ stg t = 2)) X') ∨ ∃ kc cd q1 q2 t1 t2 X1 X2, (kc, cd) ∈ kcT ∧ A.1 p = ac_c (.inl (9, [.ref kc, .ref q1, .ref q2, .long 0, .null, .null, .null, .null])) ∧ prX M A D Lr Lc n q1 t1 X1 ∧ prX M A D Lr Lc n q2 t2 X2 ∧ ts = t1 ++ t2 ++ [(cd, 0)] ∧ X = brk (decide (stg t1 = 1 ∧ stg1 cd = 2)) X1 ++ cd :: brk (decide (stg t2 = 1 ∨ (stg t2 = 2 ∧ stg1 cd = 2))) X2)
section WRX
variable {A A' A2 : ah} {h : pm_H} {M : aM} {D : aD} {F : fo} {o i j k n m p q x y z y2 z2 a b kc0 cd d : Nat} {T X Lr Lc Y : List Nat} {w : Option Nat} {ts t : List (Nat × Int32)} {v : Int32}
theorem stg_l {t : List (Nat × Int32)} {c : Nat × Int32} : stg (t ++ [c]) = stg1 c.1 := by
  unfold stg
  rw [List.getLast?_concat]
  rfl
theorem prX_of : ∀ n p ts, prt M A D n p ts → ∃ X, prX M A D Lr Lc n p ts X
  | 0, _, _, h => by cases h
  | n + 1, p, ts, ⟨hp, hh⟩ => by
    rcases hh with ⟨v, e, t⟩ | ⟨y, z, h1, h2, h3, h4, e, t⟩ | ⟨kc, cd, y, z, y2, z2, hm, h1, h2, h3, h4, h5, h6, h7, h8, e, t⟩ | ⟨q, t', e, h1, t⟩ | ⟨kc, cd, q1, q2, t1, t2, hm, e, h1, h2, t⟩
    · exact ⟨_, hp, Or.inl ⟨v, e, t, rfl⟩⟩
    · exact ⟨_, hp, Or.inr (Or.inl ⟨y, z, h1, h2, e, t, rfl⟩)⟩
    · exact ⟨_, hp, Or.inr (Or.inr (Or.inl ⟨kc, cd, y, z, y2, z2, hm, h1, h2, h3, h4, e, t, rfl⟩))⟩
    · obtain ⟨X', g⟩ := prX_of n q t' h1
      exact ⟨_, hp, Or.inr (Or.inr (Or.inr (Or.inl ⟨q, t', X', e, g, t, rfl⟩)))⟩
    · obtain ⟨X1, g1⟩ := prX_of n q1 t1 h1
      obtain ⟨X2, g2⟩ := prX_of n q2 t2 h2
      exact ⟨_, hp, Or.inr (Or.inr (Or.inr (Or.inr ⟨kc, cd, q1, q2, t1, t2, X1, X2, hm, e, g1, g2, t, rfl⟩)))⟩
theorem prX_s (R : ar A h) (s : st A A' Y k j) (hY : ∀ x ∈ Y, x < 178) : ∀ n p ts X, prX M A D Lr Lc n p ts X → prX M A' D Lr Lc n p ts X := by
  intro n
  induction n with
  | zero => intro p ts X h; exact h
  | succ n ih =>
    intro p ts X ⟨hp, hh⟩
    have nm : p ∉ Y := fun z => by have := hY p z; omega
    refine ⟨hp, ?_⟩
    rcases hh with ⟨v, e, t⟩ | ⟨y, z, h1, h2, e, t⟩ | ⟨kc, cd, y, z, y2, z2, hm, h1, h2, h3, h4, e, t⟩ | ⟨q, t', X', e, h1, t⟩ | ⟨kc, cd, q1, q2, t1, t2, X1, X2, hm, e, h1, h2, t⟩
    · exact Or.inl ⟨v, st_c s R e (by intro q; cases q) nm, t⟩
    · exact Or.inr (Or.inl ⟨y, z, h1, h2, st_c s R e (by intro q; cases q) nm, t⟩)
    · exact Or.inr (Or.inr (Or.inl ⟨kc, cd, y, z, y2, z2, hm, h1, h2, h3, h4, st_c s R e (by intro q; cases q) nm, t⟩))
    · exact Or.inr (Or.inr (Or.inr (Or.inl ⟨q, t', X', st_c s R e (by intro q; cases q) nm, ih q t' X' h1, t⟩)))
    · exact Or.inr (Or.inr (Or.inr (Or.inr ⟨kc, cd, q1, q2, t1, t2, X1, X2, hm, st_c s R e (by intro q; cases q) nm, ih q1 t1 X1 h1, ih q2 t2 X2 h2, t⟩)))
/-! how long it is -/
theorem ndg_le : ndg m ≤ 6 := by unfold ndg; repeat' (first | omega | split)
theorem frF_len : ∀ k r, (frF k r).length ≤ k
  | 0, _ => Nat.le_refl _
  | k + 1, r => by
    rw [frF]
    split
    · exact Nat.zero_le _
    · rw [List.length_cons]
      have := frF_len k (r % 1000 * 10)
      omega
theorem ntx_len (h1 : -1000000000 ≤ v.toInt) (h2 : v.toInt ≤ 1000000000) : (ntx v).length ≤ nwt v := by
  unfold ntx nwt
  rw [List.length_append, List.length_append, dgs_len (by omega)]
  have e1 : (if v.toInt < 0 then [45] else [] : List Nat).length = if v.toInt < 0 then 1 else 0 := by split <;> rfl
  have e2 : (if v.toInt.natAbs % 10000 = 0 then [] else 46 :: frF 4 (v.toInt.natAbs % 10000) : List Nat).length ≤ if v.toInt.natAbs % 10000 = 0 then 0 else 5 := by
    split
    · exact Nat.le_refl _
    · rw [List.length_cons]
      have := frF_len 4 (v.toInt.natAbs % 10000)
      omega
  rw [e1]
  omega
theorem nmx_len (hr : Lr.length ≤ 120) (hs : cnm Lr Lc y z = true) : (nmx Lr Lc y z).length ≤ 4 := by
  unfold cnm at hs
  rw [Bool.and_eq_true] at hs
  obtain ⟨p, q, e1, e2⟩ := shB_t hs.1
  have b1 := pos_lt e1
  unfold nmx
  rw [List.length_cons, e1, Option.getD_some, dgs_len (by omega)]
  unfold ndg
  repeat' (first | omega | split)
theorem rfx_len (hr : Lr.length ≤ 120) : (rfx Lr Lc y z).length ≤ 4 := by
  unfold rfx
  split
  · next h => exact nmx_len hr h
  · exact (by decide : (1 : Nat) ≤ 4)
theorem bkx_len (hr : Lr.length ≤ 120) : (bkx Lr Lc y z y2 z2).length ≤ 9 := by
  unfold bkx
  split
  · next h =>
    obtain ⟨s1, s2⟩ := Bool.and_eq_true .. ▸ h
    have := nmx_len hr s1
    have := nmx_len hr s2
    rw [List.length_append, List.length_cons]
    omega
  · exact (by decide : (1 : Nat) ≤ 9)
theorem brk_len {b : Bool} : (brk b X).length ≤ X.length + (if b = true then 2 else 0) := by
  unfold brk
  split
  · rw [List.length_cons, List.length_append]
    exact Nat.le_refl _
  · exact Nat.le_refl _
theorem wgt_app {t1 t2 : List (Nat × Int32)} : wgt (t1 ++ t2) = wgt t1 + wgt t2 := by
  unfold wgt
  rw [List.map_append, List.sum_append]
theorem wgt_1 {c : Nat × Int32} : wgt [c] = twt c := by
  unfold wgt
  simp
theorem prX_len (hr : Lr.length ≤ 120) : ∀ n p ts X, prX M A D Lr Lc n p ts X → X.length + (if stg ts = 0 then 0 else 2) ≤ wgt ts := by
  intro n
  induction n with
  | zero => intro p ts X h; cases h
  | succ n ih =>
    intro p ts X ⟨hp, hh⟩
    have hb : ∀ (b : Bool) (t : List (Nat × Int32)) (Xx : List Nat), (b = true → stg t ≠ 0) → Xx.length + (if stg t = 0 then 0 else 2) ≤ wgt t → (brk b Xx).length ≤ wgt t := by
      intro b t Xx h1 h2
      have := brk_len (b := b) (X := Xx)
      cases b with
      | false =>
        rw [if_neg (by decide)] at this
        omega
      | true =>
        rw [if_pos rfl] at this
        rw [if_neg (h1 rfl)] at h2
        omega
    rcases hh with ⟨v, e, t, tX⟩ | ⟨y, z, h1, h2, e, t, tX⟩ | ⟨kc, cd, y, z, y2, z2, hm, h1, h2, h3, h4, e, t, tX⟩ | ⟨q, t', X', e, h1, t, tX⟩ | ⟨kc, cd, q1, q2, t1, t2, X1, X2, hm, e, h1, h2, t, tX⟩
    · obtain ⟨t1, b1, b2⟩ := t
      subst t1 tX
      rw [if_pos (show stg [((97 : Nat), v)] = 0 from rfl), wgt_1, show twt ((97 : Nat), v) = nwt v from rfl]
      exact ntx_len b1 b2
    · subst t tX
      rw [if_pos (show stg [((114 : Nat), Int32.ofNat (y + 128 * z))] = 0 from rfl), wgt_1, show twt ((114 : Nat), Int32.ofNat (y + 128 * z)) = 4 from rfl]
      exact rfx_len hr
    · subst t tX
      have hk' : cd = 115 ∨ cd = 110 ∨ cd = 109 := by
        unfold kcB at hm
        simp at hm
        omega
      have hl := bkx_len (Lc := Lc) (y := y) (z := z) (y2 := y2) (z2 := z2) hr
      rw [wgt_1, List.length_cons, List.length_cons, List.length_append]
      rcases hk' with g | g | g <;> subst g
      · rw [if_pos (show stg [((115 : Nat), _)] = 0 from rfl), show twt ((115 : Nat), Int32.ofNat (y + 128 * z + 16384 * (y2 + 128 * z2))) = 12 from rfl, List.length_singleton]; omega
      · rw [if_pos (show stg [((110 : Nat), _)] = 0 from rfl), show twt ((110 : Nat), Int32.ofNat (y + 128 * z + 16384 * (y2 + 128 * z2))) = 12 from rfl, List.length_singleton]; omega
      · rw [if_pos (show stg [((109 : Nat), _)] = 0 from rfl), show twt ((109 : Nat), Int32.ofNat (y + 128 * z + 16384 * (y2 + 128 * z2))) = 12 from rfl, List.length_singleton]; omega
    · subst t tX
      have h2 := ih q t' X' h1
      have h3 := hb (decide (stg t' = 1 ∨ stg t' = 2)) t' X' (fun g => by have := of_decide_eq_true g; omega) h2
      rw [stg_l, wgt_app, wgt_1, show twt ((126 : Nat), 0) = 3 from rfl, List.length_cons, if_neg (show ¬ stg1 ((126 : Nat), (0 : Int32)).1 = 0 by decide)]
      omega
    · subst t tX
      have hk' : cd = 43 ∨ cd = 45 ∨ cd = 42 ∨ cd = 47 := by
        unfold kcT at hm
        simp at hm
        omega
      have h3 := hb (decide (stg t1 = 1 ∧ stg1 cd = 2)) t1 X1 (fun g => by have := of_decide_eq_true g; omega) (ih q1 t1 X1 h1)
      have h4 := hb (decide (stg t2 = 1 ∨ (stg t2 = 2 ∧ stg1 cd = 2))) t2 X2 (fun g => by have := of_decide_eq_true g; omega) (ih q2 t2 X2 h2)
      have h5 : twt (cd, 0) = 3 := by rcases hk' with g | g | g | g <;> subst g <;> rfl
      have h6 : (if stg (t1 ++ t2 ++ [(cd, 0)]) = 0 then 0 else 2) ≤ 2 := by split <;> omega
      rw [wgt_app, wgt_app, wgt_1, h5, List.length_append, List.length_cons]
      omega
/-! the class -/
abbrev WU (A A' : ah) : Prop := st A A' [92] 0 0
def WRt (A : ah) (o : Nat) (T : List Nat) : Prop := A.1 91 = ac_c (.inl (3, [.ref 92, .ref (94 + 17 * o + 5), .ref (94 + 17 * o + 11)])) ∧ ∃ cap, A.1 92 = ac_t T cap
theorem WU_refl : WU A A := st_w st_refl (fun b hb => by cases hb) (Nat.le_refl _) (Nat.le_refl _)
theorem WU_tr (h1 : WU A A') (h2 : WU A' A2) : WU A A2 := st_w (st_trans h1 h2) (fun b hb => by rcases List.mem_append.mp hb with q | q <;> exact q) (Nat.le_refl _) (Nat.le_refl _)
theorem CX_w (R : ar A h) (Q : CX M A D o F) (s : WU A A') : CX M A' D o F := ⟨Cf_st Q.1 R s (fun x hx => by simp at hx; omega), Cd_st Q.2.1 R s (fun x hx => by simp at hx; omega), Cb_st Q.2.2 R s (fun x hx => by simp at hx; omega)⟩
theorem w_rd (R : ar A h) (H : WRt A o T) : lf_R h (some 91) [3, 0] = some (some 92) ∧ lc_of h (some 92) = some 11 ∧ lc_of h (some 91) = some 3 ∧ lf_R h (some 91) [3, 1] = some (some (94 + 17 * o + 5)) ∧ lf_R h (some 91) [3, 2] = some (some (94 + 17 * o + 11)) := by
  obtain ⟨c1, cap, c2⟩ := H
  exact ⟨hc_R (o := some 92) (ar_c R c1) rfl, sb_lc R c2, hc_lc (ar_c R c1), hc_R (o := some (94 + 17 * o + 5)) (ar_c R c1) rfl, hc_R (o := some (94 + 17 * o + 11)) (ar_c R c1) rfl⟩
/-- writing: what a run adds to OUT -/
def Wrt (w : Option Nat) (M : aM) (D : aD) (o : Nat) (F : fo) (f : pm_H → tm_L) (X : List Nat) (A0 : ah) : Prop := ∀ T A h, ar A h → CX M A D o F → WU A0 A → WRt A o T → T.length + X.length ≤ 200 → ∃ A' h', f h = rtV h' ∧ ar A' h' ∧ WU A A' ∧ WRt A' o (T ++ X)
theorem a19 (R : ar A h) (H : WRt A o T) (hc : cd < 128) (hl : T.length < 250) : ∃ A' h', ll_19 w (some 92) (Int32.ofNat cd) h = rtR (some 92) h' ∧ ar A' h' ∧ WU A A' ∧ WRt A' o (T ++ [cd]) := by
  obtain ⟨c1, cap, c2⟩ := H
  obtain ⟨A', h', cap', g1, g2, g3, g4⟩ := ll_append (w := w) R (by omega) c2 (c := cd) hc (by omega)
  exact ⟨A', h', g1, g2, g4, st_c g4 R c1 (by intro q; cases q) (by simp), cap', g3⟩
theorem a58 (R : ar A h) (B : Cb A) (H : WRt A o T) (hm : m < 1000000) (hl : T.length < 250) : ∃ A' h', ll_58 w (some 92) (Int32.ofNat m) h = rtR (some 92) h' ∧ ar A' h' ∧ WU A A' ∧ WRt A' o (T ++ dgs m) := by
  obtain ⟨c1, cap, c2⟩ := H
  obtain ⟨A', h', cap', g1, g2, g3, g4⟩ := ll_appI (w := w) R B (by omega) (by omega) c2 hm (by omega)
  exact ⟨A', h', g1, g2, g4, st_c g4 R c1 (by intro q; cases q) (by simp), cap', g3⟩
/-- the signs of the kinds -/
def kcS : List (Nat × Nat × Nat) := [(7, 32, 61), (10, 34, 45), (11, 35, 43), (12, 34, 45), (13, 36, 42), (14, 37, 47), (15, 38, 115), (16, 39, 110), (17, 40, 109)]
theorem sgn (B : Cb A) {kc s c : Nat} (hm : (kc, s, c) ∈ kcS) : (∃ i, A.1 kc = ac_c (.inl (19, [.int i, .ref s]))) ∧ A.1 s = ac_c (.inl (13, [.ref (s + 28), .int 0])) ∧ A.1 (s + 28) = ac_c (.inr (4, [.int (Int32.ofNat c)])) ∧ c < 128 := by
  unfold kcS at hm
  simp only [List.mem_cons, List.not_mem_nil, or_false, Prod.mk.injEq] at hm
  rcases hm with ⟨rfl, rfl, rfl⟩ | ⟨rfl, rfl, rfl⟩ | ⟨rfl, rfl, rfl⟩ | ⟨rfl, rfl, rfl⟩ | ⟨rfl, rfl, rfl⟩ | ⟨rfl, rfl, rfl⟩ | ⟨rfl, rfl, rfl⟩ | ⟨rfl, rfl, rfl⟩ | ⟨rfl, rfl, rfl⟩
  · exact ⟨⟨_, B.2.2 6 _ rfl⟩, B.2.2 31 _ rfl, B.2.2 59 _ rfl, by decide⟩
  · exact ⟨⟨_, B.2.2 9 _ rfl⟩, B.2.2 33 _ rfl, B.2.2 61 _ rfl, by decide⟩
  · exact ⟨⟨_, B.2.2 10 _ rfl⟩, B.2.2 34 _ rfl, B.2.2 62 _ rfl, by decide⟩
  · exact ⟨⟨_, B.2.2 11 _ rfl⟩, B.2.2 33 _ rfl, B.2.2 61 _ rfl, by decide⟩
  · exact ⟨⟨_, B.2.2 12 _ rfl⟩, B.2.2 35 _ rfl, B.2.2 63 _ rfl, by decide⟩
  · exact ⟨⟨_, B.2.2 13 _ rfl⟩, B.2.2 36 _ rfl, B.2.2 64 _ rfl, by decide⟩
  · exact ⟨⟨_, B.2.2 14 _ rfl⟩, B.2.2 37 _ rfl, B.2.2 65 _ rfl, by decide⟩
  · exact ⟨⟨_, B.2.2 15 _ rfl⟩, B.2.2 38 _ rfl, B.2.2 66 _ rfl, by decide⟩
  · exact ⟨⟨_, B.2.2 16 _ rfl⟩, B.2.2 39 _ rfl, B.2.2 67 _ rfl, by decide⟩
theorem a46 (R : ar A h) (B : Cb A) (H : WRt A o T) {kc s c : Nat} (hm : (kc, s, c) ∈ kcS) (hl : T.length < 250) : lf_R h (some kc) [19, 1] = some (some s) ∧ ∃ A' h', ll_46 w (some 92) (some s) h = rtR (some 92) h' ∧ ar A' h' ∧ WU A A' ∧ WRt A' o (T ++ [c]) := by
  obtain ⟨⟨i, g1⟩, g2, g3, g4⟩ := sgn B hm
  obtain ⟨c1, cap, c2⟩ := H
  obtain ⟨A', h', cap', u1, u2, u3, u4⟩ := ll_appS (w := w) R (by omega) c2 (c := c) g4 (by omega) g2 g3
  exact ⟨hc_R (o := some s) (ar_c R g1) rfl, A', h', u1, u2, u4, st_c u4 R c1 (by intro q; cases q) (by simp), cap', u3⟩
end WRX
