/-! TAKING an act: learn, learn a write, take -/
def sam (D : aD) (x i : Nat) : Prop := (D x).bind rrw = (D i).bind rrw ∧ (D x).bind rcl = (D i).bind rcl
def samB (D : aD) (x i : Nat) : Bool := decide ((D x).bind rrw = (D i).bind rrw) && decide ((D x).bind rcl = (D i).bind rcl)
/-- the writes that count, with one more -/
def wrs (D : aD) (i : Nat) : List Nat → List Nat
  | [] => [i]
  | x :: L => if samB D x i = true then (if lat D i (some x) = true then i :: L else x :: L) else x :: wrs D i L
def lkd (D : aD) (l : Nat) : Nat := (D l).elim 0 rlk
def tk1 (D : aD) (F : fo) (i : Nat) : fo := (up (fK F) (i / 40) (i % 40 + 1), up (fA F) i true, fW F, max (fC F) (stp D i / 3), fX F)
def tkF (D : aD) (F : fo) (i : Nat) : fo := if knd D i = 6 then (up (fK F) (i / 40) (i % 40 + 1), up (fA F) i true, wrs D i (fW F), max (fC F) (stp D i / 3), fX F) else (up (fK F) (i / 40) (i % 40 + 1), up (fA F) i true, fW F, max (fC F) (stp D i / 3), up (fX F) (lkd D (lnp D i)) (lrn D (fX F (lkd D (lnp D i))) i))
section TAK
variable {A A' : ah} {h : pm_H} {M : aM} {D : aD} {X : ax} {F : fo} {c o i j l p k : Nat} {r : rc} {a : Int32} {w : Option Nat} {Y : List Nat}
theorem Wx_P (Wxx : Wx D X) (hi : AN D i) : Wx D (xO X, xS X, up (xP X) l (some i), xB X, xA X) := by
  refine ⟨Wxx.1, Wxx.2.1, fun l' i' e => ?_, Wxx.2.2.2.1, Wxx.2.2.2.2⟩
  by_cases q : l' = l
  · subst q
    have e' : up (xP X) l' (some i) l' = some i' := e
    rw [up_e] at e'
    cases e'
    exact hi
  · have e' : up (xP X) l (some i) l' = some i' := e
    rw [up_n q] at e'
    exact Wxx.2.2.1 l' i' e'
theorem Wx_B (Wxx : Wx D X) (hi : AN D i) : Wx D (xO X, xS X, xP X, up (xB X) l (some i), xA X) := by
  refine ⟨Wxx.1, Wxx.2.1, Wxx.2.2.1, fun l' i' e => ?_, Wxx.2.2.2.2⟩
  by_cases q : l' = l
  · subst q
    have e' : up (xB X) l' (some i) l' = some i' := e
    rw [up_e] at e'
    cases e'
    exact hi
  · have e' : up (xB X) l (some i) l' = some i' := e
    rw [up_n q] at e'
    exact Wxx.2.2.2.1 l' i' e'
theorem ins_mem {L : List Nat} {x : Nat} : x ∈ ins D L p ↔ x = p ∨ x ∈ L := by
  unfold ins
  rw [List.mem_append, List.mem_cons]
  have e : x ∈ L ↔ x ∈ L.take (ink D L p) ∨ x ∈ L.drop (ink D L p) := by
    rw [← List.mem_append, List.take_append_drop]
  rw [e]
  constructor
  · rintro (q | q | q)
    · exact Or.inr (Or.inl q)
    · exact Or.inl q
    · exact Or.inr (Or.inr q)
  · rintro (q | q | q)
    · exact Or.inr (Or.inl q)
    · exact Or.inl q
    · exact Or.inr (Or.inr q)
theorem ins_len {L : List Nat} : (ins D L p).length = L.length + 1 := by
  unfold ins
  have := @ink_le D p L
  rw [List.length_append, List.length_cons, List.length_take, List.length_drop, Nat.min_eq_left this]
  omega
theorem Wx_I (Wxx : Wx D X) (hp : PN D p) (hl : (xO X).length < 120) : Wx D (insx D X p) := by
  refine ⟨fun x hx => ?_, Wxx.2.1, Wxx.2.2.1, Wxx.2.2.2.1, ?_, Wxx.2.2.2.2.2⟩
  · rcases ins_mem.mp hx with q | q
    · rw [q]; exact hp
    · exact Wxx.1 x q
  · show (ins D (xO X) p).length ≤ 120
    rw [ins_len]
    omega
theorem act_k (R : ar A h) (V : Cd M A D) (B : Cb A) (W : Wd D) (hi : D i = some r) : lf_R h (some (M 0 i)) [7, 0] = some (some (rk r)) ∧ lc_of h (some (rk r)) = some 18 := by
  have w1 := W i r hi
  have hf := Cb_k6 B w1.2.1 w1.2.2.1
  exact ⟨hc_R (o := some (rk r)) (ar_c R (V.1 i r hi).1) rfl, hc_lc (ar_c R hf)⟩
theorem act_lc (R : ar A h) (V : Cd M A D) (hi : D i = some r) : lc_of h (some (M 0 i)) = some 7 := hc_lc (ar_c R (V.1 i r hi).1)
theorem knd_e (hi : D i = some r) : knd D i = rk r := by unfold knd; rw [hi]; rfl
theorem stp_e (hi : D i = some r) : stp D i = rst r := by unfold stp; rw [hi]; rfl
theorem c111c (R : ar A h) (hc : 81 ≤ c) (hc2 : c + 5 < 145) (C : Cx M A c X) (V : Cd M A D) (W : Wd D) (Wxx : Wx D X) : ∃ A' h', l111_86 w (some c) h = rtV h' ∧ ar A' h' ∧ Cx M A' c (shw D X) ∧ st A A' [c + 2, c + 5] 0 0 := by
  obtain ⟨A', h', p1, p2, p3, p4⟩ := c120 R hc hc2 C V W Wxx
  refine ⟨A', h', ?_, p2, p3, p4⟩
  unfold l111_86
  rw [if_pos (hc_lc (ar_c R C.1)), p1]
  rfl
theorem upm {f : Nat → Option Nat} {g : Nat → Nat} : (fun l' => tm_r ((up f l (some i) l').map g)) = up (fun l' => tm_r ((f l').map g)) l (.ref (g i)) := by
  funext b
  unfold up
  by_cases q : b = l
  · rw [if_pos q, if_pos q]; rfl
  · rw [if_neg q, if_neg q]
theorem c111b (R : ar A h) (hc : 81 ≤ c) (hc2 : c + 5 < 145) (B : Cb A) (C : Cx M A c X) (V : Cd M A D) (W : Wd D) (Wxx : Wx D X) (hi : D i = some r) (hl : l < 120) : ∃ A' h', l111_56 w (some c) (some (M 0 i)) (Int32.ofNat l) h = rtV h' ∧ ar A' h' ∧ Cx M A' c (shw D (lrB D X i l)) ∧ st A A' [c + 4, c + 2, c + 5] 0 0 := by
  have w1 := W i r hi
  unfold l111_56 lrB
  rw [knd_e hi, (act_k R V B W hi).1, Option.bind_some, if_pos (act_k R V B W hi).2, c119 w1.2.1 w1.2.2.1, rt_I]
  by_cases q : rk r = 1 ∨ rk r = 4 ∨ rk r = 5
  · rw [if_pos q, if_neg (by decide), hc_R (o := some (c + 4)) (ar_c R C.1) rfl, Option.bind_some, hc_ldR (o := (xB X l).map (M 0)) (ar_c R C.2.2.2.2.1) rfl (by omega) (ra_get hl), Option.bind_some, if_pos (act_lc R V hi), c103 R V W hi (Wxx.2.2.2.1 l), rt_I]
    by_cases q2 : lat D i (xB X l) = true
    · rw [if_pos q2, if_neg (by decide), if_pos ⟨q, q2⟩]
      obtain ⟨h1, p1, R1⟩ := aw_Sr (i := .aastore) (j := l) (v := .inr (.inr (some (M 0 i)))) (w := .ref (M 0 i)) R C.2.2.2.2.1 (by omega) hl (by omega) (nar_act R (V.1 i r hi).1)
      rw [hc_R (o := some (c + 4)) (ar_c R C.1) rfl, Option.bind_some, p1, Option.bind_some]
      rw [← upm] at R1
      have s1 := st_set (y := .inr (11, ra 120 (fun l' => tm_r ((up (xB X) l (some i) l').map (M 0))))) C.2.2.2.2.1
      obtain ⟨c0, ⟨cap1, c1⟩, ⟨cap2, c2⟩, c3, c4, c5⟩ := C
      have C1 : Cx M (ah_set A (c + 4) (ac_c (.inr (11, ra 120 (fun l' => tm_r ((up (xB X) l (some i) l').map (M 0))))))) c (xO X, xS X, xP X, up (xB X) l (some i), xA X) := ⟨st_c s1 R c0 (by intro q; cases q) (by simp), ⟨cap1, st_c s1 R c1 (by intro q; cases q) (by simp)⟩, ⟨cap2, st_c s1 R c2 (by intro q; cases q) (by simp)⟩, st_c s1 R c3 (by intro q; cases q) (by simp), ah_set_e, st_c s1 R c5 (by intro q; cases q) (by simp)⟩
      obtain ⟨A2, h2, g1, g2, g3, g4⟩ := c111c (w := w) R1 hc hc2 C1 (Cd_st V R s1 (by intro x hx; simp at hx; omega)) W (Wx_B Wxx ⟨r, hi⟩)
      exact ⟨A2, h2, g1, g2, g3, st_w (st_trans s1 g4) (by intro b hb; simpa using hb) (Nat.le_refl _) (Nat.le_refl _)⟩
    · rw [if_neg q2, if_pos rfl, if_neg (fun z => q2 z.2)]
      obtain ⟨A2, h2, g1, g2, g3, g4⟩ := c111c (w := w) R hc hc2 C V W Wxx
      exact ⟨A2, h2, g1, g2, g3, st_w g4 (by intro b hb; simp at hb ⊢; omega) (Nat.le_refl _) (Nat.le_refl _)⟩
  · rw [if_neg q, if_pos rfl, if_neg (fun z => q z.1)]
    obtain ⟨A2, h2, g1, g2, g3, g4⟩ := c111c (w := w) R hc hc2 C V W Wxx
    exact ⟨A2, h2, g1, g2, g3, st_w g4 (by intro b hb; simp at hb ⊢; omega) (Nat.le_refl _) (Nat.le_refl _)⟩
theorem c111a (R : ar A h) (hc : 82 < c) (hc2 : c + 5 < 145) (B : Cb A) (C : Cx M A c X) (V : Cd M A D) (W : Wd D) (Wxx : Wx D X) (hi : D i = some r) (hl : l < 120) : ∃ A' h', l111_26 w (some c) (some (M 0 i)) (Int32.ofNat l) h = rtV h' ∧ ar A' h' ∧ Cx M A' c (shw D (lrB D (lrP D X i l) i l)) ∧ st A A' [c + 3, c + 4, c + 2, c + 5] 0 0 := by
  have w1 := W i r hi
  unfold l111_26 lrP
  rw [knd_e hi, (act_k R V B W hi).1, Option.bind_some, if_pos (act_k R V B W hi).2, c118 R B w1.2.1 w1.2.2.1, rt_I]
  by_cases q : rk r ≤ 3
  · rw [if_pos q, if_neg (by decide), hc_R (o := some (c + 3)) (ar_c R C.1) rfl, Option.bind_some, hc_ldR (o := (xP X l).map (M 0)) (ar_c R C.2.2.2.1) rfl (by omega) (ra_get hl), Option.bind_some, if_pos (act_lc R V hi), c103 R V W hi (Wxx.2.2.1 l), rt_I]
    by_cases q2 : lat D i (xP X l) = true
    · rw [if_pos q2, if_neg (by decide), if_pos ⟨q, q2⟩]
      obtain ⟨h1, p1, R1⟩ := aw_Sr (i := .aastore) (j := l) (v := .inr (.inr (some (M 0 i)))) (w := .ref (M 0 i)) R C.2.2.2.1 (by omega) hl (by omega) (nar_act R (V.1 i r hi).1)
      rw [hc_R (o := some (c + 3)) (ar_c R C.1) rfl, Option.bind_some, p1, Option.bind_some]
      rw [← upm] at R1
      have s1 := st_set (y := .inr (11, ra 120 (fun l' => tm_r ((up (xP X) l (some i) l').map (M 0))))) C.2.2.2.1
      obtain ⟨c0, ⟨cap1, c1⟩, ⟨cap2, c2⟩, c3, c4, c5⟩ := C
      have C1 : Cx M (ah_set A (c + 3) (ac_c (.inr (11, ra 120 (fun l' => tm_r ((up (xP X) l (some i) l').map (M 0))))))) c (xO X, xS X, up (xP X) l (some i), xB X, xA X) := ⟨st_c s1 R c0 (by intro q; cases q) (by simp), ⟨cap1, st_c s1 R c1 (by intro q; cases q) (by simp)⟩, ⟨cap2, st_c s1 R c2 (by intro q; cases q) (by simp)⟩, ah_set_e, st_c s1 R c4 (by intro q; cases q) (by simp), st_c s1 R c5 (by intro q; cases q) (by simp)⟩
      obtain ⟨A2, h2, g1, g2, g3, g4⟩ := c111b (w := w) R1 (by omega) hc2 (Cb_st B R s1 (by intro x hx; simp at hx; omega)) C1 (Cd_st V R s1 (by intro x hx; simp at hx; omega)) W (Wx_P Wxx ⟨r, hi⟩) hi hl
      exact ⟨A2, h2, g1, g2, g3, st_w (st_trans s1 g4) (by intro b hb; simpa using hb) (Nat.le_refl _) (Nat.le_refl _)⟩
    · rw [if_neg q2, if_pos rfl, if_neg (fun z => q2 z.2)]
      obtain ⟨A2, h2, g1, g2, g3, g4⟩ := c111b (w := w) R (by omega) hc2 B C V W Wxx hi hl
      exact ⟨A2, h2, g1, g2, g3, st_w g4 (by intro b hb; simp at hb ⊢; omega) (Nat.le_refl _) (Nat.le_refl _)⟩
  · rw [if_neg q, if_pos rfl, if_neg (fun z => q z.1)]
    obtain ⟨A2, h2, g1, g2, g3, g4⟩ := c111b (w := w) R (by omega) hc2 B C V W Wxx hi hl
    exact ⟨A2, h2, g1, g2, g3, st_w g4 (by intro b hb; simp at hb ⊢; omega) (Nat.le_refl _) (Nat.le_refl _)⟩
theorem c111 (R : ar A h) (hc : 82 < c) (hc2 : c + 5 < 145) (B : Cb A) (C : Cx M A c X) (V : Cd M A D) (W : Wd D) (Wxx : Wx D X) (hi : D i = some r) (hk : rk r ≠ 6) (hlen : rk r ≤ 2 → (xO X).length < 120) : ∃ A' h', ll_111 w (some c) (some (M 0 i)) h = rtV h' ∧ ar A' h' ∧ Cx M A' c (lrn D X i) ∧ st A A' [c + 1, c + 2, c + 3, c + 4, c + 5] 0 0 := by
  have w1 := W i r hi
  obtain ⟨l, hl⟩ := w1.2.2.2.2.2.2.2.2.2.2.2.1 hk
  have hLN := w1.2.2.2.2.2.1 l hl
  have hl2 := LN_lt W hLN
  have el : lnp D i = l := by unfold lnp; rw [hi, Option.bind_some, hl]; rfl
  obtain ⟨rr, -, -, hr6⟩ := LN_c V hLN
  have hR : lf_R h (some (M 0 i)) [7, 5] = some (some (M 1 l)) := by
    have := hc_R (k := 5) (o := (rl r).map (M 1)) (ar_c R (V.1 i r hi).1) rfl
    rw [hl] at this
    exact this
  unfold ll_111 lrn lrI
  rw [el, knd_e hi, hR, Option.bind_some, hc_I (ar_c R hr6) rfl, Option.bind_some, (act_k R V B W hi).1, Option.bind_some, if_pos (act_k R V B W hi).2, c112 w1.2.1 w1.2.2.1, rt_I]
  by_cases q : rk r ≤ 2
  · have hpl := w1.2.2.2.2.2.2.2.2.2.2.2.2.2.2 q
    have hP : lf_R h (some (M 0 i)) [7, 6] = some (some (M 2 i)) := by
      have := hc_R (k := 6) (o := (rpl r).map (M 2)) (ar_c R (V.1 i r hi).1) rfl
      rw [hpl] at this
      exact this
    obtain ⟨A1, h1, p1, R1, C1, s1⟩ := c113 (w := w) R (by omega) hc2 C V W Wxx ⟨r, hi, q⟩ (hlen q)
    rw [if_pos q, if_pos q, if_neg (by decide), hP, Option.bind_some, if_pos (hc_lc (ar_c R C.1)), p1, rt_V]
    obtain ⟨A2, h2, g1, g2, g3, g4⟩ := c111a (w := w) R1 hc hc2 (Cb_st B R s1 (by intro x hx; simp at hx; omega)) C1 (Cd_st V R s1 (by intro x hx; simp at hx; omega)) W (Wx_I Wxx ⟨r, hi, q⟩ (hlen q)) hi hl2
    exact ⟨A2, h2, g1, g2, g3, st_w (st_trans s1 g4) (by intro b hb; simp at hb ⊢; omega) (Nat.le_refl _) (Nat.le_refl _)⟩
  · rw [if_neg q, if_neg q, if_pos rfl]
    obtain ⟨A2, h2, g1, g2, g3, g4⟩ := c111a (w := w) R hc hc2 B C V W Wxx hi hl2
    exact ⟨A2, h2, g1, g2, g3, st_w g4 (by intro b hb; simp at hb ⊢; omega) (Nat.le_refl _) (Nat.le_refl _)⟩
/-! a write -/
theorem c101l (R : ar A h) (C : Cf M A o F) (V : Cd M A D) (W : Wd D) (ho : o < 3) (hW : ∀ i ∈ fW F, ∃ r, D i = some r ∧ rk r = 6) (hi : D i = some r) (hk : rk r = 6) (hlen : (fW F).length < 120) : ∀ m j, j ≤ (fW F).length → (fW F).length - j < m → ∃ A' h', l101_2 m (some (94 + 17 * o)) (some (M 0 i)) (Int32.ofNat j) h = rtV h' ∧ ar A' h' ∧ (∃ cap, A'.1 (94 + 17 * o + 4) = ac_l (((fW F).take j ++ wrs D i ((fW F).drop j)).map (M 0)) cap) ∧ st A A' [94 + 17 * o + 4] 0 0 := by
  obtain ⟨c0, c1, c2, c3, ⟨cap, c4⟩, c5⟩ := C
  have w1 := W i r hi
  obtain ⟨x, y, hx, hy⟩ := w1.2.2.2.2.2.2.2.2.2.2.2.2.1 hk
  have hLx := w1.2.2.2.2.2.2.2.2.2.1 x hx
  have hLy := w1.2.2.2.2.2.2.2.2.2.2.1 y hy
  have hmap : ((fW F).map (M 0)).length = (fW F).length := List.length_map _
  have hob : ar_o A (M 0 i) := ⟨7, _, (V.1 i r hi).1, Or.inr (Or.inl rfl)⟩
  have hRx : lf_R h (some (M 0 i)) [7, 8] = some (some (M 1 x)) := by
    have := hc_R (k := 8) (o := (rrw r).map (M 1)) (ar_c R (V.1 i r hi).1) rfl
    rw [hx] at this
    exact this
  have hRy : lf_R h (some (M 0 i)) [7, 9] = some (some (M 1 y)) := by
    have := hc_R (k := 9) (o := (rcl r).map (M 1)) (ar_c R (V.1 i r hi).1) rfl
    rw [hy] at this
    exact this
  intro m
  induction m with
  | zero => intro j h1 h2; omega
  | succ m ih =>
    intro j h1 h2
    rw [l101_2]
    dsimp only
    rw [hc_R (o := some (94 + 17 * o + 4)) (ar_c R c0) rfl, Option.bind_some, if_pos (ar_lc R c4), ll_size R c4, hmap, rt_I]
    by_cases z : (fW F).length ≤ j
    · rw [if_pos ((i32_len (by omega) (by omega)).mpr z), hc_R (o := some (94 + 17 * o + 4)) (ar_c R c0) rfl, Option.bind_some, if_pos (ar_lc R c4), List.drop_of_length_le z, List.take_of_length_le z]
      obtain ⟨A', h', cap', g1, g2, g3, g4⟩ := ll_add (x := M 0 i) R (by omega) c4 (by omega) hob
      refine ⟨A', h', ?_, g2, ⟨cap', ?_⟩, g4⟩
      · rw [g1]; rfl
      · rw [g3, wrs, List.map_append]; rfl
    · have hj : j < (fW F).length := by omega
      obtain ⟨q, hq, hqk⟩ := hW _ (gl_mem hj)
      have n4 : Int32.ofNat j + (1 : Int32) = Int32.ofNat (j + 1) := i32_add j 1
      rw [if_neg (fun y => z ((i32_len (by omega) (by omega)).mp y)), hc_R (o := some (94 + 17 * o + 4)) (ar_c R c0) rfl, Option.bind_some, if_pos (ar_lc R c4), ll_get R c4 (by rw [hmap]; exact hj), gl_map hj, rt_R, gl_drop hj, wrs]
      generalize hg : (fW F).getD j 0 = g at hq
      have hcc : lf_cc 81 h (some (M 0 g)) [7] = true := by
        unfold lf_cc
        dsimp only
        rw [ar_c R (V.1 g q hq).1]
        rfl
      have hsam : (rk q = 6 ∧ rrw q = some x ∧ rcl q = some y) ↔ samB D g i = true := by
        unfold samB
        rw [hq, hi, Option.bind_some, Option.bind_some, Option.bind_some, Option.bind_some, hx, hy]
        simp [hqk]
      rw [if_pos hcc, hRx, Option.bind_some, hRy, Option.bind_some, if_pos (act_lc R V hq), c102 R V W hq hLx hLy, rt_I]
      by_cases y1 : samB D g i = true
      · rw [if_pos (hsam.mpr y1), if_neg (by decide), if_pos y1, if_pos (act_lc R V hi), show (some (M 0 g) : Option Nat) = (some g).map (M 0) from rfl, c103 R V W hi (x := some g) (fun j e => by cases e; exact ⟨q, hq⟩), rt_I]
        by_cases y2 : lat D i (some g) = true
        · rw [if_pos y2, if_neg (by decide), if_pos y2, hc_R (o := some (94 + 17 * o + 4)) (ar_c R c0) rfl, Option.bind_some, if_pos (ar_lc R c4)]
          obtain ⟨A', h', g1, g2, g3, g4⟩ := ll_setA (x := M 0 i) R c4 hob (i := j) (by rw [hmap]; exact hj)
          refine ⟨A', h', ?_, g2, ⟨cap, ?_⟩, g4⟩
          · rw [g1]; rfl
          · rw [g3]
            congr 1
            rw [← List.map_set]
            congr 1
            rw [List.set_eq_take_append_cons_drop, if_pos hj]
        · rw [if_neg y2, if_pos rfl, if_neg y2]
          refine ⟨A, h, rfl, R, ⟨cap, ?_⟩, st_w st_refl (by simp) (Nat.le_refl _) (Nat.le_refl _)⟩
          rw [c4, ← hg, ← gl_drop hj, List.take_append_drop]
      · rw [if_neg (fun e => y1 (hsam.mp e)), if_pos rfl, if_neg y1, n4]
        obtain ⟨A', h', g1, g2, ⟨cap', g3⟩, g4⟩ := ih (j + 1) (by omega) (by omega)
        refine ⟨A', h', g1, g2, ⟨cap', ?_⟩, g4⟩
        rw [g3]
        congr 1
        congr 1
        rw [List.take_succ_eq_append_getElem hj, List.append_assoc]
        congr 1
        rw [← hg, List.getD_eq_getElem?_getD, List.getElem?_eq_getElem hj]
        rfl
end TAK
