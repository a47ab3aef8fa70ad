/-! AXES: show anew, learn -/
section SHW
variable {A A' : ah} {h : pm_H} {M : aM} {D : aD} {X : ax} {F : fo} {c o i j l p k : Nat} {r : rc} {a : Int32} {w : Option Nat} {Y : List Nat}
theorem lnp_LN (W : Wd D) (hp : PN D p) : (D p).bind rl = some (lnp D p) ∧ LN D (lnp D p) := by
  obtain ⟨r, h1, h2⟩ := hp
  obtain ⟨l, hl⟩ := (W p r h1).2.2.2.2.2.2.2.2.2.2.2.1 (by omega)
  have e : (D p).bind rl = some l := by rw [h1]; exact hl
  have e2 : lnp D p = l := by unfold lnp; rw [e]; rfl
  rw [e2]
  exact ⟨e, (W p r h1).2.2.2.2.2.1 l hl⟩
theorem plc_PN (W : Wd D) (Wxx : Wx D X) (e : plc D X l = some p) : PN D p := by
  unfold plc at e
  cases q : xP X l with
  | none => rw [q] at e; cases e
  | some i =>
    obtain ⟨r, hr⟩ := Wxx.2.2.1 l i q
    rw [q, Option.bind_some, hr, Option.bind_some] at e
    exact (W i r hr).2.2.2.2.2.2.1 p e
theorem Cx_mk {s : List Nat × (Nat → Int32)} (c0 : A.1 c = ac_c (.inl (5, [.ref (c + 1), .ref (c + 2), .ref (c + 3), .ref (c + 4), .ref (c + 5)]))) (c1 : ∃ cap, A.1 (c + 1) = ac_l ((xO X).map (M 2)) cap) (c2 : ∃ cap, A.1 (c + 2) = ac_l (s.1.map (M 1)) cap) (c3 : A.1 (c + 3) = ac_c (.inr (11, ra 120 (fun l => tm_r ((xP X l).map (M 0)))))) (c4 : A.1 (c + 4) = ac_c (.inr (11, ra 120 (fun l => tm_r ((xB X l).map (M 0)))))) (c5 : A.1 (c + 5) = ac_c (.inr (0, ra 120 (fun l => .int (s.2 l))))) : Cx M A c (shx X s) := ⟨c0, c1, c2, c3, c4, c5⟩
theorem Cx_un {s : List Nat × (Nat → Int32)} (C : Cx M A c (shx X s)) : A.1 c = ac_c (.inl (5, [.ref (c + 1), .ref (c + 2), .ref (c + 3), .ref (c + 4), .ref (c + 5)])) ∧ (∃ cap, A.1 (c + 1) = ac_l ((xO X).map (M 2)) cap) ∧ (∃ cap, A.1 (c + 2) = ac_l (s.1.map (M 1)) cap) ∧ A.1 (c + 3) = ac_c (.inr (11, ra 120 (fun l => tm_r ((xP X l).map (M 0))))) ∧ A.1 (c + 4) = ac_c (.inr (11, ra 120 (fun l => tm_r ((xB X l).map (M 0))))) ∧ A.1 (c + 5) = ac_c (.inr (0, ra 120 (fun l => .int (s.2 l)))) := C
/-- one more is shown -/
theorem c120s (R : ar A h) (hc : 81 ≤ c) (hc2 : c + 5 < 145) (s : List Nat × (Nat → Int32)) (C : Cx M A c (shx X s)) (V : Cd M A D) (W : Wd D) (hl : LN D l) (hs : s.1.length < 120) : ∃ A' h1 h', la_S pt_P h .iastore (some (c + 5)) (Int32.ofNat l) (.inl (Int32.ofNat s.1.length)) = some h1 ∧ lf_R h1 (some c) [5, 1] = some (some (c + 2)) ∧ lc_of h1 (some (c + 2)) = some 12 ∧ (∀ p, PN D p → lf_R h1 (some (M 2 p)) [8, 0] = some (((D p).bind rl).map (M 1))) ∧ ll_105 (some (c + 2)) (some (M 1 l)) h1 = rtI 1 h' ∧ ar A' h' ∧ Cx M A' c (shx X (s.1 ++ [l], up s.2 l (Int32.ofNat s.1.length))) ∧ st A A' [c + 5, c + 2] 0 0 := by
  obtain ⟨c0, ⟨cap1, c1⟩, ⟨cap2, c2⟩, c3, c4, c5⟩ := Cx_un C
  have hl2 := LN_lt W hl
  obtain ⟨h1, p1, R1⟩ := aw_Sr (i := .iastore) (j := l) (v := .inl (Int32.ofNat s.1.length)) (w := .int (Int32.ofNat s.1.length)) R c5 (by omega) hl2 (by omega) rfl
  have s1 := st_set (y := .inr (0, ra 120 (up (fun l => Value.int (s.2 l)) l (.int (Int32.ofNat s.1.length))))) c5
  have V1 := Cd_st V R s1 (by simp; omega)
  obtain ⟨r, -, -, hr⟩ := LN_c V1 hl
  have c2' := st_c s1 R c2 (by intro q; cases q) (by simp)
  have c0' := st_c s1 R c0 (by intro q; cases q) (by simp)
  have hmap : (s.1.map (M 1)).length = s.1.length := List.length_map _
  obtain ⟨A2, h2, cap', g1, g2, g3, g4⟩ := ll_add (x := M 1 l) R1 (by omega) c2' (by omega) ⟨6, _, hr, Or.inl rfl⟩
  have s2 : st A A2 [c + 5, c + 2] 0 0 := st_w (st_trans s1 g4) (by intro b hb; simpa using hb) (Nat.le_refl _) (Nat.le_refl _)
  have d0 := st_c g4 R1 c0' (by intro q; cases q) (by simp)
  have d1 := st_c s2 R c1 (by intro q; cases q) (by simp)
  have d3 := st_c s2 R c3 (by intro q; cases q) (by simp)
  have d4 := st_c s2 R c4 (by intro q; cases q) (by simp)
  have d5 := st_c (a := c + 5) g4 R1 ah_set_e (by intro q; cases q) (by simp)
  have e5 : (fun b => Value.int (up s.2 l (Int32.ofNat s.1.length) b)) = up (fun l => Value.int (s.2 l)) l (.int (Int32.ofNat s.1.length)) := by
    funext b
    unfold up
    by_cases q : b = l
    · rw [if_pos q, if_pos q]
    · rw [if_neg q, if_neg q]
  rw [← e5] at d5
  have e2 : s.1.map (M 1) ++ [M 1 l] = (s.1 ++ [l]).map (M 1) := by rw [List.map_append]; rfl
  rw [e2] at g3
  exact ⟨A2, h1, h2, p1, hc_R (o := some (c + 2)) (ar_c R1 c0') rfl, ar_lc R1 c2', fun p hp => (PN_rd R1 V1 hp).2.2.1, g1, g2, Cx_mk d0 ⟨cap1, d1⟩ ⟨cap', g3⟩ d3 d4 d5, s2⟩
theorem c120l (hc : 81 ≤ c) (hc2 : c + 5 < 145) (W : Wd D) (Wxx : Wx D X) : ∀ (m i : Nat) (A : ah) (h : pm_H) (s : List Nat × (Nat → Int32)), ar A h → Cx M A c (shx X s) → Cd M A D → (∀ l ∈ s.1, LN D l) → s.1.length ≤ i → i ≤ (xO X).length → (xO X).length - i < m → ∃ A' h', l120_17 m (some c) (Int32.ofNat i) h = rtV h' ∧ ar A' h' ∧ Cx M A' c (shx X (shl D X ((xO X).drop i) s)) ∧ st A A' [c + 2, c + 5] 0 0 := by
  have hle := Wxx.2.2.2.2.1
  intro m
  induction m with
  | zero => intro i A h s _ _ _ _ _ h1 h2; omega
  | succ m ih =>
    intro i A h s R C V hs1 hs2 h1 h2
    have C' := C
    obtain ⟨c0, ⟨cap1, c1⟩, ⟨cap2, c2⟩, c3, c4, c5⟩ := Cx_un C
    rw [l120_17]
    dsimp only
    rw [hc_R (o := some (c + 1)) (ar_c R c0) rfl, Option.bind_some, if_pos (ar_lc R c1), ll_size R c1, List.length_map, rt_I]
    by_cases z : (xO X).length ≤ i
    · rw [if_pos ((i32_len (by omega) (by omega)).mpr z), List.drop_of_length_le z]
      exact ⟨A, h, rfl, R, C', st_w st_refl (by simp) (Nat.le_refl _) (Nat.le_refl _)⟩
    · have hi : i < (xO X).length := by omega
      have hp := Wxx.1 _ (gl_mem hi)
      have n4 : Int32.ofNat i + (1 : Int32) = Int32.ofNat (i + 1) := i32_add i 1
      obtain ⟨hln, hLN⟩ := lnp_LN W hp
      have hrl := (PN_rd R V hp).2.2.1
      rw [hln, Option.map_some] at hrl
      have Ws : Wx D (shx X s) := ⟨Wxx.1, hs1, Wxx.2.2.1, Wxx.2.2.2.1, Wxx.2.2.2.2.1, by show s.1.length ≤ 120; omega⟩
      rw [gl_drop hi]
      generalize hg : (xO X).getD i 0 = p at hp hln hLN hrl
      rw [if_neg (fun y => z ((i32_len (by omega) (by omega)).mp y)), hc_R (o := some (c + 1)) (ar_c R c0) rfl, Option.bind_some, if_pos (ar_lc R c1), ll_get R c1 (by rw [List.length_map]; exact hi), gl_map hi, hg, rt_R, if_pos (PN_rd R V hp).1, hrl, Option.bind_some, if_pos (hc_lc (ar_c R c0)), c90 R C' V W Ws hLN, rt_R]
      have eP : plc D (shx X s) (lnp D p) = plc D X (lnp D p) := rfl
      have eT : thr D (shx X s) (lnp D p) = thr D X (lnp D p) := rfl
      have hPN : ∀ q, plc D X (lnp D p) = some q → PN D q := fun q hq => plc_PN W Wxx hq
      rw [eP, acmA (Cd_idn V (fun j e => PN_AN (hPN j e))) (Cd_1 V (PN_AN hp))]
      have e : ((plc D X (lnp D p)).map (M 2) = some (M 2 p)) ↔ plc D X (lnp D p) = some p := Cd_in V (q := 2) (x := plc D X (lnp D p)) (y := some p) (fun j e => PN_AN (hPN j e)) (fun j e => by cases e; exact PN_AN hp)
      have hfold : shl D X (p :: (xO X).drop (i + 1)) s = shl D X ((xO X).drop (i + 1)) (shs D X s p) := rfl
      rw [hfold]
      by_cases y : plc D X (lnp D p) = some p
      · rw [if_pos (e.mpr y), hrl, Option.bind_some, if_pos (hc_lc (ar_c R c0)), c122 R C' V W Ws hLN, rt_I, eT]
        by_cases y2 : thr D X (lnp D p) = true
        · rw [if_pos y2, if_neg (by decide)]
          obtain ⟨rr, -, -, hr6⟩ := LN_c V hLN
          obtain ⟨A1, h1', h2', g1, g2, g3, g4, g5, R2, C2, s2⟩ := c120s R hc hc2 s C' V W hLN (by omega)
          have V2 := Cd_st V R s2 (by intro x hx; simp at hx; omega)
          have g4p := g4 p hp
          rw [hln, Option.map_some] at g4p
          rw [hc_R (o := some (c + 5)) (ar_c R c0) rfl, Option.bind_some, hrl, Option.bind_some, hc_I (ar_c R hr6) rfl, Option.bind_some, hc_R (o := some (c + 2)) (ar_c R c0) rfl, Option.bind_some, if_pos (ar_lc R c2), ll_size R c2, List.length_map, rt_I, g1, Option.bind_some, g2, Option.bind_some, g4p, Option.bind_some, if_pos g3, g5, rt_I]
          unfold l120_94
          rw [n4]
          have hsh : shs D X s p = (s.1 ++ [lnp D p], up s.2 (lnp D p) (Int32.ofNat s.1.length)) := if_pos ⟨y, y2⟩
          rw [hsh]
          obtain ⟨A3, h3, q1, q2, q3, q4⟩ := ih (i + 1) A1 h2' (s.1 ++ [lnp D p], up s.2 (lnp D p) (Int32.ofNat s.1.length)) R2 C2 V2 (by
            intro l hl
            rcases List.mem_append.mp hl with hl | hl
            · exact hs1 l hl
            · rw [List.mem_singleton.mp hl]; exact hLN) (by rw [List.length_append]; simp; omega) (by omega) (by omega)
          exact ⟨A3, h3, q1, q2, q3, st_w (st_trans s2 q4) (by intro b hb; simp at hb ⊢; omega) (Nat.le_refl _) (Nat.le_refl _)⟩
        · rw [if_neg y2, if_pos rfl]
          unfold l120_94
          rw [n4]
          have hsh : shs D X s p = s := if_neg (fun q => y2 q.2)
          rw [hsh]
          exact ih (i + 1) A h s R C' V hs1 (by omega) (by omega) (by omega)
      · rw [if_neg (fun x => y (e.mp x))]
        unfold l120_94
        rw [n4]
        have hsh : shs D X s p = s := if_neg (fun q => y q.1)
        rw [hsh]
        exact ih (i + 1) A h s R C' V hs1 (by omega) (by omega) (by omega)
theorem c120 (R : ar A h) (hc : 81 ≤ c) (hc2 : c + 5 < 145) (C : Cx M A c X) (V : Cd M A D) (W : Wd D) (Wxx : Wx D X) : ∃ A' h', ll_120 (some c) h = rtV h' ∧ ar A' h' ∧ Cx M A' c (shw D X) ∧ st A A' [c + 2, c + 5] 0 0 := by
  obtain ⟨c0, ⟨cap1, c1⟩, ⟨cap2, c2⟩, c3, c4, c5⟩ := C
  obtain ⟨A1, h1, p1, R1, e1, s1⟩ := ll_clear R c2
  have c0' := st_c s1 R c0 (by intro q; cases q) (by simp)
  have c5' := st_c s1 R c5 (by intro q; cases q) (by simp)
  obtain ⟨h2, p2, R2⟩ := ll_fill (z := -1) R1 c5' (by omega) (by omega)
  have s2 := st_set (y := .inr (0, ra 120 (fun _ => Value.int (-1)))) c5'
  have s12 := st_trans s1 s2
  have C2 : Cx M (ah_set A1 (c + 5) (ac_c (.inr (0, ra 120 (fun _ => Value.int (-1)))))) c (shx X ([], fun _ => -1)) := by
    refine Cx_mk (st_c s12 R c0 (by intro q; cases q) (by simp)) ⟨cap1, st_c s12 R c1 (by intro q; cases q) (by simp)⟩ ⟨cap2, ?_⟩ (st_c s12 R c3 (by intro q; cases q) (by simp)) (st_c s12 R c4 (by intro q; cases q) (by simp)) ah_set_e
    exact st_c s2 R1 e1 (by intro q; cases q) (by simp)
  obtain ⟨A3, h3, q1, q2, q3, q4⟩ := c120l hc hc2 W Wxx lf_N 0 _ h2 ([], fun _ => -1) R2 C2 (Cd_st V R s12 (by intro x hx; simp at hx; omega)) (fun l hl => by cases hl) (Nat.zero_le _) (Nat.zero_le _) (by have := Wxx.2.2.2.2.1; unfold lf_N; omega)
  refine ⟨A3, h3, ?_, q2, q3, st_w (st_trans s12 q4) (by intro b hb; simp at hb ⊢; omega) (Nat.le_refl _) (Nat.le_refl _)⟩
  unfold ll_120
  rw [hc_R (o := some (c + 2)) (ar_c R c0) rfl, Option.bind_some, if_pos (ar_lc R c2), p1, rt_V, hc_R (o := some (c + 5)) (ar_c R1 c0') rfl, Option.bind_some, p2, rt_V]
  exact q1
end SHW
