/-! UNDO, DELIVER: the class -/
def ecu (c : Nat) : Nat := if c = 1 then 14 else if c = 2 then 17 else 15
def udc (G : Nat → fo) (a1 : Int32) : Nat ⊕ Nat := (la_ix a1 3).elim (.inl 1) (fun o => if fK (G o) o = 0 then .inl 2 else if fK (G o) o < 40 then .inr o else .inl 3)
def ddc (G : Nat → fo) (a1 a2 a3 : Int32) : Nat ⊕ (Nat × Nat × Nat) := (la_ix a1 3).elim (.inl 1) (fun o => (la_ix a2 3).elim (.inl 1) (fun m => if o = m then .inl 1 else (la_ix a3 (fK (G m) m + 1)).elim (.inl 1) (fun n => if n = 0 then .inl 1 else .inr (o, m, n))))
section UND
variable {A : ah} {h : pm_H} {M : aM} {D : aD} {G : Nat → fo} {F : fo} {S : rs_S} {X : ax} {o i j l k m n c b : Nat} {r : rc} {a1 a2 a3 a4 a : Int32} {w q : Option Nat}
theorem udc_r (e : udc G a1 = .inr o) : la_ix a1 3 = some o ∧ fK (G o) o ≠ 0 ∧ fK (G o) o < 40 := by
  unfold udc at e
  cases e1 : la_ix a1 3 with
  | none => rw [e1] at e; cases e
  | some o' =>
    simp only [e1, Option.elim_some] at e
    by_cases z : fK (G o') o' = 0
    · rw [if_pos z] at e; cases e
    · rw [if_neg z] at e
      by_cases z2 : fK (G o') o' < 40
      · rw [if_pos z2] at e; cases e; exact ⟨rfl, z, z2⟩
      · rw [if_neg z2] at e; cases e
theorem c162t (R : ar A h) (C : CW M A D G) (H : GW D G) (e : udc G a1 = .inl c) : ll_162 w (some 81) a1 h = tw h (ecu c) := by
  obtain ⟨B, V, Cf', -⟩ := C
  unfold udc at e
  unfold ll_162
  rw [if_pos (hc_lc (ar_c R B.1)), c81 R B]
  cases e1 : la_ix a1 3 with
  | none =>
    rw [e1] at e
    cases e
    exact tw_R
  | some o =>
    obtain ⟨-, ho⟩ := ix_s (by omega) e1
    have Wo := (H.2.2.2.2.2.2.2 o ho).1.1
    have h40 := Wo.2.1 o
    simp only [e1, Option.elim_some] at e
    show (if lc_of h (some (94 + 17 * o)) = some 4 then _ else _) = _
    rw [if_pos (hc_lc (ar_c R (Cf' o ho).1)), c92 R (Cf' o ho) ho, rt_I]
    by_cases z : fK (G o) o = 0
    · rw [if_pos z] at e
      cases e
      rw [z, if_pos (by decide)]
      rfl
    · rw [if_neg z] at e
      rw [if_neg (show ¬ Int32.ofNat (fK (G o) o) = (0 : Int32) from fun y => z (i32_inj (b := 0) (by omega) (by omega) y)), c91 R (Cf' o ho) ho h40]
      by_cases z2 : fK (G o) o < 40
      · rw [if_pos z2] at e; cases e
      · rw [if_neg z2] at e
        cases e
        rw [if_neg z2]
        exact tw_V
theorem own_act (H : GW D G) (ho : o < 3) (hb : b < 120) (hbo : b / 40 = o) (ht : b % 40 < fK (G o) o) : fA (G o) b = true ∧ (∃ r, D b = some r) ∧ tkn (G o) b := by
  have h1 : tkn (G o) b := by unfold tkn; rw [hbo]; exact ht
  exact ⟨((H.2.2.2.2.2.2.2 o ho).1.2.2.1 b hb h1).1, GW_tA H ho hb h1, h1⟩
theorem c162s (R : ar A h) (C : CW M A D G) (H : GW D G) (e : udc G a1 = .inr o) (hb : b = 40 * o + fK (G o) o - 1) (hi : i = 40 * o + fK (G o) o) : (couB D (G o) b = false → ll_162 w (some 81) a1 h = rtI 0 h) ∧ (couB D (G o) b = true → ∃ M' A' h', ll_162 w (some 81) a1 h = rtI 1 h' ∧ ar A' h' ∧ CW M' A' (up D i (some (tbR D o (G o) b))) (up G o (tkF (up D i (some (tbR D o (G o) b))) (G o) i)) ∧ st A A' (blk o) 2 15 ∧ Wd (up D i (some (tbR D o (G o) b))) ∧ Mag M M' D) := by
  obtain ⟨e1, hz, hm⟩ := udc_r e
  obtain ⟨h1, ho⟩ := ix_s (by omega) e1
  have C' := C
  obtain ⟨B, V, Cf', hn⟩ := C'
  obtain ⟨⟨Wo, I, -⟩, -⟩ := H.2.2.2.2.2.2.2 o ho
  have hb2 : b < 120 := by omega
  obtain ⟨hA, ⟨r, hr⟩, ht⟩ := own_act H ho hb2 (by omega) (by omega)
  obtain ⟨f1, f2⟩ := act_ld R (Cf' o ho) hb2
  rw [if_pos hA] at f2
  have hrd := Rdy_of H ho hm
  rw [← hi] at hrd
  have e95 : ll_95 a1 (Int32.ofNat (fK (G o) o)) h = rtI (Int32.ofNat b) h := by rw [h1, c95 (by omega), hb]
  have e163 := c163 R B (Cf' o ho) V H.1 Wo hr
  have pre : ll_162 w (some 81) a1 h = lb_I (ll_163 (some (94 + 17 * o)) (some (M 0 b)) h) (fun v22 h23 => if v22 = (0 : Int32) then if pm_fit 3 (.int v22) = true then some (.inl (some (.inl v22)), h23) else none else if lc_of h23 (some (94 + 17 * o)) = some 4 then lb_V (ll_165 w (some (94 + 17 * o)) (some (M 0 b)) h23) (fun h28 => if pm_fit 3 (.int v22) = true then some (.inl (some (.inl v22)), h28) else none) else none) := by
    unfold ll_162
    rw [if_pos (hc_lc (ar_c R B.1)), c81 R B, e1]
    show (if lc_of h (some (94 + 17 * o)) = some 4 then _ else _) = _
    rw [if_pos (hc_lc (ar_c R (Cf' o ho).1)), c92 R (Cf' o ho) ho, rt_I, if_neg (show ¬ Int32.ofNat (fK (G o) o) = (0 : Int32) from fun y => hz (i32_inj (b := 0) (by omega) (by omega) y)), c91 R (Cf' o ho) ho (Wo.2.1 o), if_pos hm, rt_V, f1, Option.bind_some, if_pos (hc_lc (ar_c R (Cf' o ho).1)), c92 R (Cf' o ho) ho, rt_I, e95, rt_I, f2, Option.bind_some, if_pos (hc_lc (ar_c R (Cf' o ho).1))]
  constructor
  · intro hc
    rw [pre, e163, hc]
    rfl
  · intro hc
    have K := c165 (w := w) R B (Cf' o ho) V H.1 Wo hn hrd hr (fun _ => (ord_120 H ho hm).2)
    obtain ⟨M', A', h', k1, k2, k3, k4, k5, k6⟩ := CW_mk C H R ho hrd.2.2.1 K
    refine ⟨M', A', h', ?_, k2, k3, k4, k5, k6⟩
    rw [pre, e163, hc, if_pos rfl, rt_I, if_neg (by decide), if_pos (hc_lc (ar_c R (Cf' o ho).1)), k1]
    rfl
theorem ddc_r (e : ddc G a1 a2 a3 = .inr (o, m, n)) : la_ix a1 3 = some o ∧ la_ix a2 3 = some m ∧ o ≠ m ∧ la_ix a3 (fK (G m) m + 1) = some n ∧ n ≠ 0 := by
  unfold ddc at e
  cases e1 : la_ix a1 3 with
  | none => rw [e1] at e; cases e
  | some o' =>
    rw [e1] at e
    cases e2 : la_ix a2 3 with
    | none => simp only [Option.elim_some, e2, Option.elim_none] at e; cases e
    | some m' =>
      simp only [Option.elim_some, e2] at e
      by_cases z : o' = m'
      · rw [if_pos z] at e; cases e
      · rw [if_neg z] at e
        cases e3 : la_ix a3 (fK (G m') m' + 1) with
        | none => simp only [e3, Option.elim_none] at e; cases e
        | some n' =>
          simp only [e3, Option.elim_some] at e
          by_cases z2 : n' = 0
          · rw [if_pos z2] at e; cases e
          · rw [if_neg z2] at e
            cases e
            exact ⟨rfl, rfl, z, e3, z2⟩
theorem a3_lt {K : Nat} (hK : K ≤ 40) (e : la_ix a (K + 1) = none ∨ la_ix a (K + 1) = some 0) : a < (1 : Int32) ∨ (¬ a < (1 : Int32) ∧ ¬ a ≤ Int32.ofNat K) := by
  rcases e with e | e
  · by_cases q : a < 1
    · exact Or.inl q
    · right
      refine ⟨q, fun z => ?_⟩
      have q0 : ¬ a < 0 := by
        intro y
        apply q
        rw [Int32.lt_iff_toInt_lt] at y ⊢
        have z0 : (0 : Int32).toInt = 0 := rfl
        have z1 : (1 : Int32).toInt = 1 := rfl
        rw [z1]
        rw [z0] at y
        omega
      apply ix_n (by omega) e q0
      rw [Int32.lt_iff_toInt_lt, Int32.toInt_ofNat_of_lt (by omega)]
      rw [Int32.le_iff_toInt_le, Int32.toInt_ofNat_of_lt (by omega)] at z
      omega
  · obtain ⟨rfl, -⟩ := ix_s (by omega) e
    exact Or.inl (by decide)
theorem c169t (R : ar A h) (C : CW M A D G) (H : GW D G) (e : ddc G a1 a2 a3 = .inl c) : ll_169 w (some 81) a1 a2 a3 h = tw h 14 := by
  obtain ⟨B, V, Cf', -⟩ := C
  unfold ddc at e
  unfold ll_169
  rw [if_pos (hc_lc (ar_c R B.1)), c81 R B]
  cases e1 : la_ix a1 3 with
  | none => exact tw_R
  | some o =>
    obtain ⟨h1, ho⟩ := ix_s (by omega) e1
    rw [e1] at e
    show (if lc_of h (some 81) = some 0 then _ else _) = _
    rw [if_pos (hc_lc (ar_c R B.1)), c81 R B]
    cases e2 : la_ix a2 3 with
    | none => exact tw_R
    | some m =>
      obtain ⟨h2, hm⟩ := ix_s (by omega) e2
      simp only [Option.elim_some, e2] at e
      show (if a1 = a2 then _ else _) = _
      by_cases z : o = m
      · rw [if_pos (by rw [h1, h2, z])]
        rfl
      · rw [if_neg z] at e
        rw [if_neg (fun y => z (by rw [h1, h2] at y; exact i32_inj (by omega) (by omega) y))]
        have h40 := (H.2.2.2.2.2.2.2 m hm).1.1.2.1 m
        have hx : la_ix a3 (fK (G m) m + 1) = none ∨ la_ix a3 (fK (G m) m + 1) = some 0 := by
          cases e3 : la_ix a3 (fK (G m) m + 1) with
          | none => exact Or.inl rfl
          | some n =>
            simp only [e3, Option.elim_some] at e
            by_cases z2 : n = 0
            · rw [z2]; exact Or.inr rfl
            · rw [if_neg z2] at e; cases e
        rcases a3_lt h40 hx with g | ⟨g1, g2⟩
        · rw [if_pos g]; rfl
        · rw [if_neg g1, if_pos (hc_lc (ar_c R (Cf' m hm).1)), c92 R (Cf' m hm) hm, rt_I, if_neg g2]
          rfl
theorem c169s (R : ar A h) (C : CW M A D G) (H : GW D G) (e : ddc G a1 a2 a3 = .inr (o, m, n)) (hi : i = 40 * m + n - 1) : ∃ A' h', ll_169 w (some 81) a1 a2 a3 h = rtI (Int32.ofNat (rcv D (G o) i).1) h' ∧ ar A' h' ∧ CW M A' D (up G o (rcv D (G o) i).2) ∧ st A A' (blk o) 0 0 := by
  obtain ⟨e1, e2, hne, e3, hn0⟩ := ddc_r e
  obtain ⟨h1, ho⟩ := ix_s (by omega) e1
  obtain ⟨h2, hm⟩ := ix_s (by omega) e2
  have C' := C
  obtain ⟨B, V, Cf', hnn⟩ := C'
  obtain ⟨⟨Wo, I, tA, -⟩, -⟩ := H.2.2.2.2.2.2.2 o ho
  have h40 := (H.2.2.2.2.2.2.2 m hm).1.1.2.1 m
  obtain ⟨h3, hn⟩ := ix_s (by omega) e3
  have hi2 : i < 120 := by omega
  obtain ⟨hA, ⟨r, hr⟩, ht⟩ := own_act H hm hi2 (by omega) (by omega)
  obtain ⟨f1, f2⟩ := act_ld R (Cf' m hm) hi2
  rw [if_pos hA] at f2
  obtain ⟨A', h', k1, k2, k3, k4, -, -⟩ := c170 (w := w) R B (Cf' o ho) V H.1 Wo I.1 H.2.2.2.1 (fun x hx h120 => (tA x h120 hx).1) hr
  refine ⟨A', h', ?_, k2, ⟨Cb_st B R k4 (by intro x hx; rw [blk_m] at hx; omega), Cd_st V R k4 (by intro x hx; rw [blk_m] at hx; omega), fun p hp => ?_, Nat.le_trans hnn k4.1⟩, k4⟩
  · unfold ll_169
    rw [if_pos (hc_lc (ar_c R B.1)), c81 R B, e1]
    show (if lc_of h (some 81) = some 0 then _ else _) = _
    rw [if_pos (hc_lc (ar_c R B.1)), c81 R B, e2]
    show (if a1 = a2 then _ else _) = _
    rw [if_neg (fun y => hne (by rw [h1, h2] at y; exact i32_inj (by omega) (by omega) y)), h3, if_neg (show ¬ Int32.ofNat n < (1 : Int32) from fun y => by have := (i32_ltn (b := 1) (by omega) (by omega)).mp y; omega), if_pos (hc_lc (ar_c R (Cf' m hm).1)), c92 R (Cf' m hm) hm, rt_I, if_pos ((i32_len (by omega) (by omega)).mpr (by omega)), f1, Option.bind_some, h2, c95 (by omega), rt_I, ← hi, f2, Option.bind_some, if_pos (hc_lc (ar_c R (Cf' o ho).1)), k1]
    rfl
  · by_cases ep : p = o
    · subst ep
      rw [up_e]
      exact k3
    · rw [up_n ep]
      exact Cf_st (Cf' p hp) R k4 (by intro x hx; rw [blk_m] at hx; omega)
end UND
