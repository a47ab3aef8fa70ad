/-! THE REFERENCE: references; the next token -/
def SHL (o : Nat) (Lr Lc : List Nat) (S : rs_S) : Prop := o < 3 ∧ SH o 0 Lr S ∧ SH o 1 Lc S ∧ Lr.length ≤ 120 ∧ Lc.length ≤ 120
section RRF
variable {S S' S2 : rs_S} {T Lr Lc : List Nat} {P : Nat → Bool} {k t p j n m x b d q N e o nd : Nat} {g : Bool}
theorem SHL_2 (h : S'.2 = S.2) (H : SHL o Lr Lc S) : SHL o Lr Lc S' := by
  unfold SHL SH at H ⊢
  rw [h]
  exact H
theorem q270e (H : SHL o Lr Lc S) (hp : S.1 23 = Int32.ofNat p) (hnd : nd ≤ 2) (hpl : p ≤ 20) (hr : 1 ≤ b) (h1 : b ≤ Lr.length) (h2 : x < Lc.length) : ∃ S', r270_165 (Int32.ofNat o) (Int32.ofNat x) (Int32.ofNat nd) (Int32.ofNat b) (1 : Int32) S = some ((), S') ∧ Rl S S' ∧ S'.1 23 = Int32.ofNat (p + 1 + nd) ∧ S'.1 25 = -3 ∧ S'.1 24 = S.1 24 ∧ S'.1 26 = S.1 26 ∧ S'.1 27 = Int32.ofNat (Lr.getD (b - 1) 0 + 128 * Lc.getD x 0) := by
  obtain ⟨ho, H0, H1, l0, l1⟩ := H
  have n1 : Int32.ofNat b - (1 : Int32) = Int32.ofNat (b - 1) := i32_sub (b := 1) hr
  unfold r270_165 rb_S
  dsimp only
  rw [if_neg (by decide)]
  unfold r270_192 rb_S
  dsimp only
  rw [if_neg (by decide), n1]
  have q1 : rf_242 (Int32.ofNat o) (0 : Int32) (Int32.ofNat (b - 1)) (rs_setI (rs_setI S 23 ((S.1 23 + 1) + Int32.ofNat nd)) 25 (-3)) = some (Int32.ofNat (Lr.getD (b - 1) 0), rs_setI (rs_setI S 23 ((S.1 23 + 1) + Int32.ofNat nd)) 25 (-3)) := q242 (k := 0) ho (by omega) H0 l0 (by omega)
  have q2 : rf_242 (Int32.ofNat o) (1 : Int32) (Int32.ofNat x) (rs_setI (rs_setI S 23 ((S.1 23 + 1) + Int32.ofNat nd)) 25 (-3)) = some (Int32.ofNat (Lc.getD x 0), rs_setI (rs_setI S 23 ((S.1 23 + 1) + Int32.ofNat nd)) 25 (-3)) := q242 (k := 1) ho (by omega) H1 l1 h2
  rw [q1, rb_r, q2, rb_r]
  unfold r270_227 rb_S
  refine ⟨_, rfl, Rl_tr (Rl_I (by omega) (by omega)) (Rl_tr (Rl_I (by omega) (by omega)) (Rl_I (by omega) (by omega))), ?_, rfl, rfl, rfl, ?_⟩
  · show (S.1 23 + (1 : Int32)) + Int32.ofNat nd = _
    rw [hp, show (1 : Int32) = Int32.ofNat 1 from rfl, i32_add, i32_add]
  · show Int32.ofNat (Lr.getD (b - 1) 0) + (128 : Int32) * Int32.ofNat (Lc.getD x 0) = _
    rw [show (128 : Int32) = Int32.ofNat 128 from rfl, i32_mul, i32_add]
theorem q270b {x2 x4 : Int32} (hp : S.1 23 = Int32.ofNat p) : ∃ S', r270_164 (Int32.ofNat o) x2 (Int32.ofNat nd) x4 S = some ((), S') ∧ Rl S S' ∧ S'.1 23 = Int32.ofNat (p + 1 + nd) ∧ S'.1 25 = -4 ∧ S'.1 24 = S.1 24 ∧ S'.1 26 = S.1 26 := by
  refine ⟨_, rfl, Rl_tr (Rl_I (by omega) (by omega)) (Rl_tr (Rl_I (by omega) (by omega)) (Rl_I (by omega) (by omega))), ?_, rfl, rfl, rfl⟩
  show (S.1 23 + (1 : Int32)) + Int32.ofNat nd = _
  rw [hp, show (1 : Int32) = Int32.ofNat 1 from rfl, i32_add, i32_add]
/-- what the row's digits tell -/
theorem q270m (X : TX0 T S) (H : SHL o Lr Lc S) (hp : S.1 23 = Int32.ofNat p) (hpl : p < T.length) (hc : cpB (chT T p) = true) (hnd : te T p = p + 1 + nd) (hb : b = (if nd = 0 then 0 else if nd = 1 then chT T (p + 1) - 48 else 10 * (chT T (p + 1) - 48) + (chT T (p + 2) - 48))) (hg : nd ≠ 0 → p + 1 < T.length ∧ dgB (chT T (p + 1)) = true) (hnd2 : nd ≤ 2) (hb99 : b < 100) : ∃ S', r270_111 (Int32.ofNat o) (Int32.ofNat (chT T p - 65)) (Int32.ofNat nd) (Int32.ofNat b) S = some ((), S') ∧ Rl S S' ∧ S'.1 23 = Int32.ofNat (te T p) ∧ S'.1 25 = (if (rfv T Lr Lc p).isSome = true then -3 else -4) ∧ S'.1 24 = S.1 24 ∧ S'.1 26 = S.1 26 ∧ ∀ y z, rfv T Lr Lc p = some (y, z) → S'.1 27 = Int32.ofNat (y + 128 * z) := by
  have hT := X.2.1
  have hci : 65 ≤ chT T p ∧ chT T p ≤ 90 := by
    unfold cpB at hc
    rw [decide_eq_true_iff] at hc
    exact hc
  have bad : rfv T Lr Lc p = none → ∃ S', r270_164 (Int32.ofNat o) (Int32.ofNat (chT T p - 65)) (Int32.ofNat nd) (Int32.ofNat b) S = some ((), S') ∧ Rl S S' ∧ S'.1 23 = Int32.ofNat (te T p) ∧ S'.1 25 = (if (rfv T Lr Lc p).isSome = true then -3 else -4) ∧ S'.1 24 = S.1 24 ∧ S'.1 26 = S.1 26 ∧ ∀ y z, rfv T Lr Lc p = some (y, z) → S'.1 27 = Int32.ofNat (y + 128 * z) := by
    intro e
    obtain ⟨S', g1, g2, g3, g4, g5, g6⟩ := q270b (o := o) (nd := nd) (x2 := Int32.ofNat (chT T p - 65)) (x4 := Int32.ofNat b) hp
    rw [e, hnd]
    exact ⟨S', g1, g2, g3, g4, g5, g6, fun y z q => by cases q⟩
  have hrw : rwv T p = if nd = 0 then 0 else if chT T (p + 1) = 48 then 0 else b := by
    unfold rwv
    rw [hb, hnd]
    by_cases z0 : nd = 0
    · rw [if_pos (by omega), if_pos z0]
    · rw [if_neg (by omega), if_neg z0]
      by_cases z1 : chT T (p + 1) = 48
      · rw [if_pos z1, if_pos z1]
      · rw [if_neg z1, if_neg z1, if_neg z0]
        by_cases z2 : nd = 1
        · rw [if_pos (by omega), if_pos z2]
        · rw [if_neg (by omega), if_neg z2]
  have H' := H
  obtain ⟨ho, H0, H1, l0, l1⟩ := H
  unfold r270_111
  by_cases z0 : nd = 0
  · rw [if_pos (show Int32.ofNat nd ≤ (0 : Int32) by rw [z0]; decide)]
    exact bad (by unfold rfv; rw [hrw, if_pos z0, if_neg (fun z => by have := z.2.1; omega)])
  · obtain ⟨g1, g2⟩ := hg z0
    have hdi := dg_i.mp g2
    rw [if_neg (show ¬ Int32.ofNat nd ≤ (0 : Int32) from fun z => by have := (i32_len (b := 0) (by omega) (by omega)).mp z; omega), hp, show Int32.ofNat p + (1 : Int32) = Int32.ofNat (p + 1) from i32_add p 1, rdI (n := 20) (by decide) (by omega) (by omega), Option.bind_some, X.2.2.2 _ g1]
    by_cases z1 : chT T (p + 1) = 48
    · rw [if_pos (show Int32.ofNat (chT T (p + 1)) = (48 : Int32) by rw [z1]; rfl)]
      exact bad (by unfold rfv; rw [hrw, if_neg z0, if_pos z1, if_neg (fun z => by have := z.2.1; omega)])
    · have hb1 : 1 ≤ b := by
        rw [hb, if_neg z0]
        split <;> omega
      rw [if_neg z0, if_neg z1] at hrw
      rw [if_neg (show ¬ Int32.ofNat (chT T (p + 1)) = (48 : Int32) from i32_ofne (b := 48) (by omega) (by omega) z1), show (2 : Int32) * Int32.ofNat o = Int32.ofNat (2 * o) from i32_mul 2 o, rdI (n := 6) (by decide) (by omega) (by omega), Option.bind_some, show S.2.1 20 (2 * o) = Int32.ofNat Lr.length from H0.1]
      by_cases z2 : Lr.length < b
      · rw [if_pos ((i32_ltn (by omega) (by omega)).mpr z2)]
        exact bad (by unfold rfv; rw [hrw, if_neg (fun z => by have := z.2.2.1; omega)])
      · rw [if_neg (fun z => z2 ((i32_ltn (by omega) (by omega)).mp z)), show Int32.ofNat (2 * o) + (1 : Int32) = Int32.ofNat (2 * o + 1) from i32_add (2 * o) 1, rdI (n := 6) (by decide) (by omega) (by omega), Option.bind_some, H1.1]
        by_cases z3 : Lc.length ≤ chT T p - 65
        · rw [if_pos ((i32_len (by omega) (by omega)).mpr z3)]
          exact bad (by unfold rfv; rw [if_neg (fun z => by have := z.2.2.2; omega)])
        · rw [if_neg (fun z => z3 ((i32_len (by omega) (by omega)).mp z))]
          have e : rfv T Lr Lc p = some (Lr.getD (b - 1) 0, Lc.getD (chT T p - 65) 0) := by
            unfold rfv
            rw [hrw, if_pos ⟨hc, hb1, by omega, by omega⟩]
          obtain ⟨S', e1, e2, e3, e4, e5, e6, e7⟩ := q270e (nd := nd) H' hp hnd2 (by omega) hb1 (show b ≤ Lr.length by omega) (show chT T p - 65 < Lc.length by omega)
          rw [e, hnd]
          exact ⟨S', e1, e2, e3, e4, e5, e6, fun y z q => by cases q; exact e7⟩
theorem q270 (X : TX0 T S) (H : SHL o Lr Lc S) (hc : cpB (chT T p) = true) (hp : S.1 23 = Int32.ofNat p) : ∃ S', rf_270 (Int32.ofNat o) S = some ((), S') ∧ Rl S S' ∧ S'.1 23 = Int32.ofNat (te T p) ∧ S'.1 25 = (if (rfv T Lr Lc p).isSome = true then -3 else -4) ∧ S'.1 24 = S.1 24 ∧ S'.1 26 = S.1 26 ∧ ∀ y z, rfv T Lr Lc p = some (y, z) → S'.1 27 = Int32.ofNat (y + 128 * z) := by
  have hT := X.2.1
  have hpl := cp_e hc
  have hci : 65 ≤ chT T p ∧ chT T p ≤ 90 := by
    unfold cpB at hc
    rw [decide_eq_true_iff] at hc
    exact hc
  have n65 : Int32.ofNat (chT T p) - (65 : Int32) = Int32.ofNat (chT T p - 65) := i32_sub (b := 65) hci.1
  unfold rf_270
  rw [hp, rdI (n := 20) (by decide) (by omega) (by omega), Option.bind_some, X.2.2.2 p hpl, show Int32.ofNat p + (1 : Int32) = Int32.ofNat (p + 1) from i32_add p 1, q267 X (by omega), rb_r, ifB, n65]
  rcases te_cp hpl hc with ⟨e, e1⟩ | ⟨e, e1, e2⟩ | ⟨e, e1, e2⟩
  · rw [if_neg (fun z => e1 (dgA_i.mp z))]
    unfold r270_48
    rw [if_pos rfl]
    exact q270m (nd := 0) (b := 0) X H hp hpl hc (by omega) (by rw [if_pos rfl]) (fun z => absurd rfl z) (by omega) (by omega)
  · have d1 := dg_i.mp e1.2
    rw [if_pos (dgA_i.mpr e1), hp, show Int32.ofNat p + (2 : Int32) = Int32.ofNat (p + 2) from i32_add p 2, q267 X (by omega), rb_r, ifB, if_neg (fun z => e2 (dgA_i.mp z))]
    unfold r270_48
    rw [if_neg (by decide), if_pos rfl, hp, show Int32.ofNat p + (1 : Int32) = Int32.ofNat (p + 1) from i32_add p 1, rdI (n := 20) (by decide) (by omega) (by omega), Option.bind_some, X.2.2.2 _ e1.1, show Int32.ofNat (chT T (p + 1)) - (48 : Int32) = Int32.ofNat (chT T (p + 1) - 48) from i32_sub (b := 48) d1.1]
    exact q270m (nd := 1) (b := chT T (p + 1) - 48) X H hp hpl hc (by omega) (by rw [if_neg (by omega), if_pos rfl]) (fun _ => e1) (by omega) (by omega)
  · have d1 := dg_i.mp e1.2
    have d2 := dg_i.mp e2.2
    rw [if_pos (dgA_i.mpr e1), hp, show Int32.ofNat p + (2 : Int32) = Int32.ofNat (p + 2) from i32_add p 2, q267 X (by omega), rb_r, ifB, if_pos (dgA_i.mpr e2)]
    unfold r270_48
    rw [if_neg (by decide), if_neg (by decide), hp, show Int32.ofNat p + (1 : Int32) = Int32.ofNat (p + 1) from i32_add p 1, rdI (n := 20) (by decide) (by omega) (by omega), Option.bind_some, X.2.2.2 _ e1.1, show Int32.ofNat (chT T (p + 1)) - (48 : Int32) = Int32.ofNat (chT T (p + 1) - 48) from i32_sub (b := 48) d1.1, show Int32.ofNat p + (2 : Int32) = Int32.ofNat (p + 2) from i32_add p 2, rdI (n := 20) (by decide) (by omega) (by omega), Option.bind_some, X.2.2.2 _ e2.1, show (10 : Int32) * Int32.ofNat (chT T (p + 1) - 48) = Int32.ofNat (10 * (chT T (p + 1) - 48)) from i32_mul 10 _, i32_add, show Int32.ofNat (10 * (chT T (p + 1) - 48) + chT T (p + 2)) - (48 : Int32) = Int32.ofNat (10 * (chT T (p + 1) - 48) + chT T (p + 2) - 48) from i32_sub (b := 48) (by omega)]
    exact q270m (nd := 2) (b := 10 * (chT T (p + 1) - 48) + chT T (p + 2) - 48) X H hp hpl hc (by omega) (by rw [if_neg (by omega), if_neg (by omega)]; omega) (fun _ => e1) (by omega) (by omega)
theorem te_n (hp : T.length ≤ p) : te T p = p := by unfold te; rw [if_pos hp]
/-- the next token -/
theorem q266 (X : TX0 T S) (K : TK T k) (H : SHL o Lr Lc S) (hp : S.1 23 = Int32.ofNat p) (hpl : p ≤ T.length) : ∃ S', rf_266 (Int32.ofNat o) S = some ((), S') ∧ Rl S S' ∧ LXT T Lr Lc p S' := by
  have hT := X.2.1
  have l1 : Rl S (rs_setI S 24 (S.1 23)) := Rl_I (by omega) (by omega)
  have X1 := TX0_l l1 X
  have hp1 : (rs_setI S 24 (S.1 23)).1 23 = Int32.ofNat p := hp
  have h24 : (rs_setI S 24 (S.1 23)).1 24 = Int32.ofNat p := hp
  have H1 := SHL_2 (S' := rs_setI S 24 (S.1 23)) rfl H
  unfold rf_266 rb_S
  dsimp only
  rw [X1.1, hp1]
  by_cases q : p = T.length
  · have hn : chT T p = 0 := chT_n (by omega)
    rw [if_pos (by rw [q])]
    refine ⟨_, rfl, Rl_tr l1 (Rl_I (by omega) (by omega)), ⟨h24, ?_, ?_, ?_, ?_⟩⟩
    · rw [te_n (by omega)]; exact hp
    · unfold cdT; rw [if_pos (by omega)]; rfl
    · intro v hv; unfold nmv at hv; rw [hn, if_neg (fun z => by cases z.1)] at hv; cases hv
    · intro y z hv; unfold rfv at hv; rw [hn, if_neg (fun z => by cases z.1)] at hv; cases hv
  · have hlt : p < T.length := by omega
    have hb := chT_b (p := p) X.2.2.1
    rw [if_neg (i32_ofne (by omega) (by omega) q), q267 X1 (by omega), rb_r, ifB]
    have num : nmB (chT T p) = true → ∃ S', r266_49 (rs_setI S 24 (S.1 23)) = some ((), S') ∧ Rl S S' ∧ LXT T Lr Lc p S' := by
      intro hn
      obtain ⟨S', g1, g2, g3, g4, g5, g6, g7⟩ := q269 X1 K hn hp1
      unfold r266_49
      rw [g1, rb_r]
      refine ⟨S', rfl, Rl_tr l1 g2, g5.trans h24, g3, ?_, g7, ?_⟩
      · unfold cdT; rw [if_neg (by omega), if_pos hn]; exact g4
      · intro y z hv
        unfold rfv at hv
        rw [if_neg (fun z => by have := cp_nm z.1; rw [hn] at this; cases this)] at hv
        cases hv
    by_cases hd : dgA T p = true
    · rw [if_pos hd]
      exact num (by unfold nmB; rw [(dgA_i.mp hd).2]; rfl)
    · rw [if_neg hd, hp1, q268 X1 (by omega), rb_r, ifB]
      by_cases hpt : ptA T p = true
      · rw [if_pos hpt]
        exact num (by unfold nmB; rw [(ptA_i.mp hpt).2]; rfl)
      · have hn : nmB (chT T p) = false := by
          cases e : nmB (chT T p) with
          | false => rfl
          | true =>
            unfold nmB at e
            rw [Bool.or_eq_true, decide_eq_true_iff] at e
            rcases e with e | e
            · exact absurd (dgA_i.mpr ⟨hlt, e⟩) hd
            · exact absurd (ptA_i.mpr ⟨hlt, e⟩) hpt
        have nnv : ∀ v, nmv T p = some v → False := fun v hv => by unfold nmv at hv; rw [hn, if_neg (fun z => by cases z.1)] at hv; cases hv
        rw [if_neg hpt, hp1, rdI (n := 20) (by decide) (by omega) (by omega), Option.bind_some, X1.2.2.2 p hlt]
        have oth : cpB (chT T p) = false → ∃ S', r266_92 (rs_setI S 24 (S.1 23)) = some ((), S') ∧ Rl S S' ∧ LXT T Lr Lc p S' := by
          intro hc
          unfold r266_92 rb_S
          dsimp only
          rw [hp1, rdI (n := 20) (by decide) (by omega) (by omega), Option.bind_some, X1.2.2.2 p hlt]
          refine ⟨_, rfl, Rl_tr l1 (Rl_tr (Rl_I (by omega) (by omega)) (Rl_I (by omega) (by omega))), h24, ?_, ?_, fun v hv => (nnv v hv).elim, ?_⟩
          · rw [te_1 hlt hn hc]
            show S.1 23 + (1 : Int32) = _
            rw [hp]
            exact i32_add p 1
          · unfold cdT
            rw [if_neg (by omega), hn, if_neg Bool.false_ne_true, hc, if_neg Bool.false_ne_true]
            rfl
          · intro y z hv
            unfold rfv at hv
            rw [hc, if_neg (fun z => by cases z.1)] at hv
            cases hv
        by_cases h65 : chT T p < 65
        · rw [if_pos (show Int32.ofNat (chT T p) < (65 : Int32) from (i32_ltn (b := 65) (by omega) (by omega)).mpr h65)]
          exact oth (by unfold cpB; rw [decide_eq_false (by omega)])
        · rw [if_neg (show ¬ Int32.ofNat (chT T p) < (65 : Int32) from fun z => h65 ((i32_ltn (b := 65) (by omega) (by omega)).mp z)), Option.bind_some]
          by_cases h90 : 90 < chT T p
          · rw [if_pos (show (90 : Int32) < Int32.ofNat (chT T p) from (i32_ltn (a := 90) (by omega) (by omega)).mpr h90)]
            exact oth (by unfold cpB; rw [decide_eq_false (by omega)])
          · have hc : cpB (chT T p) = true := by unfold cpB; rw [decide_eq_true (by omega)]
            rw [if_neg (show ¬ (90 : Int32) < Int32.ofNat (chT T p) from fun z => h90 ((i32_ltn (a := 90) (by omega) (by omega)).mp z))]
            obtain ⟨S', g1, g2, g3, g4, g5, g6, g7⟩ := q270 X1 H1 hc hp1
            rw [g1, rb_r]
            refine ⟨S', rfl, Rl_tr l1 g2, g5.trans h24, g3, ?_, fun v hv => (nnv v hv).elim, g7⟩
            unfold cdT
            rw [if_neg (by omega), hn, if_neg Bool.false_ne_true, if_pos hc]
            exact g4
end RRF
