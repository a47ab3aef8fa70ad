/-! THE FIRST CALL: what changes a new object, by running it -/
def fx_H9 : pm_H := (pt_K9h ++ pt_fF, 11705)
def fx_cmp (void : Bool) (b : tm_O) (h : pm_H) : Bool := match b with
  | .inl (some (.inl v)) => !void && decide (h.1[177]? = some (.inr (1, [.long v.toInt64])))
  | .inl none => void
  | _ => false
def fx_ck (void : Bool) (e1 : pm_H → tm_L) (e2 : pm_H → tm_L) : Bool := match e1 fx_H9 with
  | some (.inl (some (.inl k)), h1) => decide (k = 0) && (decide (lc_of h1 (some 145) = some 10) && (match e2 h1 with
    | some (b, h2) => decide (lc_of h2 (some 145) = some 10) && (decide (lf_I h2 (some 145) [10, 0] = some 0) && (fx_cmp void b h2 && (decide (h2.1.length ≤ 600083) && decide (h2.2 ≤ 7302232))))
    | none => false))
  | _ => false
theorem lc_sb {c : Nat × List Value} {g : pm_H} : lc_of (pm_sb c g) (some 145) = lc_of g (some 145) := by
  unfold lc_of
  simp only [pm_sb_ne (c := c) (h := g) (show (145 : Nat) ≠ 0 by decide)]
theorem fx_use {w : Option Nat} {y1 y2 : Nat} {as1 as2 : List tm_V} {e1 e2 : pm_H → tm_L} {xs : List Int32} {void : Bool} {cmp : Int32 → Option tm_V → pm_H → Prop} (hv : cmp = if void = true then pt_cV else pt_cI) (hck : fx_ck void e1 e2 = true) (l1 : ∀ {h r}, e1 h = some r → tx_R w y1 as1 h r) (l2 : ∀ {h r}, e2 h = some r → tx_R w y2 as2 h r) : ∃ h3, pt_O w cmp y1 as1 y2 as2 (pt_h0 xs) h3 ∧ fx_good xs h3 := by
  unfold fx_ck at hck
  split at hck
  · next k h1 q1 =>
    simp only [Bool.and_eq_true, decide_eq_true_eq] at hck
    obtain ⟨rfl, c1, hck⟩ := hck
    split at hck
    · next b h2 q2 =>
      simp only [Bool.and_eq_true, decide_eq_true_eq] at hck
      obtain ⟨c2, c3, c4, c5, c6⟩ := hck
      have k1 := tx_sb (0, xs.map Value.int) (show pm_hd fx_H9 from rfl) (l1 q1)
      have k2 := tx_sb (0, xs.map Value.int) k1.2 (l2 q2)
      have q3 : ll_235 (some 145) h2 = some (.inl (some (.inl 0)), h2) := by
        unfold ll_235
        rw [c3]
        rfl
      have k3 := tx_sb (0, xs.map Value.int) k2.2 (tx_l (w := w) (D := 0) (by decide) (lq_235 q3))
      have g0 : (pm_sb (0, xs.map Value.int) h2).1[0]? = some (.inr (0, xs.map Value.int)) := pm_sb_0 k2.2
      have good : fx_good xs (pm_sb (0, xs.map Value.int) h2) := ⟨g0, by rw [pm_sb_len]; exact c5, c6⟩
      cases b with
      | inr a => cases c4
      | inl b =>
        refine ⟨pm_sb (0, xs.map Value.int) h2, ⟨0, pm_sb (0, xs.map Value.int) h1, b, pm_sb (0, xs.map Value.int) h2, k1.1, ?_, lc_sb.trans c1, k2.1, lc_sb.trans c2, k3.1, ?_⟩, good⟩
        · exact (pm_sb_0 k1.2)
        · unfold fx_cmp at c4
          split at c4
          · next v hb =>
            cases hb
            simp only [Bool.and_eq_true, decide_eq_true_eq, Bool.not_eq_true'] at c4
            rw [hv, c4.1]
            refine ⟨v, rfl, fun _ => ?_⟩
            have h177 : (pm_sb (0, xs.map Value.int) h2).1[177]? = some (.inr (1, [.long v.toInt64])) := by
              rw [pm_sb_ne (by decide)]
              exact c4.2
            unfold la_J la_V la_arr
            simp only [h177]
            rfl
          · next hb =>
            cases hb
            rw [hv, c4]
            rfl
          · cases c4
    · cases hck
  · cases hck
set_option maxRecDepth 1000000 in
theorem fx_kT : (List.range 95).all (fun i => fx_ck false (ll_15 none (some 81) (Int32.ofNat (32 + i)) (some 177)) (ll_262 (some 145) (Int32.ofNat (32 + i))) && fx_ck false (ll_15 (some 80) (some 81) (Int32.ofNat (32 + i)) (some 177)) (ll_262 (some 145) (Int32.ofNat (32 + i)))) = true := by decide +kernel
set_option maxRecDepth 1000000 in
theorem fx_kC : (fx_ck true (ll_42 none (some 81) 0) (ll_263 (some 145) 0) && fx_ck true (ll_42 (some 80) (some 81) 0) (ll_263 (some 145) 0)) = true := by decide +kernel
set_option maxRecDepth 1000000 in
theorem fx_kW : (fx_ck false (ll_176 (some 81) 0 (some 177)) (ll_259 (some 145) 0) && (fx_ck false (ll_176 (some 81) 1 (some 177)) (ll_259 (some 145) 1) && fx_ck false (ll_176 (some 81) 2 (some 177)) (ll_259 (some 145) 2))) = true := by decide +kernel
set_option maxRecDepth 1000000 in
theorem fx_kP0 (w : Option Nat) (hw : w = none ∨ w = some 80) : fx_ck false (ll_79 w (some 81) 0 0 (-1) (some 177)) (ll_236 (some 145) 0 0 (-1)) = true := by
  rcases hw with rfl | rfl <;> decide +kernel
set_option maxRecDepth 1000000 in
theorem fx_kP1 (w : Option Nat) (hw : w = none ∨ w = some 80) : fx_ck false (ll_79 w (some 81) 0 1 (-1) (some 177)) (ll_236 (some 145) 0 1 (-1)) = true := by
  rcases hw with rfl | rfl <;> decide +kernel
set_option maxRecDepth 1000000 in
theorem fx_kP2 (w : Option Nat) (hw : w = none ∨ w = some 80) : fx_ck false (ll_79 w (some 81) 1 0 (-1) (some 177)) (ll_236 (some 145) 1 0 (-1)) = true := by
  rcases hw with rfl | rfl <;> decide +kernel
set_option maxRecDepth 1000000 in
theorem fx_kP3 (w : Option Nat) (hw : w = none ∨ w = some 80) : fx_ck false (ll_79 w (some 81) 1 1 (-1) (some 177)) (ll_236 (some 145) 1 1 (-1)) = true := by
  rcases hw with rfl | rfl <;> decide +kernel
set_option maxRecDepth 1000000 in
theorem fx_kP4 (w : Option Nat) (hw : w = none ∨ w = some 80) : fx_ck false (ll_79 w (some 81) 2 0 (-1) (some 177)) (ll_236 (some 145) 2 0 (-1)) = true := by
  rcases hw with rfl | rfl <;> decide +kernel
set_option maxRecDepth 1000000 in
theorem fx_kP5 (w : Option Nat) (hw : w = none ∨ w = some 80) : fx_ck false (ll_79 w (some 81) 2 1 (-1) (some 177)) (ll_236 (some 145) 2 1 (-1)) = true := by
  rcases hw with rfl | rfl <;> decide +kernel
