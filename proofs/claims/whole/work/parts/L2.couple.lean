/-! BOTH read together: blocks; what comes of reading -/
section BLK
variable {S S0 S' S2 : rs_S} {T Lr Lc : List Nat} {k t p j n m x b d q N e o id B B' c s kt u : Nat} {Q pd : List Nat} {ts : List (Nat × Int32)} {v arg : Int32}
theorem q274 (H : HB T k o id S0 Lr Lc) (ht : t < k) (L : LXT T Lr Lc (po T t) S) (P : PB id S0 (po T t) Q ts S) (hc : c = 115 ∨ c = 110 ∨ c = 109) (hch : chT T (po T t) = c) : (blF T Lr Lc t = 6 → t + 6 ≤ k → ∀ y z y2 z2, rfv T Lr Lc (po T (t + 2)) = some (y, z) → rfv T Lr Lc (po T (t + 4)) = some (y2, z2) → ∃ S', rf_274 (Int32.ofNat o) (Int32.ofNat id) S = some (1, S') ∧ LXT T Lr Lc (po T (t + 6)) S' ∧ PB id S0 (po T (t + 6)) Q (ts ++ [(c, Int32.ofNat (y + 128 * z + 16384 * (y2 + 128 * z2)))]) S') ∧ (blF T Lr Lc t < 6 → ∃ S', rf_274 (Int32.ofNat o) (Int32.ofNat id) S = some (0, S') ∧ S'.1 24 = Int32.ofNat (po T (t + blF T Lr Lc t)) ∧ Rk id S0 S') := by
  have hb := HB_b H
  have hcd : S.1 25 = Int32.ofNat c := by
    rw [L.2.2.1]
    refine (cd_ch H.1 (by omega) (by omega) ?_ ?_ rfl).mpr hch
    · rcases hc with z | z | z <;> subst z <;> rfl
    · rcases hc with z | z | z <;> subst z <;> rfl
  obtain ⟨S1, a1, a2, a3⟩ := q266p H L P.1
  have P1 := PB_l a3 P
  obtain ⟨S2, b1, b2, b3⟩ := q266p H a2 P1.1
  have P2 := PB_l b3 P1
  obtain ⟨S3, c1, c2, c3⟩ := q266p H b2 P2.1
  have P3 := PB_l c3 P2
  obtain ⟨S4, d1, d2, d3⟩ := q266p H c2 P3.1
  have P4 := PB_l d3 P3
  obtain ⟨S5, e1, e2, e3⟩ := q266p H d2 P4.1
  have P5 := PB_l e3 P4
  have k1 : S1.1 25 = (40 : Int32) ↔ chT T (po T (t + 1)) = 40 := by rw [a2.2.2.1]; exact cd_ch (x := 40) H.1 (by omega) (by omega) rfl rfl rfl
  have k2 : S2.1 25 = (-3 : Int32) ↔ (rfv T Lr Lc (po T (t + 2))).isSome = true := by rw [b2.2.2.1]; exact cd_m3 H.1
  have k3 : S3.1 25 = (58 : Int32) ↔ chT T (po T (t + 3)) = 58 := by rw [c2.2.2.1]; exact cd_ch (x := 58) H.1 (by omega) (by omega) rfl rfl rfl
  have k4 : S4.1 25 = (-3 : Int32) ↔ (rfv T Lr Lc (po T (t + 4))).isSome = true := by rw [d2.2.2.1]; exact cd_m3 H.1
  have k5 : S5.1 25 = (41 : Int32) ↔ chT T (po T (t + 5)) = 41 := by rw [e2.2.2.1]; exact cd_ch (x := 41) H.1 (by omega) (by omega) rfl rfl rfl
  have ns : ∀ p, (rfv T Lr Lc p).isSome = true ↔ ¬ rfv T Lr Lc p = none := by
    intro p
    cases rfv T Lr Lc p <;> simp
  constructor
  · intro h6 hk y z y2 z2 r1 r2
    have i1 : po T t + 1 ≤ po T (t + 1) := po_1 H ht
    have i2 : po T (t + 1) + 1 ≤ po T (t + 2) := po_1 H (show t + 1 < k by omega)
    have i3 : po T (t + 2) + 1 ≤ po T (t + 3) := po_1 H (show t + 2 < k by omega)
    have i4 : po T (t + 3) + 1 ≤ po T (t + 4) := po_1 H (show t + 3 < k by omega)
    have i5 : po T (t + 4) + 1 ≤ po T (t + 5) := po_1 H (show t + 4 < k by omega)
    have i6 : po T (t + 5) + 1 ≤ po T (t + 6) := po_1 H (show t + 5 < k by omega)
    have f1 : chT T (po T (t + 1)) = 40 := by
      by_cases w : chT T (po T (t + 1)) = 40
      · exact w
      · unfold blF at h6; rw [if_pos w] at h6; omega
    have f3 : chT T (po T (t + 3)) = 58 := by
      by_cases w : chT T (po T (t + 3)) = 58
      · exact w
      · unfold blF at h6; rw [if_neg (fun w => w f1), if_neg (by rw [r1]; intro q; cases q), if_pos w] at h6; omega
    have f5 : chT T (po T (t + 5)) = 41 := by
      by_cases w : chT T (po T (t + 5)) = 41
      · exact w
      · unfold blF at h6; rw [if_neg (fun w => w f1), if_neg (by rw [r1]; intro q; cases q), if_neg (fun w => w f3), if_neg (by rw [r2]; intro q; cases q), if_pos w] at h6; omega
    have arg : S2.1 27 + (16384 : Int32) * S4.1 27 = Int32.ofNat (y + 128 * z + 16384 * (y2 + 128 * z2)) := by
      rw [b2.2.2.2.2 y z r1, d2.2.2.2.2 y2 z2 r2, show (16384 : Int32) = Int32.ofNat 16384 from rfl, i32_mul, i32_add]
    have tw : twt (c, Int32.ofNat (y + 128 * z + 16384 * (y2 + 128 * z2))) = 12 := by rcases hc with z | z | z <;> subst z <;> rfl
    have p5 := P.2.2.2.2.1
    obtain ⟨S6, g1, g2, g3⟩ := q275 (B' := po T (t + 6)) (c := c) (arg := Int32.ofNat (y + 128 * z + 16384 * (y2 + 128 * z2))) P5 (by omega) rfl (by omega) (by omega) (hb _)
    have L6 := LXT_1 (fun a _ => by rw [g3]) e2
    obtain ⟨S7, h1, h2, h3⟩ := q266p H L6 g2.1
    refine ⟨S7, ?_, h2, PB_l h3 g2⟩
    unfold rf_274
    rw [a1, rb_r, if_pos (k1.mpr f1), b1, rb_r, if_pos (k2.mpr ((ns _).mpr (by rw [r1]; intro q; cases q))), c1, rb_r, if_pos (k3.mpr f3), d1, rb_r, if_pos (k4.mpr ((ns _).mpr (by rw [r2]; intro q; cases q))), e1, rb_r, if_pos (k5.mpr f5), hcd, arg, g1, rb_r, h1, rb_r]
  · intro h6
    unfold rf_274
    rw [a1, rb_r]
    by_cases f1 : chT T (po T (t + 1)) = 40
    · rw [if_pos (k1.mpr f1), b1, rb_r]
      by_cases f2 : rfv T Lr Lc (po T (t + 2)) = none
      · have hB : blF T Lr Lc t = 2 := by unfold blF; rw [if_neg (fun w => w f1), if_pos f2]
        rw [if_neg (fun w => (ns _).mp (k2.mp w) f2), hB]
        exact ⟨S2, rfl, b2.1, P2.1⟩
      · rw [if_pos (k2.mpr ((ns _).mpr f2)), c1, rb_r]
        by_cases f3 : chT T (po T (t + 3)) = 58
        · rw [if_pos (k3.mpr f3), d1, rb_r]
          by_cases f4 : rfv T Lr Lc (po T (t + 4)) = none
          · have hB : blF T Lr Lc t = 4 := by unfold blF; rw [if_neg (fun w => w f1), if_neg f2, if_neg (fun w => w f3), if_pos f4]
            rw [if_neg (fun w => (ns _).mp (k4.mp w) f4), hB]
            exact ⟨S4, rfl, d2.1, P4.1⟩
          · rw [if_pos (k4.mpr ((ns _).mpr f4)), e1, rb_r]
            by_cases f5 : chT T (po T (t + 5)) = 41
            · have hB : blF T Lr Lc t = 6 := by unfold blF; rw [if_neg (fun w => w f1), if_neg f2, if_neg (fun w => w f3), if_neg f4, if_neg (fun w => w f5)]
              omega
            · have hB : blF T Lr Lc t = 5 := by unfold blF; rw [if_neg (fun w => w f1), if_neg f2, if_neg (fun w => w f3), if_neg f4, if_pos f5]
              rw [if_neg (fun w => f5 (k5.mp w)), hB]
              exact ⟨S5, rfl, e2.1, P5.1⟩
        · have hB : blF T Lr Lc t = 3 := by unfold blF; rw [if_neg (fun w => w f1), if_neg f2, if_pos f3]
          rw [if_neg (fun w => f3 (k3.mp w)), hB]
          exact ⟨S3, rfl, c2.1, P3.1⟩
    · have hB : blF T Lr Lc t = 1 := by unfold blF; rw [if_pos f1]
      rw [if_neg (fun w => f1 (k1.mp w)), hB]
      exact ⟨S1, rfl, a2.1, P1.1⟩
end BLK
/-! trees -/
section TRE
variable {A A' A2 : ah} {h : pm_H} {M : aM} {D : aD} {n n' p a c j : Nat} {ts : List (Nat × Int32)} {y : ac} {u1 u2 u3 u4 u5 u6 u7 : Value}
theorem prt_mono : ∀ n n' p ts, n ≤ n' → prt M A D n p ts → prt M A D n' p ts := by
  intro n
  induction n with
  | zero => intro n' p ts _ h; exact h.elim
  | succ n ih =>
    intro n' p ts hn h
    cases n' with
    | zero => omega
    | succ n' =>
      obtain ⟨h1, h2⟩ := h
      refine ⟨h1, ?_⟩
      rcases h2 with e | e | e | ⟨q, t, e1, e2, e3⟩ | ⟨kc, cd, q1, q2, t1, t2, e1, e2, e3, e4, e5⟩
      · exact Or.inl e
      · exact Or.inr (Or.inl e)
      · exact Or.inr (Or.inr (Or.inl e))
      · exact Or.inr (Or.inr (Or.inr (Or.inl ⟨q, t, e1, ih n' q t (by omega) e2, e3⟩)))
      · exact Or.inr (Or.inr (Or.inr (Or.inr ⟨kc, cd, q1, q2, t1, t2, e1, e2, ih n' q1 t1 (by omega) e3, ih n' q2 t2 (by omega) e4, e5⟩)))
theorem prt_set (ha : A.1 a = ac_c (.inl (9, [.null, u1, u2, u3, u4, u5, u6, u7]))) : ∀ n p ts, prt M A D n p ts → prt M (ah_set A a y) D n p ts := by
  have ne : ∀ {p : Nat} {z : Value} {fs : List Value}, A.1 p = ac_c (.inl (9, z :: fs)) → z ≠ .null → (ah_set A a y).1 p = A.1 p := by
    intro p z fs e hz
    refine ah_set_n (fun w => hz ?_)
    subst w
    rw [ha] at e
    injection e with e
    injection e with e
    injection e with e1 e2
    injection e2 with e3 e4
    exact e3.symm
  intro n
  induction n with
  | zero => intro p ts h; exact h
  | succ n ih =>
    intro p ts h
    obtain ⟨h1, h2⟩ := h
    refine ⟨h1, ?_⟩
    rcases h2 with ⟨v, e, t⟩ | ⟨y0, z, g1, g2, g3, g4, e, t⟩ | ⟨kc, cd, y0, z, y2, z2, hm, g1, g2, g3, g4, g5, g6, g7, g8, e, t⟩ | ⟨q, t', e, g1, t⟩ | ⟨kc, cd, q1, q2, t1, t2, hm, e, g1, g2, t⟩
    · exact Or.inl ⟨v, (ne e (by intro w; cases w)).trans e, t⟩
    · exact Or.inr (Or.inl ⟨y0, z, g1, g2, g3, g4, (ne e (by intro w; cases w)).trans e, t⟩)
    · exact Or.inr (Or.inr (Or.inl ⟨kc, cd, y0, z, y2, z2, hm, g1, g2, g3, g4, g5, g6, g7, g8, (ne e (by intro w; cases w)).trans e, t⟩))
    · exact Or.inr (Or.inr (Or.inr (Or.inl ⟨q, t', (ne e (by intro w; cases w)).trans e, ih q t' g1, t⟩)))
    · exact Or.inr (Or.inr (Or.inr (Or.inr ⟨kc, cd, q1, q2, t1, t2, hm, (ne e (by intro w; cases w)).trans e, ih q1 t1 g1, ih q2 t2 g2, t⟩)))
theorem RU_set {x z : pm_C} (s : RU A A' c) (ha : A.2.1 ≤ a) (e : A'.1 a = ac_c x) : RU A (ah_set A' a (ac_c z)) c := by
  obtain ⟨s1, s2, s3, s4⟩ := s
  obtain ⟨r1, r2⟩ := ro_c (y := z) e
  refine ⟨s1, fun b hb hY => ?_, ?_, ?_⟩
  · rw [ah_set_n (by omega)]
    exact s2 b hb hY
  · rw [r1]; exact s3
  · rw [r2]; exact s4
theorem prt_u (R : ar A h) (s : RU A A' c) (hp : prt M A D n p ts) : prt M A' D n p ts := prt_s R s (fun x hx => by simp at hx; omega) n p ts hp
end TRE
