/-! THE CLASS writes trees -/
section WR3
variable {A A' A0 A2 : ah} {h h0 : pm_H} {M : aM} {D : aD} {F : fo} {o i j k n m p q x y z y2 z2 a kc0 cd d : Nat} {T X Lr Lc Y : List Nat} {w : Option Nat} {ts t : List (Nat × Int32)} {v : Int32}
def WrQ (M : aM) (D : aD) (o : Nat) (F : fo) (f : pm_H → tm_L) (X : List Nat) (A0 : ah) : Prop := ∀ T A h, ar A h → CX M A D o F → WU A0 A → WRt A o T → T.length + X.length ≤ 150 → ∃ A' h', f h = rtV h' ∧ ar A' h' ∧ WU A A' ∧ WRt A' o (T ++ X)
theorem c226 (h1 : 7 ≤ k) (h2 : k ≤ 17) : ll_226 (some k) h = rtI (if k = 13 ∨ k = 14 then 1 else 0) h := by
  unfold ll_226
  rw [acmA (idn_k (by omega) (by omega)) (idn_k (by omega) (by omega)), acmA (idn_k (by omega) (by omega)) (idn_k (by omega) (by omega))]
  by_cases q : k = 13
  · rw [if_pos (by rw [q]), if_pos (Or.inl q)]
  · rw [if_neg (fun z => q (Option.some.inj z))]
    by_cases q2 : k = 14
    · rw [if_pos (by rw [q2]), if_pos (Or.inr q2)]
    · rw [if_neg (fun z => q2 (Option.some.inj z)), if_neg (by omega)]
theorem c228 (h1 : 7 ≤ k) (h2 : k ≤ 17) : ll_228 (some k) h = rtI (if k = 11 ∨ k = 12 then 1 else 0) h := by
  unfold ll_228
  rw [acmA (idn_k (by omega) (by omega)) (idn_k (by omega) (by omega)), acmA (idn_k (by omega) (by omega)) (idn_k (by omega) (by omega))]
  by_cases q : k = 11
  · rw [if_pos (by rw [q]), if_pos (Or.inl q)]
  · rw [if_neg (fun z => q (Option.some.inj z))]
    by_cases q2 : k = 12
    · rw [if_pos (by rw [q2]), if_pos (Or.inr q2)]
    · rw [if_neg (fun z => q2 (Option.some.inj z)), if_neg (by omega)]
/-- the kind of a part, and its strength -/
theorem prX_k : ∀ n, prX M A D Lr Lc n q t X → ∃ (kc : Nat) (fs : List Value), A.1 q = ac_c (.inl (9, .ref kc :: fs)) ∧ 178 ≤ q ∧ 8 ≤ kc ∧ kc ≤ 17 ∧ (stg t = 1 ↔ kc = 11 ∨ kc = 12) ∧ (stg t = 2 ↔ kc = 13 ∨ kc = 14)
  | 0, h => by cases h
  | n + 1, ⟨hp, hh⟩ => by
    rcases hh with ⟨v, e, t, tX⟩ | ⟨y, z, h1, h2, e, t, tX⟩ | ⟨kc, cd, y, z, y2, z2, hm, h1, h2, h3, h4, e, t, tX⟩ | ⟨q', t', X', e, h1, t, tX⟩ | ⟨kc, cd, q1, q2, t1, t2, X1, X2, hm, e, h1, h2, t, tX⟩
    · obtain ⟨t1, -⟩ := t
      subst t1
      exact ⟨8, _, e, hp, by omega, by omega, by rw [show stg [((97 : Nat), v)] = 0 from rfl]; omega, by rw [show stg [((97 : Nat), v)] = 0 from rfl]; omega⟩
    · subst t
      exact ⟨9, _, e, hp, by omega, by omega, by rw [show stg [((114 : Nat), Int32.ofNat (y + 128 * z))] = 0 from rfl]; omega, by rw [show stg [((114 : Nat), Int32.ofNat (y + 128 * z))] = 0 from rfl]; omega⟩
    · subst t
      have hk' : (kc = 15 ∧ cd = 115) ∨ (kc = 16 ∧ cd = 110) ∨ (kc = 17 ∧ cd = 109) := by
        unfold kcB at hm
        simp at hm
        omega
      have h0 : stg [(cd, Int32.ofNat (y + 128 * z + 16384 * (y2 + 128 * z2)))] = 0 := by rcases hk' with ⟨-, g⟩ | ⟨-, g⟩ | ⟨-, g⟩ <;> subst g <;> rfl
      exact ⟨kc, _, e, hp, by omega, by omega, by rw [h0]; omega, by rw [h0]; omega⟩
    · subst t
      exact ⟨10, _, e, hp, by omega, by omega, by rw [stg_l, show stg1 ((126 : Nat), (0 : Int32)).1 = 3 from rfl]; omega, by rw [stg_l, show stg1 ((126 : Nat), (0 : Int32)).1 = 3 from rfl]; omega⟩
    · subst t
      have hk' : (kc = 11 ∧ cd = 43) ∨ (kc = 12 ∧ cd = 45) ∨ (kc = 13 ∧ cd = 42) ∨ (kc = 14 ∧ cd = 47) := by
        unfold kcT at hm
        simp at hm
        omega
      have h0 : stg1 ((cd, (0 : Int32)) : Nat × Int32).1 = if cd = 43 ∨ cd = 45 then 1 else 2 := by rcases hk' with ⟨-, g⟩ | ⟨-, g⟩ | ⟨-, g⟩ | ⟨-, g⟩ <;> subst g <;> rfl
      refine ⟨kc, _, e, hp, by omega, by omega, ?_, ?_⟩
      · rw [stg_l, h0]
        split <;> omega
      · rw [stg_l, h0]
        split <;> omega
theorem c227 (R : ar A h) (Q : CX M A D o F) {fs1 : List Value} (e : A.1 q = ac_c (.inl (9, .ref k :: fs1))) (h1 : 8 ≤ k) (h2 : k ≤ 17) : ll_227 (some q) h = rtI (if k = 11 ∨ k = 12 then 1 else 0) h ∧ ll_231 (some q) h = rtI (if k = 13 ∨ k = 14 then 1 else 0) h := by
  obtain ⟨g1, -, -⟩ := kdw R Q.2.2 (k := k) (by omega) (by omega)
  constructor
  · unfold ll_227
    dsimp only
    rw [hc_R (o := some k) (ar_c R e) rfl, Option.bind_some, if_pos g1, c228 (by omega) h2, rt_I]
    by_cases z : k = 11 ∨ k = 12
    · rw [if_pos z, if_neg (by decide)]
    · rw [if_neg z, if_pos rfl]
  · unfold ll_231
    dsimp only
    rw [hc_R (o := some k) (ar_c R e) rfl, Option.bind_some, if_pos g1, c226 (by omega) h2, rt_I]
    by_cases z : k = 13 ∨ k = 14
    · rw [if_pos z, if_neg (by decide)]
    · rw [if_neg z, if_pos rfl]
theorem c229 {X0 : Option Nat → Option Nat → Int32 → pm_H → tm_L} {ch : Option Nat} {dd : Int32} {b : Bool} (hX : WrQ M D o F (fun h => X0 (some 91) ch dd h) X A0) : WrQ M D o F (fun h => ll_229 w X0 (some 91) ch (if b = true then 1 else 0) dd h) (brk b X) A0 := by
  intro T A h R Q s H hl
  obtain ⟨g1, g2, g3, -⟩ := w_rd R H
  unfold brk at hl ⊢
  cases b with
  | false =>
    rw [if_neg (show ¬ (false : Bool) = true by decide)] at hl ⊢
    obtain ⟨A1, k1, p1, R1, s1, H1⟩ := hX T A h R Q s H hl
    refine ⟨A1, k1, ?_, R1, s1, H1⟩
    show ll_229 w X0 (some 91) ch 0 dd h = _
    unfold ll_229 l229_14
    rw [if_pos rfl, if_pos g3, show X0 (some 91) ch dd h = rtV k1 from p1, rt_V, if_pos rfl]
  | true =>
    rw [if_pos rfl] at hl ⊢
    rw [List.length_cons, List.length_append, List.length_singleton] at hl
    obtain ⟨A1, k1, p1, R1, s1, H1⟩ := a19 (w := w) (cd := 40) R H (by omega) (by omega)
    obtain ⟨f1, f2, f3, -⟩ := w_rd R1 H1
    obtain ⟨A2, k2, p2, R2, s2, H2⟩ := hX _ A1 k1 R1 (CX_w R Q s1) (WU_tr s s1) H1 (by rw [List.length_append, List.length_singleton]; omega)
    obtain ⟨t1, t2, t3, -⟩ := w_rd R2 H2
    obtain ⟨A3, k3, p3, R3, s3, H3⟩ := a19 (w := w) (cd := 41) R2 H2 (by omega) (by rw [List.length_append, List.length_append, List.length_singleton]; omega)
    refine ⟨A3, k3, ?_, R3, WU_tr (WU_tr s1 s2) s3, by rw [List.append_assoc, List.append_assoc] at H3; exact H3⟩
    show ll_229 w X0 (some 91) ch 1 dd h = _
    unfold ll_229 l229_14
    rw [if_neg (by decide), g1, Option.bind_some, if_pos g2, show (40 : Int32) = Int32.ofNat 40 from rfl, p1, rt_R, if_pos f3, show X0 (some 91) ch dd k1 = rtV k2 from p2, rt_V, if_neg (by decide), t1, Option.bind_some, if_pos t2, show (41 : Int32) = Int32.ofNat 41 from rfl, p3, rt_R]
/-- the left side -/
theorem c225 {X0 : Option Nat → Option Nat → Int32 → pm_H → tm_L} {fs1 : List Value} {dd : Int32} {l0 : Option Nat} {b : Bool} (R0 : ar A0 h0) (hp : 178 ≤ p) (ep : A0.1 p = ac_c (.inl (9, .ref k :: tm_r l0 :: fs1))) (h1 : 7 ≤ k) (h2 : k ≤ 17) (hb : (b = false ∧ ¬ (k = 13 ∨ k = 14)) ∨ ∃ (q1 k1 : Nat) (fs2 : List Value), l0 = some q1 ∧ 178 ≤ q1 ∧ A0.1 q1 = ac_c (.inl (9, .ref k1 :: fs2)) ∧ 8 ≤ k1 ∧ k1 ≤ 17 ∧ (b = true ↔ (k = 13 ∨ k = 14) ∧ (k1 = 11 ∨ k1 = 12))) (hX : WrQ M D o F (fun h => X0 (some 91) l0 (dd + 1) h) X A0) : WrQ M D o F (fun h => ll_225 w X0 (some 91) (some p) dd h) (brk b X) A0 := by
  intro T A h R Q s H hl
  have np : p ∉ [92] := by simp; omega
  have epA := st_c s R0 ep (by intro g; cases g) np
  obtain ⟨A1, k1', p1, R1, s1, H1⟩ := c229 (w := w) (b := b) hX T A h R Q s H hl
  obtain ⟨-, -, g3, -⟩ := w_rd R H
  obtain ⟨gk, -, -⟩ := kdw R Q.2.2 (k := k) h1 h2
  refine ⟨A1, k1', ?_, R1, s1, H1⟩
  show ll_225 w X0 (some 91) (some p) dd h = _
  have fin : l225_30 w X0 dd (if b = true then 1 else 0) l0 (some 91) h = rtV k1' := by
    unfold l225_30
    rw [if_pos g3, show ll_229 w X0 (some 91) l0 (if b = true then 1 else 0) (dd + 1) h = rtV k1' from p1, rt_V]
  unfold ll_225 l225_29
  rw [hc_R (o := l0) (ar_c R epA) rfl, Option.bind_some, hc_R (o := some k) (ar_c R epA) rfl, Option.bind_some, if_pos gk, c226 h1 h2, rt_I]
  rcases hb with ⟨b0, nk⟩ | ⟨q1, k1, fs2, e1, e2, e3, e4, e5, e6⟩
  · rw [if_neg nk, if_pos rfl]
    rw [b0] at fin
    exact fin
  · by_cases kp : k = 13 ∨ k = 14
    · have nq : q1 ∉ [92] := by simp; omega
      have eqA := st_c s R0 e3 (by intro g; cases g) nq
      rw [if_pos kp, if_neg (by decide), hc_R (o := l0) (ar_c R epA) rfl, Option.bind_some, e1, (c227 R Q eqA e4 e5).1, rt_I]
      rw [e1] at fin
      by_cases ks : k1 = 11 ∨ k1 = 12
      · rw [if_pos ks, if_neg (by decide)]
        rw [e6.mpr ⟨kp, ks⟩] at fin
        exact fin
      · have b0 : b = false := by
          cases b with
          | false => rfl
          | true => exact absurd (e6.mp rfl).2 ks
        rw [if_neg ks, if_pos rfl]
        rw [b0] at fin
        exact fin
    · have b0 : b = false := by
        cases b with
        | false => rfl
        | true => exact absurd (e6.mp rfl).1 kp
      rw [if_neg kp, if_pos rfl]
      rw [b0] at fin
      exact fin
/-- the right side -/
theorem c230 {X0 : Option Nat → Option Nat → Int32 → pm_H → tm_L} {fs1 fs2 : List Value} {dd : Int32} {l0 : Option Nat} {b : Bool} {k1 : Nat} (R0 : ar A0 h0) (hp : 178 ≤ p) (ep : A0.1 p = ac_c (.inl (9, .ref k :: tm_r l0 :: .ref q :: fs1))) (h1 : 7 ≤ k) (h2 : k ≤ 17) (hq : 178 ≤ q) (eq : A0.1 q = ac_c (.inl (9, .ref k1 :: fs2))) (h3 : 8 ≤ k1) (h4 : k1 ≤ 17) (hb : b = true ↔ ((k1 = 11 ∨ k1 = 12) ∧ k ≠ 7) ∨ ((k1 = 13 ∨ k1 = 14) ∧ (k = 13 ∨ k = 14 ∨ k = 10))) (hX : WrQ M D o F (fun h => X0 (some 91) (some q) (dd + 1) h) X A0) : WrQ M D o F (fun h => ll_230 w X0 (some 91) (some p) dd h) (brk b X) A0 := by
  intro T A h R Q s H hl
  have np : p ∉ [92] := by simp; omega
  have nq : q ∉ [92] := by simp; omega
  have epA := st_c s R0 ep (by intro g; cases g) np
  have eqA := st_c s R0 eq (by intro g; cases g) nq
  obtain ⟨A1, k1', p1, R1, s1, H1⟩ := c229 (w := w) (b := b) hX T A h R Q s H hl
  obtain ⟨-, -, g3, -⟩ := w_rd R H
  obtain ⟨gk, -, -⟩ := kdw R Q.2.2 (k := k) h1 h2
  obtain ⟨u1, u2⟩ := c227 R Q eqA h3 h4
  have r0 : lf_R h (some p) [9, 0] = some (some k) := hc_R (o := some k) (ar_c R epA) rfl
  have r2 : lf_R h (some p) [9, 2] = some (some q) := hc_R (o := some q) (ar_c R epA) rfl
  refine ⟨A1, k1', ?_, R1, s1, H1⟩
  show ll_230 w X0 (some 91) (some p) dd h = _
  have fin : l230_55 w X0 (some 91) (some p) dd (if b = true then 1 else 0) h = rtV k1' := by
    unfold l230_55
    rw [r2, Option.bind_some, if_pos g3, show ll_229 w X0 (some 91) (some q) (if b = true then 1 else 0) (dd + 1) h = rtV k1' from p1, rt_V]
  have yes : b = true → l230_55 w X0 (some 91) (some p) dd 1 h = rtV k1' := fun e => by rw [e] at fin; exact fin
  have no : b = false → l230_55 w X0 (some 91) (some p) dd 0 h = rtV k1' := fun e => by rw [e] at fin; exact fin
  have bf : ¬ (((k1 = 11 ∨ k1 = 12) ∧ k ≠ 7) ∨ ((k1 = 13 ∨ k1 = 14) ∧ (k = 13 ∨ k = 14 ∨ k = 10))) → b = false := fun g => by
    cases b with
    | false => rfl
    | true => exact absurd (hb.mp rfl) g
  have r20 : (¬ ((k1 = 11 ∨ k1 = 12) ∧ k ≠ 7)) → l230_20 w X0 (some 91) (some p) dd h = rtV k1' := by
    intro ns
    unfold l230_20 l230_54 l230_50
    rw [r2, Option.bind_some, u2, rt_I]
    by_cases kp : k1 = 13 ∨ k1 = 14
    · rw [if_pos kp, if_neg (by decide), r0, Option.bind_some, if_pos gk, c226 h1 h2, rt_I]
      by_cases kk : k = 13 ∨ k = 14
      · rw [if_pos kk, if_neg (by decide)]
        exact yes (hb.mpr (Or.inr ⟨kp, by omega⟩))
      · rw [if_neg kk, if_pos rfl, r0, Option.bind_some, acmA (idn_k (by omega) (by omega)) (idn_k (by omega) (by omega))]
        by_cases k10 : k = 10
        · rw [if_pos (by rw [k10])]
          exact yes (hb.mpr (Or.inr ⟨kp, by omega⟩))
        · rw [if_neg (fun z => k10 (Option.some.inj z))]
          exact no (bf (by omega))
    · rw [if_neg kp, if_pos rfl]
      exact no (bf (by omega))
  unfold ll_230
  rw [r2, Option.bind_some, u1, rt_I]
  by_cases ks : k1 = 11 ∨ k1 = 12
  · rw [if_pos ks, if_neg (by decide), r0, Option.bind_some, acmA (idn_k (by omega) (by omega)) (idn_k (by omega) (by omega))]
    by_cases k7 : k = 7
    · rw [if_pos (by rw [k7])]
      exact r20 (by omega)
    · rw [if_neg (fun z => k7 (Option.some.inj z))]
      unfold l230_50
      exact yes (hb.mpr (Or.inl ⟨ks, k7⟩))
  · rw [if_neg ks, if_pos rfl]
    exact r20 (by omega)
/-- left side, sign, right side -/
theorem c219d {X0 : Option Nat → Option Nat → Int32 → pm_H → tm_L} {dd : Int32} {X1 X2 : List Nat} {s c : Nat} {fs1 : List Value} (hp : 178 ≤ p) (R0 : ar A0 h0) (ep : A0.1 p = ac_c (.inl (9, .ref k :: fs1))) (hs : (k, s, c) ∈ kcS) (h1 : WrQ M D o F (fun h => ll_225 w X0 (some 91) (some p) dd h) X1 A0) (h2 : WrQ M D o F (fun h => ll_230 w X0 (some 91) (some p) dd h) X2 A0) (R : ar A h) (Q : CX M A D o F) (sA : WU A0 A) (H : WRt A o T) (hl : T.length + (X1 ++ c :: X2).length ≤ 150) : ∃ A' h', lb_V (ll_225 w X0 (some 91) (some p) dd h) (fun h26 => (lf_R h26 (some 91) [3, 0]).bind fun v28 => (lf_R h26 (some p) [9, 0]).bind fun v29 => (lf_R h26 v29 [19, 1]).bind fun v30 => if lc_of h26 v28 = some 11 then lb_R (ll_46 w v28 v30 h26) (fun v32 h33 => if lc_of h33 (some 91) = some 3 then lb_V (ll_230 w X0 (some 91) (some p) dd h33) (fun h37 => some (.inl none, h37)) else none) else none) = rtV h' ∧ ar A' h' ∧ WU A A' ∧ WRt A' o (T ++ (X1 ++ c :: X2)) := by
  have np : p ∉ [92] := by simp; omega
  rw [List.length_append, List.length_cons] at hl
  obtain ⟨A1, k1, p1, R1, s1, H1⟩ := h1 T A h R Q sA H (by omega)
  have Q1 := CX_w R Q s1
  have ep1 := st_c (WU_tr sA s1) R0 ep (by intro g; cases g) np
  obtain ⟨g1, g2, -⟩ := w_rd R1 H1
  obtain ⟨v1, A2, k2, p2, R2, s2, H2⟩ := a46 (w := w) R1 Q1.2.2 H1 hs (by rw [List.length_append]; omega)
  have Q2 := CX_w R1 Q1 s2
  obtain ⟨-, -, f3, -⟩ := w_rd R2 H2
  obtain ⟨A3, k3, p3, R3, s3, H3⟩ := h2 _ A2 k2 R2 Q2 (WU_tr (WU_tr sA s1) s2) H2 (by rw [List.length_append, List.length_append, List.length_singleton]; omega)
  refine ⟨A3, k3, ?_, R3, WU_tr (WU_tr s1 s2) s3, by rw [List.append_assoc, List.append_assoc] at H3; exact H3⟩
  rw [show ll_225 w X0 (some 91) (some p) dd h = rtV k1 from p1, rt_V, g1, Option.bind_some, hc_R (o := some k) (ar_c R1 ep1) rfl, Option.bind_some, v1, Option.bind_some, if_pos g2, p2, rt_R, if_pos f3, show ll_230 w X0 (some 91) (some p) dd k2 = rtV k3 from p3, rt_V]
theorem null_w {dd : Int32} (hm : 0 < m) : WrQ M D o F (fun h => ll_219 w m (some 91) none dd h) [] A0 := by
  intro T A h R Q s H hl
  cases m with
  | zero => omega
  | succ m =>
    refine ⟨A, h, ?_, R, WU_refl, by rw [List.append_nil]; exact H⟩
    show ll_219 w (m + 1) (some 91) none dd h = _
    rw [ll_219]
    rfl
theorem c219 (W : Wd D) (Wff : Wf D o F) (I : OI D F) (R0 : ar A0 h0) : ∀ n p ts X m d, prX M A0 D (xS (fX F 0)) (xS (fX F 1)) n p ts X → n < m → d + n ≤ 23 → WrQ M D o F (fun h => ll_219 w m (some 91) (some p) (Int32.ofNat d) h) X A0 := by
  intro n
  induction n with
  | zero => intro p ts X m d hp; cases hp
  | succ n ih =>
    intro p ts X m d ⟨hp, hh⟩ hm hd T A h R Q s H hl
    cases m with
    | zero => omega
    | succ m =>
      have B := Q.2.2
      have np : p ∉ [92] := by simp; omega
      have hdd : Int32.ofNat d ≤ (22 : Int32) := (i32_len (b := 22) (by omega) (by omega)).mpr (by omega)
      have nd : Int32.ofNat d + (1 : Int32) = Int32.ofNat (d + 1) := i32_add d 1
      obtain ⟨w1, w2, w3, -⟩ := w_rd R H
      show ∃ A' h', ll_219 w (m + 1) (some 91) (some p) (Int32.ofNat d) h = rtV h' ∧ _
      rw [ll_219]
      unfold lm_219
      dsimp only
      rw [if_pos hdd]
      rcases hh with ⟨v, ep, t, tX⟩ | ⟨y, z, h1, h2, ep, t, tX⟩ | ⟨kc, cd, y, z, y2, z2, hk, h1, h2, h3, h4, ep, t, tX⟩ | ⟨q, t', X', ep, h1, t, tX⟩ | ⟨kc, cd, q1, q2, t1, t2, X1, X2, hk, ep, h1, h2, t, tX⟩
      · obtain ⟨g1, g2, g3⟩ := kdw R B (k := 8) (by omega) (by omega)
        have epA := st_c s R0 ep (by intro g; cases g) np
        subst tX
        obtain ⟨A1, k1, p1, R1, s1, H1⟩ := c220 (w := w) R Q H t.2.1 t.2.2 (by omega)
        refine ⟨A1, k1, ?_, R1, s1, H1⟩
        rw [hc_R (o := some 8) (ar_c R epA) rfl, Option.bind_some, if_pos g1, g2, rt_I, g3 2 rfl, Option.bind_some, if_pos rfl, hc_J (ar_c R epA) rfl, Option.bind_some, if_pos w3, p1, rt_V]
      · obtain ⟨g1, g2, g3⟩ := kdw R B (k := 9) (by omega) (by omega)
        have epA := st_c s R0 ep (by intro g; cases g) np
        subst tX
        obtain ⟨A1, k1, p1, R1, s1, H1⟩ := c221 (w := w) R Q W Wff I H h1 h2 (by omega) epA rfl rfl
        refine ⟨A1, k1, ?_, R1, s1, H1⟩
        rw [hc_R (o := some 9) (ar_c R epA) rfl, Option.bind_some, if_pos g1, g2, rt_I, g3 3 rfl, Option.bind_some, if_neg (by decide), if_pos rfl, if_pos w3, p1, rt_V]
      · have hk' : (kc = 15 ∧ cd = 115) ∨ (kc = 16 ∧ cd = 110) ∨ (kc = 17 ∧ cd = 109) := by
          unfold kcB at hk
          simp at hk
          omega
        obtain ⟨g1, g2, g3⟩ := kdw R B (k := kc) (by omega) (by omega)
        have epA := st_c s R0 ep (by intro g; cases g) np
        subst tX
        obtain ⟨A1, k1, p1, R1, s1, H1⟩ := c224 (w := w) R Q W Wff I H hk h1 h2 h3 h4 (by omega) hp epA
        refine ⟨A1, k1, ?_, R1, s1, H1⟩
        rw [hc_R (o := some kc) (ar_c R epA) rfl, Option.bind_some, if_pos g1, g2, rt_I]
        rcases hk' with ⟨g4, g5⟩ | ⟨g4, g5⟩ | ⟨g4, g5⟩ <;> subst g4 <;> subst g5
        · rw [g3 5 rfl, Option.bind_some, if_neg (by decide), if_neg (by decide), if_neg (by decide), if_pos rfl, if_pos w3, p1, rt_V]
        · rw [g3 6 rfl, Option.bind_some, if_neg (by decide), if_neg (by decide), if_neg (by decide), if_neg (by decide), if_pos rfl, if_pos w3, p1, rt_V]
        · rw [g3 7 rfl, Option.bind_some, if_neg (by decide), if_neg (by decide), if_neg (by decide), if_neg (by decide), if_neg (by decide), if_pos rfl, if_pos w3, p1, rt_V]
      · obtain ⟨g1, g2, g3⟩ := kdw R B (k := 10) (by omega) (by omega)
        have epA := st_c s R0 ep (by intro g; cases g) np
        obtain ⟨k1, fs2, e1, e2, e3, e4, e5, e6⟩ := prX_k n h1
        subst tX
        have hL : WrQ M D o F (fun h => ll_225 w (ll_219 w m) (some 91) (some p) (Int32.ofNat d) h) (brk false []) A0 := c225 (l0 := none) R0 hp ep (by omega) (by omega) (Or.inl ⟨rfl, by omega⟩) (null_w (by omega))
        have hR : WrQ M D o F (fun h => ll_230 w (ll_219 w m) (some 91) (some p) (Int32.ofNat d) h) (brk (decide (stg t' = 1 ∨ stg t' = 2)) X') A0 := c230 (l0 := none) R0 hp ep (by omega) (by omega) e2 e1 e3 e4 (by rw [decide_eq_true_iff, e5, e6]; omega) (by rw [nd]; exact ih q t' X' m (d + 1) h1 (by omega) (by omega))
        obtain ⟨A1, k1', p1, R1, s1, H1⟩ := c219d (w := w) (s := 34) (c := 45) hp R0 ep (by decide) hL hR R Q s H hl
        refine ⟨A1, k1', ?_, R1, s1, H1⟩
        rw [hc_R (o := some 10) (ar_c R epA) rfl, Option.bind_some, if_pos g1, g2, rt_I, g3 4 rfl, Option.bind_some, if_neg (by decide), if_neg (by decide), if_pos rfl, if_pos w3]
        exact p1
      · have hk' : (kc = 11 ∧ cd = 43) ∨ (kc = 12 ∧ cd = 45) ∨ (kc = 13 ∧ cd = 42) ∨ (kc = 14 ∧ cd = 47) := by
          unfold kcT at hk
          simp at hk
          omega
        obtain ⟨g1, g2, g3⟩ := kdw R B (k := kc) (by omega) (by omega)
        have epA := st_c s R0 ep (by intro g; cases g) np
        obtain ⟨k1, fs2, e1, e2, e3, e4, e5, e6⟩ := prX_k n h1
        obtain ⟨k2, fs3, f1, f2, f3, f4, f5, f6⟩ := prX_k n h2
        subst tX
        have hc2 : stg1 cd = 2 ↔ kc = 13 ∨ kc = 14 := by rcases hk' with ⟨g4, g5⟩ | ⟨g4, g5⟩ | ⟨g4, g5⟩ | ⟨g4, g5⟩ <;> subst g4 <;> subst g5 <;> decide
        have hsg : ∃ s, (kc, s, cd) ∈ kcS := by
          rcases hk' with ⟨g4, g5⟩ | ⟨g4, g5⟩ | ⟨g4, g5⟩ | ⟨g4, g5⟩ <;> subst g4 <;> subst g5
          · exact ⟨35, by decide⟩
          · exact ⟨34, by decide⟩
          · exact ⟨36, by decide⟩
          · exact ⟨37, by decide⟩
        obtain ⟨sg, hsg⟩ := hsg
        have hL : WrQ M D o F (fun h => ll_225 w (ll_219 w m) (some 91) (some p) (Int32.ofNat d) h) (brk (decide (stg t1 = 1 ∧ stg1 cd = 2)) X1) A0 := c225 (l0 := some q1) R0 hp ep (by omega) (by omega) (Or.inr ⟨q1, k1, fs2, rfl, e2, e1, e3, e4, by rw [decide_eq_true_iff, e5, hc2]; omega⟩) (by rw [nd]; exact ih q1 t1 X1 m (d + 1) h1 (by omega) (by omega))
        have hR : WrQ M D o F (fun h => ll_230 w (ll_219 w m) (some 91) (some p) (Int32.ofNat d) h) (brk (decide (stg t2 = 1 ∨ (stg t2 = 2 ∧ stg1 cd = 2))) X2) A0 := c230 (l0 := some q1) R0 hp ep (by omega) (by omega) f2 f1 f3 f4 (by rw [decide_eq_true_iff, f5, f6, hc2]; omega) (by rw [nd]; exact ih q2 t2 X2 m (d + 1) h2 (by omega) (by omega))
        obtain ⟨A1, k1', p1, R1, s1, H1⟩ := c219d (w := w) hp R0 ep hsg hL hR R Q s H hl
        refine ⟨A1, k1', ?_, R1, s1, H1⟩
        have hv7 : ∃ v7 : Int32, v7 ≠ 2 ∧ v7 ≠ 3 ∧ v7 ≠ 4 ∧ v7 ≠ 5 ∧ v7 ≠ 6 ∧ v7 ≠ 7 ∧ swl[kc - 7]? = some (.int v7) := by
          rcases hk' with ⟨g4, g5⟩ | ⟨g4, g5⟩ | ⟨g4, g5⟩ | ⟨g4, g5⟩
          · exact ⟨8, by decide, by decide, by decide, by decide, by decide, by decide, by rw [g4]; rfl⟩
          · exact ⟨9, by decide, by decide, by decide, by decide, by decide, by decide, by rw [g4]; rfl⟩
          · exact ⟨10, by decide, by decide, by decide, by decide, by decide, by decide, by rw [g4]; rfl⟩
          · exact ⟨0, by decide, by decide, by decide, by decide, by decide, by decide, by rw [g4]; rfl⟩
        obtain ⟨v7, u2, u3, u4, u5, u6, u7, hv⟩ := hv7
        rw [hc_R (o := some kc) (ar_c R epA) rfl, Option.bind_some, if_pos g1, g2, rt_I, g3 v7 hv, Option.bind_some, if_neg u2, if_neg u3, if_neg u4, if_neg u5, if_neg u6, if_neg u7, if_pos w3]
        exact p1
end WR3
