/-! THE REFERENCE prints: widths, tasks -/
def SKt : List Int32 → rs_S → Prop
  | [], _ => True
  | v :: r, S => S.2.1 42 r.length = v ∧ SKt r S
def Fr (S S' : rs_S) : Prop := (∀ a, a ≠ 39 → a ≠ 43 → S'.1 a = S.1 a) ∧ (∀ a j, a ≠ 40 → a ≠ 42 → S'.2.1 a j = S.2.1 a j) ∧ S'.2.2 = S.2.2
/-- what is due, what is said -/
def Sta (S0 : rs_S) (K : List Int32) (U : List Nat) (S : rs_S) : Prop := S.1 43 = Int32.ofNat K.length ∧ SKt K S ∧ OU U S ∧ Fr S0 S
def RN (o id : Nat) (S : rs_S) (c : Nat) (S' : rs_S) : Prop := ∀ m, r302_187 (m + c) (Int32.ofNat o) (Int32.ofNat id) S = r302_187 m (Int32.ofNat o) (Int32.ofNat id) S'
/-- tokens and widths from b on -/
def TKb (id b : Nat) (t : List (Nat × Int32)) (S : rs_S) : Prop := ∀ j, j < t.length → S.2.1 14 (20 * id + b + j) = Int32.ofNat (t.getD j (0, 0)).1 ∧ S.2.1 15 (20 * id + b + j) = (t.getD j (0, 0)).2
def wst (q : List Nat × List Nat) (t : Nat × Int32) : List Nat × List Nat := if stg1 t.1 = 0 then (q.1 ++ [1], 1 :: q.2) else if t.1 = 126 then (match q.2 with
    | w :: r => (q.1 ++ [w + 1], (w + 1) :: r)
    | [] => q) else (match q.2 with
    | w2 :: w1 :: r => (q.1 ++ [1 + w2 + w1], (1 + w2 + w1) :: r)
    | _ => q)
def wfd (ts : List (Nat × Int32)) (q : List Nat × List Nat) : List Nat × List Nat := ts.foldl wst q
def wlt (t : List (Nat × Int32)) : List Nat := (wfd t ([], [])).1
def AWb (b : Nat) (t : List (Nat × Int32)) (S : rs_S) : Prop := ∀ j, j < t.length → S.2.1 41 (b + j) = Int32.ofNat ((wlt t).getD j 0)
section PRR
variable {S S' S0 S2 : rs_S} {o k m r c y z y2 z2 id b n p : Nat} {U X Lr Lc : List Nat} {v : Int32} {K : List Int32} {M : aM} {A : ah} {D : aD} {t t1 t2 ts : List (Nat × Int32)}
theorem Fr_refl : Fr S S := ⟨fun _ _ _ => rfl, fun _ _ _ _ => rfl, rfl⟩
theorem Fr_y (h1 : Fr S S') (h2 : Sy S' S2) : Fr S S2 := ⟨fun a n1 n2 => (h2.1 a n1).trans (h1.1 a n1 n2), fun a j n1 n2 => (h2.2.1 a j n1).trans (h1.2.1 a j n1 n2), h2.2.2.trans h1.2.2⟩
theorem SKt_y (h : Sy S S') : ∀ K, SKt K S → SKt K S'
  | [], _ => trivial
  | v :: K, hK => ⟨by rw [h.2.1 42 _ (by omega)]; exact hK.1, SKt_y h K hK.2⟩
theorem SKt_set : ∀ K j, K.length ≤ j → SKt K S → SKt K (rs_setA S 42 j v)
  | [], _, _, _ => trivial
  | a :: K, j, hj, hK => by
    rw [List.length_cons] at hj
    refine ⟨?_, SKt_set K j (by omega) hK.2⟩
    rw [set_i (by omega)]
    exact hK.1
theorem SKt_I : ∀ K, SKt K S → SKt K (rs_setI S k v)
  | [], _ => trivial
  | a :: K, hK => ⟨hK.1, SKt_I K hK.2⟩
theorem Sta_y (H : Sta S0 K U S) (h : Sy S S') (hO : OU X S') : Sta S0 K X S' := ⟨by rw [h.1 43 (by omega)]; exact H.1, SKt_y h K H.2.1, hO, Fr_y H.2.2.2 h⟩
theorem OU_42 (H : OU U S) {j : Nat} {w : Int32} : OU U (rs_setI (rs_setA S 42 j v) 43 w) := ⟨H.1, fun i hi => (set_a (by omega)).trans (H.2 i hi)⟩
/-- one more is due -/
theorem q304 (H : Sta S0 K U S) (hl : K.length < 80) : ∃ S', rf_304 v S = some ((), S') ∧ Sta S0 (v :: K) U S' := by
  obtain ⟨h1, h2, h3, h4⟩ := H
  have n1 : Int32.ofNat K.length + (1 : Int32) = Int32.ofNat (K.length + 1) := i32_add _ 1
  refine ⟨rs_setI (rs_setA S 42 K.length v) 43 (Int32.ofNat (K.length + 1)), ?_, rfl, ⟨?_, SKt_I K (SKt_set K _ (Nat.le_refl _) h2)⟩, OU_42 h3, ?_⟩
  · unfold rf_304
    rw [h1, wrI (n := 80) (by decide) hl (by omega), Option.bind_some, rbS_r, show (rs_setA S 42 K.length v).1 43 = Int32.ofNat K.length from h1, n1]
  · show (rs_setA S 42 K.length v).2.1 42 K.length = v
    rw [set_e]
  · obtain ⟨f1, f2, f3⟩ := h4
    refine ⟨fun a n1 n2 => ?_, fun a j n1 n2 => ?_, f3⟩
    · show (if a = 43 then _ else S.1 a) = _
      rw [if_neg n2]
      exact f1 a n1 n2
    · show (rs_setA S 42 K.length v).2.1 a j = _
      rw [set_a n2]
      exact f2 a j n1 n2
def plb (b : Bool) (k : Int32) : List Int32 := if b = true then [-40, k, -41] else [k]
theorem q312 {bb : Bool} (H : Sta S0 K U S) (hl : K.length + 3 < 80) : ∃ S', rf_312 v (if bb = true then 1 else 0) S = some ((), S') ∧ Sta S0 (plb bb v ++ K) U S' := by
  unfold rf_312 r312_10 plb
  cases bb with
  | false =>
    obtain ⟨S1, p1, p2⟩ := q304 (v := v) H (by omega)
    refine ⟨S1, ?_, p2⟩
    rw [if_pos (by decide), p1, rb_r, if_pos (by decide)]
  | true =>
    obtain ⟨S1, p1, p2⟩ := q304 (v := -41) H (by omega)
    obtain ⟨S2, u1, u2⟩ := q304 (v := v) p2 (by rw [List.length_cons]; omega)
    obtain ⟨S3, t1, t2⟩ := q304 (v := -40) u2 (by rw [List.length_cons, List.length_cons]; omega)
    refine ⟨S3, ?_, t2⟩
    rw [if_neg (by decide), p1, rb_r, u1, rb_r, if_neg (by decide), t1, rb_r]
theorem RN_tr {c1 c2 : Nat} {S1 : rs_S} (h1 : RN o id S c1 S1) (h2 : RN o id S1 c2 S2) : RN o id S (c2 + c1) S2 := by
  intro m
  rw [← Nat.add_assoc, h1, h2]
/-- the top is taken off -/
theorem Sta_pop {w : Int32} (H : Sta S0 (w :: K) U S) (hK : K.length < 79) : S.1 43 = Int32.ofNat (K.length + 1) ∧ Sta S0 K U (rs_setI S 43 (Int32.ofNat K.length)) ∧ S.2.1 42 K.length = w := by
  obtain ⟨h1, h2, h3, h4⟩ := H
  refine ⟨h1, ⟨rfl, SKt_I K h2.2, h3, ?_⟩, h2.1⟩
  obtain ⟨f1, f2, f3⟩ := h4
  refine ⟨fun a n1 n2 => ?_, f2, f3⟩
  show (if a = 43 then _ else S.1 a) = _
  rw [if_neg n2]
  exact f1 a n1 n2
theorem run_c (hc : c < 128) (hc0 : 0 < c) (H : Sta S0 (-(Int32.ofNat c) :: K) U S) (hK : K.length < 79) (hU : U.length < 120) : ∃ S', RN o id S 1 S' ∧ Sta S0 K (U ++ [c]) S' := by
  obtain ⟨e1, H1, e2⟩ := Sta_pop H hK
  obtain ⟨S2, p1, p2, p3⟩ := q303 (c := c) H1.2.2.1 hU
  refine ⟨S2, fun m => ?_, Sta_y H1 p3 p2⟩
  have n1 : Int32.ofNat (K.length + 1) - (1 : Int32) = Int32.ofNat K.length := i32_sub (a := K.length + 1) (b := 1) (by omega)
  have e3 : (rs_setI S 43 (Int32.ofNat K.length)).2.1 42 K.length = -(Int32.ofNat c) := e2
  have e4 : (rs_setI S 43 (Int32.ofNat K.length)).1 43 = Int32.ofNat K.length := rfl
  rw [r302_187]
  dsimp only
  rw [e1, if_neg (show ¬ Int32.ofNat (K.length + 1) ≤ (0 : Int32) from fun e => by have := (i32_len (b := 0) (by omega) (by omega)).mp e; omega), rbS_r, n1, e4, rdI (n := 80) (by decide) (by omega) (by omega), Option.bind_some, e3, if_neg (show ¬ (0 : Int32) ≤ -(Int32.ofNat c) by
    rw [Int32.le_iff_toInt_le, neg_i (by omega)]
    have : (0 : Int32).toInt = 0 := rfl
    omega), Int32.neg_neg, p1, rb_r]
  rfl
/-- a part that is due -/
theorem run_p {X2K : List Int32} {X2U : List Nat} (H : Sta S0 (Int32.ofNat k :: K) U S) (hK : K.length < 79) (hk : k < 20) (hq : ∀ S1, Sta S0 K U S1 → ∃ S', rf_305 (Int32.ofNat o) (Int32.ofNat id) (Int32.ofNat k) S1 = some ((), S') ∧ Sta S0 X2K X2U S') : ∃ S', RN o id S 1 S' ∧ Sta S0 X2K X2U S' := by
  obtain ⟨e1, H1, e2⟩ := Sta_pop H hK
  obtain ⟨S2, p1, p2⟩ := hq _ H1
  refine ⟨S2, fun m => ?_, p2⟩
  have n1 : Int32.ofNat (K.length + 1) - (1 : Int32) = Int32.ofNat K.length := i32_sub (a := K.length + 1) (b := 1) (by omega)
  have e3 : (rs_setI S 43 (Int32.ofNat K.length)).2.1 42 K.length = Int32.ofNat k := e2
  have e4 : (rs_setI S 43 (Int32.ofNat K.length)).1 43 = Int32.ofNat K.length := rfl
  rw [r302_187]
  dsimp only
  rw [e1, if_neg (show ¬ Int32.ofNat (K.length + 1) ≤ (0 : Int32) from fun e => by have := (i32_len (b := 0) (by omega) (by omega)).mp e; omega), rbS_r, n1, e4, rdI (n := 80) (by decide) (by omega) (by omega), Option.bind_some, e3, if_pos (show (0 : Int32) ≤ Int32.ofNat k from (i32_len (a := 0) (by omega) (by omega)).mpr (Nat.zero_le _)), p1, rb_r]
  rfl
theorem q277 (hc : c < 200) : rf_277 (Int32.ofNat c) S = some (Int32.ofNat (stg1 c), S) := by
  unfold rf_277 stg1
  have ne : ∀ a : Nat, a < 200 → c ≠ a → ¬ Int32.ofNat c = Int32.ofNat a := fun a ha hn e => hn (i32_inj (by omega) (by omega) e)
  by_cases h1 : c = 43
  · subst h1; rfl
  · by_cases h2 : c = 45
    · subst h2; rfl
    · by_cases h3 : c = 42
      · subst h3; rfl
      · by_cases h4 : c = 47
        · subst h4; rfl
        · by_cases h5 : c = 126
          · subst h5; rfl
          · rw [if_neg (show ¬ Int32.ofNat c = (43 : Int32) from ne 43 (by omega) h1), if_neg (show ¬ Int32.ofNat c = (45 : Int32) from ne 45 (by omega) h2), if_neg (show ¬ Int32.ofNat c = (42 : Int32) from ne 42 (by omega) h3), if_neg (show ¬ Int32.ofNat c = (47 : Int32) from ne 47 (by omega) h4), if_neg (show ¬ Int32.ofNat c = (126 : Int32) from ne 126 (by omega) h5), if_neg (by omega), if_neg (by omega), if_neg h5]
            rfl
/-! slices -/
theorem gd_a1 {j : Nat} (hj : j < t1.length) : (t1 ++ t2).getD j (0, 0) = t1.getD j (0, 0) := by
  simp [List.getD_eq_getElem?_getD, List.getElem?_append_left hj]
theorem gd_a2 {j : Nat} : (t1 ++ t2).getD (t1.length + j) (0, 0) = t2.getD j (0, 0) := by
  simp [List.getD_eq_getElem?_getD, List.getElem?_append_right]
theorem TKb_1 (T : TKb id b (t1 ++ t2) S) : TKb id b t1 S := fun j hj => by
  have := T j (by rw [List.length_append]; omega)
  rw [gd_a1 hj] at this
  exact this
theorem TKb_2 (T : TKb id b (t1 ++ t2) S) : TKb id (b + t1.length) t2 S := fun j hj => by
  have := T (t1.length + j) (by rw [List.length_append]; omega)
  rw [gd_a2, show 20 * id + b + (t1.length + j) = 20 * id + (b + t1.length) + j by omega] at this
  exact this
theorem ng_a1 {l1 l2 : List Nat} {j : Nat} (hj : j < l1.length) : (l1 ++ l2).getD j 0 = l1.getD j 0 := by
  simp [List.getD_eq_getElem?_getD, List.getElem?_append_left hj]
theorem ng_a2 {l1 l2 : List Nat} {j : Nat} : (l1 ++ l2).getD (l1.length + j) 0 = l2.getD j 0 := by
  simp [List.getD_eq_getElem?_getD, List.getElem?_append_right]
/-- widths of a part -/
theorem wfd_p : ∀ n p t X, prX M A D Lr Lc n p t X → 1 ≤ t.length ∧ (wlt t).length = t.length ∧ (wlt t).getD (t.length - 1) 0 = t.length ∧ ∀ W st, wfd t (W, st) = (W ++ wlt t, t.length :: st) := by
  intro n
  induction n with
  | zero => intro p t X h; cases h
  | succ n ih =>
    intro p t X ⟨hp, hh⟩
    have one : ∀ c : Nat × Int32, stg1 c.1 = 0 → 1 ≤ [c].length ∧ (wlt [c]).length = [c].length ∧ (wlt [c]).getD ([c].length - 1) 0 = [c].length ∧ ∀ W st, wfd [c] (W, st) = (W ++ wlt [c], [c].length :: st) := by
      intro c hc
      have e : ∀ W st, wfd [c] (W, st) = (W ++ [1], 1 :: st) := fun W st => by
        show wst (W, st) c = _
        unfold wst
        rw [if_pos hc]
      have ew : wlt [c] = [1] := by unfold wlt; rw [e]; rfl
      rw [ew]
      exact ⟨Nat.le_refl _, rfl, rfl, e⟩
    rcases hh with ⟨v, e, tt, tX⟩ | ⟨y, z, h1, h2, e, tt, tX⟩ | ⟨kc, cd, y, z, y2, z2, hm, h1, h2, h3, h4, e, tt, tX⟩ | ⟨q', t', X', e, h1, tt, tX⟩ | ⟨kc, cd, q1, q2, t1, t2, X1, X2, hm, e, h1, h2, tt, tX⟩
    · obtain ⟨t1, -⟩ := tt
      subst t1
      exact one _ rfl
    · subst tt
      exact one _ rfl
    · subst tt
      refine one _ ?_
      have hk' : cd = 115 ∨ cd = 110 ∨ cd = 109 := by
        unfold kcB at hm
        simp at hm
        omega
      rcases hk' with g | g | g <;> subst g <;> rfl
    · subst tt
      obtain ⟨g1, g2, g3, g4⟩ := ih q' t' X' h1
      have e : ∀ W st, wfd (t' ++ [(126, 0)]) (W, st) = (W ++ wlt t' ++ [t'.length + 1], (t'.length + 1) :: st) := fun W st => by
        unfold wfd at g4 ⊢
        rw [List.foldl_append, g4]
        show wst (W ++ wlt t', t'.length :: st) (126, 0) = _
        unfold wst
        rw [if_neg (by decide), if_pos rfl]
      have ew : wlt (t' ++ [(126, 0)]) = wlt t' ++ [t'.length + 1] := by
        unfold wlt
        rw [e]
        show [] ++ wlt t' ++ [t'.length + 1] = _
        rfl
      have el : (t' ++ [((126 : Nat), (0 : Int32))]).length = t'.length + 1 := by rw [List.length_append]; rfl
      rw [ew, el]
      refine ⟨by omega, by rw [List.length_append, g2]; rfl, ?_, fun W st => by rw [e, List.append_assoc]⟩
      rw [Nat.add_sub_cancel, ← g2]
      have := ng_a2 (l1 := wlt t') (l2 := [(wlt t').length + 1]) (j := 0)
      rw [Nat.add_zero] at this
      exact this
    · subst tt
      have hk' : cd = 43 ∨ cd = 45 ∨ cd = 42 ∨ cd = 47 := by
        unfold kcT at hm
        simp at hm
        omega
      obtain ⟨g1, g2, g3, g4⟩ := ih q1 t1 X1 h1
      obtain ⟨f1, f2, f3, f4⟩ := ih q2 t2 X2 h2
      have e : ∀ W st, wfd (t1 ++ t2 ++ [(cd, 0)]) (W, st) = (W ++ wlt t1 ++ wlt t2 ++ [1 + t2.length + t1.length], (1 + t2.length + t1.length) :: st) := fun W st => by
        unfold wfd at g4 f4 ⊢
        rw [List.foldl_append, List.foldl_append, g4, f4]
        show wst (W ++ wlt t1 ++ wlt t2, t2.length :: t1.length :: st) (cd, 0) = _
        unfold wst
        rw [if_neg (show ¬ stg1 cd = 0 by rcases hk' with g | g | g | g <;> subst g <;> decide), if_neg (show ¬ cd = 126 by omega)]
      have ew : wlt (t1 ++ t2 ++ [(cd, 0)]) = wlt t1 ++ wlt t2 ++ [1 + t2.length + t1.length] := by
        show (wfd _ ([], [])).1 = _
        rw [e]
        rfl
      have el : (t1 ++ t2 ++ [(cd, (0 : Int32))]).length = t1.length + t2.length + 1 := by rw [List.length_append, List.length_append]; rfl
      rw [ew, el]
      refine ⟨by omega, by rw [List.length_append, List.length_append, g2, f2]; rfl, ?_, fun W st => by rw [e, List.append_assoc, List.append_assoc, List.append_assoc, show 1 + t2.length + t1.length = t1.length + t2.length + 1 by omega]⟩
      have := ng_a2 (l1 := wlt t1 ++ wlt t2) (l2 := [1 + t2.length + t1.length]) (j := 0)
      rw [Nat.add_zero, List.length_append, g2, f2] at this
      rw [Nat.add_sub_cancel, this]
      show 1 + t2.length + t1.length = _
      omega
theorem wlt_n (h : prX M A D Lr Lc n p t X) : wlt (t ++ [(126, 0)]) = wlt t ++ [t.length + 1] := by
  obtain ⟨-, -, -, g4⟩ := wfd_p n p t X h
  show (wfd _ ([], [])).1 = _
  unfold wfd at g4 ⊢
  rw [List.foldl_append, g4]
  show (wst ([] ++ wlt t, t.length :: []) (126, 0)).1 = _
  unfold wst
  rw [if_neg (by decide), if_pos rfl]
  rfl
theorem wlt_b {p2 n2 : Nat} {X2 : List Nat} (h1 : prX M A D Lr Lc n p t1 X) (h2 : prX M A D Lr Lc n2 p2 t2 X2) (hc : c = 43 ∨ c = 45 ∨ c = 42 ∨ c = 47) : wlt (t1 ++ t2 ++ [(c, 0)]) = wlt t1 ++ wlt t2 ++ [1 + t2.length + t1.length] := by
  obtain ⟨-, -, -, g4⟩ := wfd_p n p t1 X h1
  obtain ⟨-, -, -, f4⟩ := wfd_p n2 p2 t2 X2 h2
  show (wfd _ ([], [])).1 = _
  unfold wfd at g4 f4 ⊢
  rw [List.foldl_append, List.foldl_append, g4, f4]
  show (wst ([] ++ wlt t1 ++ wlt t2, t2.length :: t1.length :: []) (c, 0)).1 = _
  unfold wst
  rw [if_neg (show ¬ stg1 c = 0 by rcases hc with g | g | g | g <;> subst g <;> decide), if_neg (show ¬ c = 126 by omega)]
  rfl
theorem stg_g (ht : 1 ≤ t.length) : stg t = stg1 (t.getD (t.length - 1) (0, 0)).1 := by
  unfold stg
  rw [List.getLast?_eq_getElem?, List.getD_eq_getElem?_getD]
theorem plb_run {kk : Nat} {bb : Bool} (hX : ∀ K U S, Sta S0 (Int32.ofNat kk :: K) U S → K.length + n ≤ 80 → U.length + X.length ≤ 80 → ∃ c S', c ≤ m ∧ RN o id S c S' ∧ Sta S0 K (U ++ X) S') : ∀ K U S, Sta S0 (plb bb (Int32.ofNat kk) ++ K) U S → K.length + 3 < 79 → K.length + 1 + n ≤ 80 → U.length + (brk bb X).length ≤ 80 → ∃ c S', c ≤ m + 2 ∧ RN o id S c S' ∧ Sta S0 K (U ++ brk bb X) S' := by
  intro K U S H hK hK2 hU
  unfold plb at H
  unfold brk at hU ⊢
  cases bb with
  | false =>
    rw [if_neg (show ¬ (false : Bool) = true by decide)] at H hU ⊢
    obtain ⟨c, S', p1, p2, p3⟩ := hX K U S H (by omega) hU
    exact ⟨c, S', by omega, p2, p3⟩
  | true =>
    rw [if_pos rfl] at H hU ⊢
    rw [List.length_cons, List.length_append, List.length_singleton] at hU
    obtain ⟨S1, a1, a2⟩ := run_c (o := o) (id := id) (c := 40) (K := Int32.ofNat kk :: -41 :: K) (by omega) (by omega) H (by rw [List.length_cons, List.length_cons]; omega) (by omega)
    obtain ⟨c, S2, b1, b2, b3⟩ := hX (-41 :: K) _ S1 a2 (by rw [List.length_cons]; omega) (by rw [List.length_append, List.length_singleton]; omega)
    obtain ⟨S3, d1, d2⟩ := run_c (o := o) (id := id) (c := 41) (K := K) (by omega) (by omega) b3 (by omega) (by rw [List.length_append, List.length_append, List.length_singleton]; omega)
    refine ⟨_, S3, ?_, RN_tr (RN_tr a1 b2) d1, ?_⟩
    · omega
    · rw [List.append_assoc, List.append_assoc] at d2
      exact d2
end PRR
