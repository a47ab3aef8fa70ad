/-! TOKENS of a draft: where each ends; the class splits the draft -/
def chT (T : List Nat) (p : Nat) : Nat := T.getD p 0
def dgB (c : Nat) : Bool := decide (48 ≤ c ∧ c ≤ 57)
def nmB (c : Nat) : Bool := dgB c || decide (c = 46)
def cpB (c : Nat) : Bool := decide (65 ≤ c ∧ c ≤ 90)
/-- the end of a run of at most n characters -/
def rnE (P : Nat → Bool) (T : List Nat) : Nat → Nat → Nat
  | 0, p => p
  | n + 1, p => if p < T.length ∧ P (chT T p) = true then rnE P T n (p + 1) else p
/-- the end of the token at p -/
def te (T : List Nat) (p : Nat) : Nat := if T.length ≤ p then p else if nmB (chT T p) = true then rnE nmB T 20 (p + 1) else if cpB (chT T p) = true then rnE dgB T 2 (p + 1) else p + 1
/-- where the tokens start -/
def po (T : List Nat) : Nat → Nat
  | 0 => 0
  | k + 1 => te T (po T k)
/-- a draft, k tokens -/
def TK (T : List Nat) (k : Nat) : Prop := T.length ≤ 20 ∧ (∀ c ∈ T, 32 ≤ c ∧ c ≤ 126) ∧ k ≤ 20 ∧ po T k = T.length ∧ ∀ j, j < k → po T j < T.length
/-- the reader's cells -/
def cl83 (k t : Nat) (fl : Int32) (r c : Nat) : pm_C := .inl (1, [.ref 84, .ref 86, .int (Int32.ofNat k), .int (Int32.ofNat t), .int fl, .ref r, .ref c])
def RS (T : List Nat) (k t : Nat) (fl : Int32) (r c : Nat) (A : ah) : Prop := A.1 83 = ac_c (cl83 k t fl r c) ∧ (∃ cap, A.1 84 = ac_t T cap) ∧ ∃ f : Nat → Int32, A.1 86 = ac_c (.inr (0, ra 22 (fun i => .int (f i)))) ∧ ∀ j, j ≤ k → f j = Int32.ofNat (po T j)
/-- what reading leaves: c new cells -/
def RU (A A' : ah) (c : Nat) : Prop := st A A' [83, 86] c (8 * c)
section LEX
variable {A A' A2 : ah} {h : pm_H} {T : List Nat} {P : Nat → Bool} {c d k t p j n m r cc cap : Nat} {fl : Int32} {w : Option Nat}
theorem ifB {α : Type} {b : Bool} {x y : α} : (if (if b = true then (1 : Int32) else 0) = (0 : Int32) then x else y) = (if b = true then y else x) := by cases b <;> rfl
theorem RU_0 : RU A A 0 := st_w st_refl (fun b hb => by cases hb) (Nat.le_refl _) (Nat.le_refl _)
theorem RU_tr (s1 : RU A A' c) (s2 : RU A' A2 d) : RU A A2 (c + d) := st_w (st_trans s1 s2) (fun b hb => by rcases List.mem_append.mp hb with q | q <;> exact q) (Nat.le_refl _) (by omega)
theorem rn_le : ∀ n p, p ≤ rnE P T n p
  | 0, _ => Nat.le_refl _
  | n + 1, p => by
    rw [rnE]
    split
    · have := rn_le n (p + 1)
      omega
    · exact Nat.le_refl _
theorem rn_b : ∀ n p, p ≤ T.length → rnE P T n p ≤ T.length
  | 0, _, h => h
  | n + 1, p, h => by
    rw [rnE]
    split
    · next q => exact rn_b n (p + 1) (by omega)
    · exact h
theorem te_lt (hp : p < T.length) : p < te T p := by
  unfold te
  rw [if_neg (by omega)]
  split
  · have := rn_le (P := nmB) (T := T) 20 (p + 1)
    omega
  · split
    · have := rn_le (P := dgB) (T := T) 2 (p + 1)
      omega
    · omega
theorem te_b (hp : p ≤ T.length) : te T p ≤ T.length := by
  unfold te
  split
  · exact hp
  · split
    · exact rn_b _ _ (by omega)
    · split
      · exact rn_b _ _ (by omega)
      · omega
theorem po_b : ∀ k, po T k ≤ T.length
  | 0 => Nat.zero_le _
  | k + 1 => te_b (po_b k)
theorem po_e (hp : T.length ≤ po T k) : po T (k + 1) = po T k := by
  rw [po]
  unfold te
  rw [if_pos hp]
theorem chT_n (hp : T.length ≤ p) : chT T p = 0 := by
  unfold chT
  rw [List.getD_eq_getElem?_getD, List.getElem?_eq_none hp]
  rfl
theorem chT_b (H : ∀ c ∈ T, 32 ≤ c ∧ c ≤ 126) : chT T p ≤ 126 := by
  by_cases hp : p < T.length
  · unfold chT
    rw [List.getD_eq_getElem?_getD, List.getElem?_eq_getElem hp]
    exact (H _ (List.getElem_mem hp)).2
  · rw [chT_n (by omega)]
    omega
theorem chT_c (H : ∀ c ∈ T, 32 ≤ c ∧ c ≤ 126) (hp : p < T.length) : 32 ≤ chT T p := by
  unfold chT
  rw [List.getD_eq_getElem?_getD, List.getElem?_eq_getElem hp]
  exact (H _ (List.getElem_mem hp)).1
theorem c137 (hc : c < 200) : ll_137 (Int32.ofNat c) h = rtI (if dgB c = true then 1 else 0) h := by
  unfold ll_137 dgB
  by_cases q : c < 48
  · rw [if_pos (show Int32.ofNat c < (48 : Int32) from (i32_ltn (b := 48) (by omega) (by omega)).mpr q), if_neg (by rw [decide_eq_true_iff]; omega)]
  · rw [if_neg (show ¬ Int32.ofNat c < (48 : Int32) from fun z => q ((i32_ltn (b := 48) (by omega) (by omega)).mp z))]
    by_cases q2 : 57 < c
    · rw [if_pos (show (57 : Int32) < Int32.ofNat c from (i32_ltn (a := 57) (by omega) (by omega)).mpr q2), if_neg (by rw [decide_eq_true_iff]; omega)]
    · rw [if_neg (show ¬ (57 : Int32) < Int32.ofNat c from fun z => q2 ((i32_ltn (a := 57) (by omega) (by omega)).mp z)), if_pos (by rw [decide_eq_true_iff]; omega)]
theorem c138 (hc : c < 200) : ll_138 (Int32.ofNat c) h = rtI (if cpB c = true then 1 else 0) h := by
  unfold ll_138 cpB
  by_cases q : c < 65
  · rw [if_pos (show Int32.ofNat c < (65 : Int32) from (i32_ltn (b := 65) (by omega) (by omega)).mpr q), if_neg (by rw [decide_eq_true_iff]; omega)]
  · rw [if_neg (show ¬ Int32.ofNat c < (65 : Int32) from fun z => q ((i32_ltn (b := 65) (by omega) (by omega)).mp z))]
    by_cases q2 : 90 < c
    · rw [if_pos (show (90 : Int32) < Int32.ofNat c from (i32_ltn (a := 90) (by omega) (by omega)).mpr q2), if_neg (by rw [decide_eq_true_iff]; omega)]
    · rw [if_neg (show ¬ (90 : Int32) < Int32.ofNat c from fun z => q2 ((i32_ltn (a := 90) (by omega) (by omega)).mp z)), if_pos (by rw [decide_eq_true_iff]; omega)]
theorem c136 (hc : c < 200) : ll_136 (Int32.ofNat c) h = rtI (if nmB c = true then 1 else 0) h := by
  unfold ll_136 nmB
  rw [c137 hc, rt_I]
  cases hd : dgB c with
  | true => rfl
  | false =>
    show (if Int32.ofNat c = (46 : Int32) then _ else _) = _
    by_cases q : c = 46
    · subst q; rfl
    · rw [if_neg (show ¬ Int32.ofNat c = (46 : Int32) from i32_ofne (b := 46) (by omega) (by omega) q)]
      simp [q]
/-- runs, as the class goes through them -/
theorem c133n (R : ar A h) (f0 : lf_R h (some 83) [1, 0] = some (some 84)) (e : A.1 84 = ac_t T cap) (H : ∀ c ∈ T, 32 ≤ c ∧ c ≤ 126) (hT : T.length ≤ 20) : ∀ m n p, T.length ≤ p + m → m < n → p ≤ 20 → l133_18 w n (some 83) (Int32.ofNat p) h = rtI (Int32.ofNat (rnE nmB T m p)) h := by
  intro m
  induction m with
  | zero =>
    intro n p h1 h2 h3
    cases n with
    | zero => omega
    | succ n =>
      rw [l133_18]
      dsimp only
      rw [f0, Option.bind_some, if_pos (sb_lc R e), ll_length R e, rt_I, if_pos ((i32_len (by omega) (by omega)).mpr (by omega))]
      rfl
  | succ m ih =>
    intro n p h1 h2 h3
    cases n with
    | zero => omega
    | succ n =>
      rw [l133_18]
      dsimp only
      rw [f0, Option.bind_some, if_pos (sb_lc R e), ll_length R e, rt_I]
      by_cases q : T.length ≤ p
      · rw [if_pos ((i32_len (by omega) (by omega)).mpr q), rnE, if_neg (by omega)]
      · rw [if_neg (fun z => q ((i32_len (by omega) (by omega)).mp z)), f0, Option.bind_some, if_pos (sb_lc R e), ll_charAt R e (by omega), lb_I_r, c136 (c := T.getD p 0) (by have := chT_b (p := p) H; unfold chT at this; omega), rt_I]
        have n1 : Int32.ofNat p + (1 : Int32) = Int32.ofNat (p + 1) := i32_add p 1
        cases hb : nmB (T.getD p 0) with
        | true =>
          rw [ifB, if_pos rfl, n1, ih n (p + 1) (by omega) (by omega) (by omega), rnE, if_pos ⟨by omega, hb⟩]
        | false =>
          rw [ifB, if_neg Bool.false_ne_true, rnE, if_neg (fun z => by have := z.2; unfold chT at this; rw [hb] at this; cases this)]
theorem c133d (R : ar A h) (f0 : lf_R h (some 83) [1, 0] = some (some 84)) (e : A.1 84 = ac_t T cap) (H : ∀ c ∈ T, 32 ≤ c ∧ c ≤ 126) (hT : T.length ≤ 20) {a : Nat} (ha : a ≤ 20) : ∀ m n p, p + m = a + 3 → m < n → l133_63 w n (some 83) (Int32.ofNat a) (Int32.ofNat p) h = rtI (Int32.ofNat (rnE dgB T m p)) h := by
  have n3 : Int32.ofNat a + (3 : Int32) = Int32.ofNat (a + 3) := i32_add a 3
  intro m
  induction m with
  | zero =>
    intro n p h1 h2
    cases n with
    | zero => omega
    | succ n =>
      rw [l133_63]
      dsimp only
      rw [f0, Option.bind_some, if_pos (sb_lc R e), ll_length R e, rt_I]
      by_cases q : T.length ≤ p
      · rw [if_pos ((i32_len (by omega) (by omega)).mpr q)]
        rfl
      · rw [if_neg (fun z => q ((i32_len (by omega) (by omega)).mp z)), n3, if_pos ((i32_len (by omega) (by omega)).mpr (by omega))]
        rfl
  | succ m ih =>
    intro n p h1 h2
    cases n with
    | zero => omega
    | succ n =>
      rw [l133_63]
      dsimp only
      rw [f0, Option.bind_some, if_pos (sb_lc R e), ll_length R e, rt_I]
      by_cases q : T.length ≤ p
      · rw [if_pos ((i32_len (by omega) (by omega)).mpr q), rnE, if_neg (by omega)]
      · rw [if_neg (fun z => q ((i32_len (by omega) (by omega)).mp z)), n3, if_neg (fun z => by have := (i32_len (by omega) (by omega)).mp z; omega), f0, Option.bind_some, if_pos (sb_lc R e), ll_charAt R e (by omega), lb_I_r, c137 (c := T.getD p 0) (by have := chT_b (p := p) H; unfold chT at this; omega), rt_I]
        have n1 : Int32.ofNat p + (1 : Int32) = Int32.ofNat (p + 1) := i32_add p 1
        cases hb : dgB (T.getD p 0) with
        | true =>
          rw [ifB, if_pos rfl, n1, ih n (p + 1) (by omega) (by omega), rnE, if_pos ⟨by omega, hb⟩]
        | false =>
          rw [ifB, if_neg Bool.false_ne_true, rnE, if_neg (fun z => by have := z.2; unfold chT at this; rw [hb] at this; cases this)]
theorem c133 (R : ar A h) (f0 : lf_R h (some 83) [1, 0] = some (some 84)) (e : A.1 84 = ac_t T cap) (H : ∀ c ∈ T, 32 ≤ c ∧ c ≤ 126) (hT : T.length ≤ 20) (hp : p < T.length) : ll_133 w (some 83) (Int32.ofNat p) h = rtI (Int32.ofNat (te T p)) h := by
  have n1 : Int32.ofNat p + (1 : Int32) = Int32.ofNat (p + 1) := i32_add p 1
  have hc : T.getD p 0 < 200 := by have := chT_b (p := p) H; unfold chT at this; omega
  unfold ll_133 te chT
  rw [f0, Option.bind_some, if_pos (sb_lc R e), ll_charAt R e hp, lb_I_r, c136 hc, rt_I, if_neg (show ¬ T.length ≤ p by omega)]
  cases hb : nmB (T.getD p 0) with
  | true =>
    rw [ifB, if_pos rfl, n1, c133n R f0 e H hT 20 lf_N (p + 1) (by omega) (by unfold lf_N; omega) (by omega), if_pos rfl]
  | false =>
    rw [ifB, if_neg Bool.false_ne_true, f0, Option.bind_some, if_pos (sb_lc R e), ll_charAt R e hp, lb_I_r, c138 hc, rt_I, if_neg Bool.false_ne_true]
    cases hb2 : cpB (T.getD p 0) with
    | true =>
      rw [ifB, if_pos rfl, n1, c133d R f0 e H hT (by omega) 2 lf_N (p + 1) (by omega) (by unfold lf_N; omega), if_pos rfl]
    | false =>
      rw [ifB, if_neg Bool.false_ne_true, n1, if_neg Bool.false_ne_true]
/-- the class splits -/
theorem c132l (H : ∀ c ∈ T, 32 ≤ c ∧ c ≤ 126) (hT : T.length ≤ 20) : ∀ (m n j : Nat) (A : ah) (h : pm_H) (f : Nat → Int32), ar A h → A.1 83 = ac_c (cl83 j t fl r cc) → A.1 84 = ac_t T cap → A.1 86 = ac_c (.inr (0, ra 22 (fun i => .int (f i)))) → j + m = 20 → m < n → (j ≤ po T j ∨ po T j = T.length) → (∀ i, i < j → f i = Int32.ofNat (po T i) ∧ po T i < T.length) → ∃ k A' h', l132_9 w n (some 83) (Int32.ofNat (po T j)) (Int32.ofNat j) h = rtV h' ∧ ar A' h' ∧ TK T k ∧ RS T k t fl r cc A' ∧ RU A A' 0 := by
  have fin : ∀ (j : Nat) (A : ah) (h : pm_H) (f : Nat → Int32), ar A h → A.1 83 = ac_c (cl83 j t fl r cc) → A.1 84 = ac_t T cap → A.1 86 = ac_c (.inr (0, ra 22 (fun i => .int (f i)))) → j ≤ 20 → po T j = T.length → (∀ i, i < j → f i = Int32.ofNat (po T i) ∧ po T i < T.length) → ∃ k A' h', l132_58 w (some 83) h = rtV h' ∧ ar A' h' ∧ TK T k ∧ RS T k t fl r cc A' ∧ RU A A' 0 := by
    intro j A h f R e1 e2 e3 hj he hf
    obtain ⟨h2, p2, R2⟩ := aw_Sr (i := .iastore) (j := j) (v := .inl (Int32.ofNat T.length)) (w := .int (Int32.ofNat T.length)) R e3 (by omega) (by omega) (by omega) rfl
    refine ⟨j, _, h2, ?_, R2, ⟨hT, H, hj, he, fun i hi => (hf i hi).2⟩, ⟨by rw [ah_set_n (by omega)]; exact e1, ⟨cap, by rw [ah_set_n (by omega)]; exact e2⟩, up f j (Int32.ofNat T.length), ?_, ?_⟩, st_w (st_set e3) (fun b hb => by simp at hb; simp [hb]) (Nat.le_refl _) (Nat.le_refl _)⟩
    · unfold l132_58
      rw [hc_R (o := some 86) (ar_c R e1) rfl, Option.bind_some, hc_I (v := Int32.ofNat j) (ar_c R e1) rfl, Option.bind_some, hc_R (o := some 84) (ar_c R e1) rfl, Option.bind_some, if_pos (sb_lc R e2), ll_length R e2, lb_I_r, p2, Option.bind_some]
    · rw [ah_set_e]
      congr 4
      exact funext fun i => by unfold up; split <;> rfl
    · intro i hi
      by_cases q : i = j
      · subst q; rw [up_e, he]
      · rw [up_n q]; exact (hf i (by omega)).1
  intro m
  induction m with
  | zero =>
    intro n j A h f R e1 e2 e3 h1 h2 h3 hf
    cases n with
    | zero => omega
    | succ n =>
      have hj : j = 20 := by omega
      have hb := po_b (T := T) j
      rw [l132_9]
      dsimp only
      rw [if_pos (show (20 : Int32) ≤ Int32.ofNat j from (i32_len (a := 20) (by omega) (by omega)).mpr (by omega))]
      exact fin j A h f R e1 e2 e3 (by omega) (by omega) hf
  | succ m ih =>
    intro n j A h f R e1 e2 e3 h1 h2 h3 hf
    cases n with
    | zero => omega
    | succ n =>
      have hb := po_b (T := T) j
      rw [l132_9]
      dsimp only
      rw [if_neg (show ¬ (20 : Int32) ≤ Int32.ofNat j from fun z => by have := (i32_len (a := 20) (by omega) (by omega)).mp z; omega), hc_R (o := some 84) (ar_c R e1) rfl, Option.bind_some, if_pos (sb_lc R e2), ll_length R e2, lb_I_r]
      by_cases q : T.length ≤ po T j
      · rw [if_pos ((i32_len (by omega) (by omega)).mpr q)]
        exact fin j A h f R e1 e2 e3 (by omega) (by omega) hf
      · rw [if_neg (fun z => q ((i32_len (by omega) (by omega)).mp z)), hc_R (o := some 86) (ar_c R e1) rfl, Option.bind_some, hc_I (v := Int32.ofNat j) (ar_c R e1) rfl, Option.bind_some]
        obtain ⟨h5, p5, R5⟩ := aw_Sr (i := .iastore) (j := j) (v := .inl (Int32.ofNat (po T j))) (w := .int (Int32.ofNat (po T j))) R e3 (by omega) (by omega) (by omega) rfl
        have e15 : (ah_set A 86 (ac_c (.inr (0, ra 22 (up (fun i => .int (f i)) j (.int (Int32.ofNat (po T j)))))))).1 83 = ac_c (cl83 j t fl r cc) := by rw [ah_set_n (by omega)]; exact e1
        have n1 : Int32.ofNat j + (1 : Int32) = Int32.ofNat (j + 1) := i32_add j 1
        obtain ⟨h6, p6, R6⟩ := aw_P (t := 0) (k := 2) (v := .inl (Int32.ofNat (j + 1))) R5 e15 (by omega) (by simp) rfl
        have s5 := st_set (y := .inr (0, ra 22 (up (fun i => .int (f i)) j (.int (Int32.ofNat (po T j)))))) e3
        have s6 := st_set (y := .inl (1, ([.ref 84, .ref 86, .int (Int32.ofNat j), .int (Int32.ofNat t), .int fl, .ref r, .ref cc] : List Value).set 2 (tm_v (.inl (Int32.ofNat (j + 1)))))) e15
        rw [p5, Option.bind_some, hc_I (v := Int32.ofNat j) (ar_c R5 e15) rfl, Option.bind_some, n1, p6, Option.bind_some]
        have e1' : (ah_set (ah_set A 86 (ac_c (.inr (0, ra 22 (up (fun i => .int (f i)) j (.int (Int32.ofNat (po T j)))))))) 83 (ac_c (cl83 (j + 1) t fl r cc))).1 83 = ac_c (cl83 (j + 1) t fl r cc) := ah_set_e
        have e2' : (ah_set (ah_set A 86 (ac_c (.inr (0, ra 22 (up (fun i => .int (f i)) j (.int (Int32.ofNat (po T j)))))))) 83 (ac_c (cl83 (j + 1) t fl r cc))).1 84 = ac_t T cap := by rw [ah_set_n (by omega), ah_set_n (by omega)]; exact e2
        have e3' : (ah_set (ah_set A 86 (ac_c (.inr (0, ra 22 (up (fun i => .int (f i)) j (.int (Int32.ofNat (po T j)))))))) 83 (ac_c (cl83 (j + 1) t fl r cc))).1 86 = ac_c (.inr (0, ra 22 (fun i => .int (up f j (Int32.ofNat (po T j)) i)))) := by
          rw [ah_set_n (by omega), ah_set_e]
          congr 4
          exact funext fun i => by unfold up; split <;> rfl
        rw [if_pos (hc_lc (ar_c R6 e1')), c133 R6 (hc_R (o := some 84) (ar_c R6 e1') rfl) e2' H hT (by omega), lb_I_r, show Int32.ofNat (te T (po T j)) = Int32.ofNat (po T (j + 1)) from rfl]
        have hte := te_lt (T := T) (p := po T j) (by omega)
        obtain ⟨k, A', h', g1, g2, g3, g4, g5⟩ := ih n (j + 1) _ h6 _ R6 e1' e2' e3' (by omega) (by omega) (Or.inl (by show j + 1 ≤ te T (po T j); omega)) (fun i hi => by
          by_cases q2 : i = j
          · subst q2; exact ⟨up_e, by omega⟩
          · rw [up_n q2]; exact hf i (by omega))
        refine ⟨k, A', h', g1, g2, g3, g4, ?_⟩
        exact st_w (st_trans (st_trans s5 s6) g5) (fun b hb => by simp at hb; simp; omega) (by omega) (by omega)
theorem c132 (R : ar A h) (H : ∀ c ∈ T, 32 ≤ c ∧ c ≤ 126) (hT : T.length ≤ 20) {f : Nat → Int32} {k0 : Int32} (e1 : A.1 83 = ac_c (.inl (1, [.ref 84, .ref 86, .int k0, .int (Int32.ofNat t), .int fl, .ref r, .ref cc]))) (e2 : A.1 84 = ac_t T cap) (e3 : A.1 86 = ac_c (.inr (0, ra 22 (fun i => .int (f i))))) : ∃ k A' h', ll_132 w (some 83) h = rtV h' ∧ ar A' h' ∧ TK T k ∧ RS T k t fl r cc A' ∧ RU A A' 0 := by
  obtain ⟨h6, p6, R6⟩ := aw_P (t := 0) (k := 2) (v := .inl (0 : Int32)) R e1 (by omega) (by simp) rfl
  have s6 := st_set (y := .inl (1, ([.ref 84, .ref 86, .int k0, .int (Int32.ofNat t), .int fl, .ref r, .ref cc] : List Value).set 2 (tm_v (.inl (0 : Int32))))) e1
  obtain ⟨k, A', h', g1, g2, g3, g4, g5⟩ := c132l (w := w) (t := t) (fl := fl) (r := r) (cc := cc) (cap := cap) H hT 20 lf_N 0 _ h6 f R6 ah_set_e (by rw [ah_set_n (by omega)]; exact e2) (by rw [ah_set_n (by omega)]; exact e3) (by omega) (by unfold lf_N; omega) (Or.inl (Nat.zero_le _)) (fun i hi => by omega)
  refine ⟨k, A', h', ?_, g2, g3, g4, st_w (st_trans s6 g5) (fun b hb => by simp at hb; simp; omega) (by omega) (by omega)⟩
  unfold ll_132
  rw [p6, Option.bind_some]
  exact g1
end LEX
