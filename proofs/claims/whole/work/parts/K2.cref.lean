/-! THE CLASS reads a reference, and a number -/
/-- the row that a reference tells, from 1; 0 for none -/
def rwv (T : List Nat) (p : Nat) : Nat := if te T p = p + 1 then 0 else if chT T (p + 1) = 48 then 0 else if te T p = p + 2 then chT T (p + 1) - 48 else 10 * (chT T (p + 1) - 48) + (chT T (p + 2) - 48)
def rfv (T Lr Lc : List Nat) (p : Nat) : Option (Nat × Nat) := if cpB (chT T p) = true ∧ 1 ≤ rwv T p ∧ rwv T p ≤ Lr.length ∧ chT T p - 65 < Lc.length then some (Lr.getD (rwv T p - 1) 0, Lc.getD (chT T p - 65) 0) else none
/-- digits before, digits behind, points, the number without its point -/
def nmS (T : List Nat) : Nat → Nat → Nat → Nat → Nat → Nat → Nat × Nat × Nat × Nat
  | 0, _, b, d, q, N => (b, d, q, N)
  | m + 1, p, b, d, q, N => if chT T p = 46 then nmS T m (p + 1) b d (q + 1) N else nmS T m (p + 1) (if q = 0 then b + 1 else b) (if q = 0 then d else d + 1) q (10 * N + (chT T p - 48))
def gdN (z : Nat × Nat × Nat × Nat) : Bool := decide (1 ≤ z.1 ∧ z.1 ≤ 6 ∧ (z.2.2.1 = 0 ∨ (z.2.2.1 = 1 ∧ 1 ≤ z.2.1 ∧ z.2.1 ≤ 4)))
def vlN (z : Nat × Nat × Nat × Nat) : Nat := z.2.2.2 * 10 ^ (4 - z.2.1)
def nmZ (T : List Nat) (p : Nat) : Nat × Nat × Nat × Nat := nmS T (te T p - p) p 0 0 0 0
def nmv (T : List Nat) (p : Nat) : Option Nat := if nmB (chT T p) = true ∧ gdN (nmZ T p) = true ∧ vlN (nmZ T p) ≤ 1000000000 then some (vlN (nmZ T p)) else none
section CRF
variable {A A' A2 : ah} {h : pm_H} {M : aM} {D : aD} {X0 X1 : ax} {T : List Nat} {P : Nat → Bool} {k t p j n m r cc a x b d q N : Nat} {fl v : Int32} {w : Option Nat}
theorem cp_nm {c : Nat} (h : cpB c = true) : nmB c = false := by
  unfold cpB at h
  rw [decide_eq_true_iff] at h
  unfold nmB dgB
  rw [decide_eq_false (by omega), decide_eq_false (by omega)]
  rfl
theorem dg_i {c : Nat} : dgB c = true ↔ 48 ≤ c ∧ c ≤ 57 := by unfold dgB; rw [decide_eq_true_iff]
theorem te_cp (hp : p < T.length) (hc : cpB (chT T p) = true) : (te T p = p + 1 ∧ ¬ (p + 1 < T.length ∧ dgB (chT T (p + 1)) = true)) ∨ (te T p = p + 2 ∧ (p + 1 < T.length ∧ dgB (chT T (p + 1)) = true) ∧ ¬ (p + 2 < T.length ∧ dgB (chT T (p + 2)) = true)) ∨ (te T p = p + 3 ∧ (p + 1 < T.length ∧ dgB (chT T (p + 1)) = true) ∧ (p + 2 < T.length ∧ dgB (chT T (p + 2)) = true)) := by
  unfold te
  rw [if_neg (by omega), cp_nm hc, if_neg Bool.false_ne_true, if_pos hc]
  by_cases h1 : p + 1 < T.length ∧ dgB (chT T (p + 1)) = true
  · by_cases h2 : p + 2 < T.length ∧ dgB (chT T (p + 2)) = true
    · exact Or.inr (Or.inr ⟨by rw [rnE, if_pos h1, rnE, if_pos h2, rnE], h1, h2⟩)
    · exact Or.inr (Or.inl ⟨by rw [rnE, if_pos h1, rnE, if_neg h2], h1, h2⟩)
  · exact Or.inl ⟨by rw [rnE, if_neg h1], h1⟩
theorem te_1 (hp : p < T.length) (h1 : nmB (chT T p) = false) (h2 : cpB (chT T p) = false) : te T p = p + 1 := by
  unfold te
  rw [if_neg (by omega), h1, if_neg Bool.false_ne_true, h2, if_neg Bool.false_ne_true]
theorem cp_e (h : cpB (chT T p) = true) : p < T.length := by
  by_cases q : p < T.length
  · exact q
  · rw [chT_n (by omega)] at h
    cases h
theorem nmb_e (h : nmB (chT T p) = true) : p < T.length := by
  by_cases q : p < T.length
  · exact q
  · rw [chT_n (by omega)] at h
    cases h
/-- one character of the row -/
theorem c151s (R : ar A h) (K : TK T k) (s : RS T k t fl r cc A) (ht : t < k) (hx : x ≤ 22) (hb : b < 1000) : (po T (t + 1) ≤ x → l151_14 w (n + 1) (some 83) (Int32.ofNat b) (Int32.ofNat x) h = rtI (Int32.ofNat b - 1) h) ∧ (x < po T (t + 1) → dgB (chT T x) = true → l151_14 w (n + 1) (some 83) (Int32.ofNat b) (Int32.ofNat x) h = if b = 0 ∧ chT T x = 48 then rtI (-1) h else l151_14 w n (some 83) (Int32.ofNat (10 * b + (chT T x - 48))) (Int32.ofNat (x + 1)) h) := by
  have k3 := K.2.2.1
  have kT := K.1
  have hpb := po_b (T := T) (t + 1)
  obtain ⟨s1, ⟨cap, s2⟩, f, s3, s4⟩ := s
  have n1 : Int32.ofNat t + (1 : Int32) = Int32.ofNat (t + 1) := i32_add t 1
  have e4 := s4 (t + 1) (by omega)
  have hh : ∀ c0 : Prop, c0 → True := fun _ _ => trivial
  constructor
  · intro q
    rw [l151_14]
    dsimp only
    rw [hc_R (o := some 86) (ar_c R s1) rfl, Option.bind_some, hc_I (v := Int32.ofNat t) (ar_c R s1) rfl, Option.bind_some, n1, hc_ldI (v := f (t + 1)) (ar_c R s3) rfl (by omega) (ra_get (by omega)), Option.bind_some, e4, if_pos ((i32_len (by omega) (by omega)).mpr q)]
  · intro q hd
    have hdi := dg_i.mp hd
    have n2 : Int32.ofNat x + (1 : Int32) = Int32.ofNat (x + 1) := i32_add x 1
    have n3 : Int32.ofNat b * (10 : Int32) + (Int32.ofNat (chT T x) - (48 : Int32)) = Int32.ofNat (10 * b + (chT T x - 48)) := by
      rw [show (48 : Int32) = Int32.ofNat 48 from rfl, i32_sub hdi.1, show (10 : Int32) = Int32.ofNat 10 from rfl, i32_mul, i32_add, Nat.mul_comm]
    have hs : ∀ n, l151_48 w (l151_14 w n) (some 83) (Int32.ofNat b) (Int32.ofNat x) h = l151_14 w n (some 83) (Int32.ofNat (10 * b + (chT T x - 48))) (Int32.ofNat (x + 1)) h := by
      intro n
      unfold l151_48
      rw [hc_R (o := some 84) (ar_c R s1) rfl, Option.bind_some, if_pos (sb_lc R s2), ll_charAt R s2 (by omega), lb_I_r, n2]
      show l151_14 w n (some 83) (Int32.ofNat b * (10 : Int32) + (Int32.ofNat (chT T x) - (48 : Int32))) _ h = _
      rw [n3]
    rw [l151_14]
    dsimp only
    rw [hc_R (o := some 86) (ar_c R s1) rfl, Option.bind_some, hc_I (v := Int32.ofNat t) (ar_c R s1) rfl, Option.bind_some, n1, hc_ldI (v := f (t + 1)) (ar_c R s3) rfl (by omega) (ra_get (by omega)), Option.bind_some, e4, if_neg (fun z => by have := (i32_len (by omega) (by omega)).mp z; omega)]
    by_cases hb0 : b = 0
    · rw [if_pos (show Int32.ofNat b = (0 : Int32) by rw [hb0]; rfl), hc_R (o := some 84) (ar_c R s1) rfl, Option.bind_some, if_pos (sb_lc R s2), ll_charAt R s2 (by omega), lb_I_r, show T.getD x 0 = chT T x from rfl]
      by_cases h48 : chT T x = 48
      · rw [if_pos (show Int32.ofNat (chT T x) = (48 : Int32) by rw [h48]; rfl), if_pos ⟨hb0, h48⟩]
      · rw [if_neg (show ¬ Int32.ofNat (chT T x) = (48 : Int32) from i32_ofne (b := 48) (by omega) (by omega) h48), if_neg (fun z => h48 z.2), hs]
    · rw [if_neg (show ¬ Int32.ofNat b = (0 : Int32) from i32_ofne (b := 0) (by omega) (by omega) hb0), if_neg (fun z => hb0 z.1), hs]
theorem c151 (R : ar A h) (K : TK T k) (s : RS T k t fl r cc A) (ht : t < k) (hc : cpB (chT T (po T t)) = true) : ll_151 w (some 83) h = rtI (Int32.ofNat (rwv T (po T t)) - 1) h ∧ rwv T (po T t) < 100 := by
  have k3 := K.2.2.1
  have kT := K.1
  have hp := K.2.2.2.2 t ht
  have s' := s
  obtain ⟨s1, ⟨cap, s2⟩, f, s3, s4⟩ := s
  have n1 : Int32.ofNat (po T t) + (1 : Int32) = Int32.ofNat (po T t + 1) := i32_add _ 1
  have e4 := s4 t (by omega)
  have hu : ll_151 w (some 83) h = l151_14 w lf_N (some 83) (Int32.ofNat 0) (Int32.ofNat (po T t + 1)) h := by
    unfold ll_151
    rw [hc_R (o := some 86) (ar_c R s1) rfl, Option.bind_some, hc_I (v := Int32.ofNat t) (ar_c R s1) rfl, Option.bind_some, hc_ldI (v := f t) (ar_c R s3) rfl (by omega) (ra_get (by omega)), Option.bind_some, e4, n1]
    rfl
  obtain ⟨n, hn⟩ : ∃ n, lf_N = n + 3 := ⟨lf_N - 3, by unfold lf_N; omega⟩
  rw [hu, hn]
  have hte : po T (t + 1) = te T (po T t) := rfl
  have neg1 : (Int32.ofNat 0 - 1 : Int32) = -1 := by decide
  unfold rwv
  rcases te_cp hp hc with ⟨e, -⟩ | ⟨e, ⟨g1, g2⟩, -⟩ | ⟨e, ⟨g1, g2⟩, g3, g4⟩
  · rw [(c151s (n := n + 2) (b := 0) (x := po T t + 1) R K s' ht (by omega) (by omega)).1 (by omega), if_pos e]
    exact ⟨rfl, by omega⟩
  · have i1 := dg_i.mp g2
    rw [(c151s (n := n + 2) (b := 0) (x := po T t + 1) R K s' ht (by omega) (by omega)).2 (by omega) g2, if_neg (show ¬ te T (po T t) = po T t + 1 by omega)]
    by_cases q : chT T (po T t + 1) = 48
    · rw [if_pos ⟨rfl, q⟩, if_pos q, neg1]
      exact ⟨rfl, by omega⟩
    · rw [if_neg (fun z => q z.2), if_neg q, if_pos e, (c151s (n := n + 1) (x := po T t + 1 + 1) R K s' ht (by omega) (by omega)).1 (by omega)]
      rw [show 10 * 0 + (chT T (po T t + 1) - 48) = chT T (po T t + 1) - 48 by omega]
      exact ⟨rfl, by omega⟩
  · have i1 := dg_i.mp g2
    have i2 := dg_i.mp g4
    rw [(c151s (n := n + 2) (b := 0) (x := po T t + 1) R K s' ht (by omega) (by omega)).2 (by omega) g2, if_neg (show ¬ te T (po T t) = po T t + 1 by omega)]
    by_cases q : chT T (po T t + 1) = 48
    · rw [if_pos ⟨rfl, q⟩, if_pos q, neg1]
      exact ⟨rfl, by omega⟩
    · rw [if_neg (fun z => q z.2), if_neg q, if_neg (show ¬ te T (po T t) = po T t + 2 by omega), show po T t + 1 + 1 = po T t + 2 by omega, (c151s (n := n + 1) (x := po T t + 2) R K s' ht (by omega) (by omega)).2 (by omega) g4, if_neg (fun z => by have := z.1; omega), (c151s (n := n) (x := po T t + 2 + 1) R K s' ht (by omega) (by omega)).1 (by omega)]
      rw [show 10 * (10 * 0 + (chT T (po T t + 1) - 48)) + (chT T (po T t + 2) - 48) = 10 * (chT T (po T t + 1) - 48) + (chT T (po T t + 2) - 48) by omega]
      exact ⟨rfl, by omega⟩
end CRF
