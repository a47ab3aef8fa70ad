/-! THE CLASS's reader: the token at hand, parts made -/
def gn (k t : Nat) : Nat := if t < k then t + 1 else t
def fF (T : List Nat) (t : Nat) (fl : Int32) : Int32 := if fl = -1 then Int32.ofNat (po T t) else fl
section HND
variable {A A' A2 : ah} {h : pm_H} {T : List Nat} {k t p j n m r cc a x : Nat} {fl v : Int32} {w : Option Nat} {u0 u1 u2 u3 u4 u5 u6 u7 : Value}
theorem RS_st {Y : List Nat} {c d : Nat} (R : ar A h) (s : RS T k t fl r cc A) (g : st A A' Y c d) (hY : ∀ x ∈ Y, x < 83 ∨ 86 < x) : RS T k t fl r cc A' := by
  obtain ⟨s1, ⟨cap, s2⟩, f, s3, s4⟩ := s
  exact ⟨st_c g R s1 (by intro q; cases q) (fun z => by have := hY _ z; omega), ⟨cap, st_c g R s2 (by intro q; cases q) (fun z => by have := hY _ z; omega)⟩, f, st_c g R s3 (by intro q; cases q) (fun z => by have := hY _ z; omega), s4⟩
theorem RS_set (s : RS T k t fl r cc A) {y : ac} (ha : 86 < a) : RS T k t fl r cc (ah_set A a y) := by
  obtain ⟨s1, ⟨cap, s2⟩, f, s3, s4⟩ := s
  exact ⟨by rw [ah_set_n (by omega)]; exact s1, ⟨cap, by rw [ah_set_n (by omega)]; exact s2⟩, f, by rw [ah_set_n (by omega)]; exact s3, s4⟩
theorem RS_new (s : RS T k t fl r cc A) {y : ac} (ha : 178 ≤ A.2.1) : RS T k t fl r cc (ah_new A y m) := by
  obtain ⟨s1, ⟨cap, s2⟩, f, s3, s4⟩ := s
  exact ⟨by rw [ah_new_n (by omega)]; exact s1, ⟨cap, by rw [ah_new_n (by omega)]; exact s2⟩, f, by rw [ah_new_n (by omega)]; exact s3, s4⟩
theorem tk_lt (K : TK T k) (ht : t ≤ k) : (t < k ↔ po T t < T.length) := by
  obtain ⟨-, -, -, k4, k5⟩ := K
  refine ⟨fun q => k5 t q, fun q => ?_⟩
  by_cases e : t = k
  · subst e; omega
  · omega
theorem rr_lc (R : ar A h) (s : RS T k t fl r cc A) : lc_of h (some 83) = some 1 := hc_lc (ar_c R s.1)
theorem c140 (R : ar A h) (K : TK T k) (s : RS T k t fl r cc A) (ht : t ≤ k) : ll_140 w (some 83) h = rtI (Int32.ofNat (chT T (po T t))) h := by
  have hk := tk_lt K ht
  have hb := chT_b (p := po T t) K.2.1
  have k3 := K.2.2.1
  have kT := K.1
  obtain ⟨s1, ⟨cap, s2⟩, f, s3, s4⟩ := s
  unfold ll_140
  rw [hc_I (v := Int32.ofNat t) (ar_c R s1) rfl, Option.bind_some, hc_I (v := Int32.ofNat k) (ar_c R s1) rfl, Option.bind_some]
  by_cases q : k ≤ t
  · rw [if_pos ((i32_len (by omega) (by omega)).mpr q), if_pos (by decide), chT_n (by omega)]
    rfl
  · have e4 := s4 t ht
    rw [if_neg (fun z => q ((i32_len (by omega) (by omega)).mp z)), hc_R (o := some 84) (ar_c R s1) rfl, Option.bind_some, hc_R (o := some 86) (ar_c R s1) rfl, Option.bind_some, Option.bind_some, hc_ldI (v := f t) (ar_c R s3) rfl (by omega) (ra_get (by omega)), Option.bind_some, if_pos (sb_lc R s2), e4, ll_charAt R s2 (by omega), lb_I_r, if_pos (sb_chr (show T.getD (po T t) 0 < 128 by unfold chT at hb; omega)).2.2.1]
    rfl
theorem c139 (R : ar A h) (K : TK T k) (s : RS T k t fl r cc A) (ht : t ≤ k) (hx : x < 200) (hv : v = Int32.ofNat x) : ll_139 w (some 83) v h = rtI (if decide (chT T (po T t) = x) = true then 1 else 0) h := by
  subst hv
  have hb := chT_b (p := po T t) K.2.1
  unfold ll_139
  rw [if_pos (rr_lc R s), c140 R K s ht, rt_I]
  by_cases q : chT T (po T t) = x
  · rw [if_pos (by rw [q]), decide_eq_true q]
    rfl
  · rw [if_neg (i32_ofne (by omega) (by omega) q), decide_eq_false q]
    rfl
theorem c141 (R : ar A h) (K : TK T k) (s : RS T k t fl r cc A) (ht : t ≤ k) : ∃ A' h', ll_141 (some 83) h = rtV h' ∧ ar A' h' ∧ RS T k (gn k t) fl r cc A' ∧ RU A A' 0 := by
  have k3 := K.2.2.1
  obtain ⟨s1, ⟨cap, s2⟩, f, s3, s4⟩ := s
  unfold ll_141 gn
  rw [hc_I (v := Int32.ofNat t) (ar_c R s1) rfl, Option.bind_some, hc_I (v := Int32.ofNat k) (ar_c R s1) rfl, Option.bind_some]
  by_cases q : k ≤ t
  · rw [if_pos ((i32_len (by omega) (by omega)).mpr q), if_neg (by omega)]
    exact ⟨A, h, rfl, R, ⟨s1, ⟨cap, s2⟩, f, s3, s4⟩, RU_0⟩
  · have n1 : Int32.ofNat t + (1 : Int32) = Int32.ofNat (t + 1) := i32_add t 1
    obtain ⟨h6, p6, R6⟩ := aw_P (t := 0) (k := 3) (v := .inl (Int32.ofNat (t + 1))) R s1 (by omega) (by simp) rfl
    rw [if_neg (fun z => q ((i32_len (by omega) (by omega)).mp z)), Option.bind_some, n1, p6, if_pos (by omega)]
    exact ⟨_, h6, rfl, R6, ⟨ah_set_e, ⟨cap, by rw [ah_set_n (by omega)]; exact s2⟩, f, by rw [ah_set_n (by omega)]; exact s3, s4⟩, st_w (st_set s1) (fun b hb => by simp at hb; simp [hb]) (by omega) (by omega)⟩
theorem c145 (R : ar A h) (K : TK T k) (s : RS T k t fl r cc A) (ht : t ≤ k) : ∃ A' h', ll_145 (some 83) h = rtV h' ∧ ar A' h' ∧ RS T k t (fF T t fl) r cc A' ∧ RU A A' 0 := by
  have k3 := K.2.2.1
  obtain ⟨s1, ⟨cap, s2⟩, f, s3, s4⟩ := s
  unfold ll_145 fF
  rw [hc_I (v := fl) (ar_c R s1) rfl, Option.bind_some]
  by_cases q : fl = -1
  · obtain ⟨h6, p6, R6⟩ := aw_P (t := 0) (k := 4) (v := .inl (Int32.ofNat (po T t))) R s1 (by omega) (by simp) rfl
    rw [if_pos q, hc_R (o := some 86) (ar_c R s1) rfl, Option.bind_some, hc_I (v := Int32.ofNat t) (ar_c R s1) rfl, Option.bind_some, hc_ldI (v := f t) (ar_c R s3) rfl (by omega) (ra_get (by omega)), Option.bind_some, s4 t ht, p6, if_pos q]
    exact ⟨_, h6, rfl, R6, ⟨ah_set_e, ⟨cap, by rw [ah_set_n (by omega)]; exact s2⟩, f, by rw [ah_set_n (by omega)]; exact s3, s4⟩, st_w (st_set s1) (fun b hb => by simp at hb; simp [hb]) (by omega) (by omega)⟩
  · rw [if_neg q, if_neg q]
    exact ⟨A, h, rfl, R, ⟨s1, ⟨cap, s2⟩, f, s3, s4⟩, RU_0⟩
theorem c148 (R : ar A h) (K : TK T k) (s : RS T k t fl r cc A) (ht : t ≤ k) (hx : x < 200) (hv : v = Int32.ofNat x) : ∃ A' h', ll_148 w (some 83) v h = rtV h' ∧ ar A' h' ∧ RS T k (if chT T (po T t) = x then gn k t else t) (if chT T (po T t) = x then fl else fF T t fl) r cc A' ∧ RU A A' 0 := by
  subst hv
  have hb := chT_b (p := po T t) K.2.1
  unfold ll_148
  rw [if_pos (rr_lc R s), c140 R K s ht, rt_I]
  by_cases q : chT T (po T t) = x
  · obtain ⟨A', h', g1, g2, g3, g4⟩ := c141 R K s ht
    rw [if_pos (by rw [q]), if_pos (rr_lc R s), g1, if_pos q, if_pos q]
    exact ⟨A', h', rfl, g2, g3, g4⟩
  · obtain ⟨A', h', g1, g2, g3, g4⟩ := c145 R K s ht
    rw [if_neg (i32_ofne (by omega) (by omega) q), if_pos (rr_lc R s), g1, if_neg q, if_neg q]
    exact ⟨A', h', rfl, g2, g3, g4⟩
/-! parts -/
theorem fit2 {o : Option Nat} : pm_fit 2 (tm_v (.inr (.inr o))) = true := by cases o <;> rfl
theorem tm_vr {o : Option Nat} : tm_v (.inr (.inr o)) = tm_r o := by cases o <;> rfl
theorem c147 (R : ar A h) (e : A.1 a = ac_c (.inl (9, [u0, u1, u2, u3, u4, u5, u6, u7]))) (ha : 81 ≤ a) (x y z : Option Nat) : ∃ h', ll_147 (some a) x y z h = rtV h' ∧ ar (ah_set A a (ac_c (.inl (9, [tm_r x, tm_r y, tm_r z, u3, u4, u5, u6, u7])))) h' := by
  unfold ll_147
  obtain ⟨h1, p1, R1⟩ := aw_P (t := 2) (k := 0) (v := .inr (.inr x)) R e ha (by simp) fit2
  obtain ⟨h2, p2, R2⟩ := aw_P (t := 2) (k := 1) (v := .inr (.inr y)) R1 ah_set_e ha (by simp) fit2
  rw [ah_ss] at R2
  obtain ⟨h3, p3, R3⟩ := aw_P (t := 2) (k := 2) (v := .inr (.inr z)) R2 ah_set_e ha (by simp) fit2
  rw [ah_ss] at R3
  rw [if_pos (show Option.isSome (some a) = true from rfl), p1, Option.bind_some, p2, Option.bind_some, p3]
  refine ⟨h3, rfl, ?_⟩
  rw [tm_vr, tm_vr, tm_vr] at R3
  exact R3
theorem ah_ns {y z : ac} : ah_set (ah_new A y m) A.2.1 z = ah_new A z m := by
  unfold ah_set ah_new
  refine Prod.ext (funext fun b => ?_) rfl
  by_cases q : b = A.2.1
  · simp [q]
  · simp [q]
/-- a part that is not told yet -/
abbrev pt0 : pm_C := .inl (9, [.null, .null, .null, .long 0, .null, .null, .null, .null])
theorem c9n (R : ar A h) : ar (ah_new A (ac_c pt0) 8) (lf_new h 9 8 [.null, .null, .null, .long 0, .null, .null, .null, .null]) := ar_n R _ 8
theorem RU_new (R : ar A h) (ha : 178 ≤ A.2.1) (y : pm_C) : RU A (ah_new A (ac_c y) 8) 1 := st_w (st_new R (by omega) y 8) (fun b hb => by cases hb) (by omega) (by omega)
theorem c146 (R : ar A h) (ha : 178 ≤ A.2.1) (z : Int64) : ∃ h', ll_146 z h = rtR (some A.2.1) h' ∧ ar (ah_new A (ac_c (.inl (9, [.ref 8, .null, .null, .long z, .null, .null, .null, .null]))) 8) h' := by
  unfold ll_146 lb_h
  have R1 := c9n R
  obtain ⟨h2, p2, R2⟩ := c147 R1 ah_new_e (by omega) (some 8) none none
  rw [ah_ns] at R2
  obtain ⟨h3, p3, R3⟩ := aw_P (t := 1) (k := 3) (v := .inr (.inl z)) R2 ah_new_e (by omega) (by simp) rfl
  rw [ah_ns] at R3
  dsimp only
  rw [ar_len R, p2, rt_V, p3]
  exact ⟨h3, rfl, R3⟩
theorem c152 (R : ar A h) (ha : 178 ≤ A.2.1) (x y : Option Nat) : ∃ h', ll_152 x y h = rtR (some A.2.1) h' ∧ ar (ah_new A (ac_c (.inl (9, [.ref 9, .null, .null, .long 0, tm_r x, tm_r y, .null, .null]))) 8) h' := by
  unfold ll_152 lb_h
  have R1 := c9n R
  obtain ⟨h2, p2, R2⟩ := c147 R1 ah_new_e (by omega) (some 9) none none
  rw [ah_ns] at R2
  obtain ⟨h3, p3, R3⟩ := aw_P (t := 2) (k := 4) (v := .inr (.inr x)) R2 ah_new_e (by omega) (by simp) fit2
  rw [ah_ns] at R3
  obtain ⟨h4, p4, R4⟩ := aw_P (t := 2) (k := 5) (v := .inr (.inr y)) R3 ah_new_e (by omega) (by simp) fit2
  rw [ah_ns] at R4
  dsimp only
  rw [ar_len R, p2, rt_V, p3, Option.bind_some, p4]
  refine ⟨h4, rfl, ?_⟩
  rw [tm_vr, tm_vr] at R4
  exact R4
theorem c153 (R : ar A h) (ha : 178 ≤ A.2.1) {kc q1 q2 : Nat} {x1 y1 x2 y2 : Option Nat} {c0 c1 c2 c3 c6 c7 d0 d1 d2 d3 d6 d7 : Value} (e1 : A.1 q1 = ac_c (.inl (9, [c0, c1, c2, c3, tm_r x1, tm_r y1, c6, c7]))) (e2 : A.1 q2 = ac_c (.inl (9, [d0, d1, d2, d3, tm_r x2, tm_r y2, d6, d7]))) : ∃ h', ll_153 (some kc) (some q1) (some q2) h = rtR (some A.2.1) h' ∧ ar (ah_new A (ac_c (.inl (9, [.ref kc, .null, .null, .long 0, tm_r x1, tm_r y1, tm_r x2, tm_r y2]))) 8) h' := by
  have l1 : q1 ≠ A.2.1 := fun z => by have := ar_lt R (a := q1) (by rw [e1]; intro q; cases q); omega
  have l2 : q2 ≠ A.2.1 := fun z => by have := ar_lt R (a := q2) (by rw [e2]; intro q; cases q); omega
  have g1 : ∀ y : ac, (ah_new A y 8).1 q1 = ac_c (.inl (9, [c0, c1, c2, c3, tm_r x1, tm_r y1, c6, c7])) := fun y => by rw [ah_new_n l1]; exact e1
  have g2 : ∀ y : ac, (ah_new A y 8).1 q2 = ac_c (.inl (9, [d0, d1, d2, d3, tm_r x2, tm_r y2, d6, d7])) := fun y => by rw [ah_new_n l2]; exact e2
  unfold ll_153 lb_h
  have R1 := c9n R
  obtain ⟨h2, p2, R2⟩ := c147 R1 ah_new_e (by omega) (some kc) none none
  rw [ah_ns] at R2
  obtain ⟨h3, p3, R3⟩ := aw_P (t := 2) (k := 4) (v := .inr (.inr x1)) R2 ah_new_e (by omega) (by simp) fit2
  rw [ah_ns] at R3
  obtain ⟨h4, p4, R4⟩ := aw_P (t := 2) (k := 5) (v := .inr (.inr y1)) R3 ah_new_e (by omega) (by simp) fit2
  rw [ah_ns] at R4
  obtain ⟨h5, p5, R5⟩ := aw_P (t := 2) (k := 6) (v := .inr (.inr x2)) R4 ah_new_e (by omega) (by simp) fit2
  rw [ah_ns] at R5
  obtain ⟨h6, p6, R6⟩ := aw_P (t := 2) (k := 7) (v := .inr (.inr y2)) R5 ah_new_e (by omega) (by simp) fit2
  rw [ah_ns] at R6
  dsimp only
  rw [ar_len R, p2, rt_V, hc_R (o := x1) (ar_c R2 (g1 _)) rfl, Option.bind_some, p3, Option.bind_some, hc_R (o := y1) (ar_c R3 (g1 _)) rfl, Option.bind_some, p4, Option.bind_some, hc_R (o := x2) (ar_c R4 (g2 _)) rfl, Option.bind_some, p5, Option.bind_some, hc_R (o := y2) (ar_c R5 (g2 _)) rfl, Option.bind_some, p6]
  refine ⟨h6, rfl, ?_⟩
  rw [tm_vr, tm_vr, tm_vr, tm_vr] at R6
  exact R6
end HND
