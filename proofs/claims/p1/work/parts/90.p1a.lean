/-! THE FIRST CALL on a new object -/
def pt_fBt (t : Int32) : List pm_C := .inl (10, [.int t, .ref 146, .ref 147, .ref 148, .ref 149, .ref 150, .ref 151, .ref 152, .ref 153, .ref 154, .ref 155, .ref 156, .ref 157, .ref 158, .ref 159, .ref 160, .ref 161, .ref 162, .ref 163, .ref 164, .ref 165, .ref 166, .int 0, .int 0, .int 0, .int 0, .int 0, .int 0, .ref 167, .int 0, .int 0, .int (-1), .int 0, .ref 168, .ref 169, .ref 170, .ref 171, .ref 172, .ref 173, .int 0, .ref 174, .ref 175, .ref 176, .int 0]) :: pt_fB.tail
/-- t: the reference's 'thrown'; o: the law's word; ex: what was made since -/
def pt_hx (t : Int32) (o : Int64) (ex : List pm_C) (n : Nat) (xs : List Int32) : pm_H := (pt_K xs ++ (pt_fA ++ (pt_fBt t ++ (.inr (1, [.long o]) :: ex))), n)
abbrev fx_H (xs : List Int32) : pm_H := pt_hx 0 0 [] 11705 xs
abbrev fx_T (ci : Nat) (xs : List Int32) : pm_H := pt_hx 0 0 [.inl (ci, [])] 11711 xs
set_option maxRecDepth 8000 in
theorem fx_h0 (xs : List Int32) : pt_h0 xs = fx_H xs := rfl
set_option maxRecDepth 8000 in
theorem fx_new (ci : Nat) (xs : List Int32) : lf_new (fx_H xs) ci 6 [] = fx_T ci xs := rfl
set_option maxRecDepth 8000 in
theorem fx_len (xs : List Int32) : (fx_H xs).1.length = 178 := rfl
set_option maxRecDepth 8000 in
theorem fx_thr (ci : Nat) (xs : List Int32) : (some (.inr (fx_H xs).1.length, lf_new (fx_H xs) ci 6 []) : tm_L) = some (.inr 178, fx_T ci xs) := rfl
set_option maxRecDepth 8000 in
theorem fx_bR (ci : Nat) (xs : List Int32) (k : Option Nat → pm_H → tm_L) : lb_R (some (.inr 178, fx_T ci xs)) k = some (.inr 178, fx_T ci xs) := rfl
set_option maxRecDepth 8000 in
theorem fx_bI (ci : Nat) (xs : List Int32) (k : Int32 → pm_H → tm_L) : lb_I (some (.inr 178, fx_T ci xs)) k = some (.inr 178, fx_T ci xs) := rfl
set_option maxRecDepth 8000 in
theorem fx_bJ (ci : Nat) (xs : List Int32) (k : Int64 → pm_H → tm_L) : lb_J (some (.inr 178, fx_T ci xs)) k = some (.inr 178, fx_T ci xs) := rfl
set_option maxRecDepth 8000 in
theorem fx_bV (ci : Nat) (xs : List Int32) (k : pm_H → tm_L) : lb_V (some (.inr 178, fx_T ci xs)) k = some (.inr 178, fx_T ci xs) := rfl
set_option maxRecDepth 8000 in
theorem fx_hI (ci : Nat) (xs : List Int32) (k : Int32 → pm_H → tm_L) (x : Nat → Nat → pm_H → tm_L) : lh_I (some (.inr 178, fx_T ci xs)) k x = x 178 ci (fx_T ci xs) := rfl
set_option maxRecDepth 8000 in
theorem fx_hV (ci : Nat) (xs : List Int32) (k : pm_H → tm_L) (x : Nat → Nat → pm_H → tm_L) : lh_V (some (.inr 178, fx_T ci xs)) k x = x 178 ci (fx_T ci xs) := rfl
set_option maxRecDepth 8000 in
theorem fx_rR (v : Option Nat) (h : pm_H) (k : Option Nat → pm_H → tm_L) : lb_R (some (.inl (some (.inr (.inr v))), h)) k = k v h := rfl
set_option maxRecDepth 8000 in
theorem fx_rI (v : Int32) (h : pm_H) (k : Int32 → pm_H → tm_L) : lb_I (some (.inl (some (.inl v)), h)) k = k v h := rfl
set_option maxRecDepth 8000 in
theorem fx_sI (v : Int32) (h : pm_H) (k : Int32 → pm_H → tm_L) (x : Nat → Nat → pm_H → tm_L) : lh_I (some (.inl (some (.inl v)), h)) k x = k v h := rfl
set_option maxRecDepth 8000 in
theorem fx_c81 (xs : List Int32) : lc_of (fx_H xs) (some 81) = some 0 := rfl
set_option maxRecDepth 8000 in
theorem fx_c145 (t : Int32) (o : Int64) (ex : List pm_C) (n : Nat) (xs : List Int32) : lc_of (pt_hx t o ex n xs) (some 145) = some 10 := rfl
set_option maxRecDepth 8000 in
theorem fx_put (t t' : Int32) (o : Int64) (ex : List pm_C) (n : Nat) (xs : List Int32) : lf_P 81 (pt_hx t o ex n xs) (some 145) [0, 10, 0] (.inl t') = some (pt_hx t' o ex n xs) := rfl
set_option maxRecDepth 8000 in
theorem fx_get (t : Int32) (o : Int64) (ex : List pm_C) (n : Nat) (xs : List Int32) : lf_I (pt_hx t o ex n xs) (some 145) [10, 0] = some t := rfl
set_option maxRecDepth 8000 in
theorem fx_out (t : Int32) (o o' : Int64) (ex : List pm_C) (n : Nat) (xs : List Int32) : la_S pt_P (pt_hx t o ex n xs) .lastore (some 177) 0 (.inr (.inl o')) = some (pt_hx t o' ex n xs) := rfl
set_option maxRecDepth 8000 in
theorem fx_235 (t : Int32) (o : Int64) (ex : List pm_C) (n : Nat) (xs : List Int32) : ll_235 (some 145) (pt_hx t o ex n xs) = some (.inl (some (.inl t)), pt_hx t o ex n xs) := rfl
/-- a number that is no office's -/
def fx_bad (x : Int32) : Prop := x < 0 ∨ ¬ x < 3
set_option maxRecDepth 8000 in
theorem fx_81T {x : Int32} (hx : fx_bad x) (xs : List Int32) : ll_81 (some 81) x (fx_H xs) = some (.inr 178, fx_T 14 xs) := by
  unfold ll_81
  by_cases h1 : x < 0
  · rw [if_pos h1]; rfl
  · rw [if_neg h1, if_neg (hx.resolve_left h1)]; rfl
set_option maxRecDepth 8000 in
theorem fx_237T {x : Int32} (hx : fx_bad x) (h : pm_H) : ll_237 x h = some (.inl (some (.inl 0)), h) := by
  unfold ll_237
  by_cases h1 : x < 0
  · rw [if_pos h1]
  · have h2 : (3 : Int32) ≤ x := Int32.not_lt.mp (hx.resolve_left h1)
    rw [if_neg h1, if_pos h2]
set_option maxRecDepth 8000 in
theorem fx_3 {x : Int32} (hx : ¬ fx_bad x) : x = 0 ∨ x = 1 ∨ x = 2 := by
  have h1 : ¬ x < 0 := fun h => hx (Or.inl h)
  have h2 : x < 3 := Classical.byContradiction fun h => hx (Or.inr h)
  rw [Int32.lt_iff_toInt_lt] at h1 h2
  have e0 : (0 : Int32).toInt = 0 := rfl
  have e3 : (3 : Int32).toInt = 3 := rfl
  rw [e0] at h1
  rw [e3] at h2
  have h3 : x.toInt = 0 ∨ x.toInt = 1 ∨ x.toInt = 2 := by omega
  rcases h3 with h | h | h
  · exact Or.inl (Int32.toInt_inj.mp h)
  · exact Or.inr (Or.inl (Int32.toInt_inj.mp h))
  · exact Or.inr (Or.inr (Int32.toInt_inj.mp h))
def fx_badk (x : Int32) : Prop := x < 0 ∨ ¬ x < 2
set_option maxRecDepth 8000 in
theorem fx_82T {x : Int32} (hx : fx_badk x) (o : Option Nat) (xs : List Int32) : ll_82 o x (fx_H xs) = some (.inr 178, fx_T 14 xs) := by
  unfold ll_82
  by_cases h1 : x < 0
  · rw [if_pos h1]; rfl
  · rw [if_neg h1, if_neg (hx.resolve_left h1)]; rfl
set_option maxRecDepth 8000 in
theorem fx_238T {x : Int32} (hx : fx_badk x) (h : pm_H) : ll_238 x h = some (.inl (some (.inl 0)), h) := by
  unfold ll_238
  have h0 : ¬ x = 0 := by
    rintro rfl
    rcases hx with hx | hx <;> exact absurd hx (by decide)
  have h1 : ¬ x = 1 := by
    rintro rfl
    rcases hx with hx | hx <;> exact absurd hx (by decide)
  rw [if_neg h0, if_neg h1]
set_option maxRecDepth 8000 in
theorem fx_2 {x : Int32} (hx : ¬ fx_badk x) : x = 0 ∨ x = 1 := by
  have h1 : ¬ x < 0 := fun h => hx (Or.inl h)
  have h2 : x < 2 := Classical.byContradiction fun h => hx (Or.inr h)
  rw [Int32.lt_iff_toInt_lt] at h1 h2
  have e0 : (0 : Int32).toInt = 0 := rfl
  have e3 : (2 : Int32).toInt = 2 := rfl
  rw [e0] at h1
  rw [e3] at h2
  have h3 : x.toInt = 0 ∨ x.toInt = 1 := by omega
  rcases h3 with h | h
  · exact Or.inl (Int32.toInt_inj.mp h)
  · exact Or.inr (Int32.toInt_inj.mp h)
set_option maxRecDepth 8000 in
/-- no line is shown -/
theorem fx_84 {a : Nat} {xs : List Int32} (h1 : lc_of (fx_H xs) (some a) = some 5) (h2 : ll_85 (some a) (fx_H xs) = some (.inl (some (.inl 0)), fx_H xs)) (x : Int32) : ll_84 (some a) x (fx_H xs) = some (.inr 178, fx_T 16 xs) := by
  unfold ll_84
  by_cases hx : x < 0
  · rw [if_pos hx]; rfl
  · rw [if_neg hx, if_pos h1, h2]
    show (if x < (0 : Int32) then _ else _) = _
    rw [if_neg hx]
    rfl
set_option maxRecDepth 8000 in
theorem fx_239 {o k : Int32} {t : Int32} {q : Int64} {ex : List pm_C} {n : Nat} {xs : List Int32} (hc : la_I (pt_hx t q ex n xs) .iaload (some 165) ((2 : Int32) * o + k) = some 0) (x : Int32) : ll_239 (some 145) o k x (pt_hx t q ex n xs) = some (.inl (some (.inl 0)), pt_hx t q ex n xs) := by
  unfold ll_239
  by_cases hx : x < 0
  · rw [if_pos hx]
  · rw [if_neg hx]
    have e : lf_R (pt_hx t q ex n xs) (some 145) [10, 20] = some (some 165) := rfl
    rw [e]
    simp only [Option.bind_some, hc]
    rw [if_pos (Int32.not_lt.mp hx)]
def fx_O (o : Int32) : Nat := if o = 0 then 94 else if o = 1 then 111 else 128
def fx_A (o k : Int32) : Nat := if o = 0 then (if k = 0 then 99 else 105) else if o = 1 then (if k = 0 then 116 else 122) else (if k = 0 then 133 else 139)
def fx_X (o : Int32) : Nat := if o = 0 then 97 else if o = 1 then 114 else 131
set_option maxRecDepth 8000 in
theorem fx_81 {o : Int32} (ho : o = 0 ∨ o = 1 ∨ o = 2) (xs : List Int32) : ll_81 (some 81) o (fx_H xs) = some (.inl (some (.inr (.inr (some (fx_O o))))), fx_H xs) := by
  rcases ho with rfl | rfl | rfl <;> rfl
set_option maxRecDepth 8000 in
theorem fx_82 {o k : Int32} (ho : o = 0 ∨ o = 1 ∨ o = 2) (hk : k = 0 ∨ k = 1) (xs : List Int32) : ll_82 (some (fx_O o)) k (fx_H xs) = some (.inl (some (.inr (.inr (some (fx_A o k))))), fx_H xs) := by
  rcases ho with rfl | rfl | rfl <;> rcases hk with rfl | rfl <;> rfl
set_option maxRecDepth 8000 in
theorem fx_c5 {o k : Int32} (ho : o = 0 ∨ o = 1 ∨ o = 2) (hk : k = 0 ∨ k = 1) (xs : List Int32) : lc_of (fx_H xs) (some (fx_A o k)) = some 5 := by
  rcases ho with rfl | rfl | rfl <;> rcases hk with rfl | rfl <;> rfl
set_option maxRecDepth 8000 in
theorem fx_c4 {o : Int32} (ho : o = 0 ∨ o = 1 ∨ o = 2) (xs : List Int32) : lc_of (fx_H xs) (some (fx_O o)) = some 4 := by
  rcases ho with rfl | rfl | rfl <;> rfl
set_option maxRecDepth 8000 in
theorem fx_85 {o k : Int32} (ho : o = 0 ∨ o = 1 ∨ o = 2) (hk : k = 0 ∨ k = 1) (xs : List Int32) : ll_85 (some (fx_A o k)) (fx_H xs) = some (.inl (some (.inl 0)), fx_H xs) := by
  rcases ho with rfl | rfl | rfl <;> rcases hk with rfl | rfl <;> rfl
set_option maxRecDepth 8000 in
theorem fx_92 {o : Int32} (ho : o = 0 ∨ o = 1 ∨ o = 2) (xs : List Int32) : ll_92 (some (fx_O o)) (fx_H xs) = some (.inl (some (.inl 0)), fx_H xs) := by
  rcases ho with rfl | rfl | rfl <;> rfl
set_option maxRecDepth 8000 in
theorem fx_ax {o : Int32} (ho : o = 0 ∨ o = 1 ∨ o = 2) (xs : List Int32) : lf_R (fx_H xs) (some (fx_O o)) [4, 3] = some (some (fx_X o)) := by
  rcases ho with rfl | rfl | rfl <;> rfl
set_option maxRecDepth 8000 in
theorem fx_a0 {o : Int32} (ho : o = 0 ∨ o = 1 ∨ o = 2) (xs : List Int32) : la_R (fx_H xs) .aaload (some (fx_X o)) 0 = some (some (fx_A o 0)) := by
  rcases ho with rfl | rfl | rfl <;> rfl
set_option maxRecDepth 8000 in
theorem fx_kn {o : Int32} (ho : o = 0 ∨ o = 1 ∨ o = 2) (xs : List Int32) : lf_R (fx_H xs) (some (fx_O o)) [4, 1] = some (some (fx_O o + 1)) := by
  rcases ho with rfl | rfl | rfl <;> rfl
set_option maxRecDepth 8000 in
theorem fx_237 {o : Int32} (ho : o = 0 ∨ o = 1 ∨ o = 2) (h : pm_H) : ll_237 o h = some (.inl (some (.inl 1)), h) := by
  rcases ho with rfl | rfl | rfl <;> rfl
set_option maxRecDepth 8000 in
theorem fx_238 {k : Int32} (hk : k = 0 ∨ k = 1) (h : pm_H) : ll_238 k h = some (.inl (some (.inl 1)), h) := by
  rcases hk with rfl | rfl <;> rfl
set_option maxRecDepth 8000 in
theorem fx_cnt {o k : Int32} (ho : o = 0 ∨ o = 1 ∨ o = 2) (hk : k = 0 ∨ k = 1) (t : Int32) (q : Int64) (ex : List pm_C) (n : Nat) (xs : List Int32) : la_I (pt_hx t q ex n xs) .iaload (some 165) ((2 : Int32) * o + k) = some 0 := by
  rcases ho with rfl | rfl | rfl <;> rcases hk with rfl | rfl <;> rfl
set_option maxRecDepth 8000 in
theorem fx_tkn {o k : Int32} (ho : o = 0 ∨ o = 1 ∨ o = 2) (hk : k = 0 ∨ k = 1 ∨ k = 2) (t : Int32) (q : Int64) (ex : List pm_C) (n : Nat) (xs : List Int32) : la_I (pt_hx t q ex n xs) .iaload (some 161) ((3 : Int32) * o + k) = some 0 := by
  rcases ho with rfl | rfl | rfl <;> rcases hk with rfl | rfl | rfl <;> rfl
set_option maxRecDepth 8000 in
theorem fx_own {o : Int32} (ho : o = 0 ∨ o = 1 ∨ o = 2) (t : Int32) (q : Int64) (ex : List pm_C) (n : Nat) (xs : List Int32) : la_I (pt_hx t q ex n xs) .iaload (some 161) ((4 : Int32) * o) = some 0 := by
  rcases ho with rfl | rfl | rfl <;> rfl
/-- what holds behind the first call -/
def fx_good (xs : List Int32) (h : pm_H) : Prop := h.1[0]? = some (.inr (0, xs.map Value.int)) ∧ h.1.length ≤ 600083 ∧ h.2 ≤ 7302232
set_option maxRecDepth 8000 in
theorem fx_goodT (t : Int32) (q : Int64) (ci : Nat) (xs : List Int32) : fx_good xs (pt_hx t q [.inl (ci, [])] 11711 xs) := ⟨rfl, by show 179 ≤ 600083; decide, by show 11711 ≤ 7302232; decide⟩
set_option maxRecDepth 8000 in
theorem fx_goodN (t : Int32) (q : Int64) (xs : List Int32) : fx_good xs (pt_hx t q [] 11705 xs) := ⟨rfl, by show 178 ≤ 600083; decide, by show 11705 ≤ 7302232; decide⟩
