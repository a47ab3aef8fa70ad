/-! CONTENTS: a tree of parts, and the reference's row of them -/
def kcB : List (Nat × Nat) := [(15, 115), (16, 110), (17, 109)]
def kcT : List (Nat × Nat) := [(11, 43), (12, 45), (13, 42), (14, 47)]
/-- how wide a part may be written -/
def ndg (m : Nat) : Nat := if m < 10 then 1 else if m < 100 then 2 else if m < 1000 then 3 else if m < 10000 then 4 else if m < 100000 then 5 else 6
def nwt (v : Int32) : Nat := ndg (v.toInt.natAbs / 10000) + (if v.toInt.natAbs % 10000 = 0 then 0 else 5) + (if v.toInt < 0 then 1 else 0)
def twt (t : Nat × Int32) : Nat := if t.1 = 97 then nwt t.2 else if t.1 = 114 then 4 else if t.1 = 115 ∨ t.1 = 110 ∨ t.1 = 109 then 12 else 3
def wgt (ts : List (Nat × Int32)) : Nat := (ts.map twt).sum
def prt (M : aM) (A : ah) (D : aD) : Nat → Nat → List (Nat × Int32) → Prop
  | 0, _, _ => False
  | n + 1, p, ts => 178 ≤ p ∧ ((∃ v : Int32, A.1 p = ac_c (.inl (9, [.ref 8, .null, .null, .long v.toInt64, .null, .null, .null, .null])) ∧ (ts = [(97, v)] ∧ -1000000000 ≤ v.toInt ∧ v.toInt ≤ 1000000000)) ∨ (∃ y z, LN D y ∧ LN D z ∧ lkd D y = 0 ∧ lkd D z = 1 ∧ A.1 p = ac_c (.inl (9, [.ref 9, .null, .null, .long 0, .ref (M 1 y), .ref (M 1 z), .null, .null])) ∧ ts = [(114, Int32.ofNat (y + 128 * z))]) ∨ (∃ kc cd y z y2 z2, (kc, cd) ∈ kcB ∧ LN D y ∧ LN D z ∧ LN D y2 ∧ LN D z2 ∧ lkd D y = 0 ∧ lkd D z = 1 ∧ lkd D y2 = 0 ∧ lkd D z2 = 1 ∧ A.1 p = ac_c (.inl (9, [.ref kc, .null, .null, .long 0, .ref (M 1 y), .ref (M 1 z), .ref (M 1 y2), .ref (M 1 z2)])) ∧ ts = [(cd, Int32.ofNat (y + 128 * z + 16384 * (y2 + 128 * z2)))]) ∨ (∃ q t, A.1 p = ac_c (.inl (9, [.ref 10, .null, .ref q, .long 0, .null, .null, .null, .null])) ∧ prt M A D n q t ∧ ts = t ++ [(126, 0)]) ∨ ∃ kc cd q1 q2 t1 t2, (kc, cd) ∈ kcT ∧ A.1 p = ac_c (.inl (9, [.ref kc, .ref q1, .ref q2, .long 0, .null, .null, .null, .null])) ∧ prt M A D n q1 t1 ∧ prt M A D n q2 t2 ∧ ts = t1 ++ t2 ++ [(cd, 0)])
/-- a content: none, a number, or a formula -/
def cte (M : aM) (A : ah) (D : aD) (S : rs_S) (x : Option Nat) (c : Int32) : Prop := (x = none ∧ c = -1) ∨ ∃ p id ts, x = some p ∧ AN D id ∧ c = Int32.ofNat id ∧ (ts.length ≤ 20 ∧ wgt ts ≤ 60) ∧ S.2.1 13 id = Int32.ofNat ts.length ∧ (∀ j, j < ts.length → S.2.1 14 (20 * id + j) = Int32.ofNat (ts.getD j (0, 0)).1 ∧ S.2.1 15 (20 * id + j) = (ts.getD j (0, 0)).2) ∧ ((S.2.1 12 id = 0 ∧ (∃ v, ts = [(97, v)]) ∧ prt M A D 1 p ts) ∨ (S.2.1 12 id = 1 ∧ 178 ≤ p ∧ ∃ q, A.1 p = ac_c (.inl (9, [.ref 7, .null, .ref q, .long 0, .null, .null, .null, .null])) ∧ prt M A D 22 q ts))
def CTT (M : aM) (A : ah) (D : aD) (S : rs_S) : Prop := ∀ i r, D i = some r → rk r = 6 → cte M A D S (rct r) (S.2.1 10 i) ∧ cte M A D S (rcb r) (S.2.1 11 i)
section CNT
variable {A A' : ah} {h : pm_H} {M M' : aM} {D : aD} {S S' : rs_S} {i j k n p : Nat} {r : rc} {Y : List Nat} {x : Option Nat} {c : Int32}
theorem prt_k (R : ar A h) (s : st A A' Y k j) (hY : ∀ x ∈ Y, x < 178) (g : Mag M M' D) (hD : D i = none) : ∀ n p ts, prt M A D n p ts → prt M' A' (up D i (some r)) n p ts := by
  intro n
  induction n with
  | zero => intro p ts h; exact h
  | succ n ih =>
    intro p ts ⟨hp, hh⟩
    have nm : p ∉ Y := fun z => by have := hY p z; omega
    have gl : ∀ l, LN D l → M' 1 l = M 1 l := fun l hl => g 1 l (LN_AN hl)
    have lk : ∀ l, LN D l → lkd (up D i (some r)) l = lkd D l := fun l hl => lkd_u (ne_D hD (LN_AN hl))
    refine ⟨hp, ?_⟩
    rcases hh with ⟨v, e, t⟩ | ⟨y, z, h1, h2, h3, h4, e, t⟩ | ⟨kc, cd, y, z, y2, z2, hm, h1, h2, h3, h4, h5, h6, h7, h8, e, t⟩ | ⟨q, t', e, h1, t⟩ | ⟨kc, cd, q1, q2, t1, t2, hm, e, h1, h2, t⟩
    · exact Or.inl ⟨v, st_c s R e (by intro q; cases q) nm, t⟩
    · refine Or.inr (Or.inl ⟨y, z, LN_up hD h1, LN_up hD h2, by rw [lk y h1]; exact h3, by rw [lk z h2]; exact h4, ?_, t⟩)
      rw [gl y h1, gl z h2]
      exact st_c s R e (by intro q; cases q) nm
    · refine Or.inr (Or.inr (Or.inl ⟨kc, cd, y, z, y2, z2, hm, LN_up hD h1, LN_up hD h2, LN_up hD h3, LN_up hD h4, by rw [lk y h1]; exact h5, by rw [lk z h2]; exact h6, by rw [lk y2 h3]; exact h7, by rw [lk z2 h4]; exact h8, ?_, t⟩))
      rw [gl y h1, gl z h2, gl y2 h3, gl z2 h4]
      exact st_c s R e (by intro q; cases q) nm
    · exact Or.inr (Or.inr (Or.inr (Or.inl ⟨q, t', st_c s R e (by intro q; cases q) nm, ih q t' h1, t⟩)))
    · exact Or.inr (Or.inr (Or.inr (Or.inr ⟨kc, cd, q1, q2, t1, t2, hm, st_c s R e (by intro q; cases q) nm, ih q1 t1 h1, ih q2 t2 h2, t⟩)))
theorem prt_s (R : ar A h) (s : st A A' Y k j) (hY : ∀ x ∈ Y, x < 178) : ∀ n p ts, prt M A D n p ts → prt M A' D n p ts := by
  intro n
  induction n with
  | zero => intro p ts h; exact h
  | succ n ih =>
    intro p ts ⟨hp, hh⟩
    have nm : p ∉ Y := fun z => by have := hY p z; omega
    refine ⟨hp, ?_⟩
    rcases hh with ⟨v, e, t⟩ | ⟨y, z, h1, h2, h3, h4, e, t⟩ | ⟨kc, cd, y, z, y2, z2, hm, h1, h2, h3, h4, h5, h6, h7, h8, e, t⟩ | ⟨q, t', e, h1, t⟩ | ⟨kc, cd, q1, q2, t1, t2, hm, e, h1, h2, t⟩
    · exact Or.inl ⟨v, st_c s R e (by intro q; cases q) nm, t⟩
    · exact Or.inr (Or.inl ⟨y, z, h1, h2, h3, h4, st_c s R e (by intro q; cases q) nm, t⟩)
    · exact Or.inr (Or.inr (Or.inl ⟨kc, cd, y, z, y2, z2, hm, h1, h2, h3, h4, h5, h6, h7, h8, st_c s R e (by intro q; cases q) nm, t⟩))
    · exact Or.inr (Or.inr (Or.inr (Or.inl ⟨q, t', st_c s R e (by intro q; cases q) nm, ih q t' h1, t⟩)))
    · exact Or.inr (Or.inr (Or.inr (Or.inr ⟨kc, cd, q1, q2, t1, t2, hm, st_c s R e (by intro q; cases q) nm, ih q1 t1 h1, ih q2 t2 h2, t⟩)))
/-- contents stay: cells, and the rows of those that are made -/
theorem cte_s (R : ar A h) (s : st A A' Y k j) (hY : ∀ x ∈ Y, x < 178) (hS : ∀ a j, 12 ≤ a → a ≤ 15 → S'.2.1 a j = S.2.1 a j) (C : cte M A D S x c) : cte M A' D S' x c := by
  rcases C with C | ⟨p, id, ts, h1, h2, h3, h4, h5, h6, h7⟩
  · exact Or.inl C
  · refine Or.inr ⟨p, id, ts, h1, h2, h3, h4, by rw [hS 13 id (by omega) (by omega)]; exact h5, fun j hj => by rw [hS 14 _ (by omega) (by omega), hS 15 _ (by omega) (by omega)]; exact h6 j hj, ?_⟩
    rw [hS 12 id (by omega) (by omega)]
    rcases h7 with ⟨g1, g2, g3⟩ | ⟨g1, g2, q, g3, g4⟩
    · exact Or.inl ⟨g1, g2, prt_s R s hY 1 p ts g3⟩
    · exact Or.inr ⟨g1, g2, q, st_c s R g3 (by intro q; cases q) (fun z => by have := hY p z; omega), prt_s R s hY 22 q ts g4⟩
theorem cte_k (R : ar A h) (s : st A A' Y k j) (hY : ∀ x ∈ Y, x < 178) (g : Mag M M' D) (hD : D i = none) (hS : ∀ a j, 12 ≤ a → a ≤ 15 → S'.2.1 a j = S.2.1 a j) (C : cte M A D S x c) : cte M' A' (up D i (some r)) S' x c := by
  rcases C with C | ⟨p, id, ts, h1, h2, h3, h4, h5, h6, h7⟩
  · exact Or.inl C
  · refine Or.inr ⟨p, id, ts, h1, AN_up hD h2, h3, h4, by rw [hS 13 id (by omega) (by omega)]; exact h5, fun j hj => by rw [hS 14 _ (by omega) (by omega), hS 15 _ (by omega) (by omega)]; exact h6 j hj, ?_⟩
    rw [hS 12 id (by omega) (by omega)]
    rcases h7 with ⟨g1, g2, g3⟩ | ⟨g1, g2, q, g3, g4⟩
    · exact Or.inl ⟨g1, g2, prt_k R s hY g hD 1 p ts g3⟩
    · exact Or.inr ⟨g1, g2, q, st_c s R g3 (by intro q; cases q) (fun z => by have := hY p z; omega), prt_k R s hY g hD 22 q ts g4⟩
end CNT
