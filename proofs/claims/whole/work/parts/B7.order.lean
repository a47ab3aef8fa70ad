/-! THE ORDER of places: by their paths from the beginning, the greater stamp first, a place before what is after it -/
def lx : List Nat → List Nat → Prop
  | _, [] => False
  | [], _ :: _ => True
  | a :: s, b :: t => a < b ∨ (a = b ∧ lx s t)
theorem lx_nil {s : List Nat} : ¬ lx s [] := by
  cases s <;> simp [lx]
theorem lx_irr : ∀ s : List Nat, ¬ lx s s
  | [] => lx_nil
  | a :: s => fun h => by
    rw [lx] at h
    rcases h with h | h
    · omega
    · exact lx_irr s h.2
theorem lx_tr : ∀ s t u : List Nat, lx s t → lx t u → lx s u
  | _, _, [], _, h => absurd h lx_nil
  | _, [], _ :: _, h, _ => absurd h lx_nil
  | [], _ :: _, _ :: _, _, _ => trivial
  | a :: s, b :: t, c :: u, h1, h2 => by
    rw [lx] at h1 h2 ⊢
    rcases h1 with h1 | h1
    · rcases h2 with h2 | h2
      · exact Or.inl (by omega)
      · exact Or.inl (by omega)
    · rcases h2 with h2 | h2
      · exact Or.inl (by omega)
      · exact Or.inr ⟨by omega, lx_tr s t u h1.2 h2.2⟩
theorem lx_tot : ∀ s t : List Nat, lx s t ∨ s = t ∨ lx t s
  | [], [] => Or.inr (Or.inl rfl)
  | [], _ :: _ => Or.inl trivial
  | _ :: _, [] => Or.inr (Or.inr trivial)
  | a :: s, b :: t => by
    rw [lx, lx]
    rcases Nat.lt_trichotomy a b with h | h | h
    · exact Or.inl (Or.inl h)
    · subst h
      rcases lx_tot s t with q | q | q
      · exact Or.inl (Or.inr ⟨rfl, q⟩)
      · subst q; exact Or.inr (Or.inl rfl)
      · exact Or.inr (Or.inr (Or.inr ⟨rfl, q⟩))
    · exact Or.inr (Or.inr (Or.inl h))
theorem lx_app : ∀ c s t : List Nat, lx (c ++ s) (c ++ t) ↔ lx s t
  | [], _, _ => Iff.rfl
  | a :: c, s, t => by
    show lx (a :: (c ++ s)) (a :: (c ++ t)) ↔ _
    rw [lx, lx_app c s t]
    constructor
    · rintro (h | h)
      · omega
      · exact h.2
    · exact fun h => Or.inr ⟨rfl, h⟩
theorem lx_pre (s : List Nat) (a : Nat) (t : List Nat) : lx s (s ++ a :: t) := by
  have := (lx_app s [] (a :: t)).mpr trivial
  rw [List.append_nil] at this
  exact this
theorem lx_dv {c s t : List Nat} {a b : Nat} (h : a < b) : lx (c ++ a :: s) (c ++ b :: t) := (lx_app c _ _).mpr (Or.inl h)
/-- one before the other: the other goes on, or they part -/
theorem lx_dec : ∀ s t : List Nat, lx s t → (∃ a u, t = s ++ a :: u) ∨ ∃ c a s' b t', s = c ++ a :: s' ∧ t = c ++ b :: t' ∧ a < b
  | _, [], h => absurd h lx_nil
  | [], b :: t, _ => Or.inl ⟨b, t, rfl⟩
  | a :: s, b :: t, h => by
    rw [lx] at h
    rcases h with h | ⟨h1, h2⟩
    · exact Or.inr ⟨[], a, s, b, t, rfl, rfl, h⟩
    · subst h1
      rcases lx_dec s t h2 with ⟨x, u, q⟩ | ⟨c, x, s', y, t', q1, q2, q3⟩
      · exact Or.inl ⟨x, u, by rw [q]; rfl⟩
      · exact Or.inr ⟨a :: c, x, s', y, t', by rw [q1]; rfl, by rw [q2]; rfl, q3⟩
/-- places with parents, marks (the lesser first) and paths -/
def Pok (par : Nat → Option Nat) (m : Nat → Nat) (P : Nat → List Nat) (L : List Nat) : Prop := (∀ x ∈ L, P x = (par x).elim [] P ++ [m x]) ∧ (∀ x ∈ L, ∀ y, par x = some y → y ∈ L ∧ m x < m y) ∧ ∀ x ∈ L, ∀ y ∈ L, m x = m y → x = y
section ORD
variable {par : Nat → Option Nat} {m : Nat → Nat} {P : Nat → List Nat} {L : List Nat} {x y p : Nat}
/-- what lies on a path is there -/
theorem pa_in (K : Pok par m P L) : ∀ (n : Nat) (s : List Nat) (x : Nat) (c : List Nat) (a : Nat), s.length = n → x ∈ L → P x = c ++ a :: s → ∃ y ∈ L, P y = c ++ [a] ∧ m y = a ∧ (s = [] → y = x) := by
  intro n
  induction n with
  | zero =>
    intro s x c a hs hx e
    have hs' : s = [] := List.length_eq_zero_iff.mp hs
    subst hs'
    refine ⟨x, hx, e, ?_, fun _ => rfl⟩
    have e2 := K.1 x hx
    rw [e] at e2
    have := (List.append_inj' e2 rfl).2
    simpa using this.symm
  | succ n ih =>
    intro s x c a hs hx e
    rcases List.eq_nil_or_concat s with h0 | ⟨s', b, hb⟩
    · rw [h0] at hs; cases hs
    · rw [List.concat_eq_append] at hb
      subst hb
      have e2 := K.1 x hx
      rw [e] at e2
      have e3 : (c ++ a :: s') ++ [b] = (par x).elim [] P ++ [m x] := by
        rw [← e2]
        simp
      have e4 := (List.append_inj' e3 rfl).1
      cases hp : par x with
      | none =>
        rw [hp] at e4
        simp at e4
      | some z =>
        rw [hp] at e4
        obtain ⟨y, h1, h2, h3, -⟩ := ih s' z c a (by simpa using hs) (K.2.1 x hx z hp).1 e4.symm
        exact ⟨y, h1, h2, h3, fun h => by simp at h⟩
/-- marks grow less along a path -/
theorem pa_le (K : Pok par m P L) : ∀ (n : Nat) (x : Nat), (P x).length = n → x ∈ L → ∀ a ∈ P x, m x ≤ a := by
  intro n
  induction n with
  | zero =>
    intro x h _ a ha
    rw [List.length_eq_zero_iff.mp h] at ha
    cases ha
  | succ n ih =>
    intro x h hx a ha
    have e := K.1 x hx
    rw [e] at ha
    rcases List.mem_append.mp ha with q | q
    · cases hp : par x with
      | none => rw [hp] at q; cases q
      | some z =>
        rw [hp] at q e
        have hl : (P z).length = n := by
          have := congrArg List.length e
          rw [h] at this
          simp at this
          exact this.symm
        have h2 := ih z hl (K.2.1 x hx z hp).1 a q
        have h3 := (K.2.1 x hx z hp).2
        omega
    · rw [List.mem_singleton.mp q]
      exact Nat.le_refl _
theorem pa_ne (K : Pok par m P L) (hx : x ∈ L) (hy : y ∈ L) (e : P x = P y) : x = y := by
  have e1 := K.1 x hx
  have e2 := K.1 y hy
  rw [e, e2] at e1
  have := (List.append_inj' e1 rfl).2
  exact K.2.2 x hx y hy (by simpa using this.symm)
/-- those behind the parent: with a lesser mark all along, they come before; the first with a greater one comes behind -/
theorem pa_bh (K : Pok par m P L) (hp : p ∉ L) (Kp : Pok par m P (p :: L)) {z : Nat} (hz : z ∈ L) (hq : ∀ q, par p = some q → lx (P q) (P z)) (h : lx (P p) (P z)) : ∃ v ∈ L, (∀ q, par p = some q → lx (P q) (P v)) ∧ (v = z ∨ lx (P v) (P z)) ∧ m p < m v := by
  have e := Kp.1 p List.mem_cons_self
  have key : ∀ c a s' b t', P p = c ++ a :: s' → P z = c ++ b :: t' → a < b → m p < b → (∀ q, par p = some q → lx (P q) (c ++ [b])) → ∃ v ∈ L, (∀ q, par p = some q → lx (P q) (P v)) ∧ (v = z ∨ lx (P v) (P z)) ∧ m p < m v := by
    intro c a s' b t' e1 e2 h1 h2 h3
    obtain ⟨v, a1, a2, a3, a4⟩ := pa_in K _ t' z c b rfl hz e2
    refine ⟨v, a1, fun q hq => by rw [a2]; exact h3 q hq, ?_, by rw [a3]; exact h2⟩
    cases t' with
    | nil => exact Or.inl (a4 rfl)
    | cons y t =>
      refine Or.inr ?_
      rw [a2, e2]
      have : c ++ b :: y :: t = (c ++ [b]) ++ y :: t := by simp
      rw [this]
      exact lx_pre _ _ _
  rcases lx_dec _ _ h with ⟨a, u, q⟩ | ⟨c, a, s', b, t', q1, q2, q3⟩
  · rw [e] at q
    have q' : P z = (par p).elim [] P ++ m p :: (a :: u) := by rw [q]; simp
    obtain ⟨v, a1, a2, a3, -⟩ := pa_in K _ (a :: u) z _ (m p) rfl hz q'
    have := Kp.2.2 v (List.mem_cons_of_mem _ a1) p List.mem_cons_self a3
    rw [this] at a1
    exact absurd a1 hp
  · rw [e] at q1
    rcases List.eq_nil_or_concat s' with h0 | ⟨s2, d, hd⟩
    · subst h0
      obtain ⟨r1, r2⟩ := List.append_inj' q1 rfl
      have r3 : m p = a := by simpa using r2
      refine key c a [] b t' (by rw [e]; exact q1) q2 q3 (by omega) (fun q hq => ?_)
      rw [hq] at r1
      have r1' : P q = c := r1
      rw [r1']
      exact lx_pre _ _ _
    · rw [List.concat_eq_append] at hd
      subst hd
      have q1' : (par p).elim [] P ++ [m p] = (c ++ a :: s2) ++ [d] := by rw [q1]; simp
      obtain ⟨r1, r2⟩ := List.append_inj' q1' rfl
      cases hpp : par p with
      | none => rw [hpp] at r1; simp at r1
      | some q0 =>
        rw [hpp] at r1
        have r1' : P q0 = c ++ a :: s2 := r1
        obtain ⟨b1, b2⟩ := Kp.2.1 p List.mem_cons_self q0 hpp
        have b3 : q0 ∈ L := by
          rcases List.mem_cons.mp b1 with g | g
          · rw [g] at b2; omega
          · exact g
        have b4 := pa_le K _ q0 rfl b3 a (by rw [r1']; simp)
        have fin := key c a (s2 ++ [d]) b t' (by rw [e]; exact q1) q2 q3 (by omega) (fun q hq => by
          rw [hpp] at hq
          cases hq
          rw [r1']
          exact lx_dv q3)
        rw [hpp] at fin
        exact fin
theorem pa_fw (K : Pok par m P L) (hp : p ∉ L) (Kp : Pok par m P (p :: L)) {z : Nat} (hz : z ∈ L) (hq : ∀ q, par p = some q → lx (P q) (P z)) (hm : ¬ m z < m p) : lx (P p) (P z) := by
  have e := Kp.1 p List.mem_cons_self
  rcases lx_tot (P p) (P z) with h | h | h
  · exact h
  · have := pa_ne Kp List.mem_cons_self (List.mem_cons_of_mem _ hz) h
    rw [this] at hp
    exact absurd hz hp
  · exfalso
    have hx : ∃ b t, P z = (par p).elim [] P ++ b :: t := by
      cases hpp : par p with
      | none =>
        have ez := K.1 z hz
        cases hzz : P z with
        | nil => rw [hzz] at ez; simp at ez
        | cons b t => exact ⟨b, t, rfl⟩
      | some q =>
        rcases lx_dec _ _ (hq q hpp) with ⟨a, u, g⟩ | ⟨c, a, s', b, t', g1, g2, g3⟩
        · exact ⟨a, u, g⟩
        · exfalso
          have e2 : P p = c ++ a :: (s' ++ [m p]) := by
            rw [e, hpp]
            show P q ++ [m p] = _
            rw [g1]
            simp
          have : lx (P p) (P z) := by
            rw [e2, g2]
            exact lx_dv g3
          exact lx_irr _ (lx_tr _ _ _ this h)
    obtain ⟨b, t, hb⟩ := hx
    have h2 : lx (b :: t) [m p] := by
      rw [e, hb] at h
      exact (lx_app _ _ _).mp h
    rw [lx] at h2
    have h3 : b < m p := by
      rcases h2 with g | g
      · exact g
      · exact absurd g.2 lx_nil
    have h4 := pa_le K _ z rfl hz b (by rw [hb]; simp)
    omega
/-- a place put in stands where it belongs -/
theorem pa_ins (K : Pok par m P L) (hp : p ∉ L) (Kp : Pok par m P (p :: L)) {H T R : List Nat} (hL : L = H ++ (T ++ R)) (hs : L.Pairwise (fun x y => lx (P x) (P y))) (hH : ∀ z ∈ H, lx (P z) (P p)) (hTq : ∀ z ∈ T ++ R, ∀ q, par p = some q → lx (P q) (P z)) (hH2 : ∀ z ∈ L, (∀ q, par p = some q → lx (P q) (P z)) → z ∈ T ++ R) (hT : ∀ z ∈ T, m z < m p) (hR : ∀ z R', R = z :: R' → ¬ m z < m p) : ((H ++ T) ++ p :: R).Pairwise (fun x y => lx (P x) (P y)) := by
  have hs' := hs
  rw [hL, List.pairwise_append] at hs'
  obtain ⟨s1, s2, s3⟩ := hs'
  rw [List.pairwise_append] at s2
  obtain ⟨s4, s5, s6⟩ := s2
  have hmem : ∀ z ∈ T ++ R, z ∈ L := fun z hz => by rw [hL]; exact List.mem_append_right _ hz
  have hTp : ∀ z ∈ T, lx (P z) (P p) := by
    intro z hz
    have hzL := hmem z (List.mem_append_left _ hz)
    rcases lx_tot (P z) (P p) with h | h | h
    · exact h
    · have := pa_ne Kp (List.mem_cons_of_mem _ hzL) List.mem_cons_self h
      rw [this] at hzL
      exact absurd hzL hp
    · exfalso
      obtain ⟨v, a1, a2, a3, a4⟩ := pa_bh K hp Kp hzL (hTq z (List.mem_append_left _ hz)) h
      have hv := hH2 v a1 a2
      have hvT : v ∈ T := by
        rcases List.mem_append.mp hv with g | g
        · exact g
        · have g2 := s6 z hz v g
          rcases a3 with q | q
          · rw [q]; exact hz
          · exact absurd (lx_tr _ _ _ g2 q) (lx_irr _)
      have := hT v hvT
      omega
  have hRp : ∀ z ∈ R, lx (P p) (P z) := by
    cases R with
    | nil => intro z hz; cases hz
    | cons v R' =>
      have hv := pa_fw K hp Kp (hmem v (List.mem_append_right _ List.mem_cons_self)) (hTq v (List.mem_append_right _ List.mem_cons_self)) (hR v R' rfl)
      intro z hz
      rcases List.mem_cons.mp hz with g | g
      · rw [g]; exact hv
      · exact lx_tr _ _ _ hv ((List.pairwise_cons.mp s5).1 z g)
  rw [List.pairwise_append]
  refine ⟨?_, List.pairwise_cons.mpr ⟨hRp, s5⟩, ?_⟩
  · rw [List.pairwise_append]
    exact ⟨s1, s4, fun x hx y hy => s3 x hx y (List.mem_append_left _ hy)⟩
  · intro x hx y hy
    rcases List.mem_cons.mp hy with g | g
    · rw [g]
      rcases List.mem_append.mp hx with q | q
      · exact hH x q
      · exact hTp x q
    · rcases List.mem_append.mp hx with q | q
      · exact s3 x q y (List.mem_append_right _ g)
      · exact s6 x q y g
end ORD
/-- the first of some: of those in L that are after a and fit, the one with the least mark -/
def chi (par : Nat → Option Nat) (m : Nat → Nat) (L : List Nat) (a : Option Nat) (b : Nat → Prop) (r : Option Nat) : Prop := match r with
  | none => ∀ z ∈ L, par z = a → ¬ b z
  | some v => v ∈ L ∧ par v = a ∧ b v ∧ ∀ z ∈ L, par z = a → b z → m v ≤ m z
section ORD2
variable {par : Nat → Option Nat} {m : Nat → Nat} {P : Nat → List Nat} {L : List Nat} {x y p : Nat}
theorem pa_par (K : Pok par m P L) {q : Option Nat} (hx : x ∈ L) (hq : ∀ z, q = some z → z ∈ L) (e : P x = q.elim [] P ++ [m x]) : par x = q := by
  have e2 := K.1 x hx
  rw [e] at e2
  have e3 := (List.append_inj' e2 rfl).1
  cases hp : par x with
  | none =>
    cases q with
    | none => rfl
    | some z =>
      rw [hp] at e3
      have := K.1 z (hq z rfl)
      have e4 : P z = [] := e3
      rw [e4] at this
      simp at this
  | some y =>
    have hy := (K.2.1 x hx y hp).1
    cases q with
    | none =>
      rw [hp] at e3
      have := K.1 y hy
      have e4 : [] = P y := e3
      rw [← e4] at this
      simp at this
    | some z =>
      rw [hp] at e3
      have e4 : P z = P y := e3
      rw [pa_ne K (hq z rfl) hy e4]
/-- the one behind x: the first that is after x -/
theorem nx_down (K : Pok par m P L) {H B : List Nat} {v : Nat} (hL : L = H ++ x :: v :: B) (hs : L.Pairwise (fun x y => lx (P x) (P y))) {a : Nat} {u : List Nat} (he : P v = P x ++ a :: u) : chi par m L (some x) (fun _ => True) (some v) := by
  have hx : x ∈ L := by rw [hL]; simp
  have hv : v ∈ L := by rw [hL]; simp
  have hno : ∀ z ∈ L, lx (P x) (P z) → z = v ∨ lx (P v) (P z) := by
    intro z hz h
    have hs' := hs
    rw [hL, List.pairwise_append, List.pairwise_cons, List.pairwise_cons] at hs'
    obtain ⟨-, ⟨s2, s3, -⟩, s5⟩ := hs'
    rw [hL] at hz
    rcases List.mem_append.mp hz with g | g
    · exact absurd (lx_tr _ _ _ h (s5 z g x List.mem_cons_self)) (lx_irr _)
    · rcases List.mem_cons.mp g with g | g
      · rw [g] at h; exact absurd h (lx_irr _)
      · rcases List.mem_cons.mp g with g | g
        · exact Or.inl g
        · exact Or.inr (s3 z g)
  obtain ⟨y, a1, a2, a3, a4⟩ := pa_in K _ u v (P x) a rfl hv he
  have hyv : y = v := by
    rcases hno y a1 (by rw [a2]; exact lx_pre _ _ _) with g | g
    · exact g
    · exfalso
      cases u with
      | nil => rw [a2, he] at g; exact lx_irr _ g
      | cons b u =>
        have e : P v = P y ++ b :: u := by rw [he, a2]; simp
        rw [e] at g
        exact lx_irr _ (lx_tr _ _ _ (lx_pre (P y) b u) g)
  subst hyv
  have hpar : par y = some x := pa_par K (q := some x) hv (fun z hz => by cases hz; exact hx) (by rw [a2, a3]; rfl)
  refine ⟨hv, hpar, trivial, fun z hz hpz _ => ?_⟩
  have ez : P z = P x ++ [m z] := by
    have := K.1 z hz
    rw [hpz] at this
    exact this
  rcases hno z hz (by rw [ez]; exact lx_pre _ _ _) with g | g
  · rw [g]; exact Nat.le_refl _
  · rw [ez, a2] at g
    have g2 := (lx_app _ _ _).mp g
    rw [lx] at g2
    rcases g2 with g2 | g2
    · omega
    · omega
/-- one step up, from y on x's path: the sibling, if there is one, or further up -/
theorem nx_up (K : Pok par m P L) {H : List Nat} {B : List Nat} (hL : L = H ++ x :: B) (hs : L.Pairwise (fun x y => lx (P x) (P y))) (hy : y ∈ L) {s : List Nat} (hxy : P x = P y ++ s) (hB : ∀ v B', B = v :: B' → ∀ u, P v ≠ P y ++ u) :
    (∃ v B', B = v :: B' ∧ chi par m L (par y) (fun z => m y < m z) (some v)) ∨ (chi par m L (par y) (fun z => m y < m z) none ∧ (par y = none → B = []) ∧ ∀ q, par y = some q → q ∈ L ∧ (∃ s', P x = P q ++ s') ∧ ∀ v B', B = v :: B' → ∀ u, P v ≠ P q ++ u) := by
  have hx : x ∈ L := by rw [hL]; simp
  have ey := K.1 y hy
  have hs' := hs
  rw [hL, List.pairwise_append, List.pairwise_cons] at hs'
  obtain ⟨-, ⟨s2, s3⟩, s5⟩ := hs'
  have hno : ∀ z ∈ L, lx (P x) (P z) → z ∈ B := by
    intro z hz h
    rw [hL] at hz
    rcases List.mem_append.mp hz with g | g
    · exact absurd (lx_tr _ _ _ h (s5 z g x List.mem_cons_self)) (lx_irr _)
    · rcases List.mem_cons.mp g with g | g
      · rw [g] at h; exact absurd h (lx_irr _)
      · exact g
  have ex : P x = (par y).elim [] P ++ m y :: s := by rw [hxy, ey]; simp
  have hsib : ∀ z ∈ L, par z = par y → m y < m z → z ∈ B := by
    intro z hz hp hm
    refine hno z hz ?_
    have ez := K.1 z hz
    rw [hp] at ez
    rw [ex, ez]
    exact lx_dv hm
  have hdn : ∀ v B' b t, B = v :: B' → P v = (par y).elim [] P ++ b :: t → chi par m L (par y) (fun z => m y < m z) (some v) := by
    intro v B' b t hb hv
    have hvB : v ∈ B := by rw [hb]; exact List.mem_cons_self
    have hvL : v ∈ L := by rw [hL]; exact List.mem_append_right _ (List.mem_cons_of_mem _ hvB)
    have hlt := s2 v hvB
    have hbm : m y < b := by
      rw [ex, hv] at hlt
      have g := (lx_app _ _ _).mp hlt
      rw [lx] at g
      rcases g with g | g
      · exact g
      · exfalso
        refine hB v B' hb t ?_
        rw [hv, ey, ← g.1]
        simp
    obtain ⟨w, a1, a2, a3, a4⟩ := pa_in K _ t v _ b rfl hvL hv
    have hwB : w ∈ B := hno w a1 (by rw [ex, a2]; exact lx_dv hbm)
    have hwv : w = v := by
      rw [hb] at hwB
      rcases List.mem_cons.mp hwB with g | g
      · exact g
      · exfalso
        have h1 := (List.pairwise_cons.mp (by rw [hb] at s3; exact s3)).1 w g
        cases t with
        | nil => rw [a2, hv] at h1; exact lx_irr _ h1
        | cons d t =>
          have e : P v = P w ++ d :: t := by rw [hv, a2]; simp
          rw [e] at h1
          exact lx_irr _ (lx_tr _ _ _ (lx_pre (P w) d t) h1)
    subst hwv
    have hpar : par w = par y := pa_par K hvL (fun z hz => (K.2.1 y hy z hz).1) (by rw [a2, a3])
    refine ⟨hvL, hpar, by show m y < m w; omega, fun z hz hpz hbz => ?_⟩
    have hzB := hsib z hz hpz hbz
    rw [hb] at hzB
    rcases List.mem_cons.mp hzB with g | g
    · rw [g]; exact Nat.le_refl _
    · have h1 := (List.pairwise_cons.mp (by rw [hb] at s3; exact s3)).1 z g
      have ez := K.1 z hz
      rw [hpz] at ez
      rw [a2, ez] at h1
      have g2 := (lx_app _ _ _).mp h1
      rw [lx] at g2
      rcases g2 with g2 | g2
      · omega
      · omega
  cases hb : B with
  | nil =>
    refine Or.inr ⟨fun z hz hp hm => ?_, fun _ => rfl, fun q hq => ⟨(K.2.1 y hy q hq).1, ⟨m y :: s, by rw [ex, hq]; rfl⟩, fun v B' h => by cases h⟩⟩
    have := hsib z hz hp hm
    rw [hb] at this
    cases this
  | cons v B' =>
    by_cases hex : ∃ b t, P v = (par y).elim [] P ++ b :: t
    · obtain ⟨b, t, hv⟩ := hex
      exact Or.inl ⟨v, B', rfl, hdn v B' b t hb hv⟩
    · have hvB : v ∈ B := by rw [hb]; exact List.mem_cons_self
      have hvL : v ∈ L := by rw [hL]; exact List.mem_append_right _ (List.mem_cons_of_mem _ hvB)
      have hvn : P v ≠ [] := by
        have := K.1 v hvL
        intro z
        rw [z] at this
        simp at this
      refine Or.inr ⟨fun z hz hp hm => ?_, fun hp => ?_, fun q hq => ⟨(K.2.1 y hy q hq).1, ⟨m y :: s, by rw [ex, hq]; rfl⟩, fun v2 B2 h u hu => ?_⟩⟩
      · have hzB := hsib z hz hp hm
        have ez := K.1 z hz
        rw [hp] at ez
        apply hex
        have hvz : P v = P z ∨ lx (P v) (P z) := by
          rw [hb] at hzB
          rcases List.mem_cons.mp hzB with g | g
          · exact Or.inl (by rw [g])
          · exact Or.inr ((List.pairwise_cons.mp (by rw [hb] at s3; exact s3)).1 z g)
        rcases hvz with g | g
        · exact ⟨m z, [], by rw [g]; exact ez⟩
        · have hxv := s2 v hvB
          rcases lx_dec _ _ hxv with ⟨a, u, g2⟩ | ⟨c, a, s', b, t', g1, g2, g3⟩
          · exact ⟨m y, s ++ a :: u, by rw [g2, ex]; simp⟩
          · rw [ex] at g1
            rw [g2, ez] at g
            rcases List.append_eq_append_iff.mp g1 with ⟨d, d1, d2⟩ | ⟨d, d1, d2⟩
            · rw [g2, d1]
              cases d with
              | nil => exact ⟨b, t', by simp⟩
              | cons d0 d => exact ⟨d0, d ++ b :: t', by simp⟩
            · cases d with
              | nil => exact ⟨b, t', by rw [g2, d1]; simp⟩
              | cons d0 d =>
                exfalso
                have d3 : a = d0 := by
                  have := congrArg List.head? d2
                  simpa using this
                rw [d1] at g
                have g' : lx (c ++ b :: t') (c ++ d0 :: (d ++ [m z])) := by
                  have e : c ++ d0 :: d ++ [m z] = c ++ d0 :: (d ++ [m z]) := by simp
                  rw [← e]
                  exact g
                have g4 := (lx_app _ _ _).mp g'
                rw [lx] at g4
                rcases g4 with g4 | g4
                · omega
                · omega
      · exfalso
        apply hex
        rw [hp]
        cases hvv : P v with
        | nil => exact absurd hvv hvn
        | cons b t => exact ⟨b, t, rfl⟩
      · cases h
        cases u with
        | nil =>
          have hxv := s2 v hvB
          rw [List.append_nil] at hu
          rw [hu, ex, hq] at hxv
          exact lx_irr _ (lx_tr _ _ _ hxv (lx_pre (P q) (m y) s))
        | cons b t => exact hex ⟨b, t, by rw [hu, hq]; rfl⟩
end ORD2
