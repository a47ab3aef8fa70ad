/-! THE CLASS'S CALCULATOR: positions, cells, what is looked at -/
section CPO
variable {D : aD} {X : ax} {F : fo} {k l x i : Nat} {L : List Nat}
theorem od_nm : ∀ (L : List Nat) (i l : Nat), l ∉ L → od L i (some l) = none
  | [], _, _, _ => rfl
  | a :: L, i, l, h => by
    rw [od, if_neg (fun e => h (by rw [Option.some.inj e]; exact List.mem_cons_self))]
    exact od_nm L (i + 1) l (fun e => h (List.mem_cons_of_mem _ e))
theorem od_a1 : ∀ (L : List Nat) (i x l : Nat), l ∈ L → od (L ++ [x]) i (some l) = od L i (some l)
  | [], _, _, _, h => by cases h
  | a :: L, i, x, l, h => by
    rw [List.cons_append, od, od]
    by_cases e : some a = some l
    · rw [if_pos e, if_pos e]
    · rw [if_neg e, if_neg e]
      rcases List.mem_cons.mp h with q | q
      · exact absurd (by rw [q]) e
      · exact od_a1 L (i + 1) x l q
theorem od_a2 : ∀ (L : List Nat) (i x l : Nat), l ∉ L → od (L ++ [x]) i (some l) = if x = l then some (i + L.length) else none
  | [], i, x, l, _ => by
    show (if some x = some l then some i else none) = _
    by_cases e : x = l
    · rw [if_pos (by rw [e]), if_pos e]; rfl
    · rw [if_neg (fun q => e (Option.some.inj q)), if_neg e]
  | a :: L, i, x, l, h => by
    rw [List.cons_append, od, if_neg (fun e => h (by rw [Option.some.inj e]; exact List.mem_cons_self)), od_a2 L (i + 1) x l (fun e => h (List.mem_cons_of_mem _ e)), List.length_cons, show i + 1 + L.length = i + (L.length + 1) by omega]
theorem shl_pos (D : aD) (X : ax) : ∀ (L : List Nat) (s : List Nat × (Nat → Int32)), L.Nodup → (∀ p ∈ L, ∀ l ∈ s.1, plc D X l ≠ some p) → (∀ l, s.2 l = oi (od s.1 0 (some l))) → s.1.Nodup → (∀ l, (shl D X L s).2 l = oi (od (shl D X L s).1 0 (some l))) ∧ (shl D X L s).1.Nodup
  | [], s, _, _, h3, h4 => ⟨h3, h4⟩
  | p :: L, s, h1, h2, h3, h4 => by
    have hp := List.nodup_cons.mp h1
    show (∀ l, (shl D X L (shs D X s p)).2 l = oi (od (shl D X L (shs D X s p)).1 0 (some l))) ∧ (shl D X L (shs D X s p)).1.Nodup
    unfold shs
    by_cases e : plc D X (lnp D p) = some p ∧ thr D X (lnp D p) = true
    · rw [if_pos e]
      have hx : lnp D p ∉ s.1 := fun z => h2 p List.mem_cons_self _ z e.1
      refine shl_pos D X L _ hp.2 (fun q hq l hl => ?_) (fun l => ?_) ?_
      · rcases List.mem_append.mp hl with z | z
        · exact h2 q (List.mem_cons_of_mem _ hq) l z
        · have : l = lnp D p := by simpa using z
          rw [this, e.1]
          intro z2
          exact hp.1 (by rw [Option.some.inj z2]; exact hq)
      · show up s.2 (lnp D p) (Int32.ofNat s.1.length) l = oi (od (s.1 ++ [lnp D p]) 0 (some l))
        by_cases z : l = lnp D p
        · rw [z, up_e, od_a2 _ _ _ _ hx, if_pos rfl, Nat.zero_add]
          rfl
        · rw [up_n z, h3 l]
          by_cases z2 : l ∈ s.1
          · rw [od_a1 _ _ _ _ z2]
          · rw [od_a2 _ _ _ _ z2, if_neg (fun q => z q.symm), od_nm _ _ _ z2]
      · rw [List.nodup_append]
        refine ⟨h4, by simp, fun a ha b hb => ?_⟩
        have : b = lnp D p := by simpa using hb
        rw [this]
        intro z
        exact hx (z ▸ ha)
    · rw [if_neg e]
      exact shl_pos D X L s hp.2 (fun q hq => h2 q (List.mem_cons_of_mem _ hq)) h3 h4
theorem xA_pos (I : OI D F) (hk : k < 2) : (∀ l, xA (fX F k) l = oi (pos (xS (fX F k)) l)) ∧ (xS (fX F k)).Nodup := by
  obtain ⟨x1, x2, x3, x4⟩ := I.2.2.2 k hk
  have h := shl_pos D (fX F k) (xO (fX F k)) ([], fun _ => -1) x1.2.2 (fun p _ l hl => by cases hl) (fun l => rfl) List.nodup_nil
  rw [x3, x4]
  exact h
theorem pos_g (hn : L.Nodup) (hi : i < L.length) : pos L (L.getD i 0) = some i := by
  obtain ⟨j, hj⟩ := od_in L 0 (L.getD i 0) (gl_mem hi)
  obtain ⟨A, B, h1, h2⟩ := od_dec L 0 _ j hj
  have h3 : j < L.length := by rw [h1]; simp; omega
  have h4 : L.getD j 0 = L.getD i 0 := by
    conv => lhs; rw [h1]
    have : j = A.length := by omega
    rw [this]
    simp [List.getD_eq_getElem?_getD]
  have h5 : j = i := by
    rw [List.getD_eq_getElem?_getD, List.getD_eq_getElem?_getD, List.getElem?_eq_getElem h3, List.getElem?_eq_getElem hi] at h4
    exact (List.getElem_inj hn).mp h4
  subst h5
  exact hj
theorem pos_d {p : Nat} (e : pos L l = some p) : L.getD p 0 = l := by
  obtain ⟨A, B, h1, h2⟩ := od_dec L 0 l p e
  have : p = A.length := by omega
  rw [h1, this]
  simp [List.getD_eq_getElem?_getD]
end CPO
/-- the calculator: cells, results, which are settled, whether early -/
def CCi (M : aM) (A : ah) (o : Nat) (E : List Nat) (fr : Nat → Int64) (fs : Nat → Bool) (ev : Int32) : Prop := A.1 87 = ac_c (.inl (2, [.ref 88, .ref 89, .ref 90, .int (Int32.ofNat E.length), .ref (94 + 17 * o + 5), .ref (94 + 17 * o + 11), .int ev])) ∧ (∃ g : Nat → Option Nat, A.1 88 = ac_c (.inr (11, ra 120 (fun i => tm_r (g i)))) ∧ ∀ i, i < E.length → g i = some (M 0 (E.getD i 0))) ∧ A.1 89 = ac_c (.inr (1, ra 120 (fun i => .long (fr i)))) ∧ A.1 90 = ac_c (.inr (3, ra 120 (fun i => .int (if fs i = true then 1 else 0))))
def CC (M : aM) (A : ah) (o : Nat) (E : List Nat) (fr : Nat → Int64) (fs : Nat → Bool) (e : Bool) : Prop := CCi M A o E fr fs (if e = true then 1 else 0)
abbrev CU (A A' : ah) : Prop := st A A' [87, 88, 89, 90] 0 0
/-- the acts of the cells -/
def EA (D : aD) (E : List Nat) : Prop := E.length ≤ 120 ∧ ∀ a ∈ E, ∃ r, D a = some r ∧ rk r = 6
def prs (D : aD) (E : List Nat) : List (Nat × Nat) := E.map (fun a => (rwo D a, clo D a))
section CLK
variable {A A' A2 : ah} {h : pm_H} {M : aM} {D : aD} {X : ax} {F : fo} {c o i j l k p y z y2 z2 a : Nat} {r : rc} {w : Option Nat} {E L : List Nat} {fr : Nat → Int64} {fs : Nat → Bool} {e : Bool}
theorem CU_refl : CU A A := st_w st_refl (fun b hb => by cases hb) (Nat.le_refl _) (Nat.le_refl _)
theorem CU_tr (h1 : CU A A') (h2 : CU A' A2) : CU A A2 := st_w (st_trans h1 h2) (fun b hb => by rcases List.mem_append.mp hb with q | q <;> exact q) (Nat.le_refl _) (Nat.le_refl _)
theorem CU_set {x : Nat} {y0 y1 : pm_C} (e : A.1 x = ac_c y0) (hx : x = 87 ∨ x = 88 ∨ x = 89 ∨ x = 90) : CU A (ah_set A x (ac_c y1)) := st_w (st_set e) (fun b hb => by
  have : b = x := by simpa using hb
  rw [this]
  rcases hx with q | q | q | q <;> rw [q] <;> simp) (Nat.le_refl _) (Nat.le_refl _)
theorem CU_m {x : Nat} (hx : x ∈ [87, 88, 89, 90]) : 87 ≤ x ∧ x ≤ 90 := by
  simp at hx
  omega
/-- the world, as the calculator reads it -/
def CX (M : aM) (A : ah) (D : aD) (o : Nat) (F : fo) : Prop := Cf M A o F ∧ Cd M A D ∧ Cb A
theorem CX_u (R : ar A h) (Q : CX M A D o F) (s : CU A A') : CX M A' D o F := ⟨Cf_st Q.1 R s (fun x hx => by have := CU_m hx; omega), Cd_st Q.2.1 R s (fun x hx => by have := CU_m hx; omega), Cb_st Q.2.2 R s (fun x hx => by have := CU_m hx; omega)⟩
theorem c190 (R : ar A h) (C : Cx M A c X) (V : Cd M A D) (W : Wd D) (hl : LN D l) : ll_190 (some c) (some (M 1 l)) h = rtI (xA X l) h := by
  obtain ⟨c0, -, -, -, -, c5⟩ := C
  obtain ⟨r, -, -, hr⟩ := LN_c V hl
  have hl2 := LN_lt W hl
  unfold ll_190
  dsimp only
  rw [hc_R (o := some (c + 5)) (ar_c R c0) rfl, Option.bind_some, hc_I (ar_c R hr) rfl, Option.bind_some, hc_ldI (ar_c R c5) rfl (by omega) (ra_get hl2)]
  rfl
/-- positions of rows and columns -/
theorem cpos (R : ar A h) (Q : CX M A D o F) (W : Wd D) (I : OI D F) : (∀ l, LN D l → ll_190 (some (94 + 17 * o + 5)) (some (M 1 l)) h = rtI (oi (pos (xS (fX F 0)) l)) h) ∧ (∀ l, LN D l → ll_190 (some (94 + 17 * o + 11)) (some (M 1 l)) h = rtI (oi (pos (xS (fX F 1)) l)) h) ∧ lc_of h (some (94 + 17 * o + 5)) = some 5 ∧ lc_of h (some (94 + 17 * o + 11)) = some 5 := by
  have C0 := Q.1.2.2.2.2.2 0 (by omega)
  have C1 := Q.1.2.2.2.2.2 1 (by omega)
  refine ⟨fun l hl => ?_, fun l hl => ?_, hc_lc (ar_c R C0.1), hc_lc (ar_c R C1.1)⟩
  · rw [← (xA_pos I (k := 0) (by omega)).1 l]
    exact c190 R C0 Q.2.1 W hl
  · rw [← (xA_pos I (k := 1) (by omega)).1 l]
    exact c190 R C1 Q.2.1 W hl
theorem oi_m1 {x : Option Nat} (hx : ∀ i, x = some i → i < 2 ^ 31) : (oi x = (-1 : Int32)) ↔ x = none := by
  cases x with
  | none => exact ⟨fun _ => rfl, fun _ => rfl⟩
  | some i =>
    refine ⟨fun e => ?_, fun e => by cases e⟩
    have h1 := congrArg Int32.toInt e
    have h2 : (oi (some i)).toInt = (i : Int) := Int32.toInt_ofNat_of_lt (hx i rfl)
    have h3 : (-1 : Int32).toInt = -1 := rfl
    rw [h2, h3] at h1
    omega
theorem pos_31 (hL : L.length ≤ 120) : ∀ i, pos L l = some i → i < 2 ^ 31 := fun i e => by have := pos_lt e; omega
theorem c189 (R : ar A h) (Q : CX M A D o F) (W : Wd D) (Wff : Wf D o F) (I : OI D F) {ev : Int32} (K : CCi M A o E fr fs ev) (hy : LN D y) (hz : LN D z) : ll_189 (some 87) (some (M 1 y)) (some (M 1 z)) h = rtI (if shB (xS (fX F 0)) (xS (fX F 1)) y z = true then 1 else 0) h := by
  obtain ⟨p0, p1, l0, l1⟩ := cpos R Q W I
  have k0 := K.1
  have w0 := (Wff.2.2.2.2.2.2 0 (by omega)).2.2.2.2.2
  have w1 := (Wff.2.2.2.2.2.2 1 (by omega)).2.2.2.2.2
  unfold ll_189 shB
  rw [hc_R (o := some (94 + 17 * o + 5)) (ar_c R k0) rfl, Option.bind_some, if_pos l0, p0 y hy, rt_I]
  cases e1 : pos (xS (fX F 0)) y with
  | none => rw [if_pos (show oi none = (-1 : Int32) from rfl)]; rfl
  | some p =>
    rw [if_neg (fun q => by have := (oi_m1 (x := some p) (fun i hi => pos_31 w0 i (e1.trans hi))).mp q; cases this), hc_R (o := some (94 + 17 * o + 11)) (ar_c R k0) rfl, Option.bind_some, if_pos l1, p1 z hz, rt_I]
    cases e2 : pos (xS (fX F 1)) z with
    | none => rw [if_pos (show oi none = (-1 : Int32) from rfl)]; rfl
    | some q => rw [if_neg (fun q2 => by have := (oi_m1 (x := some q) (fun i hi => pos_31 w1 i (e2.trans hi))).mp q2; cases this)]; rfl
theorem act_wr (W : Wd D) (hi : D a = some r) (h6 : rk r = 6) : rrw r = some (rwo D a) ∧ rcl r = some (clo D a) ∧ LN D (rwo D a) ∧ LN D (clo D a) := by
  have w1 := W a r hi
  obtain ⟨l, m, e1, e2⟩ := w1.2.2.2.2.2.2.2.2.2.2.2.2.1 h6
  have f1 : rwo D a = l := by unfold rwo; rw [hi, Option.bind_some, e1]; rfl
  have f2 : clo D a = m := by unfold clo; rw [hi, Option.bind_some, e2]; rfl
  rw [f1, f2]
  exact ⟨e1, e2, w1.2.2.2.2.2.2.2.2.2.1 l e1, w1.2.2.2.2.2.2.2.2.2.2.1 m e2⟩
/-- the act of a cell -/
theorem cell_rd (R : ar A h) {ev : Int32} (K : CCi M A o E fr fs ev) (hE : E.length ≤ 120) (hj : j < E.length) : lf_R h (some 87) [2, 0] = some (some 88) ∧ la_R h .aaload (some 88) (Int32.ofNat j) = some (some (M 0 (E.getD j 0))) := by
  obtain ⟨k0, ⟨g, k1, k2⟩, -⟩ := K
  refine ⟨hc_R (o := some 88) (ar_c R k0) rfl, ?_⟩
  rw [← k2 j hj]
  exact hc_ldR (ar_c R k1) rfl (by omega) (ra_get (f := fun i => tm_r (g i)) (by omega))
theorem cell_n (R : ar A h) {ev : Int32} (K : CCi M A o E fr fs ev) : lf_I h (some 87) [2, 3] = some (Int32.ofNat E.length) ∧ lc_of h (some 87) = some 2 := ⟨hc_I (ar_c R K.1) rfl, hc_lc (ar_c R K.1)⟩
theorem el_mem {E : List Nat} (hj : j < E.length) : E.getD j 0 ∈ E := gl_mem hj
theorem c196l (R : ar A h) (Q : CX M A D o F) (W : Wd D) {ev : Int32} (K : CCi M A o E fr fs ev) (hE : EA D E) (hy : LN D y) (hz : LN D z) : ∀ n m j, j + n = E.length → n < m → l196_2 m (some 87) (some (M 1 y)) (some (M 1 z)) (Int32.ofNat j) h = rtI (oi (fnd (prs D (E.drop j)) j y z)) h := by
  obtain ⟨hE1, hE2⟩ := hE
  obtain ⟨n0, n1⟩ := cell_n R K
  intro n
  induction n with
  | zero =>
    intro m j h1 h2
    cases m with
    | zero => omega
    | succ m =>
      rw [l196_2]
      dsimp only
      rw [n0, Option.bind_some, if_pos ((i32_len (by omega) (by omega)).mpr (by omega)), List.drop_of_length_le (by omega)]
      rfl
  | succ n ih =>
    intro m j h1 h2
    cases m with
    | zero => omega
    | succ m =>
      have hj : j < E.length := by omega
      have n4 : Int32.ofNat j + (1 : Int32) = Int32.ofNat (j + 1) := i32_add j 1
      obtain ⟨r, hr, h6⟩ := hE2 _ (el_mem hj)
      obtain ⟨g1, g2⟩ := cell_rd R K hE1 hj
      obtain ⟨f1, f2, -, -⟩ := act_wr W hr h6
      rw [l196_2]
      dsimp only
      rw [n0, Option.bind_some, if_neg (fun q => by have := (i32_len (by omega) (by omega)).mp q; omega), g1, Option.bind_some, g2, Option.bind_some, if_pos (hc_lc (ar_c R (Q.2.1.1 _ r hr).1)), c102 R Q.2.1 W hr hy hz, rt_I, gl_drop hj]
      unfold prs
      rw [List.map_cons, fnd]
      have hq : (rk r = 6 ∧ rrw r = some y ∧ rcl r = some z) ↔ ((rwo D (E.getD j 0), clo D (E.getD j 0)).1 = y ∧ (rwo D (E.getD j 0), clo D (E.getD j 0)).2 = z) := by
        rw [f1, f2]
        exact ⟨fun q => ⟨Option.some.inj q.2.1, Option.some.inj q.2.2⟩, fun q => ⟨h6, congrArg some q.1, congrArg some q.2⟩⟩
      by_cases q : (rwo D (E.getD j 0), clo D (E.getD j 0)).1 = y ∧ (rwo D (E.getD j 0), clo D (E.getD j 0)).2 = z
      · rw [if_pos (hq.mpr q), if_neg (by decide), if_pos q]
        rfl
      · rw [if_neg (fun q2 => q (hq.mp q2)), if_pos rfl, if_neg q, n4]
        exact ih m (j + 1) (by omega) (by omega)
theorem c196 (R : ar A h) (Q : CX M A D o F) (W : Wd D) {ev : Int32} (K : CCi M A o E fr fs ev) (hE : EA D E) (hy : LN D y) (hz : LN D z) : ll_196 (some 87) (some (M 1 y)) (some (M 1 z)) h = rtI (oi (fnd (prs D E) 0 y z)) h := by
  have := c196l R Q W K hE hy hz E.length lf_N 0 (by omega) (by have := hE.1; unfold lf_N; omega)
  rw [List.drop_zero] at this
  exact this
theorem l22 {e' : Bool} (R : ar A h) (K : CC M A o E fr fs e) (hj : j < 120) : ∃ A' h', l197_22 (some 87) (Int32.ofNat j) (if e' = true then 1 else 0) (some 87) h = rtJ (fr j) h' ∧ ar A' h' ∧ CU A A' ∧ CC M A' o E fr fs e' := by
  obtain ⟨k0, ⟨g, k1, k2⟩, k3, k4⟩ := K
  obtain ⟨h1, p1, R1⟩ := aw_P (k := 6) (t := 3) (v := .inl (if e' = true then 1 else 0)) R k0 (by omega) (show 6 < 7 by omega) (by cases e' <;> rfl)
  have e89 : ∀ y, (ah_set A 87 y).1 89 = ac_c (.inr (1, ra 120 (fun i => .long (fr i)))) := fun y => (ah_set_n (by omega)).trans k3
  have e87 : lf_R h1 (some 87) [2, 1] = some (some 89) := hc_R (o := some 89) (ar_c R1 ah_set_e) rfl
  refine ⟨_, h1, ?_, R1, CU_set k0 (Or.inl rfl), ah_set_e, ⟨g, (ah_set_n (by omega)).trans k1, k2⟩, e89 _, (ah_set_n (by omega)).trans k4⟩
  unfold l197_22
  rw [p1, Option.bind_some, e87, Option.bind_some, hc_ldJ (ar_c R1 (e89 _)) rfl (by omega) (ra_get hj)]
  rfl
theorem c197 (R : ar A h) (K : CC M A o E fr fs e) (hj : j < 120) : ∃ A' h', ll_197 (some 87) (Int32.ofNat j) h = rtJ (fr j) h' ∧ ar A' h' ∧ CU A A' ∧ CC M A' o E fr fs (e || !fs j) := by
  have K' := K
  obtain ⟨k0, -, k3, k4⟩ := K'
  unfold ll_197 l197_17
  have e6 : lf_I h (some 87) [2, 6] = some (if e = true then 1 else 0) := hc_I (ar_c R k0) rfl
  have e2 : lf_R h (some 87) [2, 2] = some (some 90) := hc_R (o := some 90) (ar_c R k0) rfl
  have e3 : la_I h .baload (some 90) (Int32.ofNat j) = some (if fs j = true then 1 else 0) := hc_ldI (ar_c R k4) rfl (by omega) (ra_get hj)
  rw [e6, Option.bind_some]
  cases e with
  | true => rw [if_neg (by decide)]; exact l22 (e' := true) R K hj
  | false =>
    rw [if_pos (by decide), e2, Option.bind_some, e3, Option.bind_some]
    cases hfs : fs j with
    | true => rw [if_neg (by decide)]; exact l22 (e' := false) R K hj
    | false => rw [if_pos (by decide)]; exact l22 (e' := true) R K hj
/-- a reference -/
theorem c194 (R : ar A h) (Q : CX M A D o F) (W : Wd D) (Wff : Wf D o F) (I : OI D F) (K : CC M A o E fr fs e) (hE : EA D E) (hy : LN D y) (hz : LN D z) {fs1 : List Value} (ep : A.1 p = ac_c (.inl (9, fs1))) (e4 : fs1[4]? = some (.ref (M 1 y))) (e5 : fs1[5]? = some (.ref (M 1 z))) : ∃ A' h', ll_194 (some 87) (some p) h = rtJ (if shB (xS (fX F 0)) (xS (fX F 1)) y z = true then (fnd (prs D E) 0 y z).elim 0 fr else 1000000002) h' ∧ ar A' h' ∧ CU A A' ∧ CC M A' o E fr fs (e || !(if shB (xS (fX F 0)) (xS (fX F 1)) y z = true then (fnd (prs D E) 0 y z).elim true fs else true)) := by
  have r4 : lf_R h (some p) [9, 4] = some (some (M 1 y)) := hc_R (o := some (M 1 y)) (ar_c R ep) e4
  have r5 : lf_R h (some p) [9, 5] = some (some (M 1 z)) := hc_R (o := some (M 1 z)) (ar_c R ep) e5
  obtain ⟨n0, n1⟩ := cell_n R K
  unfold ll_194
  rw [r4, Option.bind_some, r5, Option.bind_some, if_pos n1, c189 R Q W Wff I K hy hz, rt_I]
  by_cases hs : shB (xS (fX F 0)) (xS (fX F 1)) y z = true
  · rw [if_pos hs, if_neg (by decide), r4, Option.bind_some, r5, Option.bind_some, if_pos n1, c196 R Q W K hE hy hz, rt_I, if_pos hs, if_pos hs]
    cases hf : fnd (prs D E) 0 y z with
    | none =>
      refine ⟨A, h, ?_, R, CU_refl, ?_⟩
      · rw [if_pos (show oi none = (-1 : Int32) from rfl)]; rfl
      · show CC M A o E fr fs (e || !true)
        rw [Bool.not_true, Bool.or_false]
        exact K
    | some x =>
      have hx := fnd_lt _ 0 _ _ x hf
      have hl : (prs D E).length = E.length := by unfold prs; rw [List.length_map]
      have hE1 := hE.1
      obtain ⟨A', h', p1, R1, s1, K1⟩ := c197 R K (show x < 120 by omega)
      refine ⟨A', h', ?_, R1, s1, K1⟩
      rw [if_neg (fun q => by have := (oi_m1 (x := some x) (fun i hi => by cases hi; omega)).mp q; cases this), if_pos n1, show oi (some x) = Int32.ofNat x from rfl, p1, rt_J]
      rfl
  · rw [if_neg hs, if_pos rfl, if_neg hs, if_neg hs]
    refine ⟨A, h, rfl, R, CU_refl, ?_⟩
    rw [Bool.not_true, Bool.or_false]
    exact K
end CLK
