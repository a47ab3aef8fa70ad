/-! THE REFERENCE works an office out, and is asked -/
/-- what stands in the reference's rows of cells -/
def WO (D : aD) (F : fo) (cs : List (Nat × Nat)) (S : rs_S) : Prop := CS D F cs S ∧ ∀ i, i < cs.length → S.2.2 37 i = cv (WV cs (xS (fX F 0)) (xS (fX F 1)) (KF D F S cs) cs.length i)
/-- contents of what is made -/
def KRA (D : aD) (S : rs_S) : Prop := ∀ a r, D a = some r → rk r = 6 → KR S a
section ASK
variable {D : aD} {S S' S2 : rs_S} {F : fo} {G : Nat → fo} {o i j l k c n y z : Nat} {cs : List (Nat × Nat)} {Lr Lc : List Nat} {K : kc} {fm : Bool} {ts : List (Nat × Int32)} {lev : Nat → Nat} {a1 a2 a3 : Int32}
theorem SW_of (R : RT D o F S) (W : Wd D) (Wff : Wf D o F) : SW o (xS (fX F 0)) (xS (fX F 1)) S := by
  have w0 := Wff.2.2.2.2.2.2 0 (by omega)
  have w1 := Wff.2.2.2.2.2.2 1 (by omega)
  exact ⟨Wff.1, R.2.2.1 0 (by omega), R.2.2.1 1 (by omega), w0.2.2.2.2.2, w1.2.2.2.2.2, fun x hx => LN_lt W (w0.2.1 x hx), fun x hx => LN_lt W (w1.2.1 x hx)⟩
theorem wtc_r (Wff : Wf D o F) (W : Wd D) {a : Nat} (e : wtc D F y z = some a) : ∃ r, D a = some r ∧ rk r = 6 ∧ a < 120 ∧ rrw r = some y ∧ rcl r = some z := by
  unfold wtc at e
  obtain ⟨r, h1, h2⟩ := Wff.2.2.2.1 a (List.mem_of_find?_eq_some e)
  have h3 := List.find?_some e
  unfold wrB at h3
  rw [h1, Bool.and_eq_true] at h3
  exact ⟨r, h1, h2, (W a r h1).1, by simpa using h3.1, by simpa using h3.2⟩
theorem qW_x (W : Wd D) (hT : ∀ i, i < 120 → tkn F i → AN D i) {x : Nat} (hx : x < 120) (hw : wtk D F x = true) : qW D F (rwo D x) (clo D x) x = true := by
  unfold wtk at hw
  rw [Bool.and_eq_true] at hw
  obtain ⟨r, hr⟩ := hT x hx (tkB_t.mp hw.1)
  have h6 : rk r = 6 := by
    have := hw.2
    rw [knd_e hr] at this
    simpa using this
  obtain ⟨l, m, e1, e2⟩ := (W x r hr).2.2.2.2.2.2.2.2.2.2.2.2.1 h6
  unfold qW rwo clo
  rw [hw.1, knd_e hr, hr]
  show (true && (decide (rk r = 6) && (decide (rrw r = some ((rrw r).getD 0)) && decide (rcl r = some ((rcl r).getD 0))))) = true
  rw [e1, e2]
  simp [h6]
/-- a listed cell has a write that counts -/
theorem wtc_s (R : RT D o F S) (W : Wd D) (Wff : Wf D o F) (I : OI D F) (hn : n ≤ 120) {p : Nat × Nat} (hp : p ∈ clA D F n) : ∃ a r, wtc D F p.1 p.2 = some a ∧ D a = some r ∧ rk r = 6 ∧ a < 120 := by
  unfold clA at hp
  rcases clk_mem n 0 [] p hp with e | ⟨x, h1, h2, h3, h4⟩
  · cases e
  · have hq := qW_x W R.1.2.2.2.2 (show x < 120 by omega) h3
    have hl := (I.2.2.1 p.1 p.2).1
    cases e : wtc D F p.1 p.2 with
    | none =>
      rw [e] at hl
      exact absurd ⟨(show x < 120 by omega), by rw [h4]; exact hq⟩ (hl x)
    | some a =>
      obtain ⟨r, g1, g2, g3, -⟩ := wtc_r Wff W e
      exact ⟨a, r, rfl, g1, g2, g3⟩
theorem gd_mem {i : Nat} {cs : List (Nat × Nat)} (hi : i < cs.length) : cs.getD i (0, 0) ∈ cs := by
  rw [List.getD_eq_getElem?_getD, List.getElem?_eq_getElem hi]
  exact List.getElem_mem hi
theorem KR_2 {a : Nat} (h10 : S'.2.1 10 a = S.2.1 10 a) (hr : ∀ b j, 12 ≤ b → b ≤ 15 → S'.2.1 b j = S.2.1 b j) (h : KR S a) : KR S' a := by
  unfold KR TKS at h ⊢
  rw [h10]
  rcases h with h | ⟨c, fm, ts, h1, ⟨h2, h3, h4, h5⟩, h6, h7⟩
  · exact Or.inl h
  · refine Or.inr ⟨c, fm, ts, h1, ⟨h2, h3, by rw [hr 13 c (by omega) (by omega)]; exact h4, fun j hj => by rw [hr 14 _ (by omega) (by omega), hr 15 _ (by omega) (by omega)]; exact h5 j hj⟩, by rw [hr 12 c (by omega) (by omega)]; exact h6, h7⟩
theorem KF_2 (h10 : ∀ a, S'.2.1 10 a = S.2.1 10 a) (hr : ∀ b j, 12 ≤ b → b ≤ 15 → S'.2.1 b j = S.2.1 b j) : KF D F S' cs = KF D F S cs := by
  funext i
  unfold KF
  rw [show KA S' = KA S from funext fun a => KA_2 (h10 a) hr]
/-- the contents of the listed cells -/
theorem KF_s (R : RT D o F S) (W : Wd D) (Wff : Wf D o F) (I : OI D F) (hn : n ≤ 120) (hi : i < (clA D F n).length) : ∃ a r, wtc D F ((clA D F n).getD i (0, 0)).1 ((clA D F n).getD i (0, 0)).2 = some a ∧ D a = some r ∧ rk r = 6 ∧ a < 120 ∧ KF D F S (clA D F n) i = KA S a := by
  obtain ⟨a, r, h1, h2, h3, h4⟩ := wtc_s R W Wff I hn (gd_mem hi)
  refine ⟨a, r, h1, h2, h3, h4, ?_⟩
  unfold KF
  rw [if_pos hi, h1]
  rfl
theorem CK_of (R : RT D o F S) (W : Wd D) (Wff : Wf D o F) (I : OI D F) (hn : n ≤ 120) (HK : KRA D S) (C : CS D F (clA D F n) S) : CK (KF D F S (clA D F n)) (clA D F n).length S := by
  intro i hi
  obtain ⟨a, r, h1, h2, h3, h4, h5⟩ := KF_s (S := S) R W Wff I hn hi
  have h35 := (C.2.2 i hi).2.2.2.2
  rw [h1] at h35
  refine ⟨a, h4, h35, ?_⟩
  rw [h5]
  rcases KA_e (HK a r h2 h3) with ⟨g1, g2⟩ | ⟨c, fm, ts, g1, g2, g3, g4, g5, g6, g7⟩
  · exact Or.inl ⟨g2, g1⟩
  · exact Or.inr ⟨c, fm, ts, g7, g1, g2, g3⟩
theorem KOK_of (R : RT D o F S) (W : Wd D) (Wff : Wf D o F) (I : OI D F) (hn : n ≤ 120) (HK : KRA D S) : KOK (clA D F n) Lr Lc (KF D F S (clA D F n)) := by
  intro i fm ts e
  by_cases hi : i < (clA D F n).length
  · obtain ⟨a, r, h1, h2, h3, h4, h5⟩ := KF_s (S := S) R W Wff I hn hi
    rw [h5] at e
    rcases KA_e (HK a r h2 h3) with ⟨g1, g2⟩ | ⟨c, fm', ts', g1, g2, g3, g4, g5, g6, g7⟩
    · rw [g2] at e; cases e
    · rw [g7] at e
      cases e
      refine ⟨fun t ht => ⟨?_, g4 t ht⟩, g5, fun h => ?_⟩
      · obtain ⟨j, hj, e⟩ := List.getElem_of_mem ht
        have h6 := (g2.2.2.2 j hj).2.2
        rw [List.getD_eq_getElem?_getD, List.getElem?_eq_getElem hj] at h6
        rw [← e]
        exact h6
      · obtain ⟨v, hv⟩ := g6 h
        rw [hv, dpa, dpa, dep_0 (by show ¬ (97 : Nat) = 114; omega) (fun z => by unfold isB at z; dsimp only at z; omega)]
        rfl
  · unfold KF at e
    rw [if_neg hi] at e
    cases e
theorem RT_c (h : Sc S S') (R : RT D o F S) : RT D o F S' := ⟨RO_c h R.1, by rw [h.2.1 17 _ (by omega)]; exact R.2.1, fun k hk => ⟨by rw [h.2.1 20 _ (by omega)]; exact (R.2.2.1 k hk).1, fun j hj => by rw [h.2.1 19 _ (by omega)]; exact (R.2.2.1 k hk).2 j hj⟩, fun j hj => by rw [h.2.1 18 _ (by omega)]; exact R.2.2.2 j hj⟩
theorem KRA_c (h : Sc S S') (HK : KRA D S) : KRA D S' := fun a r h1 h2 => KR_2 (h.2.1 10 a (by omega)) (fun b j _ _ => h.2.1 b j (by omega)) (HK a r h1 h2)
theorem KF_c (h : Sc S S') : KF D F S' cs = KF D F S cs := KF_2 (fun a => h.2.1 10 a (by omega)) (fun b j _ _ => h.2.1 b j (by omega))
theorem Sc_l (h : Sl S S') : Sc S S' := ⟨fun a _ _ => by rw [h.1], fun a j n => h.2.1 a j (by omega), fun a j _ _ => by rw [h.2.2]⟩
theorem Sc_w (h : Sw S S') : Sc S S' := ⟨fun a _ _ => by rw [h.1], fun a j _ => by rw [h.2.1], fun a j n1 n2 => h.2.2 a j n1 n2⟩
theorem q281 (R : RT D o F S) (W : Wd D) (hs : WS D) (Wff : Wf D o F) (I : OI D F) (HK : KRA D S) (hn : n = 120) (hC : S.1 31 = Int32.ofNat o → WO D F (clA D F n) S) : ∃ S', rf_281 (Int32.ofNat o) S = some ((), S') ∧ Sc S S' ∧ S'.1 31 = Int32.ofNat o ∧ WO D F (clA D F n) S' := by
  unfold rf_281
  by_cases q : S.1 31 = Int32.ofNat o
  · rw [if_pos q]
    exact ⟨S, rfl, Sc_refl, q, hC q⟩
  · rw [if_neg q, rbS_r]
    have s1 : Sc S (rs_setI S 31 (Int32.ofNat o)) := Sc_I (Or.inl rfl)
    obtain ⟨S3, p1, p2, p3, p4, p5⟩ := q282 (RO_c s1 R.1) W hs I hn
    have s3 := Sc_tr s1 p2
    have R3 := RT_c s3 R
    have HK3 := KRA_c s3 HK
    have w3 := SW_of R3 W Wff
    have Q3 := CK_of R3 W Wff I (by omega) HK3 p4
    have hz : LV (clA D F n).length (fun _ => 0) S3 := fun j hj => ⟨(p5 j hj).1, by show 0 < 20000; omega⟩
    obtain ⟨S6, u1, u2, u3⟩ := q284 rfl w3 p4 Q3 hz
    have s6 := Sc_tr s3 (Sc_l u2)
    have hK := KOK_of (Lr := xS (fX F 0)) (Lc := xS (fX F 1)) R3 W Wff I (show n ≤ 120 by omega) HK3
    have hP : ∀ i, i < (clA D F n).length → ∀ x ∈ dpi (clA D F n) (xS (fX F 0)) (xS (fX F 1)) (KF D F S3 (clA D F n)) i, x < (clA D F n).length := fun i _ => dpi_lt i
    have H := RJ_end hP
    obtain ⟨S9, v1, v2, v3⟩ := q281l (o := o) (D := D) (F := F) hK H ((clA D F n).length + 1) lf_N 0 S6 (by omega) (by have := p4.2.1; unfold lf_N; omega) ⟨SW_l u2 w3, CS_l u2 p4, CK_l u2 Q3, u3⟩ (fun i hi g hh => by
      rw [show S6.2.2 = S3.2.2 from u2.2.2, (p5 i hi).2]
      rcases hh with e | e | e
      · exact absurd e (Nat.not_lt_zero _)
      · exact absurd e.2 (Nat.not_lt_zero _)
      · rw [tv_no (by cases h : KF D F S3 (clA D F n) i with
          | none => rfl
          | some p => rw [h] at e; cases e)]
        rfl)
    have s9 := Sc_tr s6 (Sc_w v2)
    refine ⟨S9, ?_, s9, ?_, CS_2 v2.1 v2.2.1 (CS_l u2 p4), ?_⟩
    · rw [p1, rb_r, u1, rb_r]
      exact v1
    · rw [v2.1, u2.1, p3]
      rfl
    · rw [KF_c (Sc_tr (Sc_l u2) (Sc_w v2))]
      exact v3
theorem WO_0 {v : Int32} (h : WO D F cs S) : WO D F cs (rs_setI S 0 v) := by
  have e : KF D F (rs_setI S 0 v) cs = KF D F S cs := KF_2 (fun _ => rfl) (fun _ _ _ _ => rfl)
  unfold WO CS
  rw [e]
  exact h
theorem RT_0 {v : Int32} (h : RT D o F S) : RT D o F (rs_setI S 0 v) := h
theorem KRA_0 {v : Int32} (h : KRA D S) : KRA D (rs_setI S 0 v) := h
/-- asked: which office, row and column are meant -/
theorem q280 (R : ∀ o, o < 3 → RT D o (G o) S) (W : Wd D) (hs : WS D) (hW : ∀ o, o < 3 → Wf D o (G o)) (I : ∀ o, o < 3 → OI D (G o)) (HK : KRA D S) (hn : n = 120) (hC : ∀ o, o < 3 → S.1 31 = Int32.ofNat o → WO D (G o) (clA D (G o) n) S) : (la_ix a1 3 = none → rf_280 a1 a2 a3 S = some (-1, rs_setI S 0 1)) ∧ ∀ o, la_ix a1 3 = some o → ((la_ix a2 (xS (fX (G o) 0)).length = none ∨ la_ix a3 (xS (fX (G o) 1)).length = none) → rf_280 a1 a2 a3 S = some (-1, rs_setI S 0 2)) ∧ ∀ p q, la_ix a2 (xS (fX (G o) 0)).length = some p → la_ix a3 (xS (fX (G o) 1)).length = some q → ∃ S', rf_280 a1 a2 a3 S = some (oi (fnd (clA D (G o) n) 0 ((xS (fX (G o) 0)).getD p 0) ((xS (fX (G o) 1)).getD q 0)), S') ∧ Sc (rs_setI S 0 0) S' ∧ S'.1 31 = Int32.ofNat o ∧ WO D (G o) (clA D (G o) n) S' := by
  unfold rf_280
  rw [q237, rb_r]
  constructor
  · intro e
    rw [e]
    rfl
  · intro o e1
    obtain ⟨rfl, ho⟩ := ix_s (by omega) e1
    have w := SW_of (R o ho) W (hW o ho)
    obtain ⟨-, s0, s1, l0, l1, m0, m1⟩ := w
    have g0 : rf_239 (Int32.ofNat o) (0 : Int32) a2 S = _ := q239 (k := 0) ho (by omega) s0 l0
    have g1 : rf_239 (Int32.ofNat o) (1 : Int32) a3 S = _ := q239 (k := 1) ho (by omega) s1 l1
    rw [e1]
    show (_ → rb (rf_239 (Int32.ofNat o) (0 : Int32) a2 S) _ = _) ∧ _
    rw [g0, rb_r]
    constructor
    · intro h
      rcases h with e | e
      · rw [e]; rfl
      · cases e2 : la_ix a2 (xS (fX (G o) 0)).length with
        | none => rfl
        | some p =>
          show rb (rf_239 (Int32.ofNat o) (1 : Int32) a3 S) _ = _
          rw [g1, rb_r, e]
          rfl
    · intro p q e2 e3
      obtain ⟨rfl, hp⟩ := ix_s (by omega) e2
      obtain ⟨rfl, hq⟩ := ix_s (by omega) e3
      have s0' : Sc S (rs_setI S 0 0) ∨ True := Or.inr trivial
      obtain ⟨S', u1, u2, u3, u4⟩ := q281 (S := rs_setI S 0 0) (RT_0 (R o ho)) W hs (hW o ho) (I o ho) (KRA_0 HK) hn (fun e => WO_0 (hC o ho e))
      have R' := RT_c u2 (RT_0 (v := 0) (R o ho))
      obtain ⟨-, t0, t1, -⟩ := SW_of R' W (hW o ho)
      have k0 : rf_242 (Int32.ofNat o) (0 : Int32) (Int32.ofNat p) S' = _ := q242 (k := 0) ho (by omega) t0 l0 hp
      have k1 : rf_242 (Int32.ofNat o) (1 : Int32) (Int32.ofNat q) S' = _ := q242 (k := 1) ho (by omega) t1 l1 hq
      refine ⟨S', ?_, u2, u3, u4⟩
      rw [e2]
      show rb (rf_239 (Int32.ofNat o) (1 : Int32) (Int32.ofNat q) S) _ = _
      rw [g1, rb_r, e3]
      show r280_41 (Int32.ofNat o) (Int32.ofNat p) (Int32.ofNat q) 0 S = _
      unfold r280_41
      rw [rbS_r, set0, if_pos (by decide), u1, rb_r, k0, rb_r, k1, rb_r, q283 u4.1 (m0 _ (gl_mem hp)) (m1 _ (gl_mem hq)), rb_r]
end ASK
