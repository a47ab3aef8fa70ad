/-! THE CLASS's passes: which cells are settled, and with what -/
/-- a content's parts, as the class has them -/
def PT (M : aM) (A : ah) (D : aD) (p : Nat) (fm : Bool) (ts : List (Nat × Int32)) : Prop := (fm = false ∧ prt M A D 1 p ts) ∨ (fm = true ∧ 178 ≤ p ∧ ∃ q, A.1 p = ac_c (.inl (9, [.ref 7, .null, .ref q, .long 0, .null, .null, .null, .null])) ∧ prt M A D 22 q ts)
/-- where a cell of the class stands among the reference's -/
def ixE (D : aD) (E : List Nat) (cs : List (Nat × Nat)) (j : Nat) : Nat := (fnd cs 0 (rwo D (E.getD j 0)) (clo D (E.getD j 0))).getD 0
def tsE (D : aD) (E : List Nat) (cs : List (Nat × Nat)) (K : kc) (j : Nat) : List (Nat × Int32) := ((K (ixE D E cs j)).map (·.2)).getD []
/-- what is settled is right -/
def SI (D : aD) (E : List Nat) (cs : List (Nat × Nat)) (Lr Lc : List Nat) (K : kc) (fr : Nat → Int64) (fs : Nat → Bool) : Prop := ∀ j, j < E.length → fs j = true → gdK cs Lr Lc K cs.length (ixE D E cs j) = true ∧ fr j = tv cs Lr Lc K (cs.length + 1) (ixE D E cs j)
/-- nothing more can be settled -/
def CLs (D : aD) (E : List Nat) (cs : List (Nat × Nat)) (Lr Lc : List Nat) (K : kc) (fs : Nat → Bool) : Prop := ∀ j, j < E.length → fs j = false → (dpa cs Lr Lc (tsE D E cs K j)).all (scs D E cs fs) = false
def PG (D : aD) (E : List Nat) (cs : List (Nat × Nat)) (Lr Lc : List Nat) (K : kc) (fs0 fs : Nat → Bool) (go : Bool) (j : Nat) : Prop := (∀ i, fs0 i = true → fs i = true) ∧ (go = true → ∃ i, i < E.length ∧ fs i = true ∧ fs0 i = false) ∧ (go = false → (∀ i, i < E.length → fs i = fs0 i) ∧ ∀ i, i < j → i < E.length → fs0 i = false → (dpa cs Lr Lc (tsE D E cs K i)).all (scs D E cs fs0) = false)
section PAS
variable {A A' A2 : ah} {h : pm_H} {M : aM} {D : aD} {F : fo} {S : rs_S} {o i j k p q x y z a b n m : Nat} {E L Lr Lc : List Nat} {fr f : Nat → Int64} {fs fs0 sg : Nat → Bool} {cs : List (Nat × Nat)} {K : kc} {ev : Int32} {e go : Bool} {fm : Bool} {ts : List (Nat × Int32)} {r : rc}
theorem PT_u (R : ar A h) (s : CU A A') (T : PT M A D p fm ts) : PT M A' D p fm ts := by
  have hY : ∀ x ∈ [87, 88, 89, 90], x < 178 := fun x hx => by have := CU_m hx; omega
  rcases T with ⟨h1, h2⟩ | ⟨h1, h2, q, h3, h4⟩
  · exact Or.inl ⟨h1, prt_s R s hY 1 p ts h2⟩
  · exact Or.inr ⟨h1, h2, q, st_c s R h3 (by intro g; cases g) (fun g => by have := CU_m g; omega), prt_s R s hY 22 q ts h4⟩
/-- a cell is evaluated -/
theorem c193c (R : ar A h) (Q : CX M A D o F) (H : CC M A o E fr fs e) (W : Wd D) (Wff : Wf D o F) (I : OI D F) (hE : EA D E) (hS : ES D (xS (fX F 0)) (xS (fX F 1)) E) (T : LK D (xS (fX F 0)) (xS (fX F 1)) cs K E fr fs f sg) (hp : PT M A D p fm ts) : ∃ A' h', ll_193 40 (some 87) (some p) (0 : Int32) h = rtJ (evV cs (xS (fX F 0)) (xS (fX F 1)) K f ts) h' ∧ ar A' h' ∧ CU A A' ∧ CC M A' o E fr fs (e || !(dpa cs (xS (fX F 0)) (xS (fX F 1)) ts).all sg) := by
  rcases hp with ⟨h1, h2⟩ | ⟨h1, h2, q, h3, h4⟩
  · obtain ⟨v, A', h', p1, p2, p3, p4, p5⟩ := c193 (M := M) W Wff I hE hS T 1 p ts 40 0 e A h (by omega) (by omega) R Q H h2
    have ev : evV cs (xS (fX F 0)) (xS (fX F 1)) K f ts = v := by unfold evV; rw [p5]; rfl
    rw [ev]
    exact ⟨A', h', p1, p2, p3, p4⟩
  · obtain ⟨v, A', h', p1, p2, p3, p4, p5⟩ := c193 (M := M) W Wff I hE hS T 22 q ts 39 1 e A h (by omega) (by omega) R Q H h4
    have ev : evV cs (xS (fX F 0)) (xS (fX F 1)) K f ts = v := by unfold evV; rw [p5]; rfl
    rw [ev]
    refine ⟨A', h', ?_, p2, p3, p4⟩
    obtain ⟨g1, g2, g3⟩ := kdw R Q.2.2 (k := 7) (by omega) (by omega)
    rw [show (40 : Nat) = 39 + 1 from rfl, ll_193]
    unfold lm_193
    dsimp only
    rw [if_pos (by decide), hc_R (o := some 7) (ar_c R h3) rfl, Option.bind_some, if_pos g1, g2, rt_I, g3 1 rfl, Option.bind_some, if_pos rfl, hc_R (o := some q) (ar_c R h3) rfl, Option.bind_some, if_pos (cell_n R H).2, show (0 : Int32) + 1 = Int32.ofNat 1 by decide, p1, rt_J]
theorem dep_sh {t : Nat × Int32} (ht : tkO t) (h : i ∈ dep cs Lr Lc t) (hr : Lr.Nodup) (hc : Lc.Nodup) : ∃ y z, shB Lr Lc y z = true ∧ fnd cs 0 y z = some i := by
  by_cases q1 : t.1 = 114
  · obtain ⟨y, z, hy, hz, e⟩ := ht.2.1 q1
    rw [dep_r q1 hy hz e] at h
    split at h
    · next hs => exact ⟨y, z, hs, Option.mem_toList.mp h⟩
    · cases h
  · by_cases qb : isB t.1
    · obtain ⟨y, z, y2, z2, hy, hz, hy2, hz2, e⟩ := ht.2.2 qb
      rw [dep_b qb hy hz hy2 hz2 e] at h
      split at h
      · next hs =>
        obtain ⟨s1, s2⟩ := Bool.and_eq_true .. ▸ hs
        obtain ⟨p, q, e1, e2⟩ := shB_t s1
        obtain ⟨p2, q2, e3, e4⟩ := shB_t s2
        rw [e1, e2, e3, e4] at h
        have b1 := pos_lt e1
        have b2 := pos_lt e2
        have b3 := pos_lt e3
        have b4 := pos_lt e4
        unfold rgn at h
        simp only [Option.getD_some] at h
        obtain ⟨r', c', h1, h2, h3, h4, h5⟩ := (rgr_m _ _).mp h
        refine ⟨_, _, ?_, h5⟩
        unfold shB
        rw [pos_g hr (show r' < Lr.length by omega), pos_g hc (show c' < Lc.length by omega)]
        rfl
      · cases h
    · rw [dep_0 q1 qb] at h
      cases h
theorem dpa_sh (ht : ∀ t ∈ ts, tkO t) (h : i ∈ dpa cs Lr Lc ts) (hr : Lr.Nodup) (hc : Lc.Nodup) : ∃ y z, shB Lr Lc y z = true ∧ fnd cs 0 y z = some i := by
  induction ts with
  | nil => cases h
  | cons t ts ih =>
    rw [dpa] at h
    rcases List.mem_append.mp h with e | e
    · exact dep_sh (ht t List.mem_cons_self) e hr hc
    · exact ih (fun x hx => ht x (List.mem_cons_of_mem _ hx)) e
/-- what a cell of the class is to the reference -/
theorem ixE_s (P : EP D F Lr Lc E) (N : LNK0 D E Lr Lc cs K) (hj : j < E.length) : fnd cs 0 (rwo D (E.getD j 0)) (clo D (E.getD j 0)) = some (ixE D E cs j) ∧ ixE D E cs j < cs.length ∧ (K (ixE D E cs j)).isSome = true := by
  have hpj := prs_j P hj
  cases e : fnd cs 0 (rwo D (E.getD j 0)) (clo D (E.getD j 0)) with
  | none => rw [N.1 _ _ e] at hpj; cases hpj
  | some i =>
    have hi : ixE D E cs j = i := by unfold ixE; rw [e]; rfl
    rw [hi]
    refine ⟨rfl, fnd_b e, ?_⟩
    rw [N.2 _ _ i (EP_s P (el_mem hj)) e, hpj]
    rfl
theorem tsE_s (P : EP D F Lr Lc E) (N : LNK0 D E Lr Lc cs K) (hj : j < E.length) : ∃ fm, K (ixE D E cs j) = some (fm, tsE D E cs K j) := by
  have h := (ixE_s P N hj).2.2
  unfold tsE
  cases e : K (ixE D E cs j) with
  | none => rw [e] at h; cases h
  | some p => exact ⟨p.1, rfl⟩
theorem SI_set (P : EP D F Lr Lc E) (N : LNK0 D E Lr Lc cs K) (hK : KOK cs Lr Lc K) (hj : j < E.length) (hst : (dpa cs Lr Lc (tsE D E cs K j)).all (scs D E cs fs) = true) (H : SI D E cs Lr Lc K fr fs) : gdK cs Lr Lc K cs.length (ixE D E cs j) = true ∧ evV cs Lr Lc K (fcs D E cs fr) (tsE D E cs K j) = tv cs Lr Lc K (cs.length + 1) (ixE D E cs j) := by
  obtain ⟨fm, hk⟩ := tsE_s P N hj
  have hok := hK _ _ _ hk
  have hd : ∀ i ∈ dpa cs Lr Lc (tsE D E cs K j), gdK cs Lr Lc K cs.length i = true ∧ fcs D E cs fr i = tv cs Lr Lc K (cs.length + 1) i := by
    intro i hi
    obtain ⟨y, z, hs, hf⟩ := dpa_sh (fun t ht => (hok.1 t ht).1) hi P.2.2.1 P.2.2.2.1
    have hs1 := List.all_eq_true.mp hst i hi
    have hc := (fnd_lt cs 0 _ _ i hf).2.2
    rw [Nat.sub_zero] at hc
    unfold scs at hs1
    unfold fcs
    rw [hc] at hs1 ⊢
    cases e : fnd (prs D E) 0 y z with
    | none =>
      have hkn := N.2 y z i hs hf
      rw [e] at hkn
      have hkn' : K i = none := by
        cases h : K i with
        | none => rfl
        | some p => rw [h] at hkn; cases hkn
      exact ⟨gd_0 (by unfold fmB; rw [hkn']), (tv_no hkn').symm⟩
    | some j' =>
      obtain ⟨g1, g2, g3⟩ := prs_f e
      rw [e] at hs1
      obtain ⟨u1, u2⟩ := H j' g1 hs1
      have hi' : ixE D E cs j' = i := by unfold ixE; rw [g2, g3, hf]; rfl
      rw [hi'] at u1 u2
      exact ⟨u1, u2⟩
  have hix := (ixE_s P N hj).2.1
  have g : gdK cs Lr Lc K cs.length (ixE D E cs j) = true := by
    refine gd_n (fun i _ => dpi_lt i) hix (k := cs.length + 1) ?_
    show (!fmB K (ixE D E cs j) || (dpi cs Lr Lc K (ixE D E cs j)).all (gdK cs Lr Lc K cs.length)) = true
    have : dpi cs Lr Lc K (ixE D E cs j) = dpa cs Lr Lc (tsE D E cs K j) := by unfold dpi; rw [hk]
    rw [this, List.all_eq_true.mpr (fun i hi => (hd i hi).1), Bool.or_true]
  refine ⟨g, ?_⟩
  rw [tv_eq hK g hk]
  exact evV_cg (fun t ht => (hok.1 t ht).1) (fun i hi => (hd i hi).2)
theorem scs_cg (h : ∀ j, j < E.length → fs j = fs0 j) : scs D E cs fs = scs D E cs fs0 := by
  funext i
  unfold scs
  cases e : fnd (prs D E) 0 (cs.getD i (0, 0)).1 (cs.getD i (0, 0)).2 with
  | none => rfl
  | some j => exact h j (prs_f e).1
/-- the contents of the class's cells -/
def PTE (M : aM) (A : ah) (D : aD) (E : List Nat) (cs : List (Nat × Nat)) (K : kc) : Prop := ∀ j, j < E.length → ∃ r p fm, D (E.getD j 0) = some r ∧ rct r = some p ∧ K (ixE D E cs j) = some (fm, tsE D E cs K j) ∧ PT M A D p fm (tsE D E cs K j)
theorem PTE_u (R : ar A h) (s : CU A A') (T : PTE M A D E cs K) : PTE M A' D E cs K := by
  intro j hj
  obtain ⟨r, p, fm, h1, h2, h3, h4⟩ := T j hj
  exact ⟨r, p, fm, h1, h2, h3, PT_u R s h4⟩
theorem c187i (W : Wd D) (Wff : Wf D o F) (I : OI D F) (hE : EA D E) (P : EP D F (xS (fX F 0)) (xS (fX F 1)) E) (N : LNK0 D E (xS (fX F 0)) (xS (fX F 1)) cs K) (hK : KOK cs (xS (fX F 0)) (xS (fX F 1)) K) (K9 : Option Nat → Int32 → Int32 → pm_H → tm_L) {x3 : Int32} : ∀ k m j go fr fs ev A h, j + k = E.length → k < m → ar A h → CX M A D o F → CCi M A o E fr fs ev → PTE M A D E cs K → SI D E cs (xS (fX F 0)) (xS (fX F 1)) K fr fs → PG D E cs (xS (fX F 0)) (xS (fX F 1)) K fs0 fs go j → ∃ A' h' go' fr' fs' ev', l187_26 K9 m (some 87) (if go = true then 1 else 0) x3 (Int32.ofNat j) h = K9 (some 87) (if go' = true then 1 else 0) (x3 + 1) h' ∧ ar A' h' ∧ CU A A' ∧ CCi M A' o E fr' fs' ev' ∧ SI D E cs (xS (fX F 0)) (xS (fX F 1)) K fr' fs' ∧ PG D E cs (xS (fX F 0)) (xS (fX F 1)) K fs0 fs' go' E.length := by
  have hE1 := hE.1
  have hS : ES D (xS (fX F 0)) (xS (fX F 1)) E := fun a ha => EP_s P ha
  intro k
  induction k with
  | zero =>
    intro m j go fr fs ev A h h1 h2 R Q H T HI HG
    cases m with
    | zero => omega
    | succ m =>
      have e : j = E.length := by omega
      subst e
      refine ⟨A, h, go, fr, fs, ev, ?_, R, CU_refl, H, HI, HG⟩
      rw [l187_26]
      dsimp only
      rw [(cell_n R H).1, Option.bind_some, if_pos ((i32_len (by omega) (by omega)).mpr (Nat.le_refl _))]
  | succ k ih =>
    intro m j go fr fs ev A h h1 h2 R Q H T HI HG
    cases m with
    | zero => omega
    | succ m =>
      have hj : j < E.length := by omega
      have n4 : Int32.ofNat j + (1 : Int32) = Int32.ofNat (j + 1) := i32_add j 1
      have H' := H
      obtain ⟨k0, ⟨g, k1, k2⟩, k3, k4⟩ := H'
      have d2 : lf_R h (some 87) [2, 2] = some (some 90) := hc_R (o := some 90) (ar_c R k0) rfl
      have d3 : la_I h .baload (some 90) (Int32.ofNat j) = some (if fs j = true then 1 else 0) := hc_ldI (ar_c R k4) rfl (by omega) (ra_get (show j < 120 by omega))
      rw [l187_26]
      dsimp only
      rw [(cell_n R H).1, Option.bind_some, if_neg (fun z => by have := (i32_len (by omega) (by omega)).mp z; omega), d2, Option.bind_some, d3, Option.bind_some]
      obtain ⟨G1, G2, G3⟩ := HG
      cases hfs : fs j with
      | true =>
        rw [if_pos rfl, if_neg (by decide)]
        unfold l187_108
        rw [n4]
        refine ih m (j + 1) go fr fs ev A h (by omega) (by omega) R Q H T HI ⟨G1, G2, fun hg => ⟨(G3 hg).1, fun i hi hi2 hf => ?_⟩⟩
        by_cases q : i = j
        · have := (G3 hg).1 j hj
          rw [q, ← this, hfs] at hf
          cases hf
        · exact (G3 hg).2 i (by omega) hi2 hf
      | false =>
        rw [if_pos (by decide)]
        obtain ⟨r, pp, fm, t1, t2, t3, t4⟩ := T j hj
        obtain ⟨r', hr', h6⟩ := hE.2 _ (el_mem hj)
        rw [t1] at hr'
        cases hr'
        -- early is cleared
        obtain ⟨h4, p4, R4⟩ := aw_P (k := 6) (t := 3) (v := .inl 0) R k0 (by omega) (show 6 < 7 by omega) rfl
        have s4 := CU_set (y1 := .inl (2, [Value.ref 88, .ref 89, .ref 90, .int (Int32.ofNat E.length), .ref (94 + 17 * o + 5), .ref (94 + 17 * o + 11), .int 0])) k0 (Or.inl rfl)
        obtain ⟨A4, hA4⟩ : ∃ A4, A4 = ah_set A 87 (ac_c (.inl (2, [Value.ref 88, .ref 89, .ref 90, .int (Int32.ofNat E.length), .ref (94 + 17 * o + 5), .ref (94 + 17 * o + 11), .int 0]))) := ⟨_, rfl⟩
        have R4' : ar A4 h4 := by rw [hA4]; exact R4
        rw [← hA4] at s4
        have nn : ∀ b, b ≠ 87 → A4.1 b = A.1 b := fun b hb => by rw [hA4]; exact ah_set_n hb
        have H4 : CC M A4 o E fr fs false := ⟨by rw [hA4]; exact ah_set_e, ⟨g, (nn 88 (by omega)).trans k1, k2⟩, (nn 89 (by omega)).trans k3, (nn 90 (by omega)).trans k4⟩
        have Q4 := CX_u R Q s4
        -- the content is evaluated
        obtain ⟨A5, h5, p5, R5, s5, H5⟩ := c193c R4' Q4 H4 W Wff I hE hS (LK_of (fr := fr) (fs := fs) P N) (PT_u R s4 t4)
        rw [Bool.false_or] at H5
        have H5' := H5
        obtain ⟨m0, ⟨g5, m1, m2⟩, m3, m4⟩ := H5'
        -- the result is laid
        obtain ⟨h6', p6, R6⟩ := aw_Sr (i := .lastore) (j := j) (v := .inr (.inl (evV cs (xS (fX F 0)) (xS (fX F 1)) K (fcs D E cs fr) (tsE D E cs K j)))) (w := .long (evV cs (xS (fX F 0)) (xS (fX F 1)) K (fcs D E cs fr) (tsE D E cs K j))) R5 m3 (by omega) (show j < 120 by omega) (by omega) rfl
        have s6 : CU A5 (ah_set A5 89 (ac_c (.inr (1, ra 120 (up (fun i => .long (fr i)) j (.long (evV cs (xS (fX F 0)) (xS (fX F 1)) K (fcs D E cs fr) (tsE D E cs K j)))))))) := CU_set m3 (Or.inr (Or.inr (Or.inl rfl)))
        obtain ⟨A6, hA6⟩ : ∃ A6, A6 = ah_set A5 89 (ac_c (.inr (1, ra 120 (up (fun i => .long (fr i)) j (.long (evV cs (xS (fX F 0)) (xS (fX F 1)) K (fcs D E cs fr) (tsE D E cs K j))))))) := ⟨_, rfl⟩
        rw [← hA6] at R6 s6
        have n6 : ∀ b, b ≠ 89 → A6.1 b = A5.1 b := fun b hb => by rw [hA6]; exact ah_set_n hb
        have a87 := (n6 87 (by omega)).trans m0
        have a90 := (n6 90 (by omega)).trans m4
        obtain ⟨sd, hsd⟩ : ∃ sd, sd = (dpa cs (xS (fX F 0)) (xS (fX F 1)) (tsE D E cs K j)).all (scs D E cs fs) := ⟨_, rfl⟩
        rw [← hsd] at m0 H5 a87
        -- whether it is settled
        obtain ⟨h7, p7, R7⟩ := aw_Sr (i := .bastore) (j := j) (v := .inl (if sd = true then 1 else 0)) (w := .int (if sd = true then 1 else 0)) R6 a90 (by omega) (show j < 120 by omega) (by omega) (by cases sd <;> rfl)
        have s7 : CU A6 (ah_set A6 90 (ac_c (.inr (3, ra 120 (up (fun i => .int (if fs i = true then 1 else 0)) j (.int (if sd = true then 1 else 0))))))) := CU_set a90 (Or.inr (Or.inr (Or.inr rfl)))
        obtain ⟨A7, hA7⟩ : ∃ A7, A7 = ah_set A6 90 (ac_c (.inr (3, ra 120 (up (fun i => .int (if fs i = true then 1 else 0)) j (.int (if sd = true then 1 else 0)))))) := ⟨_, rfl⟩
        rw [← hA7] at R7 s7
        have n7 : ∀ b, b ≠ 90 → A7.1 b = A6.1 b := fun b hb => by rw [hA7]; exact ah_set_n hb
        have b87 := (n7 87 (by omega)).trans a87
        have s47 := CU_tr (CU_tr (CU_tr s4 s5) s6) s7
        have H7 : CCi M A7 o E (up fr j (evV cs (xS (fX F 0)) (xS (fX F 1)) K (fcs D E cs fr) (tsE D E cs K j))) (up fs j sd) (if (!sd) = true then 1 else 0) := by
          refine ⟨b87, ⟨g5, (n7 88 (by omega)).trans ((n6 88 (by omega)).trans m1), m2⟩, ?_, ?_⟩
          · rw [n7 89 (by omega), hA6, ah_set_e]
            congr 3
            refine ra_ext (fun i _ => ?_)
            by_cases q : i = j
            · rw [q, up_e, up_e]
            · rw [up_n q, up_n q]
          · rw [hA7, ah_set_e]
            congr 3
            refine ra_ext (fun i _ => ?_)
            by_cases q : i = j
            · rw [q, up_e, up_e]
            · rw [up_n q, up_n q]
        have HI7 : SI D E cs (xS (fX F 0)) (xS (fX F 1)) K (up fr j (evV cs (xS (fX F 0)) (xS (fX F 1)) K (fcs D E cs fr) (tsE D E cs K j))) (up fs j sd) := by
          intro i hi hf
          by_cases q : i = j
          · subst q
            rw [up_e] at hf
            rw [up_e]
            exact SI_set P N hK hi (hsd ▸ hf) HI
          · rw [up_n q] at hf
            rw [up_n q]
            exact HI i hi hf
        have fin : ∀ go' : Bool, go' = (go || sd) → l187_108 K9 (l187_26 K9 m) (some 87) (if go' = true then 1 else 0) x3 (Int32.ofNat j) h7 = l187_26 K9 m (some 87) (if go' = true then 1 else 0) x3 (Int32.ofNat (j + 1)) h7 ∧ PG D E cs (xS (fX F 0)) (xS (fX F 1)) K fs0 (up fs j sd) go' (j + 1) := by
          intro go' hgo
          refine ⟨by unfold l187_108; rw [n4], fun i hi => ?_, fun hg => ?_, fun hg => ?_⟩
          · by_cases q : i = j
            · rw [q] at hi
              rw [G1 j hi] at hfs
              cases hfs
            · rw [up_n q]; exact G1 i hi
          · have f0 : fs0 j = false := by
              cases hf0 : fs0 j with
              | false => rfl
              | true => rw [G1 j hf0] at hfs; cases hfs
            cases hsdv : sd with
            | true => exact ⟨j, hj, by rw [up_e], f0⟩
            | false =>
              rw [hsdv, Bool.or_false] at hgo
              obtain ⟨i, u1, u2, u3⟩ := G2 (hgo ▸ hg)
              refine ⟨i, u1, ?_, u3⟩
              rw [up_n (fun q => by rw [q, hfs] at u2; cases u2)]
              exact u2
          · rw [hgo, Bool.or_eq_false_iff] at hg
            obtain ⟨v1, v2⟩ := G3 hg.1
            refine ⟨fun i hi => ?_, fun i hi hi2 hf => ?_⟩
            · by_cases q : i = j
              · rw [q, up_e, hg.2, ← v1 j hj, hfs]
              · rw [up_n q]; exact v1 i hi
            · by_cases q : i = j
              · rw [q, ← scs_cg (D := D) (cs := cs) v1, ← hsd]
                exact hg.2
              · exact v2 i (by omega) hi2 hf
        have d5 : lf_R h4 (some 87) [2, 1] = some (some 89) := hc_R (o := some 89) (ar_c R4' H4.1) rfl
        obtain ⟨e1, e2⟩ := cell_rd R4' H4 hE1 hj
        obtain ⟨-, -, e3⟩ := act_rd R4' Q4.2.1 W t1 h6
        rw [t2] at e3
        have d6 : lf_R h6' (some 87) [2, 2] = some (some 90) := hc_R (o := some 90) (ar_c R6 a87) rfl
        have d7 : lf_I h6' (some 87) [2, 6] = some (if (!sd) = true then 1 else 0) := hc_I (ar_c R6 a87) rfl
        have d8 : lf_I h7 (some 87) [2, 6] = some (if (!sd) = true then 1 else 0) := hc_I (ar_c R7 b87) rfl
        obtain ⟨f1, f2⟩ := fin (go || sd) rfl
        obtain ⟨A', h', go', fr', fs', ev', z1, z2, z3, z4⟩ := ih m (j + 1) (go || sd) _ _ _ A7 h7 (by omega) (by omega) R7 (CX_u R Q s47) H7 (PTE_u R s47 T) HI7 f2
        refine ⟨A', h', go', fr', fs', ev', ?_, z2, CU_tr s47 z3, z4⟩
        rw [p4, Option.bind_some, d5, Option.bind_some, e1, Option.bind_some, e2, Option.bind_some, e3, Option.bind_some, if_pos (cell_n R4' H4).2, p5, rt_J, p6, Option.bind_some, d6, Option.bind_some, d7, Option.bind_some, ← z1, ← f1]
        have h90 : l187_90 K9 (l187_26 K9 m) (some 87) (if go = true then 1 else 0) x3 (Int32.ofNat j) (if sd = true then 1 else 0) (Int32.ofNat j) (some 90) h6' = l187_108 K9 (l187_26 K9 m) (some 87) (if (go || sd) = true then 1 else 0) x3 (Int32.ofNat j) h7 := by
          unfold l187_90 l187_102 l187_107
          rw [p7, Option.bind_some]
          cases go with
          | true => rw [if_pos rfl, if_neg (by decide), Bool.true_or, if_pos rfl]
          | false =>
            rw [if_neg (show ¬ (false : Bool) = true by decide), if_pos rfl, d8, Option.bind_some, Bool.false_or]
            cases sd with
            | true => rfl
            | false => rfl
        cases hsdv : sd with
        | true =>
          rw [hsdv] at h90
          rw [if_pos (by decide)]
          exact h90
        | false =>
          rw [hsdv] at h90
          rw [if_neg (by decide)]
          exact h90
/-- in the end: settled is what settles -/
def DN (D : aD) (E : List Nat) (cs : List (Nat × Nat)) (Lr Lc : List Nat) (K : kc) (fs : Nat → Bool) : Prop := (∀ j, j < E.length → fs j = true) ∨ CLs D E cs Lr Lc K fs
theorem cnt_all {p : Nat → Bool} : ∀ n, n ≤ (List.range n).countP p → ∀ j, j < n → p j = true := by
  intro n h j hj
  have h1 := List.countP_le_length (p := p) (l := List.range n)
  rw [List.length_range] at h1
  have h2 : (List.range n).countP p = (List.range n).length := by rw [List.length_range]; omega
  exact List.countP_eq_length.mp h2 j (List.mem_range.mpr hj)
theorem c187o (W : Wd D) (Wff : Wf D o F) (I : OI D F) (hE : EA D E) (P : EP D F (xS (fX F 0)) (xS (fX F 1)) E) (N : LNK0 D E (xS (fX F 0)) (xS (fX F 1)) cs K) (hK : KOK cs (xS (fX F 0)) (xS (fX F 1)) K) : ∀ k m ps go fr fs ev A h, ps + k = E.length + 1 → k < m → ar A h → CX M A D o F → CCi M A o E fr fs ev → PTE M A D E cs K → SI D E cs (xS (fX F 0)) (xS (fX F 1)) K fr fs → (go = true → ps ≤ (List.range E.length).countP fs) → (go = false → CLs D E cs (xS (fX F 0)) (xS (fX F 1)) K fs) → ∃ A' h' fr' fs' ev', l187_9 m (some 87) (if go = true then 1 else 0) (Int32.ofNat ps) h = rtV h' ∧ ar A' h' ∧ CU A A' ∧ CCi M A' o E fr' fs' ev' ∧ SI D E cs (xS (fX F 0)) (xS (fX F 1)) K fr' fs' ∧ DN D E cs (xS (fX F 0)) (xS (fX F 1)) K fs' := by
  have hE1 := hE.1
  intro k
  induction k with
  | zero =>
    intro m ps go fr fs ev A h h1 h2 R Q H T HI g1 g2
    cases m with
    | zero => omega
    | succ m =>
      refine ⟨A, h, fr, fs, ev, ?_, R, CU_refl, H, HI, ?_⟩
      · rw [l187_9]
        dsimp only
        rw [(cell_n R H).1, Option.bind_some, if_pos ((i32_len (by omega) (by omega)).mpr (by omega))]
      · cases go with
        | true =>
          have hh := g1 rfl
          have h3 := List.countP_le_length (p := fs) (l := List.range E.length)
          rw [List.length_range] at h3
          omega
        | false => exact Or.inr (g2 rfl)
  | succ k ih =>
    intro m ps go fr fs ev A h h1 h2 R Q H T HI g1 g2
    cases m with
    | zero => omega
    | succ m =>
      rw [l187_9]
      dsimp only
      rw [(cell_n R H).1, Option.bind_some]
      by_cases q : E.length ≤ ps
      · refine ⟨A, h, fr, fs, ev, ?_, R, CU_refl, H, HI, ?_⟩
        · rw [if_pos ((i32_len (by omega) (by omega)).mpr q)]
        · cases go with
          | true => exact Or.inl (cnt_all _ (by have := g1 rfl; omega))
          | false => exact Or.inr (g2 rfl)
      · rw [if_neg (fun z => q ((i32_len (by omega) (by omega)).mp z))]
        cases go with
        | false =>
          refine ⟨A, h, fr, fs, ev, ?_, R, CU_refl, H, HI, Or.inr (g2 rfl)⟩
          rw [if_pos (by decide)]
        | true =>
          have n4 : Int32.ofNat ps + (1 : Int32) = Int32.ofNat (ps + 1) := i32_add ps 1
          obtain ⟨A1, h1', go', fr', fs', ev', u1, u2, u3, u4, u5, u6, u7, u8⟩ := c187i (fs0 := fs) W Wff I hE P N hK (l187_9 m) (x3 := Int32.ofNat ps) E.length lf_N 0 false fr fs ev A h (by omega) (by unfold lf_N; omega) R Q H T HI ⟨fun i hi => hi, fun z => absurd z (by decide), fun _ => ⟨fun i _ => rfl, fun i hi => absurd hi (Nat.not_lt_zero _)⟩⟩
          obtain ⟨A2, h2', fr2, fs2, ev2, v1, v2, v3, v4⟩ := ih m (ps + 1) go' fr' fs' ev' A1 h1' (by omega) (by omega) u2 (CX_u R Q u3) u4 (PTE_u R u3 T) u5 (fun hg => by
            obtain ⟨i, w1, w2, w3⟩ := u7 hg
            have := cP_lt (p := fs) (q := fs') (List.range E.length) (fun x _ => u6 x) ⟨i, List.mem_range.mpr w1, w2, w3⟩
            have := g1 rfl
            omega) (fun hg => by
            obtain ⟨w1, w2⟩ := u8 hg
            intro j hj hf
            rw [scs_cg (D := D) (cs := cs) w1]
            exact w2 j hj hj (by rw [← w1 j hj]; exact hf))
          refine ⟨A2, h2', fr2, fs2, ev2, ?_, v2, CU_tr u3 v3, v4⟩
          rw [if_neg (by decide), show (0 : Int32) = Int32.ofNat 0 from rfl]
          have u1' : l187_26 (l187_9 m) lf_N (some 87) (Int32.ofNat 0) (Int32.ofNat ps) (Int32.ofNat 0) h = l187_9 m (some 87) (if go' = true then 1 else 0) (Int32.ofNat ps + 1) h1' := u1
          rw [u1', n4]
          exact v1
theorem DN_s (P : EP D F Lr Lc E) (N : LNK0 D E Lr Lc cs K) (hK : KOK cs Lr Lc K) (H : DN D E cs Lr Lc K fs) : ∀ k j, j < E.length → gdK cs Lr Lc K k (ixE D E cs j) = true → fs j = true := by
  rcases H with H | H
  · exact fun k j hj _ => H j hj
  · intro k
    induction k with
    | zero =>
      intro j hj g
      cases hf : fs j with
      | true => rfl
      | false =>
        exfalso
        have h1 := H j hj hf
        obtain ⟨fm, hk⟩ := tsE_s P N hj
        have hfm : fm = false := by
          have h' : (!fmB K (ixE D E cs j)) = true := g
          unfold fmB at h'
          rw [hk] at h'
          cases fm with
          | false => rfl
          | true => cases h'
        rw [(hK _ _ _ hk).2.2 hfm] at h1
        cases h1
    | succ k ih =>
      intro j hj g
      cases hf : fs j with
      | true => rfl
      | false =>
        exfalso
        have h1 := H j hj hf
        obtain ⟨fm, hk⟩ := tsE_s P N hj
        have hok := hK _ _ _ hk
        rw [List.all_eq_false] at h1
        obtain ⟨i, hi, h2⟩ := h1
        cases fm with
        | false => rw [hok.2.2 rfl] at hi; cases hi
        | true =>
          obtain ⟨k', e1, e2⟩ := gd_fm (by unfold fmB; rw [hk]) g
          have e3 : k' = k := by omega
          subst e3
          have ed : dpi cs Lr Lc K (ixE D E cs j) = dpa cs Lr Lc (tsE D E cs K j) := by unfold dpi; rw [hk]
          have g2 := e2 i (by rw [ed]; exact hi)
          obtain ⟨y, z, hs, hfn⟩ := dpa_sh (fun t ht => (hok.1 t ht).1) hi P.2.2.1 P.2.2.2.1
          have hc := (fnd_lt cs 0 _ _ i hfn).2.2
          rw [Nat.sub_zero] at hc
          unfold scs at h2
          rw [hc] at h2
          cases e : fnd (prs D E) 0 y z with
          | none => rw [e] at h2; exact h2 rfl
          | some j' =>
            rw [e] at h2
            obtain ⟨w1, w2, w3⟩ := prs_f e
            have hi' : ixE D E cs j' = i := by unfold ixE; rw [w2, w3, hfn]; rfl
            exact h2 (ih j' w1 (by rw [hi']; exact g2))
/-- what the class answers for a cell -/
theorem res_eq (P : EP D F Lr Lc E) (N : LNK0 D E Lr Lc cs K) (hK : KOK cs Lr Lc K) (HI : SI D E cs Lr Lc K fr fs) (H : DN D E cs Lr Lc K fs) (hs : shB Lr Lc y z = true) : (fnd (prs D E) 0 y z).elim 0 (fun j => if fs j = true then fr j else 1000000003) = (fnd cs 0 y z).elim 0 (WV cs Lr Lc K cs.length) := by
  cases e : fnd cs 0 y z with
  | none => rw [N.1 y z e]; rfl
  | some i =>
    have hn := N.2 y z i hs e
    show _ = WV cs Lr Lc K cs.length i
    unfold WV
    cases e2 : fnd (prs D E) 0 y z with
    | none =>
      rw [e2] at hn
      have hkn : K i = none := by
        cases h : K i with
        | none => rfl
        | some p => rw [h] at hn; cases hn
      rw [if_pos (gd_0 (by unfold fmB; rw [hkn])), tv_no hkn]
      rfl
    | some j =>
      obtain ⟨w1, w2, w3⟩ := prs_f e2
      have hi' : ixE D E cs j = i := by unfold ixE; rw [w2, w3, e]; rfl
      show (if fs j = true then fr j else 1000000003) = _
      by_cases q : fs j = true
      · obtain ⟨u1, u2⟩ := HI j w1 q
        rw [hi'] at u1 u2
        rw [if_pos q, if_pos u1, u2]
      · rw [if_neg q, if_neg (fun g => q (DN_s P N hK H cs.length j w1 (by rw [hi']; exact g)))]
end PAS
