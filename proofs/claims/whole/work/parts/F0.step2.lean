/-! CALLS put together: put, move, remove, undo -/
/-- a call, done -/
def Spm (w : Option Nat) (cmp : Int32 → Option tm_V → pm_H → Prop) (A : ah) (D : aD) (G : Nat → fo) (S : rs_S) (T U : List Nat) (y1 : Nat) (as1 : List tm_V) (y2 : Nat) (as2 : List tm_V) (h : pm_H) : Prop := ∃ A3 h3 M3 D3 G3 S3 T3 u3, pt_O w cmp y1 as1 y2 as2 h h3 ∧ ar A3 h3 ∧ IC M3 A3 D3 G3 S3 T3 U u3 ∧ Lv A A3 10 60 ∧ Ch D G S D3 G3 S3
section ST2
variable {A A' A1 A2 : ah} {h h' h1 h2 : pm_H} {M M' : aM} {D : aD} {G : Nat → fo} {S S' S8 : rs_S} {T U : List Nat} {u v : Int64} {n k o i y1 y2 ci : Nat} {as1 as2 : List tm_V} {w : Option Nat} {r : rc} {y : pm_C} {cmp : Int32 → Option tm_V → pm_H → Prop} {a1 a2 a3 a4 c : Int32} {b : Option tm_V}
theorem Ch_I {z : Int32} : Ch D G S D G (rs_setI S 0 z) := ⟨rfl, rfl, fun _ _ _ _ => rfl, fun _ _ _ _ => rfl, fun _ _ hq => ⟨hq, rfl⟩, fun _ _ e => ⟨e, rfl, rfl, rfl⟩⟩
theorem Lv_w {A A' : ah} {n k n' k' : Nat} (l : Lv A A' n k) (h1 : n ≤ n') (h2 : k ≤ k') : Lv A A' n' k' := ⟨l.1, l.2.1, by have := l.2.2.1; omega, by have := l.2.2.2; omega⟩
theorem spm_t (R : ar A h) (I : IC M A D G S T U u) (e0 : A.1 0 = ac_c y) (t1 : tx_R w y1 as1 h (.inl (some (.inl c)), lf_new h ci 6 [])) (t2 : ∀ h1 : pm_H, 177 ≤ h1.1.length → tx_R w y2 as2 (rs_h S h1) (.inl b, rs_h (rs_setI S 0 c) h1)) (hc : ∀ h3, cmp c b h3) : Spm w cmp A D G S T U y1 as1 y2 as2 h := by
  obtain ⟨A3, h3, g1, g2, g3, g4⟩ := fin_thr (S' := rs_setI S 0 c) R I e0 t1 t2 rfl rfl rfl rfl hc
  exact ⟨A3, h3, M, D, G, _, T, u, g1, g2, g3, Lv_w g4 (by omega) (by omega), Ch_I⟩
/-- an act made, a number answered -/
theorem fin_mkI (R : ar A h) (I : IC M A D G S T U u) (e0 : A.1 0 = ac_c y) (ho : o < 3) (hD : D i = none) (R1 : ar A1 h1) (C1 : CW M' A1 (up D i (some r)) (up G o (tkF (up D i (some r)) (G o) i))) (s1 : st A A1 (blk o) n k) (hn : n ≤ 10) (hk : k ≤ 60) (g : Mag M M' D) (H' : GW (up D i (some r)) (up G o (tkF (up D i (some r)) (G o) i))) (hR' : ∀ m, m < 3 → RT (up D i (some r)) m (up G o (tkF (up D i (some r)) (G o) i) m) S') (sb : Sb i (rs_setI S 0 0) S8) (sk : Sk o S8 S') (hct : rk r = 6 → ∃ c1 c2, S8.2.1 10 i = c1 ∧ S8.2.1 11 i = c2 ∧ cte M A D S (rct r) c1 ∧ cte M A D S (rcb r) c2) (t1 : ∀ h2, la_S pt_P h1 .lastore (some 177) (0 : Int32) (.inr (.inl v)) = some h2 → tx_R w y1 as1 h (.inl (some (.inl 0)), h2)) (t2 : ∀ h1 : pm_H, 177 ≤ h1.1.length → tx_R w y2 as2 (rs_h S h1) (.inl b, rs_h S' h1)) (hc : ∀ h3, la_J h3 .laload (some 177) 0 = some v → cmp 0 b h3) : Spm w cmp A D G S T U y1 as1 y2 as2 h := by
  have I' := I
  obtain ⟨i1, i2, i3, i4, i5, i6, i7, i8⟩ := I'
  have hb : ∀ x ∈ blk o, 94 ≤ x ∧ x < 145 := fun x hx => by rw [blk_m] at hx; omega
  have e1 := st_c s1 R i4 (by intro q; cases q) (fun z => by have := hb _ z; omega)
  obtain ⟨A2, h2, p2, R2, s2, e2, f2, c2, w2⟩ := C177 (v := v) R1 e1 (RefC_st i1 R s1 (fun x hx => by have := hb x hx; omega)) (CR_st i3 R s1 (fun x hx => by have := hb x hx; omega)) C1
  have s12 := st_trans s1 s2
  have hY : ∀ x ∈ blk o ++ [177], (94 ≤ x ∧ x < 145) ∨ x = 177 := by
    intro x hx
    rcases List.mem_append.mp hx with q | q
    · exact Or.inl (hb x q)
    · exact Or.inr (List.mem_singleton.mp q)
  obtain ⟨I3, R3⟩ := IC_mk (v := v) R I R2 s12 hY f2 c2 w2 e2 g hD H' hR' sb sk hct
  have l2 := Lv_st R s12 (fun z => by have := hY _ z; omega)
  have hl2 : 177 ≤ A2.2.1 := by have := w2.2.2.2; omega
  refine ⟨_, rs_h S' h2, M', _, _, S', T, v, pO_mk (t1 h2 p2) (Lv_h0 R R2 l2 e0) R2 f2 hl2 (t2 h2 (by rw [ar_len R2]; exact hl2)) (SbSk_f sb sk).2.2.1 (hc _ (ld_177 R3 I3.2.2.2.1)), R3, I3, ?_, Ch_mk hD sb sk ho⟩
  exact Lv_w (Lv_tr l2 (Lv_st R2 (ahS_st (S := S')) (fun hx => by have := rng_m hx; omega))) (by omega) (by omega)
/-- an act made, nothing answered -/
theorem fin_mkV (R : ar A h) (I : IC M A D G S T U u) (e0 : A.1 0 = ac_c y) (ho : o < 3) (hD : D i = none) (R1 : ar A1 h1) (C1 : CW M' A1 (up D i (some r)) (up G o (tkF (up D i (some r)) (G o) i))) (s1 : st A A1 (blk o) n k) (hn : n ≤ 10) (hk : k ≤ 60) (g : Mag M M' D) (H' : GW (up D i (some r)) (up G o (tkF (up D i (some r)) (G o) i))) (hR' : ∀ m, m < 3 → RT (up D i (some r)) m (up G o (tkF (up D i (some r)) (G o) i) m) S') (sb : Sb i (rs_setI S 0 0) S8) (sk : Sk o S8 S') (hct : rk r = 6 → ∃ c1 c2, S8.2.1 10 i = c1 ∧ S8.2.1 11 i = c2 ∧ cte M A D S (rct r) c1 ∧ cte M A D S (rcb r) c2) (t1 : tx_R w y1 as1 h (.inl (some (.inl 0)), h1)) (t2 : ∀ h1 : pm_H, 177 ≤ h1.1.length → tx_R w y2 as2 (rs_h S h1) (.inl b, rs_h S' h1)) (hc : ∀ h3, cmp 0 b h3) : Spm w cmp A D G S T U y1 as1 y2 as2 h := by
  have I' := I
  obtain ⟨i1, i2, i3, i4, i5, i6, i7, i8⟩ := I'
  have hb : ∀ x ∈ blk o, 94 ≤ x ∧ x < 145 := fun x hx => by rw [blk_m] at hx; omega
  have e1 := st_c s1 R i4 (by intro q; cases q) (fun z => by have := hb _ z; omega)
  have f1 := RefC_st i1 R s1 (fun x hx => by have := hb x hx; omega)
  have c1 := CR_st i3 R s1 (fun x hx => by have := hb x hx; omega)
  obtain ⟨I3, R3⟩ := IC_mk (v := u) R I R1 s1 (fun x hx => Or.inl (hb x hx)) f1 c1 C1 e1 g hD H' hR' sb sk hct
  have l1 := Lv_st R s1 (fun z => by have := hb _ z; omega)
  have hl1 : 177 ≤ A1.2.1 := by have := C1.2.2.2; omega
  refine ⟨_, rs_h S' h1, M', _, _, S', T, u, pO_mk t1 (Lv_h0 R R1 l1 e0) R1 f1 hl1 (t2 h1 (by rw [ar_len R1]; exact hl1)) (SbSk_f sb sk).2.2.1 (hc _), R3, I3, ?_, Ch_mk hD sb sk ho⟩
  exact Lv_w (Lv_tr l1 (Lv_st R1 (ahS_st (S := S')) (fun hx => by have := rng_m hx; omega))) (by omega) (by omega)
theorem pdc_c {c : Nat} (e : pdc D G a1 a2 a3 = .inl c) : c = 1 ∨ c = 2 ∨ c = 3 := by
  unfold pdc at e
  cases e1 : la_ix a1 3 with
  | none => rw [e1] at e; cases e; exact Or.inl rfl
  | some o' =>
    rw [e1] at e
    cases e2 : la_ix a2 2 with
    | none => simp only [Option.elim_some, e2, Option.elim_none] at e; cases e; exact Or.inl rfl
    | some k' =>
      simp only [Option.elim_some, e2] at e
      cases e3 : pq D (fX (G o') k') a3 with
      | none => simp only [e3, Option.elim_none] at e; cases e; exact Or.inr (Or.inl rfl)
      | some q' =>
        simp only [e3, Option.elim_some] at e
        by_cases z : fK (G o') o' < 40 ∧ (xS (fX (G o') k')).length < (if k' = 0 then 9 else 5)
        · rw [if_pos z] at e; cases e
        · rw [if_neg z] at e; cases e; exact Or.inr (Or.inr rfl)
theorem mdc_c {c : Nat} (e : mdc D G a1 a2 a3 a4 = .inl c) : c = 1 ∨ c = 2 ∨ c = 3 := by
  unfold mdc at e
  cases e1 : la_ix a1 3 with
  | none => rw [e1] at e; cases e; exact Or.inl rfl
  | some o' =>
    rw [e1] at e
    cases e2 : la_ix a2 2 with
    | none => simp only [Option.elim_some, e2, Option.elim_none] at e; cases e; exact Or.inl rfl
    | some k' =>
      simp only [Option.elim_some, e2] at e
      cases e3 : la_ix a3 (xS (fX (G o') k')).length with
      | none => simp only [e3, Option.elim_none] at e; cases e; exact Or.inr (Or.inl rfl)
      | some j' =>
        simp only [e3, Option.elim_some] at e
        cases e4 : pq D (fX (G o') k') a4 with
        | none => simp only [e4, Option.elim_none] at e; cases e; exact Or.inr (Or.inl rfl)
        | some q' =>
          simp only [e4, Option.elim_some] at e
          split at e
          · cases e
          · cases e; exact Or.inr (Or.inr rfl)
theorem vdc_c {c : Nat} (e : vdc G a1 a2 a3 = .inl c) : c = 1 ∨ c = 2 ∨ c = 3 := by
  unfold vdc at e
  cases e1 : la_ix a1 3 with
  | none => rw [e1] at e; cases e; exact Or.inl rfl
  | some o' =>
    rw [e1] at e
    cases e2 : la_ix a2 2 with
    | none => simp only [Option.elim_some, e2, Option.elim_none] at e; cases e; exact Or.inl rfl
    | some k' =>
      simp only [Option.elim_some, e2] at e
      cases e3 : la_ix a3 (xS (fX (G o') k')).length with
      | none => simp only [e3, Option.elim_none] at e; cases e; exact Or.inr (Or.inl rfl)
      | some j' =>
        simp only [e3, Option.elim_some] at e
        split at e
        · cases e
        · cases e; exact Or.inr (Or.inr rfl)
theorem udc_c {c : Nat} (e : udc G a1 = .inl c) : c = 1 ∨ c = 2 ∨ c = 3 := by
  unfold udc at e
  cases e1 : la_ix a1 3 with
  | none => rw [e1] at e; cases e; exact Or.inl rfl
  | some o' =>
    simp only [e1, Option.elim_some] at e
    split at e
    · cases e; exact Or.inr (Or.inl rfl)
    · split at e
      · cases e
      · cases e; exact Or.inr (Or.inr rfl)
theorem ofN_ne {c : Nat} (h : c = 1 ∨ c = 2 ∨ c = 3) : Int32.ofNat c ≠ 0 := by
  rcases h with e | e | e <;> rw [e] <;> decide
theorem sp_put (R : ar A h) (I : IC M A D G S T U u) (e0 : A.1 0 = ac_c y) : Spm w pt_cI A D G S T U 79 [.inr (.inr (some 81)), .inl a1, .inl a2, .inl a3, .inr (.inr (some 177))] 236 [.inr (.inr (some 145)), .inl a1, .inl a2, .inl a3] h := by
  have t2 : ∀ {v S'}, rf_236 a1 a2 a3 S = some (v, S') → ∀ h1 : pm_H, 177 ≤ h1.1.length → tx_R w 236 [.inr (.inr (some 145)), .inl a1, .inl a2, .inl a3] (rs_h S h1) (.inl (some (.inl v)), rs_h S' h1) := fun hr h1 hl => tx_l (by decide) (lq_236 (rt_236 hl hr))
  have hC := I.2.1
  have H := I.2.2.2.2.1
  have hR := I.2.2.2.2.2.1
  cases e : pdc D G a1 a2 a3 with
  | inl c =>
    have hc3 := pdc_c e
    have t1 : ll_79 w (some 81) a1 a2 a3 (some 177) h = some (.inl (some (.inl (Int32.ofNat c))), lf_new h (ec c) 6 []) := by
      unfold ll_79
      rw [if_pos (IC_L R I), c80t R hC H e, lh_It]
      rcases hc3 with q | q | q <;> rw [q] <;> rfl
    exact spm_t R I e0 (tx_l (by decide) (lq_79 t1)) (t2 (q236t H hR e)) (cI_t (ofN_ne hc3))
  | inr x =>
    obtain ⟨o, k, q⟩ := x
    obtain ⟨h1, ho, h2, hk, h3, hm, hcnt⟩ := pdc_r e
    obtain ⟨M', A1, h1', p1, R1, C1, s1, W1, g⟩ := c80s (w := w) (i := 40 * o + fK (G o) o) R hC H e rfl
    obtain ⟨S8, S', q1, q2, q3, q4, q5, q6, q7⟩ := q236s H hR e rfl W1
    have hD := (GW_rdy H ho hm rfl).1
    refine fin_mkI (v := (Int32.ofNat (told (40 * o + fK (G o) o))).toInt64) R I e0 ho hD R1 C1 s1 (by omega) (by omega) g q7 q6 q2 q5 (fun z => by have z' : 1 = 6 := z; omega) (fun h2 p2 => tx_l (by decide) (lq_79 ?_)) (t2 q1) (fun h3 e => ⟨_, rfl, fun _ => e⟩)
    unfold ll_79
    rw [if_pos (IC_L R I), p1, lh_Ir, p2]
    rfl
theorem sp_move (R : ar A h) (I : IC M A D G S T U u) (e0 : A.1 0 = ac_c y) : Spm w pt_cV A D G S T U 123 [.inr (.inr (some 81)), .inl a1, .inl a2, .inl a3, .inl a4] 251 [.inr (.inr (some 145)), .inl a1, .inl a2, .inl a3, .inl a4] h := by
  have t2 : ∀ {v S'}, rf_251 a1 a2 a3 a4 S = some (v, S') → ∀ h1 : pm_H, 177 ≤ h1.1.length → tx_R w 251 [.inr (.inr (some 145)), .inl a1, .inl a2, .inl a3, .inl a4] (rs_h S h1) (.inl none, rs_h S' h1) := fun hr h1 hl => tx_l (by decide) (lq_251 (rt_251 hl hr))
  have hC := I.2.1
  have H := I.2.2.2.2.1
  have hR := I.2.2.2.2.2.1
  cases e : mdc D G a1 a2 a3 a4 with
  | inl c =>
    have hc3 := mdc_c e
    have t1 : ll_123 w (some 81) a1 a2 a3 a4 h = some (.inl (some (.inl (Int32.ofNat c))), lf_new h (ec c) 6 []) := by
      unfold ll_123
      rw [if_pos (IC_L R I), c124t R hC H e, lh_Vt]
      rcases hc3 with q | q | q <;> rw [q] <;> rfl
    exact spm_t R I e0 (tx_l (by decide) (lq_123 t1)) (t2 (q251t H hR e)) (fun _ => rfl)
  | inr x =>
    obtain ⟨o, k, j, q⟩ := x
    obtain ⟨e1, e2, e3, e4, hm⟩ := mdc_r e
    obtain ⟨-, ho⟩ := ix_s (by omega) e1
    obtain ⟨M', A1, h1', p1, R1, C1, s1, W1, g⟩ := c124s (w := w) (i := 40 * o + fK (G o) o) R hC H e rfl rfl
    obtain ⟨S8, S', q1, q2, q3, q4, q5, q6, q7⟩ := q251s H hR e rfl rfl W1
    have hD := (GW_rdy H ho hm rfl).1
    refine fin_mkV R I e0 ho hD R1 C1 s1 (by omega) (by omega) g q7 q6 q2 q5 (fun z => by have z' : 2 = 6 := z; omega) (tx_l (by decide) (lq_123 ?_)) (t2 q1) (fun _ => rfl)
    unfold ll_123
    rw [if_pos (IC_L R I), p1, lh_Vr]
theorem sp_remove (R : ar A h) (I : IC M A D G S T U u) (e0 : A.1 0 = ac_c y) : Spm w pt_cV A D G S T U 126 [.inr (.inr (some 81)), .inl a1, .inl a2, .inl a3] 252 [.inr (.inr (some 145)), .inl a1, .inl a2, .inl a3] h := by
  have t2 : ∀ {v S'}, rf_252 a1 a2 a3 S = some (v, S') → ∀ h1 : pm_H, 177 ≤ h1.1.length → tx_R w 252 [.inr (.inr (some 145)), .inl a1, .inl a2, .inl a3] (rs_h S h1) (.inl none, rs_h S' h1) := fun hr h1 hl => tx_l (by decide) (lq_252 (rt_252 hl hr))
  have hC := I.2.1
  have H := I.2.2.2.2.1
  have hR := I.2.2.2.2.2.1
  cases e : vdc G a1 a2 a3 with
  | inl c =>
    have hc3 := vdc_c e
    have t1 : ll_126 w (some 81) a1 a2 a3 h = some (.inl (some (.inl (Int32.ofNat c))), lf_new h (ec c) 6 []) := by
      unfold ll_126
      rw [if_pos (IC_L R I), c127t R hC H e, lh_Vt]
      rcases hc3 with q | q | q <;> rw [q] <;> rfl
    exact spm_t R I e0 (tx_l (by decide) (lq_126 t1)) (t2 (q252t H hR e)) (fun _ => rfl)
  | inr x =>
    obtain ⟨o, k, j⟩ := x
    obtain ⟨e1, e2, e3, hm⟩ := vdc_r e
    obtain ⟨-, ho⟩ := ix_s (by omega) e1
    obtain ⟨M', A1, h1', p1, R1, C1, s1, W1, g⟩ := c127s (w := w) (i := 40 * o + fK (G o) o) R hC H e rfl rfl
    obtain ⟨S8, S', q1, q2, q3, q4, q5, q6, q7⟩ := q252s H hR e rfl rfl W1
    have hD := (GW_rdy H ho hm rfl).1
    refine fin_mkV R I e0 ho hD R1 C1 s1 (by omega) (by omega) g q7 q6 q2 q5 (fun z => by have z' : 5 = 6 := z; omega) (tx_l (by decide) (lq_126 ?_)) (t2 q1) (fun _ => rfl)
    unfold ll_126
    rw [if_pos (IC_L R I), p1, lh_Vr]
end ST2
