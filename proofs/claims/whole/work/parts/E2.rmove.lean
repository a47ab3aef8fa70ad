/-! MOVE, REMOVE: the reference -/
section RMV
variable {D : aD} {G : Nat → fo} {F : fo} {S S' S8 : rs_S} {X : ax} {o i j l k m n c p : Nat} {r : rc} {a1 a2 a3 a4 a : Int32} {q : Option Nat} {L : List Nat}
theorem q251t (H : GW D G) (hR : ∀ m, m < 3 → RT D m (G m) S) (e : mdc D G a1 a2 a3 a4 = .inl c) : rf_251 a1 a2 a3 a4 S = some ((), rs_setI S 0 (Int32.ofNat c)) := by
  unfold mdc at e
  unfold rf_251
  rw [q237]
  cases e1 : la_ix a1 3 with
  | none =>
    rw [e1] at e
    cases e
    rfl
  | some o =>
    obtain ⟨h1, ho⟩ := ix_s (by omega) e1
    rw [e1] at e
    try rw [rb_r]
    show rb (rf_238 a2 S) _ = _
    rw [q238]
    cases e2 : la_ix a2 2 with
    | none =>
      simp only [Option.elim_some, e2, Option.elim_none] at e
      cases e
      rfl
    | some k =>
      obtain ⟨h2, hk⟩ := ix_s (by omega) e2
      have Wo := (H.2.2.2.2.2.2.2 o ho).1.1
      have Wc := Wo.2.2.2.2.2.2 k hk
      have hSH := (hR o ho).2.2.1 k hk
      simp only [Option.elim_some, e2] at e
      try rw [rb_r]
      show r251_19 a1 a2 a3 a4 1 S = _
      unfold r251_19
      rw [if_neg (by decide), h1, h2, q239 ho hk hSH Wc.2.2.2.2.2]
      cases e3 : la_ix a3 (xS (fX (G o) k)).length with
      | none =>
        simp only [e3, Option.elim_none] at e
        cases e
        rfl
      | some j =>
        simp only [e3, Option.elim_some] at e
        try rw [rb_r]
        have h62 : (pq D (fX (G o) k) a4).isSome = true → r251_62 (Int32.ofNat o) (Int32.ofNat k) a3 a4 S = some ((), rs_setI S 0 (Int32.ofNat c)) := by
          intro hs
          obtain ⟨q, hq⟩ := Option.isSome_iff_exists.mp hs
          simp only [hq, Option.elim_some] at e
          unfold r251_62
          rw [q240 (hR o ho) Wo]
          by_cases z1 : fK (G o) o < 40
          · rw [if_pos z1] at e; cases e
          · rw [if_neg z1] at e
            cases e
            rw [if_neg z1]
            rfl
        have hpn := pq_n (a := a4) Wc ho hk hSH
        by_cases z : a4 = -1
        · rw [if_pos z]
          exact h62 (by unfold pq; rw [if_pos z]; rfl)
        · rw [if_neg z]
          rw [if_neg z] at hpn
          rw [hpn]
          cases g : pq D (fX (G o) k) a4 with
          | none =>
            simp only [g, Option.elim_none] at e
            cases e
            rfl
          | some q =>
            rw [g] at h62
            exact h62 rfl
/-- a line that is shown, for a new act -/
theorem shn_t (I : OI D F) (W : Wd D) (hk : k < 2) (hl : l ∈ xS (fX F k)) : LN D l ∧ tkn F l ∧ l < 120 ∧ lkd D l = k ∧ ∀ p, plc D (fX F k) l = some p → p < 120 ∧ tkn F p ∧ PN D p := by
  obtain ⟨p, h1, h2, h3, h4, h5, h6, h7⟩ := shn I hk hl
  obtain ⟨hp1, hp2⟩ := lnp_LN W h6
  rw [h2] at hp1 hp2
  obtain ⟨r, hr, hk2⟩ := h6
  have hrl : rl r = some l := by rw [hr] at hp1; exact hp1
  refine ⟨hp2, (I.2.1 p r hr h5).1 l hrl, LN_lt W hp2, h7, fun p' hp' => ?_⟩
  rw [h3] at hp'
  cases hp'
  exact ⟨h4, h5, ⟨r, hr, hk2⟩⟩
theorem new_M (H : GW D G) (ho : o < 3) (hm : fK (G o) o < 40) (hi : i = 40 * o + fK (G o) o) (hk : k < 2) (hl : l ∈ xS (fX (G o) k)) (e : pq D (fX (G o) k) a = some q) : New D (G o) o i (rM o (G o) i l q (plc D (fX (G o) k) l)) := by
  obtain ⟨hD, hi2, e1, e2, hnt, hb⟩ := GW_rdy H ho hm hi
  have I := (H.2.2.2.2.2.2.2 o ho).1.2.1
  have hq := pq_tk I H.1 hk e
  obtain ⟨s1, s2, s3, s4, s5⟩ := shn_t I H.1 hk hl
  have hii : up D i (some (rM o (G o) i l q (plc D (fX (G o) k) l))) i = some (rM o (G o) i l q (plc D (fX (G o) k) l)) := up_e
  have el : lnp (up D i (some (rM o (G o) i l q (plc D (fX (G o) k) l)))) i = l := by unfold lnp; rw [hii]; rfl
  refine ⟨rfl, rfl, fun x hx => ?_, fun x hx => (hq x hx).2.1, fun x hx => ?_, fun x hx => (by cases hx), fun x hx => (by cases hx), fun x hx => (s5 x hx).2.1, fun y hy => ⟨by show 2 ≤ 2; omega, ?_⟩⟩
  · cases hx; exact Or.inr s2
  · cases hx; exact Or.inl rfl
  · obtain ⟨g1, g2, g3, g4⟩ := hq y hy
    rw [el, lnp_u (ne_D hD (PN_AN g3)), lkd_u (ne_D hD (LN_AN (lnp_LN H.1 g3).2)), lkd_u (ne_D hD (LN_AN s1)), g4, s4]
theorem q251s (H : GW D G) (hR : ∀ m, m < 3 → RT D m (G m) S) (e : mdc D G a1 a2 a3 a4 = .inr (o, k, j, q)) (hl : l = (xS (fX (G o) k)).getD j 0) (hi : i = 40 * o + fK (G o) o) (W' : Wd (up D i (some (rM o (G o) i l q (plc D (fX (G o) k) l))))) : ∃ S8 S', rf_251 a1 a2 a3 a4 S = some ((), S') ∧ Sb i (rs_setI S 0 0) S8 ∧ S8.2.1 10 i = -1 ∧ S8.2.1 11 i = -1 ∧ Sk o S8 S' ∧ (∀ m, m < 3 → RT (up D i (some (rM o (G o) i l q (plc D (fX (G o) k) l)))) m (up G o (tkF (up D i (some (rM o (G o) i l q (plc D (fX (G o) k) l)))) (G o) i) m) S') ∧ GW (up D i (some (rM o (G o) i l q (plc D (fX (G o) k) l)))) (up G o (tkF (up D i (some (rM o (G o) i l q (plc D (fX (G o) k) l)))) (G o) i)) := by
  obtain ⟨e1', e2', e3', h3, hm⟩ := mdc_r e
  obtain ⟨h1, ho⟩ := ix_s (by omega) e1'
  obtain ⟨h2, hk⟩ := ix_s (by omega) e2'
  obtain ⟨hD, hi2, e1, e2, hnt, hb⟩ := GW_rdy H ho hm hi
  obtain ⟨⟨Wo, I, -⟩, -⟩ := H.2.2.2.2.2.2.2 o ho
  have Wc := Wo.2.2.2.2.2.2 k hk
  have hle := Wc.2.2.2.2.2
  obtain ⟨h4, hj⟩ := ix_s (by omega) e3'
  have hmem : l ∈ xS (fX (G o) k) := by rw [hl]; exact gl_mem hj
  have H' := GW_mk H ho hm hi W' (new_M H ho hm hi hk hmem h3)
  have hSH := (hR o ho).2.2.1 k hk
  obtain ⟨s1, s2, s3, s4, s5⟩ := shn_t I H.1 hk hmem
  have hR0 : ∀ m, m < 3 → RT D m (G m) (rs_setI S 0 0) := fun m hm => RT_I 0 0 (hR m hm)
  have f1 := q241 (hR0 o ho) H.1 H.2.1 I Wo hk h3
  have hpj : pq D (fX (G o) k) (Int32.ofNat j) = some (plc D (fX (G o) k) l) := by
    unfold pq
    rw [if_neg (fun y => i32_lt j (by omega) (by rw [y]; decide)), la_ix_of hj (by omega), hl]
    rfl
  have f2 := q241 (hR0 o ho) H.1 H.2.1 I Wo hk hpj
  have f3 := q242 (S := rs_setI S 0 0) ho hk hSH hle hj
  obtain ⟨S6, g1, g2, v1, v2, v3, v5, v6, v7, v8, v9, v10, v11, v4⟩ := q246 (kd := 2) (kv := Int32.ofNat k) (ln := some l) (hR0 o ho).1.2.2.1 ho hm (hR0 o ho).2.1 hi (fun x hx => by cases hx; exact s3)
  have g8 : Sb i (rs_setI S 0 0) (rs_setA (rs_setA S6 8 i (oi q)) 9 i (oi (plc D (fX (G o) k) l))) := Sb_tr g2 (Sb_tr (Sb_set (by omega) (by omega) (by omega)) (Sb_set (by omega) (by omega) (by omega)))
  have hii : up D i (some (rM o (G o) i l q (plc D (fX (G o) k) l))) i = some (rM o (G o) i l q (plc D (fX (G o) k) l)) := up_e
  have el : lnp (up D i (some (rM o (G o) i l q (plc D (fX (G o) k) l)))) i = l := by unfold lnp; rw [hii]; rfl
  have ek : lkd (up D i (some (rM o (G o) i l q (plc D (fX (G o) k) l)))) l = k := by rw [lkd_u (ne_D hD (LN_AN s1))]; exact s4
  have hRD : RD (up D i (some (rM o (G o) i l q (plc D (fX (G o) k) l)))) (rs_setA (rs_setA S6 8 i (oi q)) 9 i (oi (plc D (fX (G o) k) l))) := by
    refine RD_new H.1 (hR0 o ho).1.2.1 hD g8 (Or.inr ⟨?_, ?_, ?_, fun j hj => ?_, fun _ => ⟨?_, ?_⟩, fun z => ?_, fun _ => ?_, fun _ => ?_, fun _ => ?_⟩)
    · rw [set_a (by omega), set_a (by omega)]; exact v1
    · rw [set_a (by omega), set_a (by omega), v3]
      show _ = Int32.ofNat (((fC (G o) + 1) * 3 + o) / 3)
      rw [show ((fC (G o) + 1) * 3 + o) / 3 = fC (G o) + 1 by omega]
    · show ((fC (G o) + 1) * 3 + o) % 3 = i / 40
      omega
    · rw [set_a (by omega), set_a (by omega)]; exact v4 j hj
    · rw [set_a (by omega), set_a (by omega), v5, el]; rfl
    · rw [set_a (by omega), set_a (by omega), v2, el, ek]
    · have z' : 2 = 6 := z; omega
    · rw [set_a (by omega), set_a (by omega)]; exact v7
    · rw [set_a (by omega), set_e]; rfl
    · rw [set_e]; rfl
  obtain ⟨S', k1, k2, k3⟩ := RT_mk H ho hm hi H' hR0 g8 hRD
  refine ⟨_, S', ?_, g8, by rw [set_a (by omega), set_a (by omega)]; exact v10, by rw [set_a (by omega), set_a (by omega)]; exact v11, k3, k2, H'⟩
  have h75 : r251_75 (Int32.ofNat o) (Int32.ofNat k) (Int32.ofNat j) a4 (0 : Int32) S = some ((), S') := by
    unfold r251_75
    rw [rbS_r, set0]
    rw [if_pos (by decide), f1]
    try rw [rb_r]
    show rb (rf_241 (Int32.ofNat o) (Int32.ofNat k) (Int32.ofNat j) (rs_setI S 0 0)) _ = _
    rw [f2]
    try rw [rb_r]
    show rb (rf_242 (Int32.ofNat o) (Int32.ofNat k) (Int32.ofNat j) (rs_setI S 0 0)) _ = _
    rw [f3, ← hl]
    try rw [rb_r]
    show rb (rf_246 (Int32.ofNat o) (Int32.ofNat 2) (Int32.ofNat k) (oi (some l)) (rs_setI S 0 0)) _ = _
    rw [g1]
    try rw [rb_r]
    show (wr_I S6 8 (Int32.ofNat i) (oi q)).bind _ = _
    rw [wrI (n := 120) (by decide) hi2 (by omega), Option.bind_some, wrI (n := 120) (by decide) hi2 (by omega), Option.bind_some, k1]
    rfl
  have h62 : r251_62 (Int32.ofNat o) (Int32.ofNat k) (Int32.ofNat j) a4 S = some ((), S') := by
    unfold r251_62
    rw [q240 (hR o ho) Wo, if_pos hm]
    exact h75
  unfold rf_251
  rw [q237, e1']
  try rw [rb_r]
  show rb (rf_238 a2 S) _ = _
  rw [q238, e2']
  try rw [rb_r]
  show r251_19 a1 a2 a3 a4 1 S = _
  unfold r251_19
  rw [if_neg (by decide), h1, h2, q239 ho hk hSH hle, e3', h4]
  try rw [rb_r]
  have hpn := pq_n (a := a4) Wc ho hk hSH
  by_cases z : a4 = -1
  · rw [if_pos z]
    exact h62
  · rw [if_neg z]
    rw [if_neg z, h3] at hpn
    rw [hpn]
    exact h62
theorem q252t (H : GW D G) (hR : ∀ m, m < 3 → RT D m (G m) S) (e : vdc G a1 a2 a3 = .inl c) : rf_252 a1 a2 a3 S = some ((), rs_setI S 0 (Int32.ofNat c)) := by
  unfold vdc at e
  unfold rf_252
  rw [q237]
  cases e1 : la_ix a1 3 with
  | none =>
    rw [e1] at e
    cases e
    rfl
  | some o =>
    obtain ⟨h1, ho⟩ := ix_s (by omega) e1
    rw [e1] at e
    try rw [rb_r]
    show rb (rf_238 a2 S) _ = _
    rw [q238]
    cases e2 : la_ix a2 2 with
    | none =>
      simp only [Option.elim_some, e2, Option.elim_none] at e
      cases e
      rfl
    | some k =>
      obtain ⟨h2, hk⟩ := ix_s (by omega) e2
      have Wo := (H.2.2.2.2.2.2.2 o ho).1.1
      have Wc := Wo.2.2.2.2.2.2 k hk
      have hSH := (hR o ho).2.2.1 k hk
      simp only [Option.elim_some, e2] at e
      try rw [rb_r]
      show r252_19 a1 a2 a3 1 S = _
      unfold r252_19
      rw [if_neg (by decide), h1, h2, q239 ho hk hSH Wc.2.2.2.2.2]
      cases e3 : la_ix a3 (xS (fX (G o) k)).length with
      | none =>
        simp only [e3, Option.elim_none] at e
        cases e
        rfl
      | some j =>
        simp only [e3, Option.elim_some] at e
        try rw [rb_r]
        show rb (rf_240 (Int32.ofNat o) S) _ = _
        rw [q240 (hR o ho) Wo]
        by_cases z1 : fK (G o) o < 40
        · rw [if_pos z1] at e; cases e
        · rw [if_neg z1] at e
          cases e
          rw [if_neg z1]
          rfl
theorem new_G {kd : Nat} (H : GW D G) (ho : o < 3) (hm : fK (G o) o < 40) (hi : i = 40 * o + fK (G o) o) (hl : tkn (G o) l) : New D (G o) o i (rG o (G o) kd l) := ⟨rfl, rfl, fun x hx => by cases hx; exact Or.inr hl, fun x hx => (by cases hx), fun x hx => (by cases hx), fun x hx => (by cases hx), fun x hx => (by cases hx), fun x hx => (by cases hx), fun y hy => by cases hy⟩
theorem q252s (H : GW D G) (hR : ∀ m, m < 3 → RT D m (G m) S) (e : vdc G a1 a2 a3 = .inr (o, k, j)) (hl : l = (xS (fX (G o) k)).getD j 0) (hi : i = 40 * o + fK (G o) o) (W' : Wd (up D i (some (rG o (G o) 5 l)))) : ∃ S8 S', rf_252 a1 a2 a3 S = some ((), S') ∧ Sb i (rs_setI S 0 0) S8 ∧ S8.2.1 10 i = -1 ∧ S8.2.1 11 i = -1 ∧ Sk o S8 S' ∧ (∀ m, m < 3 → RT (up D i (some (rG o (G o) 5 l))) m (up G o (tkF (up D i (some (rG o (G o) 5 l))) (G o) i) m) S') ∧ GW (up D i (some (rG o (G o) 5 l))) (up G o (tkF (up D i (some (rG o (G o) 5 l))) (G o) i)) := by
  obtain ⟨e1', e2', e3', hm⟩ := vdc_r e
  obtain ⟨h1, ho⟩ := ix_s (by omega) e1'
  obtain ⟨h2, hk⟩ := ix_s (by omega) e2'
  obtain ⟨hD, hi2, e1, e2, hnt, hb⟩ := GW_rdy H ho hm hi
  obtain ⟨⟨Wo, I, -⟩, -⟩ := H.2.2.2.2.2.2.2 o ho
  have Wc := Wo.2.2.2.2.2.2 k hk
  have hle := Wc.2.2.2.2.2
  obtain ⟨h4, hj⟩ := ix_s (by omega) e3'
  have hmem : l ∈ xS (fX (G o) k) := by rw [hl]; exact gl_mem hj
  obtain ⟨s1, s2, s3, s4, s5⟩ := shn_t I H.1 hk hmem
  have H' := GW_mk H ho hm hi W' (new_G H ho hm hi s2)
  have hSH := (hR o ho).2.2.1 k hk
  have hR0 : ∀ m, m < 3 → RT D m (G m) (rs_setI S 0 0) := fun m hm => RT_I 0 0 (hR m hm)
  have f3 := q242 (S := rs_setI S 0 0) ho hk hSH hle hj
  obtain ⟨S6, g1, g8, v1, v2, v3, v5, v6, v7, v8, v9, v10, v11, v4⟩ := q246 (kd := 5) (kv := Int32.ofNat k) (ln := some l) (hR0 o ho).1.2.2.1 ho hm (hR0 o ho).2.1 hi (fun x hx => by cases hx; exact s3)
  have hii : up D i (some (rG o (G o) 5 l)) i = some (rG o (G o) 5 l) := up_e
  have el : lnp (up D i (some (rG o (G o) 5 l))) i = l := by unfold lnp; rw [hii]; rfl
  have ek : lkd (up D i (some (rG o (G o) 5 l))) l = k := by rw [lkd_u (ne_D hD (LN_AN s1))]; exact s4
  have hRD : RD (up D i (some (rG o (G o) 5 l))) S6 := by
    refine RD_new H.1 (hR0 o ho).1.2.1 hD g8 (Or.inr ⟨v1, ?_, ?_, v4, fun _ => ⟨?_, ?_⟩, fun z => ?_, fun z => ?_, fun z => ?_, fun z => ?_⟩)
    · rw [v3]
      show _ = Int32.ofNat (((fC (G o) + 1) * 3 + o) / 3)
      rw [show ((fC (G o) + 1) * 3 + o) / 3 = fC (G o) + 1 by omega]
    · show ((fC (G o) + 1) * 3 + o) % 3 = i / 40
      omega
    · rw [v5, el]; rfl
    · rw [v2, el, ek]
    · have z' : 5 = 6 := z; omega
    · have z' : 5 ≤ 3 := z; omega
    · have z' : 5 ≤ 2 := z; omega
    · rcases z with z | z
      · have z' : 5 = 2 := z; omega
      · have z' : 5 = 3 := z; omega
  obtain ⟨S', k1, k2, k3⟩ := RT_mk H ho hm hi H' hR0 g8 hRD
  refine ⟨S6, S', ?_, g8, v10, v11, k3, k2, H'⟩
  unfold rf_252
  rw [q237, e1']
  try rw [rb_r]
  show rb (rf_238 a2 S) _ = _
  rw [q238, e2']
  try rw [rb_r]
  show r252_19 a1 a2 a3 1 S = _
  unfold r252_19
  rw [if_neg (by decide), h1, h2, q239 ho hk hSH hle, e3', h4]
  try rw [rb_r]
  show rb (rf_240 (Int32.ofNat o) S) _ = _
  rw [q240 (hR o ho) Wo, if_pos hm]
  try rw [rb_r]
  show r252_58 (Int32.ofNat o) (Int32.ofNat k) (Int32.ofNat j) 0 S = _
  unfold r252_58
  first | rw [rbS_r, set0] | rw [rb_r]
  rw [if_pos rfl, f3, ← hl]
  try rw [rb_r]
  show rb (rf_246 (Int32.ofNat o) (Int32.ofNat 5) (Int32.ofNat k) (oi (some l)) (rs_setI S 0 0)) _ = _
  rw [g1]
  try rw [rb_r]
  show rb (rf_247 (Int32.ofNat o) (Int32.ofNat i) S6) _ = _
  rw [k1]
  rfl
end RMV
