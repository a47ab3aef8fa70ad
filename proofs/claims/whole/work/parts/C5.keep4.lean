/-! ONE MORE act is made: what an office that has not taken it holds stays -/
section KP4
variable {D : aD} {F : fo} {o i j l k b p q x y z : Nat} {r : rc} {L : List Nat} {X : ax}
theorem find_cg {f g : Nat → Bool} : ∀ L : List Nat, (∀ x ∈ L, f x = g x) → L.find? f = L.find? g
  | [], _ => rfl
  | x :: L, h => by
    rw [List.find?_cons, List.find?_cons, h x List.mem_cons_self, find_cg L (fun y hy => h y (List.mem_cons_of_mem _ hy))]
theorem stp_u (h : j ≠ i) : stp (up D i (some r)) j = stp D j := by unfold stp; rw [up_n h]
theorem knd_u (h : j ≠ i) : knd (up D i (some r)) j = knd D j := by unfold knd; rw [up_n h]
theorem lnp_u (h : j ≠ i) : lnp (up D i (some r)) j = lnp D j := by unfold lnp; rw [up_n h]
theorem lkd_u (h : j ≠ i) : lkd (up D i (some r)) j = lkd D j := by unfold lkd; rw [up_n h]
theorem qL_u (hn : ¬ tkn F i) : qL (up D i (some r)) F b l j = qL D F b l j := by
  by_cases e : j = i
  · subst e
    have h : tkB F j = false := by
      cases hb : tkB F j with
      | false => rfl
      | true => exact absurd (tkB_t.mp hb) hn
    unfold qL
    rw [h]
    rfl
  · unfold qL
    rw [knd_u e, up_n e]
theorem qW_u (hn : ¬ tkn F i) : qW (up D i (some r)) F y z j = qW D F y z j := by
  by_cases e : j = i
  · subst e
    have h : tkB F j = false := by
      cases hb : tkB F j with
      | false => rfl
      | true => exact absurd (tkB_t.mp hb) hn
    unfold qW
    rw [h]
    rfl
  · unfold qW
    rw [knd_u e, up_n e]
theorem qL_n (hn : ¬ tkn F i) (h : qL D F b l j = true) : j ≠ i := by
  intro e
  subst e
  unfold qL at h
  simp only [Bool.and_eq_true] at h
  exact hn (tkB_t.mp h.1)
theorem qW_n (hn : ¬ tkn F i) (h : qW D F y z j = true) : j ≠ i := by
  intro e
  subst e
  unfold qW at h
  simp only [Bool.and_eq_true] at h
  exact hn (tkB_t.mp h.1)
theorem lat_u {Q : Nat → Prop} {c : Option Nat} (hQ : ∀ j, Q j → j ≠ i) (h : LatOf D Q c) : LatOf (up D i (some r)) Q c := by
  cases c with
  | none => exact h
  | some b => exact ⟨h.1, fun j hj => by rw [stp_u (hQ j hj), stp_u (hQ b h.1)]; exact h.2 j hj⟩
theorem pth_u (W : Wd D) (hD : D i = none) : ∀ n x, AN D x → pth (up D i (some r)) n x = pth D n x := by
  intro n
  induction n with
  | zero => intro x _; rfl
  | succ n ih =>
    intro x hx
    have hne := ne_D hD hx
    rw [pth, pth, up_n hne, stp_u hne]
    cases e : (D x).bind raf with
    | none => rfl
    | some y =>
      show pth (up D i (some r)) n y ++ _ = pth D n y ++ _
      rw [ih y (pR_lt W hx y e).2]
theorem OI_up (W : Wd D) (hD : D i = none) (hn : ¬ tkn F i) (hT : ∀ j, j < 120 → tkn F j → AN D j) (Wff : Wf D o F) (I : OI D F) : OI (up D i (some r)) F := by
  obtain ⟨N, hc, hw, hx⟩ := I
  refine ⟨N, ?_, fun y z => ?_, fun k hk => ?_⟩
  · intro j q hq hj
    have e : j ≠ i := by intro e; rw [e] at hj; exact hn hj
    rw [up_n e] at hq
    exact hc j q hq hj
  · have e : wtc (up D i (some r)) F y z = wtc D F y z := by
      unfold wtc
      refine find_cg _ (fun x hx => ?_)
      have hne : x ≠ i := by intro e; rw [e] at hx; exact hn (N.2.2 i hx)
      unfold wrB
      rw [up_n hne]
    rw [e]
    have h1 : LatOf (up D i (some r)) (fun j => j < 120 ∧ qW D F y z j = true) (wtc D F y z) := lat_u (fun j hj => qW_n hn hj.2) (hw y z).1
    have ef : (fW F).filter (wrB (up D i (some r)) y z) = (fW F).filter (wrB D y z) := by
      refine List.filter_congr (fun x hx => ?_)
      have hne : x ≠ i := by intro e; rw [e] at hx; exact hn (N.2.2 i hx)
      unfold wrB
      rw [up_n hne]
    refine ⟨?_, by rw [ef]; exact (hw y z).2⟩
    refine lat_ext h1 (fun j => ?_)
    rw [qW_u hn]
  · obtain ⟨x1, x2, x3, x4⟩ := hx k hk
    have hAN : ∀ p ∈ xO (fX F k), AN D p := fun p hp => PN_AN ((x1.1 p).mp hp).2.2.1
    have hkk : ∀ j, tkn F j → j < 120 → PN D j → lkd (up D i (some r)) (lnp D j) = lkd D (lnp D j) := fun j h1 h2 h3 => lkd_u (ne_D hD (LN_AN (lnp_LN W h3).2))
    have hxP : ∀ l c, xP (fX F k) l = some c → c ≠ i := fun l c e => by
      have := (x2 l).1
      rw [e] at this
      exact qL_n hn this.1.2.1
    have hxB : ∀ l c, xB (fX F k) l = some c → c ≠ i := fun l c e => by
      have := (x2 l).2
      rw [e] at this
      exact qL_n hn this.1.2.1
    have hemp : ∀ b l j, j < 120 → qL D F b l j = true → l ≠ i := by
      intro b l j h1 h2 e
      subst e
      unfold qL at h2
      simp only [Bool.and_eq_true, decide_eq_true_eq] at h2
      obtain ⟨q, hq⟩ := hT j h1 (tkB_t.mp h2.1)
      rw [hq] at h2
      obtain ⟨q2, hq2, -⟩ := (W j q hq).2.2.2.2.2.1 l h2.2.2
      rw [hD] at hq2
      cases hq2
    have hLX : ∀ b l c, LatOf D (fun j => j < 120 ∧ qL D F b l j = true ∧ lkd D l = k) c → LatOf (up D i (some r)) (fun j => j < 120 ∧ qL (up D i (some r)) F b l j = true ∧ lkd (up D i (some r)) l = k) c := by
      intro b l c h
      have h1 : LatOf (up D i (some r)) (fun j => j < 120 ∧ qL D F b l j = true ∧ lkd D l = k) c := lat_u (fun j hj => qL_n hn hj.2.1) h
      refine lat_ext h1 (fun j => ?_)
      rw [qL_u hn]
      constructor
      · rintro ⟨g1, g2, g3⟩
        exact ⟨g1, g2, by rw [lkd_u (hemp b l j g1 g2)] at g3; exact g3⟩
      · rintro ⟨g1, g2, g3⟩
        exact ⟨g1, g2, by rw [lkd_u (hemp b l j g1 g2)]; exact g3⟩
    have hsh : ∀ (L : List Nat) (s : List Nat × (Nat → Int32)), (∀ p ∈ L, p ∈ xO (fX F k)) → shl (up D i (some r)) (fX F k) L s = shl D (fX F k) L s := by
      intro L
      induction L with
      | nil => intro s _; rfl
      | cons p L ih =>
        intro s h
        have hpi := ne_D hD (hAN p (h p List.mem_cons_self))
        have e1 : shs (up D i (some r)) (fX F k) s p = shs D (fX F k) s p := by
          unfold shs
          have e2 : plc (up D i (some r)) (fX F k) (lnp D p) = plc D (fX F k) (lnp D p) := by
            unfold plc
            cases e : xP (fX F k) (lnp D p) with
            | none => rfl
            | some c =>
              show (up D i (some r) c).bind rpl = (D c).bind rpl
              rw [up_n (hxP _ c e)]
          have e3 : thr (up D i (some r)) (fX F k) (lnp D p) = thr D (fX F k) (lnp D p) := by
            unfold thr
            cases e : xB (fX F k) (lnp D p) with
            | none => rfl
            | some c =>
              show decide (knd (up D i (some r)) c ≠ 5) = decide (knd D c ≠ 5)
              rw [knd_u (hxB _ c e)]
          rw [lnp_u hpi, e2, e3]
        show shl (up D i (some r)) (fX F k) L (shs (up D i (some r)) (fX F k) s p) = shl D (fX F k) L (shs D (fX F k) s p)
        rw [e1]
        exact ih _ (fun q hq => h q (List.mem_cons_of_mem _ hq))
    have hsw : shw (up D i (some r)) (fX F k) = shw D (fX F k) := by
      unfold shw
      rw [hsh _ _ (fun p hp => hp)]
    refine ⟨⟨fun p => ?_, ?_, x1.2.2⟩, fun l => ⟨hLX 1 l _ (x2 l).1, hLX 0 l _ (x2 l).2⟩, ?_, ?_⟩
    · rw [x1.1 p]
      constructor
      · rintro ⟨g1, g2, g3, g4⟩
        have hne := ne_D hD (PN_AN g3)
        exact ⟨g1, g2, PN_up hD g3, by rw [lnp_u hne, hkk p g2 g1 g3]; exact g4⟩
      · rintro ⟨g1, g2, g3, g4⟩
        have hne : p ≠ i := by intro e; rw [e] at g2; exact hn g2
        obtain ⟨q, hq, hq2⟩ := g3
        rw [up_n hne] at hq
        rw [lnp_u hne, hkk p g2 g1 ⟨q, hq, hq2⟩] at g4
        exact ⟨g1, g2, ⟨q, hq, hq2⟩, g4⟩
    · refine List.Pairwise.imp_of_mem ?_ x1.2.1
      intro a c ha hcc h
      show lx (pth (up D i (some r)) 400 a) (pth (up D i (some r)) 400 c)
      rw [pth_u W hD 400 a (hAN a ha), pth_u W hD 400 c (hAN c hcc)]
      exact h
    · rw [hsw]; exact x3
    · rw [hsw]; exact x4
end KP4
