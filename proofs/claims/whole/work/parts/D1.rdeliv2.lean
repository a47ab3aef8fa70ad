/-! THE REFERENCE delivers an act: the loop, the whole -/
section RD2
variable {D : aD} {G : Nat → fo} {S S' S2 : rs_S} {F F' : fo} {o o' i j l k m p q x y z : Nat} {r : rc} {a1 a2 a3 : Int32}
theorem q256p (R : RT D o F S) (Wff : Wf D o F) (W : Wd D) {n : Nat} (hq : q < 3) : ∃ s, r256_119 (n + 1) (Int32.ofNat o) (Int32.ofNat i) (Int32.ofNat q) S = r256_164 (r256_119 n) (Int32.ofNat o) (Int32.ofNat i) s S ∧ ((fsr D F = none ∧ s = -1) ∨ ∃ m, m < 3 ∧ s = Int32.ofNat m ∧ fsr D F = some (40 * m + fK F m)) := by
  have e0 := q257 (m := 0) R Wff W (by omega)
  have e1 := q257 (m := 1) R Wff W (by omega)
  have e2 := q257 (m := 2) R Wff W (by omega)
  have e0' : rf_257 (Int32.ofNat o) (0 : Int32) S = some ((if cnd D F 0 = true then 1 else 0), S) := e0
  have e1' : rf_257 (Int32.ofNat o) (1 : Int32) S = some ((if cnd D F 1 = true then 1 else 0), S) := e1
  have e2' : rf_257 (Int32.ofNat o) (2 : Int32) S = some ((if cnd D F 2 = true then 1 else 0), S) := e2
  rw [r256_119]
  dsimp only
  rw [if_neg (i32_lt q (by omega)), e0']
  unfold fsr
  by_cases z0 : cnd D F 0 = true
  · rw [if_pos z0, if_pos z0]
    exact ⟨0, rfl, Or.inr ⟨0, by omega, rfl, rfl⟩⟩
  · rw [if_neg z0, if_neg z0]
    rw [rb_r]
    rw [if_pos rfl, e1']
    by_cases z1 : cnd D F 1 = true
    · rw [if_pos z1, if_pos z1]
      exact ⟨1, rfl, Or.inr ⟨1, by omega, rfl, rfl⟩⟩
    · rw [if_neg z1, if_neg z1]
      rw [rb_r]
      rw [if_pos rfl, e2']
      by_cases z2 : cnd D F 2 = true
      · rw [if_pos z2, if_pos z2]
        exact ⟨2, rfl, Or.inr ⟨2, by omega, rfl, rfl⟩⟩
      · rw [if_neg z2, if_neg z2]
        exact ⟨-1, rfl, Or.inl ⟨rfl, rfl⟩⟩
theorem q256l (H : GW D G) (hi : i < 120) : ∀ n F S q m, G1 D G o F → RT D o F S → 120 ≤ cK F + n → n + 1 < m → q < 3 → ∃ S', r256_119 m (Int32.ofNat o) (Int32.ofNat i) (Int32.ofNat q) S = some ((if tkB (tkW D n F) i = true then 1 else 2), S') ∧ RT D o (tkW D n F) S' ∧ Sr o S S' ∧ (fK (tkW D n F) = fK F ∨ S'.1 31 ≠ Int32.ofNat o) := by
  have fin : ∀ F S m, RT D o F S → 1 < m + 1 → r256_164 (r256_119 m) (Int32.ofNat o) (Int32.ofNat i) (-1) S = some ((if tkB F i = true then 1 else 2), S) := by
    intro F S m R hm
    unfold r256_164
    rw [if_pos (by decide)]
    cases m with
    | zero => omega
    | succ m =>
      rw [r256_119]
      dsimp only
      rw [if_pos (by decide), q244 R.1 hi]
      by_cases z : tkB F i = true
      · rw [if_pos z, if_pos z]; rfl
      · rw [if_neg z, if_neg z]; rfl
  intro n
  induction n with
  | zero =>
    intro F S q m I R h1 h2 hq
    have f0 := tkW_end H 0 F I (by omega)
    cases m with
    | zero => omega
    | succ m =>
      obtain ⟨s, e, g⟩ := q256p (i := i) (n := m) R I.1 H.1 hq
      rcases g with ⟨g1, g2⟩ | ⟨m', g1, g2, g3⟩
      · rw [e, g2, fin F S m R (by omega)]
        exact ⟨S, rfl, R, Sr_refl, Or.inl rfl⟩
      · have f0' : fsr D F = none := f0
        rw [f0'] at g3
        cases g3
  | succ n ih =>
    intro F S q m I R h1 h2 hq
    cases m with
    | zero => omega
    | succ m =>
      obtain ⟨s, e, g⟩ := q256p (i := i) (n := m) R I.1 H.1 hq
      rcases g with ⟨g1, g2⟩ | ⟨m', g1, g2, g3⟩
      · rw [e, g2, fin F S m R (by omega), tkW, g1]
        exact ⟨S, rfl, R, Sr_refl, Or.inl rfl⟩
      · obtain ⟨⟨r, hi'⟩, b2, b3, b4, b5⟩ := G1_fsr I g3
        have hi120 := (H.1 _ r hi').1
        have ho := R.1.1
        obtain ⟨S1, c1, c2, c3, c4⟩ := q256t H I R hi' b2 b4 b5
        have I1 := G1_tk H I hi' b2 b4 b5
        obtain ⟨S2, d1, d2, d3, d4⟩ := ih (tkF D F (40 * m' + fK F m')) S1 m' m I1 c2 (by rw [cK_tk b2 hi120]; omega) (by omega) g1
        have ix : ((3 : Int32) * Int32.ofNat o) + Int32.ofNat m' = Int32.ofNat (3 * o + m') := by
          rw [show (3 : Int32) * Int32.ofNat o = Int32.ofNat (3 * o) from i32_ml 3 o, i32_add]
        have ii : ((40 : Int32) * Int32.ofNat m') + Int32.ofNat (fK F m') = Int32.ofNat (40 * m' + fK F m') := by
          rw [show (40 : Int32) * Int32.ofNat m' = Int32.ofNat (40 * m') from i32_ml 40 m', i32_add]
        have iw : ((120 : Int32) * Int32.ofNat o) + Int32.ofNat (40 * m' + fK F m') = Int32.ofNat (120 * o + (40 * m' + fK F m')) := by
          rw [show (120 : Int32) * Int32.ofNat o = Int32.ofNat (120 * o) from i32_ml 120 o, i32_add]
        have hk := R.1.2.2.1 m' g1
        have e164 : r256_164 (r256_119 m) (Int32.ofNat o) (Int32.ofNat i) s S = r256_119 m (Int32.ofNat o) (Int32.ofNat i) (Int32.ofNat m') S1 := by
          unfold r256_164
          rw [g2, if_neg (i32_lt m' (by omega)), ix, rdI (n := 9) (by decide) (by omega) (by omega), Option.bind_some, hk, ii, iw, wrZ (n := 360) (Or.inl rfl) (by decide) (by omega) (by omega), Option.bind_some, c1]
          rfl
        rw [e, e164, tkW, g3]
        refine ⟨S2, d1, d2, Sr_tr c3 d3, Or.inr ?_⟩
        rcases d3.2.2.1 with w | w
        · rw [w]; exact c4
        · rw [w]
          exact fun e => i32_lt o (by omega) (by rw [← e]; decide)
theorem tkW_tkn (H : GW D G) : ∀ n F, G1 D G o F → tkn F x → tkn (tkW D n F) x
  | 0, F, _, h => h
  | n + 1, F, I, h => by
    rw [tkW]
    cases e : fsr D F with
    | none => exact h
    | some i =>
      obtain ⟨⟨r, hi⟩, h2, h3, h4, h5⟩ := G1_fsr I e
      exact tkW_tkn H n _ (G1_tk H I hi h2 h4 h5) ((tkn_tk h2).mpr (Or.inl h))
theorem q237 {a : Int32} : rf_237 a S = some ((if (la_ix a 3).isSome = true then 1 else 0), S) := by
  unfold rf_237
  cases e : la_ix a 3 with
  | none =>
    by_cases q : a < 0
    · rw [if_pos q]; rfl
    · have h := ix_n (by omega) e q
      rw [if_neg q, if_pos (show (3 : Int32) ≤ a from Int32.not_lt.mp h)]; rfl
  | some o =>
    obtain ⟨rfl, ho⟩ := ix_s (by omega) e
    rw [if_neg (i32_lt o (by omega)), if_neg (show ¬ (3 : Int32) ≤ Int32.ofNat o from fun z => by have := (i32_len (a := 3) (by omega) (by omega)).mp z; omega)]
    rfl
/-- a received act, by rcv -/
theorem q256r (H : GW D G) (ho : o < 3) (R : RT D o (G o) S) (hi : D i = some r) (hno : i / 40 ≠ o) (hA : fA (G o) i = false) : ∃ S', r256_119 lf_N (Int32.ofNat o) (Int32.ofNat i) (0 : Int32) (rs_setA S 18 (120 * o + i) 1) = some (Int32.ofNat (rcv D (G o) i).1, S') ∧ RT D o (rcv D (G o) i).2 S' ∧ Sr o S S' ∧ (fK (rcv D (G o) i).2 = fK (G o) ∨ S'.1 31 ≠ Int32.ofNat o) := by
  obtain ⟨I, f0⟩ := H.2.2.2.2.2.2.2 o ho
  have hi120 := (H.1 i r hi).1
  have IA := G1_rcA I hi hno
  have hnt : ¬ tkn (G o) i := fun t => by
    have := (I.2.2.1 i hi120 t).1
    rw [hA] at this
    cases this
  have hntB : tkB (G o) i = false := by
    cases g : tkB (G o) i with
    | false => rfl
    | true => exact absurd (tkB_t.mp g) hnt
  have sr0 : Sr o S (rs_setA S 18 (120 * o + i) 1) := ⟨rfl, fun _ _ => rfl, Or.inl rfl, fun a j _ _ n3 _ _ => if_neg (fun e => n3 ⟨e.1, by have := e.2; omega, by have := e.2; omega⟩)⟩
  have RA : RT D o (rcA (G o) i) (rs_setA S 18 (120 * o + i) 1) := by
    obtain ⟨⟨a1, a2, a3, a4, a5⟩, hT, hSH, hw⟩ := R
    refine ⟨⟨a1, RD_n (fun n i _ _ h _ _ => set_a h) a2, fun j hj => by rw [set_a (by omega)]; exact a3 j hj, a4, a5⟩, by rw [set_a (by omega)]; exact hT, fun k hk => ⟨by rw [set_a (by omega)]; exact (hSH k hk).1, fun j hj => by rw [set_a (by omega)]; exact (hSH k hk).2 j hj⟩, fun j hj => ?_⟩
    show _ = if (up (fA (G o)) i true j && !tkB (G o) j) = true then 1 else 0
    by_cases e : j = i
    · subst e
      rw [set_e, up_e, hntB]
      rfl
    · rw [set_i (by omega), up_n e]
      exact hw j hj
  obtain ⟨S', e1, e2, e3, e4⟩ := q256l H hi120 121 (rcA (G o) i) _ 0 lf_N IA RA (by omega) (by unfold lf_N; omega) (by omega)
  have key : rcv D (G o) i = ((if tkB (tkW D 121 (rcA (G o) i)) i = true then 1 else 2), tkW D 121 (rcA (G o) i)) := by
    unfold rcv
    rw [if_neg (by rw [hA]; decide)]
    by_cases z2 : rdy D (G o) i = true
    · have hn : i % 40 = fK (rcA (G o) i) (i / 40) := by
        have h2 : rpa r (i / 40) ≤ fK (G o) (i / 40) := rdy_le hi z2 _ (by omega)
        rw [H.2.2.2.1 i r hi] at h2
        unfold tkn at hnt
        show i % 40 = fK (G o) (i / 40)
        omega
      have hc : ∀ m, m < 3 → cnd D (rcA (G o) i) m = if i / 40 = m then true else false := by
        intro m hm
        have hcm := fsr_cnd f0 m hm
        have er : rdy D (rcA (G o) i) (40 * m + fK (G o) m) = rdy D (G o) (40 * m + fK (G o) m) := rfl
        have hn' : i % 40 = fK (G o) (i / 40) := hn
        unfold cnd at hcm ⊢
        show (decide (fK (G o) m < 40) && (up (fA (G o)) i true (40 * m + fK (G o) m) && rdy D (rcA (G o) i) (40 * m + fK (G o) m))) = _
        rw [er]
        by_cases g : i / 40 = m
        · have h40 : 40 * m + fK (G o) m = i := by rw [← g, ← hn']; omega
          rw [if_pos g, h40, up_e, z2, decide_eq_true (show fK (G o) m < 40 by rw [← g, ← hn']; omega)]
          rfl
        · rw [if_neg g]
          by_cases g2 : fK (G o) m < 40
          · rw [up_n (by omega)]
            exact hcm
          · rw [decide_eq_false g2]
            rfl
      have hf : fsr D (rcA (G o) i) = some i := by
        have hn' : i % 40 = fK (G o) (i / 40) := hn
        unfold fsr
        rw [hc 0 (by omega), hc 1 (by omega), hc 2 (by omega)]
        show (if (if i / 40 = 0 then true else false) = true then some (40 * 0 + fK (G o) 0) else if (if i / 40 = 1 then true else false) = true then some (40 * 1 + fK (G o) 1) else if (if i / 40 = 2 then true else false) = true then some (40 * 2 + fK (G o) 2) else none) = some i
        have h3 : i / 40 = 0 ∨ i / 40 = 1 ∨ i / 40 = 2 := by omega
        rcases h3 with e | e | e
        · rw [e] at hn' ⊢
          rw [if_pos (by rfl), ← hn', show 40 * 0 + i % 40 = i by omega]
        · rw [e] at hn' ⊢
          rw [if_neg (by decide), if_pos (by rfl), ← hn', show 40 * 1 + i % 40 = i by omega]
        · rw [e] at hn' ⊢
          rw [if_neg (by decide), if_neg (by decide), if_pos (by rfl), ← hn', show 40 * 2 + i % 40 = i by omega]
      have hW : tkW D 121 (rcA (G o) i) = tkW D 120 (tkF D (rcA (G o) i) i) := by
        show tkW D (120 + 1) (rcA (G o) i) = _
        rw [tkW, hf]
      have IT := G1_tk H IA hi hn (show rdy D (rcA (G o) i) i = true from z2) hno
      have ht : tkB (tkW D 120 (tkF D (rcA (G o) i) i)) i = true := tkB_t.mpr (tkW_tkn H 120 _ IT ((tkn_tk hn).mpr (Or.inr rfl)))
      rw [if_pos z2, hW, if_pos ht]
    · have hf := (G1_rcv H ho hi hno).2
      unfold rcv at hf
      rw [if_neg (by rw [hA]; decide), if_neg z2] at hf
      have hf' : fsr D (rcA (G o) i) = none := hf
      have hW : tkW D 121 (rcA (G o) i) = rcA (G o) i := by
        show tkW D (120 + 1) (rcA (G o) i) = _
        rw [tkW, hf']
      have ht : tkB (rcA (G o) i) i = false := hntB
      rw [if_neg z2, hW, ht, if_neg (by decide)]
  rw [key]
  refine ⟨S', ?_, e2, Sr_tr sr0 e3, e4⟩
  have e1' : r256_119 lf_N (Int32.ofNat o) (Int32.ofNat i) (0 : Int32) (rs_setA S 18 (120 * o + i) 1) = some ((if tkB (tkW D 121 (rcA (G o) i)) i = true then 1 else 2), S') := e1
  rw [e1']
  split <;> rfl
end RD2
