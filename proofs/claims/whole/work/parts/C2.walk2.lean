/-! SHOWING: the walk -/
section NXN
variable {par : Nat → Option Nat} {m : Nat → Nat} {P : Nat → List Nat} {L : List Nat} {x y p : Nat}
theorem nx_none (K : Pok par m P L) {H B : List Nat} (hL : L = H ++ x :: B) (hs : L.Pairwise (fun x y => lx (P x) (P y))) (hB : ∀ v B', B = v :: B' → ∀ a u, P v ≠ P x ++ a :: u) : chi par m L (some x) (fun _ => True) none := by
  have hs' := hs
  rw [hL, List.pairwise_append, List.pairwise_cons] at hs'
  obtain ⟨-, ⟨s2, s3⟩, s5⟩ := hs'
  intro z hz hp _
  have ez := K.1 z hz
  rw [hp] at ez
  have ez' : P z = P x ++ [m z] := ez
  have hxz : lx (P x) (P z) := by rw [ez']; exact lx_pre _ _ _
  have hzB : z ∈ B := by
    rw [hL] at hz
    rcases List.mem_append.mp hz with g | g
    · exact absurd (lx_tr _ _ _ hxz (s5 z g x List.mem_cons_self)) (lx_irr _)
    · rcases List.mem_cons.mp g with g | g
      · rw [g] at hxz; exact absurd hxz (lx_irr _)
      · exact g
  cases hb : B with
  | nil => rw [hb] at hzB; cases hzB
  | cons v B' =>
    rw [hb] at hzB s2 s3
    rcases List.mem_cons.mp hzB with g | g
    · exact hB v B' hb (m z) [] (by rw [← g]; exact ez')
    · have hvz := (List.pairwise_cons.mp s3).1 z g
      rcases lx_dec _ _ (s2 v List.mem_cons_self) with ⟨a, u, g2⟩ | ⟨c, a, s', b, t', g1, g2, g3⟩
      · exact hB v B' hb a u g2
      · rw [ez', g1, g2] at hvz
        have h2 : lx (c ++ a :: s' ++ [m z]) (c ++ b :: t') := by
          have e : c ++ a :: s' ++ [m z] = c ++ a :: (s' ++ [m z]) := by simp
          rw [e]
          exact lx_dv g3
        exact lx_irr _ (lx_tr _ _ _ hvz h2)
theorem nx_root (K : Pok par m P L) (hs : L.Pairwise (fun x y => lx (P x) (P y))) : chi par m L none (fun _ => True) L.head? := by
  cases hb : L with
  | nil => exact fun z hz _ _ => by cases hz
  | cons v B =>
    have hv : v ∈ L := by rw [hb]; exact List.mem_cons_self
    have hs' := hs
    rw [hb, List.pairwise_cons] at hs'
    obtain ⟨s2, -⟩ := hs'
    have hle : ∀ z ∈ L, z = v ∨ lx (P v) (P z) := by
      intro z hz
      rw [hb] at hz
      rcases List.mem_cons.mp hz with g | g
      · exact Or.inl g
      · exact Or.inr (s2 z g)
    have hne : ∃ b t, P v = b :: t := by
      have := K.1 v hv
      cases hvv : P v with
      | nil => rw [hvv] at this; simp at this
      | cons b t => exact ⟨b, t, rfl⟩
    obtain ⟨b, t, hbt⟩ := hne
    obtain ⟨w, a1, a2, a3, a4⟩ := pa_in K _ t v [] b rfl hv hbt
    have hwv : w = v := by
      rcases hle w a1 with g | g
      · exact g
      · exfalso
        rw [a2, hbt] at g
        cases t with
        | nil => exact lx_irr _ g
        | cons d t =>
          have h1 : lx [b] (b :: d :: t) := lx_pre [b] d t
          exact lx_irr _ (lx_tr _ _ _ h1 g)
    subst hwv
    have hpar : par w = none := pa_par K (q := none) hv (fun z hz => by cases hz) (by rw [a2, a3]; rfl)
    rw [hb] at hv hle
    refine ⟨hv, hpar, trivial, fun z hz hpz _ => ?_⟩
    rcases hle z hz with g | g
    · rw [g]; exact Nat.le_refl _
    · have ez := K.1 z (by rw [hb]; exact hz)
      rw [hpz] at ez
      have ez' : P z = [m z] := ez
      rw [a2, ez'] at g
      have g2 : lx [b] [m z] := g
      rw [lx] at g2
      rcases g2 with g2 | g2
      · omega
      · omega
theorem chi_ext {a c : Option Nat} {b b' : Nat → Prop} (h : ∀ z ∈ L, b z ↔ b' z) (hc : chi par m L a b c) : chi par m L a b' c := by
  cases c with
  | none => exact fun z hz hp hb => hc z hz hp ((h z hz).mpr hb)
  | some v =>
    obtain ⟨h1, h2, h3, h4⟩ := hc
    exact ⟨h1, h2, (h v h1).mp h3, fun z hz hp hb => h4 z hz hp ((h z hz).mpr hb)⟩
end NXN
section WK2
variable {D : aD} {S S' : rs_S} {F : fo} {o i j l k b bd p q x y z : Nat} {r : rc} {a : Option Nat} {L Ls H B : List Nat} {X : ax} {f : Nat → Int32}
theorem pR_lt (W : Wd D) (hx : AN D x) : ∀ y, pR D x = some y → y < 120 ∧ AN D y := by
  obtain ⟨r, hr⟩ := hx
  intro y hy
  have e' : raf r = some y := by
    have : (D x).bind raf = some y := hy
    rw [hr] at this
    exact this
  obtain ⟨q, hq, -⟩ := (W x r hr).2.2.2.2.2.2.2.2.1 y e'
  exact ⟨(W y q hq).1, ⟨q, hq⟩⟩
theorem rd8 (R : RO D o F S) (W : Wd D) (hp : PN D p) : rd_I S 8 (Int32.ofNat p) = some (oi (pR D p)) := by
  obtain ⟨r, hr, hk2⟩ := hp
  rw [rdI (n := 120) (by decide) (W p r hr).1 (by omega), (R.2.1 p r hr).2.2.2.2.2.2.2.1 hk2]
  show _ = some (oi ((D p).bind raf))
  rw [hr]
  rfl
theorem q248c (R : RO D o F S) (W : Wd D) (hs : WS D) (O : OX D F k L) (K : Pok (pR D) (pM D) (pP D) L) (hk : k < 2) (hL : L = H ++ x :: B) (J : Int32 → Int32 → Int32 → rs_S → Option (Unit × rs_S)) : ∀ n y, (pP D y).length < n → y ∈ L → (∃ s, pP D x = pP D y ++ s) → (∀ v B', B = v :: B' → ∀ u, pP D v ≠ pP D y ++ u) → r248_48 J n (Int32.ofNat o) (Int32.ofNat k) (-1) (Int32.ofNat y) S = J (Int32.ofNat o) (Int32.ofNat k) (oi B.head?) S := by
  intro n
  induction n with
  | zero => intro y h1; omega
  | succ n ih =>
    intro y h1 hy ⟨s, hxy⟩ hB
    have hyp := (O.1 y).mp hy
    have han := PN_AN hyp.2.2.1
    obtain ⟨r, hr⟩ := han
    have hky := (kyi_b W ⟨r, hr⟩)
    have ey := K.1 y hy
    have hn : 1 ≤ n := by
      rw [ey, List.length_append] at h1
      simp at h1
      omega
    have hc : ∀ z ∈ L, (pM D y < pM D z) ↔ kyi D z < kyi D y := by
      intro z hz
      have b2 := (kyi_b W (PN_AN ((O.1 z).mp hz).2.2.1)).2
      have b3 := @kyi_lt D y z
      show 1000 - stp D y < 1000 - stp D z ↔ _
      omega
    rw [r248_48]
    dsimp only
    rw [if_neg (by decide), if_neg (i32_lt y (by omega)), rd8 R W hyp.2.2.1, Option.bind_some, (q245 R.2.1 W hr).1]
    have hlt : ∀ z, pR D y = some z → z < 120 := fun z hz => (pR_lt W ⟨r, hr⟩ z hz).1
    rcases nx_up K hL O.2.1 hy hxy hB with ⟨v, B', hb, hv⟩ | ⟨hv, h0, hq⟩
    · have e := q249x R W hs O hk (bd := kyi D y) (by omega) hlt (chi_ext hc hv)
      try rw [rb_r]
      show rb (rf_249 (Int32.ofNat o) (Int32.ofNat k) (oi (pR D y)) (Int32.ofNat (kyi D y)) S) _ = _
      rw [e]
      try rw [rb_r]
      show (rd_I S 8 (Int32.ofNat y)).bind _ = _
      rw [rd8 R W hyp.2.2.1, Option.bind_some]
      have hv120 : v < 120 := ((O.1 v).mp hv.1).1
      cases n with
      | zero => omega
      | succ n =>
        rw [r248_48]
        dsimp only
        rw [if_pos (show (0 : Int32) ≤ oi (some v) from (i32_len (a := 0) (b := v) (by omega) (by omega)).mpr (Nat.zero_le _)), hb]
        rfl
    · have e := q249x R W hs O hk (bd := kyi D y) (by omega) hlt (chi_ext hc hv)
      try rw [rb_r]
      show rb (rf_249 (Int32.ofNat o) (Int32.ofNat k) (oi (pR D y)) (Int32.ofNat (kyi D y)) S) _ = _
      rw [e]
      try rw [rb_r]
      show (rd_I S 8 (Int32.ofNat y)).bind _ = _
      rw [rd8 R W hyp.2.2.1, Option.bind_some]
      try rw [rb_r]
      show r248_48 J n (Int32.ofNat o) (Int32.ofNat k) (-1) (oi (pR D y)) S = _
      cases hpy : pR D y with
      | none =>
        rw [h0 hpy]
        cases n with
        | zero => omega
        | succ n =>
          rw [r248_48]
          dsimp only
          rw [if_neg (by decide), if_pos (by decide)]
          rfl
      | some q =>
        obtain ⟨q1, q2, q3⟩ := hq q hpy
        refine ih q ?_ q1 q2 q3
        rw [ey, hpy, List.length_append] at h1
        have h1' : (pP D q).length + [pM D y].length < n + 1 := h1
        simp at h1'
        omega
theorem q248w (W : Wd D) (hs : WS D) (hcl : WC D F) (hX : LX D F k X) (O : OX D F k L) (K : Pok (pR D) (pM D) (pP D) L) (hk : k < 2) : ∀ (B H : List Nat) (p : Nat) (S : rs_S) (m : Nat) (Ls : List Nat) (f : Nat → Int32), L = H ++ p :: B → RO D o F S → SH o k Ls S → Ls.length + B.length < 120 → B.length + 1 < m → ∃ S', r248_22 m (Int32.ofNat o) (Int32.ofNat k) (Int32.ofNat p) S = some ((), S') ∧ Sq o k S S' ∧ SH o k (shl D X (p :: B) (Ls, f)).1 S' := by
  intro B
  induction B with
  | nil =>
    intro H p S m Ls f hL R hSH h1 h2
    have hp : p ∈ L := by rw [hL]; simp
    have hpp := (O.1 p).mp hp
    obtain ⟨S2, e2, sq2, sh2⟩ := q250 (f := f) R W hs hcl hX hk hpp.2.2.1 hpp.2.1 hpp.2.2.2 hSH (by simpa using h1)
    have R2 := RO_Sq sq2 R
    refine ⟨S2, ?_, sq2, sh2⟩
    cases m with
    | zero => omega
    | succ m =>
      rw [r248_22]
      dsimp only
      rw [if_neg (i32_lt p (by omega)), e2]
      try rw [rb_r]
      show rb (rf_249 (Int32.ofNat o) (Int32.ofNat k) (oi (some p)) (Int32.ofNat 1000) S2) _ = _
      have hc := nx_none K hL O.2.1 (fun v B' h => by cases h)
      have e := q249x R2 W hs O hk (bd := 1000) (a := some p) (by omega) (fun z hz => by cases hz; exact hpp.1) (chi_ext (b' := fun z => kyi D z < 1000) (fun z hz => ⟨fun _ => by have := (kyi_b W (PN_AN ((O.1 z).mp hz).2.2.1)).1; omega, fun _ => trivial⟩) hc)
      rw [e]
      try rw [rb_r]
      show r248_48 (r248_22 m) lf_N (Int32.ofNat o) (Int32.ofNat k) (-1) (Int32.ofNat p) S2 = _
      rw [q248c R2 W hs O K hk hL (r248_22 m) lf_N p (Nat.lt_of_le_of_lt (pth_len 400 p) (by unfold lf_N; omega)) hp ⟨[], by simp⟩ (fun v B' h => by cases h)]
      cases m with
      | zero => simp at h2
      | succ m =>
        try rw [rb_r]
        show r248_22 (m + 1) (Int32.ofNat o) (Int32.ofNat k) (-1) S2 = _
        rw [r248_22]
        dsimp only
        rw [if_pos (by decide)]
  | cons v B ih =>
    intro H p S m Ls f hL R hSH h1 h2
    have hp : p ∈ L := by rw [hL]; simp
    have hv : v ∈ L := by rw [hL]; simp
    have hpp := (O.1 p).mp hp
    have hvv := (O.1 v).mp hv
    rw [List.length_cons] at h1 h2
    obtain ⟨S2, e2, sq2, sh2⟩ := q250 (f := f) R W hs hcl hX hk hpp.2.2.1 hpp.2.1 hpp.2.2.2 hSH (by omega)
    have R2 := RO_Sq sq2 R
    have hl2 : (shs D X (Ls, f) p).1.length ≤ Ls.length + 1 := by
      unfold shs
      split
      · simp
      · simp
    cases m with
    | zero => omega
    | succ m =>
      obtain ⟨S3, e3, sq3, sh3⟩ := ih (H ++ [p]) v S2 m (shs D X (Ls, f) p).1 (shs D X (Ls, f) p).2 (by rw [hL]; simp) R2 sh2 (by omega) (by omega)
      refine ⟨S3, ?_, Sq_tr sq2 sq3, sh3⟩
      rw [r248_22]
      dsimp only
      rw [if_neg (i32_lt p (by omega)), e2]
      try rw [rb_r]
      show rb (rf_249 (Int32.ofNat o) (Int32.ofNat k) (oi (some p)) (Int32.ofNat 1000) S2) _ = _
      have hbx : ∀ z ∈ L, True ↔ kyi D z < 1000 := fun z hz => ⟨fun _ => by have := (kyi_b W (PN_AN ((O.1 z).mp hz).2.2.1)).1; omega, fun _ => trivial⟩
      by_cases hex : ∃ a u, pP D v = pP D p ++ a :: u
      · obtain ⟨a, u, hau⟩ := hex
        have hc := nx_down K hL O.2.1 hau
        have e := q249x R2 W hs O hk (bd := 1000) (a := some p) (by omega) (fun z hz => by cases hz; exact hpp.1) (chi_ext hbx hc)
        rw [e]
        try rw [rb_r]
        show r248_48 (r248_22 m) (19999 + 1) (Int32.ofNat o) (Int32.ofNat k) (Int32.ofNat v) (Int32.ofNat p) S2 = _
        rw [r248_48]
        dsimp only
        rw [if_pos (show (0 : Int32) ≤ Int32.ofNat v from (i32_len (a := 0) (by omega) (by omega)).mpr (Nat.zero_le _))]
        exact e3
      · have hc := nx_none K hL O.2.1 (fun v' B' h a u hau => by cases h; exact hex ⟨a, u, hau⟩)
        have e := q249x R2 W hs O hk (bd := 1000) (a := some p) (by omega) (fun z hz => by cases hz; exact hpp.1) (chi_ext hbx hc)
        rw [e]
        try rw [rb_r]
        show r248_48 (r248_22 m) lf_N (Int32.ofNat o) (Int32.ofNat k) (-1) (Int32.ofNat p) S2 = _
        rw [q248c R2 W hs O K hk hL (r248_22 m) lf_N p (Nat.lt_of_le_of_lt (pth_len 400 p) (by unfold lf_N; omega)) hp ⟨[], by simp⟩ (fun v' B' h u hu => by
          cases h
          cases u with
          | nil =>
            rw [List.append_nil] at hu
            have := pa_ne K hv hp hu
            have hnd := O.2.2
            rw [hL, this] at hnd
            have h3 := (List.nodup_append.mp hnd).2.1
            simp at h3
          | cons a u => exact hex ⟨a, u, hu⟩)]
        exact e3
/-- the reference shows what the axis shows -/
theorem q248 (R : RO D o F S) (W : Wd D) (hs : WS D) (hcl : WC D F) (hX : LX D F k X) (hwk : WK D) (O : OX D F k (xO X)) (hk : k < 2) : ∃ S', rf_248 (Int32.ofNat o) (Int32.ofNat k) S = some ((), S') ∧ Sq o k S S' ∧ SH o k (xS (shw D X)) S' := by
  have K := OX_ok W hs hcl hwk O
  have ho := R.1
  have hlen : (xO X).length ≤ 120 := nd_len 120 _ O.2.2 (fun x hx => ((O.1 x).mp hx).1)
  have i1 : ((2 : Int32) * Int32.ofNat o) + Int32.ofNat k = Int32.ofNat (2 * o + k) := by
    rw [show (2 : Int32) * Int32.ofNat o = Int32.ofNat (2 * o) from i32_ml 2 o, i32_add]
  have sq1 : Sq o k S (rs_setA S 20 (2 * o + k) 0) := ⟨rfl, rfl, fun a i h1 _ => if_neg h1⟩
  have sh1 : SH o k [] (rs_setA S 20 (2 * o + k) 0) := ⟨if_pos ⟨rfl, rfl⟩, fun j hj => by cases hj⟩
  have R1 := RO_Sq sq1 R
  have hbx : ∀ z ∈ xO X, True ↔ kyi D z < 1000 := fun z hz => ⟨fun _ => by have := (kyi_b W (PN_AN ((O.1 z).mp hz).2.2.1)).1; omega, fun _ => trivial⟩
  have e := q249x R1 W hs O hk (bd := 1000) (a := none) (by omega) (fun z hz => by cases hz) (chi_ext hbx (nx_root K O.2.1))
  unfold rf_248
  rw [i1, wrI (n := 6) (by decide) (by omega) (by omega), Option.bind_some]
  try rw [rb_r]
  show ∃ S', rb (rf_249 (Int32.ofNat o) (Int32.ofNat k) (oi none) (Int32.ofNat 1000) (rs_setA S 20 (2 * o + k) 0)) _ = _ ∧ _
  rw [e]
  try rw [rb_r]
  show ∃ S', r248_22 lf_N (Int32.ofNat o) (Int32.ofNat k) (oi (xO X).head?) (rs_setA S 20 (2 * o + k) 0) = _ ∧ _
  cases hb : xO X with
  | nil =>
    refine ⟨_, rfl, sq1, ?_⟩
    show SH o k (shl D X (xO X) ([], fun _ => -1)).1 _
    rw [hb]
    exact sh1
  | cons p B =>
    rw [hb] at hlen
    obtain ⟨S', e3, sq3, sh3⟩ := q248w (o := o) W hs hcl hX O K hk B [] p (rs_setA S 20 (2 * o + k) 0) lf_N [] (fun _ => -1) hb R1 sh1 (by simp at hlen ⊢; omega) (by simp at hlen; unfold lf_N; omega)
    refine ⟨S', e3, Sq_tr sq1 sq3, ?_⟩
    show SH o k (shl D X (xO X) ([], fun _ => -1)).1 _
    rw [hb]
    exact sh3
end WK2
