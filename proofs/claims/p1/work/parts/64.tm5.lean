/-! FEWER LOCALS: a frame that knows more locals does the same -/
def pm_nk2 (lv : List (Nat × Value)) : Prop := ∀ p q : Nat × Value, p ∈ lv → q ∈ lv → p.1 = q.1 → p = q
def pm_sub2 (a b : List (Nat × Value)) : Prop := (∀ q ∈ a, q ∈ b) ∧ pm_nk2 b
theorem pm_ld_in : ∀ (lv : List (Nat × Value)) (i : Nat) (v : Value), pm_ld lv i = some v → (i, v) ∈ lv := by
  intro lv
  induction lv with
  | nil => intro i v h; cases h
  | cons q r ih =>
    intro i v h
    obtain ⟨j, w⟩ := q
    unfold pm_ld at h
    split at h
    · next e => subst e; cases h; exact List.mem_cons_self
    · exact List.mem_cons_of_mem _ (ih i v h)
theorem pm_ld_nk : ∀ (lv : List (Nat × Value)) (i : Nat) (v : Value), pm_nk2 lv → (i, v) ∈ lv → pm_ld lv i = some v := by
  intro lv
  induction lv with
  | nil => intro i v _ h; cases h
  | cons q r ih =>
    intro i v hk h
    obtain ⟨j, w⟩ := q
    unfold pm_ld
    by_cases e : j = i
    · rw [if_pos e]
      have := hk (j, w) (i, v) List.mem_cons_self h e
      cases this
      rfl
    · rw [if_neg e]
      refine ih i v (fun p q hp hq => hk p q (List.mem_cons_of_mem _ hp) (List.mem_cons_of_mem _ hq)) ?_
      rcases List.mem_cons.mp h with h | h
      · cases h; exact absurd rfl e
      · exact h
theorem pm_sub2.ld {a b : List (Nat × Value)} (s : pm_sub2 a b) {i : Nat} {v : Value} (h : pm_ld a i = some v) : pm_ld b i = some v := pm_ld_nk b i v s.2 (s.1 _ (pm_ld_in a i v h))
theorem pm_sub2.st {a b : List (Nat × Value)} (s : pm_sub2 a b) (i : Nat) (v : Value) (p : Nat × Value → Bool) (hp : ∀ q, p q = true → q.1 ≠ i) : pm_sub2 ((i, v) :: a.filter p) ((i, v) :: b.filter p) := by
  refine ⟨fun q hq => ?_, fun x y hx hy e => ?_⟩
  · rcases List.mem_cons.mp hq with h | h
    · rw [h]; exact List.mem_cons_self
    · obtain ⟨h1, h2⟩ := List.mem_filter.mp h
      exact List.mem_cons_of_mem _ (List.mem_filter.mpr ⟨s.1 q h1, h2⟩)
  · rcases List.mem_cons.mp hx with h | h <;> rcases List.mem_cons.mp hy with h' | h'
    · rw [h, h']
    · rw [h] at e
      exact absurd e.symm (hp y (List.mem_filter.mp h').2)
    · rw [h'] at e
      exact absurd e (hp x (List.mem_filter.mp h).2)
    · exact s.2 x y (List.mem_filter.mp h).1 (List.mem_filter.mp h').1 e
theorem pm_sub2.st1 {a b : List (Nat × Value)} (s : pm_sub2 a b) (i : Nat) (v : Value) : pm_sub2 (pm_st1 a i v) (pm_st1 b i v) := s.st i v _ (fun q h => by
  simp only [Bool.and_eq_true, Bool.not_eq_true', beq_eq_false_iff_ne] at h
  exact h.1)
theorem pm_sub2.st2 {a b : List (Nat × Value)} (s : pm_sub2 a b) (i : Nat) (v : Value) : pm_sub2 (pm_st2 a i v) (pm_st2 b i v) := s.st i v _ (fun q h => by
  simp only [Bool.and_eq_true, Bool.not_eq_true', beq_eq_false_iff_ne] at h
  exact h.1)
theorem pm_sub2.act {P : Nat × List (Nat × Nat)} {i : Instr} {n pc : Nat} {vs : List Value} {ns : List Nat} {a b : List (Nat × Value)} {st : List Value} {F' : pm_F} {h h' : pm_H} (s : pm_sub2 a b) (e : pm_act P i n vs ns (pc, a, st) h = some (F', h')) : ∃ b', pm_act P i n vs ns (pc, b, st) h = some ((F'.1, b', F'.2.2), h') ∧ pm_sub2 F'.2.1 b' := by
  cases i
  case iload | lload | aload | iload_n | lload_n | aload_n =>
    all_goals
      simp only [pm_act] at e ⊢
      cases hx : ns.head?.bind (pm_ld a) with
      | none => rw [hx] at e; cases e
      | some v =>
        have hx2 : ns.head?.bind (pm_ld b) = some v := by
          cases hn : ns.head? with
          | none => rw [hn] at hx; cases hx
          | some j => rw [hn] at hx; exact s.ld hx
        rw [hx] at e
        rw [hx2]
        simp only [Option.bind_some] at e ⊢
        split at e
        · next hc => cases e; rw [if_pos hc]; exact ⟨b, rfl, s⟩
        · cases e
  case istore | astore | istore_n | astore_n =>
    all_goals
      simp only [pm_act] at e ⊢
      split at e
      · split at e
        · next hc => cases e; rw [if_pos hc]; exact ⟨_, rfl, s.st1 _ _⟩
        · cases e
      · cases e
  case lstore | lstore_n =>
    all_goals
      simp only [pm_act] at e ⊢
      split at e
      · split at e
        · next hc => cases e; rw [if_pos hc]; exact ⟨_, rfl, s.st2 _ _⟩
        · cases e
      · cases e
  case iinc =>
    simp only [pm_act] at e ⊢
    split at e
    · split at e
      · next hx => cases e; simp only [s.ld hx]; exact ⟨_, rfl, s.st1 _ _⟩
      · cases e
    · cases e
  case iconst | bipush | sipush | lconst | ldc | ldc_w | ldc2_w | aconst_null | getstatic | tableswitch | lookupswitch | ineg | lneg | i2l | l2i | i2b | i2s | i2c | iadd | isub | imul | iand | ior | ixor | idiv | irem | ishl | ishr | iushr | ladd | lsub | lmul | land | lor | lxor | ldiv | lrem | lshl | lshr | lushr | lcmp =>
    all_goals
      simp only [pm_act] at e ⊢
      split at e
      · first
        | (cases e; exact ⟨b, rfl, s⟩)
        | (simp only [Option.map_eq_some_iff] at e ⊢
           obtain ⟨v, hv, e⟩ := e
           cases e
           exact ⟨b, ⟨v, hv, rfl⟩, s⟩)
      · cases e
  case dup | pop | dup_x1 | dup_x2 | dup2 | pop2 =>
    all_goals
      simp only [pm_act, Option.map_eq_some_iff] at e ⊢
      obtain ⟨v, hv, e⟩ := e
      cases e
      exact ⟨b, ⟨v, hv, rfl⟩, s⟩
  case ifCond | if_icmp | if_acmp | ifnull | ifnonnull | goto =>
    all_goals
      simp only [pm_act, Option.bind_eq_some_iff] at e
      obtain ⟨q, hq, e⟩ := e
      simp only [pm_act, hq, Option.bind_some]
      split at e
      · next hc =>
        simp only [Option.map_eq_some_iff] at e
        obtain ⟨t, ht, e⟩ := e
        cases e
        simp only [if_pos hc, ht, Option.map_some]
        exact ⟨b, rfl, s⟩
      · next hc =>
        cases e
        simp only [if_neg hc]
        exact ⟨b, rfl, s⟩
  case getfield =>
    simp only [pm_act] at e ⊢
    split at e
    · simp only [Option.bind_eq_some_iff, Option.map_eq_some_iff] at e
      obtain ⟨q, hq, k, hk, v, hv, e⟩ := e
      cases e
      simp only [hq, Option.bind_some, hk, hv, Option.map_some]
      exact ⟨b, rfl, s⟩
    · cases e
  case putfield =>
    simp only [pm_act] at e ⊢
    split at e
    · simp only [Option.bind_eq_some_iff] at e
      obtain ⟨q, hq, k, hk, e⟩ := e
      split at e
      · next hc =>
        cases e
        simp only [hq, Option.bind_some, hk, if_pos hc]
        exact ⟨b, rfl, s⟩
      · cases e
    · cases e
  case new =>
    simp only [pm_act] at e ⊢
    split at e
    · cases e; exact ⟨b, rfl, s⟩
    · cases e
  case newarray | anewarray =>
    all_goals
      simp only [pm_act] at e ⊢
      split at e
      · split at e
        · cases e
        · next hk =>
          split at e
          · next hk2 =>
            cases e
            rw [if_neg hk, if_pos hk2]
            exact ⟨b, rfl, s⟩
          · cases e
      · cases e
  case arraylength =>
    simp only [pm_act] at e ⊢
    split at e
    · simp only [Option.bind_eq_some_iff] at e
      obtain ⟨q, hq, e⟩ := e
      split at e
      · cases e
      · next hk =>
        cases e
        simp only [hq, Option.bind_some, if_neg hk]
        exact ⟨b, rfl, s⟩
    · cases e
  case checkcast =>
    simp only [pm_act] at e ⊢
    split at e
    · cases e
      exact ⟨b, rfl, s⟩
    · split at e
      · next hx =>
        split at e
        · next hc =>
          cases e
          simp only [hx, if_pos hc]
          exact ⟨b, rfl, s⟩
        · cases e
      · next hx =>
        split at e
        · next hc =>
          cases e
          simp only [hx, if_pos hc]
          exact ⟨b, rfl, s⟩
        · cases e
      · cases e
    · cases e
  case iaload | laload | baload | caload | saload | aaload =>
    all_goals
      simp only [pm_act] at e ⊢
      split at e
      · simp only [Option.bind_eq_some_iff] at e
        obtain ⟨q, hq, e⟩ := e
        split at e
        · next hk =>
          simp only [Option.bind_eq_some_iff, Option.map_eq_some_iff] at e
          obtain ⟨k, hk2, v, hv, e⟩ := e
          cases e
          simp only [hq, Option.bind_some, if_pos hk, hk2, hv, Option.map_some]
          exact ⟨b, rfl, s⟩
        · cases e
      · cases e
  case iastore | lastore | bastore | castore | sastore | aastore =>
    all_goals
      simp only [pm_act] at e ⊢
      split at e
      · simp only [Option.bind_eq_some_iff] at e
        obtain ⟨q, hq, k, hk, w, hw, e⟩ := e
        split at e
        · next hc =>
          cases e
          simp only [hq, Option.bind_some, hk, hw, if_pos hc]
          exact ⟨b, rfl, s⟩
        · cases e
      · cases e
  case invokestatic | invokespecial | invokevirtual =>
    all_goals
      simp only [pm_act] at e ⊢
      split at e
      · simp only [Option.bind_eq_some_iff] at e
        obtain ⟨q, hq, e⟩ := e
        split at e
        · next hc =>
          cases e
          simp only [hq, Option.bind_some, if_pos hc]
          exact ⟨b, rfl, s⟩
        · cases e
      · split at e
        · simp only [Option.bind_eq_some_iff] at e
          obtain ⟨q, hq, e⟩ := e
          split at e
          · next hc =>
            cases e
            simp only [hq, Option.bind_some, if_pos hc]
            exact ⟨b, rfl, s⟩
          · cases e
        · cases e
      · cases e
  all_goals (cases e)
theorem pm_sub2.run {P : Nat × List (Nat × Nat)} {G : Nat → pm_M} : ∀ (n d : Nat) (M : pm_M) (pc : Nat) (a b : List (Nat × Value)) (st : List Value) (h : pm_H) (r : pm_O × pm_H), pm_sub2 a b → pm_run P G n d M (pc, a, st) h = some r → pm_run P G n d M (pc, b, st) h = some r := by
  intro n
  induction n with
  | zero => intro d M pc a b st h r _ e; cases e
  | succ n ih =>
    intro d M pc a b st h r s e
    have e' : pm_one P G (pm_run P G n) d M (pc, a, st) h = some r := e
    show pm_one P G (pm_run P G n) d M (pc, b, st) h = some r
    unfold pm_one at e' ⊢
    cases e1 : pm_row M.1 pc with
    | none => simp [e1] at e'
    | some q =>
      obtain ⟨i, len, vs, ns⟩ := q
      simp only [e1] at e' ⊢
      cases e2 : pm_fin i ns st h with
      | some o => simp only [e2] at e' ⊢; exact e'
      | none =>
        simp only [e2] at e' ⊢
        cases e3 : pm_call i ns st h with
        | none =>
          simp only [e3] at e' ⊢
          cases e4 : pm_act P i len vs ns (pc, a, st) h with
          | none => simp [e4] at e'
          | some q =>
            obtain ⟨F', h'⟩ := q
            simp only [e4] at e'
            obtain ⟨b', k1, k2⟩ := s.act e4
            simp only [k1]
            exact ih d M F'.1 F'.2.1 b' F'.2.2 h' r k2 e'
        | some q =>
          obtain ⟨y, as, rest⟩ := q
          simp only [e3] at e' ⊢
          cases d with
          | zero => simp at e'
          | succ d =>
            simp only at e' ⊢
            cases e5 : pm_run P G n d (G y) (0, lv_args 0 as, []) h with
            | none => simp [e5] at e'
            | some q =>
              obtain ⟨o, h2⟩ := q
              simp only [e5] at e' ⊢
              cases o with
              | inl v =>
                simp only at e' ⊢
                exact ih _ M _ a b _ h2 r s e'
              | inr x =>
                simp only at e' ⊢
                cases e6 : h2.1[x]? with
                | none => simp [e6] at e'
                | some z =>
                  cases z with
                  | inr z => simp [e6] at e'
                  | inl z =>
                    simp only [e6] at e' ⊢
                    cases e7 : pm_hnd M.2 pc z.1 with
                    | none => simp only [e7] at e' ⊢; exact e'
                    | some pc' =>
                      simp only [e7] at e' ⊢
                      exact ih _ M _ a b _ h2 r s e'
def tm_nk : List (Nat × tm_V) → Bool
  | [] => true
  | q :: r => r.all (fun p => !(p.1 == q.1)) && tm_nk r
theorem tm_nk_m : ∀ (lv : List (Nat × tm_V)), tm_nk lv = true → pm_nk2 (tm_l lv) := by
  intro lv
  induction lv with
  | nil => intro _ p q hp; cases hp
  | cons x r ih =>
    intro hk p q hp hq e
    simp only [tm_nk, Bool.and_eq_true, List.all_eq_true, Bool.not_eq_true', beq_eq_false_iff_ne] at hk
    have hlt : ∀ w ∈ tm_l r, w.1 ≠ x.1 := by
      intro w hw
      obtain ⟨z, hz, rfl⟩ := List.mem_map.mp hw
      exact hk.1 z hz
    rcases List.mem_cons.mp hp with h | h <;> rcases List.mem_cons.mp hq with h' | h'
    · rw [h, h']
    · rw [h] at e; exact absurd e.symm (hlt q h')
    · rw [h'] at e; exact absurd e (hlt p h)
    · exact ih hk.2 p q h h' e
/-- a jump to a cut: the locals that live on -/
theorem tm_cut {P : Nat × List (Nat × Nat)} {G : Nat → pm_M} {d pc : Nat} {M : pm_M} {a b : List (Nat × tm_V)} {st : List tm_V} {h : pm_H} {r : pm_O × pm_H} (hk : tm_nk b = true) (hs : ∀ q ∈ a, q ∈ b) (kk : pm_to P G d M (tm_m (pc, a, st)) h r) : pm_to P G d M (tm_m (pc, b, st)) h r := by
  obtain ⟨n, e⟩ := kk
  refine ⟨n, pm_sub2.run n d M pc (tm_l a) (tm_l b) (tm_s st) h r ⟨fun q hq => ?_, tm_nk_m b hk⟩ e⟩
  obtain ⟨z, hz, rfl⟩ := List.mem_map.mp hq
  exact List.mem_map.mpr ⟨z, hs z hz, rfl⟩
/-- more levels of calls -/
theorem pm_dp {P : Nat × List (Nat × Nat)} {G : Nat → pm_M} : ∀ (n d : Nat) (M : pm_M) (F : pm_F) (h : pm_H) (r : pm_O × pm_H), pm_run P G n d M F h = some r → pm_run P G n (d + 1) M F h = some r := by
  intro n
  induction n with
  | zero => intro d M F h r e; cases e
  | succ n ih =>
    intro d M F h r e
    have e' : pm_one P G (pm_run P G n) d M F h = some r := e
    show pm_one P G (pm_run P G n) (d + 1) M F h = some r
    unfold pm_one at e' ⊢
    cases e1 : pm_row M.1 F.1 with
    | none => simp [e1] at e'
    | some q =>
      obtain ⟨i, len, vs, ns⟩ := q
      simp only [e1] at e' ⊢
      cases e2 : pm_fin i ns F.2.2 h with
      | some o => simp only [e2] at e' ⊢; exact e'
      | none =>
        simp only [e2] at e' ⊢
        cases e3 : pm_call i ns F.2.2 h with
        | none =>
          simp only [e3] at e' ⊢
          cases e4 : pm_act P i len vs ns F h with
          | none => simp [e4] at e'
          | some q =>
            obtain ⟨F', h'⟩ := q
            simp only [e4] at e' ⊢
            exact ih _ _ _ _ _ e'
        | some q =>
          obtain ⟨y, as, rest⟩ := q
          simp only [e3] at e' ⊢
          cases d with
          | zero => simp at e'
          | succ d =>
            simp only at e'
            cases e5 : pm_run P G n d (G y) (0, lv_args 0 as, []) h with
            | none => simp [e5] at e'
            | some q =>
              obtain ⟨o, h2⟩ := q
              simp only [e5] at e'
              simp only [ih _ _ _ _ _ e5]
              cases o with
              | inl v =>
                simp only at e' ⊢
                exact ih _ _ _ _ _ e'
              | inr x =>
                simp only at e' ⊢
                cases e6 : h2.1[x]? with
                | none => simp [e6] at e'
                | some z =>
                  cases z with
                  | inr z => simp [e6] at e'
                  | inl z =>
                    simp only [e6] at e' ⊢
                    cases e7 : pm_hnd M.2 F.1 z.1 with
                    | none => simp only [e7] at e' ⊢; exact e'
                    | some pc' =>
                      simp only [e7] at e' ⊢
                      exact ih _ _ _ _ _ e'
theorem tm_dp {P : Nat × List (Nat × Nat)} {G : Nat → pm_M} {d d' y : Nat} {as : List tm_V} {h : pm_H} {r : tm_O × pm_H} (hd : d ≤ d') (e : tm_run P G d y as h r) : tm_run P G d' y as h r := by
  induction hd with
  | refl => exact e
  | step _ ih =>
    obtain ⟨n, e⟩ := ih
    exact ⟨n, pm_dp _ _ _ _ _ _ e⟩
/-! what follows a call, by its end -/
abbrev tm_L : Type := Option (tm_O × pm_H)
def lb_x (a : Nat) (h : pm_H) : tm_L := match lc_of h (some a) with
  | some _ => some (.inr a, h)
  | none => none
def lb_I (m : tm_L) (k : Int32 → pm_H → tm_L) : tm_L := match m with
  | some (.inl (some (.inl x)), h) => k x h
  | some (.inr a, h) => lb_x a h
  | _ => none
def lb_J (m : tm_L) (k : Int64 → pm_H → tm_L) : tm_L := match m with
  | some (.inl (some (.inr (.inl x))), h) => k x h
  | some (.inr a, h) => lb_x a h
  | _ => none
def lb_R (m : tm_L) (k : Option Nat → pm_H → tm_L) : tm_L := match m with
  | some (.inl (some (.inr (.inr x))), h) => k x h
  | some (.inr a, h) => lb_x a h
  | _ => none
def lb_V (m : tm_L) (k : pm_H → tm_L) : tm_L := match m with
  | some (.inl none, h) => k h
  | some (.inr a, h) => lb_x a h
  | _ => none
def lb_T (m : tm_L) (r : tm_O × pm_H) : Prop := ∃ a h ci z, m = some (.inr a, h) ∧ h.1[a]? = some (.inl (ci, z)) ∧ r = (.inr a, h)
theorem lb_x_T {m : tm_L} {a : Nat} {h : pm_H} {r : tm_O × pm_H} (hm : m = some (.inr a, h)) (e : lb_x a h = some r) : lb_T m r := by
  unfold lb_x at e
  split at e
  · next ci hc =>
    cases e
    unfold lc_of at hc
    simp only at hc
    split at hc
    · next hx => exact ⟨a, h, _, _, hm, hx, rfl⟩
    · cases hc
  · cases e
theorem lb_I_s {m : tm_L} {k : Int32 → pm_H → tm_L} {r : tm_O × pm_H} (e : lb_I m k = some r) : (∃ x h, m = some (.inl (some (.inl x)), h) ∧ k x h = some r) ∨ lb_T m r := by
  unfold lb_I at e
  split at e
  · exact Or.inl ⟨_, _, rfl, e⟩
  · exact Or.inr (lb_x_T rfl e)
  · cases e
theorem lb_J_s {m : tm_L} {k : Int64 → pm_H → tm_L} {r : tm_O × pm_H} (e : lb_J m k = some r) : (∃ x h, m = some (.inl (some (.inr (.inl x))), h) ∧ k x h = some r) ∨ lb_T m r := by
  unfold lb_J at e
  split at e
  · exact Or.inl ⟨_, _, rfl, e⟩
  · exact Or.inr (lb_x_T rfl e)
  · cases e
theorem lb_R_s {m : tm_L} {k : Option Nat → pm_H → tm_L} {r : tm_O × pm_H} (e : lb_R m k = some r) : (∃ x h, m = some (.inl (some (.inr (.inr x))), h) ∧ k x h = some r) ∨ lb_T m r := by
  unfold lb_R at e
  split at e
  · exact Or.inl ⟨_, _, rfl, e⟩
  · exact Or.inr (lb_x_T rfl e)
  · cases e
theorem lb_V_s {m : tm_L} {k : pm_H → tm_L} {r : tm_O × pm_H} (e : lb_V m k = some r) : (∃ h, m = some (.inl none, h) ∧ k h = some r) ∨ lb_T m r := by
  unfold lb_V at e
  split at e
  · exact Or.inl ⟨_, rfl, e⟩
  · exact Or.inr (lb_x_T rfl e)
  · cases e
