/-! A CELL THAT IS NOT READ: the script's cell, of which nothing is known (kind 9), may be any array -/
def pm_sb (c : Nat × List Value) (h : pm_H) : pm_H := (h.1.set 0 (.inr c), h.2)
def pm_hd (h : pm_H) : Prop := h.1[0]? = some (.inr (9, []))
theorem pm_sb_ne {c : Nat × List Value} {h : pm_H} {a : Nat} (ha : a ≠ 0) : (pm_sb c h).1[a]? = h.1[a]? := List.getElem?_set_ne (fun e => ha e.symm)
theorem pm_sb_len {c : Nat × List Value} {h : pm_H} : (pm_sb c h).1.length = h.1.length := List.length_set
theorem pm_sb_0 {c : Nat × List Value} {h : pm_H} (hh : pm_hd h) : (pm_sb c h).1[0]? = some (.inr c) := List.getElem?_set_self (List.getElem?_eq_some_iff.mp hh).1
theorem pm_sb_in {c : Nat × List Value} {h : pm_H} (hh : pm_hd h) (a : Nat) (z : Nat × List Value) : (pm_sb c h).1[a]? = some (.inl z) ↔ h.1[a]? = some (.inl z) := by
  by_cases ha : a = 0
  · subst ha
    rw [pm_sb_0 hh, hh]
    constructor <;> intro e <;> cases e
  · rw [pm_sb_ne ha]
theorem pm_sb_obj {c : Nat × List Value} {h : pm_H} (hh : pm_hd h) (v : Value) : pm_obj (pm_sb c h) v = pm_obj h v := by
  cases v with
  | ref a =>
    by_cases ha : a = 0
    · subst ha
      simp only [pm_obj, pm_sb_0 hh, show h.1[0]? = _ from hh]
    · simp only [pm_obj, pm_sb_ne ha]
  | _ => rfl
theorem pm_sb_arr {c : Nat × List Value} {h : pm_H} (hh : pm_hd h) {v : Value} {q : Nat × Nat × List Value} (hq : q.2.1 ≠ 9 ∨ 0 < q.2.2.length) (e : pm_arr h v = some q) : pm_arr (pm_sb c h) v = some q ∧ q.1 ≠ 0 := by
  cases v with
  | ref a =>
    by_cases ha : a = 0
    · subst ha
      simp only [pm_arr, show h.1[0]? = _ from hh] at e
      cases e
      rcases hq with hq | hq
      · exact absurd rfl hq
      · cases hq
    · constructor
      · simp only [pm_arr, pm_sb_ne ha] at e ⊢
        exact e
      · intro e0
        simp only [pm_arr] at e
        cases hx : h.1[a]? with
        | none => simp [hx] at e
        | some x =>
          cases x with
          | inl z => simp [hx] at e
          | inr z =>
            simp only [hx] at e
            cases e
            exact ha e0
  | _ => cases e
theorem pm_sb_set {c : Nat × List Value} {h : pm_H} {a : Nat} {x : pm_C} (ha : a ≠ 0) : pm_sb c (h.1.set a x, h.2) = ((pm_sb c h).1.set a x, h.2) := by
  simp only [pm_sb]
  rw [List.set_comm _ _ ha]
theorem pm_hd_set {h : pm_H} {a n : Nat} {x : pm_C} (hh : pm_hd h) (ha : a ≠ 0) : pm_hd (h.1.set a x, n) := by
  show (h.1.set a x)[0]? = _
  rw [List.getElem?_set_ne ha]
  exact hh
theorem pm_sb_app {c : Nat × List Value} {h : pm_H} {x : pm_C} {n : Nat} (hh : pm_hd h) : pm_sb c (h.1 ++ [x], n) = ((pm_sb c h).1 ++ [x], n) := by
  have hl : 0 < h.1.length := (List.getElem?_eq_some_iff.mp hh).1
  simp only [pm_sb]
  rw [List.set_append_left _ _ hl]
theorem pm_hd_app {h : pm_H} {x : pm_C} {n : Nat} (hh : pm_hd h) : pm_hd (h.1 ++ [x], n) := by
  have hl : 0 < h.1.length := (List.getElem?_eq_some_iff.mp hh).1
  show (h.1 ++ [x])[0]? = _
  rw [List.getElem?_append_left hl]
  exact hh
theorem pm_sb_el {asg : List (Nat × Nat)} {t : Nat} {c : Nat × List Value} {h : pm_H} (hh : pm_hd h) (v : Value) : pm_el asg t (pm_sb c h) v = pm_el asg t h v := by
  unfold pm_el
  cases v with
  | ref a =>
    by_cases ha : a = 0
    · subst ha
      simp only [pm_sb_0 hh, show h.1[0]? = _ from hh]
    · simp only [pm_sb_ne ha]
  | _ => rfl
theorem pm_sb_nar {asg : List (Nat × Nat)} {i : Instr} {t : Nat} {c : Nat × List Value} {h : pm_H} (hh : pm_hd h) (v : Value) : pm_nar asg i t (pm_sb c h) v = pm_nar asg i t h v := by
  cases v with
  | ref a =>
    by_cases ha : a = 0
    · subst ha
      cases i <;> simp only [pm_nar, pm_sb_0 hh, show h.1[0]? = _ from hh]
    · cases i <;> simp only [pm_nar, pm_sb_ne ha]
  | _ => cases i <;> rfl
theorem pm_sb_nat {P : Nat × List (Nat × Nat)} {k : Nat} {st st' : List Value} {c : Nat × List Value} {h h' : pm_H} (hP : 0 < P.1) (hh : pm_hd h) (e : pm_nat P k st h = some (st', h')) : pm_nat P k st (pm_sb c h) = some (st', pm_sb c h') ∧ pm_hd h' := by
  unfold pm_nat at e
  split at e
  · cases e
    exact ⟨by trivial, hh⟩
  · simp only [Option.bind_eq_some_iff] at e
    obtain ⟨a, ha, b, hb, e⟩ := e
    split at e
    · next hc =>
      cases e
      obtain ⟨g1, g2, g3, g4⟩ := hc
      have k1 := pm_sb_arr (c := c) hh (Or.inl g2) ha
      have k2 := pm_sb_arr (c := c) hh (Or.inl (by rw [← g1]; exact g2)) hb
      refine ⟨?_, pm_hd_set hh (by omega)⟩
      simp only [pm_nat, k1.1, k2.1, Option.bind_some]
      have e9 : (fun v => pm_el P.2 a.2.1 (pm_sb c h) v) = pm_el P.2 a.2.1 h := funext fun v => pm_sb_el hh v
      rw [show pm_el P.2 a.2.1 (pm_sb c h) = pm_el P.2 a.2.1 h from e9]
      rw [if_pos ⟨g1, g2, g3, g4⟩, pm_sb_set k2.2]
      rfl
    · cases e
  · simp only [Option.bind_eq_some_iff] at e
    obtain ⟨a, ha, e⟩ := e
    split at e
    · next hc =>
      cases e
      have k1 := pm_sb_arr (c := c) hh (Or.inl (by rw [hc.1]; decide)) ha
      refine ⟨?_, pm_hd_app hh⟩
      simp only [pm_nat, k1.1, Option.bind_some]
      rw [if_pos hc, pm_sb_app hh, pm_sb_len]
      rfl
    · cases e
  · cases e
theorem pm_sb_act {P : Nat × List (Nat × Nat)} {i : Instr} {n : Nat} {vs : List Value} {ns : List Nat} {F F' : pm_F} {c : Nat × List Value} {h h' : pm_H} (hP : 0 < P.1) (hh : pm_hd h) (e : pm_act P i n vs ns F h = some (F', h')) : pm_act P i n vs ns F (pm_sb c h) = some (F', pm_sb c h') ∧ pm_hd h' := by
  cases i
  case getfield idx =>
    simp only [pm_act] at e ⊢
    split at e
    · simp only [Option.bind_eq_some_iff, Option.map_eq_some_iff] at e
      obtain ⟨q, hq, k, hk, v, hv, e⟩ := e
      cases e
      simp only [pm_sb_obj hh, hq, Option.bind_some, hk, hv, Option.map_some]
      exact ⟨by trivial, hh⟩
    · cases e
  case putfield idx =>
    simp only [pm_act] at e ⊢
    split at e
    · simp only [Option.bind_eq_some_iff] at e
      obtain ⟨q, hq, k, hk, e⟩ := e
      split at e
      · next hc =>
        cases e
        have h0 : q.1 ≠ 0 := by omega
        simp only [pm_sb_obj hh, hq, Option.bind_some, hk, if_pos hc, pm_sb_set h0]
        exact ⟨by trivial, pm_hd_set hh h0⟩
      · cases e
    · cases e
  case new idx =>
    simp only [pm_act] at e ⊢
    split at e
    · cases e
      rw [pm_sb_app hh, pm_sb_len]
      exact ⟨by trivial, pm_hd_app hh⟩
    · cases e
  case newarray idx =>
    simp only [pm_act] at e ⊢
    split at e
    · split at e
      · cases e
      · next hk =>
        split at e
        · next hk2 =>
          cases e
          rw [if_neg hk, if_pos hk2, pm_sb_app hh, pm_sb_len]
          exact ⟨by trivial, pm_hd_app hh⟩
        · cases e
    · cases e
  case anewarray idx =>
    simp only [pm_act] at e ⊢
    split at e
    · split at e
      · cases e
      · next hk =>
        split at e
        · next hk2 =>
          cases e
          rw [if_neg hk, if_pos hk2, pm_sb_app hh, pm_sb_len]
          exact ⟨by trivial, pm_hd_app hh⟩
        · cases e
    · cases e
  case arraylength =>
    simp only [pm_act] at e ⊢
    split at e
    · simp only [Option.bind_eq_some_iff] at e
      obtain ⟨q, hq, e⟩ := e
      split at e
      · cases e
      · next hk =>
        cases e
        simp only [(pm_sb_arr (c := c) hh (Or.inl hk) hq).1, Option.bind_some, if_neg hk]
        exact ⟨by trivial, hh⟩
    · cases e
  case checkcast idx =>
    simp only [pm_act] at e ⊢
    split at e
    · cases e
      exact ⟨by trivial, hh⟩
    · next a r hst =>
      split at e
      · next ci z hx =>
        split at e
        · next hc =>
          cases e
          simp only [(pm_sb_in (c := c) hh a (ci, z)).mpr hx, if_pos hc]
          exact ⟨by trivial, hh⟩
        · cases e
      · next t z hx =>
        split at e
        · next hc =>
          cases e
          have h9 := hc.2.2
          have h0 : a ≠ 0 := by
            intro e0
            rw [e0] at h9
            omega
          simp only [pm_sb_ne (c := c) h0, hx, if_pos hc]
          exact ⟨by trivial, hh⟩
        · cases e
      · cases e
    · cases e
  case iaload | laload | baload | caload | saload | aaload =>
    all_goals
      simp only [pm_act] at e ⊢
      split at e
      · simp only [Option.bind_eq_some_iff] at e
        obtain ⟨q, hq, e⟩ := e
        split at e
        · next hk =>
          simp only [Option.bind_eq_some_iff, Option.map_eq_some_iff] at e
          obtain ⟨k, hk2, v, hv, e⟩ := e
          cases e
          have h9 : q.2.1 ≠ 9 := by
            intro h9
            rw [h9] at hk
            cases hk
          simp only [(pm_sb_arr (c := c) hh (Or.inl h9) hq).1, Option.bind_some, if_pos hk, hk2, hv, Option.map_some]
          exact ⟨by trivial, hh⟩
        · cases e
      · cases e
  case iastore | lastore | bastore | castore | sastore | aastore =>
    all_goals
      simp only [pm_act] at e ⊢
      split at e
      · simp only [Option.bind_eq_some_iff] at e
        obtain ⟨q, hq, k, hk, w, hw, e⟩ := e
        split at e
        · next hc =>
          cases e
          have hl : 0 < q.2.2.length := by
            cases hz : q.2.2.length with
            | zero =>
              rw [hz] at hk
              unfold pm_ix at hk
              split at hk
              · split at hk
                · cases hk
                · split at hk
                  · next h0 => exact absurd h0 (Nat.not_lt_zero _)
                  · cases hk
              · cases hk
            | succ m => exact Nat.succ_pos m
          have k1 := pm_sb_arr (c := c) hh (Or.inr hl) hq
          simp only [k1.1, Option.bind_some, hk, pm_sb_nar hh, hw, if_pos hc, pm_sb_set k1.2]
          exact ⟨by trivial, pm_hd_set hh k1.2⟩
        · cases e
      · cases e
  case invokestatic | invokespecial | invokevirtual =>
    all_goals
      simp only [pm_act] at e ⊢
      split at e
      · simp only [Option.bind_eq_some_iff] at e
        obtain ⟨q, hq, e⟩ := e
        split at e
        · next hc =>
          cases e
          have k := pm_sb_nat (c := c) hP hh hq
          simp only [k.1, Option.bind_some, if_pos hc]
          exact ⟨by trivial, k.2⟩
        · cases e
      · split at e
        · simp only [Option.bind_eq_some_iff] at e
          obtain ⟨q, hq, e⟩ := e
          split at e
          · next hc =>
            cases e
            simp only [(pm_sb_arr (c := c) hh (Or.inl (by rw [hc.2.1]; decide)) hq).1, Option.bind_some, if_pos hc]
            exact ⟨by trivial, hh⟩
          · cases e
        · cases e
      · cases e
  case ifCond | if_icmp | if_acmp | ifnull | ifnonnull | goto =>
    all_goals
      simp only [pm_act, Option.bind_eq_some_iff] at e
      obtain ⟨q, hq, e⟩ := e
      simp only [pm_act, hq, Option.bind_some]
      split at e
      · next hc =>
        simp only [Option.map_eq_some_iff] at e
        obtain ⟨t, ht, e⟩ := e
        cases e
        simp only [if_pos hc, ht, Option.map_some]
        exact ⟨by trivial, hh⟩
      · next hc =>
        cases e
        simp only [if_neg hc]
        exact ⟨by trivial, hh⟩
  case iload | lload | aload | iload_n | lload_n | aload_n =>
    all_goals
      simp only [pm_act] at e ⊢
      cases hx : ns.head?.bind (pm_ld F.2.1) with
      | none => rw [hx] at e; cases e
      | some v =>
        rw [hx] at e
        simp only [Option.bind_some] at e ⊢
        split at e
        · next hc => cases e; rw [if_pos hc]; exact ⟨by trivial, hh⟩
        · cases e
  case istore | lstore | astore | istore_n | lstore_n | astore_n =>
    all_goals
      simp only [pm_act] at e ⊢
      split at e
      · split at e
        · next hc => cases e; rw [if_pos hc]; exact ⟨by trivial, hh⟩
        · cases e
      · cases e
  case iinc =>
    simp only [pm_act] at e ⊢
    split at e
    · split at e
      · next hx => cases e; simp only; exact ⟨by trivial, hh⟩
      · cases e
    · cases e
  case dup | pop | dup_x1 | dup_x2 | dup2 | pop2 =>
    all_goals
      simp only [pm_act, Option.map_eq_some_iff] at e ⊢
      obtain ⟨v, hv, e⟩ := e
      cases e
      exact ⟨⟨v, hv, rfl⟩, hh⟩
  case tableswitch | lookupswitch =>
    all_goals
      simp only [pm_act] at e ⊢
      split at e
      · simp only [Option.map_eq_some_iff] at e
        obtain ⟨v, hv, e⟩ := e
        cases e
        simp only [hv, Option.map_some]
        exact ⟨by trivial, hh⟩
      · cases e
  case ineg | lneg | i2l | l2i | i2b | i2s | i2c =>
    all_goals
      simp only [pm_act] at e ⊢
      split at e
      · simp only [Option.map_eq_some_iff] at e
        obtain ⟨v, hv, e⟩ := e
        cases e
        simp only [hv, Option.map_some]
        exact ⟨by trivial, hh⟩
      · cases e
  case iadd | isub | imul | iand | ior | ixor | idiv | irem | ishl | ishr | iushr | ladd | lsub | lmul | land | lor | lxor | ldiv | lrem | lshl | lshr | lushr | lcmp =>
    all_goals
      simp only [pm_act] at e ⊢
      split at e
      · simp only [Option.map_eq_some_iff] at e
        obtain ⟨v, hv, e⟩ := e
        cases e
        simp only [hv, Option.map_some]
        exact ⟨by trivial, hh⟩
      · cases e
  case iconst | bipush | sipush | lconst | ldc | ldc_w | ldc2_w | aconst_null | getstatic =>
    all_goals
      simp only [pm_act] at e ⊢
      split at e
      · cases e; exact ⟨by trivial, hh⟩
      · cases e
  all_goals (cases e)
/-- how it ends -/
theorem pm_sb_fin {i : Instr} {ns : List Nat} {st : List Value} {c : Nat × List Value} {h h' : pm_H} {r : pm_O} (hh : pm_hd h) (e : pm_fin i ns st h = some (r, h')) : pm_fin i ns st (pm_sb c h) = some (r, pm_sb c h') ∧ pm_hd h' := by
  unfold pm_fin at e
  split at e
  · cases e; exact ⟨rfl, hh⟩
  · split at e
    · next hc => cases e; simp only [pm_fin]; rw [if_pos hc]; exact ⟨rfl, hh⟩
    · cases e
  · cases e; exact ⟨rfl, hh⟩
  · cases e; exact ⟨rfl, hh⟩
  · cases e; exact ⟨rfl, hh⟩
  · split at e
    · cases e
      simp only [pm_fin]
      rw [pm_sb_app hh, pm_sb_len]
      exact ⟨rfl, pm_hd_app hh⟩
    · cases e
  · cases e
theorem pm_fin_some (i : Instr) (ns : List Nat) (st : List Value) (h h2 : pm_H) : (pm_fin i ns st h).isSome = (pm_fin i ns st h2).isSome := by
  unfold pm_fin
  split
  all_goals first | rfl | (split <;> rfl)
theorem pm_sb_finN {i : Instr} {ns : List Nat} {st : List Value} {c : Nat × List Value} {h : pm_H} (e : pm_fin i ns st h = none) : pm_fin i ns st (pm_sb c h) = none := by
  have k := pm_fin_some i ns st h (pm_sb c h)
  rw [e] at k
  cases hx : pm_fin i ns st (pm_sb c h) with
  | none => rfl
  | some o => rw [hx] at k; cases k
theorem pm_sb_call {i : Instr} {ns : List Nat} {st : List Value} {c : Nat × List Value} {h : pm_H} (hh : pm_hd h) : pm_call i ns st (pm_sb c h) = pm_call i ns st h := by
  unfold pm_call
  have e : pm_obj (pm_sb c h) = pm_obj h := funext fun v => pm_sb_obj hh v
  rw [e]
/-- the run is the same, whatever array the cell is -/
theorem pm_sb_run {P : Nat × List (Nat × Nat)} {G : Nat → pm_M} (c : Nat × List Value) (hP : 0 < P.1) : ∀ (n d : Nat) (M : pm_M) (F : pm_F) (h h1 : pm_H) (r : pm_O), pm_hd h → pm_run P G n d M F h = some (r, h1) → pm_run P G n d M F (pm_sb c h) = some (r, pm_sb c h1) ∧ pm_hd h1 := by
  intro n
  induction n with
  | zero => intro d M F h h1 r _ e; cases e
  | succ n ih =>
    intro d M F h h1 r hh e
    have e' : pm_one P G (pm_run P G n) d M F h = some (r, h1) := e
    show pm_one P G (pm_run P G n) d M F (pm_sb c h) = _ ∧ _
    unfold pm_one at e' ⊢
    cases e1 : pm_row M.1 F.1 with
    | none => simp [e1] at e'
    | some q =>
      obtain ⟨i, len, vs, ns⟩ := q
      simp only [e1] at e' ⊢
      cases e2 : pm_fin i ns F.2.2 h with
      | some o =>
        obtain ⟨o, h'⟩ := o
        simp only [e2] at e'
        cases e'
        have k := pm_sb_fin (c := c) hh e2
        simp only [k.1]
        exact ⟨trivial, k.2⟩
      | none =>
        simp only [e2] at e'
        simp only [pm_sb_finN (c := c) e2, pm_sb_call (c := c) hh]
        cases e3 : pm_call i ns F.2.2 h with
        | none =>
          simp only [e3] at e' ⊢
          cases e4 : pm_act P i len vs ns F h with
          | none => simp [e4] at e'
          | some q =>
            obtain ⟨F', h'⟩ := q
            simp only [e4] at e'
            have k := pm_sb_act (c := c) hP hh e4
            simp only [k.1]
            exact ih d M F' h' h1 r k.2 e'
        | some q =>
          obtain ⟨y, as, rest⟩ := q
          simp only [e3] at e' ⊢
          cases d with
          | zero => simp at e'
          | succ d =>
            simp only at e' ⊢
            cases e5 : pm_run P G n d (G y) (0, lv_args 0 as, []) h with
            | none => simp [e5] at e'
            | some q =>
              obtain ⟨o, h2⟩ := q
              have k := ih d (G y) _ h h2 o hh e5
              simp only [e5] at e'
              simp only [k.1]
              cases o with
              | inl v =>
                simp only at e' ⊢
                exact ih _ M _ h2 h1 r k.2 e'
              | inr a =>
                simp only at e' ⊢
                cases e6 : h2.1[a]? with
                | none => simp [e6] at e'
                | some x =>
                  cases x with
                  | inr z => simp [e6] at e'
                  | inl z =>
                    simp only [e6] at e'
                    simp only [(pm_sb_in (c := c) k.2 a z).mpr e6]
                    cases e7 : pm_hnd M.2 F.1 z.1 with
                    | none =>
                      simp only [e7] at e' ⊢
                      split at e'
                      · next hc => cases e'; rw [if_pos hc]; exact ⟨rfl, k.2⟩
                      · cases e'
                    | some pc =>
                      simp only [e7] at e' ⊢
                      exact ih _ M _ h2 h1 r k.2 e'
