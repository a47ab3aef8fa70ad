/-! ends, calls, and the whole: what the pure machine runs, the model runs -/
theorem W.pmono {p : Program} {l : Launch} {e : Env} {R : Room} {s : State} {m : MethodId} {args : Array Value} {below : List Frame} {meth : Method} {c : Code} {H : Heap} {locs : List Loc} {cells slots : Nat} {Q Q' : State → Prop} {g : JFrame} (w : W p l e R s m args below meth c H locs cells slots Q g) (hq : ∀ t, Q t → Q' t) : W p l e R s m args below meth c H locs cells slots Q' g := by
  intro T hT X
  obtain ⟨t, a, b⟩ := w T hT X
  exact ⟨t, a, hq t b⟩
/-- how a method ends, by the pure machine's end r and heap h1; h0: its heap at the beginning -/
def pm_Qx (D : pm_D) (cl : List vw_C) (tys : Nat → Option (ClassId × FieldType)) (mu : Nat → Nat) (K base : Nat) (H00 : Heap) (r : pm_O) (n0 s0 : Nat) (h1 : pm_H) : Array Value → State → Outcome → State → Prop := fun _ st o t =>
  (match r with
    | .inl v => o = .returned (v.map (pm_v mu))
    | .inr a => o = .threw (mu a)) ∧ pm_rep D cl tys mu K base H00 h1 t.heap ∧ st.WarmedH t.vm ∧ ∃ L : List Loc, st.sameButNew ({ t with vm := st.vm } : State) L (h1.1.length - n0) (h1.2 - s0) ∧ ∀ q ∈ L, base ≤ q.base
def pm_Q (below : List Frame) (args : Array Value) (s : State) (Qx : Array Value → State → Outcome → State → Prop) : State → Prop := fun t => ∃ o, t.status = .running ∧ Ended t below o ∧ Qx args s o t
section SIM6
variable {p : Program} {l : Launch} {e : Env} {R : Room} {s : State} {m : MethodId} {args : Array Value} {below : List Frame} {meth : Method} {c : Code} {cc : ByteArray} {nL : Nat}
variable {D : pm_D} {cl : List vw_C} {tys : Nat → Option (ClassId × FieldType)} {mu : Nat → Nat} {K base : Nat} {H00 : Heap} {n0 s0 : Nat}
variable {F : pm_F} {h h1 : pm_H} {len : Nat} {ns : List Nat} {v : Option Value}
theorem pm_mq {H : Heap} {locs : List Loc} (hR : pm_rep D cl tys mu K base H00 h H) {ov : Option Value} (he : ov = v.map (pm_v mu)) : ∀ t, MQ below (fun _ _ o t => o = .returned ov ∧ t.heap = H) args s (h.1.length - n0) (h.2 - s0) (fun q => base ≤ q) t → pm_Q below args s (pm_Qx D cl tys mu K base H00 (.inl v) n0 s0 h) t := by
  rintro t ⟨o, h1, h2, ⟨rfl, h4⟩, L, ⟨-, h5, h6⟩, h7⟩
  exact ⟨_, h1, h2, by rw [he], by rw [h4]; exact hR, h5, L, h6, h7⟩
/-- a return -/
theorem ps_ret {i : Instr} {rt : Option FieldType} (hx : p.tables.exec = Jvm.exec) (hb : c.code = cc) (hd : decode cc F.1 = .ok (i, len)) (hlen : len = 1) (hr : meth.sig.returnType = rt) (hlocks : meth.locks = false)
    (hrt : match i with
      | .return_ => rt = none
      | .ireturn => ∃ ty, rt = some ty ∧ pm_tag (ns.headD 0) ty = true
      | .lreturn => rt = some .long
      | .areturn => ∃ ty, rt = some ty ∧ ((∃ n, ty = .object n) ∨ ∃ t, ty = .array t)
      | _ => False)
    (ha : pm_fin i ns F.2.2 h = some (.inl v, h1)) : pm_X p l e R s m args below meth c nL D cl tys mu K base H00 n0 s0 (pm_Q below args s (pm_Qx D cl tys mu K base H00 (.inl v) n0 s0 h1)) F h := by
  subst hlen
  obtain ⟨pc, lv, st⟩ := F
  intro hn hs H locs hR hL ls hl
  cases i with
  | return_ =>
    cases st with
    | nil =>
      cases ha
      exact (W.vret (Qc := fun _ _ o t => o = .returned none ∧ t.heap = H) (free := fun q => base ≤ q) hx hb (hr.trans hrt) (fun t ht _ => ⟨rfl, ht⟩) hL hd).pmono (pm_mq (locs := locs) hR rfl)
    | cons x r => cases ha
  | ireturn =>
    obtain ⟨ty, e1, e2⟩ := hrt
    cases st with
    | nil => cases ha
    | cons x r =>
      cases x with
      | int x =>
        cases r with
        | cons y r => cases ha
        | nil =>
          simp only [pm_fin] at ha
          split at ha
          · next hf =>
            cases ha
            have hnar := (pm_fit_tag (mu := mu) e2 hf).1
            exact (W.zret (Qc := fun _ _ o t => o = .returned (some (.int x)) ∧ t.heap = H) (free := fun q => base ≤ q) hx hb (hr.trans e1) hnar (fun t ht _ => ⟨rfl, ht⟩) hL hd).pmono (pm_mq (locs := locs) hR rfl)
          · cases ha
      | _ => cases r <;> cases ha
  | lreturn =>
    cases st with
    | nil => cases ha
    | cons x r =>
      cases x with
      | long x =>
        cases r with
        | cons y r => cases ha
        | nil =>
          cases ha
          exact (W.lret (Qc := fun _ _ o t => o = .returned (some (.long x)) ∧ t.heap = H) (free := fun q => base ≤ q) hx hb (hr.trans hrt) (fun t ht _ => ⟨rfl, ht⟩) hL hd).pmono (pm_mq (locs := locs) hR rfl)
      | _ => cases r <;> cases ha
  | areturn =>
    obtain ⟨ty, e1, e2⟩ := hrt
    cases st with
    | nil => cases ha
    | cons x r =>
      cases x with
      | null =>
        cases r with
        | cons y r => cases ha
        | nil =>
          cases ha
          exact (W.aret (Qc := fun _ _ o t => o = .returned (some .null) ∧ t.heap = H) (free := fun q => base ≤ q) hx hb (hr.trans e1) e2 (Or.inl rfl) (fun t ht _ => ⟨rfl, ht⟩) hL hd).pmono (pm_mq (locs := locs) hR rfl)
      | ref a =>
        cases r with
        | cons y r => cases ha
        | nil =>
          cases ha
          exact (W.aret (v := .ref (mu a)) (Qc := fun _ _ o t => o = .returned (some (.ref (mu a))) ∧ t.heap = H) (free := fun q => base ≤ q) hx hb (hr.trans e1) e2 (Or.inr ⟨_, rfl⟩) (fun t ht _ => ⟨rfl, ht⟩) hL hd).pmono (pm_mq (locs := locs) hR rfl)
      | _ => cases r <;> cases ha
  | _ => exact hrt.elim
end SIM6
theorem pm_args_map (mu : Nat → Nat) : ∀ (vs : List Value) (i : Nat), (lv_args i vs).map (pm_lm mu) = lv_args i (vs.map (pm_v mu)) := by
  intro vs
  induction vs with
  | nil => intro i; rfl
  | cons v r ih =>
    intro i
    simp only [lv_args, List.map_cons, pm_v_cat]
    rw [ih]
    rfl
