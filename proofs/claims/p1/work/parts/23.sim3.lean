/-! THE HEAP: the pure machine's cells lie in the model's heap, at mu -/
/-- the classes' numbers and the fields' slots; and which classes are arrays of a type (of constants: any such class may be theirs) -/
abbrev pm_D : Type := va_G × (ClassId → FieldType → Prop)
def pm_ak (D : pm_D) (K a : Nat) (c : ClassId) (q : ClassId × FieldType) : Prop := c = q.1 ∨ (a < K ∧ D.2 c q.2)
theorem pm_ak_eq {D : pm_D} {K a : Nat} {c : ClassId} {q : ClassId × FieldType} (h : pm_ak D K a c q) (hK : K ≤ a) : c = q.1 := h.resolve_right (fun z => absurd z.1 (by omega))
def pm_prim (ty : FieldType) : Prop := match ty with
  | .object _ => False
  | .array _ => False
  | _ => True
/-- the cells of which nothing is known, not even whether they are there: class objects and such -/
def pm_opq (a : Nat) : Bool := a == 79 || a == 80
/-- cell a of the pure machine lies at mu a; K: how many are constants (nobody writes them) -/
def pm_at (D : pm_D) (cl : List vw_C) (tys : Nat → Option (ClassId × FieldType)) (mu : Nat → Nat) (K a : Nat) (x : pm_C) (H : Heap) : Prop := match x with
  | .inl o => ∃ (r : vw_C) (cell : Cell), cl[o.1]? = some r ∧ (K ≤ a → o.2.length = r.2.2) ∧ H[mu a]? = some cell ∧ cell.cls = D.1.1 o.1 ∧ cell.vm ≠ .unknown ∧ cell.vm.isStatics = false ∧ (K ≤ a → cell.vm = .none) ∧ ∀ (k : Nat) (v : Value), o.2[k]? = some v → cell.slots[D.1.2 o.1 k]? = some (pm_v mu v)
  | .inr t => (t.1 = 9 ∧ a < K) ∨ ∃ (q : ClassId × FieldType) (cell : Cell), tys t.1 = some q ∧ H[mu a]? = some cell ∧ pm_ak D K a cell.cls q ∧ cell.vm ≠ .unknown ∧ cell.vm.isStatics = false ∧ cell.slots = (t.2.map (pm_v mu)).toArray
theorem pm_at.kept {D : pm_D} {cl : List vw_C} {tys : Nat → Option (ClassId × FieldType)} {mu : Nat → Nat} {K a : Nat} {x : pm_C} {H H' : Heap} (h : pm_at D cl tys mu K a x H) (hq : H'[mu a]? = H[mu a]?) : pm_at D cl tys mu K a x H' := by
  cases x with
  | inl o =>
    obtain ⟨r, cell, h1, h2, h3, h4⟩ := h
    exact ⟨r, cell, h1, h2, hq.trans h3, h4⟩
  | inr t =>
    rcases h with h | ⟨q, cell, h1, h2, h3⟩
    · exact Or.inl h
    · exact Or.inr ⟨q, cell, h1, hq.trans h2, h3⟩
/-- the whole heap: the cells; as many as the model has made since 'base'; what was there before is as it was -/
def pm_rep (D : pm_D) (cl : List vw_C) (tys : Nat → Option (ClassId × FieldType)) (mu : Nat → Nat) (K base : Nat) (H00 : Heap) (h : pm_H) (H : Heap) : Prop :=
  (∀ (a : Nat) (x : pm_C), h.1[a]? = some x → pm_at D cl tys mu K a x H) ∧ K ≤ h.1.length ∧ H.size = base + (h.1.length - K) ∧ (∀ q : Nat, q < base → H[q]? = H00[q]?) ∧ ∀ (a : Nat) (x : pm_C), h.1[a]? = some x → pm_opq a = true → ∃ z, x = .inr (9, z)
/-- where the cells lie: the constants below 'base', the others from it on, in their order -/
def pm_mu (mu : Nat → Nat) (K base : Nat) : Prop := (∀ a b : Nat, pm_idn (some a) = true → pm_idn (some b) = true → mu a = mu b → a = b) ∧ (∀ a : Nat, K ≤ a → mu a = base + (a - K)) ∧ (∀ a : Nat, a < K → pm_opq a = false → mu a < base) ∧ ∀ a : Nat, pm_opq a = true → a < K
section REP
variable {D : pm_D} {cl : List vw_C} {tys : Nat → Option (ClassId × FieldType)} {mu : Nat → Nat} {K base : Nat} {H00 H H' : Heap} {h : pm_H} {a : Nat} {x0 x : pm_C}
theorem pm_rep.set (hR : pm_rep D cl tys mu K base H00 h H) (hm : pm_mu mu K base) (hK : K ≤ a) (h0 : h.1[a]? = some x0) (hx : pm_at D cl tys mu K a x H') (hz : H'.size = H.size) (hq : ∀ q : Nat, q ≠ mu a → H'[q]? = H[q]?) : pm_rep D cl tys mu K base H00 (h.1.set a x, h.2) H' := by
  obtain ⟨h1, h2, h3, h4, h5⟩ := hR
  refine ⟨fun b y hb => ?_, by simpa using h2, by simp only [List.length_set]; rw [hz]; exact h3, fun q hqb => ?_, fun b y hb ho => ?_⟩
  · by_cases hab : b = a
    · subst hab
      have hlt : b < h.1.length := (List.getElem?_eq_some_iff.mp h0).1
      rw [List.getElem?_set_self hlt] at hb
      cases hb
      exact hx
    · rw [List.getElem?_set_ne (fun e => hab e.symm)] at hb
      cases hob : pm_opq b with
      | true =>
        obtain ⟨z, rfl⟩ := h5 b y hb hob
        exact Or.inl ⟨rfl, hm.2.2.2 b hob⟩
      | false =>
        refine (h1 b y hb).kept (hq _ (fun e => hab ?_))
        have ea := hm.2.1 a hK
        by_cases hbK : b < K
        · have := hm.2.2.1 b hbK hob; omega
        · have eb := hm.2.1 b (by omega); omega
  · rw [hq q (fun e => by rw [e, hm.2.1 a hK] at hqb; omega)]
    exact h4 q hqb
  · have hbK := hm.2.2.2 b ho
    rw [List.getElem?_set_ne (by omega)] at hb
    exact h5 b y hb ho
theorem pm_rep.push (n : Nat) (hR : pm_rep D cl tys mu K base H00 h H) (hm : pm_mu mu K base) (hx : pm_at D cl tys mu K h.1.length x H') (hz : H'.size = H.size + 1) (hq : ∀ q : Nat, q < H.size → H'[q]? = H[q]?) : pm_rep D cl tys mu K base H00 (h.1 ++ [x], n) H' := by
  obtain ⟨h1, h2, h3, h4, h5⟩ := hR
  refine ⟨fun b y hb => ?_, by simp only [List.length_append, List.length_singleton]; omega, by simp only [List.length_append, List.length_singleton]; omega, fun q hqb => ?_, fun b y hb ho => ?_⟩
  · by_cases hl : b < h.1.length
    · have hb0 : h.1[b]? = some y := by rw [← hb]; exact (List.getElem?_append_left hl).symm
      cases hob : pm_opq b with
      | true =>
        obtain ⟨z, rfl⟩ := h5 b y hb0 hob
        exact Or.inl ⟨rfl, hm.2.2.2 b hob⟩
      | false =>
        refine (h1 b y hb0).kept (hq _ ?_)
        by_cases hbK : b < K
        · have := hm.2.2.1 b hbK hob; omega
        · rw [hm.2.1 b (by omega)]; omega
    · have hlt : b < (h.1 ++ [x]).length := (List.getElem?_eq_some_iff.mp hb).1
      have he : b = h.1.length := by simp only [List.length_append, List.length_singleton] at hlt; omega
      subst he
      have : (h.1 ++ [x])[h.1.length]? = some x := by simp
      rw [this] at hb
      cases hb
      exact hx
  · rw [hq q (by omega)]
    exact h4 q hqb
  · have hbK := hm.2.2.2 b ho
    rw [List.getElem?_append_left (by omega)] at hb
    exact h5 b y hb ho
theorem pm_rep.next (hR : pm_rep D cl tys mu K base H00 h H) (hm : pm_mu mu K base) : mu h.1.length = H.size := by
  rw [hm.2.1 _ hR.2.1, hR.2.2.1]
end REP
/-- a class that is known: its fields' slots, its number, its record (an ordinary class, if it has fields) -/
def pm_Ka (s : State) (q : vw_C) (cC : ClassId) (iS : Nat → Nat) : Prop := (∀ k, k < q.2.2 → SlotIs s (q.2.1 k).1 (q.2.1 k).2.1 (q.2.1 k).2.2.1 (iS k)) ∧ s.vm.findClass q.1 = some cC ∧ ∃ kC : Class, s.vm.classes[cC]? = some kC ∧ (0 < q.2.2 → kC.kind = .ordinary)
theorem pm_Ka.moved {u U : State} {q : vw_C} {cC : ClassId} {iS : Nat → Nat} (hvm : u.vm.Alike U.vm) (h : pm_Ka u q cC iS) : pm_Ka U q cC iS := by
  obtain ⟨h1, h2, kC, h3, h4⟩ := h
  obtain ⟨k', hk', he⟩ := hvm.2.2 _ _ h3
  exact ⟨fun k hk => slotIs_moved hvm (h1 k hk), by rw [hvm.findClass]; exact h2, k', hk', fun h0 => by rw [he]; exact h4 h0⟩
theorem pm_Ka.u {s : State} {q : vw_C} {cC : ClassId} {iS : Nat → Nat} (h : pm_Ka s q cC iS) (h0 : 0 < q.2.2) : u_Kn s q.1 q.2.1 q.2.2 cC iS := by
  obtain ⟨h1, h2, kC, h3, h4⟩ := h
  exact ⟨h1, h2, kC, h3, h4 h0⟩
/-- what the tables say of the classes and of the arrays' classes -/
def pm_Kn (D : pm_D) (cl : List vw_C) (tys : Nat → Option (ClassId × FieldType)) (s : State) : Prop := (∀ (ci : Nat) (q : vw_C), cl[ci]? = some q → pm_Ka s q (D.1.1 ci) (D.1.2 ci)) ∧ (∀ (t : Nat) (q : ClassId × FieldType), tys t = some q → ArrOfT s q.1 q.2 ∧ va_RA s q.1 q.2) ∧ ∀ (c : ClassId) (ty : FieldType), D.2 c ty → pm_prim ty ∧ ∃ (k : Class) (comp : ClassId), s.vm.classes[c]? = some k ∧ k.kind = .array comp ty
theorem pm_Kn.moved {D : pm_D} {cl : List vw_C} {tys : Nat → Option (ClassId × FieldType)} {u U : State} (hvm : u.vm.Alike U.vm) (h : pm_Kn D cl tys u) : pm_Kn D cl tys U := ⟨fun c q hq => (h.1 c q hq).moved hvm, fun k q hk => ⟨arrOfT_moved hvm (h.2.1 k q hk).1, (h.2.1 k q hk).2.moved hvm⟩, fun c ty hz => ⟨(h.2.2 c ty hz).1, by
  obtain ⟨-, k, comp, h1, h2⟩ := h.2.2 c ty hz
  obtain ⟨k', hk', he⟩ := hvm.2.2 _ _ h1
  exact ⟨k', comp, hk', by rw [he]; exact h2⟩⟩⟩
theorem pm_Kn.arr {D : pm_D} {cl : List vw_C} {tys : Nat → Option (ClassId × FieldType)} {s : State} (h : pm_Kn D cl tys s) {t : Nat} {q : ClassId × FieldType} (ht : tys t = some q) {K a : Nat} {cell : Cell} (hc : pm_ak D K a cell.cls q) (hs : cell.vm.isStatics = false) : s.isArrayOf cell q.2 := by
  rcases hc with hc | ⟨-, hc⟩
  · obtain ⟨-, k, hk, comp, hkind⟩ := (h.2.1 t q ht).1 0 (fun _ => .null)
    exact ⟨fun z hz => (by rw [hz] at hs; cases hs), k, (by rw [hc]; exact hk), comp, hkind⟩
  · obtain ⟨-, k, comp, h1, h2⟩ := h.2.2 _ _ hc
    exact ⟨fun z hz => (by rw [hz] at hs; cases hs), k, h1, comp, h2⟩
theorem pm_obj_eq {h : pm_H} {v : Value} {q : Nat × Nat × List Value} (e : pm_obj h v = some q) : v = .ref q.1 ∧ h.1[q.1]? = some (.inl q.2) := by
  unfold pm_obj at e
  cases v with
  | ref a =>
    simp only at e
    cases hx : h.1[a]? with
    | none => simp [hx] at e
    | some x =>
      cases x with
      | inl z => simp only [hx] at e; cases e; exact ⟨rfl, hx⟩
      | inr z => simp [hx] at e
  | _ => cases e
theorem pm_arr_eq {h : pm_H} {v : Value} {q : Nat × Nat × List Value} (e : pm_arr h v = some q) : v = .ref q.1 ∧ h.1[q.1]? = some (.inr q.2) := by
  unfold pm_arr at e
  cases v with
  | ref a =>
    simp only at e
    cases hx : h.1[a]? with
    | none => simp [hx] at e
    | some x =>
      cases x with
      | inr z => simp only [hx] at e; cases e; exact ⟨rfl, hx⟩
      | inl z => simp [hx] at e
  | _ => cases e
theorem pm_ix_eq {j : Value} {n k : Nat} (e : pm_ix j n = some k) : ∃ i : Int32, j = .int i ∧ ¬ i < 0 ∧ i.toNatClampNeg = k ∧ k < n := by
  unfold pm_ix at e
  cases j with
  | int i =>
    simp only at e
    split at e
    · cases e
    · next h0 =>
      split at e
      · next h1 => cases e; exact ⟨i, rfl, h0, rfl, h1⟩
      · cases e
  | _ => cases e
section SIM3
variable {p : Program} {l : Launch} {e : Env} {R : Room} {s : State} {m : MethodId} {args : Array Value} {below : List Frame} {meth : Method} {c : Code} {Q : State → Prop} {cc : ByteArray} {nL : Nat}
variable {D : pm_D} {cl : List vw_C} {tys : Nat → Option (ClassId × FieldType)} {mu : Nat → Nat} {K base : Nat} {H00 : Heap} {n0 s0 : Nat}
variable {asg : List (Nat × Nat)} {F F' : pm_F} {h h' : pm_H} {len : Nat} {vs : List Value} {ns : List Nat} {Ts Ns : List Cond} {own : String}
/-- the model, at any heap that the pure machine's h describes, goes on from F; n0, s0: the cells and slots at the frame's beginning -/
def pm_X (p : Program) (l : Launch) (e : Env) (R : Room) (s : State) (m : MethodId) (args : Array Value) (below : List Frame) (meth : Method) (c : Code) (nL : Nat) (D : pm_D) (cl : List vw_C) (tys : Nat → Option (ClassId × FieldType)) (mu : Nat → Nat) (K base : Nat) (H00 : Heap) (n0 s0 : Nat) (Q : State → Prop) (F : pm_F) (h : pm_H) : Prop :=
  n0 ≤ h.1.length → s0 ≤ h.2 → ∀ (H : Heap) (locs : List Loc), pm_rep D cl tys mu K base H00 h H → (∀ q ∈ locs, base ≤ q.base) → pm_W p l e R s m args below meth c nL mu H locs (h.1.length - n0) (h.2 - s0) Q F
/-- words that hold of the tables and stay so as they grow, beside the steady ones -/
def pm_Nw (Ns : List Cond) (s : State) : Prop := ∀ w ∈ Ns, va_Nw w s
def pm_nk (w : Cond) : Bool := match w with
  | .castable _ _ | .fieldLinkNest _ _ _ _ _ _ | .methodLinkNest _ _ _ _ | .declares _ | .privateMethod _ => true
  | _ => false
theorem pm_warmP {x : MethodName} {s U : State} (hW : s.WarmedH U.vm) (hZ : va_Nw (.privateMethod x) s) : va_Nw (.privateMethod x) U := va_tabs rfl (rfl : (s.setVm U.vm).vm = U.vm) (show (Cond.privateMethod x).before #[] (s.setVm U.vm) = true by
  have e1 : (s.setVm U.vm).methodNamed? x = s.methodNamed? x := State.methodNamed?_setVm hW.alike x
  have e2 : (s.setVm U.vm).vm.method? = s.vm.method? := funext fun k => hW.alike.method? k
  unfold va_Nw at hZ
  simp only [Cond.before, Cond.holds, Cond.value] at hZ ⊢
  rw [e1, e2]
  exact hZ)
theorem pm_Nw.warm {Ns : List Cond} {s U : State} (hk : ∀ w ∈ Ns, pm_nk w = true) (hW : s.WarmedH U.vm) (h : pm_Nw Ns s) : pm_Nw Ns U := by
  intro w hw
  have h1 := h w hw
  have h2 := hk w hw
  cases w with
  | castable a b => exact h1.warmC hW
  | fieldLinkNest a i b n d t => exact h1.warmF hW
  | methodLinkNest a i x t => exact h1.warmM hW
  | declares x => exact h1.warmD hW
  | privateMethod x => exact pm_warmP hW h1
  | _ => cases h2
/-- the words of a field's row: for each class and place -/
def pm_okF (Ts Ns : List Cond) (cl : List vw_C) (own : String) (idx : Nat) (ns : List Nat) : Prop := ∀ ci k, pm_slot ns ci = some k → ∃ (r : vw_C) (ref : String), cl[ci]? = some r ∧ k < r.2.2 ∧ (∀ w ∈ u_ws r.1 r.2.1 r.2.2, w ∈ Ts) ∧ (Cond.fieldLink own idx ref (r.2.1 k).2.1 (r.2.1 k).2.2.1 ∈ Ts ∨ ∃ host, Cond.fieldLinkNest own idx ref (r.2.1 k).2.1 (r.2.1 k).2.2.1 host ∈ Ns) ∧ (ref = (r.2.1 k).1 ∨ Cond.sameField ref (r.2.1 k).1 (r.2.1 k).2.1 (r.2.1 k).2.2.1 ∈ Ts)
theorem ps_getfield {idx : Nat} (hx : p.tables.exec = Jvm.exec) (hb : c.code = cc) (hd : decode cc F.1 = .ok (.getfield idx, len)) (hlen : len = 3) (hts : ∀ w ∈ Ts, w.before args s = true) (hown : s.vm.findClass own = some m.cls) (hok : pm_okF Ts Ns cl own idx ns) (hNw : pm_Nw Ns s) (hKn : pm_Kn D cl tys s)
    (ha : pm_act (K, asg) (.getfield idx) len vs ns F h = some (F', h')) (kk : pm_X p l e R s m args below meth c nL D cl tys mu K base H00 n0 s0 Q F' h') : pm_X p l e R s m args below meth c nL D cl tys mu K base H00 n0 s0 Q F h := by
  subst hlen
  obtain ⟨pc, lv, st⟩ := F
  cases st with
  | nil => cases ha
  | cons o st =>
    simp only [pm_act, Option.bind_eq_some_iff, Option.map_eq_some_iff] at ha
    obtain ⟨⟨a, ci, fs⟩, ho, k, hk, v, hv, ha⟩ := ha
    cases ha
    obtain ⟨rfl, hcell⟩ := pm_obj_eq ho
    intro hn hs H locs hR hL ls hl
    obtain ⟨r, cell, q1, q2, q3, q4, q5, q6, q7, q8⟩ := hR.1 a _ hcell
    obtain ⟨r', ref, g1, g2, g3, g4, g5⟩ := hok ci k hk
    have hr : r' = r := Option.some.inj (g1.symm.trans q1)
    subst hr
    obtain ⟨hS, hfc, kC, hkC, hkind⟩ := hKn.1 ci _ g1
    obtain ⟨cf, kf, fi, f, hi, hsl⟩ := hS k g2
    have hi2 : s.fieldFound? ref (r'.2.1 k).2.1 (r'.2.1 k).2.2.1 = some (cf, kf, fi, f) := by
      rcases g5 with rfl | g5
      · exact hi
      · exact u_same (hts _ g5) _ hi
    have hval : cell.slots[f.slot]? = some (pm_v mu v) := by rw [hsl]; exact q8 k v hv
    have hst := (u_facts hfc hkC (u_lays hts g3 g2) hi).1
    rcases g4 with g4 | ⟨host, g4⟩
    · exact W.getf hx hb hown (hts _ g4) hi2 hst q3 q5 hval rfl rfl hd (kk hn hs H locs hR hL ls hl)
    · exact va_Wgetf hx hb hown (va_Nw.use rfl (hNw _ g4)) hi2 hst q3 q5 hval rfl rfl hd (kk hn hs H locs hR hL ls hl)
theorem ps_arraylength (hx : p.tables.exec = Jvm.exec) (hb : c.code = cc) (hd : decode cc F.1 = .ok (.arraylength, len)) (hlen : len = 1) (hKn : pm_Kn D cl tys s)
    (ha : pm_act (K, asg) .arraylength len vs ns F h = some (F', h')) (kk : pm_X p l e R s m args below meth c nL D cl tys mu K base H00 n0 s0 Q F' h') : pm_X p l e R s m args below meth c nL D cl tys mu K base H00 n0 s0 Q F h := by
  subst hlen
  obtain ⟨pc, lv, st⟩ := F
  cases st with
  | nil => cases ha
  | cons o st =>
    simp only [pm_act, Option.bind_eq_some_iff] at ha
    obtain ⟨⟨a, t, xs⟩, ho, ha⟩ := ha
    split at ha
    · cases ha
    next h9 =>
    cases ha
    obtain ⟨rfl, hcell⟩ := pm_arr_eq ho
    intro hn hs H locs hR hL ls hl
    obtain ⟨q, cell, q1, q2, q3, q4, q5, q7⟩ := (hR.1 a _ hcell).resolve_left (fun z => h9 z.1)
    refine W.alen hx hb q2 (hKn.arr q1 q3 q5) (n := xs.length.toInt32) ?_ rfl rfl hd (kk hn hs H locs hR hL ls hl)
    rw [q7]; simp

/-- the kinds of arrays by their numbers -/
def pm_tyk (tys : Nat → Option (ClassId × FieldType)) : Prop := ∀ (t : Nat) (q : ClassId × FieldType), tys t = some q → (t = 0 → q.2 = .int) ∧ (t = 1 → q.2 = .long) ∧ (t = 3 → q.2 = .boolean) ∧ (t = 4 → q.2 = .byte) ∧ (t = 5 → q.2 = .char) ∧ (t = 6 → q.2 = .short) ∧ (10 ≤ t → ∃ C, q.2 = .object C)

theorem ps_iaload (hx : p.tables.exec = Jvm.exec) (hb : c.code = cc) (hd : decode cc F.1 = .ok (.iaload, len)) (hlen : len = 1) (hKn : pm_Kn D cl tys s) (htk : pm_tyk tys)
    (ha : pm_act (K, asg) .iaload len vs ns F h = some (F', h')) (kk : pm_X p l e R s m args below meth c nL D cl tys mu K base H00 n0 s0 Q F' h') : pm_X p l e R s m args below meth c nL D cl tys mu K base H00 n0 s0 Q F h := by
  subst hlen
  obtain ⟨pc, lv, st⟩ := F
  cases st with
  | nil => cases ha
  | cons j st =>
    cases st with
    | nil => cases ha
    | cons o st =>
      simp only [pm_act, Option.bind_eq_some_iff] at ha
      obtain ⟨⟨a, t, xs⟩, ho, ha⟩ := ha
      split at ha
      · next hk =>
        simp only [Option.bind_eq_some_iff, Option.map_eq_some_iff] at ha
        obtain ⟨k, hix, v, hv, ha⟩ := ha
        cases ha
        obtain ⟨i, rfl, hi0, hik, hkn⟩ := pm_ix_eq hix
        obtain ⟨rfl, hcell⟩ := pm_arr_eq ho
        intro hn hs H locs hR hL ls hl
        have h9 : t ≠ 9 := by rintro rfl; simp [pm_ldk] at hk
        obtain ⟨q, cell, q1, q2, q3, q4, q5, q7⟩ := (hR.1 a _ hcell).resolve_left (fun z => h9 z.1)
        have hin : ¬ (i < 0 ∨ cell.slots.size ≤ i.toNatClampNeg) := by
          rw [q7, hik]; simp only [List.size_toArray, List.length_map]; rintro (z | z)
          · exact hi0 z
          · exact absurd hkn (Nat.not_lt.mpr z)
        have hval : cell.slots[i.toNatClampNeg]? = some (pm_v mu v) := by rw [q7, hik]; simp [hv]
        have harr := hKn.arr q1 q3 q5
        have ht : t = 0 := by simpa [pm_ldk] using hk
        rw [(htk t q q1).1 ht] at harr
        exact W.iald hx hb q2 harr q4 hin hval rfl rfl hd (kk hn hs H locs hR hL ls hl)
      · cases ha
theorem ps_laload (hx : p.tables.exec = Jvm.exec) (hb : c.code = cc) (hd : decode cc F.1 = .ok (.laload, len)) (hlen : len = 1) (hKn : pm_Kn D cl tys s) (htk : pm_tyk tys)
    (ha : pm_act (K, asg) .laload len vs ns F h = some (F', h')) (kk : pm_X p l e R s m args below meth c nL D cl tys mu K base H00 n0 s0 Q F' h') : pm_X p l e R s m args below meth c nL D cl tys mu K base H00 n0 s0 Q F h := by
  subst hlen
  obtain ⟨pc, lv, st⟩ := F
  cases st with
  | nil => cases ha
  | cons j st =>
    cases st with
    | nil => cases ha
    | cons o st =>
      simp only [pm_act, Option.bind_eq_some_iff] at ha
      obtain ⟨⟨a, t, xs⟩, ho, ha⟩ := ha
      split at ha
      · next hk =>
        simp only [Option.bind_eq_some_iff, Option.map_eq_some_iff] at ha
        obtain ⟨k, hix, v, hv, ha⟩ := ha
        cases ha
        obtain ⟨i, rfl, hi0, hik, hkn⟩ := pm_ix_eq hix
        obtain ⟨rfl, hcell⟩ := pm_arr_eq ho
        intro hn hs H locs hR hL ls hl
        have h9 : t ≠ 9 := by rintro rfl; simp [pm_ldk] at hk
        obtain ⟨q, cell, q1, q2, q3, q4, q5, q7⟩ := (hR.1 a _ hcell).resolve_left (fun z => h9 z.1)
        have hin : ¬ (i < 0 ∨ cell.slots.size ≤ i.toNatClampNeg) := by
          rw [q7, hik]; simp only [List.size_toArray, List.length_map]; rintro (z | z)
          · exact hi0 z
          · exact absurd hkn (Nat.not_lt.mpr z)
        have hval : cell.slots[i.toNatClampNeg]? = some (pm_v mu v) := by rw [q7, hik]; simp [hv]
        have harr := hKn.arr q1 q3 q5
        have ht : t = 1 := by simpa [pm_ldk] using hk
        rw [(htk t q q1).2.1 ht] at harr
        exact W.lald hx hb q2 harr q4 hin hval rfl rfl hd (kk hn hs H locs hR hL ls hl)
      · cases ha
theorem ps_caload (hx : p.tables.exec = Jvm.exec) (hb : c.code = cc) (hd : decode cc F.1 = .ok (.caload, len)) (hlen : len = 1) (hKn : pm_Kn D cl tys s) (htk : pm_tyk tys)
    (ha : pm_act (K, asg) .caload len vs ns F h = some (F', h')) (kk : pm_X p l e R s m args below meth c nL D cl tys mu K base H00 n0 s0 Q F' h') : pm_X p l e R s m args below meth c nL D cl tys mu K base H00 n0 s0 Q F h := by
  subst hlen
  obtain ⟨pc, lv, st⟩ := F
  cases st with
  | nil => cases ha
  | cons j st =>
    cases st with
    | nil => cases ha
    | cons o st =>
      simp only [pm_act, Option.bind_eq_some_iff] at ha
      obtain ⟨⟨a, t, xs⟩, ho, ha⟩ := ha
      split at ha
      · next hk =>
        simp only [Option.bind_eq_some_iff, Option.map_eq_some_iff] at ha
        obtain ⟨k, hix, v, hv, ha⟩ := ha
        cases ha
        obtain ⟨i, rfl, hi0, hik, hkn⟩ := pm_ix_eq hix
        obtain ⟨rfl, hcell⟩ := pm_arr_eq ho
        intro hn hs H locs hR hL ls hl
        have h9 : t ≠ 9 := by rintro rfl; simp [pm_ldk] at hk
        obtain ⟨q, cell, q1, q2, q3, q4, q5, q7⟩ := (hR.1 a _ hcell).resolve_left (fun z => h9 z.1)
        have hin : ¬ (i < 0 ∨ cell.slots.size ≤ i.toNatClampNeg) := by
          rw [q7, hik]; simp only [List.size_toArray, List.length_map]; rintro (z | z)
          · exact hi0 z
          · exact absurd hkn (Nat.not_lt.mpr z)
        have hval : cell.slots[i.toNatClampNeg]? = some (pm_v mu v) := by rw [q7, hik]; simp [hv]
        have harr := hKn.arr q1 q3 q5
        have ht : t = 5 := by simpa [pm_ldk] using hk
        rw [(htk t q q1).2.2.2.2.1 ht] at harr
        exact W.cald hx hb q2 harr q4 hin hval rfl rfl hd (kk hn hs H locs hR hL ls hl)
      · cases ha
theorem ps_saload (hx : p.tables.exec = Jvm.exec) (hb : c.code = cc) (hd : decode cc F.1 = .ok (.saload, len)) (hlen : len = 1) (hKn : pm_Kn D cl tys s) (htk : pm_tyk tys)
    (ha : pm_act (K, asg) .saload len vs ns F h = some (F', h')) (kk : pm_X p l e R s m args below meth c nL D cl tys mu K base H00 n0 s0 Q F' h') : pm_X p l e R s m args below meth c nL D cl tys mu K base H00 n0 s0 Q F h := by
  subst hlen
  obtain ⟨pc, lv, st⟩ := F
  cases st with
  | nil => cases ha
  | cons j st =>
    cases st with
    | nil => cases ha
    | cons o st =>
      simp only [pm_act, Option.bind_eq_some_iff] at ha
      obtain ⟨⟨a, t, xs⟩, ho, ha⟩ := ha
      split at ha
      · next hk =>
        simp only [Option.bind_eq_some_iff, Option.map_eq_some_iff] at ha
        obtain ⟨k, hix, v, hv, ha⟩ := ha
        cases ha
        obtain ⟨i, rfl, hi0, hik, hkn⟩ := pm_ix_eq hix
        obtain ⟨rfl, hcell⟩ := pm_arr_eq ho
        intro hn hs H locs hR hL ls hl
        have h9 : t ≠ 9 := by rintro rfl; simp [pm_ldk] at hk
        obtain ⟨q, cell, q1, q2, q3, q4, q5, q7⟩ := (hR.1 a _ hcell).resolve_left (fun z => h9 z.1)
        have hin : ¬ (i < 0 ∨ cell.slots.size ≤ i.toNatClampNeg) := by
          rw [q7, hik]; simp only [List.size_toArray, List.length_map]; rintro (z | z)
          · exact hi0 z
          · exact absurd hkn (Nat.not_lt.mpr z)
        have hval : cell.slots[i.toNatClampNeg]? = some (pm_v mu v) := by rw [q7, hik]; simp [hv]
        have harr := hKn.arr q1 q3 q5
        have ht : t = 6 := by simpa [pm_ldk] using hk
        rw [(htk t q q1).2.2.2.2.2.1 ht] at harr
        exact W.sald hx hb q2 harr q4 hin hval rfl rfl hd (kk hn hs H locs hR hL ls hl)
      · cases ha
theorem ps_baload (hx : p.tables.exec = Jvm.exec) (hb : c.code = cc) (hd : decode cc F.1 = .ok (.baload, len)) (hlen : len = 1) (hKn : pm_Kn D cl tys s) (htk : pm_tyk tys)
    (ha : pm_act (K, asg) .baload len vs ns F h = some (F', h')) (kk : pm_X p l e R s m args below meth c nL D cl tys mu K base H00 n0 s0 Q F' h') : pm_X p l e R s m args below meth c nL D cl tys mu K base H00 n0 s0 Q F h := by
  subst hlen
  obtain ⟨pc, lv, st⟩ := F
  cases st with
  | nil => cases ha
  | cons j st =>
    cases st with
    | nil => cases ha
    | cons o st =>
      simp only [pm_act, Option.bind_eq_some_iff] at ha
      obtain ⟨⟨a, t, xs⟩, ho, ha⟩ := ha
      split at ha
      · next hk =>
        simp only [Option.bind_eq_some_iff, Option.map_eq_some_iff] at ha
        obtain ⟨k, hix, v, hv, ha⟩ := ha
        cases ha
        obtain ⟨i, rfl, hi0, hik, hkn⟩ := pm_ix_eq hix
        obtain ⟨rfl, hcell⟩ := pm_arr_eq ho
        intro hn hs H locs hR hL ls hl
        have h9 : t ≠ 9 := by rintro rfl; simp [pm_ldk] at hk
        obtain ⟨q, cell, q1, q2, q3, q4, q5, q7⟩ := (hR.1 a _ hcell).resolve_left (fun z => h9 z.1)
        have hin : ¬ (i < 0 ∨ cell.slots.size ≤ i.toNatClampNeg) := by
          rw [q7, hik]; simp only [List.size_toArray, List.length_map]; rintro (z | z)
          · exact hi0 z
          · exact absurd hkn (Nat.not_lt.mpr z)
        have hval : cell.slots[i.toNatClampNeg]? = some (pm_v mu v) := by rw [q7, hik]; simp [hv]
        have harr := hKn.arr q1 q3 q5
        have ht : t = 3 ∨ t = 4 := by simpa [pm_ldk] using hk
        rcases ht with ht | ht
        · rw [(htk t q q1).2.2.1 ht] at harr
          exact W.zald hx hb q2 harr q4 hin hval rfl rfl hd (kk hn hs H locs hR hL ls hl)
        · rw [(htk t q q1).2.2.2.1 ht] at harr
          exact W.bald hx hb q2 harr q4 hin hval rfl rfl hd (kk hn hs H locs hR hL ls hl)
      · cases ha
theorem ps_aaload (hx : p.tables.exec = Jvm.exec) (hb : c.code = cc) (hd : decode cc F.1 = .ok (.aaload, len)) (hlen : len = 1) (hKn : pm_Kn D cl tys s) (htk : pm_tyk tys)
    (ha : pm_act (K, asg) .aaload len vs ns F h = some (F', h')) (kk : pm_X p l e R s m args below meth c nL D cl tys mu K base H00 n0 s0 Q F' h') : pm_X p l e R s m args below meth c nL D cl tys mu K base H00 n0 s0 Q F h := by
  subst hlen
  obtain ⟨pc, lv, st⟩ := F
  cases st with
  | nil => cases ha
  | cons j st =>
    cases st with
    | nil => cases ha
    | cons o st =>
      simp only [pm_act, Option.bind_eq_some_iff] at ha
      obtain ⟨⟨a, t, xs⟩, ho, ha⟩ := ha
      split at ha
      · next hk =>
        simp only [Option.bind_eq_some_iff, Option.map_eq_some_iff] at ha
        obtain ⟨k, hix, v, hv, ha⟩ := ha
        cases ha
        obtain ⟨i, rfl, hi0, hik, hkn⟩ := pm_ix_eq hix
        obtain ⟨rfl, hcell⟩ := pm_arr_eq ho
        intro hn hs H locs hR hL ls hl
        have h9 : t ≠ 9 := by rintro rfl; simp [pm_ldk] at hk
        obtain ⟨q, cell, q1, q2, q3, q4, q5, q7⟩ := (hR.1 a _ hcell).resolve_left (fun z => h9 z.1)
        have hin : ¬ (i < 0 ∨ cell.slots.size ≤ i.toNatClampNeg) := by
          rw [q7, hik]; simp only [List.size_toArray, List.length_map]; rintro (z | z)
          · exact hi0 z
          · exact absurd hkn (Nat.not_lt.mpr z)
        have hval : cell.slots[i.toNatClampNeg]? = some (pm_v mu v) := by rw [q7, hik]; simp [hv]
        have harr := hKn.arr q1 q3 q5
        have ht : 10 ≤ t := by simpa [pm_ldk] using hk
        obtain ⟨C, hC⟩ := (htk t q q1).2.2.2.2.2.2 ht
        rw [hC] at harr
        exact W.aald hx hb q2 harr rfl q4 hin hval rfl rfl hd (kk hn hs H locs hR hL ls hl)
      · cases ha
theorem pm_rep.store {H H' : Heap} {a t k : Nat} {xs : List Value} {v w : Value} {cell : Cell} (hR : pm_rep D cl tys mu K base H00 h H) (hm : pm_mu mu K base) (hK : K ≤ a) (h9 : t ≠ 9) (h0 : h.1[a]? = some (.inr (t, xs))) (hc : H[mu a]? = some cell) (hw : v = pm_v mu w) (hH : H'[mu a]? = some (cell.setSlot k v)) (hz : H'.size = H.size) (hq : ∀ q : Nat, q ≠ mu a → H'[q]? = H[q]?) : pm_rep D cl tys mu K base H00 (h.1.set a (.inr (t, xs.set k w)), h.2) H' := by
  obtain ⟨q, cell0, q1, q2, q3, q4, q5, q7⟩ := (hR.1 a _ h0).resolve_left (fun z => h9 z.1)
  cases hc.symm.trans q2
  refine hR.set hm hK h0 (Or.inr ⟨q, cell.setSlot k v, q1, hH, q3, q4, q5, ?_⟩) hz hq
  subst hw
  show cell.slots.setIfInBounds k (pm_v mu w) = _
  rw [q7]
  simp [List.map_set]
theorem pm_locs {locs : List Loc} {a k : Nat} (hL : ∀ q ∈ locs, base ≤ q.base) (hm : pm_mu mu K base) (hK : K ≤ a) : ∀ q ∈ locs ++ [⟨mu a, k⟩], base ≤ q.base := by
  intro q hq
  rcases List.mem_append.mp hq with z | z
  · exact hL q z
  · rw [List.mem_singleton.mp z]
    show base ≤ mu a
    rw [hm.2.1 a hK]
    omega
theorem ps_iastore (hx : p.tables.exec = Jvm.exec) (hb : c.code = cc) (hd : decode cc F.1 = .ok (.iastore, len)) (hlen : len = 1) (hKn : pm_Kn D cl tys s) (htk : pm_tyk tys) (hm : pm_mu mu K base)
    (ha : pm_act (K, asg) .iastore len vs ns F h = some (F', h')) (kk : pm_X p l e R s m args below meth c nL D cl tys mu K base H00 n0 s0 Q F' h') : pm_X p l e R s m args below meth c nL D cl tys mu K base H00 n0 s0 Q F h := by
  subst hlen
  obtain ⟨pc, lv, st⟩ := F
  cases st with
  | nil => cases ha
  | cons v st =>
    cases st with
    | nil => cases ha
    | cons j st =>
      cases st with
      | nil => cases ha
      | cons o st =>
        simp only [pm_act, Option.bind_eq_some_iff] at ha
        obtain ⟨⟨a, t, xs⟩, ho, k, hix, w, hw, ha⟩ := ha
        split at ha
        · next hKa =>
          cases ha
          obtain ⟨i, rfl, hi0, hik, hkn⟩ := pm_ix_eq hix
          obtain ⟨rfl, hcell⟩ := pm_arr_eq ho
          intro hn hs H locs hR hL ls hl
          have h9 : t ≠ 9 := by rintro rfl; cases v <;> simp [pm_nar] at hw
          obtain ⟨q, cell, q1, q2, q3, q4, q5, q7⟩ := (hR.1 a _ hcell).resolve_left (fun z => h9 z.1)
          have hn' : n0 ≤ (h.1.set a (Sum.inr (t, xs.set k w))).length := by simpa using hn
          have hsz : cell.slots.size = xs.length := by rw [q7]; simp
          have hin : ¬ (i < 0 ∨ cell.slots.size ≤ i.toNatClampNeg) := by
            rw [hsz, hik]; rintro (z | z)
            · exact hi0 z
            · exact absurd hkn (Nat.not_lt.mpr z)
          have harr := hKn.arr q1 q3 q5
          have hkk : ∀ (vv : Value) (H' : Heap), vv = pm_v mu w → H'[mu a]? = some (cell.setSlot i.toNatClampNeg vv) → H'.size = H.size → (∀ q : Nat, q ≠ mu a → H'[q]? = H[q]?) → W p l e R s m args below meth c H' (locs ++ [⟨mu a, i.toNatClampNeg⟩]) (h.1.length - n0) (h.2 - s0) Q (F0 m (pc + 1) ls (st.map (pm_v mu))) := by
            intro vv H' e0 e1 e2 e3
            rw [hik] at e1 ⊢
            have := kk hn' hs H' (locs ++ [⟨mu a, k⟩]) (hR.store hm hKa h9 hcell q2 e0 e1 e2 e3) (pm_locs hL hm hKa) ls hl
            simpa using this
          cases v with
          | int x =>
            by_cases ht : t = 0
            · simp only [pm_nar, if_pos ht] at hw
              cases hw
              rw [(htk t q q1).1 ht] at harr
              exact W.iast hx hb q2 harr q4 hin rfl rfl hd (fun H' e1 e2 e3 => hkk _ H' (by rfl) e1 e2 e3)
            · simp [pm_nar, ht] at hw
          | _ => simp [pm_nar] at hw
        · cases ha
theorem ps_lastore (hx : p.tables.exec = Jvm.exec) (hb : c.code = cc) (hd : decode cc F.1 = .ok (.lastore, len)) (hlen : len = 1) (hKn : pm_Kn D cl tys s) (htk : pm_tyk tys) (hm : pm_mu mu K base)
    (ha : pm_act (K, asg) .lastore len vs ns F h = some (F', h')) (kk : pm_X p l e R s m args below meth c nL D cl tys mu K base H00 n0 s0 Q F' h') : pm_X p l e R s m args below meth c nL D cl tys mu K base H00 n0 s0 Q F h := by
  subst hlen
  obtain ⟨pc, lv, st⟩ := F
  cases st with
  | nil => cases ha
  | cons v st =>
    cases st with
    | nil => cases ha
    | cons j st =>
      cases st with
      | nil => cases ha
      | cons o st =>
        simp only [pm_act, Option.bind_eq_some_iff] at ha
        obtain ⟨⟨a, t, xs⟩, ho, k, hix, w, hw, ha⟩ := ha
        split at ha
        · next hKa =>
          cases ha
          obtain ⟨i, rfl, hi0, hik, hkn⟩ := pm_ix_eq hix
          obtain ⟨rfl, hcell⟩ := pm_arr_eq ho
          intro hn hs H locs hR hL ls hl
          have h9 : t ≠ 9 := by rintro rfl; cases v <;> simp [pm_nar] at hw
          obtain ⟨q, cell, q1, q2, q3, q4, q5, q7⟩ := (hR.1 a _ hcell).resolve_left (fun z => h9 z.1)
          have hn' : n0 ≤ (h.1.set a (Sum.inr (t, xs.set k w))).length := by simpa using hn
          have hsz : cell.slots.size = xs.length := by rw [q7]; simp
          have hin : ¬ (i < 0 ∨ cell.slots.size ≤ i.toNatClampNeg) := by
            rw [hsz, hik]; rintro (z | z)
            · exact hi0 z
            · exact absurd hkn (Nat.not_lt.mpr z)
          have harr := hKn.arr q1 q3 q5
          have hkk : ∀ (vv : Value) (H' : Heap), vv = pm_v mu w → H'[mu a]? = some (cell.setSlot i.toNatClampNeg vv) → H'.size = H.size → (∀ q : Nat, q ≠ mu a → H'[q]? = H[q]?) → W p l e R s m args below meth c H' (locs ++ [⟨mu a, i.toNatClampNeg⟩]) (h.1.length - n0) (h.2 - s0) Q (F0 m (pc + 1) ls (st.map (pm_v mu))) := by
            intro vv H' e0 e1 e2 e3
            rw [hik] at e1 ⊢
            have := kk hn' hs H' (locs ++ [⟨mu a, k⟩]) (hR.store hm hKa h9 hcell q2 e0 e1 e2 e3) (pm_locs hL hm hKa) ls hl
            simpa using this
          cases v with
          | long x =>
            by_cases ht : t = 1
            · simp only [pm_nar, if_pos ht] at hw
              cases hw
              rw [(htk t q q1).2.1 ht] at harr
              exact W.last hx hb q2 harr q4 hin rfl rfl hd (fun H' e1 e2 e3 => hkk _ H' (by rfl) e1 e2 e3)
            · simp [pm_nar, ht] at hw
          | _ => simp [pm_nar] at hw
        · cases ha
theorem ps_castore (hx : p.tables.exec = Jvm.exec) (hb : c.code = cc) (hd : decode cc F.1 = .ok (.castore, len)) (hlen : len = 1) (hKn : pm_Kn D cl tys s) (htk : pm_tyk tys) (hm : pm_mu mu K base)
    (ha : pm_act (K, asg) .castore len vs ns F h = some (F', h')) (kk : pm_X p l e R s m args below meth c nL D cl tys mu K base H00 n0 s0 Q F' h') : pm_X p l e R s m args below meth c nL D cl tys mu K base H00 n0 s0 Q F h := by
  subst hlen
  obtain ⟨pc, lv, st⟩ := F
  cases st with
  | nil => cases ha
  | cons v st =>
    cases st with
    | nil => cases ha
    | cons j st =>
      cases st with
      | nil => cases ha
      | cons o st =>
        simp only [pm_act, Option.bind_eq_some_iff] at ha
        obtain ⟨⟨a, t, xs⟩, ho, k, hix, w, hw, ha⟩ := ha
        split at ha
        · next hKa =>
          cases ha
          obtain ⟨i, rfl, hi0, hik, hkn⟩ := pm_ix_eq hix
          obtain ⟨rfl, hcell⟩ := pm_arr_eq ho
          intro hn hs H locs hR hL ls hl
          have h9 : t ≠ 9 := by rintro rfl; cases v <;> simp [pm_nar] at hw
          obtain ⟨q, cell, q1, q2, q3, q4, q5, q7⟩ := (hR.1 a _ hcell).resolve_left (fun z => h9 z.1)
          have hn' : n0 ≤ (h.1.set a (Sum.inr (t, xs.set k w))).length := by simpa using hn
          have hsz : cell.slots.size = xs.length := by rw [q7]; simp
          have hin : ¬ (i < 0 ∨ cell.slots.size ≤ i.toNatClampNeg) := by
            rw [hsz, hik]; rintro (z | z)
            · exact hi0 z
            · exact absurd hkn (Nat.not_lt.mpr z)
          have harr := hKn.arr q1 q3 q5
          have hkk : ∀ (vv : Value) (H' : Heap), vv = pm_v mu w → H'[mu a]? = some (cell.setSlot i.toNatClampNeg vv) → H'.size = H.size → (∀ q : Nat, q ≠ mu a → H'[q]? = H[q]?) → W p l e R s m args below meth c H' (locs ++ [⟨mu a, i.toNatClampNeg⟩]) (h.1.length - n0) (h.2 - s0) Q (F0 m (pc + 1) ls (st.map (pm_v mu))) := by
            intro vv H' e0 e1 e2 e3
            rw [hik] at e1 ⊢
            have := kk hn' hs H' (locs ++ [⟨mu a, k⟩]) (hR.store hm hKa h9 hcell q2 e0 e1 e2 e3) (pm_locs hL hm hKa) ls hl
            simpa using this
          cases v with
          | int x =>
            by_cases ht : t = 5
            · simp only [pm_nar, if_pos ht] at hw
              cases hw
              rw [(htk t q q1).2.2.2.2.1 ht] at harr
              exact W.cast hx hb q2 harr q4 hin rfl rfl hd (fun H' e1 e2 e3 => hkk _ H' (by rfl) e1 e2 e3)
            · simp [pm_nar, ht] at hw
          | _ => simp [pm_nar] at hw
        · cases ha
theorem ps_sastore (hx : p.tables.exec = Jvm.exec) (hb : c.code = cc) (hd : decode cc F.1 = .ok (.sastore, len)) (hlen : len = 1) (hKn : pm_Kn D cl tys s) (htk : pm_tyk tys) (hm : pm_mu mu K base)
    (ha : pm_act (K, asg) .sastore len vs ns F h = some (F', h')) (kk : pm_X p l e R s m args below meth c nL D cl tys mu K base H00 n0 s0 Q F' h') : pm_X p l e R s m args below meth c nL D cl tys mu K base H00 n0 s0 Q F h := by
  subst hlen
  obtain ⟨pc, lv, st⟩ := F
  cases st with
  | nil => cases ha
  | cons v st =>
    cases st with
    | nil => cases ha
    | cons j st =>
      cases st with
      | nil => cases ha
      | cons o st =>
        simp only [pm_act, Option.bind_eq_some_iff] at ha
        obtain ⟨⟨a, t, xs⟩, ho, k, hix, w, hw, ha⟩ := ha
        split at ha
        · next hKa =>
          cases ha
          obtain ⟨i, rfl, hi0, hik, hkn⟩ := pm_ix_eq hix
          obtain ⟨rfl, hcell⟩ := pm_arr_eq ho
          intro hn hs H locs hR hL ls hl
          have h9 : t ≠ 9 := by rintro rfl; cases v <;> simp [pm_nar] at hw
          obtain ⟨q, cell, q1, q2, q3, q4, q5, q7⟩ := (hR.1 a _ hcell).resolve_left (fun z => h9 z.1)
          have hn' : n0 ≤ (h.1.set a (Sum.inr (t, xs.set k w))).length := by simpa using hn
          have hsz : cell.slots.size = xs.length := by rw [q7]; simp
          have hin : ¬ (i < 0 ∨ cell.slots.size ≤ i.toNatClampNeg) := by
            rw [hsz, hik]; rintro (z | z)
            · exact hi0 z
            · exact absurd hkn (Nat.not_lt.mpr z)
          have harr := hKn.arr q1 q3 q5
          have hkk : ∀ (vv : Value) (H' : Heap), vv = pm_v mu w → H'[mu a]? = some (cell.setSlot i.toNatClampNeg vv) → H'.size = H.size → (∀ q : Nat, q ≠ mu a → H'[q]? = H[q]?) → W p l e R s m args below meth c H' (locs ++ [⟨mu a, i.toNatClampNeg⟩]) (h.1.length - n0) (h.2 - s0) Q (F0 m (pc + 1) ls (st.map (pm_v mu))) := by
            intro vv H' e0 e1 e2 e3
            rw [hik] at e1 ⊢
            have := kk hn' hs H' (locs ++ [⟨mu a, k⟩]) (hR.store hm hKa h9 hcell q2 e0 e1 e2 e3) (pm_locs hL hm hKa) ls hl
            simpa using this
          cases v with
          | int x =>
            by_cases ht : t = 6
            · simp only [pm_nar, if_pos ht] at hw
              cases hw
              rw [(htk t q q1).2.2.2.2.2.1 ht] at harr
              exact W.sast hx hb q2 harr q4 hin rfl rfl hd (fun H' e1 e2 e3 => hkk _ H' (by rfl) e1 e2 e3)
            · simp [pm_nar, ht] at hw
          | _ => simp [pm_nar] at hw
        · cases ha
theorem ps_bastore (hx : p.tables.exec = Jvm.exec) (hb : c.code = cc) (hd : decode cc F.1 = .ok (.bastore, len)) (hlen : len = 1) (hKn : pm_Kn D cl tys s) (htk : pm_tyk tys) (hm : pm_mu mu K base)
    (ha : pm_act (K, asg) .bastore len vs ns F h = some (F', h')) (kk : pm_X p l e R s m args below meth c nL D cl tys mu K base H00 n0 s0 Q F' h') : pm_X p l e R s m args below meth c nL D cl tys mu K base H00 n0 s0 Q F h := by
  subst hlen
  obtain ⟨pc, lv, st⟩ := F
  cases st with
  | nil => cases ha
  | cons v st =>
    cases st with
    | nil => cases ha
    | cons j st =>
      cases st with
      | nil => cases ha
      | cons o st =>
        simp only [pm_act, Option.bind_eq_some_iff] at ha
        obtain ⟨⟨a, t, xs⟩, ho, k, hix, w, hw, ha⟩ := ha
        split at ha
        · next hKa =>
          cases ha
          obtain ⟨i, rfl, hi0, hik, hkn⟩ := pm_ix_eq hix
          obtain ⟨rfl, hcell⟩ := pm_arr_eq ho
          intro hn hs H locs hR hL ls hl
          have h9 : t ≠ 9 := by rintro rfl; cases v <;> simp [pm_nar] at hw
          obtain ⟨q, cell, q1, q2, q3, q4, q5, q7⟩ := (hR.1 a _ hcell).resolve_left (fun z => h9 z.1)
          have hn' : n0 ≤ (h.1.set a (Sum.inr (t, xs.set k w))).length := by simpa using hn
          have hsz : cell.slots.size = xs.length := by rw [q7]; simp
          have hin : ¬ (i < 0 ∨ cell.slots.size ≤ i.toNatClampNeg) := by
            rw [hsz, hik]; rintro (z | z)
            · exact hi0 z
            · exact absurd hkn (Nat.not_lt.mpr z)
          have harr := hKn.arr q1 q3 q5
          have hkk : ∀ (vv : Value) (H' : Heap), vv = pm_v mu w → H'[mu a]? = some (cell.setSlot i.toNatClampNeg vv) → H'.size = H.size → (∀ q : Nat, q ≠ mu a → H'[q]? = H[q]?) → W p l e R s m args below meth c H' (locs ++ [⟨mu a, i.toNatClampNeg⟩]) (h.1.length - n0) (h.2 - s0) Q (F0 m (pc + 1) ls (st.map (pm_v mu))) := by
            intro vv H' e0 e1 e2 e3
            rw [hik] at e1 ⊢
            have := kk hn' hs H' (locs ++ [⟨mu a, k⟩]) (hR.store hm hKa h9 hcell q2 e0 e1 e2 e3) (pm_locs hL hm hKa) ls hl
            simpa using this
          cases v with
          | int x =>
            by_cases ht : t = 3
            · simp only [pm_nar, if_pos ht] at hw
              cases hw
              rw [(htk t q q1).2.2.1 ht] at harr
              exact W.zast hx hb q2 harr q4 hin rfl rfl hd (fun H' e1 e2 e3 => hkk _ H' (by rfl) e1 e2 e3)
            · by_cases ht4 : t = 4
              · simp only [pm_nar, if_neg ht, if_pos ht4] at hw
                cases hw
                rw [(htk t q q1).2.2.2.1 ht4] at harr
                exact W.bast hx hb q2 harr q4 hin rfl rfl hd (fun H' e1 e2 e3 => hkk _ H' (by rfl) e1 e2 e3)
              · simp [pm_nar, ht, ht4] at hw
          | _ => simp [pm_nar] at hw
        · cases ha
end SIM3
