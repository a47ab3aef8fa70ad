/-! fields written, objects and arrays made, references stored, casts, constants -/
/-- a field's or a place's kind by its type -/
def pm_tag (t : Nat) (ty : FieldType) : Bool := match ty with
  | .int => t == 0
  | .long => t == 1
  | .object _ => t == 2
  | .array _ => t == 2
  | .boolean => t == 3
  | .byte => t == 4
  | .char => t == 5
  | .short => t == 6
  | _ => false
theorem pm_v_dflt (mu : Nat → Nat) (t : FieldType) : pm_v mu (defaultValue t) = defaultValue t := by cases t <;> rfl
theorem pm_bool {x : Int32} (h : x = 0 ∨ x = 1) : narrow .boolean (.int x) = .int x ∧ fits .boolean (.int x) = true := by
  rcases h with rfl | rfl <;> exact ⟨by decide, by decide⟩
theorem pm_fit_tag {mu : Nat → Nat} {t : Nat} {ty : FieldType} {v : Value} (ht : pm_tag t ty = true) (hv : pm_fit t v = true) : narrow ty (pm_v mu v) = pm_v mu v ∧ fits ty (pm_v mu v) = true := by
  cases ty with
  | int =>
    have e : t = 0 := by simpa [pm_tag] using ht
    subst e
    cases v <;> first | exact ⟨rfl, rfl⟩ | cases hv
  | long =>
    have e : t = 1 := by simpa [pm_tag] using ht
    subst e
    cases v <;> first | exact ⟨rfl, rfl⟩ | cases hv
  | object C =>
    have e : t = 2 := by simpa [pm_tag] using ht
    subst e
    cases v <;> first | exact ⟨rfl, rfl⟩ | cases hv
  | array C =>
    have e : t = 2 := by simpa [pm_tag] using ht
    subst e
    cases v <;> first | exact ⟨rfl, rfl⟩ | cases hv
  | boolean =>
    have e : t = 3 := by simpa [pm_tag] using ht
    subst e
    cases v with
    | int x => exact pm_bool (of_decide_eq_true hv)
    | _ => cases hv
  | byte =>
    have e : t = 4 := by simpa [pm_tag] using ht
    subst e
    cases v with
    | int x =>
      have h1 : x.toInt8.toInt32 = x := of_decide_eq_true hv
      exact ⟨congrArg Value.int h1, by have := pk_fb x; rw [h1] at this; exact this⟩
    | _ => cases hv
  | char =>
    have e : t = 5 := by simpa [pm_tag] using ht
    subst e
    cases v with
    | int x =>
      have h1 : (x.toUInt32 % 65536).toInt32 = x := of_decide_eq_true hv
      exact ⟨congrArg Value.int ((lg_i2c_nf x).symm.trans h1), by have := pk_fc x; rw [h1] at this; exact this⟩
    | _ => cases hv
  | short =>
    have e : t = 6 := by simpa [pm_tag] using ht
    subst e
    cases v with
    | int x =>
      have h1 : x.toInt16.toInt32 = x := of_decide_eq_true hv
      exact ⟨congrArg Value.int h1, by have := pk_fs x; rw [h1] at this; exact this⟩
    | _ => cases hv
  | _ => cases ht
/-- of each class: its fields' types, its fields' names are apart, its words -/
def pm_okC (Ts : List Cond) (cl : List vw_C) (ft : Nat → Nat → FieldType) : Prop := ∀ (ci : Nat) (r : vw_C), cl[ci]? = some r → (∀ k, k < r.2.2 → parseFieldDescriptor (r.2.1 k).2.2.1 = some (ft ci k)) ∧ (∀ a, a < r.2.2 → ∀ b, b < r.2.2 → a ≠ b → (r.2.1 a).2.1 ≠ (r.2.1 b).2.1) ∧ (∀ w ∈ u_ws r.1 r.2.1 r.2.2, w ∈ Ts)
section SIM4
variable {p : Program} {l : Launch} {e : Env} {R : Room} {s : State} {m : MethodId} {args : Array Value} {below : List Frame} {meth : Method} {c : Code} {Q : State → Prop} {cc : ByteArray} {nL : Nat}
variable {D : pm_D} {cl : List vw_C} {tys : Nat → Option (ClassId × FieldType)} {mu : Nat → Nat} {K base : Nat} {H00 : Heap} {n0 s0 : Nat}
variable {asg : List (Nat × Nat)} {F F' : pm_F} {h h' : pm_H} {len : Nat} {vs : List Value} {ns : List Nat} {Ts Ns : List Cond} {own : String} {ft : Nat → Nat → FieldType}
theorem pm_apart (hts : ∀ w ∈ Ts, w.before args s = true) (hC : pm_okC Ts cl ft) (hKn : pm_Kn D cl tys s) {ci : Nat} {r : vw_C} (hc : cl[ci]? = some r) : ∀ x y, x < r.2.2 → y < r.2.2 → x ≠ y → (D.1.2 ci) x ≠ (D.1.2 ci) y := by
  intro x y hx hy hne
  obtain ⟨h1, h2, h3⟩ := hC ci r hc
  obtain ⟨hS, -⟩ := hKn.1 ci _ hc
  obtain ⟨_, _, _, fa, hia, ea⟩ := hS x hx
  obtain ⟨_, _, _, fb, hib, eb⟩ := hS y hy
  rw [← ea, ← eb]
  refine u_apart (u_lays hts h3 hx) (u_lays hts h3 hy) hia hib ?_
  rw [(State.fieldFound?_type hia (h1 x hx)).1, (State.fieldFound?_type hib (h1 y hy)).1]
  exact h2 x hx y hy hne
theorem ps_putfield {idx : Nat} (hx : p.tables.exec = Jvm.exec) (hb : c.code = cc) (hd : decode cc F.1 = .ok (.putfield idx, len)) (hlen : len = 3) (hts : ∀ w ∈ Ts, w.before args s = true) (hown : s.vm.findClass own = some m.cls) (hok : pm_okF Ts Ns cl own idx ns.tail) (hNw : pm_Nw Ns s) (hKn : pm_Kn D cl tys s) (hm : pm_mu mu K base) (hC : pm_okC Ts cl ft)
    (htag : ∀ ci k, pm_slot ns.tail ci = some k → pm_tag (ns.headD 0) (ft ci k) = true)
    (hfin : ∀ (ci k : Nat) (r : vw_C), pm_slot ns.tail ci = some k → cl[ci]? = some r → (r.2.1 k).2.2.2 = true → meth.name = "<init>" ∧ (r.2.1 k).1 = own)
    (ha : pm_act (K, asg) (.putfield idx) len vs ns F h = some (F', h')) (kk : pm_X p l e R s m args below meth c nL D cl tys mu K base H00 n0 s0 Q F' h') : pm_X p l e R s m args below meth c nL D cl tys mu K base H00 n0 s0 Q F h := by
  subst hlen
  obtain ⟨pc, lv, st⟩ := F
  cases st with
  | nil => cases ha
  | cons v st =>
    cases st with
    | nil => cases ha
    | cons o st =>
      cases ns with
      | nil => cases ha
      | cons t ns =>
        simp only [pm_act, Option.bind_eq_some_iff] at ha
        obtain ⟨⟨a, ci, fs⟩, ho, k, hk, ha⟩ := ha
        split at ha
        · next hc =>
          cases ha
          obtain ⟨hKa, hkl, hft⟩ := hc
          obtain ⟨rfl, hcell⟩ := pm_obj_eq ho
          intro hn hs H locs hR hL ls hl
          obtain ⟨r, cell, q1, q2, q3, q4, q5, q6, q7, q8⟩ := hR.1 a _ hcell
          obtain ⟨r', ref, g1, g2, g3, g4, g5⟩ := hok ci k hk
          have hr : r' = r := Option.some.inj (g1.symm.trans q1)
          subst hr
          obtain ⟨hS, hfc, kC, hkC, hkind⟩ := hKn.1 ci _ g1
          replace hkind := hkind (Nat.lt_of_le_of_lt (Nat.zero_le _) g2)
          obtain ⟨cf, kf, fi, f, hi, hsl⟩ := hS k g2
          have hi2 : s.fieldFound? ref (r'.2.1 k).2.1 (r'.2.1 k).2.2.1 = some (cf, kf, fi, f) := by
            rcases g5 with rfl | g5
            · exact hi
            · exact u_same (hts _ g5) _ hi
          have hst := (u_facts hfc hkC (u_lays hts g3 g2) hi).1
          obtain ⟨hnar, hfit⟩ := pm_fit_tag (mu := mu) (htag ci k hk) hft
          have hap := pm_apart hts hC hKn g1
          have hlt : f.slot < cell.slots.size := by rw [hsl]; exact k2_hasslot (q8 k (fs[k]'hkl) (List.getElem?_eq_getElem hkl))
          have hlen : fs.length = r'.2.2 := q2 hKa
          have hn' : n0 ≤ (h.1.set a (Sum.inl (ci, fs.set k v))).length := by simpa using hn
          have hkk : ∀ H' : Heap, H'[mu a]? = some (cell.setSlot f.slot (pm_v mu v)) → H'.size = H.size → (∀ q : Nat, q ≠ mu a → H'[q]? = H[q]?) → W p l e R s m args below meth c H' (locs ++ [⟨mu a, f.slot⟩]) (h.1.length - n0) (h.2 - s0) Q (F0 m (pc + 3) ls (st.map (pm_v mu))) := by
            intro H' e1 e2 e3
            have hat : pm_at D cl tys mu K a (Sum.inl (ci, fs.set k v)) H' := by
              refine ⟨r', cell.setSlot f.slot (pm_v mu v), g1, (fun _ => by simpa using hlen), e1, q4, q5, q6, q7, fun j w hj => ?_⟩
              have hj2 : (fs.set k v)[j]? = some w := hj
              by_cases hjk : j = k
              · subst hjk
                rw [List.getElem?_set_self hkl] at hj2
                cases hj2
                show (cell.setSlot f.slot (pm_v mu v)).slots[D.1.2 ci j]? = _
                rw [← hsl]
                exact Cell.slots_setSlot_self _ hlt
              · rw [List.getElem?_set_ne (Ne.symm hjk)] at hj2
                have hjn : j < r'.2.2 := by rw [← hlen]; exact (List.getElem?_eq_some_iff.mp hj2).1
                show (cell.setSlot f.slot (pm_v mu v)).slots[D.1.2 ci j]? = _
                rw [hsl, slot_ne _ _ (hap k j g2 hjn (Ne.symm hjk))]
                exact q8 j w hj2
            have := kk hn' hs H' (locs ++ [⟨mu a, f.slot⟩]) (hR.set hm hKa hcell hat e2 e3) (pm_locs hL hm hKa) ls hl
            simpa using this
          by_cases hff : (r'.2.1 k).2.2.2 = true
          · obtain ⟨hin, hdecl⟩ := hfin ci k r' hk g1 hff
            have hlay := hts _ (g3 _ (u_in_lay g2))
            unfold u_lay at hlay
            rw [if_pos hff] at hlay
            have hcf : m.cls = cf := by
              obtain ⟨_, _, c', _, _, _, -, -, hf', -, -, -, hown2, -⟩ := Cond.laysFinal_spec hlay
              have e1 : c' = cf := by have := hi.symm.trans hf'; simp at this; exact this.1.symm
              rw [hdecl] at hown2
              rw [← e1]; exact Option.some.inj (hown.symm.trans hown2)
            have h6 := u_fits hfc hkC hkind (Or.inr hlay) hi ((hC ci r' g1).1 k g2) hnar hfit
            rcases g4 with g4 | ⟨host, g4⟩
            · exact W.putFinK hx hb hown (hts _ g4) hi2 hst hcf hin (by rw [q4]; exact h6) q3 (q7 hKa) hlt rfl rfl hd hkk
            · refine va_Wputf hx hb hown (va_Nw.use rfl (hNw _ g4)) hi2 hst (Or.inr ⟨hcf, hin⟩) q3 q5 hlt h6.1 (by rw [q7 hKa, q4]; exact h6.2) rfl rfl hd ?_
              have hal : mu a < H.size := (Array.getElem?_eq_some_iff.mp q3).1
              exact hkk _ (by simp [Array.getElem?_setIfInBounds, hal]) (by simp) (fun q hq => by simp [Array.getElem?_setIfInBounds, Ne.symm hq])
          · have hlay := hts _ (g3 _ (u_in_lay g2))
            unfold u_lay at hlay
            rw [if_neg hff] at hlay
            have h6 := u_store hfc hkC hkind hlay hi ((hC ci r' g1).1 k g2) hnar hfit
            rcases g4 with g4 | ⟨host, g4⟩
            · exact W.putK hx hb (f := f) ⟨hown, hts _ g4, ⟨_, _, _, hi2⟩, hst⟩ (by rw [q4]; exact h6) q3 (q7 hKa) hlt rfl rfl hd hkk
            · exact va_WputK hx hb (f := f) hown (va_Nw.use rfl (hNw _ g4)) hi2 hst (by rw [q4]; exact h6) q3 (q7 hKa) hlt rfl rfl hd hkk
        · cases ha
/-- the words of 'new' -/
theorem ps_new {idx ci sl : Nat} {r : vw_C} (hx : p.tables.exec = Jvm.exec) (hb : c.code = cc) (hd : decode cc F.1 = .ok (.new idx, len)) (hlen : len = 3) (hts : ∀ w ∈ Ts, w.before args s = true) (hown : s.vm.findClass own = some m.cls) (hKn : pm_Kn D cl tys s) (hm : pm_mu mu K base) (hC : pm_okC Ts cl ft)
    (hns : ns = [ci, sl]) (hc : cl[ci]? = some r) (hvs : vs = (List.range r.2.2).map (fun k => defaultValue (ft ci k))) (hw1 : Cond.classLink own idx r.1 ∈ Ts) (hw2 : Cond.instantiable r.1 sl ∈ Ts) (hw3 : Cond.initialized r.1 ∈ Ts)
    (ha : pm_act (K, asg) (.new idx) len vs ns F h = some (F', h')) (hrc : h'.1.length - n0 ≤ R.cells) (hrs : h'.2 - s0 ≤ R.slots) (kk : pm_X p l e R s m args below meth c nL D cl tys mu K base H00 n0 s0 Q F' h') : pm_X p l e R s m args below meth c nL D cl tys mu K base H00 n0 s0 Q F h := by
  subst hlen
  subst hns
  obtain ⟨pc, lv, st⟩ := F
  cases ha
  intro hn hs H locs hR hL ls hl
  simp only [List.length_append, List.length_singleton] at hrc hrs
  have hKr := hKn.1 ci r hc
  refine W.newcK hx hb hown (hts _ hw1) (hts _ hw2) (hts _ hw3) rfl hd (by omega) (by omega) hKr.2.1 rfl (fun H' kC hkC e1 e2 e3 => ?_)
  obtain ⟨h1, h2, h3⟩ := hC ci r hc
  have hKu : u_Kn s r.1 r.2.1 r.2.2 (D.1.1 ci) (D.1.2 ci) := by
    obtain ⟨cX, kX, hcX, hkX, hord, -⟩ := Cond.instantiable_spec (hts _ hw2)
    cases hKr.2.1.symm.trans hcX
    exact ⟨hKr.1, hKr.2.1, kX, hkX, hord⟩
  obtain ⟨cell, c1, c2, c3, c4⟩ := u_born (ft ci) hts h3 hKu hkC e1 h1
  have hnext := hR.next hm
  have hat : pm_at D cl tys mu K h.1.length (Sum.inl (ci, vs)) H' := by
    refine ⟨r, cell, hc, (fun _ => by rw [hvs]; simp), by rw [hnext]; exact c1, c2, by rw [c3]; exact (fun z => by cases z), by rw [c3]; rfl, fun _ => c3, fun k v hv => ?_⟩
    have hv2 : vs[k]? = some v := hv
    rw [hvs] at hv2
    have hk : k < r.2.2 := by have := (List.getElem?_eq_some_iff.mp hv2).1; simpa using this
    rw [List.getElem?_map, List.getElem?_range hk] at hv2
    have hv3 : defaultValue (ft ci k) = v := Option.some.inj hv2
    rw [c4 k hk, ← hv3, pm_v_dflt]
  have := kk (by simp only [List.length_append, List.length_singleton]; omega) (by show s0 ≤ h.2 + sl; omega) H' locs (hR.push _ hm hat e2 e3) hL ls hl
  have ec : (h.1 ++ [Sum.inl (ci, vs)] : List pm_C).length - n0 = h.1.length - n0 + 1 := by simp only [List.length_append, List.length_singleton]; omega
  have es : h.2 + sl - s0 = h.2 - s0 + sl := by omega
  simp only [ec, es] at this
  have e0 : pm_v mu (.ref h.1.length) = .ref H.size := by rw [← hnext]; rfl
  simp only [List.map_cons, e0] at this
  exact this
theorem ps_newarray {at' : ArrayType} {t : Nat} {q : ClassId × FieldType} (hx : p.tables.exec = Jvm.exec) (hb : c.code = cc) (hd : decode cc F.1 = .ok (.newarray at', len)) (hlen : len = 2) (hts : ∀ w ∈ Ts, w.before args s = true) (hKn : pm_Kn D cl tys s) (hm : pm_mu mu K base)
    (hns : ns = [t]) (ht : tys t = some q) (hq : q.2 = newarray.typeOf at') (hvs : vs = [defaultValue q.2]) (hw : Cond.arrayClass (newarray.typeOf at') ∈ Ts)
    (ha : pm_act (K, asg) (.newarray at') len vs ns F h = some (F', h')) (hrc : h'.1.length - n0 ≤ R.cells) (hrs : h'.2 - s0 ≤ R.slots) (kk : pm_X p l e R s m args below meth c nL D cl tys mu K base H00 n0 s0 Q F' h') : pm_X p l e R s m args below meth c nL D cl tys mu K base H00 n0 s0 Q F h := by
  subst hlen
  subst hns
  subst hvs
  obtain ⟨pc, lv, st⟩ := F
  cases st with
  | nil => cases ha
  | cons v st =>
    cases v with
    | int k =>
      simp only [pm_act] at ha
      split at ha
      · cases ha
      · next hk0 =>
        split at ha
        · next hk1 =>
          cases ha
          intro hn hs H locs hR hL ls hl
          simp only [List.length_append, List.length_singleton] at hrc hrs
          refine W.newa hx hb (hts _ hw) rfl hd rfl hk0 ?_ (by omega) (by omega) (fun cA kA comp f1 f2 f3 => ?_)
          · have : componentBytes (newarray.typeOf at') ≤ 8 := by cases at' <;> decide
            exact Nat.le_trans (Nat.mul_le_mul hk1 this) (by decide)
          have hcA : cA = q.1 := by
            have h1 := (hKn.2.1 t q ht).2
            rw [hq] at h1
            have h2 : s.vm.findClass ("[" ++ (newarray.typeOf at').toString) = some q.1 := by cases at' <;> exact h1
            exact Option.some.inj (f1.symm.trans h2)
          have hnext := hR.next hm
          have hat : pm_at D cl tys mu K h.1.length (Sum.inr (t, List.replicate k.toNatClampNeg (defaultValue q.2))) (H.push { cls := cA, slots := Array.replicate k.toNatClampNeg (defaultValue (newarray.typeOf at')), vm := .none }) := by
            refine Or.inr ⟨q, _, ht, by rw [hnext, Array.getElem?_push_size], Or.inl hcA, (fun z => by cases z), rfl, ?_⟩
            have e1 : pm_v mu (defaultValue q.2) = defaultValue q.2 := by rw [hq]; cases at' <;> rfl
            show Array.replicate k.toNatClampNeg (defaultValue (newarray.typeOf at')) = ((List.replicate k.toNatClampNeg (defaultValue q.2)).map (pm_v mu)).toArray
            rw [List.map_replicate, e1, ← hq]
            simp
          have := kk (by simp only [List.length_append, List.length_singleton]; omega) (by show s0 ≤ h.2 + k.toNatClampNeg; omega) _ locs (hR.push _ hm hat (by simp) (fun z hz => by rw [Array.getElem?_push, if_neg (Nat.ne_of_lt hz)])) hL ls hl
          have ec : (h.1 ++ [Sum.inr (t, List.replicate k.toNatClampNeg (defaultValue q.2))] : List pm_C).length - n0 = h.1.length - n0 + 1 := by simp only [List.length_append, List.length_singleton]; omega
          have es : h.2 + k.toNatClampNeg - s0 = h.2 - s0 + k.toNatClampNeg := by omega
          simp only [ec, es] at this
          have e0 : pm_v mu (.ref h.1.length) = .ref H.size := by rw [← hnext]; rfl
          simp only [List.map_cons, e0] at this
          exact this
        · cases ha
    | _ => cases ha
theorem ps_anewarray {idx t : Nat} {q : ClassId × FieldType} {C : String} (hx : p.tables.exec = Jvm.exec) (hb : c.code = cc) (hd : decode cc F.1 = .ok (.anewarray idx, len)) (hlen : len = 3) (hts : ∀ w ∈ Ts, w.before args s = true) (hown : s.vm.findClass own = some m.cls) (hKn : pm_Kn D cl tys s) (hm : pm_mu mu K base)
    (hns : ns = [t]) (ht : tys t = some q) (hq : q.2 = .object C) (hvs : vs = [.null]) (hw1 : Cond.classLink own idx C ∈ Ts) (hw2 : (Cond.arrayOver (.object C)).before args s = true)
    (ha : pm_act (K, asg) (.anewarray idx) len vs ns F h = some (F', h')) (hrc : h'.1.length - n0 ≤ R.cells) (hrs : h'.2 - s0 ≤ R.slots) (kk : pm_X p l e R s m args below meth c nL D cl tys mu K base H00 n0 s0 Q F' h') : pm_X p l e R s m args below meth c nL D cl tys mu K base H00 n0 s0 Q F h := by
  subst hlen
  subst hns
  subst hvs
  obtain ⟨pc, lv, st⟩ := F
  cases st with
  | nil => cases ha
  | cons v st =>
    cases v with
    | int k =>
      simp only [pm_act] at ha
      split at ha
      · cases ha
      · next hk0 =>
        split at ha
        · next hk1 =>
          cases ha
          intro hn hs H locs hR hL ls hl
          simp only [List.length_append, List.length_singleton] at hrc hrs
          refine W.anew hx hb hown (hts _ hw1) hw2 rfl hd rfl hk0 (by omega) (by omega) (by omega) (fun cA kA comp f1 f2 f3 f4 => ?_)
          have hcA : cA = q.1 := by
            have h1 := (hKn.2.1 t q ht).2
            rw [hq] at h1
            obtain ⟨_, _, -, -, -, h2⟩ := h1
            exact Option.some.inj (f1.symm.trans h2)
          have hnext := hR.next hm
          have hat : pm_at D cl tys mu K h.1.length (Sum.inr (t, List.replicate k.toNatClampNeg .null)) (H.push { cls := cA, slots := Array.replicate k.toNatClampNeg .null, vm := .none }) := by
            refine Or.inr ⟨q, _, ht, by rw [hnext, Array.getElem?_push_size], Or.inl hcA, (fun z => by cases z), rfl, ?_⟩
            show Array.replicate k.toNatClampNeg .null = ((List.replicate k.toNatClampNeg .null).map (pm_v mu)).toArray
            rw [List.map_replicate, show pm_v mu .null = .null from rfl]
            simp
          have := kk (by simp only [List.length_append, List.length_singleton]; omega) (by show s0 ≤ h.2 + k.toNatClampNeg; omega) _ locs (hR.push _ hm hat (by simp) (fun z hz => by rw [Array.getElem?_push, if_neg (Nat.ne_of_lt hz)])) hL ls hl
          have ec : (h.1 ++ [Sum.inr (t, List.replicate k.toNatClampNeg .null)] : List pm_C).length - n0 = h.1.length - n0 + 1 := by simp only [List.length_append, List.length_singleton]; omega
          have es : h.2 + k.toNatClampNeg - s0 = h.2 - s0 + k.toNatClampNeg := by omega
          simp only [ec, es] at this
          have e0 : pm_v mu (.ref h.1.length) = .ref H.size := by rw [← hnext]; rfl
          simp only [List.map_cons, e0] at this
          exact this
        · cases ha
    | _ => cases ha
end SIM4
