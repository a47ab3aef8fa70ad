/-! switches and comparisons of references -/
/-- a switch's keys and targets are the instruction's -/
def pm_swB (pc : Nat) (dd : Int) : List (Int × Int) → List Value → List Nat → Bool
  | (k, o) :: ps, .int v :: vs, t :: ts => decide (v.toInt = k ∧ (pc : Int) + o = (t : Int)) && pm_swB pc dd ps vs ts
  | [], [], [t] => decide ((pc : Int) + dd = (t : Int))
  | _, _, _ => false
theorem pm_sw_off {pc : Nat} {dd : Int} {x : Int32} {t : Nat} : ∀ (ps : List (Int × Int)) (vs : List Value) (ns : List Nat), pm_swB pc dd ps vs ns = true → pm_sw x vs ns = some t → (pc : Int) + Op.lookupswitch.offset ps dd x.toInt = (t : Int) := by
  intro ps
  induction ps with
  | nil =>
    intro vs ns h1 h2
    cases vs with
    | nil =>
      cases ns with
      | nil => cases h1
      | cons a r =>
        cases r with
        | cons b r => cases h1
        | nil =>
          cases h2
          exact of_decide_eq_true h1
    | cons v vs => cases v <;> cases ns <;> cases h1
  | cons q ps ih =>
    intro vs ns h1 h2
    obtain ⟨k, o⟩ := q
    cases vs with
    | nil => cases ns <;> cases h1
    | cons v vs =>
      cases v with
      | int v =>
        cases ns with
        | nil => cases h1
        | cons a r =>
          simp only [pm_swB, Bool.and_eq_true, decide_eq_true_eq] at h1
          obtain ⟨⟨e1, e2⟩, h1⟩ := h1
          rw [Op.lookupswitch.offset_cons]
          unfold pm_sw at h2
          by_cases hv : x = v
          · rw [if_pos hv] at h2
            cases h2
            rw [if_pos (by rw [hv]; exact e1.symm)]
            exact e2
          · rw [if_neg hv] at h2
            rw [if_neg (fun z => hv (Int32.toInt_inj.mp (by rw [e1]; exact z.symm)))]
            exact ih vs r h1 h2
      | _ => cases ns <;> cases h1
def pm_tps : Int → List Int → List (Int × Int)
  | _, [] => []
  | lo, o :: r => (lo, o) :: pm_tps (lo + 1) r
theorem pm_tps_out {dd x : Int} : ∀ (os : List Int) (lo : Int), (x < lo ∨ lo + (os.length : Int) ≤ x) → Op.lookupswitch.offset (pm_tps lo os) dd x = dd := by
  intro os
  induction os with
  | nil => intro lo _; simp [pm_tps, Op.lookupswitch.offset]
  | cons o r ih =>
    intro lo hx
    rw [pm_tps, Op.lookupswitch.offset_cons, if_neg (by simp only [List.length_cons] at hx; omega)]
    exact ih (lo + 1) (by simp only [List.length_cons] at hx; omega)
theorem pm_tps_in {dd x : Int} : ∀ (os : List Int) (lo : Int), ¬ x < lo → x < lo + (os.length : Int) → os[(x - lo).toNat]? = some (Op.lookupswitch.offset (pm_tps lo os) dd x) := by
  intro os
  induction os with
  | nil => intro lo h1 h2; simp only [List.length_nil] at h2; omega
  | cons o r ih =>
    intro lo h1 h2
    rw [pm_tps, Op.lookupswitch.offset_cons]
    by_cases he : lo = x
    · rw [if_pos he]
      have : (x - lo).toNat = 0 := by omega
      rw [this]
      rfl
    · rw [if_neg he]
      have : (x - lo).toNat = (x - (lo + 1)).toNat + 1 := by omega
      rw [this, List.getElem?_cons_succ]
      exact ih (lo + 1) (by omega) (by simp only [List.length_cons] at h2; omega)
section SIM2
variable {p : Program} {l : Launch} {e : Env} {R : Room} {s : State} {m : MethodId} {args : Array Value} {below : List Frame} {meth : Method} {c : Code} {H : Heap} {locs : List Loc} {cells slots : Nat} {Q : State → Prop} {cc : ByteArray} {mu : Nat → Nat} {nL : Nat}
variable {P : Nat × List (Nat × Nat)} {F F' : pm_F} {h h' : pm_H} {len : Nat} {vs : List Value} {ns : List Nat}
theorem ps_lookup {dd : Int} {ps : Array (Int × Int)} (hx : p.tables.exec = Jvm.exec) (hb : c.code = cc) (hd : decode cc F.1 = .ok (.lookupswitch dd ps, len)) (hp : (ps.toList.zip (ps.toList.drop 1)).all (fun (a, next) => a.1 < next.1) = true) (hsw : pm_swB F.1 dd ps.toList vs ns = true)
    (ha : pm_act P (.lookupswitch dd ps) len vs ns F h = some (F', h')) (kk : pm_W p l e R s m args below meth c nL mu H locs cells slots Q F') : h' = h ∧ pm_W p l e R s m args below meth c nL mu H locs cells slots Q F := by
  obtain ⟨pc, lv, st⟩ := F
  cases st with
  | nil => cases ha
  | cons v st =>
    cases v with
    | int x =>
      simp only [pm_act, Option.map_eq_some_iff] at ha
      obtain ⟨t, ht, ha⟩ := ha
      cases ha
      exact ⟨rfl, fun ls hl => lv_lookup hx hb hd hp rfl (pm_sw_off _ _ _ hsw ht) (kk ls hl)⟩
    | _ => cases ha
theorem ps_table {dd lo hi : Int} {os : Array Int} (hx : p.tables.exec = Jvm.exec) (hb : c.code = cc) (hd : decode cc F.1 = .ok (.tableswitch dd lo hi os, len)) (hhi : hi + 1 = lo + (os.toList.length : Int)) (hsw : pm_swB F.1 dd (pm_tps lo os.toList) vs ns = true)
    (ha : pm_act P (.tableswitch dd lo hi os) len vs ns F h = some (F', h')) (kk : pm_W p l e R s m args below meth c nL mu H locs cells slots Q F') : h' = h ∧ pm_W p l e R s m args below meth c nL mu H locs cells slots Q F := by
  obtain ⟨pc, lv, st⟩ := F
  cases st with
  | nil => cases ha
  | cons v st =>
    cases v with
    | int x =>
      simp only [pm_act, Option.map_eq_some_iff] at ha
      obtain ⟨t, ht, ha⟩ := ha
      cases ha
      have h1 := pm_sw_off _ _ _ hsw ht
      refine ⟨rfl, fun ls hl => ?_⟩
      by_cases ho : x.toInt < lo ∨ hi < x.toInt
      · rw [pm_tps_out os.toList lo (by omega)] at h1
        exact lv_tableOut hx hb hd ho h1 (kk ls hl)
      · refine lv_tableIn hx hb hd (fun z => ho (Or.inl z)) (fun z => ho (Or.inr z)) ?_ h1 (kk ls hl)
        rw [← Array.getElem?_toList]
        exact pm_tps_in os.toList lo (by omega) (by omega)
    | _ => cases ha
theorem pm_rfo_v {v : Value} {o : Option Nat} (h : pm_rfo v = some o) : pm_v mu v = va_rf (o.map mu) := by
  cases v with
  | null => cases h; rfl
  | ref a => cases h; rfl
  | _ => cases h
theorem pm_map_inj (hmu : ∀ a b, pm_idn (some a) = true → pm_idn (some b) = true → mu a = mu b → a = b) {x y : Option Nat} (hi : (pm_idn x && pm_idn y) = true) (h : x.map mu = y.map mu) : x = y := by
  rw [Bool.and_eq_true] at hi
  cases x with
  | none => cases y with
    | none => rfl
    | some b => cases h
  | some a => cases y with
    | none => cases h
    | some b => rw [hmu a b hi.1 hi.2 (Option.some.inj h)]
theorem ps_acmp {cd : ACond} {off : Int} (hmu : ∀ a b, pm_idn (some a) = true → pm_idn (some b) = true → mu a = mu b → a = b) (hx : p.tables.exec = Jvm.exec) (hb : c.code = cc) (hd : decode cc F.1 = .ok (.if_acmp cd off, len)) (hok : pm_okB nL F.1 (.if_acmp cd off) len vs ns = true)
    (ha : pm_act P (.if_acmp cd off) len vs ns F h = some (F', h')) (kk : pm_W p l e R s m args below meth c nL mu H locs cells slots Q F') : h' = h ∧ pm_W p l e R s m args below meth c nL mu H locs cells slots Q F := by
  obtain ⟨pc, lv, st⟩ := F
  obtain ⟨rfl, rfl, ht⟩ := of_decide_eq_true hok
  have ht2 := (Int.toNat_of_nonneg ht).symm
  cases st with
  | nil => cases cd <;> cases ha
  | cons y st =>
    cases st with
    | nil => cases cd <;> cases ha
    | cons x st =>
      cases hy : pm_rfo y with
      | none => cases cd <;> simp [pm_act, pm_br, hy] at ha
      | some b =>
        cases hxx : pm_rfo x with
        | none => cases cd <;> simp [pm_act, pm_br, hy, hxx] at ha
        | some a =>
          have ey := pm_rfo_v (mu := mu) hy
          have ex := pm_rfo_v (mu := mu) hxx
          cases hid : (decide (a = b) || (pm_idn a && pm_idn b)) with
          | false => cases cd <;> (simp only [pm_act, pm_br, hy, hxx, hid, Option.bind_some] at ha; simp at ha)
          | true =>
          have hid2 : ¬ a = b → (pm_idn a && pm_idn b) = true := fun hne => by
            rw [Bool.or_eq_true] at hid
            exact hid.resolve_left (fun z => hne (of_decide_eq_true z))
          cases cd with
          | eq =>
            by_cases hc : a = b
            · (simp only [pm_act, pm_br, hy, hxx, hid, Option.bind_some, if_true] at ha; simp only [hc, decide_true, Option.bind_some, Option.map_some, if_true, List.head?_cons] at ha)
              cases ha
              refine ⟨rfl, fun ls hl => ?_⟩
              show W p l e R s m args below meth c H locs cells slots Q (F0 m pc ls (pm_v mu y :: pm_v mu x :: st.map (pm_v mu)))
              rw [ey, ex]
              exact lv_acmp_eq hx hb hd ht2 (fun _ => kk ls hl) (fun q => absurd (by rw [hc]) q)
            · (simp only [pm_act, pm_br, hy, hxx, hid, Option.bind_some, if_true] at ha; simp only [hc, decide_false, Option.bind_some, Option.map_some, if_false, Bool.false_eq_true] at ha)
              cases ha
              refine ⟨rfl, fun ls hl => ?_⟩
              show W p l e R s m args below meth c H locs cells slots Q (F0 m pc ls (pm_v mu y :: pm_v mu x :: st.map (pm_v mu)))
              rw [ey, ex]
              exact lv_acmp_eq hx hb hd ht2 (fun q => absurd (pm_map_inj hmu (hid2 hc) q) hc) (fun _ => kk ls hl)
          | ne =>
            by_cases hc : a = b
            · (simp only [pm_act, pm_br, hy, hxx, hid, Option.bind_some, if_true] at ha; simp only [hc, decide_true, Bool.not_true, Option.bind_some, Option.map_some, if_false, Bool.false_eq_true] at ha)
              cases ha
              refine ⟨rfl, fun ls hl => ?_⟩
              show W p l e R s m args below meth c H locs cells slots Q (F0 m pc ls (pm_v mu y :: pm_v mu x :: st.map (pm_v mu)))
              rw [ey, ex]
              exact lv_acmp_ne hx hb hd ht2 (fun q => absurd (by rw [hc]) q) (fun _ => kk ls hl)
            · (simp only [pm_act, pm_br, hy, hxx, hid, Option.bind_some, if_true] at ha; simp only [hc, decide_false, Bool.not_false, Option.bind_some, Option.map_some, if_true, List.head?_cons] at ha)
              cases ha
              refine ⟨rfl, fun ls hl => ?_⟩
              show W p l e R s m args below meth c H locs cells slots Q (F0 m pc ls (pm_v mu y :: pm_v mu x :: st.map (pm_v mu)))
              rw [ey, ex]
              exact lv_acmp_ne hx hb hd ht2 (fun _ => kk ls hl) (fun q => absurd (pm_map_inj hmu (hid2 hc) q) hc)
end SIM2
