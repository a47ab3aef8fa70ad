/-! THE STATE's facts, and the rows' check -/
def pt_aos : List String := ["OfficeSheet$Office", "OfficeSheet$Act", "OfficeSheet$Axis", "java/lang/Object"]
def pt_exn : List String := ["java/lang/IllegalArgumentException", "java/lang/IllegalStateException", "java/lang/IndexOutOfBoundsException", "java/lang/UnsupportedOperationException"]
/-- what every frame's state knows -/
def pt_St (u : Value) (D : pm_D) (A : Nat → ClassId) (mu : Nat → Nat) (base : Nat) (H00 : Heap) (s : State) : Prop :=
  (pm_Kn D pt_cl (pt_tys A) s) ∧
  (pm_Nw pt_Ns s) ∧
  (∀ C ∈ pt_aos, va_AO C s) ∧
  (∀ q ∈ pt_SE, vk_R (pt_own.getD q.1 "") q.2.1 q.2.2.1 (mu q.2.2.2) s) ∧
  (∀ q ∈ pt_SK u, va_Z q.1 q.2.1 q.2.2.1 (pm_v mu q.2.2.2) (fun a => base ≤ a) s H00) ∧
  (∀ C ∈ pt_exn, ∀ T ∈ pt_exn, C ≠ T → va_Nc C T s) ∧
  (pm_En "java/lang/Enum" "ordinal" "I" (D.1.2 18 0) s) ∧
  (pm_En "java/lang/Enum" "ordinal" "I" (D.1.2 19 0) s) ∧
  (pm_En "OfficeSheet$PartKind" "sign" "Ljava/lang/String;" (D.1.2 19 1) s) ∧
  (va_Mi "[Ljava/lang/Object;" (mu 79) s) ∧
  (pm_LS "java/lang/Throwable" "UNASSIGNED_STACK" "[Ljava/lang/StackTraceElement;" base H00 s) ∧
  (pm_LS "java/lang/Throwable" "SUPPRESSED_SENTINEL" "Ljava/util/List;" base H00 s)
theorem pt_St.kn {u : Value} {D : pm_D} {A : Nat → ClassId} {mu : Nat → Nat} {base : Nat} {H00 : Heap} {s : State} (h : pt_St u D A mu base H00 s) : pm_Kn D pt_cl (pt_tys A) s := h.1
theorem pt_St.nw {u : Value} {D : pm_D} {A : Nat → ClassId} {mu : Nat → Nat} {base : Nat} {H00 : Heap} {s : State} (h : pt_St u D A mu base H00 s) : pm_Nw pt_Ns s := h.2.1
theorem pt_St.ao {u : Value} {D : pm_D} {A : Nat → ClassId} {mu : Nat → Nat} {base : Nat} {H00 : Heap} {s : State} (h : pt_St u D A mu base H00 s) : ∀ C ∈ pt_aos, va_AO C s := h.2.2.1
theorem pt_St.se {u : Value} {D : pm_D} {A : Nat → ClassId} {mu : Nat → Nat} {base : Nat} {H00 : Heap} {s : State} (h : pt_St u D A mu base H00 s) : ∀ q ∈ pt_SE, vk_R (pt_own.getD q.1 "") q.2.1 q.2.2.1 (mu q.2.2.2) s := h.2.2.2.1
theorem pt_St.sk {u : Value} {D : pm_D} {A : Nat → ClassId} {mu : Nat → Nat} {base : Nat} {H00 : Heap} {s : State} (h : pt_St u D A mu base H00 s) : ∀ q ∈ pt_SK u, va_Z q.1 q.2.1 q.2.2.1 (pm_v mu q.2.2.2) (fun a => base ≤ a) s H00 := h.2.2.2.2.1
theorem pt_St.nc {u : Value} {D : pm_D} {A : Nat → ClassId} {mu : Nat → Nat} {base : Nat} {H00 : Heap} {s : State} (h : pt_St u D A mu base H00 s) : ∀ C ∈ pt_exn, ∀ T ∈ pt_exn, C ≠ T → va_Nc C T s := h.2.2.2.2.2.1
theorem pt_St.e1 {u : Value} {D : pm_D} {A : Nat → ClassId} {mu : Nat → Nat} {base : Nat} {H00 : Heap} {s : State} (h : pt_St u D A mu base H00 s) : pm_En "java/lang/Enum" "ordinal" "I" (D.1.2 18 0) s := h.2.2.2.2.2.2.1
theorem pt_St.e2 {u : Value} {D : pm_D} {A : Nat → ClassId} {mu : Nat → Nat} {base : Nat} {H00 : Heap} {s : State} (h : pt_St u D A mu base H00 s) : pm_En "java/lang/Enum" "ordinal" "I" (D.1.2 19 0) s := h.2.2.2.2.2.2.2.1
theorem pt_St.e3 {u : Value} {D : pm_D} {A : Nat → ClassId} {mu : Nat → Nat} {base : Nat} {H00 : Heap} {s : State} (h : pt_St u D A mu base H00 s) : pm_En "OfficeSheet$PartKind" "sign" "Ljava/lang/String;" (D.1.2 19 1) s := h.2.2.2.2.2.2.2.2.1
theorem pt_St.mi {u : Value} {D : pm_D} {A : Nat → ClassId} {mu : Nat → Nat} {base : Nat} {H00 : Heap} {s : State} (h : pt_St u D A mu base H00 s) : va_Mi "[Ljava/lang/Object;" (mu 79) s := h.2.2.2.2.2.2.2.2.2.1
theorem pt_St.l1 {u : Value} {D : pm_D} {A : Nat → ClassId} {mu : Nat → Nat} {base : Nat} {H00 : Heap} {s : State} (h : pt_St u D A mu base H00 s) : pm_LS "java/lang/Throwable" "UNASSIGNED_STACK" "[Ljava/lang/StackTraceElement;" base H00 s := h.2.2.2.2.2.2.2.2.2.2.1
theorem pt_St.l2 {u : Value} {D : pm_D} {A : Nat → ClassId} {mu : Nat → Nat} {base : Nat} {H00 : Heap} {s : State} (h : pt_St u D A mu base H00 s) : pm_LS "java/lang/Throwable" "SUPPRESSED_SENTINEL" "Ljava/util/List;" base H00 s := h.2.2.2.2.2.2.2.2.2.2.2
theorem pt_St.warm {u : Value} {D : pm_D} {A : Nat → ClassId} {mu : Nat → Nat} {base : Nat} {H00 : Heap} (s U : State) (hW : s.WarmedH U.vm) (h : pt_St u D A mu base H00 s) : pt_St u D A mu base H00 U :=
  ⟨h.kn.moved hW.alike, h.nw.warm pt_nk hW, fun C hC => (h.ao C hC).moved hW.alike, fun q hq => (h.se q hq).warm hW, fun q hq => (h.sk q hq).moved hW.alike, fun C hC T hT hn => (h.nc C hC T hT hn).moved hW.alike, h.e1.moved hW.alike, h.e2.moved hW.alike, h.e3.moved hW.alike, h.mi.moved hW.alike, h.l1.moved hW.alike, h.l2.moved hW.alike⟩
def pt_na (t : ArrayType) (vs : List Value) (ns : List Nat) : Bool := match t with
  | .int => decide (vs = [.int 0] ∧ ns = [0])
  | .long => decide (vs = [.long 0] ∧ ns = [1])
  | .boolean => decide (vs = [.int 0] ∧ ns = [3])
  | .byte => decide (vs = [.int 0] ∧ ns = [4])
  | _ => false
def pt_hasE {α : Type} [DecidableEq α] (l : List (Nat × Nat × α)) (o idx : Nat) (a : α) : Bool := l.any (fun q => q.1 == o && (q.2.1 == idx && decide (q.2.2 = a)))
theorem pt_hasE_in {α : Type} [DecidableEq α] {l : List (Nat × Nat × α)} {o idx : Nat} {a : α} (h : pt_hasE l o idx a = true) : (o, idx, a) ∈ l := by
  unfold pt_hasE at h
  obtain ⟨⟨x, y, z⟩, hm, hq⟩ := List.any_eq_true.mp h
  simp only [Bool.and_eq_true, beq_iff_eq, decide_eq_true_eq] at hq
  obtain ⟨rfl, rfl, rfl⟩ := hq
  exact hm
def pt_hasI (l : List (Nat × Nat × Nat)) (o idx : Nat) : Bool := l.any (fun q => q.1 == o && q.2.1 == idx)
theorem pt_hasI_in {l : List (Nat × Nat × Nat)} {o idx : Nat} (h : pt_hasI l o idx = true) : ∃ i, (o, idx, i) ∈ l := by
  obtain ⟨⟨x, y, z⟩, hm, hq⟩ := List.any_eq_true.mp h
  simp only [Bool.and_eq_true, beq_iff_eq] at hq
  obtain ⟨rfl, rfl⟩ := hq
  exact ⟨z, hm⟩
def pt_hasM (o idx : Nat) (ns : List Nat) (i : Instr) : Bool := pt_ME.any (fun q => q.1 == o && (q.2.1 == idx && (decide (q.2.2.1 = ns) && decide (pt_ki q.2.2.2.1 q.2.1 = i))))
theorem pt_hasM_in {o idx : Nat} {ns : List Nat} {i : Instr} (h : pt_hasM o idx ns i = true) : ∃ q ∈ pt_ME, q.1 = o ∧ q.2.1 = idx ∧ q.2.2.1 = ns ∧ pt_ki q.2.2.2.1 q.2.1 = i := by
  obtain ⟨q, hm, hq⟩ := List.any_eq_true.mp h
  simp only [Bool.and_eq_true, beq_iff_eq, decide_eq_true_eq] at hq
  exact ⟨q, hm, hq.1, hq.2.1, hq.2.2.1, hq.2.2.2⟩
def pt_rok (i : Instr) (rt : Option FieldType) (ns : List Nat) : Bool := match i, rt with
  | .return_, none => true
  | .ireturn, some ty => pm_tag (ns.headD 0) ty
  | .lreturn, some .long => true
  | .areturn, some (.object _) => true
  | .areturn, some (.array _) => true
  | _, _ => false
/-- a row of method y: o its class's number -/
def pt_chk (u : Value) (y o : Nat) (ini : Bool) (nL : Nat) (rt : Option FieldType) (r : pm_R) : Bool := match r with
  | (pc, i, len, vs, ns) => match i with
    | .getfield idx => decide (len = 3) && (pt_hasE pt_FE o idx ns || (decide (o = 26 ∧ idx = 7 ∧ ns = [18, 0, 19, 0]) || decide (o = 7 ∧ idx = 69 ∧ ns = [19, 1])))
    | .putfield idx => decide (len = 3) && (pt_hasE pt_PE o idx (ns, false) || (ini && pt_hasE pt_PE o idx (ns, true)))
    | .new idx => decide (len = 3) && (pt_hasE pt_NE o idx (vs, ns) || pt_TE.any (fun q => q.1 == y && (q.2.1 == pc && decide (q.2.2.1 = idx ∧ ns = [6, q.2.2.2.2.2.1, 6, 0]))))
    | .newarray t => decide (len = 2) && pt_na t vs ns
    | .anewarray idx => decide (len = 3 ∧ vs = [.null]) && pt_hasE pt_OE o idx ns
    | .arraylength | .iaload | .laload | .baload | .caload | .saload | .aaload | .iastore | .lastore | .bastore | .castore | .sastore | .aastore => decide (len = 1)
    | .checkcast idx => decide (len = 3) && pt_hasE pt_CE o idx ns
    | .ldc idx => decide (len = 2) && (pt_hasE pt_LE o idx vs || (pt_SE.any (fun q => q.1 == o && (q.2.1 == idx && decide (vs = [.ref q.2.2.2]))) || (pt_hasI pt_MR o idx && decide (vs = [.ref 79]))))
    | .ldc_w idx => decide (len = 3) && pt_hasE pt_LE o idx vs
    | .ldc2_w idx => decide (len = 3) && pt_hasE pt_L2 o idx vs
    | .getstatic idx => decide (len = 3) && pt_GE.any (fun q => q.1 == o && (q.2.1 == idx && decide (vs = [((pt_SK u).getD q.2.2.2 pt_skd).2.2.2])))
    | .invokestatic idx => decide (len = 3) && ((decide (ns = [8] ∧ vs = []) && pt_hasI pt_AC o idx) || pt_hasM o idx ns (.invokestatic idx))
    | .invokespecial idx => decide (len = 3) && ((decide (ns = [9] ∧ vs = []) && pt_hasI pt_OI o idx) || pt_hasM o idx ns (.invokespecial idx))
    | .invokevirtual idx => decide (len = 3) && ((decide (ns = [7] ∧ vs = []) && pt_hasI pt_CN o idx) || ((decide (ns = [4] ∧ vs = [.ref 79]) && pt_hasI pt_GC o idx) || pt_hasM o idx ns (.invokevirtual idx)))
    | .tableswitch dd lo hi os => decide (hi + 1 = lo + (os.toList.length : Int)) && pm_swB pc dd (pm_tps lo os.toList) vs ns
    | .lookupswitch dd ps => (ps.toList.zip (ps.toList.drop 1)).all (fun (a, next) => a.1 < next.1) && pm_swB pc dd ps.toList vs ns
    | .return_ | .ireturn | .lreturn | .areturn => decide (len = 1) && pt_rok i rt ns
    | i => pm_smp i && pm_okB nL pc i len vs ns
def pt_inb (y : Nat) : Bool := decide ((pt_nm y).name = "<init>")
def pt_ow (y : Nat) : Nat := (pt_md y).2.2.2
def pt_ckR (u : Value) (y : Nat) : Bool := (pt_G u y).1.all (pt_chk u y (pt_ow y) (pt_inb y) (pt_ml y) (pt_rt y))
theorem pt_skn (u : Value) (k : Nat) : ((pt_SK .null).getD k pt_skd).1 = ((pt_SK u).getD k pt_skd).1 ∧ ((pt_SK .null).getD k pt_skd).2.1 = ((pt_SK u).getD k pt_skd).2.1 ∧ ((pt_SK .null).getD k pt_skd).2.2.1 = ((pt_SK u).getD k pt_skd).2.2.1 := by
  by_cases hk : k < 24
  · have key : ∀ n : Fin 24, ((pt_SK .null).getD n.val pt_skd).1 = ((pt_SK u).getD n.val pt_skd).1 ∧ ((pt_SK .null).getD n.val pt_skd).2.1 = ((pt_SK u).getD n.val pt_skd).2.1 ∧ ((pt_SK .null).getD n.val pt_skd).2.2.1 = ((pt_SK u).getD n.val pt_skd).2.2.1 := by
      intro n
      match n with
      | ⟨0, _⟩ | ⟨1, _⟩ | ⟨2, _⟩ | ⟨3, _⟩ | ⟨4, _⟩ | ⟨5, _⟩ | ⟨6, _⟩ | ⟨7, _⟩ | ⟨8, _⟩ | ⟨9, _⟩ | ⟨10, _⟩ | ⟨11, _⟩ | ⟨12, _⟩ | ⟨13, _⟩ | ⟨14, _⟩ | ⟨15, _⟩ | ⟨16, _⟩ | ⟨17, _⟩ | ⟨18, _⟩ | ⟨19, _⟩ | ⟨20, _⟩ | ⟨21, _⟩ | ⟨22, _⟩ | ⟨23, _⟩ => exact ⟨rfl, rfl, rfl⟩
      | ⟨n + 24, hn⟩ => exact absurd hn (by omega)
    exact key ⟨k, hk⟩
  · have h1 : (pt_SK .null).length ≤ k := by show 24 ≤ k; omega
    have h2 : (pt_SK u).length ≤ k := by show 24 ≤ k; omega
    rw [List.getD_eq_getElem?_getD, List.getElem?_eq_none h1, List.getD_eq_getElem?_getD, List.getElem?_eq_none h2]
    exact ⟨rfl, rfl, rfl⟩
/-- a call's numbers are no native's -/
theorem pt_mens {q : pt_E} (hm : q ∈ pt_ME) : ∃ a b c d r, q.2.2.1 = a :: b :: c :: d :: r := by
  have hq := List.all_eq_true.mp pt_ckM_all q hm
  obtain ⟨o, idx, ns, kd, is, host⟩ := q
  simp only [pt_ckM] at hq
  split at hq
  all_goals first | (cases hq; done) | exact ⟨_, _, _, _, _, rfl⟩
theorem pt_noact {P : Nat × List (Nat × Nat)} {o idx len : Nat} {ns : List Nat} {i : Instr} {vs : List Value} {F F' : pm_F} {h h' : pm_H} (hq : ∃ q ∈ pt_ME, q.1 = o ∧ q.2.1 = idx ∧ q.2.2.1 = ns ∧ pt_ki q.2.2.2.1 q.2.1 = i) : ¬ pm_act P i len vs ns F h = some (F', h') := by
  obtain ⟨q, hm, rfl, rfl, rfl, rfl⟩ := hq
  obtain ⟨a, b, c, d, r, e⟩ := pt_mens hm
  rw [e]
  intro ha
  unfold pt_ki at ha
  split at ha <;> simp [pm_act] at ha
