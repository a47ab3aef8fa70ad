/-! statics, strings, natives, throws, by the pools' entries -/
def pt_SE : List (Nat × Nat × String × Nat) := [(1, 41, "no character of a text", 21), (1, 58, "the draft is full", 22), (1, 65, "the draft has not so many characters", 23), (1, 91, "the office shows too many lines", 24), (1, 141, "the office made no act", 25), (1, 160, "no such act of another office", 26), (1, 205, "OUT has no such character", 27), (1, 212, "no such office", 28), (1, 214, "no such kind", 29), (1, 216, "no such line is shown", 30), (1, 232, "the office made all its acts", 31), (9, 201, "Index: ", 43), (9, 203, ", Size: ", 44), (13, 48, "fromIndex(", 45), (13, 57, ") > toIndex(", 46), (13, 59, ")", 47), (13, 337, " > ", 48), (27, 61, "=", 32), (27, 67, "", 33), (27, 71, "-", 34), (27, 74, "+", 35), (27, 78, "*", 36), (27, 81, "/", 37), (27, 84, "s", 38), (27, 87, "n", 39), (27, 90, "m", 40)]
def pt_SK (u : Value) : List (String × String × String × Value) := [("java/lang/String", "COMPACT_STRINGS", "Z", .int 1), ("java/util/ArrayList", "DEFAULTCAPACITY_EMPTY_ELEMENTDATA", "[Ljava/lang/Object;", .ref 20), ("jdk/internal/util/Preconditions", "SIOOBE_FORMATTER", "Ljava/util/function/BiFunction;", u), ("java/lang/Integer", "DigitOnes", "[B", .ref 77), ("java/lang/Integer", "DigitTens", "[B", .ref 78), ("OfficeSheet$ActKind", "PUT", "LOfficeSheet$ActKind;", .ref 1), ("OfficeSheet$ActKind", "WRITE", "LOfficeSheet$ActKind;", .ref 6), ("OfficeSheet$ActKind", "MOVE", "LOfficeSheet$ActKind;", .ref 2), ("OfficeSheet$ActKind", "BACK", "LOfficeSheet$ActKind;", .ref 3), ("OfficeSheet$ActKind", "THERE", "LOfficeSheet$ActKind;", .ref 4), ("OfficeSheet$ActKind", "GONE", "LOfficeSheet$ActKind;", .ref 5), ("OfficeSheet$PartKind", "FORMULA", "LOfficeSheet$PartKind;", .ref 7), ("OfficeSheet$PartKind", "PLUS", "LOfficeSheet$PartKind;", .ref 11), ("OfficeSheet$PartKind", "MINUS", "LOfficeSheet$PartKind;", .ref 12), ("OfficeSheet$PartKind", "TIMES", "LOfficeSheet$PartKind;", .ref 13), ("OfficeSheet$PartKind", "OVER", "LOfficeSheet$PartKind;", .ref 14), ("OfficeSheet$PartKind", "NEGATIVE", "LOfficeSheet$PartKind;", .ref 10), ("OfficeSheet$PartKind", "SUM", "LOfficeSheet$PartKind;", .ref 15), ("OfficeSheet$PartKind", "COUNT", "LOfficeSheet$PartKind;", .ref 16), ("OfficeSheet$PartKind", "MOST", "LOfficeSheet$PartKind;", .ref 17), ("OfficeSheet$PartKind", "NUMBER", "LOfficeSheet$PartKind;", .ref 8), ("OfficeSheet$PartKind", "REFERENCE", "LOfficeSheet$PartKind;", .ref 9), ("OfficeSheet$1", "$SwitchMap$OfficeSheet$ActKind", "[I", .ref 18), ("OfficeSheet$1", "$SwitchMap$OfficeSheet$PartKind", "[I", .ref 19)]
def pt_GE : List (Nat × Nat × Nat × Nat) := [(1, 111, 1033, 10), (2, 51, 1091, 11), (2, 106, 1212, 12), (2, 109, 1214, 13), (2, 115, 1208, 14), (2, 118, 1210, 15), (2, 121, 1161, 16), (2, 128, 1168, 17), (2, 135, 1193, 18), (2, 138, 1195, 19), (4, 18, 65, 0), (5, 403, 558, 3), (5, 407, 559, 4), (6, 109, 1391, 23), (6, 188, 1438, 18), (6, 191, 1440, 17), (7, 33, 1502, 23), (7, 99, 1556, 11), (7, 104, 1560, 16), (8, 51, 765, 5), (8, 76, 1024, 7), (8, 86, 1289, 8), (8, 89, 864, 6), (8, 120, 1273, 22), (8, 128, 1281, 10), (8, 135, 1283, 9), (9, 39, 185, 1), (12, 133, 1011, 10), (17, 38, 519, 0), (17, 1053, 439, 2), (19, 83, 548, 3), (19, 87, 550, 4), (22, 71, 876, 6), (24, 3, 947, 5), (24, 7, 948, 7), (24, 10, 987, 8), (24, 13, 994, 9), (24, 16, 996, 10), (25, 20, 1113, 20), (25, 32, 1186, 21), (27, 16, 1546, 12), (27, 19, 1547, 13), (27, 22, 1537, 14), (27, 25, 1538, 15)]
def pt_skd : String × String × String × Value := ("", "", "", .null)
def pt_ckG (q : Nat × Nat × Nat × Nat) : Bool := decide (q.2.2.2 < 24) && pt_w q.2.2.1 (.fieldLink (pt_own.getD q.1 "") q.2.1 ((pt_SK .null).getD q.2.2.2 pt_skd).1 ((pt_SK .null).getD q.2.2.2 pt_skd).2.1 ((pt_SK .null).getD q.2.2.2 pt_skd).2.2.1)
theorem pt_kG : pt_GE.all pt_ckG = true := by decide +kernel
def pt_OI : List (Nat × Nat × Nat) := [(1, 3, 45), (2, 3, 55), (4, 3, 64), (6, 3, 119), (7, 3, 151), (8, 3, 169), (11, 1, 184), (12, 3, 203), (17, 1, 572), (21, 1, 747), (22, 1, 770), (23, 1, 840), (25, 1, 1118), (28, 1, 1575)]
def pt_AC : List (Nat × Nat × Nat) := [(13, 150, 409), (17, 212, 533), (9, 112, 981)]
def pt_CN : List (Nat × Nat × Nat) := [(22, 39, 776)]
def pt_GC : List (Nat × Nat × Nat) := [(13, 86, 905)]
def pt_MR : List (Nat × Nat × Nat) := [(13, 110, 934)]
theorem pt_kOI : pt_OI.all (fun q => pt_w q.2.2 (.methodLink (pt_own.getD q.1 "") q.2.1 objectInit)) = true := by decide +kernel
theorem pt_kAC : pt_AC.all (fun q => pt_w q.2.2 (.methodLink (pt_own.getD q.1 "") q.2.1 arraycopyName)) = true := by decide +kernel
theorem pt_kCN : pt_CN.all (fun q => pt_w q.2.2 (.methodLink (pt_own.getD q.1 "") q.2.1 ⟨"[I", "clone", "()Ljava/lang/Object;"⟩)) = true := by decide +kernel
theorem pt_kGC : pt_GC.all (fun q => pt_w q.2.2 (.methodLink (pt_own.getD q.1 "") q.2.1 ⟨"java/lang/Object", "getClass", "()Ljava/lang/Class;"⟩)) = true := by decide +kernel
theorem pt_kMR : pt_MR.all (fun q => pt_w q.2.2 (.classLink (pt_own.getD q.1 "") q.2.1 "[Ljava/lang/Object;")) = true := by decide +kernel
theorem pt_o2 : Cond.instanceMethod objectInit ∈ pt_Ts := pt_w_in (i := 46) (by decide +kernel)
theorem pt_o3 : Cond.code objectInit ⟨#[0xb1]⟩ 1 none ∈ pt_Ts := pt_wc_in (i := 47) (hw := []) (by decide +kernel)
theorem pt_a2 : Cond.native arraycopyName ∈ pt_Ts := pt_w_in (i := 411) (by decide +kernel)
theorem pt_a3 : Cond.static arraycopyName ∈ pt_Ts := pt_w_in (i := 410) (by decide +kernel)
theorem pt_a4 : Cond.initialized "java/lang/System" ∈ pt_Ts := pt_w_in (i := 23) (by decide +kernel)
theorem pt_c2 : Cond.sameMethod "[I" "java/lang/Object" "clone" "()Ljava/lang/Object;" ∈ pt_Ts := pt_w_in (i := 777) (by decide +kernel)
theorem pt_c3 : Cond.native ⟨"java/lang/Object", "clone", "()Ljava/lang/Object;"⟩ ∈ pt_Ts := pt_w_in (i := 401) (by decide +kernel)
theorem pt_c4 : Cond.instanceMethod ⟨"java/lang/Object", "clone", "()Ljava/lang/Object;"⟩ ∈ pt_Ts := pt_w_in (i := 402) (by decide +kernel)
theorem pt_c5 : Cond.selects "[I" ⟨"[I", "clone", "()Ljava/lang/Object;"⟩ ⟨"java/lang/Object", "clone", "()Ljava/lang/Object;"⟩ ∈ pt_Ts := pt_w_in (i := 778) (by decide +kernel)
theorem pt_c6 : Cond.castable "[I" "java/lang/Cloneable" ∈ pt_Ns := pt_v_in (i := 779) (by decide +kernel)
theorem pt_gc2 : Cond.declares ⟨"java/lang/Object", "getClass", "()Ljava/lang/Class;"⟩ ∈ pt_Ns := pt_v_in (i := 2049) (by decide +kernel)
theorem pt_gc3 : Cond.selects "[Ljava/lang/Object;" ⟨"java/lang/Object", "getClass", "()Ljava/lang/Class;"⟩ ⟨"java/lang/Object", "getClass", "()Ljava/lang/Class;"⟩ ∈ pt_Ts := pt_w_in (i := 2048) (by decide +kernel)
theorem pt_gc4 : Cond.instanceMethod ⟨"java/lang/Object", "getClass", "()Ljava/lang/Class;"⟩ ∈ pt_Ts := pt_w_in (i := 906) (by decide +kernel)
theorem pt_gc5 : Cond.native ⟨"java/lang/Object", "getClass", "()Ljava/lang/Class;"⟩ ∈ pt_Ts := pt_w_in (i := 930) (by decide +kernel)
theorem pt_ar0 : Cond.arrayClass .int ∈ pt_Ts := pt_w_in (i := 113) (by decide +kernel)
theorem pt_ar1 : Cond.arrayClass .long ∈ pt_Ts := pt_w_in (i := 144) (by decide +kernel)
theorem pt_ar3 : Cond.arrayClass .boolean ∈ pt_Ts := pt_w_in (i := 145) (by decide +kernel)
theorem pt_ar4 : Cond.arrayClass .byte ∈ pt_Ts := pt_w_in (i := 88) (by decide +kernel)
theorem pt_e1 : Cond.fieldLink "java/lang/Enum" 7 "java/lang/Enum" "ordinal" "I" ∈ pt_Ts := pt_w_in (i := 2064) (by decide +kernel)
theorem pt_e2 : Cond.fieldLinkNest "OfficeSheet$Writer" 69 "OfficeSheet$PartKind" "sign" "Ljava/lang/String;" "OfficeSheet" ∈ pt_Ns := pt_v_in (i := 2065) (by decide +kernel)
/-- throws: the method, the row, the class's entry, the text's, the constructor's; the class; the text; the place of the class's word -/
def pt_TE : List (Nat × Nat × Nat × Nat × Nat × Nat × String × Nat) := [(16, 12, 39, 41, 43, 14, "no character of a text", 277), (16, 37, 56, 58, 60, 15, "the draft is full", 354), (43, 18, 39, 65, 43, 14, "the draft has not so many characters", 277), (80, 46, 56, 91, 60, 15, "the office shows too many lines", 354), (81, 9, 39, 212, 43, 14, "no such office", 277), (82, 9, 39, 214, 43, 14, "no such kind", 277), (84, 12, 203, 216, 207, 16, "no such line is shown", 698), (91, 9, 56, 232, 60, 15, "the office made all its acts", 354), (162, 13, 139, 141, 143, 17, "the office made no act", 1244), (169, 33, 39, 160, 43, 14, "no such act of another office", 277), (233, 18, 203, 205, 207, 16, "OUT has no such character", 698)]
def pt_ic (ci : Nat) : Nat := match ci with
  | 14 => 43
  | 15 => 60
  | 16 => 207
  | 17 => 143
  | _ => 0
def pt_ckT (q : Nat × Nat × Nat × Nat × Nat × Nat × String × Nat) : Bool := match q with
  | (y, pc, idx, im, ic, ci, tx, i) => decide (decode (pt_bc y) pc = .ok (.new idx, 3)) && (decide (decode (pt_bc y) (pc + 3) = .ok (.dup, 1)) && (decide (decode (pt_bc y) (pc + 3 + 1) = .ok (.ldc im, 2)) && (decide (decode (pt_bc y) (pc + 3 + 1 + 2) = .ok (.invokespecial ic, 3)) && (decide (decode (pt_bc y) (pc + 3 + 1 + 2 + 3) = .ok (.athrow, 1)) && (decide (pt_hw y = []) && (decide ((pt_nm y).cls = "OfficeSheet") && (decide (14 ≤ ci ∧ ci < 18) && (pt_w i (.classLink "OfficeSheet" idx (pt_clN ci)) && (pt_SE.any (fun x => decide (x.1 = 1 ∧ x.2.1 = im ∧ x.2.2.1 = tx)) && decide (ic = pt_ic ci))))))))))
theorem pt_kT : pt_TE.all pt_ckT = true := by decide +kernel
def pt_tnames : List String := ["java/lang/RuntimeException", "java/lang/Exception"]
def pt_ckA (a : Cond) : Bool := match a with
  | .isRef (.static "java/lang/Throwable" "UNASSIGNED_STACK" "[Ljava/lang/StackTraceElement;") | .isRef (.static "java/lang/Throwable" "SUPPRESSED_SENTINEL" "Ljava/util/List;") | .laysStatic "java/lang/Throwable" "UNASSIGNED_STACK" "[Ljava/lang/StackTraceElement;" | .laysStatic "java/lang/Throwable" "SUPPRESSED_SENTINEL" "Ljava/util/List;" => true
  | _ => false
