/-! THE START: the constants, as terms of the premises and as cells -/
def pt_tms : List Term := [.arg 0,
  .static "OfficeSheet$ActKind" "PUT" "LOfficeSheet$ActKind;",
  .static "OfficeSheet$ActKind" "MOVE" "LOfficeSheet$ActKind;",
  .static "OfficeSheet$ActKind" "BACK" "LOfficeSheet$ActKind;",
  .static "OfficeSheet$ActKind" "THERE" "LOfficeSheet$ActKind;",
  .static "OfficeSheet$ActKind" "GONE" "LOfficeSheet$ActKind;",
  .static "OfficeSheet$ActKind" "WRITE" "LOfficeSheet$ActKind;",
  .static "OfficeSheet$PartKind" "FORMULA" "LOfficeSheet$PartKind;",
  .static "OfficeSheet$PartKind" "NUMBER" "LOfficeSheet$PartKind;",
  .static "OfficeSheet$PartKind" "REFERENCE" "LOfficeSheet$PartKind;",
  .static "OfficeSheet$PartKind" "NEGATIVE" "LOfficeSheet$PartKind;",
  .static "OfficeSheet$PartKind" "PLUS" "LOfficeSheet$PartKind;",
  .static "OfficeSheet$PartKind" "MINUS" "LOfficeSheet$PartKind;",
  .static "OfficeSheet$PartKind" "TIMES" "LOfficeSheet$PartKind;",
  .static "OfficeSheet$PartKind" "OVER" "LOfficeSheet$PartKind;",
  .static "OfficeSheet$PartKind" "SUM" "LOfficeSheet$PartKind;",
  .static "OfficeSheet$PartKind" "COUNT" "LOfficeSheet$PartKind;",
  .static "OfficeSheet$PartKind" "MOST" "LOfficeSheet$PartKind;",
  .static "OfficeSheet$1" "$SwitchMap$OfficeSheet$ActKind" "[I",
  .static "OfficeSheet$1" "$SwitchMap$OfficeSheet$PartKind" "[I",
  .static "java/util/ArrayList" "DEFAULTCAPACITY_EMPTY_ELEMENTDATA" "[Ljava/lang/Object;",
  .string "OfficeSheet" 41,
  .string "OfficeSheet" 58,
  .string "OfficeSheet" 65,
  .string "OfficeSheet" 91,
  .string "OfficeSheet" 141,
  .string "OfficeSheet" 160,
  .string "OfficeSheet" 205,
  .string "OfficeSheet" 212,
  .string "OfficeSheet" 214,
  .string "OfficeSheet" 216,
  .string "OfficeSheet" 232,
  .string "OfficeSheet$PartKind" 61,
  .string "OfficeSheet$PartKind" 67,
  .string "OfficeSheet$PartKind" 71,
  .string "OfficeSheet$PartKind" 74,
  .string "OfficeSheet$PartKind" 78,
  .string "OfficeSheet$PartKind" 81,
  .string "OfficeSheet$PartKind" 84,
  .string "OfficeSheet$PartKind" 87,
  .string "OfficeSheet$PartKind" 90,
  .string "java/lang/ArrayIndexOutOfBoundsException" 13,
  .string "java/lang/StringIndexOutOfBoundsException" 13,
  .string "java/util/ArrayList" 201,
  .string "java/util/ArrayList" 203,
  .string "java/util/Arrays" 48,
  .string "java/util/Arrays" 57,
  .string "java/util/Arrays" 59,
  .string "java/util/Arrays" 337,
  .field (.string "OfficeSheet" 41) "java/lang/String" "value" "[B",
  .field (.string "OfficeSheet" 58) "java/lang/String" "value" "[B",
  .field (.string "OfficeSheet" 65) "java/lang/String" "value" "[B",
  .field (.string "OfficeSheet" 91) "java/lang/String" "value" "[B",
  .field (.string "OfficeSheet" 141) "java/lang/String" "value" "[B",
  .field (.string "OfficeSheet" 160) "java/lang/String" "value" "[B",
  .field (.string "OfficeSheet" 205) "java/lang/String" "value" "[B",
  .field (.string "OfficeSheet" 212) "java/lang/String" "value" "[B",
  .field (.string "OfficeSheet" 214) "java/lang/String" "value" "[B",
  .field (.string "OfficeSheet" 216) "java/lang/String" "value" "[B",
  .field (.string "OfficeSheet" 232) "java/lang/String" "value" "[B",
  .field (.string "OfficeSheet$PartKind" 61) "java/lang/String" "value" "[B",
  .field (.string "OfficeSheet$PartKind" 67) "java/lang/String" "value" "[B",
  .field (.string "OfficeSheet$PartKind" 71) "java/lang/String" "value" "[B",
  .field (.string "OfficeSheet$PartKind" 74) "java/lang/String" "value" "[B",
  .field (.string "OfficeSheet$PartKind" 78) "java/lang/String" "value" "[B",
  .field (.string "OfficeSheet$PartKind" 81) "java/lang/String" "value" "[B",
  .field (.string "OfficeSheet$PartKind" 84) "java/lang/String" "value" "[B",
  .field (.string "OfficeSheet$PartKind" 87) "java/lang/String" "value" "[B",
  .field (.string "OfficeSheet$PartKind" 90) "java/lang/String" "value" "[B",
  .field (.string "java/lang/ArrayIndexOutOfBoundsException" 13) "java/lang/String" "value" "[B",
  .field (.string "java/lang/StringIndexOutOfBoundsException" 13) "java/lang/String" "value" "[B",
  .field (.string "java/util/ArrayList" 201) "java/lang/String" "value" "[B",
  .field (.string "java/util/ArrayList" 203) "java/lang/String" "value" "[B",
  .field (.string "java/util/Arrays" 48) "java/lang/String" "value" "[B",
  .field (.string "java/util/Arrays" 57) "java/lang/String" "value" "[B",
  .field (.string "java/util/Arrays" 59) "java/lang/String" "value" "[B",
  .field (.string "java/util/Arrays" 337) "java/lang/String" "value" "[B",
  .static "java/lang/Integer" "DigitOnes" "[B",
  .static "java/lang/Integer" "DigitTens" "[B",
  .mirror "[Ljava/lang/Object;",
  .static "jdk/internal/util/Preconditions" "SIOOBE_FORMATTER" "Ljava/util/function/BiFunction;"]
def pt_K1 : List pm_C := [.inl (18, [.int 0]),
  .inl (18, [.int 1]),
  .inl (18, [.int 2]),
  .inl (18, [.int 3]),
  .inl (18, [.int 4]),
  .inl (18, [.int 5]),
  .inl (19, [.int 0, .ref 32]),
  .inl (19, [.int 1, .ref 33]),
  .inl (19, [.int 2, .ref 33]),
  .inl (19, [.int 3, .ref 34]),
  .inl (19, [.int 4, .ref 35]),
  .inl (19, [.int 5, .ref 34]),
  .inl (19, [.int 6, .ref 36]),
  .inl (19, [.int 7, .ref 37]),
  .inl (19, [.int 8, .ref 38]),
  .inl (19, [.int 9, .ref 39]),
  .inl (19, [.int 10, .ref 40]),
  .inr (0, [.int 1, .int 0, .int 0, .int 2, .int 3, .int 4]),
  .inr (0, [.int 1, .int 2, .int 3, .int 4, .int 8, .int 9, .int 10, .int 0, .int 5, .int 6, .int 7]),
  .inr (13, []),
  .inl (13, [.ref 49, .int 0]),
  .inl (13, [.ref 50, .int 0]),
  .inl (13, [.ref 51, .int 0]),
  .inl (13, [.ref 52, .int 0]),
  .inl (13, [.ref 53, .int 0]),
  .inl (13, [.ref 54, .int 0]),
  .inl (13, [.ref 55, .int 0]),
  .inl (13, [.ref 56, .int 0]),
  .inl (13, [.ref 57, .int 0]),
  .inl (13, [.ref 58, .int 0]),
  .inl (13, [.ref 59, .int 0]),
  .inl (13, [.ref 60, .int 0]),
  .inl (13, [.ref 61, .int 0]),
  .inl (13, [.ref 62, .int 0]),
  .inl (13, [.ref 63, .int 0]),
  .inl (13, [.ref 64, .int 0]),
  .inl (13, [.ref 65, .int 0]),
  .inl (13, [.ref 66, .int 0]),
  .inl (13, [.ref 67, .int 0]),
  .inl (13, [.ref 68, .int 0]),
  .inl (13, [.ref 69, .int 0]),
  .inl (13, [.ref 70, .int 0]),
  .inl (13, [.ref 71, .int 0]),
  .inl (13, [.ref 72, .int 0]),
  .inl (13, [.ref 73, .int 0]),
  .inl (13, [.ref 74, .int 0]),
  .inl (13, [.ref 75, .int 0]),
  .inl (13, [.ref 76, .int 0]),
  .inr (4, [.int 110, .int 111, .int 32, .int 99, .int 104, .int 97, .int 114, .int 97, .int 99, .int 116, .int 101, .int 114, .int 32, .int 111, .int 102, .int 32, .int 97, .int 32, .int 116, .int 101, .int 120, .int 116]),
  .inr (4, [.int 116, .int 104, .int 101, .int 32, .int 100, .int 114, .int 97, .int 102, .int 116, .int 32, .int 105, .int 115, .int 32, .int 102, .int 117, .int 108, .int 108]),
  .inr (4, [.int 116, .int 104, .int 101, .int 32, .int 100, .int 114, .int 97, .int 102, .int 116, .int 32, .int 104, .int 97, .int 115, .int 32, .int 110, .int 111, .int 116, .int 32, .int 115, .int 111, .int 32, .int 109, .int 97, .int 110, .int 121, .int 32, .int 99, .int 104, .int 97, .int 114, .int 97, .int 99, .int 116, .int 101, .int 114, .int 115]),
  .inr (4, [.int 116, .int 104, .int 101, .int 32, .int 111, .int 102, .int 102, .int 105, .int 99, .int 101, .int 32, .int 115, .int 104, .int 111, .int 119, .int 115, .int 32, .int 116, .int 111, .int 111, .int 32, .int 109, .int 97, .int 110, .int 121, .int 32, .int 108, .int 105, .int 110, .int 101, .int 115]),
  .inr (4, [.int 116, .int 104, .int 101, .int 32, .int 111, .int 102, .int 102, .int 105, .int 99, .int 101, .int 32, .int 109, .int 97, .int 100, .int 101, .int 32, .int 110, .int 111, .int 32, .int 97, .int 99, .int 116]),
  .inr (4, [.int 110, .int 111, .int 32, .int 115, .int 117, .int 99, .int 104, .int 32, .int 97, .int 99, .int 116, .int 32, .int 111, .int 102, .int 32, .int 97, .int 110, .int 111, .int 116, .int 104, .int 101, .int 114, .int 32, .int 111, .int 102, .int 102, .int 105, .int 99, .int 101]),
  .inr (4, [.int 79, .int 85, .int 84, .int 32, .int 104, .int 97, .int 115, .int 32, .int 110, .int 111, .int 32, .int 115, .int 117, .int 99, .int 104, .int 32, .int 99, .int 104, .int 97, .int 114, .int 97, .int 99, .int 116, .int 101, .int 114]),
  .inr (4, [.int 110, .int 111, .int 32, .int 115, .int 117, .int 99, .int 104, .int 32, .int 111, .int 102, .int 102, .int 105, .int 99, .int 101]),
  .inr (4, [.int 110, .int 111, .int 32, .int 115, .int 117, .int 99, .int 104, .int 32, .int 107, .int 105, .int 110, .int 100]),
  .inr (4, [.int 110, .int 111, .int 32, .int 115, .int 117, .int 99, .int 104, .int 32, .int 108, .int 105, .int 110, .int 101, .int 32, .int 105, .int 115, .int 32, .int 115, .int 104, .int 111, .int 119, .int 110]),
  .inr (4, [.int 116, .int 104, .int 101, .int 32, .int 111, .int 102, .int 102, .int 105, .int 99, .int 101, .int 32, .int 109, .int 97, .int 100, .int 101, .int 32, .int 97, .int 108, .int 108, .int 32, .int 105, .int 116, .int 115, .int 32, .int 97, .int 99, .int 116, .int 115]),
  .inr (4, [.int 61]),
  .inr (4, []),
  .inr (4, [.int 45]),
  .inr (4, [.int 43]),
  .inr (4, [.int 42]),
  .inr (4, [.int 47]),
  .inr (4, [.int 115]),
  .inr (4, [.int 110]),
  .inr (4, [.int 109]),
  .inr (4, [.int 65, .int 114, .int 114, .int 97, .int 121, .int 32, .int 105, .int 110, .int 100, .int 101, .int 120, .int 32, .int 111, .int 117, .int 116, .int 32, .int 111, .int 102, .int 32, .int 114, .int 97, .int 110, .int 103, .int 101, .int 58, .int 32]),
  .inr (4, [.int 83, .int 116, .int 114, .int 105, .int 110, .int 103, .int 32, .int 105, .int 110, .int 100, .int 101, .int 120, .int 32, .int 111, .int 117, .int 116, .int 32, .int 111, .int 102, .int 32, .int 114, .int 97, .int 110, .int 103, .int 101, .int 58, .int 32]),
  .inr (4, [.int 73, .int 110, .int 100, .int 101, .int 120, .int 58, .int 32]),
  .inr (4, [.int 44, .int 32, .int 83, .int 105, .int 122, .int 101, .int 58, .int 32]),
  .inr (4, [.int 102, .int 114, .int 111, .int 109, .int 73, .int 110, .int 100, .int 101, .int 120, .int 40]),
  .inr (4, [.int 41, .int 32, .int 62, .int 32, .int 116, .int 111, .int 73, .int 110, .int 100, .int 101, .int 120, .int 40]),
  .inr (4, [.int 41]),
  .inr (4, [.int 32, .int 62, .int 32]),
  .inr (4, [.int 48, .int 49, .int 50, .int 51, .int 52, .int 53, .int 54, .int 55, .int 56, .int 57, .int 48, .int 49, .int 50, .int 51, .int 52, .int 53, .int 54, .int 55, .int 56, .int 57, .int 48, .int 49, .int 50, .int 51, .int 52, .int 53, .int 54, .int 55, .int 56, .int 57, .int 48, .int 49, .int 50, .int 51, .int 52, .int 53, .int 54, .int 55, .int 56, .int 57, .int 48, .int 49, .int 50, .int 51, .int 52, .int 53, .int 54, .int 55, .int 56, .int 57, .int 48, .int 49, .int 50, .int 51, .int 52, .int 53, .int 54, .int 55, .int 56, .int 57, .int 48, .int 49, .int 50, .int 51, .int 52, .int 53, .int 54, .int 55, .int 56, .int 57, .int 48, .int 49, .int 50, .int 51, .int 52, .int 53, .int 54, .int 55, .int 56, .int 57, .int 48, .int 49, .int 50, .int 51, .int 52, .int 53, .int 54, .int 55, .int 56, .int 57, .int 48, .int 49, .int 50, .int 51, .int 52, .int 53, .int 54, .int 55, .int 56, .int 57]),
  .inr (4, [.int 48, .int 48, .int 48, .int 48, .int 48, .int 48, .int 48, .int 48, .int 48, .int 48, .int 49, .int 49, .int 49, .int 49, .int 49, .int 49, .int 49, .int 49, .int 49, .int 49, .int 50, .int 50, .int 50, .int 50, .int 50, .int 50, .int 50, .int 50, .int 50, .int 50, .int 51, .int 51, .int 51, .int 51, .int 51, .int 51, .int 51, .int 51, .int 51, .int 51, .int 52, .int 52, .int 52, .int 52, .int 52, .int 52, .int 52, .int 52, .int 52, .int 52, .int 53, .int 53, .int 53, .int 53, .int 53, .int 53, .int 53, .int 53, .int 53, .int 53, .int 54, .int 54, .int 54, .int 54, .int 54, .int 54, .int 54, .int 54, .int 54, .int 54, .int 55, .int 55, .int 55, .int 55, .int 55, .int 55, .int 55, .int 55, .int 55, .int 55, .int 56, .int 56, .int 56, .int 56, .int 56, .int 56, .int 56, .int 56, .int 56, .int 56, .int 57, .int 57, .int 57, .int 57, .int 57, .int 57, .int 57, .int 57, .int 57, .int 57]),
  .inr (9, []),
  .inr (9, [])]
def pt_pos : List Nat := [219, 224, 228, 233, 239, 221, 246, 255, 288, 265, 363, 381, 330, 346, 276, 301, 315, 401, 410, 4, 506, 532, 553, 787, 845, 871, 904, 696, 714, 730, 755, 933, 938, 942, 972, 962, 967, 947, 952, 957, 666, 593, 822, 833, 631, 645, 661, 624, 508, 534, 555, 789, 847, 873, 906, 698, 716, 732, 757, 935, 940, 944, 974, 964, 969, 949, 954, 959, 668, 595, 824, 835, 633, 647, 663, 626, 14, 117, 0, 0]
def pt_skw : List (Nat × Nat) := [(66, 5), (186, 12), (440, 25), (549, 28), (551, 28), (766, 34), (865, 34), (949, 34), (988, 34), (995, 34), (997, 34), (1092, 37), (1213, 37), (1215, 37), (1209, 37), (1211, 37), (1162, 37), (1169, 37), (1194, 37), (1196, 37), (1114, 37), (1187, 37), (1274, 39), (1392, 39)]
def pt_inw : List (Nat × Nat) := [(4, 41), (7, 51), (7, 115), (3, 147), (6, 165), (5, 199), (3, 742), (12, 764), (3, 836), (8, 1090), (44, 1571), (4, 57), (3, 174), (4, 565), (6, 278), (6, 355), (6, 699), (6, 1245), (0, 0), (0, 0)]
def pt_aow : List Nat := [49, 121, 172, 935]
def pt_sew : List Nat := [321, 363, 472, 736, 1253, 1297, 1568, 679, 683, 707, 735, 975, 978, 641, 642, 643, 593, 2066, 2067, 2068, 2074, 2072, 2073, 2069, 2070, 2071]
def pt_ncw : List (Nat × Nat × Nat) := [(0, 1, 453), (0, 2, 474), (0, 3, 493), (1, 0, 432), (1, 2, 475), (1, 3, 494), (2, 0, 436), (2, 1, 457), (2, 3, 498), (3, 0, 443), (3, 1, 464), (3, 2, 483)]
def pt_apw : List Nat := [226, 230, 235, 241, 223, 249, 258, 291, 268, 366, 384, 333, 349, 279, 304, 318, 232, 237, 243, 227, 251, 260, 293, 270, 368, 386, 335, 351, 281, 306, 320, 238, 244, 231, 252, 261, 294, 271, 369, 387, 336, 352, 282, 307, 321, 245, 236, 253, 262, 295, 272, 370, 388, 337, 353, 283, 308, 322, 242, 254, 263, 296, 273, 371, 389, 338, 354, 284, 309, 323, 250, 259, 292, 269, 367, 385, 334, 350, 280, 305, 319, 264, 297, 274, 372, 390, 339, 355, 285, 310, 324, 298, 275, 373, 391, 340, 356, 286, 311, 325, 299, 376, 394, 343, 359, 300, 314, 328, 374, 392, 341, 357, 287, 312, 326, 399, 379, 380, 375, 377, 378, 397, 398, 393, 395, 396, 362, 342, 344, 345, 358, 360, 361, 313, 327, 329]
def pt_tm (a : Nat) : Term := pt_tms.getD a (.arg 0)
def pt_K (xs : List Int32) : List pm_C := .inr (0, xs.map Value.int) :: pt_K1
def pt_lv : List Cond := flatC narrow_1
def pt_isI (v : Value) : Bool := match v with
  | .int _ => true
  | _ => false
def pt_els (tm : Term) : Nat → List Value → List Cond
  | _, [] => []
  | j, .int v :: r => .eq (.elem tm (.int (Int32.ofNat j))) (.int v) :: pt_els tm (j + 1) r
  | j, _ :: r => pt_els tm (j + 1) r
def pt_ar (tm : Term) (ty : FieldType) (vs : List Value) : List Cond := .arrayOf tm ty :: .eq (.length tm) (.int (Int32.ofNat vs.length)) :: pt_els tm 0 vs
/-- the premises that speak of constant a -/
def pt_xp (a : Nat) (x : pm_C) : List Cond := match x with
  | .inl (18, [.int o]) => [.exactly (pt_tm a) "OfficeSheet$ActKind", .eq (.field (pt_tm a) "java/lang/Enum" "ordinal" "I") (.int o)]
  | .inl (19, [.int o, .ref t]) => [.exactly (pt_tm a) "OfficeSheet$PartKind", .eq (.field (pt_tm a) "java/lang/Enum" "ordinal" "I") (.int o), .eq (.field (pt_tm a) "OfficeSheet$PartKind" "sign" "Ljava/lang/String;") (pt_tm t)]
  | .inl (13, [.ref _, .int c]) => [.exactly (pt_tm a) "java/lang/String", .eq (.field (pt_tm a) "java/lang/String" "coder" "B") (.int c)]
  | .inr (0, vs) => pt_ar (pt_tm a) .int vs
  | .inr (4, vs) => pt_ar (pt_tm a) .byte vs
  | .inr (13, []) => [.arrayOf (pt_tm a) (.object "java/lang/Object"), .exactly (pt_tm a) "[Ljava/lang/Object;", .eq (.length (pt_tm a)) (.int 0)]
  | _ => []
def pt_ok1 (a : Nat) (x : pm_C) : Bool := match x with
  | .inl (18, [.int _]) => true
  | .inl (19, [.int _, .ref t]) => decide (21 ≤ t ∧ t < 49)
  | .inl (13, [.ref b, .int _]) => decide (49 ≤ b ∧ b < 77) && decide (pt_tm b = .field (pt_tm a) "java/lang/String" "value" "[B")
  | .inr (0, vs) => vs.all pt_isI && decide (vs.length < 1000)
  | .inr (4, vs) => vs.all pt_isI && decide (vs.length < 1000)
  | .inr (13, []) => true
  | .inr (9, []) => pm_opq a
  | _ => false
def pt_seg (k : Nat) (ws : List Cond) : Bool := decide ((pt_lv.drop k).take ws.length = ws)
set_option maxRecDepth 100000 in
theorem pt_kS : (List.range 80).all (fun i => pt_ok1 (i + 1) (pt_K1.getD i (.inr (9, []))) && pt_seg (pt_pos.getD i 0) (pt_xp (i + 1) (pt_K1.getD i (.inr (9, []))))) = true := by decide +kernel
section START
variable {args : Array Value} {s : State}
theorem pt_lvs {k : Nat} {ws : List Cond} {w : Cond} (hgv : (Jvm.Cond.and given_1 narrow_1).before args s = true) (h : pt_seg k ws = true) (hw : w ∈ ws) : w.before args s = true := by
  have h1 : narrow_1.before args s = true := by
    rw [Cond.before_and, Bool.and_eq_true] at hgv
    exact hgv.2
  have h2 := of_decide_eq_true h
  refine flat_of_before narrow_1 h1 w ?_
  have h3 : w ∈ (pt_lv.drop k).take ws.length := by rw [h2]; exact hw
  exact List.mem_of_mem_drop (List.mem_of_mem_take h3)
/-- a premise by its place -/
def pt_l1 (k : Nat) (w : Cond) : Bool := decide (pt_lv[k]? = some w)
theorem pt_lv1 {k : Nat} {w : Cond} (hgv : (Jvm.Cond.and given_1 narrow_1).before args s = true) (h : pt_l1 k w = true) : w.before args s = true := by
  have h1 : narrow_1.before args s = true := by
    rw [Cond.before_and, Bool.and_eq_true] at hgv
    exact hgv.2
  exact flat_of_before narrow_1 h1 w (List.mem_of_getElem? (of_decide_eq_true h))
def pm_ci (s : State) (C : String) : ClassId := (s.vm.findClass C).getD 0
theorem pm_ci_of {C : String} {c : ClassId} (h : s.vm.findClass C = some c) : pm_ci s C = c := by
  unfold pm_ci
  rw [h]
  rfl
def pm_sl (s : State) (C n d : String) : Nat := match s.fieldFound? C n d with
  | some (_, _, _, f) => f.slot
  | none => 0
theorem pm_sl_of {C n d : String} {cf : ClassId} {kf : Class} {fi : Nat} {f : Field} (h : s.fieldFound? C n d = some (cf, kf, fi, f)) : pm_sl s C n d = f.slot := by
  unfold pm_sl
  rw [h]
theorem pm_sl_is {C n d : String} {i : Nat} (h : SlotIs s C n d i) : SlotIs s C n d (pm_sl s C n d) := by
  obtain ⟨cf, kf, fi, fd, hi, hs⟩ := h
  exact ⟨cf, kf, fi, fd, hi, (pm_sl_of hi).symm⟩
def pm_ad (args : Array Value) (s : State) (t : Term) : Nat := match t.eval args s none [] s with
  | some (.ref a) => a
  | _ => 0
theorem pm_ad_of {t : Term} {a : Nat} (h : t.eval args s none [] s = some (.ref a)) : pm_ad args s t = a := by
  unfold pm_ad
  rw [h]
theorem pm_fld {t : Term} {C n d : String} {v : Value} {a : Nat} (ht : t.eval args s none [] s = some (.ref a)) (hv : (Term.field t C n d).eval args s none [] s = some v) : pm_En C n d (pm_sl s C n d) s ∧ ∃ cell, s.heap[a]? = some cell ∧ cell.vm ≠ .unknown ∧ cell.vm.isStatics = false ∧ cell.slots[pm_sl s C n d]? = some v := by
  cases hfo : s.fieldFound? C n d with
  | none =>
    rw [va_fe ht] at hv
    simp [State.fieldOf?, State.fieldNamed?, hfo] at hv
  | some x =>
    obtain ⟨cf, k, fi, f⟩ := x
    obtain ⟨g1, cell, g2, g3, g4, -, g6⟩ := Term.field_spec hfo ht hv
    rw [pm_sl_of hfo]
    exact ⟨⟨cf, k, fi, f, hfo, g1, rfl⟩, cell, g2, g3, g4, g6⟩
theorem pm_lenx {t : Term} {N : Nat} (hN : N < 2 ^ 31) (h : (Term.length t).eval args s none [] s = some (.int (Int32.ofNat N))) : ∃ a cell, t.eval args s none [] s = some (.ref a) ∧ s.arrayAt? a = some cell ∧ cell.slots.size = N := by
  simp only [Term.eval, Option.bind_eq_bind] at h
  cases ht : t.eval args s none [] s with
  | none => simp [ht] at h
  | some x =>
    cases x <;> simp [ht] at h
    case ref a =>
      obtain ⟨cell, hcell, h⟩ := Option.bind_eq_some_iff.mp h
      by_cases hn : cell.slots.size < 2147483648
      · rw [if_pos hn] at h
        have h1 : cell.slots.size.toInt32 = Int32.ofNat N := Value.int.inj (Option.some.inj h)
        have h2 : (Int32.ofNat cell.slots.size).toNatClampNeg = (Int32.ofNat N).toNatClampNeg := congrArg Int32.toNatClampNeg h1
        rw [Int32.toNatClampNeg_ofNat_of_lt hn, Int32.toNatClampNeg_ofNat_of_lt hN] at h2
        exact ⟨a, cell, rfl, hcell, h2⟩
      · rw [if_neg hn] at h; cases h
theorem pt_els_in (tm : Term) : ∀ (vs : List Value) (k j : Nat) (v : Int32), vs[j]? = some (.int v) → Cond.eq (.elem tm (.int (Int32.ofNat (k + j)))) (.int v) ∈ pt_els tm k vs := by
  intro vs
  induction vs with
  | nil => intro k j v h; cases h
  | cons x r ih =>
    intro k j v h
    cases j with
    | zero =>
      cases h
      exact List.mem_cons_self
    | succ j =>
      have h2 := ih (k + 1) j v h
      have e : k + 1 + j = k + (j + 1) := by omega
      rw [e] at h2
      cases x <;> first | exact List.mem_cons_of_mem _ h2 | exact h2
/-- an array of numbers -/
theorem pm_arrc {tm : Term} {ty : FieldType} {vs : List Value} (hall : vs.all pt_isI = true) (hlen : vs.length < 1000) (h : ∀ w ∈ pt_ar tm ty vs, w.before args s = true) :
    ∃ a cell, tm.eval args s none [] s = some (.ref a) ∧ s.heap[a]? = some cell ∧ s.isArrayOf cell ty ∧ cell.vm ≠ .unknown ∧ cell.vm.isStatics = false ∧ cell.slots = vs.toArray := by
  have harr := h _ List.mem_cons_self
  have hl := va_eqt (h _ (List.mem_cons_of_mem _ List.mem_cons_self))
  obtain ⟨a, cell, ht, hat, hsz⟩ := pm_lenx (by omega) hl
  obtain ⟨hcell, hkn, hst, -⟩ := State.arrayAt?_spec hat
  obtain ⟨hof, -⟩ := Cond.arrayOf_spec harr ht hcell
  refine ⟨a, cell, ht, hcell, hof, hkn, hst, ?_⟩
  apply Array.ext_getElem?
  intro j
  by_cases hj : j < vs.length
  · have hv := List.getElem?_eq_getElem hj
    have hi : pt_isI vs[j] = true := List.all_eq_true.mp hall _ (List.getElem_mem hj)
    cases hx : vs[j] with
    | int v =>
      rw [hx] at hv
      have he := va_eqt (h _ (List.mem_cons_of_mem _ (List.mem_cons_of_mem _ (pt_els_in tm vs 0 j v hv))))
      rw [Nat.zero_add] at he
      obtain ⟨a2, i, cell2, h1, h2, h3, h4, h5⟩ := Term.elem_spec he
      cases ht.symm.trans h1
      cases hat.symm.trans h3
      have hi2 : i = Int32.ofNat j := by
        have e : (Term.int (Int32.ofNat j)).eval args s none [] s = some (.int (Int32.ofNat j)) := rfl
        cases h2.symm.trans e
        rfl
      have hc : i.toNatClampNeg = j := by rw [hi2]; exact Int32.toNatClampNeg_ofNat_of_lt (by omega)
      rw [hc] at h5
      rw [h5]
      simp [hv]
    | _ => rw [hx] at hi; cases hi
  · rw [Array.getElem?_eq_none (by omega)]
    simp only [List.getElem?_toArray]
    rw [List.getElem?_eq_none (by omega)]
/-- the class's fields as the start has them -/
def pt_f (ci k : Nat) : String × String × String := (fun q => (q.1, q.2.1, q.2.2.1)) (((pt_cl[ci]?).getD ("", pt_T0, 0)).2.1 k)
def pt_D (s : State) : pm_D := ((fun ci => pm_ci s (pt_clN ci), fun ci k => if ci = 18 then pm_sl s "java/lang/Enum" "ordinal" "I" else if ci = 19 then (if k = 0 then pm_sl s "java/lang/Enum" "ordinal" "I" else pm_sl s "OfficeSheet$PartKind" "sign" "Ljava/lang/String;") else pm_sl s (pt_f ci k).1 (pt_f ci k).2.1 (pt_f ci k).2.2),
  fun c ty => pm_prim ty ∧ ∃ (k : Class) (comp : ClassId), s.vm.classes[c]? = some k ∧ k.kind = .array comp ty)
def pt_an (t : Nat) : String := match t with
  | 0 => "[I"
  | 1 => "[J"
  | 3 => "[Z"
  | 4 => "[B"
  | t => "[" ++ (FieldType.object (pt_tn t)).toString
def pt_A (s : State) (t : Nat) : ClassId := pm_ci s (pt_an t)
def pt_mu (args : Array Value) (s : State) (a : Nat) : Nat := if a < 81 then pm_ad args s (pt_tm a) else s.heap.size + (a - 81)
theorem pt_mu_lt {a : Nat} (h : a < 81) : pt_mu args s a = pm_ad args s (pt_tm a) := if_pos h
theorem pt_mu_of {a q : Nat} (h : a < 81) (ht : (pt_tm a).eval args s none [] s = some (.ref q)) : pt_mu args s a = q := by
  rw [pt_mu_lt h]
  exact pm_ad_of ht
theorem pm_eqr {t u : Term} {v : Value} {q : Nat} (h : (Cond.eq t u).before args s = true) (hu : u.eval args s none [] s = some (.ref q)) : t.eval args s none [] s = some (.ref q) := by
  cases hv : t.eval args s none [] s with
  | none => simp [Cond.before, Cond.holds, Cond.value, hv] at h
  | some w =>
    simp only [Cond.before, Cond.holds, Cond.value, hv, hu] at h
    cases w <;> simp_all
theorem pm_allI {mu : Nat → Nat} : ∀ {vs : List Value}, vs.all pt_isI = true → vs.map (pm_v mu) = vs := by
  intro vs
  induction vs with
  | nil => intro _; rfl
  | cons x r ih =>
    intro h
    simp only [List.all_cons, Bool.and_eq_true] at h
    rw [List.map_cons, ih h.2]
    cases x <;> first | rfl | (exact absurd h.1 (by simp [pt_isI]))
/-- a text's words: where it lies, and its bytes -/
theorem pt_text {a b : Nat} {c : Int32} (ha : a < 81) (hb : b < 81) (hbt : pt_tm b = .field (pt_tm a) "java/lang/String" "value" "[B") (hbe : ∃ q, (pt_tm b).eval args s none [] s = some (.ref q)) (h : ∀ w ∈ pt_xp a (.inl (13, [.ref b, .int c])), w.before args s = true) : pm_at (pt_D s) pt_cl (pt_tys (pt_A s)) (pt_mu args s) 81 a (.inl (13, [.ref b, .int c])) s.heap := by
  have h1 := h _ List.mem_cons_self
  have h2 := va_eqt (h _ (List.mem_cons_of_mem _ List.mem_cons_self))
  obtain ⟨q, c0, cell, kA, q1, q2, q3, q4, q5, q6, -⟩ := Cond.exactly_spec (args := args) (first := s) (o := none) (s := s) (idx := []) h1
  obtain ⟨-, cell2, k1, k2, k3, k4⟩ := pm_fld q1 h2
  cases q3.symm.trans k1
  obtain ⟨qb, hqb⟩ := hbe
  have hqb2 := hqb
  rw [hbt] at hqb2
  obtain ⟨-, cell3, m1, m2, m3, m4⟩ := pm_fld q1 hqb2
  cases q3.symm.trans m1
  refine ⟨("java/lang/String", pt_T13, 4), cell, rfl, fun z => absurd ha (by omega), by rw [pt_mu_of ha q1]; exact q3, ?_, k2, q5, fun z => absurd ha (by omega), ?_⟩
  · rw [q6]; exact (pm_ci_of q2).symm
  · intro k v hv
    match k with
    | 0 =>
      cases hv
      show cell.slots[pm_sl s "java/lang/String" "value" "[B"]? = some (.ref (pt_mu args s b))
      rw [pt_mu_of hb hqb]
      exact m4
    | 1 =>
      cases hv
      exact k4
    | k + 2 => cases hv
end START
