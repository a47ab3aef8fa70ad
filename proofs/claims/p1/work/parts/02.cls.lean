/-! THE TABLES of the pure machine (by program out of the Statement): classes, methods -/
def pt_T0 : u_T := fun k => match k with
  | 0 => ("OfficeSheet", "offices", "[LOfficeSheet$Office;", true)
  | 1 => ("OfficeSheet", "reader", "LOfficeSheet$Reader;", true)
  | 2 => ("OfficeSheet", "calculator", "LOfficeSheet$Calculator;", true)
  | _ => ("OfficeSheet", "writer", "LOfficeSheet$Writer;", true)
def pt_T1 : u_T := fun k => match k with
  | 0 => ("OfficeSheet$Reader", "draft", "Ljava/lang/StringBuilder;", true)
  | 1 => ("OfficeSheet$Reader", "starts", "[I", true)
  | 2 => ("OfficeSheet$Reader", "tokens", "I", false)
  | 3 => ("OfficeSheet$Reader", "token", "I", false)
  | 4 => ("OfficeSheet$Reader", "fault", "I", false)
  | 5 => ("OfficeSheet$Reader", "rows", "LOfficeSheet$Axis;", false)
  | _ => ("OfficeSheet$Reader", "columns", "LOfficeSheet$Axis;", false)
def pt_T2 : u_T := fun k => match k with
  | 0 => ("OfficeSheet$Calculator", "cells", "[LOfficeSheet$Act;", true)
  | 1 => ("OfficeSheet$Calculator", "results", "[J", true)
  | 2 => ("OfficeSheet$Calculator", "settled", "[Z", true)
  | 3 => ("OfficeSheet$Calculator", "filled", "I", false)
  | 4 => ("OfficeSheet$Calculator", "rows", "LOfficeSheet$Axis;", false)
  | 5 => ("OfficeSheet$Calculator", "columns", "LOfficeSheet$Axis;", false)
  | _ => ("OfficeSheet$Calculator", "early", "Z", false)
def pt_T3 : u_T := fun k => match k with
  | 0 => ("OfficeSheet$Writer", "text", "Ljava/lang/StringBuilder;", true)
  | 1 => ("OfficeSheet$Writer", "rows", "LOfficeSheet$Axis;", false)
  | _ => ("OfficeSheet$Writer", "columns", "LOfficeSheet$Axis;", false)
def pt_T4 : u_T := fun k => match k with
  | 0 => ("OfficeSheet$Office", "name", "I", true)
  | 1 => ("OfficeSheet$Office", "known", "[I", true)
  | 2 => ("OfficeSheet$Office", "acts", "[LOfficeSheet$Act;", true)
  | 3 => ("OfficeSheet$Office", "axes", "[LOfficeSheet$Axis;", true)
  | 4 => ("OfficeSheet$Office", "writes", "Ljava/util/ArrayList;", true)
  | _ => ("OfficeSheet$Office", "clock", "I", false)
def pt_T5 : u_T := fun k => match k with
  | 0 => ("OfficeSheet$Axis", "order", "Ljava/util/ArrayList;", true)
  | 1 => ("OfficeSheet$Axis", "shown", "Ljava/util/ArrayList;", true)
  | 2 => ("OfficeSheet$Axis", "latestOfPlace", "[LOfficeSheet$Act;", true)
  | 3 => ("OfficeSheet$Axis", "latestOfBeing", "[LOfficeSheet$Act;", true)
  | _ => ("OfficeSheet$Axis", "shownAs", "[I", true)
def pt_T6 : u_T := fun k => match k with
  | 0 => ("OfficeSheet$Line", "kind", "I", true)
  | 1 => ("OfficeSheet$Line", "told", "I", true)
  | _ => ("OfficeSheet$Line", "index", "I", true)
def pt_T7 : u_T := fun k => match k with
  | 0 => ("OfficeSheet$Act", "kind", "LOfficeSheet$ActKind;", true)
  | 1 => ("OfficeSheet$Act", "maker", "I", true)
  | 2 => ("OfficeSheet$Act", "number", "I", true)
  | 3 => ("OfficeSheet$Act", "stamp", "I", true)
  | 4 => ("OfficeSheet$Act", "past", "[I", true)
  | 5 => ("OfficeSheet$Act", "line", "LOfficeSheet$Line;", false)
  | 6 => ("OfficeSheet$Act", "place", "LOfficeSheet$Place;", false)
  | 7 => ("OfficeSheet$Act", "placeBefore", "LOfficeSheet$Place;", false)
  | 8 => ("OfficeSheet$Act", "row", "LOfficeSheet$Line;", false)
  | 9 => ("OfficeSheet$Act", "column", "LOfficeSheet$Line;", false)
  | 10 => ("OfficeSheet$Act", "content", "LOfficeSheet$Part;", false)
  | _ => ("OfficeSheet$Act", "contentBefore", "LOfficeSheet$Part;", false)
def pt_T8 : u_T := fun k => match k with
  | 0 => ("OfficeSheet$Place", "line", "LOfficeSheet$Line;", true)
  | 1 => ("OfficeSheet$Place", "after", "LOfficeSheet$Place;", true)
  | _ => ("OfficeSheet$Place", "stamp", "I", true)
def pt_T9 : u_T := fun k => match k with
  | 0 => ("OfficeSheet$Part", "kind", "LOfficeSheet$PartKind;", true)
  | 1 => ("OfficeSheet$Part", "left", "LOfficeSheet$Part;", true)
  | 2 => ("OfficeSheet$Part", "right", "LOfficeSheet$Part;", true)
  | 3 => ("OfficeSheet$Part", "number", "J", false)
  | 4 => ("OfficeSheet$Part", "row", "LOfficeSheet$Line;", false)
  | 5 => ("OfficeSheet$Part", "column", "LOfficeSheet$Line;", false)
  | 6 => ("OfficeSheet$Part", "rowTo", "LOfficeSheet$Line;", false)
  | _ => ("OfficeSheet$Part", "columnTo", "LOfficeSheet$Line;", false)
def pt_T10 : u_T := fun k => match k with
  | 0 => ("OfficeSheetModel", "thrown", "I", false)
  | 1 => ("OfficeSheetModel", "what", "[I", true)
  | 2 => ("OfficeSheetModel", "kind", "[I", true)
  | 3 => ("OfficeSheetModel", "stamp", "[I", true)
  | 4 => ("OfficeSheetModel", "past", "[I", true)
  | 5 => ("OfficeSheetModel", "line", "[I", true)
  | 6 => ("OfficeSheetModel", "column", "[I", true)
  | 7 => ("OfficeSheetModel", "place", "[I", true)
  | 8 => ("OfficeSheetModel", "after", "[I", true)
  | 9 => ("OfficeSheetModel", "placeBefore", "[I", true)
  | 10 => ("OfficeSheetModel", "content", "[I", true)
  | 11 => ("OfficeSheetModel", "contentBefore", "[I", true)
  | 12 => ("OfficeSheetModel", "formula", "[Z", true)
  | 13 => ("OfficeSheetModel", "parts", "[I", true)
  | 14 => ("OfficeSheetModel", "part", "[I", true)
  | 15 => ("OfficeSheetModel", "arg", "[I", true)
  | 16 => ("OfficeSheetModel", "taken", "[I", true)
  | 17 => ("OfficeSheetModel", "top", "[I", true)
  | 18 => ("OfficeSheetModel", "waits", "[Z", true)
  | 19 => ("OfficeSheetModel", "shown", "[I", true)
  | 20 => ("OfficeSheetModel", "count", "[I", true)
  | 21 => ("OfficeSheetModel", "text", "[I", true)
  | 22 => ("OfficeSheetModel", "size", "I", false)
  | 23 => ("OfficeSheetModel", "at", "I", false)
  | 24 => ("OfficeSheetModel", "start", "I", false)
  | 25 => ("OfficeSheetModel", "token", "I", false)
  | 26 => ("OfficeSheetModel", "number", "I", false)
  | 27 => ("OfficeSheetModel", "reference", "I", false)
  | 28 => ("OfficeSheetModel", "pile", "[I", true)
  | 29 => ("OfficeSheetModel", "piled", "I", false)
  | 30 => ("OfficeSheetModel", "open", "I", false)
  | 31 => ("OfficeSheetModel", "worked", "I", false)
  | 32 => ("OfficeSheetModel", "cells", "I", false)
  | 33 => ("OfficeSheetModel", "cellRow", "[I", true)
  | 34 => ("OfficeSheetModel", "cellColumn", "[I", true)
  | 35 => ("OfficeSheetModel", "cellAct", "[I", true)
  | 36 => ("OfficeSheetModel", "level", "[I", true)
  | 37 => ("OfficeSheetModel", "value", "[J", true)
  | 38 => ("OfficeSheetModel", "stack", "[J", true)
  | 39 => ("OfficeSheetModel", "outSize", "I", false)
  | 40 => ("OfficeSheetModel", "out", "[I", true)
  | 41 => ("OfficeSheetModel", "width", "[I", true)
  | 42 => ("OfficeSheetModel", "tasks", "[I", true)
  | _ => ("OfficeSheetModel", "due", "I", false)
def pt_T11 : u_T := fun k => match k with
  | 0 => ("java/lang/AbstractStringBuilder", "value", "[B", false)
  | 1 => ("java/lang/AbstractStringBuilder", "coder", "B", false)
  | 2 => ("java/lang/AbstractStringBuilder", "maybeLatin1", "Z", false)
  | _ => ("java/lang/AbstractStringBuilder", "count", "I", false)
def pt_T12 : u_T := fun k => match k with
  | 0 => ("java/util/ArrayList", "elementData", "[Ljava/lang/Object;", false)
  | 1 => ("java/util/ArrayList", "size", "I", false)
  | _ => ("java/util/AbstractList", "modCount", "I", false)
def pt_T13 : u_T := fun k => match k with
  | 0 => ("java/lang/String", "value", "[B", true)
  | 1 => ("java/lang/String", "coder", "B", true)
  | 2 => ("java/lang/String", "hash", "I", false)
  | _ => ("java/lang/String", "hashIsZero", "Z", false)
def pt_T14 : u_T := fun k => match k with
  | _ => ("", "", "", false)
def pt_T15 : u_T := fun k => match k with
  | _ => ("", "", "", false)
def pt_T16 : u_T := fun k => match k with
  | _ => ("", "", "", false)
def pt_T17 : u_T := fun k => match k with
  | _ => ("", "", "", false)
def pt_T18 : u_T := fun k => match k with
  | _ => ("", "", "", false)
def pt_T19 : u_T := fun k => match k with
  | _ => ("", "", "", false)
abbrev pt_cl : List vw_C := [("OfficeSheet", pt_T0, 4), ("OfficeSheet$Reader", pt_T1, 7), ("OfficeSheet$Calculator", pt_T2, 7), ("OfficeSheet$Writer", pt_T3, 3), ("OfficeSheet$Office", pt_T4, 6), ("OfficeSheet$Axis", pt_T5, 5), ("OfficeSheet$Line", pt_T6, 3), ("OfficeSheet$Act", pt_T7, 12), ("OfficeSheet$Place", pt_T8, 3), ("OfficeSheet$Part", pt_T9, 8), ("OfficeSheetModel", pt_T10, 44), ("java/lang/StringBuilder", pt_T11, 4), ("java/util/ArrayList", pt_T12, 3), ("java/lang/String", pt_T13, 4), ("java/lang/IllegalArgumentException", pt_T14, 0), ("java/lang/IllegalStateException", pt_T15, 0), ("java/lang/IndexOutOfBoundsException", pt_T16, 0), ("java/lang/UnsupportedOperationException", pt_T17, 0), ("OfficeSheet$ActKind", pt_T18, 0), ("OfficeSheet$PartKind", pt_T19, 0)]
def pt_ft0 : Nat → FieldType := fun k => match k with
  | 0 => .array (.object "OfficeSheet$Office")
  | 1 => .object "OfficeSheet$Reader"
  | 2 => .object "OfficeSheet$Calculator"
  | _ => .object "OfficeSheet$Writer"
def pt_ft1 : Nat → FieldType := fun k => match k with
  | 0 => .object "java/lang/StringBuilder"
  | 1 => .array .int
  | 2 => .int
  | 3 => .int
  | 4 => .int
  | 5 => .object "OfficeSheet$Axis"
  | _ => .object "OfficeSheet$Axis"
def pt_ft2 : Nat → FieldType := fun k => match k with
  | 0 => .array (.object "OfficeSheet$Act")
  | 1 => .array .long
  | 2 => .array .boolean
  | 3 => .int
  | 4 => .object "OfficeSheet$Axis"
  | 5 => .object "OfficeSheet$Axis"
  | _ => .boolean
def pt_ft3 : Nat → FieldType := fun k => match k with
  | 0 => .object "java/lang/StringBuilder"
  | 1 => .object "OfficeSheet$Axis"
  | _ => .object "OfficeSheet$Axis"
def pt_ft4 : Nat → FieldType := fun k => match k with
  | 0 => .int
  | 1 => .array .int
  | 2 => .array (.object "OfficeSheet$Act")
  | 3 => .array (.object "OfficeSheet$Axis")
  | 4 => .object "java/util/ArrayList"
  | _ => .int
def pt_ft5 : Nat → FieldType := fun k => match k with
  | 0 => .object "java/util/ArrayList"
  | 1 => .object "java/util/ArrayList"
  | 2 => .array (.object "OfficeSheet$Act")
  | 3 => .array (.object "OfficeSheet$Act")
  | _ => .array .int
def pt_ft6 : Nat → FieldType := fun k => match k with
  | 0 => .int
  | 1 => .int
  | _ => .int
def pt_ft7 : Nat → FieldType := fun k => match k with
  | 0 => .object "OfficeSheet$ActKind"
  | 1 => .int
  | 2 => .int
  | 3 => .int
  | 4 => .array .int
  | 5 => .object "OfficeSheet$Line"
  | 6 => .object "OfficeSheet$Place"
  | 7 => .object "OfficeSheet$Place"
  | 8 => .object "OfficeSheet$Line"
  | 9 => .object "OfficeSheet$Line"
  | 10 => .object "OfficeSheet$Part"
  | _ => .object "OfficeSheet$Part"
def pt_ft8 : Nat → FieldType := fun k => match k with
  | 0 => .object "OfficeSheet$Line"
  | 1 => .object "OfficeSheet$Place"
  | _ => .int
def pt_ft9 : Nat → FieldType := fun k => match k with
  | 0 => .object "OfficeSheet$PartKind"
  | 1 => .object "OfficeSheet$Part"
  | 2 => .object "OfficeSheet$Part"
  | 3 => .long
  | 4 => .object "OfficeSheet$Line"
  | 5 => .object "OfficeSheet$Line"
  | 6 => .object "OfficeSheet$Line"
  | _ => .object "OfficeSheet$Line"
def pt_ft10 : Nat → FieldType := fun k => match k with
  | 0 => .int
  | 1 => .array .int
  | 2 => .array .int
  | 3 => .array .int
  | 4 => .array .int
  | 5 => .array .int
  | 6 => .array .int
  | 7 => .array .int
  | 8 => .array .int
  | 9 => .array .int
  | 10 => .array .int
  | 11 => .array .int
  | 12 => .array .boolean
  | 13 => .array .int
  | 14 => .array .int
  | 15 => .array .int
  | 16 => .array .int
  | 17 => .array .int
  | 18 => .array .boolean
  | 19 => .array .int
  | 20 => .array .int
  | 21 => .array .int
  | 22 => .int
  | 23 => .int
  | 24 => .int
  | 25 => .int
  | 26 => .int
  | 27 => .int
  | 28 => .array .int
  | 29 => .int
  | 30 => .int
  | 31 => .int
  | 32 => .int
  | 33 => .array .int
  | 34 => .array .int
  | 35 => .array .int
  | 36 => .array .int
  | 37 => .array .long
  | 38 => .array .long
  | 39 => .int
  | 40 => .array .int
  | 41 => .array .int
  | 42 => .array .int
  | _ => .int
def pt_ft11 : Nat → FieldType := fun k => match k with
  | 0 => .array .byte
  | 1 => .byte
  | 2 => .boolean
  | _ => .int
def pt_ft12 : Nat → FieldType := fun k => match k with
  | 0 => .array (.object "java/lang/Object")
  | 1 => .int
  | _ => .int
def pt_ft13 : Nat → FieldType := fun k => match k with
  | 0 => .array .byte
  | 1 => .byte
  | 2 => .int
  | _ => .boolean
def pt_ft14 : Nat → FieldType := fun k => match k with
  | _ => .int
def pt_ft15 : Nat → FieldType := fun k => match k with
  | _ => .int
def pt_ft16 : Nat → FieldType := fun k => match k with
  | _ => .int
def pt_ft17 : Nat → FieldType := fun k => match k with
  | _ => .int
def pt_ft18 : Nat → FieldType := fun k => match k with
  | _ => .int
def pt_ft19 : Nat → FieldType := fun k => match k with
  | _ => .int
def pt_ft (ci k : Nat) : FieldType := match ci with
  | 0 => pt_ft0 k
  | 1 => pt_ft1 k
  | 2 => pt_ft2 k
  | 3 => pt_ft3 k
  | 4 => pt_ft4 k
  | 5 => pt_ft5 k
  | 6 => pt_ft6 k
  | 7 => pt_ft7 k
  | 8 => pt_ft8 k
  | 9 => pt_ft9 k
  | 10 => pt_ft10 k
  | 11 => pt_ft11 k
  | 12 => pt_ft12 k
  | 13 => pt_ft13 k
  | 14 => pt_ft14 k
  | 15 => pt_ft15 k
  | 16 => pt_ft16 k
  | 17 => pt_ft17 k
  | 18 => pt_ft18 k
  | _ => pt_ft19 k
theorem pm_all2 {α : Type} {l : List α} {p : α → Bool} (n : Nat) (h1 : (l.take n).all p = true) (h2 : (l.drop n).all p = true) : l.all p = true := by
  rw [← List.take_append_drop n l, List.all_append, h1, h2]
  rfl
