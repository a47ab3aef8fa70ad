/-! A NEW OBJECT of the class and of the reference: their cells, by running the constructors -/
def pt_K9h : List pm_C := .inr (9, []) :: pt_K1
def pt_X0 : pm_C := .inl (0, [.null, .null, .null, .null])
def pt_Y0 : pm_C := .inl (10, [.int 0, .null, .null, .null, .null, .null, .null, .null, .null, .null, .null, .null, .null, .null, .null, .null, .null, .null, .null, .null, .null, .null, .int 0, .int 0, .int 0, .int 0, .int 0, .int 0, .null, .int 0, .int 0, .int 0, .int 0, .null, .null, .null, .null, .null, .null, .int 0, .null, .null, .null, .int 0])
/-- an office's cells: its number, its first cell -/
def pt_fO (o : Int32) (b : Nat) : List pm_C := [.inl (4, [.int o, .ref (b + 1), .ref (b + 2), .ref (b + 3), .ref (b + 4), .int 0]),
  .inr (0, [.int 0, .int 0, .int 0]),
  .inr (11, List.replicate 120 .null),
  .inr (12, [.ref (b + 5), .ref (b + 11)]),
  .inl (12, [.ref 20, .int 0, .int 0]),
  .inl (5, [.ref (b + 6), .ref (b + 7), .ref (b + 8), .ref (b + 9), .ref (b + 10)]),
  .inl (12, [.ref 20, .int 0, .int 0]),
  .inl (12, [.ref 20, .int 0, .int 0]),
  .inr (11, List.replicate 120 .null),
  .inr (11, List.replicate 120 .null),
  .inr (0, List.replicate 120 (.int (-1))),
  .inl (5, [.ref (b + 12), .ref (b + 13), .ref (b + 14), .ref (b + 15), .ref (b + 16)]),
  .inl (12, [.ref 20, .int 0, .int 0]),
  .inl (12, [.ref 20, .int 0, .int 0]),
  .inr (11, List.replicate 120 .null),
  .inr (11, List.replicate 120 .null),
  .inr (0, List.replicate 120 (.int (-1)))]
/-- the class's cells: 81 to 144 -/
def pt_fA : List pm_C := [.inl (0, [.ref 82, .ref 83, .ref 87, .ref 91]),
  .inr (10, [.ref 94, .ref 111, .ref 128]),
  .inl (1, [.ref 84, .ref 86, .int 0, .int 0, .int (-1), .null, .null]),
  .inl (11, [.ref 85, .int 0, .int 0, .int 0]),
  .inr (4, List.replicate 16 (.int 0)),
  .inr (0, List.replicate 22 (.int 0)),
  .inl (2, [.ref 88, .ref 89, .ref 90, .int 0, .null, .null, .int 0]),
  .inr (11, List.replicate 120 .null),
  .inr (1, List.replicate 120 (.long 0)),
  .inr (3, List.replicate 120 (.int 0)),
  .inl (3, [.ref 92, .null, .null]),
  .inl (11, [.ref 93, .int 0, .int 0, .int 0]),
  .inr (4, List.replicate 16 (.int 0))] ++ (pt_fO 0 94 ++ (pt_fO 1 111 ++ pt_fO 2 128))
def pt_fM (n : Nat) : pm_C := .inr (0, List.replicate n (.int 0))
/-- the reference's cells: 145 to 176 -/
def pt_fB : List pm_C := [.inl (10, [.int 0, .ref 146, .ref 147, .ref 148, .ref 149, .ref 150, .ref 151, .ref 152, .ref 153, .ref 154, .ref 155, .ref 156, .ref 157, .ref 158, .ref 159, .ref 160, .ref 161, .ref 162, .ref 163, .ref 164, .ref 165, .ref 166, .int 0, .int 0, .int 0, .int 0, .int 0, .int 0, .ref 167, .int 0, .int 0, .int (-1), .int 0, .ref 168, .ref 169, .ref 170, .ref 171, .ref 172, .ref 173, .int 0, .ref 174, .ref 175, .ref 176, .int 0]),
  pt_fM 120, pt_fM 120, pt_fM 120, pt_fM 360, pt_fM 120, pt_fM 120, pt_fM 120, pt_fM 120, pt_fM 120, pt_fM 120, pt_fM 120, .inr (3, List.replicate 120 (.int 0)), pt_fM 120, pt_fM 2400, pt_fM 2400, pt_fM 9, pt_fM 3, .inr (3, List.replicate 360 (.int 0)), pt_fM 720, pt_fM 6, pt_fM 20, pt_fM 24, pt_fM 120, pt_fM 120, pt_fM 120, pt_fM 120, .inr (1, List.replicate 120 (.long 0)), .inr (1, List.replicate 24 (.long 0)), pt_fM 120, pt_fM 20, pt_fM 80]
def pt_fF : List pm_C := pt_fA ++ (pt_fB ++ [.inr (1, [.long 0])])
def pt_isV (o : tm_L) (h : pm_H) : Bool := match o with
  | some (.inl none, g) => decide (g = h)
  | _ => false
theorem pt_isV_eq {o : tm_L} {h : pm_H} (e : pt_isV o h = true) : o = some (.inl none, h) := by
  unfold pt_isV at e
  split at e
  · rw [of_decide_eq_true e]
  · cases e
set_option maxRecDepth 1000000 in
theorem pt_nwA : ll_1 (some 81) (pt_K9h ++ [pt_X0], 4) = some (.inl none, (pt_K9h ++ pt_fA, 3074)) := pt_isV_eq (by decide +kernel)
set_option maxRecDepth 1000000 in
theorem pt_nwB : ll_234 (some 145) (pt_K9h ++ (pt_fA ++ [pt_Y0]), 3118) = some (.inl none, (pt_K9h ++ (pt_fA ++ pt_fB), 11704)) := pt_isV_eq (by decide +kernel)
theorem pt_hdK {l : List pm_C} {n : Nat} : pm_hd (pt_K9h ++ l, n) := rfl
theorem pt_sbK {l : List pm_C} {n : Nat} (xs : List Int32) : pm_sb (0, xs.map Value.int) (pt_K9h ++ l, n) = (pt_K xs ++ l, n) := rfl
theorem tx_l {w : Option Nat} {D y : Nat} {as : List tm_V} {h : pm_H} {r : tm_O × pm_H} (hD : D ≤ 145) (e : tm_run pt_P (pt_G (tm_r w)) (0 + D) y as h r) : tx_R w y as h r := tm_dp (show 0 + D ≤ 145 by omega) e
/-- the script's cell may be any array -/
theorem tx_sb {w : Option Nat} {y : Nat} {as : List tm_V} {g g1 : pm_H} {o : tm_O} (c : Nat × List Value) (hd : pm_hd g) (e : tx_R w y as g (o, g1)) : tx_R w y as (pm_sb c g) (o, pm_sb c g1) ∧ pm_hd g1 := by
  obtain ⟨n, e⟩ := e
  have k := pm_sb_run c (show 0 < pt_P.1 by decide) n _ _ _ g g1 (tm_o o) hd e
  exact ⟨⟨n, k.1⟩, k.2⟩
