/-! ALL ROWS: they decode, and the check lets them pass -/
def pm_F2 {α β : Type} (P : α → β → Prop) : List α → List β → Prop
  | [], [] => True
  | a :: l, b :: r => P a b ∧ pm_F2 P l r
  | _, _ => False
theorem pm_F2_get {α β : Type} {P : α → β → Prop} : ∀ {l : List α} {r : List β}, pm_F2 P l r → ∀ (y : Nat) (a : α) (b : β), l[y]? = some a → r[y]? = some b → P a b := by
  intro l
  induction l with
  | nil => intro r _ y a b h; simp at h
  | cons x l ih =>
    intro r h y a b h1 h2
    cases r with
    | nil => cases h
    | cons z r =>
      cases y with
      | zero => cases h1; cases h2; exact h.1
      | succ y => exact ih h.2 y a b h1 h2
def pt_dc (cc : ByteArray) (l : List pm_R) : Prop := l.all (fun q => decide (decode cc q.1 = .ok (q.2.1, q.2.2.1))) = true
theorem pt_dc_sub {cc : ByteArray} {l : List pm_R} (u : Value) (h : pt_dc cc l) : pt_dc cc (l.map (pm_sub u)) := by
  unfold pt_dc at h ⊢
  rw [List.all_map]
  exact h
def pt_dm (M : pm_M) (n : MethodName × ByteArray × Nat × Option FieldType) : Prop := pt_dc n.2.1 M.1
set_option maxRecDepth 100000 in
theorem pt_F2 (u : Value) : pm_F2 pt_dm (pt_M u) pt_N := ⟨pt_d0, pt_d1, pt_d2, pt_d3, pt_d4, pt_d5, pt_d6, pt_d7, pt_d8, pt_d9, pt_d10, pt_d11, pt_d12, pt_d13, pt_d14, pt_d15, pt_d16, pt_d17, pt_d18, pt_d19, pt_d20, pt_d21, pt_d22, pt_d23, pt_d24, pt_d25, pt_d26, pt_d27, pt_d28, pt_d29, pt_d30, pt_d31, pt_d32, pt_d33, pt_d34, pt_dc_sub u pt_d35, pt_d36, pt_d37, pt_d38, pt_d39, pt_dc_sub u pt_d40, pt_d41, pt_d42, pt_d43, pt_d44, pt_d45, pt_d46, pt_d47, pt_d48, pt_d49, pt_d50, pt_dc_sub u pt_d51, pt_d52, pt_d53, pt_d54, pt_d55, pt_d56, pt_d57, pt_d58, pt_d59, pt_d60, pt_d61, pt_d62, pt_d63, pt_d64, pt_d65, pt_d66, pt_d67, pt_d68, pt_d69, pt_d70, pt_d71, pt_d72, pt_d73, pt_d74, pt_d75, pt_d76, pt_d77, pt_d78, pt_d79, pt_d80, pt_d81, pt_d82, pt_d83, pt_d84, pt_d85, pt_d86, pt_d87, pt_d88, pt_d89, pt_d90, pt_d91, pt_d92, pt_d93, pt_d94, pt_d95, pt_d96, pt_d97, pt_d98, pt_d99, pt_d100, pt_d101, pt_d102, pt_d103, pt_d104, pt_d105, pt_d106, pt_d107, pt_d108, pt_d109, pt_d110, pt_d111, pt_d112, pt_d113, pt_d114, pt_d115, pt_d116, pt_d117, pt_d118, pt_d119, pt_d120, pt_d121, pt_d122, pt_d123, pt_d124, pt_d125, pt_d126, pt_d127, pt_d128, pt_d129, pt_d130, pt_d131, pt_d132, pt_d133, pt_d134, pt_d135, pt_d136, pt_d137, pt_d138, pt_d139, pt_d140, pt_d141, pt_d142, pt_d143, pt_d144, pt_d145, pt_d146, pt_d147, pt_d148, pt_d149, pt_d150, pt_d151, pt_d152, pt_d153, pt_d154, pt_d155, pt_d156, pt_d157, pt_d158, pt_d159, pt_d160, pt_d161, pt_d162, pt_d163, pt_d164, pt_d165, pt_d166, pt_d167, pt_d168, pt_d169, pt_d170, pt_d171, pt_d172, pt_d173, pt_d174, pt_d175, pt_d176, pt_d177, pt_d178, pt_d179, pt_d180, pt_d181, pt_d182, pt_d183, pt_d184, pt_d185, pt_d186, pt_d187, pt_d188, pt_d189, pt_d190, pt_d191, pt_d192, pt_d193, pt_d194, pt_d195, pt_d196, pt_d197, pt_d198, pt_d199, pt_d200, pt_d201, pt_d202, pt_d203, pt_d204, pt_d205, pt_d206, pt_d207, pt_d208, pt_d209, pt_d210, pt_d211, pt_d212, pt_d213, pt_d214, pt_d215, pt_d216, pt_d217, pt_d218, pt_d219, pt_d220, pt_d221, pt_d222, pt_d223, pt_d224, pt_d225, pt_d226, pt_d227, pt_d228, pt_d229, pt_d230, pt_d231, pt_d232, pt_d233, pt_d234, pt_d235, pt_d236, pt_d237, pt_d238, pt_d239, pt_d240, pt_d241, pt_d242, pt_d243, pt_d244, pt_d245, pt_d246, pt_d247, pt_d248, pt_d249, pt_d250, pt_d251, pt_d252, pt_d253, pt_d254, pt_d255, pt_d256, pt_d257, pt_d258, pt_d259, pt_d260, pt_d261, pt_d262, pt_d263, pt_d264, pt_d265, pt_d266, pt_d267, pt_d268, pt_d269, pt_d270, pt_d271, pt_d272, pt_d273, pt_d274, pt_d275, pt_d276, pt_d277, pt_d278, pt_d279, pt_d280, pt_d281, pt_d282, pt_d283, pt_d284, pt_d285, pt_d286, pt_d287, pt_d288, pt_d289, pt_d290, pt_d291, pt_d292, pt_d293, pt_d294, pt_d295, pt_d296, pt_d297, pt_d298, pt_d299, pt_d300, pt_d301, pt_d302, pt_d303, pt_d304, pt_d305, pt_d306, pt_d307, pt_d308, pt_d309, pt_d310, pt_d311, pt_d312, pt_d313, trivial⟩
set_option maxRecDepth 100000 in
theorem pt_Ml (u : Value) : (pt_M u).length = 314 := rfl
set_option maxRecDepth 100000 in
theorem pt_Nl : pt_N.length = 314 := rfl
theorem pt_dec (u : Value) {y : Nat} (hy : y < 314) : pt_dc (pt_bc y) (pt_G u y).1 := by
  have hM : (pt_M u)[y]? = some (pt_G u y) := by
    have hl : y < (pt_M u).length := by rw [pt_Ml]; exact hy
    unfold pt_G
    rw [List.getD_eq_getElem?_getD, List.getElem?_eq_getElem hl]; rfl
  have hN : pt_N[y]? = some (pt_at y) := by
    have hl : y < pt_N.length := by rw [pt_Nl]; exact hy
    unfold pt_at
    rw [List.getD_eq_getElem?_getD, List.getElem?_eq_getElem hl]; rfl
  exact pm_F2_get (pt_F2 u) y _ _ hM hN
theorem pt_hlen (u : Value) {y pc len : Nat} {i : Instr} {vs : List Value} {ns : List Nat} (hy : y < 314) (hr : (pc, i, len, vs, ns) ∈ (pt_G u y).1) : decode (pt_bc y) pc = .ok (i, len) := by
  have h := List.all_eq_true.mp (pt_dec u hy) _ hr
  exact of_decide_eq_true h
def pt_ckX (u : Value) (y : Nat) : Bool := (pt_G u y).1.all (pt_chk u y (pt_ow y) (pt_inb y) (pt_ml y) (pt_rt y))
theorem pt_kx0 : (List.range' 0 20).all (fun y => pt_ckX .null y && pt_ckX (.ref 80) y) = true := by decide +kernel
theorem pt_kx1 : (List.range' 20 20).all (fun y => pt_ckX .null y && pt_ckX (.ref 80) y) = true := by decide +kernel
theorem pt_kx2 : (List.range' 40 20).all (fun y => pt_ckX .null y && pt_ckX (.ref 80) y) = true := by decide +kernel
theorem pt_kx3 : (List.range' 60 20).all (fun y => pt_ckX .null y && pt_ckX (.ref 80) y) = true := by decide +kernel
theorem pt_kx4 : (List.range' 80 20).all (fun y => pt_ckX .null y && pt_ckX (.ref 80) y) = true := by decide +kernel
theorem pt_kx5 : (List.range' 100 20).all (fun y => pt_ckX .null y && pt_ckX (.ref 80) y) = true := by decide +kernel
theorem pt_kx6 : (List.range' 120 20).all (fun y => pt_ckX .null y && pt_ckX (.ref 80) y) = true := by decide +kernel
theorem pt_kx7 : (List.range' 140 20).all (fun y => pt_ckX .null y && pt_ckX (.ref 80) y) = true := by decide +kernel
theorem pt_kx8 : (List.range' 160 20).all (fun y => pt_ckX .null y && pt_ckX (.ref 80) y) = true := by decide +kernel
theorem pt_kx9 : (List.range' 180 20).all (fun y => pt_ckX .null y && pt_ckX (.ref 80) y) = true := by decide +kernel
theorem pt_kx10 : (List.range' 200 20).all (fun y => pt_ckX .null y && pt_ckX (.ref 80) y) = true := by decide +kernel
theorem pt_kx11 : (List.range' 220 20).all (fun y => pt_ckX .null y && pt_ckX (.ref 80) y) = true := by decide +kernel
theorem pt_kx12 : (List.range' 240 20).all (fun y => pt_ckX .null y && pt_ckX (.ref 80) y) = true := by decide +kernel
theorem pt_kx13 : (List.range' 260 20).all (fun y => pt_ckX .null y && pt_ckX (.ref 80) y) = true := by decide +kernel
theorem pt_kx14 : (List.range' 280 20).all (fun y => pt_ckX .null y && pt_ckX (.ref 80) y) = true := by decide +kernel
theorem pt_kx15 : (List.range' 300 14).all (fun y => pt_ckX .null y && pt_ckX (.ref 80) y) = true := by decide +kernel
theorem pt_ckX_all {u : Value} (hu : u = .null ∨ u = .ref 80) {z : Nat} (h : z < 314) : pt_ckX u z = true := by
  have key : (pt_ckX .null z && pt_ckX (.ref 80) z) = true := by
    by_cases h0 : z < 20
    · exact pm_rng (f := fun y => pt_ckX .null y && pt_ckX (.ref 80) y) pt_kx0 z (by omega) (by omega)
    by_cases h1 : z < 40
    · exact pm_rng (f := fun y => pt_ckX .null y && pt_ckX (.ref 80) y) pt_kx1 z (by omega) (by omega)
    by_cases h2 : z < 60
    · exact pm_rng (f := fun y => pt_ckX .null y && pt_ckX (.ref 80) y) pt_kx2 z (by omega) (by omega)
    by_cases h3 : z < 80
    · exact pm_rng (f := fun y => pt_ckX .null y && pt_ckX (.ref 80) y) pt_kx3 z (by omega) (by omega)
    by_cases h4 : z < 100
    · exact pm_rng (f := fun y => pt_ckX .null y && pt_ckX (.ref 80) y) pt_kx4 z (by omega) (by omega)
    by_cases h5 : z < 120
    · exact pm_rng (f := fun y => pt_ckX .null y && pt_ckX (.ref 80) y) pt_kx5 z (by omega) (by omega)
    by_cases h6 : z < 140
    · exact pm_rng (f := fun y => pt_ckX .null y && pt_ckX (.ref 80) y) pt_kx6 z (by omega) (by omega)
    by_cases h7 : z < 160
    · exact pm_rng (f := fun y => pt_ckX .null y && pt_ckX (.ref 80) y) pt_kx7 z (by omega) (by omega)
    by_cases h8 : z < 180
    · exact pm_rng (f := fun y => pt_ckX .null y && pt_ckX (.ref 80) y) pt_kx8 z (by omega) (by omega)
    by_cases h9 : z < 200
    · exact pm_rng (f := fun y => pt_ckX .null y && pt_ckX (.ref 80) y) pt_kx9 z (by omega) (by omega)
    by_cases h10 : z < 220
    · exact pm_rng (f := fun y => pt_ckX .null y && pt_ckX (.ref 80) y) pt_kx10 z (by omega) (by omega)
    by_cases h11 : z < 240
    · exact pm_rng (f := fun y => pt_ckX .null y && pt_ckX (.ref 80) y) pt_kx11 z (by omega) (by omega)
    by_cases h12 : z < 260
    · exact pm_rng (f := fun y => pt_ckX .null y && pt_ckX (.ref 80) y) pt_kx12 z (by omega) (by omega)
    by_cases h13 : z < 280
    · exact pm_rng (f := fun y => pt_ckX .null y && pt_ckX (.ref 80) y) pt_kx13 z (by omega) (by omega)
    by_cases h14 : z < 300
    · exact pm_rng (f := fun y => pt_ckX .null y && pt_ckX (.ref 80) y) pt_kx14 z (by omega) (by omega)
    by_cases h15 : z < 314
    · exact pm_rng (f := fun y => pt_ckX .null y && pt_ckX (.ref 80) y) pt_kx15 z (by omega) (by omega)
    omega
  rw [Bool.and_eq_true] at key
  rcases hu with rfl | rfl
  · exact key.1
  · exact key.2
