/-! THE CLAIM -/
theorem i_vc : Claimed_1_1 ∧ Claimed_1_2 := pt_law (pure_of (n := 120) rfl (fun R I C e => sp_enter R I C rfl e))
