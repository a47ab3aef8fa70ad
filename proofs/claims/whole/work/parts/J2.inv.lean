/-! THE INVARIANT of the law's loop: all calls but the hardest one are put in; that one is a premise here -/
/-- what a call leaves -/
def Nx (w : Option Nat) (n : Nat) (A : ah) (cmp : Int32 → Option tm_V → pm_H → Prop) (y1 : Nat) (as1 : List tm_V) (y2 : Nat) (as2 : List tm_V) (h : pm_H) : Prop := ∃ A3 h3 M3 D3 G3 S3 T3 U3 u3, pt_O w cmp y1 as1 y2 as2 h h3 ∧ ar A3 h3 ∧ IC M3 A3 D3 G3 S3 T3 U3 u3 ∧ Lv A A3 1000 14000 ∧ CCH D3 G3 n S3
/-- what holds at the loop's head -/
def Inv (n : Nat) (xs : List Int32) (c : Nat) (h : pm_H) : Prop := ∃ A M D G S T U u, ar A h ∧ IC M A D G S T U u ∧ CCH D G n S ∧ A.1 0 = ac_c (.inr (0, xs.map Value.int)) ∧ A.2.1 ≤ 178 + ro_N A + 1000 * c ∧ A.2.2 ≤ 11705 + ro_S A + 14000 * c
section INV
variable {A : ah} {h : pm_H} {M : aM} {D : aD} {G : Nat → fo} {S : rs_S} {T U : List Nat} {u : Int64} {w : Option Nat} {n c y1 y2 : Nat} {as1 as2 : List tm_V} {cmp : Int32 → Option tm_V → pm_H → Prop} {xs : List Int32}
theorem nx_c (hC : CCH D G n S) (s : Spc w M A D G S T U y1 as1 y2 as2 h) : Nx w n A pt_cI y1 as1 y2 as2 h := by
  obtain ⟨A3, h3, S3, u3, s1, s2, s3, s4, s5, s6⟩ := s
  exact ⟨A3, h3, M, D, G, S3, T, U, u3, s1, s2, s3, Lv_w s4 (by omega) (by omega), CCH_2 hC s5 s6⟩
theorem nx_m (I : IC M A D G S T U u) (hC : CCH D G n S) (hn : n ≤ 120) (s : Spm w cmp A D G S T U y1 as1 y2 as2 h) : Nx w n A cmp y1 as1 y2 as2 h := by
  obtain ⟨A3, h3, M3, D3, G3, S3, T3, u3, s1, s2, s3, s4, s5⟩ := s
  exact ⟨A3, h3, M3, D3, G3, S3, T3, U, u3, s1, s2, s3, Lv_w s4 (by omega) (by omega), CCH_ch hC hn I.2.2.2.2.2.1 (IC_W I) s5⟩
theorem nx_v (s : Spv w n M A D G T y1 as1 y2 as2 h) : Nx w n A pt_cI y1 as1 y2 as2 h := by
  obtain ⟨A3, h3, S3, U3, u3, s1, s2, s3, s4, s5⟩ := s
  exact ⟨A3, h3, M, D, G, S3, T, U3, u3, s1, s2, s3, Lv_w s4 (by omega) (by omega), s5⟩
theorem inv_nx (e0 : A.1 0 = ac_c (.inr (0, xs.map Value.int))) (b1 : A.2.1 ≤ 178 + ro_N A + 1000 * c) (b2 : A.2.2 ≤ 11705 + ro_S A + 14000 * c) (s : Nx w n A cmp y1 as1 y2 as2 h) : ∃ h3, pt_O w cmp y1 as1 y2 as2 h h3 ∧ Inv n xs (c + 1) h3 := by
  obtain ⟨A3, h3, M3, D3, G3, S3, T3, U3, u3, s1, s2, s3, ⟨l1, l2, l3, l4⟩, s5⟩ := s
  exact ⟨h3, s1, A3, M3, D3, G3, S3, T3, U3, u3, s2, s3, s5, l2.trans e0, by omega, by omega⟩
theorem inv_0 (hn : n ≤ 120) : Inv n xs 0 (pt_h0 xs) := by
  refine ⟨sA xs, sM, sD, sG, sS, [], [], 0, s_ar, s_IC, fun o ho e => ?_, s_0, ?_, ?_⟩
  rotate_left
  · have e : (sA xs).2.1 = 178 := rfl
    rw [e]; omega
  · have e : (sA xs).2.2 = 11705 := rfl
    rw [e]; omega
  have e1 : sS.1 31 = (-1 : Int32) := by decide +kernel
  rw [e1] at e
  have e2 : o = 0 ∨ o = 1 ∨ o = 2 := by omega
  rcases e2 with q | q | q <;> subst q <;> exact absurd e (by decide)
theorem sum_le {f : Nat → Nat} {b : Nat} : ∀ (L : List Nat), (∀ a, f a ≤ b) → (L.map f).sum ≤ L.length * b
  | [], _ => by simp
  | x :: L, hf => by
    have := sum_le L hf
    have := hf x
    rw [List.map_cons, List.sum_cons, List.length_cons, Nat.add_mul]
    omega
theorem ro_b : ro_N A ≤ 145 * 20 ∧ ro_S A ≤ 145 * 600 := by
  have h1 : ∀ x : ac, ro_n x ≤ 20 := by
    intro x
    unfold ro_n
    split
    · exact Nat.le_trans (List.length_filter_le _ _) (by decide)
    · exact Nat.le_trans (List.length_filter_le _ _) (by decide)
    · omega
  have h2 : ∀ (p : Nat → Bool) (L : List Nat), (L.filter p).sum ≤ L.sum := by
    intro p L
    induction L with
    | nil => exact Nat.le_refl _
    | cons a L ih =>
      rw [List.filter_cons]
      split
      · rw [List.sum_cons, List.sum_cons]; omega
      · rw [List.sum_cons]; omega
  have h3 : ∀ x : ac, ro_s x ≤ 600 := by
    intro x
    unfold ro_s
    split
    · exact Nat.le_trans (h2 _ _) (by decide)
    · exact Nat.le_trans (h2 _ _) (by decide)
    · omega
  have l : (List.range 145).length = 145 := List.length_range
  refine ⟨?_, ?_⟩
  · have := sum_le (f := fun a => ro_n (A.1 a)) (b := 20) (List.range 145) (fun a => h1 _)
    rw [l] at this
    exact this
  · have := sum_le (f := fun a => ro_s (A.1 a)) (b := 600) (List.range 145) (fun a => h3 _)
    rw [l] at this
    exact this
theorem inv_room (hc : c ≤ 512) (I : Inv n xs c h) : h.1.length ≤ 601024 + 81 ∧ h.2 ≤ 7293034 := by
  obtain ⟨A, M, D, G, S, T, U, u, R, -, -, -, b1, b2⟩ := I
  have hb := ro_b (A := A)
  rw [ar_len R, R.2.1]
  omega
theorem inv_b (I : Inv n xs c h) : h.1[0]? = some (.inr (0, xs.map Value.int)) := by
  obtain ⟨A, M, D, G, S, T, U, u, R, -, -, e, -, -⟩ := I
  exact ar_c R e
/-- one round -/
theorem inv_s (hn : n = 120) (hE : ∀ {A : ah} {h : pm_H} {M : aM} {D : aD} {G : Nat → fo} {S : rs_S} {T U : List Nat} {u : Int64} {w : Option Nat} {y : pm_C} {a1 a2 a3 : Int32}, ar A h → IC M A D G S T U u → CCH D G n S → A.1 0 = ac_c y → Nx w n A pt_cI 129 [.inr (.inr (some 81)), .inl a1, .inl a2, .inl a3, .inr (.inr (some 177))] 264 [.inr (.inr (some 145)), .inl a1, .inl a2, .inl a3] h) {v a1 a2 a3 a4 : Int32} (I : Inv n xs c h) : ∃ h3, pt_Op w v a1 a2 a3 a4 h h3 ∧ Inv n xs (c + 1) h3 := by
  obtain ⟨A, M, D, G, S, T, U, u, R, I, C, e0, b1, b2⟩ := I
  have hn' : n ≤ 120 := by omega
  unfold pt_Op
  by_cases c0 : v &&& 31 = 0
  · simp only [if_pos c0]; exact inv_nx e0 b1 b2 (nx_m I C hn' (sp_type R I e0))
  simp only [if_neg c0]
  by_cases c1 : v &&& 31 = 1
  · simp only [if_pos c1]; exact inv_nx e0 b1 b2 (nx_m I C hn' (sp_cut R I e0))
  simp only [if_neg c1]
  by_cases c2 : v &&& 31 = 2
  · simp only [if_pos c2]; exact inv_nx e0 b1 b2 (nx_m I C hn' (sp_put R I e0))
  simp only [if_neg c2]
  by_cases c3 : v &&& 31 = 3
  · simp only [if_pos c3]; exact inv_nx e0 b1 b2 (nx_m I C hn' (sp_move R I e0))
  simp only [if_neg c3]
  by_cases c4 : v &&& 31 = 4
  · simp only [if_pos c4]; exact inv_nx e0 b1 b2 (nx_m I C hn' (sp_remove R I e0))
  simp only [if_neg c4]
  by_cases c5 : v &&& 31 = 5
  · simp only [if_pos c5]; exact inv_nx e0 b1 b2 (hE R I C e0)
  simp only [if_neg c5]
  by_cases c6 : v &&& 31 = 6
  · simp only [if_pos c6]; exact inv_nx e0 b1 b2 (nx_m I C hn' (sp_undo R I e0))
  simp only [if_neg c6]
  by_cases c7 : v &&& 31 = 7
  · simp only [if_pos c7]; exact inv_nx e0 b1 b2 (nx_m I C hn' (sp_deliver R I e0))
  simp only [if_neg c7]
  by_cases c8 : v &&& 31 = 8
  · simp only [if_pos c8]; exact inv_nx e0 b1 b2 (nx_c C (sp_known R I e0))
  simp only [if_neg c8]
  by_cases c9 : v &&& 31 = 9
  · simp only [if_pos c9]; exact inv_nx e0 b1 b2 (nx_c C (sp_wait R I e0))
  simp only [if_neg c9]
  by_cases c10 : v &&& 31 = 10
  · simp only [if_pos c10]; exact inv_nx e0 b1 b2 (nx_c C (sp_lines R I e0))
  simp only [if_neg c10]
  by_cases c11 : v &&& 31 = 11
  · simp only [if_pos c11]; exact inv_nx e0 b1 b2 (nx_c C (sp_line R I e0))
  simp only [if_neg c11]
  by_cases c12 : v &&& 31 = 12
  · simp only [if_pos c12]; exact inv_nx e0 b1 b2 (nx_v (sp_value R I C hn e0))
  simp only [if_neg c12]
  by_cases c13 : v &&& 31 = 13
  · simp only [if_pos c13]; exact inv_nx e0 b1 b2 (nx_v (sp_error R I C hn e0))
  simp only [if_neg c13]
  by_cases c14 : v &&& 31 = 14
  · simp only [if_pos c14]; exact inv_nx e0 b1 b2 (nx_v (sp_also R I C hn e0))
  simp only [if_neg c14]
  by_cases c15 : v &&& 31 = 15
  · simp only [if_pos c15]; exact inv_nx e0 b1 b2 (nx_v (sp_print R I C hn e0))
  simp only [if_neg c15]
  by_cases c16 : v &&& 31 = 16
  · simp only [if_pos c16]; exact inv_nx e0 b1 b2 (nx_c C (sp_out R I e0))
  simp only [if_neg c16]
  exact ⟨h, rfl, A, M, D, G, S, T, U, u, R, I, C, e0, by omega, by omega⟩
/-- the pure statement, out of the last call -/
theorem pure_of (hn : n = 120) (hE : ∀ {A : ah} {h : pm_H} {M : aM} {D : aD} {G : Nat → fo} {S : rs_S} {T U : List Nat} {u : Int64} {w : Option Nat} {y : pm_C} {a1 a2 a3 : Int32}, ar A h → IC M A D G S T U u → CCH D G n S → A.1 0 = ac_c y → Nx w n A pt_cI 129 [.inr (.inr (some 81)), .inl a1, .inl a2, .inl a3, .inr (.inr (some 177))] 264 [.inr (.inr (some 145)), .inl a1, .inl a2, .inl a3] h) : pt_Pure 2560 :=
  pt_pureOf (by omega) (fun xs _ c h => Inv n xs c h) (fun xs _ _ _ => inv_0 (by omega)) (fun xs _ c h I => inv_b I) (fun xs _ c h h1 h2 I => inv_room (by omega) I) (fun xs w c h _ _ I _ => inv_s hn hE I)
end INV
