/-! the same place, seen as a beginning: what stood at a point of a walk stands at the beginning of one -/
section ROOT
variable {p : Program} {l : Launch} {e : Env} {R R' : Room} {s : State} {m : MethodId} {args : Array Value} {below : List Frame} {meth : Method} {c : Code} {T : State} {locs : List Loc} {cells slots : Nat}
theorem st_root (X : Stand p l e R s m args below meth c T locs cells slots) (hf : R'.frames ≤ R.frames) (hl : R'.locals ≤ R.locals) (hc : cells + R'.cells ≤ R.cells) (hs : slots + R'.slots ≤ R.slots) :
    Stand p l e R' (T.setFrames (.invoking m args :: below)) m args below meth c T [] 0 0 := by
  obtain ⟨g₀, hfr⟩ := X.frames_eq
  have hcur : T.cur < T.threads.size := State.cur_lt_of_frames hfr
  have hF : (T.setFrames (.invoking m args :: below)).frames = .invoking m args :: below := State.frames_setFrames _ hcur
  have hal : s.vm.Alike T.vm := X.warmed.alike
  have hroom := X.room
  have hlo1 := State.localsInUse_invoking X.frames X.method X.code
  have hlo2 := State.localsInUse_invoking (s := T.setFrames (.invoking m args :: below)) hF X.method' X.code
  have hhs := X.heapSize
  have hus := X.used
  have hbk := X.book
  refine ⟨X.admits, X.cas, X.clock, hF, ?_, ?_, X.method', X.code, X.here, X.tail, State.WarmedH.refl _, ?_, ?_, ?_⟩
  · simp only [State.hasRoom, Bool.and_eq_true, decide_eq_true_eq] at hroom ⊢
    obtain ⟨⟨⟨⟨h1, h2, h3, h4, h5, h6⟩, h7⟩, h8⟩, h9⟩ := hroom
    rw [hlo1] at h1 h4 h5
    rw [X.frames] at h2 h3
    rw [hlo2, hF, State.stackLimits_setFrames, State.stackBytes_setFrames, X.limits, X.bytes]
    refine ⟨⟨⟨⟨by omega, by omega, by omega, by omega, by omega, h6⟩, ?_⟩, ?_⟩, ?_⟩
    · show T.heap.size + R'.cells ≤ _
      omega
    · show T.slotsUsed + R'.slots ≤ _
      omega
    · exact hbk
  · have hh := X.hears
    have hco : ∀ k : MethodId, (T.setFrames (.invoking m args :: below)).code? k = s.code? k := by
      intro k
      rw [State.code?_eq, State.code?_eq]
      show (T.vm.method? k).bind _ = _
      rw [hal.method?]
    have hme : (T.setFrames (.invoking m args :: below)).vm.method? m = s.vm.method? m := hal.method? m
    rcases below with _ | ⟨y, r⟩
    · simp only [State.hears] at hh ⊢
      rw [hme]; exact hh
    · cases y <;> simp only [State.hears, hco, hme] at hh ⊢ <;> exact hh
  · rw [State.stackLimits_setFrames]
  · rw [State.stackBytes_setFrames]
  · obtain ⟨t, ht, -⟩ := State.frames_cons hF
    have h := (State.sameButNew.refl (T.setFrames (.invoking m args :: below)) ht).setFrames T.frames (State.cur_lt_of_frames hF)
    obtain ⟨t2, ht2, -⟩ := State.frames_cons hfr
    rw [State.setFrames_setFrames, State.setFrames_self ht2] at h
    exact h
end ROOT
