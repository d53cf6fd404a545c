/-! A walk's place taken as an invocation's start: what is written and made is counted from here. -/
theorem xrebase {p : Program} {l : Launch} {e : Env} {R R2 : Room} {s : State} {m : MethodId} {args : Array Value} {below : List Frame} {meth : Method} {c : Code} {T : State} {locs : List Loc} {cells slots : Nat} (X : Stand p l e R s m args below meth c T locs cells slots)
    (h1 : R2.frames ≤ R.frames) (h2 : R2.locals ≤ R.locals) (h3 : cells + R2.cells ≤ R.cells) (h4 : slots + R2.slots ≤ R.slots) : Stand p l e R2 (T.setFrames (.invoking m args :: below)) m args below meth c T [] 0 0 := by
  obtain ⟨g₀, hfr⟩ := X.frames_eq
  have hcur : T.cur < T.threads.size := State.cur_lt_of_frames hfr
  have hf2 : (T.setFrames (.invoking m args :: below)).frames = .invoking m args :: below := State.frames_setFrames _ hcur
  have hm2 : (T.setFrames (.invoking m args :: below)).vm.method? m = some meth := X.method'
  have hA := X.warmed.alike
  refine ⟨X.admits, X.cas, X.clock, hf2, ?_, ?_, hm2, X.code, X.here, X.tail, State.WarmedH.refl _, ?_, ?_, ?_⟩
  · have hr := X.room
    have hz := X.heapSize
    have hu := X.used
    have e1 := State.localsInUse_invoking X.frames X.method X.code
    have e2 := State.localsInUse_invoking hf2 hm2 X.code
    have e3 : e.platform.stackLimits (T.setFrames (.invoking m args :: below)).me = e.platform.stackLimits s.me := by rw [State.stackLimits_setFrames]; exact X.limits
    have e4 : (T.setFrames (.invoking m args :: below)).me.stackBytes = s.me.stackBytes := by rw [State.stackBytes_setFrames]; exact X.bytes
    have e5 : (T.setFrames (.invoking m args :: below)).slotsTrue = true := X.book
    have e6 : (T.setFrames (.invoking m args :: below)).heap.size = T.heap.size := rfl
    have e7 : (T.setFrames (.invoking m args :: below)).slotsUsed = T.slotsUsed := rfl
    simp only [State.hasRoom, Bool.and_eq_true, decide_eq_true_eq] at hr ⊢
    rw [hf2, e2, e3, e4, e5, e6, e7]
    rw [X.frames, e1] at hr
    obtain ⟨⟨⟨⟨r1, r2, r3, r4, r5, r6⟩, r7⟩, r8⟩, r9⟩ := hr
    refine ⟨⟨⟨⟨by omega, by omega, by omega, by omega, by omega, r6⟩, by omega⟩, by omega⟩, rfl⟩
  · have hh := X.hears
    unfold State.hears at hh ⊢
    split
    · rename_i g r
      simp only at hh
      have e1 : (T.setFrames (.invoking m args :: .java g :: r)).code? g.method = s.code? g.method := by
        rw [State.code?_eq, State.code?_eq]
        show ((T.vm.method? g.method).bind _) = _
        rw [hA.method?]
      rw [e1]
      exact hh
    · rfl
    · rfl
    · rename_i q1 q2 q3
      have e1 : (T.setFrames (.invoking m args :: below)).vm.method? m = s.vm.method? m := by
        show T.vm.method? m = _
        rw [hA.method?]
      rw [e1]
      split at hh
      · exact absurd rfl (q1 _ _)
      · exact absurd rfl (q2 _ _)
      · exact absurd rfl (q3 _ _)
      · exact hh
  · rw [State.stackLimits_setFrames]
  · rw [State.stackBytes_setFrames]
  · obtain ⟨t9, ht9, -⟩ := State.frames_cons hf2
    obtain ⟨t8, ht8, -⟩ := State.frames_cons hfr
    have h := (State.sameButNew.refl (T.setFrames (.invoking m args :: below)) ht9).setFrames T.frames (State.cur_lt_of_frames hf2)
    rw [State.setFrames_setFrames, State.setFrames_self ht8] at h
    exact h
