noncomputable section XNC
/-! From the own machine's run to the law's end. -/
abbrev xX (D : va_G) (dA : Nat → ClassId) (E : xE) (G : xk) (Z : Room → State → List Frame → State → Prop) : xFix := (xWs, xcls, D, dA, E, G, xPr, xMi, xSn, Z)
theorem xX_V {D : va_G} {dA : Nat → ClassId} {E : xE} {G : xk} {Z : Room → State → List Frame → State → Prop} : xV (xX D dA E G Z) := xV_of rfl rfl rfl rfl rfl
theorem xS_G {D : va_G} {dA : Nat → ClassId} {E : xE} {G G2 : xk} {Z Z2 : Room → State → List Frame → State → Prop} {s : State} (hL : G2.1.2 = G.1.2) (hG : xGk E G2) (h : xS (xX D dA E G Z) s) : xS (xX D dA E G2 Z2) s := by
  obtain ⟨h1, h2, h3, h4, h5, h6, h7, h8⟩ := h
  refine ⟨h1, h2, ?_, h4, hG, h6, h7, h8⟩
  have h3 : xOld E G xPr.2.1 s s.heap := h3
  show xOld E G2 xPr.2.1 s s.heap
  unfold xOld at h3 ⊢
  rw [hL]
  exact h3
theorem xlaw_me {D : va_G} {dA : Nat → ClassId} {E : xE} {G : xk} {Z : Room → State → List Frame → State → Prop} : xMe (xX D dA E G Z) 142 xC142 xe142.1 xe142.2.1 xe142.2.2.1 xe142.2.2.2.1 xe142.2.2.2.2 := ⟨rfl, _, rfl, rfl⟩
/-- the law has ended and answered 0 -/
def rf_Z (below : List Frame) : State → Prop := fun t => ∃ o : Outcome, t.status = .running ∧ Ended t below o ∧ o = .returned (some (.int 0))
theorem xpcL : xpc xC142 0 = 0 := by decide +kernel
theorem rf_start {p : Program} {l : Launch} {e : Env} {s : State} {m : MethodId} {below : List Frame} {meth : Method} {c : Code} {b : Nat} {D : va_G} {dA : Nat → ClassId} {E : xE}
    (hE : E.1 = s.heap.size) (hb : E.2.2.2.1 0 = b) (hF : xF p e s m meth c xe142.1 xe142.2.1 xe142.2.2.1 xe142.2.2.2.1 xe142.2.2.2.2) (hS : xS (xX D dA E xGr (fun _ _ _ _ => False)) s) : W p l e room_1 s m #[Value.ref b] below meth c s.heap [] 0 0 (rf_Z below) (entryFrame m ([Value.ref b] : List Value).toArray 7) := by
  obtain ⟨out, hr, ho⟩ := xok0_of xrun0
  have hl2 := lv_entry [Value.ref b] (n := 7) (by show (1 : Nat) ≤ 7; decide)
  have hN : xN (xX D dA E xGr (fun _ _ _ _ => False)) room_1 s s.heap [] 0 0 ((lg_sl [Value.ref b] ++ List.replicate (7 - (lg_sl [Value.ref b]).length) Slot.unset).toArray) 7 [(0, (6, 0))] [] 601024 7293034 40 := by
    refine ⟨⟨Nat.le_refl _, fun _ _ _ => rfl, fun q hq => by cases hq⟩, ?_, (fun k q hq => by cases hq), ?_, rfl, rfl, by decide, by decide⟩
    · show s.heap.size = E.1 + 0
      omega
    · have e1 : xrl E [(0, (6, 0))] = lv_args 0 [Value.ref b] := by
        show [(0, Value.ref (E.2.2.2.1 0))] = _
        rw [hb]
        rfl
      show lv_has _ 7 (xrl E [(0, (6, 0))])
      rw [e1]
      exact hl2
  have h9 := xrun_ok xX_V 50000 xC142 0 [(0, (6, 0))] [] [] 601024 7293034 40 out hr 142 _ _ _ _ _ xlaw_me p l e room_1 s m #[Value.ref b] below meth c s.heap [] 0 0 _ hF hS hN
  rw [lg_entry_eq]
  rw [xpcL] at h9
  refine xmono (fun t ht => ?_) h9
  obtain ⟨o, Lc, k, n, hO, h1, h2, -⟩ := ht.old (by rw [ho]; decide)
  rw [ho] at hO
  exact ⟨o, h1, h2, hO⟩
end XNC
