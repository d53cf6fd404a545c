noncomputable section XNC
/-! From the own machine's runs to the law's end. -/
abbrev xX (D : va_G) (dA : Nat → ClassId) (E : xE) (G : xk) (Z : Room → State → List Frame → State → Prop) : xFix := (xWs, xcls, D, dA, E, G, xPr, xMi, xSn, Z)
theorem xX_V {D : va_G} {dA : Nat → ClassId} {E : xE} {G : xk} {Z : Room → State → List Frame → State → Prop} : xV (xX D dA E G Z) := xV_of rfl rfl rfl rfl rfl
theorem xS_G {D : va_G} {dA : Nat → ClassId} {E : xE} {G : xk} {Z Z2 : Room → State → List Frame → State → Prop} {s : State} (hlen : G.1.2 = E.2.2.2.2.1 0) (hG : xGk E G) (h : xS (xX D dA E xGb Z) s) : xS (xX D dA E G Z2) s := by
  obtain ⟨h1, h2, ⟨⟨h3, hX⟩, h4⟩, h5, h6, h7⟩ := h
  exact ⟨h1, h2, ⟨⟨Or.inr hlen, hX⟩, h4⟩, h5, hG, h7⟩
theorem xlaw_me {D : va_G} {dA : Nat → ClassId} {E : xE} {G : xk} {Z : Room → State → List Frame → State → Prop} : xMe (xX D dA E G Z) 280 xC280 xe280.1 xe280.2.1 xe280.2.2.1 xe280.2.2.2.1 xe280.2.2.2.2 := ⟨rfl, _, rfl, rfl⟩
theorem xfin {D : va_G} {dA : Nat → ClassId} {E : xE} {G : xk} {Z : Room → State → List Frame → State → Prop} {s t : State} {below : List Frame} {a : Array Value} {out : (Nat × xv) × xh × Nat × Nat} (hE : E.1 = s.heap.size) (ho : out.1 = (1, (0, 1))) (h : xEnd0 (xX D dA E G Z) room_1 s below out t) : lw_Z below a s t := by
  obtain ⟨o, Lc, k, n, hO, h1, h2, hW, ⟨r1, r2, r3, r4, r5, r6⟩, hL, hk, hn, -⟩ := h
  have hO : o = .returned (some (.int 1)) := by
    rw [ho] at hO
    exact hO
  subst hO
  have hk : k + out.2.2.1 = 601024 := hk
  have hn : n + out.2.2.2 = 7293034 := hn
  refine ⟨_, h1, h2, rfl, ⟨_, rfl⟩, hW, r1, r2, Nat.le_trans r3 (by omega), r4, Nat.le_trans r5 (by omega), fun q cell hq => ?_⟩
  obtain ⟨c', k1, k2, k3, k4⟩ := r6 q cell hq
  refine ⟨c', k1, k2, k3, fun i _ => k4 i (fun hm => ?_)⟩
  have h9 : E.1 ≤ q := hL _ hm
  have h8 := (Array.getElem?_eq_some_iff.mp hq).1
  omega
/-- the law's entry, where the machine is to begin -/
def xAt (p : Program) (l : Launch) (e : Env) (s : State) (m : MethodId) (below : List Frame) (meth : Method) (c : Code) (b : Nat) : Prop := W p l e room_1 s m #[Value.ref b] below meth c s.heap [] 0 0 (lw_Z below #[Value.ref b] s) (entryFrame m ([Value.ref b] : List Value).toArray 7)
theorem xpcL : xpc xC280 0 = 0 := by decide +kernel
theorem xenter {p : Program} {l : Launch} {e : Env} {s : State} {m : MethodId} {below : List Frame} {meth : Method} {c : Code} {b : Nat} {D : va_G} {dA : Nat → ClassId} {E : xE} {G : xk} {Z : Room → State → List Frame → State → Prop} {ih : xrec} {out : (Nat × xv) × xh × Nat × Nat}
    (hE : E.1 = s.heap.size) (hb : E.2.2.2.1 0 = b) (hF : xF p e s m meth c xe280.1 xe280.2.1 xe280.2.2.1 xe280.2.2.2.1 xe280.2.2.2.2) (hS : xS (xX D dA E G Z) s) (hI : xIH (xX D dA E G Z) ih) (hr : ih xC280 0 [(0, (6, 0))] [] [] 601024 7293034 40 = some out)
    (hq : ∀ t, xEnd (xX D dA E G Z) room_1 s below out t → lw_Z below #[Value.ref b] s t) : xAt p l e s m below meth c b := by
  have hl2 := lv_entry [Value.ref b] (n := 7) (by show (1 : Nat) ≤ 7; decide)
  have hN : xN (xX D dA E G Z) room_1 s s.heap [] 0 0 ((lg_sl [Value.ref b] ++ List.replicate (7 - (lg_sl [Value.ref b]).length) Slot.unset).toArray) 7 [(0, (6, 0))] [] 601024 7293034 40 := by
    refine ⟨⟨Nat.le_refl _, fun _ _ _ => rfl, fun q hq => by cases hq⟩, ?_, (fun k q hq => by cases hq), ?_, rfl, rfl, by decide, by decide⟩
    · show s.heap.size = E.1 + 0
      omega
    · have e1 : xrl E [(0, (6, 0))] = lv_args 0 [Value.ref b] := by
        show [(0, Value.ref (E.2.2.2.1 0))] = _
        rw [hb]
        rfl
      show lv_has _ 7 (xrl E [(0, (6, 0))])
      rw [e1]
      exact hl2
  have h9 := hI xC280 0 [(0, (6, 0))] [] [] 601024 7293034 40 out hr 280 _ _ _ _ _ xlaw_me p l e room_1 s m #[Value.ref b] below meth c s.heap [] 0 0 _ hF hS hN
  unfold xAt
  rw [lg_entry_eq]
  rw [xpcL] at h9
  exact xmono hq h9
theorem xlong_W {p : Program} {l : Launch} {e : Env} {s : State} {m : MethodId} {below : List Frame} {meth : Method} {c : Code} {b : Nat} {D : va_G} {dA : Nat → ClassId} {E : xE} {G : xk} {n9 : Nat} {out : (Nat × xv) × xh × Nat × Nat} (hr : xrun xPr G n9 xC280 13 xl13 [] xH13 600942 7189125 40 = some out) (ho : out.1 = (1, (0, 1))) (hlen : G.1.2 = E.2.2.2.2.1 0) (hG : xGk E G) (hE : E.1 = s.heap.size) (hb : E.2.2.2.1 0 = b) (hF : xF p e s m meth c xe280.1 xe280.2.1 xe280.2.2.1 xe280.2.2.2.1 xe280.2.2.2.2)
    (hS : ∀ Z, xS (xX D dA E xGb Z) s) : xAt p l e s m below meth c b := by
  have hq : xIH (xX D dA E xGb (fun R s below t => ∃ out : (Nat × xv) × xh × Nat × Nat, out.1 = (1, (0, 1)) ∧ xEnd0 (xX D dA E G (fun _ _ _ _ => False)) R s below out t)) xq13 := by
    intro C i lv st hp bc bs d out2 h j y cb maxL ret hs hM p l e R s m args below meth c H locs cells slots ls hF hS hN
    unfold xq13 at h
    cases hd : (Nat.beq C xC280 && (Nat.beq i 13 && (decide (lv = xl13) && (decide (st = []) && (decide (hp = xH13) && (Nat.beq bc 600942 && (Nat.beq bs 7189125 && Nat.beq d 40))))))) with
    | false => rw [hd] at h; cases h
    | true =>
      rw [hd] at h
      have ho2 := Option.some.inj h
      subst ho2
      simp only [Bool.and_eq_true, xbeq, decide_eq_true_eq] at hd
      obtain ⟨e1, e2, e3, e4, e5, e6, e7, e8⟩ := hd
      subst e1 e2 e3 e4 e5 e6 e7 e8
      have h1 := xrun_ok (xX_V (D := D) (dA := dA) (E := E) (G := G) (Z := fun _ _ _ _ => False)) n9 xC280 13 xl13 [] xH13 600942 7189125 40 out hr j y cb maxL ret hs hM p l e R s m args below meth c H locs cells slots ls hF (xS_G hlen hG hS) hN
      exact xmono (fun t ht => Or.inl ⟨rfl, out, ho, ht.old (by rw [ho]; decide)⟩) h1
  refine xenter hE hb hF (hS _) (xrunS_ok xX_V hq 50000) xpre (fun t ht => ?_)
  rcases ht with ⟨-, out3, ho3, h3⟩ | ⟨h9, -⟩
  · exact xfin hE ho3 h3
  · exact absurd rfl h9
end XNC
