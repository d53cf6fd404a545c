def xnm : List String := ["java/lang/RuntimeException", "java/lang/Exception"]
def xrf1 : Cond := .isRef (.static Bundle.tN "UNASSIGNED_STACK" Bundle.steD)
def xrf2 : Cond := .isRef (.static Bundle.tN "SUPPRESSED_SENTINEL" Bundle.listD)
def xls1 : Cond := .laysStatic Bundle.tN "UNASSIGNED_STACK" Bundle.steD
def xls2 : Cond := .laysStatic Bundle.tN "SUPPRESSED_SENTINEL" Bundle.listD
def xv19 (cb : ByteArray) (Ws : List Cond) (cl : List vw_C) (own : String) (hs : List (Nat × Nat × Nat × Nat)) (C i : Nat) : Bool := xd cb (xpc C i) (.new (xra (xrow C i))) 3 && (xd cb (xpc C i + 3) .dup 1 && (xd cb (xpc C i + 4) (.invokespecial (xrw (xrow C i))) 3 && (xd cb (xpc C i + 7) .athrow 1 && (decide (hs = []) && (match cl[xrv (xrow C i)]? with
  | some (Cn, _, N) => Nat.blt (xrv (xrow C i)) 100 && (Nat.beq N 0 && (decide (Cond.classLink own (xra (xrow C i)) Cn ∈ Ws) && (decide (Cond.instantiable Cn 6 ∈ Ws) && (decide (Cond.initialized Cn ∈ Ws) && (Bundle.fit Cn && (Bundle.ownAtoms0 own (xrw (xrow C i)) Cn xnm).all (fun q => decide (q ∈ Ws) || (decide (q = xrf1) || (decide (q = xrf2) || (decide (q = xls1) || decide (q = xls2))))))))))
  | none => false)))))
theorem xZ_eval {C n d : String} {v : Value} {A : Nat → Prop} {s : State} {a : Array Value} (h : va_Z C n d v A s s.heap) : (Term.static C n d).eval a s none [] s = some v := by
  obtain ⟨cf, kf, fi, f, q, cell, h1, h2, h3, h4, h5, h6, h7, -⟩ := h
  simp [Term.eval, State.fieldNamed?, h1, h2, h4, h5, h6, h7]
theorem xZq_ref {C n d : String} {A : Nat → Prop} {s : State} {a : Array Value} (h : va_Zq C n d A s s.heap) : (Cond.isRef (.static C n d)).before a s = true := by
  rcases h with h | ⟨t, h⟩
  · simp [Cond.before, Cond.holds, Cond.value, xZ_eval (a := a) h]
  · simp [Cond.before, Cond.holds, Cond.value, xZ_eval (a := a) h]
theorem xcell_eq {c c' : Cell} (h1 : c' = { c with slots := c'.slots }) (h2 : ∀ i : Nat, c'.slots[i]? = c.slots[i]?) : c' = c := by
  have e : c'.slots = c.slots := Array.ext_getElem? h2
  rw [h1, e]
section XO
variable {X : xFix} {ih : xrec} {C i : Nat} {lv : xl} {st : List xv} {hp : xh} {bc bs d : Nat} {out : (Nat × xv) × xh × Nat × Nat} {j : Nat} {y : MethodName} {cb : ByteArray} {maxL : Nat} {ret : Option FieldType} {hs : List (Nat × Nat × Nat × Nat)}
  {p : Program} {l : Launch} {e : Env} {R : Room} {s : State} {m : MethodId} {args : Array Value} {below : List Frame} {meth : Method} {c : Code} {H : Heap} {locs : List Loc} {cells slots : Nat} {ls : Array Slot}

set_option maxHeartbeats 4000000 in
theorem ok19 (hI : xIH X ih) (hM : xMe X j C y cb maxL ret hs) (hF : xF p e s m meth c y cb maxL ret hs) (hS : xS X s) (hN : xN X R s H locs cells slots ls maxL lv hp bc bs d) (hv : xv19 cb X.Ws X.cl y.cls hs C i = true) (h : xh19 X.P X.G ih C (xrow C i) (i + 1) lv st hp bc bs d = some out) : W p l e R s m args below meth c H locs cells slots (xEnd X R s below out) (F0 m (xpc C i) ls (st.map (xr X.E))) := by
  simp only [xh19, xf_eq, xhpush_eq] at h
  obtain ⟨hx, hb, hml, hret, ⟨hlk, htr⟩, -, hown, htb⟩ := id hF
  obtain ⟨hWd, hK, hO, hle, hGk, hCl, hgd, -⟩ := id hS
  obtain ⟨n1, n2, n3, n4, n5, n6, n7, n8⟩ := id hN
  simp only [xv19, Bool.and_eq_true, decide_eq_true_eq] at hv
  obtain ⟨hd0, hd3, hd4, hd7, rfl, hv⟩ := hv
  cases hcl : X.cl[xrv (xrow C i)]? with
  | none => rw [hcl] at hv; cases hv
  | some r8 =>
    obtain ⟨Cn, Tn, Nn⟩ := r8
    rw [hcl] at hv
    simp only [Bool.and_eq_true, decide_eq_true_eq, xblt, xbeq, List.all_eq_true, Bool.or_eq_true] at hv
    obtain ⟨hlt, rfl, w1, w2, w3, hfit, hall⟩ := hv
    cases hc : Nat.ble 1 bc && (Nat.ble 6 bs && (Nat.ble 6 d && Nat.ble (List.length st) 8)) with
    | false => rw [hc] at h; cases h
    | true =>
      rw [hc] at h
      simp only [Bool.and_eq_true, xble] at hc
      obtain ⟨c1, c2, c3, c4⟩ := hc
      have h := Option.some.inj h
      subst h
      intro T hT Y
      have Y2 := xrebase (R2 := { frames := R.frames, cells := bc, slots := bs, locals := R.locals }) Y (Nat.le_refl _) (Nat.le_refl _) (by show cells + bc ≤ _; omega) (by show slots + bs ≤ _; omega)
      generalize hs9 : T.setFrames (.invoking m args :: below) = s9 at Y2
      have hvm : s9.vm = T.vm := by rw [← hs9]; rfl
      have hhp : s9.heap = H := by rw [← hs9]; exact hT
      have hW9 : s.WarmedH s9.vm := by rw [hvm]; exact Y.warmed
      have hWd9 : xWd X.Ws s9 := hWd.warm hgd hW9
      have hK9 : va_K X.D X.cl (xty X.dA) s9 := hK.moved hW9.alike
      have hO9 : xOld X.E X.G X.P.2.1 s9 s9.heap := by
        rw [hhp]
        exact (hO.moved hW9.alike).kept hle n1.2.1
      have hown9 : s9.vm.findClass y.cls = some m.cls := by rw [hW9.alike.findClass]; exact hown
      obtain ⟨-, hfc, -⟩ := hK9.1 _ _ hcl
      have hsum := xcat_sum X.E st
      have hemp : c.exceptionTable.toList = [] := List.map_eq_nil_iff.mp htb
      have W9 : W p l e { frames := R.frames, cells := bc, slots := bs, locals := R.locals } s9 m args below meth c H [] 0 0 (fun t => t.status = .running ∧ Ended t below (.threw H.size) ∧ s9.WarmedH t.vm ∧ s9.sameButNew ({ t with vm := s9.vm } : State) [] 1 6 ∧ ∃ ce, t.heap[H.size]? = some ce ∧ Bundle.OwnCell args s9 Cn H.size .null ce) (F0 m (xpc C i) ls (st.map (xr X.E))) := by
        refine W.newc hx hb hown9 (hWd9 _ w1 args) (hWd9 _ w2 args) (hWd9 _ w3 args) rfl (xd_of hd0) (by show 0 + 1 ≤ bc; omega) (by show 0 + 6 ≤ bs; omega) fun cC kC e1 e2 e3 e4 => ?_
        refine lv_dup hx hb (xd_of hd3) rfl ?_
        intro T4 hT4 Y4
        obtain ⟨U, st4, u1, u2, u3, u4, u5⟩ := Y4.ctorThrow0 hx htr (own := y.cls) (cls := Cn) (names := xnm) (ic := xrw (xrow C i)) hown9 hfit (by decide) (fun q hq => by
            rcases hall q hq with h | h | h | h | h
            · exact hWd9 q h args
            · rw [h]; exact xZq_ref hO9.2.2.2.2.2.1
            · rw [h]; exact xZq_ref hO9.2.2.2.2.2.2.1
            · rw [h]; exact hO9.2.2.2.2.2.2.2.1.word
            · rw [h]; exact hO9.2.2.2.2.2.2.2.2.word) (fun q hq => by cases hq) (a := H.size) (cX := cC) (kX := kC) e1 e2 (by rw [hT4]; simp) (by rw [hhp]; exact Nat.le_refl _)
          (g := F0 m (xpc C i + 3 + 1) ls (.ref H.size :: .ref H.size :: st.map (xr X.E))) rfl (by rw [hml]; exact n4.1) rfl rfl (rest := st.map (xr X.E)) rfl (by rw [hb]; exact xd_of hd4) (by rw [hb]; exact xd_of hd7) (by rw [hemp]; intro q hq; cases hq)
          (by show 2 + 3 < R.frames; omega) (by show 2 * 0 + (1 + ((st.map (xr X.E)).map fun v => v.category).sum) + (13 * (2 + 1) + 41) ≤ R.locals; omega) hlk
        exact ⟨U, st4, u1, u2, u3, u4, u5⟩
      obtain ⟨t, st9, q1, q2, q3, ⟨r1, r2, r3, r4, r5, r6⟩, ce, q5, q6⟩ := W9 T hT Y2
      have r2 : H.size ≤ t.heap.size := by rw [← hhp]; exact r2
      have r3 : t.heap.size ≤ H.size + 1 := by rw [← hhp]; exact r3
      have hkeep : ∀ q, q < H.size → t.heap[q]? = H[q]? := by
        intro q hq
        have hq9 : s9.heap[q]? = some (H[q]'hq) := by rw [hhp]; exact Array.getElem?_eq_getElem hq
        obtain ⟨c', k1, k2, -, k4⟩ := r6 q _ hq9
        have e9 := xcell_eq k2 (fun i => k4 i List.not_mem_nil)
        rw [Array.getElem?_eq_getElem hq, ← e9]
        exact k1
      have hsz : t.heap.size = H.size + 1 := by
        have := (Array.getElem?_eq_some_iff.mp q5).1
        omega
      have hTs : T.sameButNew (({ t with vm := s9.vm } : State).setVm T.vm) [] 1 6 := by
        have e1 : (({ t with vm := s9.vm } : State).setVm T.vm) = ({ t with vm := s9.vm } : State) := by rw [hvm]; rfl
        rw [e1]
        subst hs9
        refine ⟨?_, r2, r3, r4, r5, r6⟩
        rw [State.setFrames_setFrames] at r1
        exact r1
      refine ⟨t, st9, Or.inr ⟨by show (2 : Nat) ≠ 9; decide, .threw H.size, locs ++ [], cells + 1, slots + 6, ?_, q1, q2, ?_, ?_, ?_, ?_, ?_, ?_, ?_, ?_⟩⟩
      · show Outcome.threw H.size = .threw (X.E.1 + hp.length)
        rw [n2]
      · exact State.WarmedH.trans Y.warmed (by rw [← hs9] at q3; exact q3)
      · exact Y.same.trans (hTs.setVm s.vm)
      · intro q hq
        rw [List.append_nil] at hq
        exact n1.2.2 q hq
      · show cells + 1 + (bc - 1) = R.cells
        omega
      · show slots + 6 + (bs - 6) = R.slots
        omega
      · refine ⟨by have := n1.1; omega, fun q h1 h2 => (hkeep q (Nat.lt_of_lt_of_le h1 n1.1)).trans (n1.2.1 q h1 h2), fun q hq => ?_⟩
        rw [List.append_nil] at hq
        exact n1.2.2 q hq
      · show t.heap.size = X.E.1 + (hp ++ [_]).length
        rw [hsz, n2, List.length_append]
        rfl
      · show va_P X.D X.cl (xrh X.E X.dA (hp ++ [((xrv (xrow C i), 0), 0, [])])) t.heap
        rw [xrh_push]
        refine (n3.kept (fun k q hq => hkeep q.1 ((n3 k q hq).lt))).app (fun k q hq => ?_)
        have hk : k < 1 := (List.getElem?_eq_some_iff.mp hq).1
        rw [show k = 0 by omega] at hq
        cases hq
        rw [xre_o hlt, ← n2]
        refine ⟨_, hcl, ce, q5, ?_, q6.vm, fun k hk => by cases hk⟩
        exact (Option.some.inj (hfc.symm.trans q6.cls)).symm
end XO
