theorem xcp_get (N M i j : Nat) : ∀ n k, xg 32 (xcp N M i j n) k = if j ≤ k ∧ k < j + n then xg 32 N (i + (k - j)) else xg 32 M k := by
  intro n
  induction n with
  | zero =>
    intro k
    rw [if_neg (by omega)]
    rfl
  | succ m ih =>
    intro k
    show xg 32 (xs 32 (xcp N M i j m) (j + m) (xg 32 N (i + m))) k = _
    rw [xg_xs 32 _ _ _ _ (xg_lt 32 N (i + m)), ih k]
    by_cases h1 : k = j + m
    · subst h1
      rw [if_pos rfl, if_pos (by omega)]
      congr 1
      omega
    · rw [if_neg h1]
      by_cases h2 : j ≤ k ∧ k < j + m
      · rw [if_pos h2, if_pos (by omega)]
      · rw [if_neg h2, if_neg (by omega)]
theorem xby8_ofJ (N i : Nat) : ∀ n, xby8 N i n = true → ∀ k, k < n → fits .byte (.int (Int32.ofNat (xg 32 N (i + k)))) = true := by
  intro n
  induction n with
  | zero => intro _ k hk; cases hk
  | succ m ih =>
    intro h k hk
    simp only [xby8, Bool.and_eq_true, Bool.or_eq_true, xblt, xble] at h
    by_cases h1 : k = m
    · subst h1
      have hlt := xg_lt 32 N (i + k)
      have e := i32_toInt (xg 32 N (i + k))
      have h8 : ((-128 : Int32) ≤ Int32.ofNat (xg 32 N (i + k))) ∧ (Int32.ofNat (xg 32 N (i + k)) ≤ 127) := by
        rw [Int32.le_iff_toInt_le, Int32.le_iff_toInt_le, e]
        have m1 : (-128 : Int32).toInt = -128 := by decide
        have m2 : (127 : Int32).toInt = 127 := by decide
        rw [m1, m2]
        unfold xbi xM
        omega
      simp [fits, h8.1, h8.2]
    · exact ih h.2 k (by omega)
def xv25 (cb : ByteArray) (Ws : List Cond) (own : String) (C i : Nat) : Bool := xd cb (xpc C i) (.invokestatic (xra (xrow C i))) 3 && (xnx C i 3 && (decide (Cond.methodLink own (xra (xrow C i)) arraycopyName ∈ Ws) && (decide (Cond.native arraycopyName ∈ Ws) && (decide (Cond.static arraycopyName ∈ Ws) && decide (Cond.initialized "java/lang/System" ∈ Ws)))))
theorem xnn {n : Nat} (h : n < 1048576) : ¬ (Int32.ofNat n < 0) ∧ (Int32.ofNat n).toInt = (n : Int) ∧ (Int32.ofNat n).toNatClampNeg = n := ⟨nI_pos (by omega), nI_toInt (by omega), nI_clamp (by omega)⟩
section XO
variable {X : xFix} {ih : xrec} {C i : Nat} {lv : xl} {st : List xv} {hp : xh} {bc bs d : Nat} {out : (Nat × xv) × xh × Nat × Nat} {j : Nat} {y : MethodName} {cb : ByteArray} {maxL : Nat} {ret : Option FieldType} {hs : List (Nat × Nat × Nat × Nat)}
  {p : Program} {l : Launch} {e : Env} {R : Room} {s : State} {m : MethodId} {args : Array Value} {below : List Frame} {meth : Method} {c : Code} {H : Heap} {locs : List Loc} {cells slots : Nat} {ls : Array Slot}

set_option maxHeartbeats 4000000 in
theorem ok25 (hI : xIH X ih) (hM : xMe X j C y cb maxL ret hs) (hF : xF p e s m meth c y cb maxL ret hs) (hS : xS X s) (hN : xN X R s H locs cells slots ls maxL lv hp bc bs d) (hv : xv25 cb X.Ws y.cls C i = true) (h : xh25 X.P X.G ih C (xrow C i) (i + 1) lv st hp bc bs d = some out) : W p l e R s m args below meth c H locs cells slots (xEnd X R s below out) (F0 m (xpc C i) ls (st.map (xr X.E))) := by
  simp only [xh25, xnth_eq] at h
  obtain ⟨hx, hb, hml, -, -, -, hown, -⟩ := id hF
  obtain ⟨hWd, hK, -⟩ := id hS
  obtain ⟨n1, n2, n3, n4, n5, n6, n7, n8⟩ := id hN
  simp only [xv25, Bool.and_eq_true, decide_eq_true_eq] at hv
  obtain ⟨hdg, hnx, w1, w2, w3, w4⟩ := hv
  have hnx := xnx_of hnx
  have hdg := xd_of hdg
  split at h
  · rename_i n9 j9 b9 i9 a9 s9
    cases ha : hp[a9]? with
    | none => simp only [ha] at h; cases h
    | some ca =>
      cases hbb : hp[b9]? with
      | none => simp only [ha, hbb] at h; cases h
      | some cb9 =>
        obtain ⟨⟨c1, m1⟩, N1, f1⟩ := ca
        obtain ⟨⟨c2, m2⟩, N2, f2⟩ := cb9
        simp only [ha, hbb] at h
        cases hc : Nat.ble 2 d && (Nat.ble (List.length s9) 8 && ((Nat.beq c1 1008 && (Nat.beq c2 1008 && xby8 N1 i9 n9) || Nat.beq c1 1010 && Nat.beq c2 1010) && (Nat.ble (i9 + n9) m1 && (Nat.ble (j9 + n9) m2 && (Nat.blt m1 1048576 && Nat.blt m2 1048576))))) with
        | false => rw [hc] at h; cases h
        | true =>
          rw [hc] at h
          simp only [Bool.and_eq_true, Bool.or_eq_true, xble, xbeq, xblt] at hc
          obtain ⟨k1, k2, kk, k3, k4, k5, k6⟩ := hc
          rcases kk with ⟨rfl, rfl, k7⟩ | ⟨rfl, rfl⟩
          · simp only [cond_true, xf_eq, xhset_eq] at h
            have hsum := xcat_sum X.E s9
            obtain ⟨i1, i2, i3⟩ := xnn (n := i9) (by omega)
            obtain ⟨j1, j2, j3⟩ := xnn (n := j9) (by omega)
            obtain ⟨l1, l2, l3⟩ := xnn (n := n9) (by omega)
            have hca : H[X.E.1 + a9]? = some (vp_cell (X.dA 8) (m1, .inl (fun q => Int32.ofNat (xg 32 N1 q)))) := (by have h9 := n3 a9 _ (xrh_get ha); rw [show (1008 : Nat) = 1000 + 8 from rfl, xre_a] at h9; exact h9)
            have hcb : H[X.E.1 + b9]? = some (vp_cell (X.dA 8) (m2, .inl (fun q => Int32.ofNat (xg 32 N2 q)))) := (by have h9 := n3 b9 _ (xrh_get hbb); rw [show (1008 : Nat) = 1000 + 8 from rfl, xre_a] at h9; exact h9)
            obtain ⟨-, kA, hkA, cmA, hkkA⟩ := (hK.2 1 _ rfl).1 m1 (fun q => .int (Int32.ofNat (xg 32 N1 q)))
            obtain ⟨-, kB, hkB, cmB, hkkB⟩ := (hK.2 1 _ rfl).1 m2 (fun q => .int (Int32.ofNat (xg 32 N2 q)))
            intro T hT Y
            obtain ⟨vm', Y2, step⟩ := Y.arraycopy hx hown (hWd _ w1 args) (hWd _ w2 args) (hWd _ w3 args) (hWd _ w4 args) (src := X.E.1 + a9) (dst := X.E.1 + b9) (cs := vp_cell (X.dA 8) (m1, .inl (fun q => Int32.ofNat (xg 32 N1 q)))) (cd := vp_cell (X.dA 8) (m2, .inl (fun q => Int32.ofNat (xg 32 N2 q)))) (srcPos := Int32.ofNat i9) (destPos := Int32.ofNat j9) (n := Int32.ofNat n9) (by rw [hT]; exact hca) (by rw [hT]; exact hcb)
              (fun _ h => by cases h) (fun _ h => by cases h) (fun h => by cases h) (fun h => by cases h) hkA hkB hkkA hkkB (by simp [refKind]) i1 j1 l1
              (by rw [i2, l2]; show ¬ _ > ((arrV _ m1 _).slots.size : Int); rw [arrV_size]; omega)
              (by rw [j2, l2]; show ¬ _ > ((arrV _ m2 _).slots.size : Int); rw [arrV_size]; omega)
              (fun vm₁ _ q hq => by
                rw [l3] at hq
                rw [i3]
                have e9 : (vp_cell (X.dA 8) (m1, .inl (fun q => Int32.ofNat (xg 32 N1 q)))).slots.getD (i9 + q) .null = .int (Int32.ofNat (xg 32 N1 (i9 + q))) := by
                  show (arrV (X.dA 8) m1 (fun q => .int (Int32.ofNat (xg 32 N1 q)))).slots.getD _ _ = _
                  rw [Array.getD_eq_getD_getElem?, arrV_read _ _ (by omega)]
                  rfl
                rw [e9]
                exact ⟨xby8_ofJ N1 i9 n9 k7 q hq, trivial⟩)
              (g := F0 m (xpc C i) ls (.int (Int32.ofNat n9) :: .int (Int32.ofNat j9) :: .ref (X.E.1 + b9) :: .int (Int32.ofNat i9) :: .ref (X.E.1 + a9) :: s9.map (xr X.E))) rfl (by rw [hml]; exact n4.1) (rest := s9.map (xr X.E)) rfl (by rw [hb]; exact hdg) (by omega)
              (by
                have hw9 : nativeFrameWords "java/lang/System" "arraycopy" 5 ≤ 64 := by decide
                show 2 * 0 + ((s9.map (xr X.E)).map fun v => v.category).sum + (nativeFrameWords "java/lang/System" "arraycopy" 5 + 11) ≤ R.locals
                omega)
            have e1 := va_copied (fun z => Value.int z) (X.dA 8) (X.dA 8) (fun q => Int32.ofNat (xg 32 N1 q)) (fun q => Int32.ofNat (xg 32 N2 q)) (sp := (Int32.ofNat i9).toNatClampNeg) (dp := (Int32.ofNat j9).toNatClampNeg) (n := (Int32.ofNat n9).toNatClampNeg) (n0 := m1) (n1 := m2) (by rw [i3, l3]; exact k3)
            have e2 : (va_cpy (fun q => Int32.ofNat (xg 32 N1 q)) (fun q => Int32.ofNat (xg 32 N2 q)) (Int32.ofNat i9).toNatClampNeg (Int32.ofNat j9).toNatClampNeg (Int32.ofNat n9).toNatClampNeg) = fun q => Int32.ofNat (xg 32 (xcp N1 N2 i9 j9 n9) q) := by
              funext q
              rw [i3, j3, l3, xcp_get]
              unfold va_cpy
              by_cases hq : j9 ≤ q ∧ q < j9 + n9
              · rw [if_pos hq, if_pos hq]
              · rw [if_neg hq, if_neg hq]
            have e3 : copied (vp_cell (X.dA 8) (m1, .inl (fun q => Int32.ofNat (xg 32 N1 q)))) (vp_cell (X.dA 8) (m2, .inl (fun q => Int32.ofNat (xg 32 N2 q)))) (Int32.ofNat i9) (Int32.ofNat j9) (Int32.ofNat n9) = vp_cell (X.dA 8) (m2, .inl (fun q => Int32.ofNat (xg 32 (xcp N1 N2 i9 j9 n9) q))) := by
              rw [← e2]
              exact e1
            rw [e3] at Y2 step
            have hl : X.E.1 + b9 < H.size := (Array.getElem?_eq_some_iff.mp hcb).1
            have hheap : ((T.setVm vm').setCell (X.E.1 + b9) (vp_cell (X.dA 8) (m2, .inl (fun q => Int32.ofNat (xg 32 (xcp N1 N2 i9 j9 n9) q))))).heap = H.setIfInBounds (X.E.1 + b9) (vp_cell (X.dA 8) (m2, .inl (fun q => Int32.ofNat (xg 32 (xcp N1 N2 i9 j9 n9) q)))) := by rw [← hT]; rfl
            obtain ⟨z1, z2, z3⟩ := xset_ok (k9 := 0) (cell' := ((1000 + 8, m2), xcp N1 N2 i9 j9 n9, f2)) (H' := H.setIfInBounds (X.E.1 + b9) (vp_cell (X.dA 8) (m2, .inl (fun q => Int32.ofNat (xg 32 (xcp N1 N2 i9 j9 n9) q))))) hN hbb (by
              rw [xre_a]
              show (H.setIfInBounds (X.E.1 + b9) _)[X.E.1 + b9]? = some _
              simp only [Array.getElem?_setIfInBounds, hl, if_true]
              rfl) (by simp) (fun q hq => by simp [Array.getElem?_setIfInBounds, Ne.symm hq])
            have z4 : ∀ L9 : List Loc, (∀ q ∈ L9, q.base = X.E.1 + b9) → va_S (xA X.E) s.heap (H.setIfInBounds (X.E.1 + b9) (vp_cell (X.dA 8) (m2, .inl (fun q => Int32.ofNat (xg 32 (xcp N1 N2 i9 j9 n9) q))))) (locs ++ L9) := fun L9 hL9 => ⟨z1.1, z1.2.1, fun q hq => by
              rcases List.mem_append.mp hq with h1 | h1
              · exact n1.2.2 q h1
              · rw [hL9 q h1]; exact Nat.le_add_right _ _⟩
            have go := xgo3 (p := p) (l := l) (e := e) (R := R) (s := s) (m := m) (args := args) (below := below) (meth := meth) (c := c) hI hM hF hS hN h hnx (z4 (((vp_cell (X.dA 8) (m1, .inl (fun q => Int32.ofNat (xg 32 N1 q)))).stretch (Int32.ofNat i9).toNatClampNeg (Int32.ofNat n9).toNatClampNeg).zipIdx.map fun q => ⟨X.E.1 + b9, (Int32.ofNat j9).toNatClampNeg + q.2⟩) (fun q hq => by
              obtain ⟨z, -, hz⟩ := List.mem_map.mp hq
              rw [← hz])) z2 z3
            obtain ⟨t, a1, b1⟩ := go _ hheap Y2
            exact ⟨t, step t a1, b1⟩
          · simp only [cond_true, xf_eq, xhset_eq] at h
            have hsum := xcat_sum X.E s9
            obtain ⟨i1, i2, i3⟩ := xnn (n := i9) (by omega)
            obtain ⟨j1, j2, j3⟩ := xnn (n := j9) (by omega)
            obtain ⟨l1, l2, l3⟩ := xnn (n := n9) (by omega)
            have hca : H[X.E.1 + a9]? = some (vp_cell (X.dA 10) (m1, .inl (fun q => Int32.ofNat (xg 32 N1 q)))) := (by have h9 := n3 a9 _ (xrh_get ha); rw [show (1010 : Nat) = 1000 + 10 from rfl, xre_a] at h9; exact h9)
            have hcb : H[X.E.1 + b9]? = some (vp_cell (X.dA 10) (m2, .inl (fun q => Int32.ofNat (xg 32 N2 q)))) := (by have h9 := n3 b9 _ (xrh_get hbb); rw [show (1010 : Nat) = 1000 + 10 from rfl, xre_a] at h9; exact h9)
            obtain ⟨-, kA, hkA, cmA, hkkA⟩ := (hK.2 2 _ rfl).1 m1 (fun q => .int (Int32.ofNat (xg 32 N1 q)))
            obtain ⟨-, kB, hkB, cmB, hkkB⟩ := (hK.2 2 _ rfl).1 m2 (fun q => .int (Int32.ofNat (xg 32 N2 q)))
            intro T hT Y
            obtain ⟨vm', Y2, step⟩ := Y.arraycopy hx hown (hWd _ w1 args) (hWd _ w2 args) (hWd _ w3 args) (hWd _ w4 args) (src := X.E.1 + a9) (dst := X.E.1 + b9) (cs := vp_cell (X.dA 10) (m1, .inl (fun q => Int32.ofNat (xg 32 N1 q)))) (cd := vp_cell (X.dA 10) (m2, .inl (fun q => Int32.ofNat (xg 32 N2 q)))) (srcPos := Int32.ofNat i9) (destPos := Int32.ofNat j9) (n := Int32.ofNat n9) (by rw [hT]; exact hca) (by rw [hT]; exact hcb)
              (fun _ h => by cases h) (fun _ h => by cases h) (fun h => by cases h) (fun h => by cases h) hkA hkB hkkA hkkB (by simp [refKind]) i1 j1 l1
              (by rw [i2, l2]; show ¬ _ > ((arrV _ m1 _).slots.size : Int); rw [arrV_size]; omega)
              (by rw [j2, l2]; show ¬ _ > ((arrV _ m2 _).slots.size : Int); rw [arrV_size]; omega)
              (fun vm₁ _ q hq => by
                rw [l3] at hq
                rw [i3]
                have e9 : (vp_cell (X.dA 10) (m1, .inl (fun q => Int32.ofNat (xg 32 N1 q)))).slots.getD (i9 + q) .null = .int (Int32.ofNat (xg 32 N1 (i9 + q))) := by
                  show (arrV (X.dA 10) m1 (fun q => .int (Int32.ofNat (xg 32 N1 q)))).slots.getD _ _ = _
                  rw [Array.getD_eq_getD_getElem?, arrV_read _ _ (by omega)]
                  rfl
                rw [e9]
                exact ⟨rfl, trivial⟩)
              (g := F0 m (xpc C i) ls (.int (Int32.ofNat n9) :: .int (Int32.ofNat j9) :: .ref (X.E.1 + b9) :: .int (Int32.ofNat i9) :: .ref (X.E.1 + a9) :: s9.map (xr X.E))) rfl (by rw [hml]; exact n4.1) (rest := s9.map (xr X.E)) rfl (by rw [hb]; exact hdg) (by omega)
              (by
                have hw9 : nativeFrameWords "java/lang/System" "arraycopy" 5 ≤ 64 := by decide
                show 2 * 0 + ((s9.map (xr X.E)).map fun v => v.category).sum + (nativeFrameWords "java/lang/System" "arraycopy" 5 + 11) ≤ R.locals
                omega)
            have e1 := va_copied (fun z => Value.int z) (X.dA 10) (X.dA 10) (fun q => Int32.ofNat (xg 32 N1 q)) (fun q => Int32.ofNat (xg 32 N2 q)) (sp := (Int32.ofNat i9).toNatClampNeg) (dp := (Int32.ofNat j9).toNatClampNeg) (n := (Int32.ofNat n9).toNatClampNeg) (n0 := m1) (n1 := m2) (by rw [i3, l3]; exact k3)
            have e2 : (va_cpy (fun q => Int32.ofNat (xg 32 N1 q)) (fun q => Int32.ofNat (xg 32 N2 q)) (Int32.ofNat i9).toNatClampNeg (Int32.ofNat j9).toNatClampNeg (Int32.ofNat n9).toNatClampNeg) = fun q => Int32.ofNat (xg 32 (xcp N1 N2 i9 j9 n9) q) := by
              funext q
              rw [i3, j3, l3, xcp_get]
              unfold va_cpy
              by_cases hq : j9 ≤ q ∧ q < j9 + n9
              · rw [if_pos hq, if_pos hq]
              · rw [if_neg hq, if_neg hq]
            have e3 : copied (vp_cell (X.dA 10) (m1, .inl (fun q => Int32.ofNat (xg 32 N1 q)))) (vp_cell (X.dA 10) (m2, .inl (fun q => Int32.ofNat (xg 32 N2 q)))) (Int32.ofNat i9) (Int32.ofNat j9) (Int32.ofNat n9) = vp_cell (X.dA 10) (m2, .inl (fun q => Int32.ofNat (xg 32 (xcp N1 N2 i9 j9 n9) q))) := by
              rw [← e2]
              exact e1
            rw [e3] at Y2 step
            have hl : X.E.1 + b9 < H.size := (Array.getElem?_eq_some_iff.mp hcb).1
            have hheap : ((T.setVm vm').setCell (X.E.1 + b9) (vp_cell (X.dA 10) (m2, .inl (fun q => Int32.ofNat (xg 32 (xcp N1 N2 i9 j9 n9) q))))).heap = H.setIfInBounds (X.E.1 + b9) (vp_cell (X.dA 10) (m2, .inl (fun q => Int32.ofNat (xg 32 (xcp N1 N2 i9 j9 n9) q)))) := by rw [← hT]; rfl
            obtain ⟨z1, z2, z3⟩ := xset_ok (k9 := 0) (cell' := ((1000 + 10, m2), xcp N1 N2 i9 j9 n9, f2)) (H' := H.setIfInBounds (X.E.1 + b9) (vp_cell (X.dA 10) (m2, .inl (fun q => Int32.ofNat (xg 32 (xcp N1 N2 i9 j9 n9) q))))) hN hbb (by
              rw [xre_a]
              show (H.setIfInBounds (X.E.1 + b9) _)[X.E.1 + b9]? = some _
              simp only [Array.getElem?_setIfInBounds, hl, if_true]
              rfl) (by simp) (fun q hq => by simp [Array.getElem?_setIfInBounds, Ne.symm hq])
            have z4 : ∀ L9 : List Loc, (∀ q ∈ L9, q.base = X.E.1 + b9) → va_S (xA X.E) s.heap (H.setIfInBounds (X.E.1 + b9) (vp_cell (X.dA 10) (m2, .inl (fun q => Int32.ofNat (xg 32 (xcp N1 N2 i9 j9 n9) q))))) (locs ++ L9) := fun L9 hL9 => ⟨z1.1, z1.2.1, fun q hq => by
              rcases List.mem_append.mp hq with h1 | h1
              · exact n1.2.2 q h1
              · rw [hL9 q h1]; exact Nat.le_add_right _ _⟩
            have go := xgo3 (p := p) (l := l) (e := e) (R := R) (s := s) (m := m) (args := args) (below := below) (meth := meth) (c := c) hI hM hF hS hN h hnx (z4 (((vp_cell (X.dA 10) (m1, .inl (fun q => Int32.ofNat (xg 32 N1 q)))).stretch (Int32.ofNat i9).toNatClampNeg (Int32.ofNat n9).toNatClampNeg).zipIdx.map fun q => ⟨X.E.1 + b9, (Int32.ofNat j9).toNatClampNeg + q.2⟩) (fun q hq => by
              obtain ⟨z, -, hz⟩ := List.mem_map.mp hq
              rw [← hz])) z2 z3
            obtain ⟨t, a1, b1⟩ := go _ hheap Y2
            exact ⟨t, step t a1, b1⟩
  · cases h
end XO
