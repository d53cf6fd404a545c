theorem xpv_eq {α : Type} (t n : Nat) (k : xv → α) : xpv t n k = k (t, n) := xf_eq n _
set_option maxRecDepth 100000 in
theorem xiv_of {E : xE} {G : xk} {v : xv} {q : Nat × Nat} (hG : xGk E G) (h : xiv G.2.1 v = some q) : ∃ x, xr E v = .int x ∧ (q.1 : Int) ≤ x.toInt + 2147483648 ∧ x.toInt + 2147483648 ≤ (q.2 : Int) := by
  obtain ⟨t, n⟩ := v
  simp only [xiv, xf_eq, xnth_eq] at h
  split at h
  · have h9 := Option.some.inj h
    subst h9
    have e := i32_toInt n
    exact ⟨_, rfl, by rw [e]; omega, by rw [e]; omega⟩
  · obtain ⟨h1, h2⟩ := hG.2.1 n q h
    exact ⟨_, rfl, h1, h2⟩
  · cases h
theorem xcmp_0 {p q : Nat × Nat} {x y : Int32} {b : Bool} (h : xcmp 0 p q = some b) (h1 : (p.1 : Int) ≤ x.toInt + 2147483648) (h2 : x.toInt + 2147483648 ≤ (p.2 : Int)) (h3 : (q.1 : Int) ≤ y.toInt + 2147483648) (h4 : y.toInt + 2147483648 ≤ (q.2 : Int)) : (x = y) ↔ b = true := by
  rw [← Int32.toInt_inj]
  simp only [xcmp] at h
  cases e1 : Nat.blt p.2 q.1 || Nat.blt q.2 p.1 with
  | true =>
    rw [e1] at h
    cases h
    simp only [Bool.or_eq_true, xblt] at e1
    simp only [Bool.false_eq_true, iff_false]
    omega
  | false =>
    rw [e1] at h
    cases e2 : Nat.beq p.1 p.2 && (Nat.beq q.1 q.2 && Nat.beq p.1 q.1) with
    | true =>
      rw [e2] at h
      cases h
      simp only [Bool.and_eq_true, xbeq] at e2
      simp only [iff_true]
      omega
    | false => rw [e2] at h; cases h
theorem xcmp_1 {p q : Nat × Nat} {x y : Int32} {b : Bool} (h : xcmp 1 p q = some b) (h1 : (p.1 : Int) ≤ x.toInt + 2147483648) (h2 : x.toInt + 2147483648 ≤ (p.2 : Int)) (h3 : (q.1 : Int) ≤ y.toInt + 2147483648) (h4 : y.toInt + 2147483648 ≤ (q.2 : Int)) : (¬ x = y) ↔ b = true := by
  rw [← Int32.toInt_inj]
  simp only [xcmp] at h
  cases e1 : Nat.blt p.2 q.1 || Nat.blt q.2 p.1 with
  | true =>
    rw [e1] at h
    cases h
    simp only [Bool.or_eq_true, xblt] at e1
    simp only [iff_true]
    omega
  | false =>
    rw [e1] at h
    cases e2 : Nat.beq p.1 p.2 && (Nat.beq q.1 q.2 && Nat.beq p.1 q.1) with
    | true =>
      rw [e2] at h
      cases h
      simp only [Bool.and_eq_true, xbeq] at e2
      simp only [Bool.false_eq_true, iff_false]
      omega
    | false => rw [e2] at h; cases h
theorem xcmp_2 {p q : Nat × Nat} {x y : Int32} {b : Bool} (h : xcmp 2 p q = some b) (h1 : (p.1 : Int) ≤ x.toInt + 2147483648) (h2 : x.toInt + 2147483648 ≤ (p.2 : Int)) (h3 : (q.1 : Int) ≤ y.toInt + 2147483648) (h4 : y.toInt + 2147483648 ≤ (q.2 : Int)) : (x < y) ↔ b = true := by
  rw [Int32.lt_iff_toInt_lt]
  simp only [xcmp] at h
  cases e1 : Nat.blt p.2 q.1 with
  | true =>
    rw [e1] at h
    cases h
    rw [xblt] at e1
    simp only [iff_true]
    omega
  | false =>
    rw [e1] at h
    cases e2 : Nat.ble q.2 p.1 with
    | true =>
      rw [e2] at h
      cases h
      rw [xble] at e2
      simp only [Bool.false_eq_true, iff_false]
      omega
    | false => rw [e2] at h; cases h
theorem xcmp_3 {p q : Nat × Nat} {x y : Int32} {b : Bool} (h : xcmp 3 p q = some b) (h1 : (p.1 : Int) ≤ x.toInt + 2147483648) (h2 : x.toInt + 2147483648 ≤ (p.2 : Int)) (h3 : (q.1 : Int) ≤ y.toInt + 2147483648) (h4 : y.toInt + 2147483648 ≤ (q.2 : Int)) : (y ≤ x) ↔ b = true := by
  rw [Int32.le_iff_toInt_le]
  simp only [xcmp] at h
  cases e1 : Nat.blt p.2 q.1 with
  | true =>
    rw [e1] at h
    cases h
    rw [xblt] at e1
    simp only [Bool.false_eq_true, iff_false]
    omega
  | false =>
    rw [e1] at h
    cases e2 : Nat.ble q.2 p.1 with
    | true =>
      rw [e2] at h
      cases h
      rw [xble] at e2
      simp only [iff_true]
      omega
    | false => rw [e2] at h; cases h
theorem xcmp_4 {p q : Nat × Nat} {x y : Int32} {b : Bool} (h : xcmp 4 p q = some b) (h1 : (p.1 : Int) ≤ x.toInt + 2147483648) (h2 : x.toInt + 2147483648 ≤ (p.2 : Int)) (h3 : (q.1 : Int) ≤ y.toInt + 2147483648) (h4 : y.toInt + 2147483648 ≤ (q.2 : Int)) : (y < x) ↔ b = true := by
  rw [Int32.lt_iff_toInt_lt]
  simp only [xcmp] at h
  cases e1 : Nat.blt q.2 p.1 with
  | true =>
    rw [e1] at h
    cases h
    rw [xblt] at e1
    simp only [iff_true]
    omega
  | false =>
    rw [e1] at h
    cases e2 : Nat.ble p.2 q.1 with
    | true =>
      rw [e2] at h
      cases h
      rw [xble] at e2
      simp only [Bool.false_eq_true, iff_false]
      omega
    | false => rw [e2] at h; cases h
theorem xcmp_5 {p q : Nat × Nat} {x y : Int32} {b : Bool} (h : xcmp 5 p q = some b) (h1 : (p.1 : Int) ≤ x.toInt + 2147483648) (h2 : x.toInt + 2147483648 ≤ (p.2 : Int)) (h3 : (q.1 : Int) ≤ y.toInt + 2147483648) (h4 : y.toInt + 2147483648 ≤ (q.2 : Int)) : (x ≤ y) ↔ b = true := by
  rw [Int32.le_iff_toInt_le]
  simp only [xcmp] at h
  cases e1 : Nat.blt q.2 p.1 with
  | true =>
    rw [e1] at h
    cases h
    rw [xblt] at e1
    simp only [Bool.false_eq_true, iff_false]
    omega
  | false =>
    rw [e1] at h
    cases e2 : Nat.ble p.2 q.1 with
    | true =>
      rw [e2] at h
      cases h
      rw [xble] at e2
      simp only [iff_true]
      omega
    | false => rw [e2] at h; cases h
def xv7 (cb : ByteArray) (C i : Nat) : Bool := xnx C i 3 && (match xru (xrow C i) with
  | 0 => xd cb (xpc C i) (.ifCond .eq ((xpc C (xrv (xrow C i)) : Int) - (xpc C i : Int))) 3
  | 1 => xd cb (xpc C i) (.ifCond .ne ((xpc C (xrv (xrow C i)) : Int) - (xpc C i : Int))) 3
  | 2 => xd cb (xpc C i) (.ifCond .lt ((xpc C (xrv (xrow C i)) : Int) - (xpc C i : Int))) 3
  | 3 => xd cb (xpc C i) (.ifCond .ge ((xpc C (xrv (xrow C i)) : Int) - (xpc C i : Int))) 3
  | 4 => xd cb (xpc C i) (.ifCond .gt ((xpc C (xrv (xrow C i)) : Int) - (xpc C i : Int))) 3
  | 5 => xd cb (xpc C i) (.ifCond .le ((xpc C (xrv (xrow C i)) : Int) - (xpc C i : Int))) 3
  | _ => false)
def xv8 (cb : ByteArray) (C i : Nat) : Bool := xnx C i 3 && (match xru (xrow C i) with
  | 0 => xd cb (xpc C i) (.if_icmp .eq ((xpc C (xrv (xrow C i)) : Int) - (xpc C i : Int))) 3
  | 1 => xd cb (xpc C i) (.if_icmp .ne ((xpc C (xrv (xrow C i)) : Int) - (xpc C i : Int))) 3
  | 2 => xd cb (xpc C i) (.if_icmp .lt ((xpc C (xrv (xrow C i)) : Int) - (xpc C i : Int))) 3
  | 3 => xd cb (xpc C i) (.if_icmp .ge ((xpc C (xrv (xrow C i)) : Int) - (xpc C i : Int))) 3
  | 4 => xd cb (xpc C i) (.if_icmp .gt ((xpc C (xrv (xrow C i)) : Int) - (xpc C i : Int))) 3
  | 5 => xd cb (xpc C i) (.if_icmp .le ((xpc C (xrv (xrow C i)) : Int) - (xpc C i : Int))) 3
  | _ => false)
def xv9 (cb : ByteArray) (C i : Nat) : Bool := xd cb (xpc C i) (.goto ((xpc C (xrv (xrow C i)) : Int) - (xpc C i : Int))) 3
def xv5 (cb : ByteArray) (C i : Nat) : Bool := xnx C i 1 && (match xru (xrow C i) with
  | 0 => xd cb (xpc C i) .ineg 1
  | 1 => xd cb (xpc C i) .i2l 1
  | 2 => xd cb (xpc C i) .l2i 1
  | 3 => xd cb (xpc C i) .i2b 1
  | 4 => xd cb (xpc C i) .i2c 1
  | _ => false)
def xv6 (cb : ByteArray) (C i : Nat) : Bool := xnx C i 1 && (match xru (xrow C i) with
  | 0 => xd cb (xpc C i) .dup 1
  | 1 => xd cb (xpc C i) .pop 1
  | 2 => xd cb (xpc C i) .dup2 1
  | 3 => xd cb (xpc C i) .pop2 1
  | _ => false)
section XO
variable {X : xFix} {ih : xrec} {C i : Nat} {lv : xl} {st : List xv} {hp : xh} {bc bs d : Nat} {out : (Nat × xv) × xh × Nat × Nat} {j : Nat} {y : MethodName} {cb : ByteArray} {maxL : Nat} {ret : Option FieldType} {hs : List (Nat × Nat × Nat × Nat)}
  {p : Program} {l : Launch} {e : Env} {R : Room} {s : State} {m : MethodId} {args : Array Value} {below : List Frame} {meth : Method} {c : Code} {H : Heap} {locs : List Loc} {cells slots : Nat} {ls : Array Slot}

theorem ok4 (hI : xIH X ih) (hM : xMe X j C y cb maxL ret hs) (hF : xF p e s m meth c y cb maxL ret hs) (hS : xS X s) (hN : xN X R s H locs cells slots ls maxL lv hp bc bs d) (hv : xv4 cb C i = true) (h : xh4 X.P X.G ih C (xrow C i) (i + 1) lv st hp bc bs d = some out) : W p l e R s m args below meth c H locs cells slots (xEnd X R s below out) (F0 m (xpc C i) ls (st.map (xr X.E))) := by
  simp only [xh4, xf_eq] at h
  obtain ⟨hx, hb, -⟩ := id hF
  simp only [xv4, Bool.and_eq_true] at hv
  obtain ⟨hnx, hv⟩ := hv
  have hnx := xnx_of hnx
  generalize xru (xrow C i) = u at h hv
  split at h
  · rename_i y9 x9 s9
    cases hz : xb u x9 y9 with
    | none => rw [hz] at h; cases h
    | some z =>
      rw [hz] at h
      simp only [xpv_eq] at h
      have go := xgo (p := p) (l := l) (e := e) (R := R) (s := s) (m := m) (args := args) (below := below) (meth := meth) (c := c) hI hM hF hS hN h hnx
      match u, hv, hz with
      | 0, hv, hz => cases hz; exact lv_iadd hx hb (xd_of hv) (by rw [i32_add]; exact go)
      | 1, hv, hz => cases hz; exact lv_isub hx hb (xd_of hv) (by rw [i32_sub]; exact go)
      | 2, hv, hz => cases hz; exact lv_imul hx hb (xd_of hv) (by rw [i32_mul]; exact go)
      | 3, hv, hz => cases hz; exact lv_iand hx hb (xd_of hv) (by rw [i32_and]; exact go)
      | 4, hv, hz => cases hz; exact lv_ior hx hb (xd_of hv) (by rw [i32_or]; exact go)
      | 5, hv, hz => cases hz; exact lv_ixor hx hb (xd_of hv) (by rw [i32_xor]; exact go)
      | 6, hv, hz =>
        simp only [xb] at hz
        cases hc : Nat.blt y9 32 && Nat.blt (Nat.shiftLeft x9 y9) xM with
        | false => rw [hc] at hz; cases hz
        | true =>
          rw [hc] at hz
          cases hz
          simp only [Bool.and_eq_true, xblt] at hc
          exact lv_ishl hx hb (xd_of hv) (by rw [i32_shl hc.1 hc.2]; exact go)
      | 7, hv, hz =>
        simp only [xb] at hz
        cases hc : Nat.blt y9 32 && Nat.blt x9 2147483648 with
        | false => rw [hc] at hz; cases hz
        | true =>
          rw [hc] at hz
          cases hz
          simp only [Bool.and_eq_true, xblt] at hc
          exact lv_ishr hx hb (xd_of hv) (by rw [i32_shr hc.1 hc.2]; exact go)
      | 8, hv, hz =>
        simp only [xb] at hz
        cases hc : Nat.blt y9 32 && Nat.blt x9 xM with
        | false => rw [hc] at hz; cases hz
        | true =>
          rw [hc] at hz
          cases hz
          simp only [Bool.and_eq_true, xblt] at hc
          exact lv_iushr hx hb (xd_of hv) (i32_ushr hc.1 hc.2) go
      | 9, hv, hz =>
        simp only [xb] at hz
        cases hc : Nat.blt x9 2147483648 && (Nat.blt y9 2147483648 && Nat.blt 0 y9) with
        | false => rw [hc] at hz; cases hz
        | true =>
          rw [hc] at hz
          cases hz
          simp only [Bool.and_eq_true, xblt] at hc
          exact lv_idiv hx hb (xd_of hv) (i32_ne0 hc.2.1 hc.2.2) (by rw [i32_div hc.1 hc.2.1 hc.2.2]; exact go)
      | 10, hv, hz =>
        simp only [xb] at hz
        cases hc : Nat.blt x9 2147483648 && (Nat.blt y9 2147483648 && Nat.blt 0 y9) with
        | false => rw [hc] at hz; cases hz
        | true =>
          rw [hc] at hz
          cases hz
          simp only [Bool.and_eq_true, xblt] at hc
          exact lv_irem hx hb (xd_of hv) (i32_ne0 hc.2.1 hc.2.2) (by rw [i32_rem hc.1 hc.2.1 hc.2.2]; exact go)
      | k + 11, hv, _ => cases hv
  · rename_i y9 j9 s9
    cases hc : Nat.beq u 3 && (Nat.beq y9 31 && (Nat.beq j9 0 && Nat.blt X.G.1.1 32)) with
    | false =>
      rw [hc] at h
      simp only [cond_false] at h
      cases h
    | true =>
      rw [hc] at h
      simp only [Bool.and_eq_true, xbeq, xblt] at hc
      obtain ⟨rfl, rfl, rfl, h32⟩ := hc
      have go := xgo (p := p) (l := l) (e := e) (R := R) (s := s) (m := m) (args := args) (below := below) (meth := meth) (c := c) hI hM hF hS hN h hnx
      refine lv_iand hx hb (xd_of hv) ?_
      have e1 : (X.E.2.1 0 &&& Int32.ofNat 31) = Int32.ofNat X.G.1.1 := hS.2.2.2.2.1.1.resolve_left (by omega)
      rw [e1]
      exact go
  · cases h
theorem ok9 (hI : xIH X ih) (hM : xMe X j C y cb maxL ret hs) (hF : xF p e s m meth c y cb maxL ret hs) (hS : xS X s) (hN : xN X R s H locs cells slots ls maxL lv hp bc bs d) (hv : xv9 cb C i = true) (h : xh9 X.P X.G ih C (xrow C i) (i + 1) lv st hp bc bs d = some out) : W p l e R s m args below meth c H locs cells slots (xEnd X R s below out) (F0 m (xpc C i) ls (st.map (xr X.E))) := by
  simp only [xh9, xf_eq] at h
  obtain ⟨hx, hb, -⟩ := id hF
  exact lv_goto hx hb (xd_of hv) (by omega) (xgo hI hM hF hS hN h rfl)
theorem ok6 (hI : xIH X ih) (hM : xMe X j C y cb maxL ret hs) (hF : xF p e s m meth c y cb maxL ret hs) (hS : xS X s) (hN : xN X R s H locs cells slots ls maxL lv hp bc bs d) (hv : xv6 cb C i = true) (h : xh6 X.P X.G ih C (xrow C i) (i + 1) lv st hp bc bs d = some out) : W p l e R s m args below meth c H locs cells slots (xEnd X R s below out) (F0 m (xpc C i) ls (st.map (xr X.E))) := by
  simp only [xh6, xf_eq] at h
  obtain ⟨hx, hb, -⟩ := id hF
  simp only [xv6, Bool.and_eq_true] at hv
  obtain ⟨hnx, hv⟩ := hv
  have hnx := xnx_of hnx
  generalize xru (xrow C i) = u at h hv
  split at h
  · rename_i x9 s9
    cases hc : Nat.beq (xcat x9) 1 with
    | false => rw [hc] at h; cases h
    | true =>
      rw [hc] at h
      exact lv_dup hx hb (xd_of hv) (by rw [xr_cat]; exact xbeq.mp hc) (xgo hI hM hF hS hN h hnx)
  · rename_i x9 s9
    cases hc : Nat.beq (xcat x9) 1 with
    | false => rw [hc] at h; cases h
    | true =>
      rw [hc] at h
      exact lv_pop hx hb (xd_of hv) (by rw [xr_cat]; exact xbeq.mp hc) (xgo hI hM hF hS hN h hnx)
  · rename_i x9 y9 s9
    cases hc : Nat.beq (xcat x9) 1 && Nat.beq (xcat y9) 1 with
    | false => rw [hc] at h; cases h
    | true =>
      rw [hc] at h
      simp only [Bool.and_eq_true, xbeq] at hc
      exact lv_dup2_11 hx hb (xd_of hv) (by rw [xr_cat]; exact hc.1) (by rw [xr_cat]; exact hc.2) (xgo hI hM hF hS hN h hnx)
  · rename_i x9 s9
    cases hc : Nat.beq (xcat x9) 2 with
    | false => rw [hc] at h; cases h
    | true =>
      rw [hc] at h
      exact lv_pop2_2 hx hb (xd_of hv) (by rw [xr_cat]; exact xbeq.mp hc) (xgo hI hM hF hS hN h hnx)
  · cases h
theorem ok7 (hI : xIH X ih) (hM : xMe X j C y cb maxL ret hs) (hF : xF p e s m meth c y cb maxL ret hs) (hS : xS X s) (hN : xN X R s H locs cells slots ls maxL lv hp bc bs d) (hv : xv7 cb C i = true) (h : xh7 X.P X.G ih C (xrow C i) (i + 1) lv st hp bc bs d = some out) : W p l e R s m args below meth c H locs cells slots (xEnd X R s below out) (F0 m (xpc C i) ls (st.map (xr X.E))) := by
  simp only [xh7, xf_eq] at h
  obtain ⟨hx, hb, -⟩ := id hF
  simp only [xv7, Bool.and_eq_true] at hv
  obtain ⟨hnx, hv⟩ := hv
  have hnx := xnx_of hnx
  have hG := hS.2.2.2.2.1
  generalize xru (xrow C i) = u at h hv
  match st, h with
  | [], h => cases h
  | x9 :: s9, h =>
    cases hp9 : xiv X.G.2.1 x9 with
    | none => simp only [hp9] at h; cases h
    | some q9 =>
      simp only [hp9] at h
      obtain ⟨x, ex, h1, h2⟩ := xiv_of hG hp9
      cases hc : xcmp u q9 (2147483648, 2147483648) with
      | none => simp only [hc] at h; cases h
      | some b9 =>
        simp only [hc] at h
        have z1 : ((2147483648 : Nat) : Int) ≤ (0 : Int32).toInt + 2147483648 := by decide
        have z2 : (0 : Int32).toInt + 2147483648 ≤ ((2147483648 : Nat) : Int) := by decide
        show W p l e R s m args below meth c H locs cells slots (xEnd X R s below out) (F0 m (xpc C i) ls (xr X.E x9 :: s9.map (xr X.E)))
        rw [ex]
        have gt : b9 = true → W p l e R s m args below meth c H locs cells slots (xEnd X R s below out) (F0 m (xpc C (xrv (xrow C i))) ls (s9.map (xr X.E))) := fun hb9 => by subst hb9; exact xgo hI hM hF hS hN h rfl
        have gf : b9 = false → W p l e R s m args below meth c H locs cells slots (xEnd X R s below out) (F0 m (xpc C i + 3) ls (s9.map (xr X.E))) := fun hb9 => by subst hb9; exact xgo hI hM hF hS hN h hnx
        match u, hv, hc with
        | 0, hv, hc => exact lv_if_eq hx hb (xd_of hv) (by omega) (fun q => gt ((xcmp_0 hc h1 h2 z1 z2).mp q)) (fun q => gf (Bool.eq_false_iff.mpr (fun w => q ((xcmp_0 hc h1 h2 z1 z2).mpr w))))
        | 1, hv, hc => exact lv_if_ne hx hb (xd_of hv) (by omega) (fun q => gt ((xcmp_1 hc h1 h2 z1 z2).mp q)) (fun q => gf (Bool.eq_false_iff.mpr (fun w => (xcmp_1 hc h1 h2 z1 z2).mpr w q)))
        | 2, hv, hc => exact lv_if_lt hx hb (xd_of hv) (by omega) (fun q => gt ((xcmp_2 hc h1 h2 z1 z2).mp q)) (fun q => gf (Bool.eq_false_iff.mpr (fun w => q ((xcmp_2 hc h1 h2 z1 z2).mpr w))))
        | 3, hv, hc => exact lv_if_ge hx hb (xd_of hv) (by omega) (fun q => gt ((xcmp_3 hc h1 h2 z1 z2).mp q)) (fun q => gf (Bool.eq_false_iff.mpr (fun w => q ((xcmp_3 hc h1 h2 z1 z2).mpr w))))
        | 4, hv, hc => exact lv_if_gt hx hb (xd_of hv) (by omega) (fun q => gt ((xcmp_4 hc h1 h2 z1 z2).mp q)) (fun q => gf (Bool.eq_false_iff.mpr (fun w => q ((xcmp_4 hc h1 h2 z1 z2).mpr w))))
        | 5, hv, hc => exact lv_if_le hx hb (xd_of hv) (by omega) (fun q => gt ((xcmp_5 hc h1 h2 z1 z2).mp q)) (fun q => gf (Bool.eq_false_iff.mpr (fun w => q ((xcmp_5 hc h1 h2 z1 z2).mpr w))))
        | k + 6, hv, _ => cases hv
theorem ok8 (hI : xIH X ih) (hM : xMe X j C y cb maxL ret hs) (hF : xF p e s m meth c y cb maxL ret hs) (hS : xS X s) (hN : xN X R s H locs cells slots ls maxL lv hp bc bs d) (hv : xv8 cb C i = true) (h : xh8 X.P X.G ih C (xrow C i) (i + 1) lv st hp bc bs d = some out) : W p l e R s m args below meth c H locs cells slots (xEnd X R s below out) (F0 m (xpc C i) ls (st.map (xr X.E))) := by
  simp only [xh8, xf_eq] at h
  obtain ⟨hx, hb, -⟩ := id hF
  simp only [xv8, Bool.and_eq_true] at hv
  obtain ⟨hnx, hv⟩ := hv
  have hnx := xnx_of hnx
  have hG := hS.2.2.2.2.1
  generalize xru (xrow C i) = u at h hv
  match st, h with
  | [], h => cases h
  | [_], h => cases h
  | y9 :: x9 :: s9, h =>
    cases hp9 : xiv X.G.2.1 x9 with
    | none => simp only [hp9] at h; cases h
    | some q9 =>
      cases hr9 : xiv X.G.2.1 y9 with
      | none => simp only [hp9, hr9] at h; cases h
      | some r9 =>
        simp only [hp9, hr9] at h
        obtain ⟨x, ex, h1, h2⟩ := xiv_of hG hp9
        obtain ⟨y8, ey, z1, z2⟩ := xiv_of hG hr9
        cases hc : xcmp u q9 r9 with
        | none => simp only [hc] at h; cases h
        | some b9 =>
          simp only [hc] at h
          show W p l e R s m args below meth c H locs cells slots (xEnd X R s below out) (F0 m (xpc C i) ls (xr X.E y9 :: xr X.E x9 :: s9.map (xr X.E)))
          rw [ex, ey]
          have gt : b9 = true → W p l e R s m args below meth c H locs cells slots (xEnd X R s below out) (F0 m (xpc C (xrv (xrow C i))) ls (s9.map (xr X.E))) := fun hb9 => by subst hb9; exact xgo hI hM hF hS hN h rfl
          have gf : b9 = false → W p l e R s m args below meth c H locs cells slots (xEnd X R s below out) (F0 m (xpc C i + 3) ls (s9.map (xr X.E))) := fun hb9 => by subst hb9; exact xgo hI hM hF hS hN h hnx
          match u, hv, hc with
          | 0, hv, hc => exact lv_icmp_eq hx hb (xd_of hv) (by omega) (fun q => gt ((xcmp_0 hc h1 h2 z1 z2).mp q)) (fun q => gf (Bool.eq_false_iff.mpr (fun w => q ((xcmp_0 hc h1 h2 z1 z2).mpr w))))
          | 1, hv, hc => exact lv_icmp_ne hx hb (xd_of hv) (by omega) (fun q => gt ((xcmp_1 hc h1 h2 z1 z2).mp q)) (fun q => gf (Bool.eq_false_iff.mpr (fun w => (xcmp_1 hc h1 h2 z1 z2).mpr w q)))
          | 2, hv, hc => exact lv_icmp_lt hx hb (xd_of hv) (by omega) (fun q => gt ((xcmp_2 hc h1 h2 z1 z2).mp q)) (fun q => gf (Bool.eq_false_iff.mpr (fun w => q ((xcmp_2 hc h1 h2 z1 z2).mpr w))))
          | 3, hv, hc => exact lv_icmp_ge hx hb (xd_of hv) (by omega) (fun q => gt ((xcmp_3 hc h1 h2 z1 z2).mp q)) (fun q => gf (Bool.eq_false_iff.mpr (fun w => q ((xcmp_3 hc h1 h2 z1 z2).mpr w))))
          | 4, hv, hc => exact lv_icmp_gt hx hb (xd_of hv) (by omega) (fun q => gt ((xcmp_4 hc h1 h2 z1 z2).mp q)) (fun q => gf (Bool.eq_false_iff.mpr (fun w => q ((xcmp_4 hc h1 h2 z1 z2).mpr w))))
          | 5, hv, hc => exact lv_icmp_le hx hb (xd_of hv) (by omega) (fun q => gt ((xcmp_5 hc h1 h2 z1 z2).mp q)) (fun q => gf (Bool.eq_false_iff.mpr (fun w => q ((xcmp_5 hc h1 h2 z1 z2).mpr w))))
          | k + 6, hv, _ => cases hv
theorem ok5 (hI : xIH X ih) (hM : xMe X j C y cb maxL ret hs) (hF : xF p e s m meth c y cb maxL ret hs) (hS : xS X s) (hN : xN X R s H locs cells slots ls maxL lv hp bc bs d) (hv : xv5 cb C i = true) (h : xh5 X.P X.G ih C (xrow C i) (i + 1) lv st hp bc bs d = some out) : W p l e R s m args below meth c H locs cells slots (xEnd X R s below out) (F0 m (xpc C i) ls (st.map (xr X.E))) := by
  simp only [xh5, xf_eq] at h
  obtain ⟨hx, hb, -⟩ := id hF
  simp only [xv5, Bool.and_eq_true] at hv
  obtain ⟨hnx, hv⟩ := hv
  have hnx := xnx_of hnx
  obtain ⟨-, -, -, g4, -, -, g7, g8, -⟩ := hS.2.2.2.2.1
  generalize xru (xrow C i) = u at h hv
  match st, h with
  | [], h => cases h
  | (t9, n9) :: s9, h =>
    simp only [xun] at h
    split at h
    · simp only [xpv_eq] at h
      exact lv_ineg hx hb (xd_of hv) (by rw [i32_neg]; exact xgo hI hM hF hS hN h hnx)
    · cases hc : Nat.blt n9 xM with
      | false => rw [hc] at h; cases h
      | true =>
        rw [hc] at h
        simp only [cond_true, xpv_eq] at h
        exact lv_i2l hx hb (xd_of hv) (i32_i2l (xblt.mp hc)) (xgo hI hM hF hS hN h hnx)
    · simp only [xpv_eq] at h
      cases hc : Nat.blt n9 16 with
      | true =>
        rw [hc] at h
        exact lv_i2l hx hb (xd_of hv) ((g4 n9 (xblt.mp hc)).1.symm) (xgo hI hM hF hS hN h hnx)
      | false =>
        rw [hc] at h
        cases hc5 : Nat.ble 8192 n9 && Nat.blt n9 8704 with
        | false => rw [hc5] at h; cases h
        | true =>
          rw [hc5] at h
          simp only [Bool.and_eq_true, xble, xblt] at hc5
          obtain ⟨q, rfl⟩ := Nat.exists_eq_add_of_le hc5.1
          have e9 : 8192 + q - 7680 = q + 512 := by omega
          simp only [cond_false, cond_true, e9] at h
          exact lv_i2l hx hb (xd_of hv) (by rw [Nat.add_comm 8192 q]; exact (g8 q (by omega)).symm) (xgo hI hM hF hS hN h hnx)
    · simp only [xpv_eq] at h
      exact lv_l2i hx hb (xd_of hv) (i64_l2i n9) (xgo hI hM hF hS hN h hnx)
    · simp only [xpv_eq] at h
      exact lv_l2i hx hb (xd_of hv) ((g7 n9).symm) (xgo hI hM hF hS hN h hnx)
    · simp only [xpv_eq] at h
      exact lv_i2b hx hb (xd_of hv) (i32_i2b n9) (xgo hI hM hF hS hN h hnx)
    · simp only [xpv_eq] at h
      exact lv_i2c hx hb (xd_of hv) (i32_i2c n9) (xgo hI hM hF hS hN h hnx)
    · cases h
end XO
