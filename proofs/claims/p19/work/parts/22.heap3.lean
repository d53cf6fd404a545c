theorem xcl {n : Nat} (h : n < 2147483648) : (Int32.ofNat n).toNatClampNeg = n := nI_clamp h
theorem xin {i n : Nat} (h : i < n) (hn : n < 1048576) : vp_in (Int32.ofNat i) n := vp_in_nI h (Nat.lt_trans hn (by decide))
theorem xld_eq {α : Type} {E : xE} {G : xk} (hG : xGk E G) (i : Nat) (k : xv → α) : ∃ q, xld G (4, i) k = k q ∧ xr E q = xr E (4, i) := by
  simp only [xld, xnth_eq]
  cases hb : G.2.1[i]? with
  | none => exact ⟨_, rfl, rfl⟩
  | some p =>
    cases he : Nat.beq p.1 p.2 with
    | false => exact ⟨(4, i), by simp [he], rfl⟩
    | true =>
      refine ⟨(0, (p.1 + 2147483648) % xM), by simp [he, xpv_eq], ?_⟩
      obtain ⟨h1, h2⟩ := hG.2.1 i p hb
      have he := xbeq.mp he
      have e9 : Int32.ofNat ((p.1 + 2147483648) % xM) = E.2.1 i := by
        apply Int32.toInt_inj.mp
        rw [i32_toInt]
        have hl := Int32.le_toInt (E.2.1 i)
        have hh := Int32.toInt_lt (E.2.1 i)
        unfold xbi xM
        omega
      exact congrArg Value.int e9
theorem cb_le (t : ArrayType) : componentBytes (newarray.typeOf t) ≤ 8 := by cases t <;> decide
theorem xby {m9 : Nat} (h : m9 < 1048576) (t : ArrayType) : m9 * componentBytes (newarray.typeOf t) ≤ 536870912 := by
  have := Nat.mul_le_mul_left m9 (cb_le t)
  omega
section XO
variable {X : xFix} {ih : xrec} {C i : Nat} {lv : xl} {st : List xv} {hp : xh} {bc bs d : Nat} {out : (Nat × xv) × xh × Nat × Nat} {j : Nat} {y : MethodName} {cb : ByteArray} {maxL : Nat} {ret : Option FieldType} {hs : List (Nat × Nat × Nat × Nat)}
  {p : Program} {l : Launch} {e : Env} {R : Room} {s : State} {m : MethodId} {args : Array Value} {below : List Frame} {meth : Method} {c : Code} {H : Heap} {locs : List Loc} {cells slots : Nat} {ls : Array Slot}

theorem ok13 (hI : xIH X ih) (hM : xMe X j C y cb maxL ret hs) (hF : xF p e s m meth c y cb maxL ret hs) (hS : xS X s) (hN : xN X R s H locs cells slots ls maxL lv hp bc bs d) (hv : xv13 cb X.Ws C i = true) (h : xh13 X.P X.G ih C (xrow C i) (i + 1) lv st hp bc bs d = some out) : W p l e R s m args below meth c H locs cells slots (xEnd X R s below out) (F0 m (xpc C i) ls (st.map (xr X.E))) := by
  simp only [xh13, xf_eq, xhpush_eq] at h
  obtain ⟨hx, hb, -, -, -, hnm, hown, -⟩ := id hF
  obtain ⟨hWd, hK, -⟩ := id hS
  obtain ⟨hSS, hsz, hP, -, hbc, hbs, -⟩ := id hN
  simp only [xv13, Bool.and_eq_true] at hv
  obtain ⟨hnx, hv⟩ := hv
  have hnx := xnx_of hnx
  generalize xru (xrow C i) = u at h hv
  split at h
  · rename_i m9 s9
    cases hc : Nat.ble 1 bc && (Nat.ble m9 bs && Nat.blt m9 1048576) with
    | false => rw [hc] at h; cases h
    | true =>
      rw [hc] at h
      simp only [Bool.and_eq_true, xble, xblt] at hc
      simp only [cond_true] at h
      have hn0 : ¬ (Int32.ofNat m9 < 0) := nI_pos (by omega)
      split at hv
      · simp only [Bool.and_eq_true, decide_eq_true_eq] at hv
        refine va_newaK (atype := .boolean) hx hb (hWd _ hv.2 args) rfl (xd_of hv.1) rfl hn0 (xcl (by omega)) (xby hc.2.2 _) (by omega) (by omega) rfl fun H1 cA e1 z1 o1 hAr hNm => ?_
        have hcA : cA = X.dA 4 := Option.some.inj (hNm.symm.trans (hK.2 0 _ rfl).2)
        subst hcA
        have hat : va_at X.D X.cl (X.E.1 + hp.length, xre X.E X.dA ((1000 + 4, m9), 0, [])) H1 := by
          rw [xre_a, ← hsz]
          show H1[H.size]? = some (arrV (X.dA 4) m9 (fun q => Value.int (Int32.ofNat (xg 32 0 q))))
          have e8 : (fun q : Nat => Value.int (Int32.ofNat (xg 32 0 q))) = fun _ => defaultValue (newarray.typeOf .boolean) := by
            funext q
            rw [xg_zero]
            rfl
          rw [e8]
          exact e1
        have go := xgo4 (p := p) (l := l) (e := e) (R := R) (s := s) (m := m) (args := args) (below := below) (meth := meth) (c := c) (n9 := m9) hI hM hF hS hN h hnx (by omega) (by omega) hat z1 o1
        have e9 : xr X.E (2, hp.length) = .ref H.size := by rw [hsz]; rfl
        rw [List.map_cons, e9] at go
        exact go
      · simp only [Bool.and_eq_true, decide_eq_true_eq] at hv
        refine va_newaK (atype := .byte) hx hb (hWd _ hv.2 args) rfl (xd_of hv.1) rfl hn0 (xcl (by omega)) (xby hc.2.2 _) (by omega) (by omega) rfl fun H1 cA e1 z1 o1 hAr hNm => ?_
        have hcA : cA = X.dA 8 := Option.some.inj (hNm.symm.trans (hK.2 1 _ rfl).2)
        subst hcA
        have hat : va_at X.D X.cl (X.E.1 + hp.length, xre X.E X.dA ((1000 + 8, m9), 0, [])) H1 := by
          rw [xre_a, ← hsz]
          show H1[H.size]? = some (arrV (X.dA 8) m9 (fun q => Value.int (Int32.ofNat (xg 32 0 q))))
          have e8 : (fun q : Nat => Value.int (Int32.ofNat (xg 32 0 q))) = fun _ => defaultValue (newarray.typeOf .byte) := by
            funext q
            rw [xg_zero]
            rfl
          rw [e8]
          exact e1
        have go := xgo4 (p := p) (l := l) (e := e) (R := R) (s := s) (m := m) (args := args) (below := below) (meth := meth) (c := c) (n9 := m9) hI hM hF hS hN h hnx (by omega) (by omega) hat z1 o1
        have e9 : xr X.E (2, hp.length) = .ref H.size := by rw [hsz]; rfl
        rw [List.map_cons, e9] at go
        exact go
      · simp only [Bool.and_eq_true, decide_eq_true_eq] at hv
        refine va_newaK (atype := .int) hx hb (hWd _ hv.2 args) rfl (xd_of hv.1) rfl hn0 (xcl (by omega)) (xby hc.2.2 _) (by omega) (by omega) rfl fun H1 cA e1 z1 o1 hAr hNm => ?_
        have hcA : cA = X.dA 10 := Option.some.inj (hNm.symm.trans (hK.2 2 _ rfl).2)
        subst hcA
        have hat : va_at X.D X.cl (X.E.1 + hp.length, xre X.E X.dA ((1000 + 10, m9), 0, [])) H1 := by
          rw [xre_a, ← hsz]
          show H1[H.size]? = some (arrV (X.dA 10) m9 (fun q => Value.int (Int32.ofNat (xg 32 0 q))))
          have e8 : (fun q : Nat => Value.int (Int32.ofNat (xg 32 0 q))) = fun _ => defaultValue (newarray.typeOf .int) := by
            funext q
            rw [xg_zero]
            rfl
          rw [e8]
          exact e1
        have go := xgo4 (p := p) (l := l) (e := e) (R := R) (s := s) (m := m) (args := args) (below := below) (meth := meth) (c := c) (n9 := m9) hI hM hF hS hN h hnx (by omega) (by omega) hat z1 o1
        have e9 : xr X.E (2, hp.length) = .ref H.size := by rw [hsz]; rfl
        rw [List.map_cons, e9] at go
        exact go
      · simp only [Bool.and_eq_true, decide_eq_true_eq] at hv
        refine va_newaK (atype := .long) hx hb (hWd _ hv.2 args) rfl (xd_of hv.1) rfl hn0 (xcl (by omega)) (xby hc.2.2 _) (by omega) (by omega) rfl fun H1 cA e1 z1 o1 hAr hNm => ?_
        have hcA : cA = X.dA 11 := Option.some.inj (hNm.symm.trans (hK.2 3 _ rfl).2)
        subst hcA
        have hat : va_at X.D X.cl (X.E.1 + hp.length, xre X.E X.dA ((1000 + 11, m9), 0, [])) H1 := by
          rw [xre_a, ← hsz]
          show H1[H.size]? = some (arrV (X.dA 11) m9 (fun q => Value.long (Int64.ofNat (xg 64 0 q))))
          have e8 : (fun q : Nat => Value.long (Int64.ofNat (xg 64 0 q))) = fun _ => defaultValue (newarray.typeOf .long) := by
            funext q
            rw [xg_zero]
            rfl
          rw [e8]
          exact e1
        have go := xgo4 (p := p) (l := l) (e := e) (R := R) (s := s) (m := m) (args := args) (below := below) (meth := meth) (c := c) (n9 := m9) hI hM hF hS hN h hnx (by omega) (by omega) hat z1 o1
        have e9 : xr X.E (2, hp.length) = .ref H.size := by rw [hsz]; rfl
        rw [List.map_cons, e9] at go
        exact go
      · cases hv
  · cases h
theorem ok14 (hI : xIH X ih) (hM : xMe X j C y cb maxL ret hs) (hF : xF p e s m meth c y cb maxL ret hs) (hS : xS X s) (hN : xN X R s H locs cells slots ls maxL lv hp bc bs d) (hv : xv14 cb C i = true) (h : xh14 X.P X.G ih C (xrow C i) (i + 1) lv st hp bc bs d = some out) : W p l e R s m args below meth c H locs cells slots (xEnd X R s below out) (F0 m (xpc C i) ls (st.map (xr X.E))) := by
  simp only [xh14, xf_eq, xnth_eq] at h
  obtain ⟨hx, hb, -⟩ := id hF
  obtain ⟨hWd, hK, hO, hle, hG, -⟩ := id hS
  obtain ⟨hSS, hsz, hP, -⟩ := id hN
  simp only [xv14, Bool.and_eq_true] at hv
  obtain ⟨hnx, hv⟩ := hv
  have hnx := xnx_of hnx
  generalize xru (xrow C i) = u at h hv
  split at h
  · rename_i i9 a9 s9
    cases hc9 : hp[a9]? with
    | none => simp only [hc9] at h; cases h
    | some cell =>
      obtain ⟨⟨c9, m9⟩, N9, fs⟩ := cell
      simp only [hc9] at h
      cases hc : Nat.blt i9 m9 && (Nat.beq c9 (1000 + u) && Nat.blt m9 1048576) with
      | false => rw [hc] at h; cases h
      | true =>
        rw [hc] at h
        simp only [Bool.and_eq_true, xbeq, xblt] at hc
        obtain ⟨hc1, rfl, hc3⟩ := hc
        have hc : i9 < m9 ∧ True ∧ m9 < 1048576 := ⟨hc1, trivial, hc3⟩
        simp only [cond_true, xpv_eq] at h
        split at hv
        ·
          have hc2 : (xrh X.E X.dA hp)[a9]? = some (X.E.1 + a9, .inl (X.dA 4, m9, xca 4 N9)) := by rw [xrh_get hc9, xre_a]
          have go := xgo (p := p) (l := l) (e := e) (R := R) (s := s) (m := m) (args := args) (below := below) (meth := meth) (c := c) hI hM hF hS hN h hnx
          refine va_zald hx hb hK hP a9 0 hc2 rfl (xin hc.1 hc.2.2) (xd_of hv) ?_
          rw [xcl (by omega)]
          exact go
        ·
          have hc2 : (xrh X.E X.dA hp)[a9]? = some (X.E.1 + a9, .inl (X.dA 8, m9, xca 8 N9)) := by rw [xrh_get hc9, xre_a]
          have go := xgo (p := p) (l := l) (e := e) (R := R) (s := s) (m := m) (args := args) (below := below) (meth := meth) (c := c) hI hM hF hS hN h hnx
          refine va_bald hx hb hK hP a9 1 hc2 rfl (xin hc.1 hc.2.2) (xd_of hv) ?_
          rw [xcl (by omega)]
          exact go
        ·
          have hc2 : (xrh X.E X.dA hp)[a9]? = some (X.E.1 + a9, .inl (X.dA 10, m9, xca 10 N9)) := by rw [xrh_get hc9, xre_a]
          have go := xgo (p := p) (l := l) (e := e) (R := R) (s := s) (m := m) (args := args) (below := below) (meth := meth) (c := c) hI hM hF hS hN h hnx
          refine va_iald hx hb hK hP a9 2 hc2 rfl (xin hc.1 hc.2.2) (xd_of hv) ?_
          rw [xcl (by omega)]
          exact go
        ·
          have hc2 : (xrh X.E X.dA hp)[a9]? = some (X.E.1 + a9, .inl (X.dA 11, m9, xca 11 N9)) := by rw [xrh_get hc9, xre_a]
          have go := xgo (p := p) (l := l) (e := e) (R := R) (s := s) (m := m) (args := args) (below := below) (meth := meth) (c := c) hI hM hF hS hN h hnx
          refine va_lald hx hb hK hP a9 3 hc2 rfl (xin hc.1 hc.2.2) (xd_of hv) ?_
          rw [xcl (by omega)]
          exact go
        · cases hv
  · rename_i i9 s9
    cases hc : Nat.blt i9 X.G.1.2 && Nat.beq u 10 with
    | false => rw [hc] at h; cases h
    | true =>
      rw [hc] at h
      simp only [Bool.and_eq_true, xbeq, xblt] at hc
      obtain ⟨hlt, rfl⟩ := hc
      simp only [cond_true] at h
      obtain ⟨q9, hq1, hq2⟩ := xld_eq hG i9 (fun q => ih C (i + 1) lv (q :: s9) hp bc bs d)
      rw [hq1] at h
      obtain ⟨⟨hBl, hX⟩, hbB, -⟩ := hO
      have e8 := hBl.resolve_left (fun q => by have := q.2; omega)
      rw [← e8] at hX
      have go := xgo (p := p) (l := l) (e := e) (R := R) (s := s) (m := m) (args := args) (below := below) (meth := meth) (c := c) hI hM hF hS hN h hnx
      refine va_sld hx hb hX (Nat.lt_of_lt_of_le hbB hle) (Nat.not_le.mpr hbB) hSS (xin hlt (Nat.lt_trans hG.2.2.2.2.2.2.2.2 (by decide))) (xd_of hv) ?_
      have hL := hG.2.2.2.2.2.2.2.2
      rw [xcl (by omega)]
      rw [List.map_cons, hq2] at go
      exact go
  · rename_i i9 a9 s9
    cases hc : Nat.beq u 8 && Nat.ble 1 a9 with
    | false => rw [hc] at h; cases h
    | true =>
      rw [hc] at h
      simp only [Bool.and_eq_true, xbeq, xble] at hc
      obtain ⟨rfl, ha⟩ := hc
      simp only [cond_true] at h
      obtain ⟨a8, rfl⟩ := Nat.exists_eq_add_of_le' ha
      cases hst : X.P.2.1[a8 + 1]? with
      | none => simp only [hst] at h; cases h
      | some b9 =>
        simp only [hst] at h
        cases hx9 : b9[i9]? with
        | none => simp only [hx9] at h; cases h
        | some x9 =>
          simp only [hx9] at h
          obtain ⟨-, -, -, q4, q5⟩ := hO.2.2.1 a8 b9 hst
          have hil : i9 < b9.length := (List.getElem?_eq_some_iff.mp hx9).1
          have go := xgo (p := p) (l := l) (e := e) (R := R) (s := s) (m := m) (args := args) (below := below) (meth := meth) (c := c) hI hM hF hS hN h hnx
          exact va_tb hx hb q4 hSS (xin hil (Nat.lt_trans q5 (by decide))) (by rw [xcl (by omega)]; show xr X.E (b9.getD i9 (0, 0)) = _; rw [List.getD_eq_getElem?_getD, hx9]; rfl) (xd_of hv) go
  · cases h
end XO
