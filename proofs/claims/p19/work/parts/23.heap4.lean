theorem xset_i {cA : ClassId} {m N i v : Nat} (hv : v < 2 ^ 32) : (arrV cA m (fun j => Value.int (Int32.ofNat (xg 32 N j)))).setSlot i (.int (Int32.ofNat v)) = arrV cA m (fun j => Value.int (Int32.ofNat (xg 32 (xs 32 N i v) j))) := by
  rw [arrV_store]
  have e : updV (fun j => Value.int (Int32.ofNat (xg 32 N j))) i (.int (Int32.ofNat v)) = fun j => Value.int (Int32.ofNat (xg 32 (xs 32 N i v) j)) := by
    funext j
    rw [xg_xs 32 N i j v hv]
    unfold updV
    by_cases h : j = i
    · rw [if_pos h, if_pos h]
    · rw [if_neg h, if_neg h]
  rw [e]
theorem xset_l {cA : ClassId} {m N i v : Nat} (hv : v < 2 ^ 64) : (arrV cA m (fun j => Value.long (Int64.ofNat (xg 64 N j)))).setSlot i (.long (Int64.ofNat v)) = arrV cA m (fun j => Value.long (Int64.ofNat (xg 64 (xs 64 N i v) j))) := by
  rw [arrV_store]
  have e : updV (fun j => Value.long (Int64.ofNat (xg 64 N j))) i (.long (Int64.ofNat v)) = fun j => Value.long (Int64.ofNat (xg 64 (xs 64 N i v) j)) := by
    funext j
    rw [xg_xs 64 N i j v hv]
    unfold updV
    by_cases h : j = i
    · rw [if_pos h, if_pos h]
    · rw [if_neg h, if_neg h]
  rw [e]
theorem i64_eq {a b : Nat} (h : a % xL = b % xL) : Int64.ofNat a = Int64.ofNat b := by
  apply Int64.toBitVec_inj.mp
  rw [i64_bv, i64_bv]
  apply BitVec.eq_of_toNat_eq
  simp only [BitVec.toNat_ofNat]
  exact h
theorem i32_bool (x : Nat) : narrow .boolean (.int (Int32.ofNat x)) = .int (Int32.ofNat (x % 2)) := by
  show Value.int (Int32.ofNat x &&& 1) = _
  have e : (1 : Int32) = Int32.ofNat 1 := rfl
  rw [e, i32_and]
  have e2 : Nat.land x 1 = x % 2 := Nat.and_one_is_mod x
  rw [e2]
theorem i32_byte (x : Nat) : narrow .byte (.int (Int32.ofNat x)) = .int (Int32.ofNat (cond (Nat.blt (x % 256) 128) (x % 256) (x % 256 + 4294967040))) := by
  show Value.int (Int32.ofNat x).toInt8.toInt32 = _
  rw [i32_i2b]
theorem xb256 (x : Nat) : cond (Nat.blt (x % 256) 128) (x % 256) (x % 256 + 4294967040) < 2 ^ 32 := by
  have := Nat.mod_lt x (by decide : 0 < 256)
  cases Nat.blt (x % 256) 128
  · simp only [cond_false]; omega
  · simp only [cond_true]; omega
theorem xw_ldcw {p : Program} {l : Launch} {e : Env} {R : Room} {s : State} {m : MethodId} {args : Array Value} {below : List Frame} {meth : Method} {c : Code} {H : Heap} {locs : List Loc} {cells slots : Nat} {Q : State → Prop} {cc : ByteArray} {pc : Nat} {ls : Array Slot} {rest : List Value} (hexec : p.tables.exec = Jvm.exec) (hb : c.code = cc) {own tx : String} {index q : Nat} (hown : s.vm.findClass own = some m.cls) (hZ : vk_R own index tx q s) (hdg : decode cc pc = .ok (.ldc_w index, 3))
    (k : W p l e R s m args below meth c H locs cells slots Q (F0 m (pc + 3) ls (.ref q :: rest))) : W p l e R s m args below meth c H locs cells slots Q (F0 m pc ls rest) := by
  intro T hT X
  obtain ⟨t, a1, b1⟩ := k T hT X
  refine ⟨t, ?_, b1⟩
  obtain ⟨k0, cf, i0, a', hk, hcf, hcp, -, hr, hev'⟩ := Cond.stringRef_spec hown hZ.1
  cases hZ.2.symm.trans hev'
  obtain ⟨k', hk', he⟩ := X.warmed.alike.2.2 _ _ hk
  have hr' : k'.resolved[index]? = some (some (.string q)) := by
    rcases X.warmed.entry hk hk' index with h | ⟨h, -⟩
    · rw [h]; exact hr
    · rw [hr] at h; cases h
  jvm_step X.here [hexec, hb, hdg, ldc_w.wp_string (e := e) (s := T) (f := F0 m pc ls rest) X.here.top hk' (by rw [he]; exact hcf) hcp hr']
  exact a1
def xv20 (cb : ByteArray) (Ws : List Cond) (own : String) (C i : Nat) : Bool := xd cb (xpc C i) (.getstatic (xra (xrow C i))) 3 && (xnx C i 3 && (match xrv (xrow C i), xrw (xrow C i) with
  | 0, 1 => decide (Cond.fieldLink own (xra (xrow C i)) "java/lang/String" "COMPACT_STRINGS" "Z" ∈ Ws)
  | 8, 0 => decide (Cond.fieldLink own (xra (xrow C i)) "jdk/internal/util/Preconditions" "SIOOBE_FORMATTER" "Ljava/util/function/BiFunction;" ∈ Ws)
  | _, _ => false))
def xv21 (cb : ByteArray) (Sn : List (String × Nat × String)) (own : String) (C i : Nat) : Bool := match xrv (xrow C i) with
  | 0 => false
  | k + 1 => (match Sn[k]? with
    | some q => decide (q.1 = own) && decide (q.2.1 = xra (xrow C i))
    | none => false) && (match xrb (xrow C i) with
    | 0 => xd cb (xpc C i) (.ldc (xra (xrow C i))) 2 && xnx C i 2
    | _ => xd cb (xpc C i) (.ldc_w (xra (xrow C i))) 3 && xnx C i 3)
def xv22 (cb : ByteArray) (Ws : List Cond) (own : String) (C i : Nat) : Bool := match xrb (xrow C i) with
  | 0 => match xru (xrow C i) with
    | 0 => xd cb (xpc C i) (.lconst 0) 1 && xnx C i 1
    | 1 => xd cb (xpc C i) (.lconst 1) 1 && xnx C i 1
    | _ => false
  | _ => xd cb (xpc C i) (.ldc2_w (xra (xrow C i))) 3 && (xnx C i 3 && decide (Cond.constantLong own (xra (xrow C i)) (Int64.ofNat (xru (xrow C i))) ∈ Ws))
def xv24 (cb : ByteArray) (Ws : List Cond) (own : String) (C i : Nat) : Bool := xd cb (xpc C i) (.invokespecial (xra (xrow C i))) 3 && (xnx C i 3 && (decide (Cond.methodLink own (xra (xrow C i)) Lib.objectInit ∈ Ws) && (decide (Cond.instanceMethod Lib.objectInit ∈ Ws) && decide (Cond.code Lib.objectInit ⟨#[0xb1]⟩ 1 none ∈ Ws))))
theorem xcat_le (E : xE) (v : xv) : (xr E v).category ≤ 2 := by
  rw [xr_cat]
  unfold xcat
  split <;> decide
theorem xcat_sum (E : xE) : ∀ s : List xv, (((s.map (xr E)).map fun v => v.category).sum) ≤ 2 * s.length := by
  intro s
  induction s with
  | nil => simp
  | cons a r ih =>
    simp only [List.map_cons, List.sum_cons, List.length_cons]
    have := xcat_le E a
    omega
section XO
variable {X : xFix} {ih : xrec} {C i : Nat} {lv : xl} {st : List xv} {hp : xh} {bc bs d : Nat} {out : (Nat × xv) × xh × Nat × Nat} {j : Nat} {y : MethodName} {cb : ByteArray} {maxL : Nat} {ret : Option FieldType} {hs : List (Nat × Nat × Nat × Nat)}
  {p : Program} {l : Launch} {e : Env} {R : Room} {s : State} {m : MethodId} {args : Array Value} {below : List Frame} {meth : Method} {c : Code} {H : Heap} {locs : List Loc} {cells slots : Nat} {ls : Array Slot}

theorem ok15 (hI : xIH X ih) (hM : xMe X j C y cb maxL ret hs) (hF : xF p e s m meth c y cb maxL ret hs) (hS : xS X s) (hN : xN X R s H locs cells slots ls maxL lv hp bc bs d) (hv : xv15 cb C i = true) (h : xh15 X.P X.G ih C (xrow C i) (i + 1) lv st hp bc bs d = some out) : W p l e R s m args below meth c H locs cells slots (xEnd X R s below out) (F0 m (xpc C i) ls (st.map (xr X.E))) := by
  simp only [xh15, xf_eq, xnth_eq, xhset_eq] at h
  obtain ⟨hx, hb, -⟩ := id hF
  obtain ⟨hWd, hK, hO, hle, hG, -⟩ := id hS
  obtain ⟨hSS, hsz, hP, -⟩ := id hN
  simp only [xv15, Bool.and_eq_true] at hv
  obtain ⟨hnx, hv⟩ := hv
  have hnx := xnx_of hnx
  generalize xru (xrow C i) = u at h hv
  split at h
  · rename_i t9 x9 i9 a9 s9
    cases hc9 : hp[a9]? with
    | none => simp only [hc9] at h; cases h
    | some cell =>
      obtain ⟨⟨c9, m9⟩, N9, fs⟩ := cell
      simp only [hc9] at h
      cases hc : Nat.blt i9 m9 && (Nat.beq c9 (1000 + u) && Nat.blt m9 1048576) with
      | false => rw [hc] at h; cases h
      | true =>
        rw [hc] at h
        simp only [Bool.and_eq_true, xbeq, xblt] at hc
        obtain ⟨hc1, rfl, hc3⟩ := hc
        simp only [cond_true] at h
        split at h
        ·
          have hc2 : (xrh X.E X.dA hp)[a9]? = some (X.E.1 + a9, .inl (X.dA 11, m9, xca 11 N9)) := by rw [xrh_get hc9, xre_a]
          have hcell : H[X.E.1 + a9]? = some (arrV (X.dA 11) m9 (fun j => Value.long (Int64.ofNat (xg 64 N9 j)))) := hP a9 _ hc2
          refine W.last hx hb hcell ((hK.2 3 _ rfl).1 m9 _) (fun q => by cases q) (by rw [arrV_size]; exact xin hc1 hc3) rfl rfl (xd_of hv) fun H' e1 e2 e3 => ?_
          rw [xcl (by omega), i64_eq (a := x9) (b := x9 % xL) (by simp), xset_l (v := (x9 % xL)) (Nat.mod_lt _ (by decide))] at e1
          rw [xcl (by omega)]
          obtain ⟨z1, z2, z3⟩ := xset_ok (k9 := i9) (cell' := ((1000 + 11, m9), xs 64 N9 i9 (x9 % xL), fs)) hN hc9 (by
            rw [xre_a]
            exact e1) e2 e3
          exact xgo3 hI hM hF hS hN h hnx z1 z2 z3
        ·
          have hc2 : (xrh X.E X.dA hp)[a9]? = some (X.E.1 + a9, .inl (X.dA 10, m9, xca 10 N9)) := by rw [xrh_get hc9, xre_a]
          have hcell : H[X.E.1 + a9]? = some (arrV (X.dA 10) m9 (fun j => Value.int (Int32.ofNat (xg 32 N9 j)))) := hP a9 _ hc2
          refine W.iast hx hb hcell ((hK.2 2 _ rfl).1 m9 _) (fun q => by cases q) (by rw [arrV_size]; exact xin hc1 hc3) rfl rfl (xd_of hv) fun H' e1 e2 e3 => ?_
          rw [xcl (by omega), i32_eq (a := x9) (b := x9 % xM) (by simp), xset_i (v := (x9 % xM)) (Nat.mod_lt _ (by decide))] at e1
          rw [xcl (by omega)]
          obtain ⟨z1, z2, z3⟩ := xset_ok (k9 := i9) (cell' := ((1000 + 10, m9), xs 32 N9 i9 (x9 % xM), fs)) hN hc9 (by
            rw [xre_a]
            exact e1) e2 e3
          exact xgo3 hI hM hF hS hN h hnx z1 z2 z3
        ·
          have hc2 : (xrh X.E X.dA hp)[a9]? = some (X.E.1 + a9, .inl (X.dA 8, m9, xca 8 N9)) := by rw [xrh_get hc9, xre_a]
          have hcell : H[X.E.1 + a9]? = some (arrV (X.dA 8) m9 (fun j => Value.int (Int32.ofNat (xg 32 N9 j)))) := hP a9 _ hc2
          refine W.bast hx hb hcell ((hK.2 1 _ rfl).1 m9 _) (fun q => by cases q) (by rw [arrV_size]; exact xin hc1 hc3) rfl rfl (xd_of hv) fun H' e1 e2 e3 => ?_
          rw [xcl (by omega), i32_byte, xset_i (v := (cond (Nat.blt (x9 % 256) 128) (x9 % 256) (x9 % 256 + 4294967040))) (xb256 x9)] at e1
          rw [xcl (by omega)]
          obtain ⟨z1, z2, z3⟩ := xset_ok (k9 := i9) (cell' := ((1000 + 8, m9), xs 32 N9 i9 (cond (Nat.blt (x9 % 256) 128) (x9 % 256) (x9 % 256 + 4294967040)), fs)) hN hc9 (by
            rw [xre_a]
            exact e1) e2 e3
          exact xgo3 hI hM hF hS hN h hnx z1 z2 z3
        ·
          have hc2 : (xrh X.E X.dA hp)[a9]? = some (X.E.1 + a9, .inl (X.dA 4, m9, xca 4 N9)) := by rw [xrh_get hc9, xre_a]
          have hcell : H[X.E.1 + a9]? = some (arrV (X.dA 4) m9 (fun j => Value.int (Int32.ofNat (xg 32 N9 j)))) := hP a9 _ hc2
          refine W.zast hx hb hcell ((hK.2 0 _ rfl).1 m9 _) (fun q => by cases q) (by rw [arrV_size]; exact xin hc1 hc3) rfl rfl (xd_of hv) fun H' e1 e2 e3 => ?_
          rw [xcl (by omega), i32_bool, xset_i (v := (x9 % 2)) (Nat.lt_trans (Nat.mod_lt x9 (by decide : 0 < 2)) (by decide))] at e1
          rw [xcl (by omega)]
          obtain ⟨z1, z2, z3⟩ := xset_ok (k9 := i9) (cell' := ((1000 + 4, m9), xs 32 N9 i9 (x9 % 2), fs)) hN hc9 (by
            rw [xre_a]
            exact e1) e2 e3
          exact xgo3 hI hM hF hS hN h hnx z1 z2 z3
        · cases h
  · cases h
theorem ok16 (hI : xIH X ih) (hM : xMe X j C y cb maxL ret hs) (hF : xF p e s m meth c y cb maxL ret hs) (hS : xS X s) (hN : xN X R s H locs cells slots ls maxL lv hp bc bs d) (hv : xv16 cb C i = true) (h : xh16 X.P X.G ih C (xrow C i) (i + 1) lv st hp bc bs d = some out) : W p l e R s m args below meth c H locs cells slots (xEnd X R s below out) (F0 m (xpc C i) ls (st.map (xr X.E))) := by
  simp only [xh16, xnth_eq] at h
  obtain ⟨hx, hb, -⟩ := id hF
  obtain ⟨hWd, hK, hO, hle, hG, -⟩ := id hS
  obtain ⟨hSS, hsz, hP, -⟩ := id hN
  simp only [xv16, Bool.and_eq_true] at hv
  obtain ⟨hnx, hv⟩ := hv
  have hnx := xnx_of hnx
  split at h
  · rename_i a9 s9
    cases hc9 : hp[a9]? with
    | none => simp only [hc9] at h; cases h
    | some cell =>
      obtain ⟨⟨c9, m9⟩, N9, fs⟩ := cell
      simp only [hc9] at h
      cases hc : Nat.beq c9 1010 || (Nat.beq c9 1008 || (Nat.beq c9 1004 || Nat.beq c9 1011)) with
      | false => rw [hc] at h; cases h
      | true =>
        rw [hc] at h
        simp only [cond_true] at h
        have go := xgo (p := p) (l := l) (e := e) (R := R) (s := s) (m := m) (args := args) (below := below) (meth := meth) (c := c) hI hM hF hS hN h hnx
        simp only [Bool.or_eq_true, xbeq] at hc
        rcases hc with rfl | rfl | rfl | rfl
        · exact va_alen (x := (m9, xca 10 N9)) hx hb hK hP a9 2 (by rw [xrh_get hc9]; exact congrArg (fun z => some (X.E.1 + a9, z)) (xre_a (u := 10))) rfl rfl (xd_of hv) go
        · exact va_alen (x := (m9, xca 8 N9)) hx hb hK hP a9 1 (by rw [xrh_get hc9]; exact congrArg (fun z => some (X.E.1 + a9, z)) (xre_a (u := 8))) rfl rfl (xd_of hv) go
        · exact va_alen (x := (m9, xca 4 N9)) hx hb hK hP a9 0 (by rw [xrh_get hc9]; exact congrArg (fun z => some (X.E.1 + a9, z)) (xre_a (u := 4))) rfl rfl (xd_of hv) go
        · exact va_alen (x := (m9, xca 11 N9)) hx hb hK hP a9 3 (by rw [xrh_get hc9]; exact congrArg (fun z => some (X.E.1 + a9, z)) (xre_a (u := 11))) rfl rfl (xd_of hv) go
  · rename_i s9
    cases hc : Nat.beq X.G.1.1 99 with
    | true => rw [hc] at h; cases h
    | false =>
      rw [hc] at h
      obtain ⟨⟨hBl, hX⟩, hbB, -⟩ := hO
      have e8 := hBl.resolve_left (fun q => by rw [xbeq.mpr q.1] at hc; cases hc)
      rw [← e8] at hX
      have go := xgo (p := p) (l := l) (e := e) (R := R) (s := s) (m := m) (args := args) (below := below) (meth := meth) (c := c) hI hM hF hS hN h hnx
      exact va_slen hx hb hX (Nat.lt_of_lt_of_le hbB hle) (Nat.not_le.mpr hbB) hSS (xd_of hv) go
  · rename_i a9 s9
    cases hc : Nat.ble 1 a9 with
    | false => rw [hc] at h; cases h
    | true =>
      rw [hc] at h
      have ha := xble.mp hc
      simp only [cond_true] at h
      obtain ⟨a8, rfl⟩ := Nat.exists_eq_add_of_le' ha
      cases hst : X.P.2.1[a8 + 1]? with
      | none => simp only [hst] at h; cases h
      | some b9 =>
        simp only [hst, xpv_eq] at h
        obtain ⟨-, -, -, q4, q5⟩ := hO.2.2.1 a8 b9 hst
        have go := xgo (p := p) (l := l) (e := e) (R := R) (s := s) (m := m) (args := args) (below := below) (meth := meth) (c := c) hI hM hF hS hN h hnx
        exact va_tlen hx hb q4 hSS rfl (xd_of hv) go
  · cases h
theorem ok20 (hI : xIH X ih) (hM : xMe X j C y cb maxL ret hs) (hF : xF p e s m meth c y cb maxL ret hs) (hS : xS X s) (hN : xN X R s H locs cells slots ls maxL lv hp bc bs d) (hv : xv20 cb X.Ws y.cls C i = true) (h : xh20 X.P X.G ih C (xrow C i) (i + 1) lv st hp bc bs d = some out) : W p l e R s m args below meth c H locs cells slots (xEnd X R s below out) (F0 m (xpc C i) ls (st.map (xr X.E))) := by
  simp only [xh20, xf_eq] at h
  obtain ⟨hx, hb, -, -, -, -, hown, -⟩ := id hF
  obtain ⟨hWd, hK, hO, hle, hG, -⟩ := id hS
  have hSS := hN.1
  simp only [xv20, Bool.and_eq_true] at hv
  obtain ⟨hdg, hnx, hv⟩ := hv
  have go := xgo (p := p) (l := l) (e := e) (R := R) (s := s) (m := m) (args := args) (below := below) (meth := meth) (c := c) hI hM hF hS hN h (xnx_of hnx)
  split at hv
  · rename_i e1 e2
    rw [e1, e2] at go
    exact va_gets hx hb hO.2.2.2.1 hSS hown (hWd _ (of_decide_eq_true hv) args) (fun _ h9 => h9) (xd_of hdg) go
  · rename_i e1 e2
    rw [e1, e2] at go
    exact va_gets hx hb hO.2.2.2.2.1 hSS hown (hWd _ (of_decide_eq_true hv) args) (fun _ h9 => h9) (xd_of hdg) go
  · cases hv
theorem ok21 (hI : xIH X ih) (hM : xMe X j C y cb maxL ret hs) (hF : xF p e s m meth c y cb maxL ret hs) (hS : xS X s) (hN : xN X R s H locs cells slots ls maxL lv hp bc bs d) (hv : xv21 cb X.Sn y.cls C i = true) (h : xh21 X.P X.G ih C (xrow C i) (i + 1) lv st hp bc bs d = some out) : W p l e R s m args below meth c H locs cells slots (xEnd X R s below out) (F0 m (xpc C i) ls (st.map (xr X.E))) := by
  simp only [xh21, xf_eq] at h
  obtain ⟨hx, hb, -, -, -, -, hown, -⟩ := id hF
  have hSn := hS.2.2.2.2.2.2.2
  unfold xv21 at hv
  split at hv
  · cases hv
  · rename_i k9 e1
    rw [e1] at h
    simp only [Bool.and_eq_true] at hv
    cases hq : X.Sn[k9]? with
    | none => simp only [hq] at hv; exact absurd hv.1 (by decide)
    | some q =>
      obtain ⟨q1, q2, q3⟩ := q
      simp only [hq, Bool.and_eq_true, decide_eq_true_eq] at hv
      obtain ⟨⟨rfl, rfl⟩, hv⟩ := hv
      have hZ := hSn _ _ _ _ hq
      split at hv
      · simp only [Bool.and_eq_true] at hv
        exact va_ldcS hx hb hown hZ (xd_of hv.1) (xgo hI hM hF hS hN h (xnx_of hv.2))
      · simp only [Bool.and_eq_true] at hv
        exact xw_ldcw hx hb hown hZ (xd_of hv.1) (xgo hI hM hF hS hN h (xnx_of hv.2))
theorem ok22 (hI : xIH X ih) (hM : xMe X j C y cb maxL ret hs) (hF : xF p e s m meth c y cb maxL ret hs) (hS : xS X s) (hN : xN X R s H locs cells slots ls maxL lv hp bc bs d) (hv : xv22 cb X.Ws y.cls C i = true) (h : xh22 X.P X.G ih C (xrow C i) (i + 1) lv st hp bc bs d = some out) : W p l e R s m args below meth c H locs cells slots (xEnd X R s below out) (F0 m (xpc C i) ls (st.map (xr X.E))) := by
  simp only [xh22, xf_eq] at h
  obtain ⟨hx, hb, -, -, -, -, hown, -⟩ := id hF
  obtain ⟨hWd, -⟩ := id hS
  unfold xv22 at hv
  split at hv
  · split at hv
    · rename_i e1
      rw [e1] at h
      simp only [Bool.and_eq_true] at hv
      exact lv_lconst hx hb (xd_of hv.1) rfl (xgo hI hM hF hS hN h (xnx_of hv.2))
    · rename_i e1
      rw [e1] at h
      simp only [Bool.and_eq_true] at hv
      exact lv_lconst hx hb (xd_of hv.1) rfl (xgo hI hM hF hS hN h (xnx_of hv.2))
    · cases hv
  · simp only [Bool.and_eq_true, decide_eq_true_eq] at hv
    exact lv_ldc2 hx hb hown (hWd _ hv.2.2 args) (xd_of hv.1) (xgo hI hM hF hS hN h (xnx_of hv.2.1))
theorem ok24 (hI : xIH X ih) (hM : xMe X j C y cb maxL ret hs) (hF : xF p e s m meth c y cb maxL ret hs) (hS : xS X s) (hN : xN X R s H locs cells slots ls maxL lv hp bc bs d) (hv : xv24 cb X.Ws y.cls C i = true) (h : xh24 X.P X.G ih C (xrow C i) (i + 1) lv st hp bc bs d = some out) : W p l e R s m args below meth c H locs cells slots (xEnd X R s below out) (F0 m (xpc C i) ls (st.map (xr X.E))) := by
  simp only [xh24] at h
  obtain ⟨hx, hb, hml, -, -, -, hown, -⟩ := id hF
  obtain ⟨hWd, -⟩ := id hS
  obtain ⟨-, -, -, hl, -, -, hfr, hlo⟩ := id hN
  simp only [xv24, Bool.and_eq_true, decide_eq_true_eq] at hv
  obtain ⟨hdg, hnx, w1, w2, w3⟩ := hv
  split at h
  · rename_i a9 s9
    cases hc : Nat.ble 1 d && Nat.ble (List.length s9) 8 with
    | false => rw [hc] at h; cases h
    | true =>
      rw [hc] at h
      simp only [Bool.and_eq_true, xble] at hc
      simp only [cond_true] at h
      have hsum := xcat_sum X.E s9
      exact W.objInit hx hb hown (hWd _ w1 args) (hWd _ w2 args) (hWd _ w3 args) rfl (by rw [hml]; exact hl.1) rfl (xd_of hdg) (by omega) (by show 2 * 0 + _ + 12 ≤ _; omega) (xgo hI hM hF hS hN h (xnx_of hnx))
  · cases h
end XO
