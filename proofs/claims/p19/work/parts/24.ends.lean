def xv18 (cb : ByteArray) (ret : Option FieldType) (C i : Nat) : Bool := match xru (xrow C i) with
  | 0 => xd cb (xpc C i) .return_ 1 && decide (ret = none)
  | 1 => xd cb (xpc C i) .ireturn 1 && decide (ret = some .int)
  | 2 => xd cb (xpc C i) .lreturn 1 && decide (ret = some .long)
  | 3 => xd cb (xpc C i) .areturn 1 && (match ret with
    | some (.object _) => true
    | some (.array _) => true
    | _ => false)
  | 4 => xd cb (xpc C i) .ireturn 1 && decide (ret = some .boolean)
  | 5 => xd cb (xpc C i) .ireturn 1 && decide (ret = some .byte)
  | 6 => xd cb (xpc C i) .ireturn 1 && decide (ret = some .char)
  | _ => false
theorem nb_128 : ∀ k : Fin 128, narrow .byte (.int (Int32.ofNat k.val)) = .int (Int32.ofNat k.val) := by decide +kernel
theorem xlv_of {E : xE} {G : xk} {v : xv} {q : Nat × Nat} (hG : xGk E G) (h : xlv G v = some q) : ∃ x, xr E v = .long x ∧ (q.1 : Int) ≤ x.toInt + 9223372036854775808 ∧ x.toInt + 9223372036854775808 ≤ (q.2 : Int) := by
  obtain ⟨t, n⟩ := v
  simp only [xlv, xf_eq] at h
  split at h
  · have h9 := Option.some.inj h
    subst h9
    have e := i64_toInt n
    exact ⟨_, rfl, by rw [e]; omega, by rw [e]; omega⟩
  · cases hb : Nat.beq n 291 with
    | false =>
      rw [hb] at h
      simp only [cond_false, xnth_eq] at h
      cases hc : Nat.blt n 16 with
      | false => rw [hc] at h; cases h
      | true =>
        rw [hc] at h
        simp only [cond_true] at h
        cases hg : G.2.1[n]? with
        | none => rw [hg] at h; cases h
        | some p9 =>
          rw [hg] at h
          have h9 := Option.some.inj h
          subst h9
          obtain ⟨h1, h2⟩ := hG.2.1 n p9 hg
          have e1 := (hG.2.2.2.1 n (xblt.mp hc)).1
          have e2 : (E.2.2.1 n).toInt = (E.2.1 n).toInt := by rw [e1]; exact Int32.toInt_toInt64 _
          refine ⟨_, rfl, ?_, ?_⟩
          · rw [e2]
            show ((p9.1 + 9223372034707292160 : Nat) : Int) ≤ _
            omega
          · rw [e2]
            show _ ≤ ((p9.2 + 9223372034707292160 : Nat) : Int)
            omega
    | true =>
      rw [hb] at h
      have h9 := Option.some.inj h
      subst h9
      have e := xbeq.mp hb
      subst e
      exact ⟨_, rfl, hG.2.2.1.1, hG.2.2.1.2⟩
  · cases h
def xv23 (cb : ByteArray) (C i : Nat) : Bool := xnx C i 1 && (match xru (xrow C i) with
  | 0 => xd cb (xpc C i) .land 1
  | 1 => xd cb (xpc C i) .lshl 1
  | 2 => xd cb (xpc C i) .lor 1
  | 3 => xd cb (xpc C i) .ladd 1
  | 4 => xd cb (xpc C i) .lmul 1
  | 5 => xd cb (xpc C i) .lsub 1
  | 9 => xd cb (xpc C i) .lcmp 1
  | _ => false)
theorem i64_add (a b : Nat) : Int64.ofNat a + Int64.ofNat b = Int64.ofNat ((a + b) % xL) := by
  apply Int64.toBitVec_inj.mp
  rw [Int64.toBitVec_add, i64_bv, i64_bv, i64_bv]
  apply BitVec.eq_of_toNat_eq
  simp only [BitVec.toNat_add, BitVec.toNat_ofNat, xL]
  omega
theorem i64_mul (a b : Nat) : Int64.ofNat a * Int64.ofNat b = Int64.ofNat (a * b % xL) := by
  apply Int64.toBitVec_inj.mp
  rw [Int64.toBitVec_mul, i64_bv, i64_bv, i64_bv]
  apply BitVec.eq_of_toNat_eq
  simp only [BitVec.toNat_mul, BitVec.toNat_ofNat, xL]
  rw [← Nat.mul_mod]
  exact (Nat.mod_mod _ _).symm
theorem i64_and (a b : Nat) : Int64.ofNat a &&& Int64.ofNat b = Int64.ofNat (Nat.land a b) := by
  apply Int64.toBitVec_inj.mp
  rw [Int64.toBitVec_and, i64_bv, i64_bv, i64_bv]
  apply BitVec.eq_of_toNat_eq
  show (BitVec.ofNat 64 a &&& BitVec.ofNat 64 b).toNat = (BitVec.ofNat 64 (a &&& b)).toNat
  simp only [BitVec.toNat_and, BitVec.toNat_ofNat, Nat.and_mod_two_pow]
/-- the targets of a switch, as the instruction has them -/
def xsw (C pc : Nat) (offs : Array Int) : List Nat → Nat → Bool
  | [], _ => true
  | t :: r, k => (match offs[k]? with
    | some o => decide ((pc : Int) + o = (xpc C t : Int))
    | none => false) && xsw C pc offs r (k + 1)
theorem xsw_of {C pc : Nat} {offs : Array Int} : ∀ (l : List Nat) (k : Nat), xsw C pc offs l k = true → ∀ (x t : Nat), l[x]? = some t → ∃ o, offs[k + x]? = some o ∧ (pc : Int) + o = (xpc C t : Int) := by
  intro l
  induction l with
  | nil => intro k _ x t h; simp at h
  | cons a r ih =>
    intro k h x t hx
    simp only [xsw, Bool.and_eq_true] at h
    cases x with
    | zero =>
      have e : a = t := by simpa using hx
      subst e
      have h1 := h.1
      split at h1
      · rename_i o ho
        exact ⟨o, ho, of_decide_eq_true h1⟩
      · cases h1
    | succ x2 =>
      obtain ⟨o, h1, h2⟩ := ih (k + 1) h.2 x2 t (by simpa using hx)
      exact ⟨o, by rw [show k + (x2 + 1) = k + 1 + x2 by omega]; exact h1, h2⟩
def xv26 (cb : ByteArray) (Sw : List (List Nat)) (C i : Nat) : Bool := match decode cb (xpc C i), Sw[xru (xrow C i)]? with
  | .ok (.tableswitch dflt lo hi offs, _), some l => decide (lo = 0) && (decide (hi = (l.length : Int) - 1) && (decide ((xpc C i : Int) + dflt = (xpc C (xrv (xrow C i)) : Int)) && (xsw C (xpc C i) offs l 0 && Nat.blt l.length 65536)))
  | _, _ => false
section XO
variable {X : xFix} {ih : xrec} {C i : Nat} {lv : xl} {st : List xv} {hp : xh} {bc bs d : Nat} {out : (Nat × xv) × xh × Nat × Nat} {j : Nat} {y : MethodName} {cb : ByteArray} {maxL : Nat} {ret : Option FieldType} {hs : List (Nat × Nat × Nat × Nat)}
  {p : Program} {l : Launch} {e : Env} {R : Room} {s : State} {m : MethodId} {args : Array Value} {below : List Frame} {meth : Method} {c : Code} {H : Heap} {locs : List Loc} {cells slots : Nat} {ls : Array Slot}

theorem xmono {Q Q' : State → Prop} {g : JFrame} (h : ∀ t, Q t → Q' t) (k : W p l e R s m args below meth c H locs cells slots Q g) : W p l e R s m args below meth c H locs cells slots Q' g := fun T hT X9 => by
  obtain ⟨t, a, b⟩ := k T hT X9
  exact ⟨t, a, h t b⟩
theorem xend_of {ov : Option Value} {r9 : Nat × xv} (hr : xO X.E r9 (.returned ov)) (hN : xN X R s H locs cells slots ls maxL lv hp bc bs d) (t : State) (h : MQ below (fun _ _ o t => o = .returned ov ∧ t.heap = H) args s cells slots (xA X.E) t) : xEnd X R s below (r9, hp, bc, bs) t := by
  obtain ⟨o, h1, h2, ⟨rfl, h4⟩, L, ⟨-, h5, h6⟩, h7⟩ := h
  obtain ⟨n1, n2, n3, n4, n5, n6, n7, n8⟩ := hN
  refine Or.inr ⟨?_, _, L, cells, slots, hr, h1, h2, h5, h6, h7, n5, n6, ⟨by rw [h4]; exact n1.1, by rw [h4]; exact n1.2.1, h7⟩, by rw [h4]; exact n2, by rw [h4]; exact n3⟩
  intro h9
  obtain ⟨r1, r2⟩ := r9
  have h9 : r1 = 9 := h9
  subst h9
  have hr : Outcome.returned ov = .threw (X.E.1 + r2.2) := hr
  cases hr
theorem ok18 (hI : xIH X ih) (hM : xMe X j C y cb maxL ret hs) (hF : xF p e s m meth c y cb maxL ret hs) (hS : xS X s) (hN : xN X R s H locs cells slots ls maxL lv hp bc bs d) (hv : xv18 cb ret C i = true) (h : xh18 X.P X.G ih C (xrow C i) (i + 1) lv st hp bc bs d = some out) : W p l e R s m args below meth c H locs cells slots (xEnd X R s below out) (F0 m (xpc C i) ls (st.map (xr X.E))) := by
  simp only [xh18, xf_eq] at h
  obtain ⟨hx, hb, -, hr, hlk, -, -, -⟩ := id hF
  have hfree := hN.1.2.2
  unfold xv18 at hv
  generalize xru (xrow C i) = u at h hv
  match st, h with
  | [], h =>
    cases hc : Nat.beq u 0 with
    | false => simp only [hc, cond_false] at h; cases h
    | true =>
      simp only [hc, cond_true] at h
      have ho := Option.some.inj h
      have hu := xbeq.mp hc
      subst hu
      subst ho
      simp only [Bool.and_eq_true, decide_eq_true_eq] at hv
      exact xmono (xend_of (args := args) (ov := none) rfl hN) (W.vret (Qc := fun _ _ o t => o = .returned none ∧ t.heap = H) hx hb (hr.trans hv.2) (fun t ht _ => ⟨rfl, ht⟩) hfree (xd_of hv.1) (hlocks := hlk.1))
  | [x], h =>
    simp only at h
    split at h
    · cases hc : Nat.beq (xkd x) 0 with
      | false => rw [hc] at h; cases h
      | true =>
        rw [hc] at h
        cases h
        simp only [Bool.and_eq_true, decide_eq_true_eq] at hv
        obtain ⟨z, hz⟩ := xkd_i (E := X.E) (xbeq.mp hc)
        show W _ _ _ _ _ _ _ _ _ _ _ _ _ _ _ (F0 m _ ls [xr X.E x])
        rw [hz]
        exact xmono (xend_of (args := args) (ov := some (.int z)) (r9 := (1, x)) (by rw [← hz]; rfl) hN) (W.iret (Qc := fun _ _ o t => o = .returned (some (.int z)) ∧ t.heap = H) hx hb (hr.trans hv.2) (fun t ht _ => ⟨rfl, ht⟩) hfree (xd_of hv.1) (hlocks := hlk.1))
    · cases hc : Nat.beq (xkd x) 1 with
      | false => rw [hc] at h; cases h
      | true =>
        rw [hc] at h
        cases h
        simp only [Bool.and_eq_true, decide_eq_true_eq] at hv
        obtain ⟨z, hz⟩ := xkd_l (E := X.E) (xbeq.mp hc)
        show W _ _ _ _ _ _ _ _ _ _ _ _ _ _ _ (F0 m _ ls [xr X.E x])
        rw [hz]
        exact xmono (xend_of (args := args) (ov := some (.long z)) (r9 := (1, x)) (by rw [← hz]; rfl) hN) (W.lret (Qc := fun _ _ o t => o = .returned (some (.long z)) ∧ t.heap = H) hx hb (hr.trans hv.2) (fun t ht _ => ⟨rfl, ht⟩) hfree (xd_of hv.1) (hlocks := hlk.1))
    · cases hc : Nat.beq (xkd x) 2 with
      | false => rw [hc] at h; cases h
      | true =>
        rw [hc] at h
        cases h
        simp only [Bool.and_eq_true] at hv
        have hrt : ∃ rt, ret = some rt ∧ ((∃ n, rt = .object n) ∨ ∃ t, rt = .array t) := by
          have h9 := hv.2
          split at h9
          · exact ⟨_, rfl, Or.inl ⟨_, rfl⟩⟩
          · exact ⟨_, rfl, Or.inr ⟨_, rfl⟩⟩
          · cases h9
        obtain ⟨rt, e1, e2⟩ := hrt
        exact xmono (xend_of (args := args) (ov := some (xr X.E x)) (r9 := (1, x)) rfl hN) (W.aret (Qc := fun _ _ o t => o = .returned (some (xr X.E x)) ∧ t.heap = H) hx hb (hr.trans e1) e2 (xkd_r (xbeq.mp hc)) (fun t ht _ => ⟨rfl, ht⟩) hfree (xd_of hv.1) (hlocks := hlk.1))
    · cases hc : Nat.beq x.1 0 && Nat.blt x.2 2 with
      | false => rw [hc] at h; cases h
      | true =>
        rw [hc] at h
        cases h
        obtain ⟨t9, n9⟩ := x
        simp only [Bool.and_eq_true, xbeq, xblt] at hc
        obtain ⟨rfl, hc⟩ := hc
        simp only [Bool.and_eq_true, decide_eq_true_eq] at hv
        exact xmono (xend_of (args := args) (ov := some (.int (Int32.ofNat n9))) (r9 := (1, (0, n9))) rfl hN) (W.zret (Qc := fun _ _ o t => o = .returned (some (.int (Int32.ofNat n9))) ∧ t.heap = H) hx hb (hr.trans hv.2) (by rw [i32_bool, Nat.mod_eq_of_lt hc]) (fun t ht _ => ⟨rfl, ht⟩) hfree (xd_of hv.1) (hlocks := hlk.1))
    · cases hc : Nat.beq x.1 0 && Nat.blt x.2 128 with
      | false => rw [hc] at h; cases h
      | true =>
        rw [hc] at h
        cases h
        obtain ⟨t9, n9⟩ := x
        simp only [Bool.and_eq_true, xbeq, xblt] at hc
        obtain ⟨rfl, hc⟩ := hc
        simp only [Bool.and_eq_true, decide_eq_true_eq] at hv
        exact xmono (xend_of (args := args) (ov := some (.int (Int32.ofNat n9))) (r9 := (1, (0, n9))) rfl hN) (W.zret (Qc := fun _ _ o t => o = .returned (some (.int (Int32.ofNat n9))) ∧ t.heap = H) hx hb (hr.trans hv.2) (nb_128 ⟨n9, hc⟩) (fun t ht _ => ⟨rfl, ht⟩) hfree (xd_of hv.1) (hlocks := hlk.1))
    · cases hc : Nat.beq x.1 0 && Nat.blt x.2 65536 with
      | false => rw [hc] at h; cases h
      | true =>
        rw [hc] at h
        cases h
        obtain ⟨t9, n9⟩ := x
        simp only [Bool.and_eq_true, xbeq, xblt] at hc
        obtain ⟨rfl, hc⟩ := hc
        simp only [Bool.and_eq_true, decide_eq_true_eq] at hv
        exact xmono (xend_of (args := args) (ov := some (.int (Int32.ofNat n9))) (r9 := (1, (0, n9))) rfl hN) (W.zret (Qc := fun _ _ o t => o = .returned (some (.int (Int32.ofNat n9))) ∧ t.heap = H) hx hb (hr.trans hv.2) ((pk_charN hc).1) (fun t ht _ => ⟨rfl, ht⟩) hfree (xd_of hv.1) (hlocks := hlk.1))
    · cases h
  | _ :: _ :: _, h => cases h
theorem ok23 (hI : xIH X ih) (hM : xMe X j C y cb maxL ret hs) (hF : xF p e s m meth c y cb maxL ret hs) (hS : xS X s) (hN : xN X R s H locs cells slots ls maxL lv hp bc bs d) (hv : xv23 cb C i = true) (h : xh23 X.P X.G ih C (xrow C i) (i + 1) lv st hp bc bs d = some out) : W p l e R s m args below meth c H locs cells slots (xEnd X R s below out) (F0 m (xpc C i) ls (st.map (xr X.E))) := by
  simp only [xh23, xf_eq] at h
  obtain ⟨hx, hb, -⟩ := id hF
  have hG := hS.2.2.2.2.1
  obtain ⟨-, -, g3, g4, g5, g6, -⟩ := id hG
  simp only [xv23, Bool.and_eq_true] at hv
  obtain ⟨hnx, hv⟩ := hv
  have hnx := xnx_of hnx
  generalize xru (xrow C i) = u at h hv
  match st, h with
  | [], h => cases h
  | [_], h => cases h
  | y9 :: x9 :: s9, h =>
    simp only at h
    split at h
    · cases hp9 : xlv X.G x9 with
      | none => simp only [hp9] at h; cases h
      | some q9 =>
        cases hr9 : xlv X.G y9 with
        | none => simp only [hp9, hr9] at h; cases h
        | some r9 =>
          simp only [hp9, hr9] at h
          obtain ⟨x, ex, h1, h2⟩ := xlv_of hG hp9
          obtain ⟨y8, ey, z1, z2⟩ := xlv_of hG hr9
          show W p l e R s m args below meth c H locs cells slots (xEnd X R s below out) (F0 m (xpc C i) ls (xr X.E y9 :: xr X.E x9 :: s9.map (xr X.E)))
          rw [ex, ey]
          refine W.lcmp hx hb (xd_of hv) ?_
          cases c1 : Nat.blt q9.2 r9.1 with
          | true =>
            rw [c1] at h
            have c1 := xblt.mp c1
            have e9 : lg_cmp x y8 = Int32.ofNat 4294967295 := by
              have hn1 : ¬ (x > y8) := by rw [gt_iff_lt, Int64.lt_iff_toInt_lt]; omega
              have hn2 : ¬ (x = y8) := by rw [← Int64.toInt_inj]; omega
              unfold lg_cmp
              rw [if_neg hn1, if_neg hn2]
              rfl
            rw [e9]
            exact xgo hI hM hF hS hN h hnx
          | false =>
            rw [c1] at h
            simp only [cond_false] at h
            cases c2 : Nat.blt r9.2 q9.1 with
            | true =>
              rw [c2] at h
              have c2 := xblt.mp c2
              have e9 : lg_cmp x y8 = Int32.ofNat 1 := by
                have hn1 : x > y8 := by rw [gt_iff_lt, Int64.lt_iff_toInt_lt]; omega
                unfold lg_cmp
                rw [if_pos hn1]
                rfl
              rw [e9]
              exact xgo hI hM hF hS hN h hnx
            | false =>
              rw [c2] at h
              simp only [cond_false] at h
              cases c3 : Nat.beq q9.1 q9.2 && (Nat.beq r9.1 r9.2 && Nat.beq q9.1 r9.1) with
              | false => rw [c3] at h; cases h
              | true =>
                rw [c3] at h
                simp only [Bool.and_eq_true, xbeq] at c3
                have e9 : lg_cmp x y8 = Int32.ofNat 0 := by
                  have hn1 : ¬ (x > y8) := by rw [gt_iff_lt, Int64.lt_iff_toInt_lt]; omega
                  have hn2 : x = y8 := by rw [← Int64.toInt_inj]; omega
                  unfold lg_cmp
                  rw [if_neg hn1, if_pos hn2]
                  rfl
                rw [e9]
                exact xgo hI hM hF hS hN h hnx
    · obtain ⟨tx, nx⟩ := x9
      obtain ⟨ty, ny⟩ := y9
      simp only [xlb] at h
      split at h
      · simp only [xpv_eq] at h
        exact lv_land hx hb (xd_of hv) (by rw [i64_and]; exact xgo hI hM hF hS hN h hnx)
      · cases c1 : Nat.beq ny 4294967295 && Nat.blt nx 16 with
        | true =>
          rw [c1] at h
          simp only [Bool.and_eq_true, xbeq, xblt] at c1
          obtain ⟨rfl, c1⟩ := c1
          simp only [cond_true, xpv_eq] at h
          refine lv_land hx hb (xd_of hv) ?_
          have e9 : (X.E.2.2.1 nx &&& Int64.ofNat 4294967295) = X.E.2.2.1 (nx + 32) := by rw [(g4 nx c1).2.2, (g4 nx c1).1]; rfl
          rw [e9]
          exact xgo hI hM hF hS hN h hnx
        | false =>
          rw [c1] at h
          simp only [cond_false] at h
          cases c2 : Nat.beq ny 1 with
          | false => rw [c2] at h; cases h
          | true =>
            rw [c2] at h
            have c2 := xbeq.mp c2
            subst c2
            simp only [cond_true, xpv_eq] at h
            refine lv_land hx hb (xd_of hv) ?_
            have e9 : (X.E.2.2.1 nx &&& Int64.ofNat 1) = X.E.2.2.1 (nx + 1024) := by rw [g6 nx]; rfl
            rw [e9]
            exact xgo hI hM hF hS hN h hnx
      · cases c1 : Nat.beq ny 32 && Nat.blt nx 16 with
        | false => rw [c1] at h; cases h
        | true =>
          rw [c1] at h
          simp only [Bool.and_eq_true, xbeq, xblt] at c1
          obtain ⟨rfl, c1⟩ := c1
          simp only [cond_true, xpv_eq] at h
          exact lv_lshl hx hb (xd_of hv) (by rw [(g4 nx c1).1]; exact (g4 nx c1).2.1.symm) (xgo hI hM hF hS hN h hnx)
      · cases c1 : Nat.ble 16 nx && (Nat.blt nx 32 && (Nat.ble 32 ny && Nat.blt ny 48)) with
        | false => rw [c1] at h; cases h
        | true =>
          rw [c1] at h
          simp only [Bool.and_eq_true, xble, xblt] at c1
          obtain ⟨a1, a2, a3, a4⟩ := c1
          obtain ⟨nx, rfl⟩ := Nat.exists_eq_add_of_le' a1
          obtain ⟨ny, rfl⟩ := Nat.exists_eq_add_of_le' a3
          simp only [cond_true, xpv_eq] at h
          refine lv_lor hx hb (xd_of hv) ?_
          have e9 : (X.E.2.2.1 (nx + 16) ||| X.E.2.2.1 (ny + 32)) = X.E.2.2.1 (256 + 16 * nx + ny) := (g5 nx ny (by omega) (by omega)).symm
          rw [e9]
          cases c2 : Nat.beq (nx + 16) 18 && (Nat.beq (ny + 32) 35 && Nat.beq X.G.2.2.1 X.G.2.2.2) with
          | false =>
            rw [c2] at h
            simp only [cond_false, Nat.add_sub_cancel] at h
            exact xgo hI hM hF hS hN h hnx
          | true =>
            rw [c2] at h
            simp only [cond_true] at h
            simp only [Bool.and_eq_true, xbeq] at c2
            obtain ⟨b1, b2, b3⟩ := c2
            have hnx2 : nx = 2 := by omega
            have hny2 : ny = 3 := by omega
            subst hnx2; subst hny2
            have e8 : Int64.ofNat ((X.G.2.2.1 + 9223372036854775808) % xL) = X.E.2.2.1 291 := by
              apply Int64.toInt_inj.mp
              rw [i64_toInt]
              have hl := Int64.le_toInt (X.E.2.2.1 291)
              have hh := Int64.toInt_lt (X.E.2.2.1 291)
              unfold xbl xL
              omega
            have go := xgo (p := p) (l := l) (e := e) (R := R) (s := s) (m := m) (args := args) (below := below) (meth := meth) (c := c) hI hM hF hS hN h hnx
            show W p l e R s m args below meth c H locs cells slots (xEnd X R s below out) (F0 m (xpc C i + 1) ls (.long (X.E.2.2.1 291) :: s9.map (xr X.E)))
            rw [← e8]
            exact go
      · simp only [xpv_eq] at h
        exact lv_ladd hx hb (xd_of hv) (by rw [i64_add]; exact xgo hI hM hF hS hN h hnx)
      · simp only [xpv_eq] at h
        exact lv_lmul hx hb (xd_of hv) (by rw [i64_mul]; exact xgo hI hM hF hS hN h hnx)
      · simp only [xpv_eq] at h
        exact lv_lsub hx hb (xd_of hv) (by rw [i64_sub]; exact xgo hI hM hF hS hN h hnx)
      · cases c1 : Nat.beq ny 32 with
        | false => rw [c1] at h; cases h
        | true =>
          rw [c1] at h
          have c1 := xbeq.mp c1
          subst c1
          simp only [cond_true, xpv_eq] at h
          exact lv_lshl hx hb (xd_of hv) (i64_shl32 nx) (xgo hI hM hF hS hN h hnx)
      · simp only [xpv_eq] at h
        exact lv_lor hx hb (xd_of hv) (by rw [i64_or]; exact xgo hI hM hF hS hN h hnx)
      · cases h
theorem ok26 (hI : xIH X ih) (hM : xMe X j C y cb maxL ret hs) (hF : xF p e s m meth c y cb maxL ret hs) (hS : xS X s) (hN : xN X R s H locs cells slots ls maxL lv hp bc bs d) (hv : xv26 cb X.P.2.2.1 C i = true) (h : xh26 X.P X.G ih C (xrow C i) (i + 1) lv st hp bc bs d = some out) : W p l e R s m args below meth c H locs cells slots (xEnd X R s below out) (F0 m (xpc C i) ls (st.map (xr X.E))) := by
  simp only [xh26, xf_eq, xnth_eq] at h
  obtain ⟨hx, hb, -⟩ := id hF
  unfold xv26 at hv
  split at hv
  · rename_i dflt lo hi offs len l9 hd hl9
    simp only [Bool.and_eq_true, decide_eq_true_eq, xblt] at hv
    obtain ⟨rfl, hhi, hdf, hsw, hlen⟩ := hv
    match st, h with
    | [], h => cases h
    | (0, x9) :: s9, h =>
      simp only [hl9] at h
      cases hx9 : l9[x9]? with
      | none =>
        simp only [hx9] at h
        cases c1 : Nat.blt x9 65536 with
        | false => rw [c1] at h; cases h
        | true =>
          rw [c1] at h
          have c1 := xblt.mp c1
          have hge : l9.length ≤ x9 := List.getElem?_eq_none_iff.mp hx9
          have e9 : (Int32.ofNat x9).toInt = (x9 : Int) := nI_toInt (by omega)
          exact lv_tableOut hx hb hd (by rw [e9, hhi]; omega) hdf (xgo hI hM hF hS hN h rfl)
      | some t9 =>
        simp only [hx9] at h
        have hlt : x9 < l9.length := (List.getElem?_eq_some_iff.mp hx9).1
        obtain ⟨o9, h1, h2⟩ := xsw_of l9 0 hsw x9 t9 hx9
        have e9 : (Int32.ofNat x9).toInt = (x9 : Int) := nI_toInt (by omega)
        refine lv_tableIn hx hb hd (by rw [e9]; omega) (by rw [e9, hhi]; omega) (off := o9) (by rw [e9]; rw [Nat.zero_add] at h1; simpa using h1) h2 (xgo hI hM hF hS hN h rfl)
    | (k + 1, x9) :: s9, h => cases h
  · cases hv
end XO
