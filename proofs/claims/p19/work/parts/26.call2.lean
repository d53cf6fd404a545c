/-- the handler row of a call that may throw: the first row of the table takes it -/
def xhr (cb : ByteArray) (Ws : List Cond) (cl : List vw_C) (own : String) (hs : List (Nat × Nat × Nat × Nat)) (C i : Nat) : Bool := match xrw (xrow C i) with
  | 0 => true
  | _ => match hs with
    | (a, b, h, ct) :: _ => Nat.ble a (xpc C i) && (Nat.blt (xpc C i) b && (Nat.beq h (xpc C (xrw (xrow C i))) && (!(Nat.beq ct 0) && (match cl[xru (xrow C i) / 65536 % 65536]? with
      | some (Cn, _, _) => decide (Cond.classLink own ct Cn ∈ Ws) && Nat.blt (xru (xrow C i) / 65536 % 65536) 100
      | none => false))))
    | [] => false
/-- the second handler row: the class does not fit the first row, and the second row takes it -/
def xhr2 (Ws : List Cond) (cl : List vw_C) (own : String) (hs : List (Nat × Nat × Nat × Nat)) (C i : Nat) : Bool := match xru (xrow C i) / 281474976710656 with
  | 0 => true
  | _ => match hs with
    | (a, b, _, ct) :: (a2, b2, h2, ct2) :: _ => Nat.ble a (xpc C i) && (Nat.blt (xpc C i) b && (!(Nat.beq ct 0) && (Nat.ble a2 (xpc C i) && (Nat.blt (xpc C i) b2 && (Nat.beq h2 (xpc C (xru (xrow C i) / 281474976710656)) && (!(Nat.beq ct2 0) && (match cl[xru (xrow C i) / 65536 % 65536]?, cl[xru (xrow C i) / 4294967296 % 65536]? with
      | some (Cn, _, _), some (Cn2, _, _) => decide (Cond.classLink own ct Cn ∈ Ws) && (decide (Cond.classLink own ct2 Cn2 ∈ Ws) && (decide (Cond.not (.castable Cn2 Cn) ∈ Ws) && Nat.blt (xru (xrow C i) / 4294967296 % 65536) 100))
      | _, _ => false)))))))
    | _ => false
def xv17 (cb : ByteArray) (Ws : List Cond) (cl : List vw_C) (Mi : List (MethodName × ByteArray × Nat × Option FieldType × List (Nat × Nat × Nat × Nat))) (P1 : List (Nat × Nat)) (own : String) (hs : List (Nat × Nat × Nat × Nat)) (C i : Nat) : Bool := match Mi[xrv (xrow C i)]?, P1[xrv (xrow C i)]? with
  | some (y2, cb2, maxL2, ret2, hs2), some (na, C2) => xnx C i 3 && (xhr cb Ws cl own hs C i && (xhr2 Ws cl own hs C i && (decide (xcw y2 cb2 maxL2 ret2 hs2 ∈ Ws) && (xpl y2 && (Nat.ble maxL2 37 && (Nat.beq (xpc C2 0) 0 && (Nat.beq (na / 256) maxL2 && (decide (y2.cls ≠ "java/lang/invoke/MethodHandle" ∧ y2.cls ≠ "java/lang/invoke/VarHandle") &&
    (match xrb (xrow C i) with
    | 0 => xd cb (xpc C i) (.invokevirtual (xra (xrow C i))) 3 && (decide (Cond.methodLink own (xra (xrow C i)) y2 ∈ Ws) && (decide (Cond.instanceMethod y2 ∈ Ws) && (decide (Cond.selects y2.cls y2 y2 ∈ Ws) && (decide ((parseMethodDescriptor y2.desc).map (fun d => d.parameters.length + 1) = some (na % 256)) && (match cl[xru (xrow C i) % 65536]? with
      | some (Cn, _, _) => decide (Cn = y2.cls) && Nat.blt (xru (xrow C i) % 65536) 100
      | none => decide (y2.cls = "java/lang/String"))))))
    | 1 => xd cb (xpc C i) (.invokespecial (xra (xrow C i))) 3 && (decide (Cond.methodLink own (xra (xrow C i)) y2 ∈ Ws) && (decide (Cond.instanceMethod y2 ∈ Ws) && (decide (y2.name = "<init>") && (decide (hs2 = []) && (decide (ret2 = none) && decide ((parseMethodDescriptor y2.desc).map (fun d => d.parameters.length + 1) = some (na % 256)))))))
    | 5 => xd cb (xpc C i) (.invokespecial (xra (xrow C i))) 3 && (decide (Cond.methodLinkNest own (xra (xrow C i)) y2 "ProxyForge" ∈ Ws) && (decide (Cond.instanceMethod y2 ∈ Ws) && (decide (y2.name = "<init>") && (decide (hs2 = []) && (decide (ret2 = none) && decide ((parseMethodDescriptor y2.desc).map (fun d => d.parameters.length + 1) = some (na % 256)))))))
    | 2 => xd cb (xpc C i) (.invokestatic (xra (xrow C i))) 3 && (decide (Cond.methodLink own (xra (xrow C i)) y2 ∈ Ws) && (decide (Cond.static y2 ∈ Ws) && (decide (Cond.initialized y2.cls ∈ Ws) && decide ((parseMethodDescriptor y2.desc).map (fun d => d.parameters.length) = some (na % 256)))))
    | _ => false)))))))))
  | _, _ => false
theorem xcw_named {y : MethodName} {cb : ByteArray} {maxL : Nat} {ret : Option FieldType} {hs : List (Nat × Nat × Nat × Nat)} {a : Array Value} {s : State} (h : (xcw y cb maxL ret hs).before a s = true) : ∃ mk, s.methodNamed? y = some mk := by
  unfold xcw at h
  split at h
  · exact Cond.code_named h
  · obtain ⟨m9, methk, ck, hn9, -⟩ := Cond.codeWith_spec h
    exact ⟨m9, hn9⟩
section XO
variable {X : xFix} {ih : xrec} {C i : Nat} {lv : xl} {st : List xv} {hp : xh} {bc bs d : Nat} {out : (Nat × xv) × xh × Nat × Nat} {j : Nat} {y : MethodName} {cb : ByteArray} {maxL : Nat} {ret : Option FieldType} {hs : List (Nat × Nat × Nat × Nat)}
  {p : Program} {l : Launch} {e : Env} {R : Room} {s : State} {m : MethodId} {args : Array Value} {below : List Frame} {meth : Method} {c : Code} {H : Heap} {locs : List Loc} {cells slots : Nat} {ls : Array Slot}

/-- back from a call that has returned -/
theorem xcall_out {T t : State} {mk : MethodId} {a : Array Value} {pc : Nat} {ig : Instr} {rest : List xv} {r9 : Nat × xv} {st2 : List xv} {h2 : xh} {c2 s2 d2 : Nat}
    (Y : Stand p l e R s m args below meth c T locs cells slots) (hT : T.heap = H) (hI : xIH X ih) (hM : xMe X j C y cb maxL ret hs) (hF : xF p e s m meth c y cb maxL ret hs) (hS : xS X s) (hN : xN X R s H locs cells slots ls maxL lv hp bc bs d) (hdg : decode cb pc = .ok (ig, 3))
    (hend : xEnd X { frames := d2, cells := bc, slots := bs, locals := 64 * d2 } (T.calling (F0 m pc ls (rest.map (xr X.E))) mk a) (.java (F0 m pc ls (rest.map (xr X.E))) :: below) (r9, h2, c2, s2) t) (hst : (r9.1 = 0 ∧ st2 = rest) ∨ (r9.1 = 1 ∧ st2 = r9.2 :: rest))
    (h : ih C (i + 1) lv st2 h2 c2 s2 d = some out) (hnx : xpc C (i + 1) = pc + 3) : ∃ t', Steps p.tables e below t t' ∧ xEnd X R s below out t' := by
  obtain ⟨n1, n2, n3, n4, n5, n6, n7, n8⟩ := id hN
  have hb := hF.2.1
  have hend := hend.old (by rcases hst with ⟨q, -⟩ | ⟨q, -⟩ <;> (show r9.1 ≠ 9; rw [q]; decide))
  obtain ⟨o, L, k, n, hO, hrun, hend, hW, hsame, hL, hk, hn, hSS, hz, hP2⟩ := hend
  have hv : ∃ v, o = .returned v ∧ v.toList ++ rest.map (xr X.E) = st2.map (xr X.E) := by
    obtain ⟨r1, r2⟩ := r9
    rcases hst with ⟨h1, h2⟩ | ⟨h1, h2⟩
    · have h1 : r1 = 0 := h1
      subst h1; subst h2
      exact ⟨none, hO, rfl⟩
    · have h1 : r1 = 1 := h1
      subst h1; subst h2
      exact ⟨some (xr X.E r2), hO, rfl⟩
  obtain ⟨v, rfl, hv⟩ := hv
  obtain ⟨T2, Y2, hW2, hs2, rfl⟩ := Y.outOf (g := F0 m pc ls (rest.map (xr X.E))) rfl (by rw [hb]; exact hdg) hend hW hsame
  have hc1 : (T.calling (F0 m pc ls (rest.map (xr X.E))) mk a).heap = H := hT
  rw [hc1] at hSS
  have hk : k + c2 = bc := hk
  have hn : n + s2 = bs := hn
  have hSS2 : va_S (xA X.E) H T2.heap L := hSS
  have hN2 : xN X R s T2.heap (locs ++ L) (cells + k) (slots + n) ls maxL lv h2 c2 s2 d := by
    refine ⟨⟨Nat.le_trans n1.1 hSS2.1, fun q h1 h2 => (hSS2.2.1 q (Nat.lt_of_lt_of_le h1 n1.1) h2).trans (n1.2.1 q h1 h2), fun q hq => ?_⟩, hz, hP2, n4, by omega, by omega, n7, n8⟩
    rcases List.mem_append.mp hq with h1 | h1
    · exact n1.2.2 q h1
    · exact hL q h1
  obtain ⟨t', st', he⟩ := hI _ _ _ _ _ _ _ _ _ h j y cb maxL ret hs hM p l e R s m args below meth c T2.heap (locs ++ L) (cells + k) (slots + n) ls hF hS hN2 T2 rfl Y2
  refine ⟨t', ?_, he⟩
  rw [hnx, ← hv] at st'
  exact st'
theorem xcall_catch {T t : State} {mk : MethodId} {a : Array Value} {pc : Nat} {ig : Instr} {rest : List xv} {r9 : Nat × xv} {h2 : xh} {c2 s2 d2 : Nat}
    (Y : Stand p l e R s m args below meth c T locs cells slots) (hT : T.heap = H) (hI : xIH X ih) (hM : xMe X j C y cb maxL ret hs) (hF : xF p e s m meth c y cb maxL ret hs) (hS : xS X s) (hN : xN X R s H locs cells slots ls maxL lv hp bc bs d) (hpc : pc = xpc C i) (hdg : decode cb pc = .ok (ig, 3))
    (hend : xEnd X { frames := d2, cells := bc, slots := bs, locals := 64 * d2 } (T.calling (F0 m pc ls (rest.map (xr X.E))) mk a) (.java (F0 m pc ls (rest.map (xr X.E))) :: below) (r9, h2, c2, s2) t) (hr : r9.1 = 2) {k9 m9 N9 : Nat} {fs : List xv} (hc9 : h2[r9.2.2]? = some ((k9, m9), N9, fs)) (hcls : k9 = xru (xrow C i) / 65536 % 65536) (hw : 1 ≤ xrw (xrow C i)) (hhr : xhr cb X.Ws X.cl y.cls hs C i = true)
    (h : ih C (xrw (xrow C i)) lv [(2, r9.2.2)] h2 c2 s2 d = some out) : ∃ t', Steps p.tables e below t t' ∧ xEnd X R s below out t' := by
  obtain ⟨n1, n2, n3, n4, n5, n6, n7, n8⟩ := id hN
  obtain ⟨hx, hb, hml, -, -, -, hown, htb⟩ := id hF
  obtain ⟨hWd, hK, -⟩ := id hS
  have hend := hend.old (by show r9.1 ≠ 9; rw [hr]; decide)
  obtain ⟨o, L, k, n, hO, hrun, hend, hW, hsame, hL, hk, hn, hSS, hz, hP2⟩ := hend
  have ho : o = .threw (X.E.1 + r9.2.2) := by
    obtain ⟨r1, r2⟩ := r9
    have hr : r1 = 2 := hr
    subst hr
    exact hO
  subst ho
  obtain ⟨T2, Y2, hW2, hs2, rfl⟩ := Y.outOfThrown (g := F0 m pc ls (rest.map (xr X.E))) rfl hend hW hsame
  have hc1 : (T.calling (F0 m pc ls (rest.map (xr X.E))) mk a).heap = H := hT
  rw [hc1] at hSS
  have hk : k + c2 = bc := hk
  have hn : n + s2 = bs := hn
  have hSS2 : va_S (xA X.E) H T2.heap L := hSS
  have hz2 : T2.heap.size = X.E.1 + h2.length := hz
  have hP3 : va_P X.D X.cl (xrh X.E X.dA h2) T2.heap := hP2
  have hN2 : xN X R s T2.heap (locs ++ L) (cells + k) (slots + n) ls maxL lv h2 c2 s2 d := by
    refine ⟨⟨Nat.le_trans n1.1 hSS2.1, fun q h1 h2 => (hSS2.2.1 q (Nat.lt_of_lt_of_le h1 n1.1) h2).trans (n1.2.1 q h1 h2), fun q hq => ?_⟩, hz2, hP3, n4, by omega, by omega, n7, n8⟩
    rcases List.mem_append.mp hq with h1 | h1
    · exact n1.2.2 q h1
    · exact hL q h1
  unfold xhr at hhr
  split at hhr
  · rename_i e9
    rw [e9] at hw
    omega
  · split at hhr
    · rename_i a9 b9 h9 ct tl
      simp only [Bool.and_eq_true, xble, xblt, xbeq, Bool.not_eq_true'] at hhr
      obtain ⟨g1, g2, g3, g4, g5⟩ := hhr
      cases hcl : X.cl[xru (xrow C i) / 65536 % 65536]? with
      | none => rw [hcl] at g5; cases g5
      | some r8 =>
        obtain ⟨Cn, Tn, Nn⟩ := r8
        rw [hcl] at g5
        simp only [Bool.and_eq_true, decide_eq_true_eq, xblt] at g5
        obtain ⟨g5, g6⟩ := g5
        obtain ⟨x, tt, htab, hx1, -⟩ := List.map_eq_cons_iff.mp htb
        have e1 : x.startPc = a9 := congrArg (fun z => z.1) hx1
        have e2 : x.endPc = b9 := congrArg (fun z => z.2.1) hx1
        have e3 : x.handlerPc = h9 := congrArg (fun z => z.2.2.1) hx1
        have e4 : x.catchType = ct := congrArg (fun z => z.2.2.2) hx1
        have hplm : e.platform.magicAccessors = ({} : Platform).magicAccessors := by rw [Y2.admits.platform]
        obtain ⟨cc, hfcc, hlinks⟩ := Cond.classLink_spec hown (hWd _ g5 args) e.platform hplm
        obtain ⟨hg1, hwarm1, hready1⟩ := State.classEntry (e := e) Y2.warmed hlinks
        obtain ⟨-, hfc, kC, hkC, hkind⟩ := hK.1 _ _ hcl
        have hcc : cc = X.D.1 (xru (xrow C i) / 65536 % 65536) := Option.some.inj (hfcc.symm.trans hfc)
        subst hcc
        obtain ⟨r7, hr7, cell, q1, q2, q3, q4⟩ := (by have h8 := hP3 _ _ (xrh_get hc9); rw [hcls, xre_o g6] at h8; exact h8 : va_at X.D X.cl (X.E.1 + r9.2.2, .inr (xru (xrow C i) / 65536 % 65536, fs.map (xr X.E))) T2.heap)
        have hct0 : ct ≠ 0 := by
          intro h0
          rw [xbeq.mpr h0] at g4
          cases g4
        have hkk : ∃ k, (T2.vm.noted m.cls ct (.cls (X.D.1 (xru (xrow C i) / 65536 % 65536)))).classes[X.D.1 (xru (xrow C i) / 65536 % 65536)]? = some k := by
          obtain ⟨k', hk', -⟩ := hwarm1.alike.2.2 _ _ hkC
          exact ⟨k', hk'⟩
        have hN3 : xN X R s (T2.setVm (T2.vm.noted m.cls ct (.cls (X.D.1 (xru (xrow C i) / 65536 % 65536))))).heap (locs ++ L) (cells + k) (slots + n) ls maxL lv h2 c2 s2 d := hN2
        obtain ⟨t', st', he⟩ := hI _ _ _ _ _ _ _ _ _ h j y cb maxL ret _ hM p l e R s m args below meth c _ (locs ++ L) (cells + k) (slots + n) ls hF hS hN3 (T2.setVm (T2.vm.noted m.cls ct (.cls (X.D.1 (xru (xrow C i) / 65536 % 65536))))) rfl (Y2.noted hwarm1)
        refine ⟨t', ?_, he⟩
        refine xcaught (s := T2) (g := F0 m pc ls (rest.map (xr X.E))) (x := x) (t := tt) (cC := X.D.1 (xru (xrow C i) / 65536 % 65536)) (cell := cell) (vm' := T2.vm.noted m.cls ct (.cls (X.D.1 (xru (xrow C i) / 65536 % 65536)))) (meth := meth) Y2.here Y2.method' Y2.code htab ?_ (by rw [e4]; exact hct0) (by rw [e4]; exact hg1) (by no_record) q1 (fun z hz9 => by rw [q3] at hz9; cases hz9) (by rw [q2]; exact hkk) hkk (by rw [q2]; exact va_asg _ _) ?_
        · rw [hpc]
          simp only [covers, Bool.and_eq_true, decide_eq_true_eq, e1, e2]
          exact ⟨g1, g2⟩
        · rw [e3, g3]
          exact st'
    · cases hhr
theorem xcall_catch2 {T t : State} {mk : MethodId} {a : Array Value} {pc : Nat} {ig : Instr} {rest : List xv} {r9 : Nat × xv} {h2 : xh} {c2 s2 d2 : Nat}
    (Y : Stand p l e R s m args below meth c T locs cells slots) (hT : T.heap = H) (hI : xIH X ih) (hM : xMe X j C y cb maxL ret hs) (hF : xF p e s m meth c y cb maxL ret hs) (hS : xS X s) (hN : xN X R s H locs cells slots ls maxL lv hp bc bs d) (hpc : pc = xpc C i) (hdg : decode cb pc = .ok (ig, 3))
    (hend : xEnd X { frames := d2, cells := bc, slots := bs, locals := 64 * d2 } (T.calling (F0 m pc ls (rest.map (xr X.E))) mk a) (.java (F0 m pc ls (rest.map (xr X.E))) :: below) (r9, h2, c2, s2) t) (hr : r9.1 = 2) {k9 m9 N9 : Nat} {fs : List xv} (hc9 : h2[r9.2.2]? = some ((k9, m9), N9, fs)) (hcls : k9 = xru (xrow C i) / 4294967296 % 65536) (hw : 1 ≤ xru (xrow C i) / 281474976710656) (hhr : xhr2 X.Ws X.cl y.cls hs C i = true)
    (h : ih C (xru (xrow C i) / 281474976710656) lv [(2, r9.2.2)] h2 c2 s2 d = some out) : ∃ t', Steps p.tables e below t t' ∧ xEnd X R s below out t' := by
  obtain ⟨n1, n2, n3, n4, n5, n6, n7, n8⟩ := id hN
  obtain ⟨hx, hb, hml, -, -, -, hown, htb⟩ := id hF
  obtain ⟨hWd, hK, -⟩ := id hS
  have hend := hend.old (by show r9.1 ≠ 9; rw [hr]; decide)
  obtain ⟨o, L, k, n, hO, hrun, hend, hW, hsame, hL, hk, hn, hSS, hz, hP2⟩ := hend
  have ho : o = .threw (X.E.1 + r9.2.2) := by
    obtain ⟨r1, r2⟩ := r9
    have hr : r1 = 2 := hr
    subst hr
    exact hO
  subst ho
  obtain ⟨T2, Y2, hW2, hs2, rfl⟩ := Y.outOfThrown (g := F0 m pc ls (rest.map (xr X.E))) rfl hend hW hsame
  have hc1 : (T.calling (F0 m pc ls (rest.map (xr X.E))) mk a).heap = H := hT
  rw [hc1] at hSS
  have hk : k + c2 = bc := hk
  have hn : n + s2 = bs := hn
  have hSS2 : va_S (xA X.E) H T2.heap L := hSS
  have hz2 : T2.heap.size = X.E.1 + h2.length := hz
  have hP3 : va_P X.D X.cl (xrh X.E X.dA h2) T2.heap := hP2
  have hN2 : xN X R s T2.heap (locs ++ L) (cells + k) (slots + n) ls maxL lv h2 c2 s2 d := by
    refine ⟨⟨Nat.le_trans n1.1 hSS2.1, fun q h1 h2 => (hSS2.2.1 q (Nat.lt_of_lt_of_le h1 n1.1) h2).trans (n1.2.1 q h1 h2), fun q hq => ?_⟩, hz2, hP3, n4, by omega, by omega, n7, n8⟩
    rcases List.mem_append.mp hq with h1 | h1
    · exact n1.2.2 q h1
    · exact hL q h1
  unfold xhr2 at hhr
  split at hhr
  · rename_i e9
    rw [e9] at hw
    omega
  · split at hhr
    · rename_i a9 b9 h9 ct a8 b8 h8 ct8 tl
      simp only [Bool.and_eq_true, xble, xblt, xbeq, Bool.not_eq_true'] at hhr
      obtain ⟨g1, g2, g4, p1, p2, p3, p4, g5⟩ := hhr
      cases hcl : X.cl[xru (xrow C i) / 65536 % 65536]? with
      | none => rw [hcl] at g5; cases g5
      | some r8 =>
        obtain ⟨Cn, Tn, Nn⟩ := r8
        cases hcl2 : X.cl[xru (xrow C i) / 4294967296 % 65536]? with
        | none => rw [hcl, hcl2] at g5; cases g5
        | some r6 =>
          obtain ⟨Cn2, Tn2, Nn2⟩ := r6
          rw [hcl, hcl2] at g5
          simp only [Bool.and_eq_true, decide_eq_true_eq, xblt] at g5
          obtain ⟨g5, p5, p7, p6⟩ := g5
          obtain ⟨x, tt, htab, hx1, htb2⟩ := List.map_eq_cons_iff.mp htb
          obtain ⟨x2, tt2, htab2, hx2, -⟩ := List.map_eq_cons_iff.mp htb2
          subst htab2
          have e1 : x.startPc = a9 := congrArg (fun z => z.1) hx1
          have e2 : x.endPc = b9 := congrArg (fun z => z.2.1) hx1
          have e4 : x.catchType = ct := congrArg (fun z => z.2.2.2) hx1
          have d1 : x2.startPc = a8 := congrArg (fun z => z.1) hx2
          have d2 : x2.endPc = b8 := congrArg (fun z => z.2.1) hx2
          have d3 : x2.handlerPc = h8 := congrArg (fun z => z.2.2.1) hx2
          have d4 : x2.catchType = ct8 := congrArg (fun z => z.2.2.2) hx2
          have hplm : e.platform.magicAccessors = ({} : Platform).magicAccessors := by rw [Y2.admits.platform]
          obtain ⟨cc, hfcc, hlinks⟩ := Cond.classLink_spec hown (hWd _ g5 args) e.platform hplm
          obtain ⟨hg1, hwarm1, hready1⟩ := State.classEntry (e := e) Y2.warmed hlinks
          obtain ⟨-, hfc, kC, hkC, hkind⟩ := hK.1 _ _ hcl
          have hcc : cc = X.D.1 (xru (xrow C i) / 65536 % 65536) := Option.some.inj (hfcc.symm.trans hfc)
          subst hcc
          have Y3 := Y2.noted hwarm1
          obtain ⟨cc2, hfcc2, hlinks2⟩ := Cond.classLink_spec hown (hWd _ p5 args) e.platform hplm
          obtain ⟨hg2, hwarm2, hready2⟩ := State.classEntry (e := e) Y3.warmed hlinks2
          obtain ⟨-, hfc2, kC2, hkC2, hkind2⟩ := hK.1 _ _ hcl2
          have hcc2 : cc2 = X.D.1 (xru (xrow C i) / 4294967296 % 65536) := Option.some.inj (hfcc2.symm.trans hfc2)
          subst hcc2
          obtain ⟨q5, q6, q7, q8, q9⟩ := xnoc (hWd _ p7 args)
          cases q7.symm.trans hfc2
          cases q8.symm.trans hfc
          obtain ⟨r7, hr7, cell, q1, q2, q3, q4⟩ := (by have h8 := hP3 _ _ (xrh_get hc9); rw [hcls, xre_o p6] at h8; exact h8 : va_at X.D X.cl (X.E.1 + r9.2.2, .inr (xru (xrow C i) / 4294967296 % 65536, fs.map (xr X.E))) T2.heap)
          have hct0 : ct ≠ 0 := by
            intro h0
            rw [xbeq.mpr h0] at g4
            cases g4
          have hct8 : ct8 ≠ 0 := by
            intro h0
            rw [xbeq.mpr h0] at p4
            cases p4
          have hk1 : ∃ k, (T2.vm.noted m.cls ct (.cls (X.D.1 (xru (xrow C i) / 65536 % 65536)))).classes[X.D.1 (xru (xrow C i) / 65536 % 65536)]? = some k := by
            obtain ⟨k', hk', -⟩ := hwarm1.alike.2.2 _ _ hkC
            exact ⟨k', hk'⟩
          have hk2 : ∃ k, (T2.vm.noted m.cls ct (.cls (X.D.1 (xru (xrow C i) / 65536 % 65536)))).classes[X.D.1 (xru (xrow C i) / 4294967296 % 65536)]? = some k := by
            obtain ⟨k', hk', -⟩ := hwarm1.alike.2.2 _ _ hkC2
            exact ⟨k', hk'⟩
          have hkk : ∃ k, ((T2.vm.noted m.cls ct (.cls (X.D.1 (xru (xrow C i) / 65536 % 65536)))).noted m.cls ct8 (.cls (X.D.1 (xru (xrow C i) / 4294967296 % 65536)))).classes[X.D.1 (xru (xrow C i) / 4294967296 % 65536)]? = some k := by
            obtain ⟨k', hk', -⟩ := hwarm2.alike.2.2 _ _ hkC2
            exact ⟨k', hk'⟩
          have hno : (T2.vm.noted m.cls ct (.cls (X.D.1 (xru (xrow C i) / 65536 % 65536)))).assignable (X.D.1 (xru (xrow C i) / 4294967296 % 65536)) (X.D.1 (xru (xrow C i) / 65536 % 65536)) = false := by
            rw [hwarm1.alike.assignable]
            exact q9
          have hN3 : xN X R s ((T2.setVm (T2.vm.noted m.cls ct (.cls (X.D.1 (xru (xrow C i) / 65536 % 65536))))).setVm ((T2.vm.noted m.cls ct (.cls (X.D.1 (xru (xrow C i) / 65536 % 65536)))).noted m.cls ct8 (.cls (X.D.1 (xru (xrow C i) / 4294967296 % 65536))))).heap (locs ++ L) (cells + k) (slots + n) ls maxL lv h2 c2 s2 d := hN2
          obtain ⟨t', st', he⟩ := hI _ _ _ _ _ _ _ _ _ h j y cb maxL ret _ hM p l e R s m args below meth c _ (locs ++ L) (cells + k) (slots + n) ls hF hS hN3 _ rfl (Y3.noted hwarm2)
          refine ⟨t', ?_, he⟩
          refine xcaught2 (s := T2) (g := F0 m pc ls (rest.map (xr X.E))) (x := x) (y := x2) (t := tt2) (c1 := X.D.1 (xru (xrow C i) / 65536 % 65536)) (cC := X.D.1 (xru (xrow C i) / 4294967296 % 65536)) (cell := cell) (vm1 := T2.vm.noted m.cls ct (.cls (X.D.1 (xru (xrow C i) / 65536 % 65536)))) (vm' := (T2.vm.noted m.cls ct (.cls (X.D.1 (xru (xrow C i) / 65536 % 65536)))).noted m.cls ct8 (.cls (X.D.1 (xru (xrow C i) / 4294967296 % 65536)))) (meth := meth) Y2.here Y2.method' Y2.code htab ?_ (by rw [e4]; exact hct0) (by rw [e4]; exact hg1) (by no_record) q1 (fun z hz9 => by rw [q3] at hz9; cases hz9) (by rw [q2]; exact hk2) hk1 (by rw [q2]; exact hno) ?_ (by rw [d4]; exact hct8) (by rw [d4]; exact hg2) (by no_record) (by rw [q2]; exact hkk) hkk (by rw [q2]; exact va_asg _ _) ?_
          · rw [hpc]
            simp only [covers, Bool.and_eq_true, decide_eq_true_eq, e1, e2]
            exact ⟨g1, g2⟩
          · rw [hpc]
            simp only [covers, Bool.and_eq_true, decide_eq_true_eq, d1, d2]
            exact ⟨p1, p2⟩
          · rw [d3, p3]
            exact st'
    · cases hhr
theorem ok17 (hI : xIH X ih) (hM : xMe X j C y cb maxL ret hs) (hF : xF p e s m meth c y cb maxL ret hs) (hS : xS X s) (hN : xN X R s H locs cells slots ls maxL lv hp bc bs d) (hv : xv17 cb X.Ws X.cl X.Mi X.P.1 y.cls hs C i = true) (h : xh17 X.P X.G ih C (xrow C i) (i + 1) lv st hp bc bs d = some out) : W p l e R s m args below meth c H locs cells slots (xEnd X R s below out) (F0 m (xpc C i) ls (st.map (xr X.E))) := by
  simp only [xh17, xf_eq, xnth_eq] at h
  obtain ⟨hx, hb, hml, -, -, -, hown, -⟩ := id hF
  obtain ⟨hWd, hK, hO, -⟩ := id hS
  obtain ⟨hSS, hsz, hP, hl, -⟩ := id hN
  match d, hN, h with
  | 0, hN, h => cases h
  | d2 + 1, hN, h =>
    simp only at h
    cases hP1 : X.P.1[xrv (xrow C i)]? with
    | none => simp only [hP1] at h; cases h
    | some q =>
      obtain ⟨na, C2⟩ := q
      simp only [hP1] at h
      unfold xv17 at hv
      cases hMi : X.Mi[xrv (xrow C i)]? with
      | none => simp only [hMi] at hv; cases hv
      | some q2 =>
        obtain ⟨y2, cb2, maxL2, ret2, hs2⟩ := q2
        simp only [hMi, hP1, Bool.and_eq_true, decide_eq_true_eq, xble, xbeq] at hv
        obtain ⟨hnx, hhr, hhr2, hcw, hpl, hmax, hpc0, hna, hy, hv⟩ := hv
        have hnx := xnx_of hnx
        have hM2 : xMe X (xrv (xrow C i)) C2 y2 cb2 maxL2 ret2 hs2 := ⟨hMi, na, hP1, hna⟩
        cases htk : xtake (na % 256) st [] with
        | none => simp only [htk] at h; cases h
        | some q3 =>
          obtain ⟨as, s9⟩ := q3
          simp only [htk] at h
          obtain ⟨l9, e1, e2, e3⟩ := xtake_of _ _ _ _ _ htk
          rw [List.append_nil] at e1
          subst e1
          cases hcd : Nat.ble (List.length s9) 8 && xrcv X.P.2.1 hp (xrb (xrow C i)) (xru (xrow C i) % 65536) as with
          | false => rw [hcd] at h; cases h
          | true =>
            rw [hcd] at h
            simp only [cond_true, xarg_eqJ] at h
            simp only [Bool.and_eq_true, xble] at hcd
            obtain ⟨hlen8, hrc⟩ := hcd
            cases hbl : Nat.ble (xargn as 0) (na / 256) with
            | false => rw [hbl] at h; cases h
            | true =>
              rw [hbl] at h
              simp only [cond_true] at h
              have hbl := xble.mp hbl
              rw [hna] at hbl
              cases hrun : ih C2 0 (xargs as 0) [] hp bc bs d2 with
              | none => rw [hrun] at h; cases h
              | some out2 =>
                obtain ⟨⟨o9, x9⟩, h2, c2, s2⟩ := out2
                rw [hrun] at h
                simp only at h
                have key : ∀ (T : State) (mk : MethodId) (ig : Instr), T.heap = H → s.methodNamed? y2 = some mk → decode cb (xpc C i) = .ok (ig, 3) → ∀ vm1, Stand p l e R s m args below meth c (T.setVm vm1) locs cells slots → (∀ target, (∀ acts, Steps p.tables e below (doInvoke e ((T.setVm vm1).setTop (F0 m (xpc C i) ls (s9.map (xr X.E)))) acts mk (as.map (xr X.E)).toArray).1 target) → Steps p.tables e below (T.setTop (F0 m (xpc C i) ls (st.map (xr X.E)))) target) → ∃ t, Steps p.tables e below (T.setTop (F0 m (xpc C i) ls (st.map (xr X.E)))) t ∧ xEnd X R s below out t := by
                  intro T mk ig hT hn hdg vm1 Y hstep
                  have hT1 : (T.setVm vm1).heap = H := hT
                  obtain ⟨t, st1, hend⟩ := xcall_in (as := as) (rest := s9) Y hT1 hI hF hS hN hlen8 hdg hM2 hn hcw hpl hmax hpc0 hbl hrun
                  have fin : ∃ t', Steps p.tables e below t t' ∧ xEnd X R s below out t' := by
                    split at h
                    · exact xcall_out (st2 := s9) Y hT1 hI hM hF hS hN hdg hend (Or.inl ⟨rfl, rfl⟩) h hnx
                    · exact xcall_out (st2 := x9 :: s9) Y hT1 hI hM hF hS hN hdg hend (Or.inr ⟨rfl, rfl⟩) h hnx
                    · rename_i h0 h1
                      cases hc9 : h2[x9.2]? with
                      | none => simp only [hc9] at h; cases h
                      | some cell9 =>
                        obtain ⟨⟨k9, m9⟩, N9, fs9⟩ := cell9
                        simp only [hc9] at h
                        cases hcx : Nat.beq k9 (xru (xrow C i) / 65536 % 65536) && (Nat.beq o9 2 && Nat.ble 1 (xrw (xrow C i))) with
                        | false =>
                          rw [hcx] at h
                          simp only [cond_false] at h
                          cases hcy : Nat.beq k9 (xru (xrow C i) / 4294967296 % 65536) && (Nat.beq o9 2 && Nat.ble 1 (xru (xrow C i) / 281474976710656)) with
                          | false => rw [hcy] at h; cases h
                          | true =>
                            rw [hcy] at h
                            simp only [Bool.and_eq_true, xbeq, xble] at hcy
                            exact xcall_catch2 Y hT1 hI hM hF hS hN rfl hdg hend hcy.2.1 hc9 hcy.1 hcy.2.2 hhr2 h
                        | true =>
                          rw [hcx] at h
                          simp only [Bool.and_eq_true, xbeq, xble] at hcx
                          exact xcall_catch Y hT1 hI hM hF hS hN rfl hdg hend hcx.2.1 hc9 hcx.1 hcx.2.2 hhr h
                  obtain ⟨t', st2, he⟩ := fin
                  exact ⟨t', hstep _ (fun acts => by rw [doInvoke_state]; exact st1.trans st2), he⟩
                have hstk : st.map (xr X.E) = (as.map (xr X.E)).reverse ++ s9.map (xr X.E) := by rw [e2, List.map_append, List.map_reverse]
                intro T hT Y
                split at hv
                · rename_i hB0
                  simp only [Bool.and_eq_true, decide_eq_true_eq] at hv
                  obtain ⟨hdg, w1, w2, w3, hpar, hclx⟩ := hv
                  have hdg := xd_of hdg
                  have hrecv : ∃ (rv : xv) (as2 : List xv) (b9 : Nat) (cellB : Cell), as = rv :: as2 ∧ xr X.E rv = .ref b9 ∧ H[b9]? = some cellB ∧ cellB.vm.isStatics = false ∧ s.vm.findClass y2.cls = some cellB.cls := by
                    rw [hB0] at hrc
                    simp only [xrcv, xnth_eq] at hrc
                    split at hrc
                    · rename_i a9 as2 _
                      cases hc9 : hp[a9]? with
                      | none => simp only [hc9] at hrc; cases hrc
                      | some cell =>
                        obtain ⟨⟨c9, m9⟩, N9, fs⟩ := cell
                        simp only [hc9, Bool.and_eq_true, xbeq, xblt] at hrc
                        obtain ⟨rfl, hlt⟩ := hrc
                        obtain ⟨r9, hr1, cell, q1, q2, q3, q4⟩ := (by have h9 := hP a9 _ (xrh_get hc9); rw [xre_o hlt] at h9; exact h9 : va_at X.D X.cl (X.E.1 + a9, .inr (xru (xrow C i) % 65536, fs.map (xr X.E))) H)
                        obtain ⟨rC, rT, rN⟩ := r9
                        have hr1 : X.cl[xru (xrow C i) % 65536]? = some (rC, rT, rN) := hr1
                        rw [hr1] at hclx
                        simp only [Bool.and_eq_true, decide_eq_true_eq] at hclx
                        have hclx := hclx.1
                        obtain ⟨-, hfc, -⟩ := hK.1 _ _ hr1
                        refine ⟨(2, a9), as2, X.E.1 + a9, cell, rfl, rfl, q1, by rw [q3]; rfl, ?_⟩
                        rw [← hclx, q2]
                        exact hfc
                    · rename_i a9 as2 _
                      simp only [Bool.and_eq_true, xbeq, xble] at hrc
                      obtain ⟨hu, ha, hst⟩ := hrc
                      obtain ⟨a8, rfl⟩ := Nat.exists_eq_add_of_le' ha
                      cases hs9 : X.P.2.1[a8 + 1]? with
                      | none => simp only [hs9] at hst; cases hst
                      | some b9 =>
                        obtain ⟨qO, -⟩ := hO.2.2.1 a8 b9 hs9
                        obtain ⟨cell, q1, q2, q3, -⟩ := qO.kept hSS.2.1
                        have hyS : y2.cls = "java/lang/String" := by
                          cases hc8 : X.cl[xru (xrow C i) % 65536]? with
                          | none => rw [hc8] at hclx; exact of_decide_eq_true hclx
                          | some r8 =>
                            obtain ⟨rC, rT, rN⟩ := r8
                            rw [hc8] at hclx
                            simp only [Bool.and_eq_true, decide_eq_true_eq, xblt] at hclx
                            omega
                        exact ⟨(6, a8 + 1), as2, _, cell, rfl, rfl, q1, q2, by rw [hyS]; exact q3⟩
                    · cases hrc
                  obtain ⟨rv, as2, b9, cellB, rfl, hrv, hcB, hoB, hclB⟩ := hrecv
                  obtain ⟨mk, methM, hnamed, hmethM, hstM, habM⟩ := Cond.instanceMethod_spec (hWd _ w2 args)
                  obtain ⟨methM', cM, hmethM', -, -, -, -, -, -, hsigM⟩ := xcw_spec hnamed (hWd _ hcw args)
                  cases hmethM.symm.trans hmethM'
                  obtain ⟨c9, r9, m9, q1, q2, q3, q4, kP, hkP, hkPi⟩ := Cond.selects_spec (hWd _ w3 args)
                  cases hclB.symm.trans q1
                  cases (State.methodFound?_of_named hnamed hy).symm.trans q2
                  cases hnamed.symm.trans q3
                  have hselP : selectMethod e.platform s.vm cellB.cls mk = .method mk := by rw [Launch.admits_selectMethod Y.admits]; exact q4
                  have hlenP : (as2.map (xr X.E)).length = methM.sig.parameters.length := by
                    rw [hsigM] at hpar
                    simp only [Option.map_some, Option.some.injEq] at hpar
                    simp only [List.length_cons] at e3
                    rw [List.length_map]
                    omega
                  obtain ⟨vm1, Y1, hstep⟩ := Y.invokevirtual hx hown (hWd _ w1 args) hnamed hmethM hstM hkP hkPi hy (a := b9) (cell := cellB) (by rw [hT]; exact hcB) (fun z h => by rw [h] at hoB; cases hoB) hselP hmethM habM hkP hkPi
                    (g := F0 m (xpc C i) ls (st.map (xr X.E))) rfl (argsL := as2.map (xr X.E)) (rest := s9.map (xr X.E)) hlenP (by show st.map (xr X.E) = _; rw [hstk, List.map_cons, hrv]; simp) (by rw [hb]; exact hdg)
                  exact key T mk _ hT hnamed hdg vm1 Y1 (by rw [List.map_cons, hrv]; exact hstep)
                · rename_i hB0
                  simp only [Bool.and_eq_true, decide_eq_true_eq] at hv
                  obtain ⟨hdg, w1, w2, hy1, rfl, rfl, hpar⟩ := hv
                  have hdg := xd_of hdg
                  have hrecv : ∃ (a9 : Nat) (as2 : List xv), as = (2, a9) :: as2 := by
                    rw [hB0] at hrc
                    simp only [xrcv] at hrc
                    split at hrc
                    · exact ⟨_, _, rfl⟩
                    · cases hrc
                  obtain ⟨a9, as2, rfl⟩ := hrecv
                  have hplm : e.platform.magicAccessors = ({} : Platform).magicAccessors := by rw [Y.admits.platform]
                  have hcode : (Cond.code y2 cb2 maxL2 none).before args s = true := hWd _ hcw args
                  obtain ⟨mk, methM, cM, kP, vm1, hnamed, hmethM, hcodeM, -, hlocalsM, -, hkP, -, hW1, hstep⟩ := Steps.initColdArgs (e := e) Y.here hx Y.warmed hplm hown hy1 hy (hWd _ w1 args) (hWd _ w2 args) hcode (f := F0 m (xpc C i) ls (st.map (xr X.E))) rfl (a := X.E.1 + a9) (argsL := as2.map (xr X.E)) (rest := s9.map (xr X.E))
                    (fun sig hsig => by
                      rw [hsig] at hpar
                      simp only [Option.map_some, Option.some.injEq] at hpar
                      simp only [List.length_cons] at e3
                      rw [List.length_map]
                      omega) (by show st.map (xr X.E) = _; rw [hstk]; simp [xr]) (by rw [hb]; exact hdg)
                  exact key T mk _ hT hnamed hdg vm1 (Y.noted hW1) hstep
                · rename_i hB0
                  simp only [Bool.and_eq_true, decide_eq_true_eq] at hv
                  obtain ⟨hdg, w1, w2, hy1, rfl, rfl, hpar⟩ := hv
                  have hdg := xd_of hdg
                  have hrecv : ∃ (a9 : Nat) (as2 : List xv), as = (2, a9) :: as2 := by
                    rw [hB0] at hrc
                    simp only [xrcv] at hrc
                    split at hrc
                    · exact ⟨_, _, rfl⟩
                    · cases hrc
                  obtain ⟨a9, as2, rfl⟩ := hrecv
                  have hplm : e.platform.magicAccessors = ({} : Platform).magicAccessors := by rw [Y.admits.platform]
                  have hcode : (Cond.code y2 cb2 maxL2 none).before args s = true := hWd _ hcw args
                  obtain ⟨mk, methM, cM, kP, vm1, hnamed, hmethM, hcodeM, -, hlocalsM, -, hkP, -, hW1, hstep⟩ := Steps.initColdArgsNest (e := e) Y.here hx Y.warmed hplm hown hy1 hy (hWd _ w1 args) (hWd _ w2 args) hcode (f := F0 m (xpc C i) ls (st.map (xr X.E))) rfl (a := X.E.1 + a9) (argsL := as2.map (xr X.E)) (rest := s9.map (xr X.E))
                    (fun sig hsig => by
                      rw [hsig] at hpar
                      simp only [Option.map_some, Option.some.injEq] at hpar
                      simp only [List.length_cons] at e3
                      rw [List.length_map]
                      omega) (by show st.map (xr X.E) = _; rw [hstk]; simp [xr]) (by rw [hb]; exact hdg)
                  exact key T mk _ hT hnamed hdg vm1 (Y.noted hW1) hstep
                · simp only [Bool.and_eq_true, decide_eq_true_eq] at hv
                  obtain ⟨hdg, w1, w2, w3, hpar⟩ := hv
                  have hdg := xd_of hdg
                  obtain ⟨mk, hnamed⟩ := xcw_named (hWd _ hcw args)
                  obtain ⟨methM, cM, hmethM, -, -, -, -, -, -, hsigM⟩ := xcw_spec hnamed (hWd _ hcw args)
                  have hstatic : methM.isStatic = true := Cond.static_spec hnamed hmethM (hWd _ w2 args)
                  obtain ⟨kP, hkP, -⟩ := className_of_methodNamed hnamed
                  have hinitP : kP.init = .initialized := Cond.initialized_spec (findClass_of_methodNamed hnamed) hkP (hWd _ w3 args)
                  have hlenP : (as.map (xr X.E)).length = methM.sig.parameters.length := by
                    rw [hsigM] at hpar
                    simp only [Option.map_some, Option.some.injEq] at hpar
                    rw [List.length_map]
                    omega
                  obtain ⟨vm1, Y1, hstep⟩ := Y.invokestatic hx hown (hWd _ w1 args) hnamed hmethM hstatic hkP hinitP hy (g := F0 m (xpc C i) ls (st.map (xr X.E))) rfl (argsL := as.map (xr X.E)) (rest := s9.map (xr X.E)) hlenP hstk (by rw [hb]; exact hdg)
                  exact key T mk _ hT hnamed hdg vm1 Y1 hstep
                · cases hv
end XO
