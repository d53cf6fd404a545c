/-- the first values of an object's fields, as their descriptors have them -/
def xdf (T : u_T) : List xv → Nat → Bool
  | [], _ => true
  | x :: r, k => (match parseFieldDescriptor (T k).2.2.1 with
    | some .int => decide (x = (0, 0))
    | some .boolean => decide (x = (0, 0))
    | some .long => decide (x = (1, 0))
    | some (.object _) => decide (x = (3, 0))
    | some (.array _) => decide (x = (3, 0))
    | _ => false) && xdf T r (k + 1)
theorem xdf_of {E : xE} {T : u_T} (ty : Nat → FieldType) : ∀ (fs : List xv) (k : Nat), (∀ j, j < k + fs.length → parseFieldDescriptor (T j).2.2.1 = some (ty j)) → xdf T fs k = true → ∀ j, j < fs.length → defaultValue (ty (k + j)) = (fs.map (xr E)).getD j .null := by
  intro fs
  induction fs with
  | nil => intro k _ _ j hj; cases hj
  | cons x r ih =>
    intro k hty h j hj
    simp only [xdf, Bool.and_eq_true] at h
    cases j with
    | succ j2 =>
      have := ih (k + 1) (fun q hq => hty q (by simp only [List.length_cons]; omega)) h.2 j2 (by simpa using hj)
      rw [show k + (j2 + 1) = k + 1 + j2 by omega]
      simpa using this
    | zero =>
      have ht := hty k (by simp only [List.length_cons]; omega)
      have h1 := h.1
      rw [ht] at h1
      simp only [Nat.add_zero, List.map_cons, List.getD_cons_zero]
      split at h1
      all_goals first
        | (rename_i e9; have e9 := Option.some.inj e9; rw [e9]; have h2 := of_decide_eq_true h1; rw [h2]; rfl)
        | cases h1
def xv12 (cb : ByteArray) (Ws : List Cond) (cl : List vw_C) (Cl : List (Nat × List xv)) (own : String) (C i : Nat) : Bool := xd cb (xpc C i) (.new (xra (xrow C i))) 3 && (xnx C i 3 && (match cl[xrw (xrow C i)]?, Cl[xrw (xrow C i)]? with
  | some (Cn, T, N), some (m, fs) => Nat.blt (xrw (xrow C i)) 100 && (Nat.beq m N && (Nat.beq (List.length fs) N && (xdf T fs 0 && (decide (Cond.classLink own (xra (xrow C i)) Cn ∈ Ws) && (decide (Cond.instantiable Cn N ∈ Ws) && decide (Cond.initialized Cn ∈ Ws))))))
  | _, _ => false))
def xv13 (cb : ByteArray) (Ws : List Cond) (C i : Nat) : Bool := xnx C i 2 && (match xru (xrow C i) with
  | 4 => xd cb (xpc C i) (.newarray .boolean) 2 && decide (Cond.arrayClass .boolean ∈ Ws)
  | 8 => xd cb (xpc C i) (.newarray .byte) 2 && decide (Cond.arrayClass .byte ∈ Ws)
  | 10 => xd cb (xpc C i) (.newarray .int) 2 && decide (Cond.arrayClass .int ∈ Ws)
  | 11 => xd cb (xpc C i) (.newarray .long) 2 && decide (Cond.arrayClass .long ∈ Ws)
  | _ => false)
def xv14 (cb : ByteArray) (C i : Nat) : Bool := xnx C i 1 && (match xru (xrow C i) with
  | 4 => xd cb (xpc C i) .baload 1
  | 8 => xd cb (xpc C i) .baload 1
  | 10 => xd cb (xpc C i) .iaload 1
  | 11 => xd cb (xpc C i) .laload 1
  | _ => false)
def xv15 (cb : ByteArray) (C i : Nat) : Bool := xnx C i 1 && (match xru (xrow C i) with
  | 4 => xd cb (xpc C i) .bastore 1
  | 8 => xd cb (xpc C i) .bastore 1
  | 10 => xd cb (xpc C i) .iastore 1
  | 11 => xd cb (xpc C i) .lastore 1
  | _ => false)
def xv16 (cb : ByteArray) (C i : Nat) : Bool := xnx C i 1 && xd cb (xpc C i) .arraylength 1
theorem xre_a {E : xE} {dA : Nat → ClassId} {u m N : Nat} {fs : List xv} : xre E dA ((1000 + u, m), N, fs) = .inl (dA u, m, xca u N) := by
  unfold xre
  rw [if_pos (by show 1000 ≤ 1000 + u; omega)]
  have e : 1000 + u - 1000 = u := by omega
  show Sum.inl (dA (1000 + u - 1000), m, xca (1000 + u - 1000) N) = _
  rw [e]
section XO
variable {X : xFix} {ih : xrec} {C i : Nat} {lv : xl} {st : List xv} {hp : xh} {bc bs d : Nat} {out : (Nat × xv) × xh × Nat × Nat} {j : Nat} {y : MethodName} {cb : ByteArray} {maxL : Nat} {ret : Option FieldType} {hs : List (Nat × Nat × Nat × Nat)}
  {p : Program} {l : Launch} {e : Env} {R : Room} {s : State} {m : MethodId} {args : Array Value} {below : List Frame} {meth : Method} {c : Code} {H : Heap} {locs : List Loc} {cells slots : Nat} {ls : Array Slot}

theorem xgo4 {i2 : Nat} {st2 : List xv} {cell' : xc} {H2 : Heap} {n9 bc2 bs2 : Nat} (hI : xIH X ih) (hM : xMe X j C y cb maxL ret hs) (hF : xF p e s m meth c y cb maxL ret hs) (hS : xS X s) (hN : xN X R s H locs cells slots ls maxL lv hp bc bs d) (h : ih C i2 lv st2 (hp ++ [cell']) bc2 bs2 d = some out) {pc : Nat} (hpc : xpc C i2 = pc) (hbc : bc = bc2 + 1) (hbs : bs = bs2 + n9) (he : va_at X.D X.cl (X.E.1 + hp.length, xre X.E X.dA cell') H2) (hz : H2.size = H.size + 1) (ho : ∀ q, q < H.size → H2[q]? = H[q]?) : W p l e R s m args below meth c H2 locs (cells + 1) (slots + n9) (xEnd X R s below out) (F0 m pc ls (st2.map (xr X.E))) := by
  subst hpc
  obtain ⟨n1, n2, n3, n4, n5, n6, n7, n8⟩ := hN
  refine hI _ _ _ _ _ _ _ _ _ h j y cb maxL ret hs hM p l e R s m args below meth c H2 locs (cells + 1) (slots + n9) ls hF hS ⟨⟨by rw [hz]; exact Nat.le_succ_of_le n1.1, fun q h1 h2 => (ho q (Nat.lt_of_lt_of_le h1 n1.1)).trans (n1.2.1 q h1 h2), n1.2.2⟩, by rw [hz, n2, List.length_append]; rfl, ?_, n4, by omega, by omega, n7, n8⟩
  rw [xrh_push]
  refine (n3.kept (fun k q hq => ?_)).app (fun k q hq => ?_)
  · exact ho q.1 ((n3 k q hq).lt)
  · have hk : k < 1 := (List.getElem?_eq_some_iff.mp hq).1
    rw [show k = 0 by omega] at hq
    cases hq
    exact he
theorem ok12 (hI : xIH X ih) (hM : xMe X j C y cb maxL ret hs) (hF : xF p e s m meth c y cb maxL ret hs) (hS : xS X s) (hN : xN X R s H locs cells slots ls maxL lv hp bc bs d) (hv : xv12 cb X.Ws X.cl X.P.2.2.2 y.cls C i = true) (h : xh12 X.P X.G ih C (xrow C i) (i + 1) lv st hp bc bs d = some out) : W p l e R s m args below meth c H locs cells slots (xEnd X R s below out) (F0 m (xpc C i) ls (st.map (xr X.E))) := by
  simp only [xh12, xf_eq, xhpush_eq, xnth_eq] at h
  obtain ⟨hx, hb, -, -, -, hnm, hown, -⟩ := id hF
  obtain ⟨hWd, hK, hO, -, -, hCl, -⟩ := id hS
  obtain ⟨hSS, hsz, hP, -, hbc, hbs, -⟩ := id hN
  simp only [xv12, Bool.and_eq_true] at hv
  obtain ⟨hdg, hnx, hv⟩ := hv
  have hnx := xnx_of hnx
  cases hcl : X.cl[xrw (xrow C i)]? with
  | none => simp only [hcl] at hv; cases hv
  | some q =>
    obtain ⟨Cn, T, N⟩ := q
    cases hcf : X.P.2.2.2[xrw (xrow C i)]? with
    | none => simp only [hcf] at h; cases h
    | some q2 =>
      obtain ⟨m9, fs⟩ := q2
      simp only [hcf] at h
      simp only [hcl, hcf, Bool.and_eq_true, xbeq, xblt, decide_eq_true_eq] at hv
      obtain ⟨hw, rfl, hlen, hdf, w1, w2, w3⟩ := hv
      cases hc : Nat.ble 1 bc && Nat.ble m9 bs with
      | false => rw [hc] at h; cases h
      | true =>
        rw [hc] at h
        simp only [Bool.and_eq_true, xble] at hc
        simp only [cond_true] at h
        obtain ⟨hin, ty0, hty, hnames⟩ := hCl _ _ _ _ hcl
        have hKn := hK.1 _ _ hcl
        refine W.newcK hx hb hown (hWd _ w1 args) (hWd _ w2 args) (hWd _ w3 args) rfl (xd_of hdg) (by omega) (by omega) hKn.2.1 rfl fun H1 kC hkC e1 z1 o1 => ?_
        have hat : va_at X.D X.cl (X.E.1 + hp.length, xre X.E X.dA ((xrw (xrow C i), m9), 0, fs)) H1 := by
          rw [xre_o hw, ← hsz]
          refine ⟨_, hcl, (u_born ty0 (fun w hw => hWd w hw args) hin hKn hkC e1 hty).to ?_⟩
          intro j9 hj9
          have := xdf_of (E := X.E) ty0 fs 0 (fun q hq => hty q (by omega)) hdf j9 (by omega)
          rw [Nat.zero_add] at this
          exact this
        have go := xgo4 (p := p) (l := l) (e := e) (R := R) (s := s) (m := m) (args := args) (below := below) (meth := meth) (c := c) (n9 := m9) hI hM hF hS hN h hnx (by omega) (by omega) hat z1 o1
        have e9 : xr X.E (2, hp.length) = .ref H.size := by rw [hsz]; rfl
        rw [List.map_cons, e9] at go
        exact go
end XO
