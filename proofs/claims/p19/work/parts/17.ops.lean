/-! The operations on locals and stack: what a row must say (Bool, for the kernel), and that the own machine does what the JVM does. -/
def xd (cb : ByteArray) (pc : Nat) (i : Instr) (n : Nat) : Bool := decide (decode cb pc = .ok (i, n))
theorem xd_of {cb : ByteArray} {pc : Nat} {i : Instr} {n : Nat} (h : xd cb pc i n = true) : decode cb pc = .ok (i, n) := of_decide_eq_true h
/-- the next row is n bytes further -/
def xnx (C i n : Nat) : Bool := Nat.beq (xpc C (i + 1)) (xpc C i + n)
theorem xnx_of {C i n : Nat} (h : xnx C i n = true) : xpc C (i + 1) = xpc C i + n := xbeq.mp h
def xint (u : Nat) : Int := if u < 2147483648 then (u : Int) else (u : Int) - 4294967296
def xv0 (cb : ByteArray) (Ws : List Cond) (own : String) (C i : Nat) : Bool := match xrb (xrow C i) with
  | 0 => xd cb (xpc C i) (.iconst (xint (xru (xrow C i)))) 1 && (xnx C i 1 && decide (Int32.ofInt (xint (xru (xrow C i))) = Int32.ofNat (xru (xrow C i))))
  | 1 => xd cb (xpc C i) (.bipush (xint (xru (xrow C i)))) 2 && (xnx C i 2 && decide ((Int8.ofInt (xint (xru (xrow C i)))).toInt32 = Int32.ofNat (xru (xrow C i))))
  | 2 => xd cb (xpc C i) (.sipush (xint (xru (xrow C i)))) 3 && (xnx C i 3 && decide ((Int16.ofInt (xint (xru (xrow C i)))).toInt32 = Int32.ofNat (xru (xrow C i))))
  | 3 => xd cb (xpc C i) (.ldc (xra (xrow C i))) 2 && (xnx C i 2 && decide (Cond.constant own (xra (xrow C i)) (Int32.ofNat (xru (xrow C i))) ∈ Ws))
  | 4 => xd cb (xpc C i) (.ldc_w (xra (xrow C i))) 3 && (xnx C i 3 && decide (Cond.constant own (xra (xrow C i)) (Int32.ofNat (xru (xrow C i))) ∈ Ws))
  | _ => false
def xv1 (cb : ByteArray) (C i : Nat) : Bool := match xrb (xrow C i) with
  | 0 => match xru (xrow C i) with
    | 0 => xd cb (xpc C i) (.iload_n 0) 1 && (xnx C i 1 && Nat.beq (xrw (xrow C i)) 0)
    | 1 => xd cb (xpc C i) (.iload_n 1) 1 && (xnx C i 1 && Nat.beq (xrw (xrow C i)) 0)
    | 2 => xd cb (xpc C i) (.iload_n 2) 1 && (xnx C i 1 && Nat.beq (xrw (xrow C i)) 0)
    | 3 => xd cb (xpc C i) (.iload_n 3) 1 && (xnx C i 1 && Nat.beq (xrw (xrow C i)) 0)
    | _ => false
  | 1 => xd cb (xpc C i) (.iload (xru (xrow C i))) 2 && (xnx C i 2 && Nat.beq (xrw (xrow C i)) 0)
  | 2 => match xru (xrow C i) with
    | 0 => xd cb (xpc C i) (.lload_n 0) 1 && (xnx C i 1 && Nat.beq (xrw (xrow C i)) 1)
    | 1 => xd cb (xpc C i) (.lload_n 1) 1 && (xnx C i 1 && Nat.beq (xrw (xrow C i)) 1)
    | 2 => xd cb (xpc C i) (.lload_n 2) 1 && (xnx C i 1 && Nat.beq (xrw (xrow C i)) 1)
    | 3 => xd cb (xpc C i) (.lload_n 3) 1 && (xnx C i 1 && Nat.beq (xrw (xrow C i)) 1)
    | _ => false
  | 3 => xd cb (xpc C i) (.lload (xru (xrow C i))) 2 && (xnx C i 2 && Nat.beq (xrw (xrow C i)) 1)
  | 4 => match xru (xrow C i) with
    | 0 => xd cb (xpc C i) (.aload_n 0) 1 && (xnx C i 1 && Nat.beq (xrw (xrow C i)) 2)
    | 1 => xd cb (xpc C i) (.aload_n 1) 1 && (xnx C i 1 && Nat.beq (xrw (xrow C i)) 2)
    | 2 => xd cb (xpc C i) (.aload_n 2) 1 && (xnx C i 1 && Nat.beq (xrw (xrow C i)) 2)
    | 3 => xd cb (xpc C i) (.aload_n 3) 1 && (xnx C i 1 && Nat.beq (xrw (xrow C i)) 2)
    | _ => false
  | 5 => xd cb (xpc C i) (.aload (xru (xrow C i))) 2 && (xnx C i 2 && Nat.beq (xrw (xrow C i)) 2)
  | _ => false
section XO
variable {X : xFix} {ih : xrec} (hI : xIH X ih) {C i : Nat} {lv : xl} {st : List xv} {hp : xh} {bc bs d : Nat} {out : (Nat × xv) × xh × Nat × Nat} {j : Nat} {y : MethodName} {cb : ByteArray} {maxL : Nat} {ret : Option FieldType} {hs : List (Nat × Nat × Nat × Nat)} (hM : xMe X j C y cb maxL ret hs)
  {p : Program} {l : Launch} {e : Env} {R : Room} {s : State} {m : MethodId} {args : Array Value} {below : List Frame} {meth : Method} {c : Code} {H : Heap} {locs : List Loc} {cells slots : Nat} {ls : Array Slot} (hF : xF p e s m meth c y cb maxL ret hs) (hS : xS X s) (hN : xN X R s H locs cells slots ls maxL lv hp bc bs d)
/-- the next row, on the same frame, with another stack -/
theorem xgo {i2 : Nat} {st2 : List xv} (hI : xIH X ih) (hM : xMe X j C y cb maxL ret hs) (hF : xF p e s m meth c y cb maxL ret hs) (hS : xS X s) (hN : xN X R s H locs cells slots ls maxL lv hp bc bs d) (h : ih C i2 lv st2 hp bc bs d = some out) {pc : Nat} (hpc : xpc C i2 = pc) : W p l e R s m args below meth c H locs cells slots (xEnd X R s below out) (F0 m pc ls (st2.map (xr X.E))) := by
  subst hpc
  exact hI _ _ _ _ _ _ _ _ _ h j y cb maxL ret hs hM p l e R s m args below meth c H locs cells slots ls hF hS hN
theorem ok0 (hI : xIH X ih) (hM : xMe X j C y cb maxL ret hs) (hF : xF p e s m meth c y cb maxL ret hs) (hS : xS X s) (hN : xN X R s H locs cells slots ls maxL lv hp bc bs d) (hv : xv0 cb X.Ws y.cls C i = true) (h : xh0 X.P X.G ih C (xrow C i) (i + 1) lv st hp bc bs d = some out) : W p l e R s m args below meth c H locs cells slots (xEnd X R s below out) (F0 m (xpc C i) ls (st.map (xr X.E))) := by
  simp only [xh0, xf_eq] at h
  obtain ⟨hx, hb, -⟩ := id hF
  unfold xv0 at hv
  split at hv
  · simp only [Bool.and_eq_true, decide_eq_true_eq] at hv
    exact lv_iconst hx hb (xd_of hv.1) hv.2.2 (xgo hI hM hF hS hN h (xnx_of hv.2.1))
  · simp only [Bool.and_eq_true, decide_eq_true_eq] at hv
    exact lv_bipush hx hb (xd_of hv.1) hv.2.2 (xgo hI hM hF hS hN h (xnx_of hv.2.1))
  · simp only [Bool.and_eq_true, decide_eq_true_eq] at hv
    exact lv_sipush hx hb (xd_of hv.1) hv.2.2 (xgo hI hM hF hS hN h (xnx_of hv.2.1))
  · simp only [Bool.and_eq_true, decide_eq_true_eq] at hv
    exact lv_ldc hx hb hF.2.2.2.2.2.2.1 (hS.1 _ hv.2.2 args) (xd_of hv.1) (xgo hI hM hF hS hN h (xnx_of hv.2.1))
  · simp only [Bool.and_eq_true, decide_eq_true_eq] at hv
    exact lv_ldcw hx hb hF.2.2.2.2.2.2.1 (hS.1 _ hv.2.2 args) (xd_of hv.1) (xgo hI hM hF hS hN h (xnx_of hv.2.1))
  · cases hv
theorem xl_at {E : xE} {lv : xl} {u : Nat} {x : xv} (hl : lv_has ls maxL (xrl E lv)) (h : xat lv u = some x) : ls[u]? = some (.val (xr E x)) :=
  hl.2.2 (u, xr E x) (List.mem_map.mpr ⟨(u, x), xat_mem h, rfl⟩)
theorem ok1 (hI : xIH X ih) (hM : xMe X j C y cb maxL ret hs) (hF : xF p e s m meth c y cb maxL ret hs) (hS : xS X s) (hN : xN X R s H locs cells slots ls maxL lv hp bc bs d) (hv : xv1 cb C i = true) (h : xh1 X.P X.G ih C (xrow C i) (i + 1) lv st hp bc bs d = some out) : W p l e R s m args below meth c H locs cells slots (xEnd X R s below out) (F0 m (xpc C i) ls (st.map (xr X.E))) := by
  simp only [xh1, xf_eq] at h
  obtain ⟨hx, hb, -⟩ := id hF
  have hl := hN.2.2.2.1
  cases ha : xat lv (xru (xrow C i)) with
  | none => rw [ha] at h; cases h
  | some x =>
    rw [ha] at h
    cases hk : Nat.beq (xkd x) (xrw (xrow C i)) with
    | false => simp only [hk, cond_false] at h; cases h
    | true =>
      simp only [hk, cond_true] at h
      have hk := xbeq.mp hk
      have hat := xl_at hl ha
      have go : ∀ {pc : Nat}, xpc C (i + 1) = pc → W p l e R s m args below meth c H locs cells slots (xEnd X R s below out) (F0 m pc ls (xr X.E x :: st.map (xr X.E))) := fun hpc => xgo hI hM hF hS hN h hpc
      unfold xv1 at hv
      split at hv
      · split at hv
        all_goals first | (simp only [Bool.and_eq_true] at hv; rename_i hu; rw [hu] at hat; obtain ⟨z, hz⟩ := xkd_i (E := X.E) (hk.trans (xbeq.mp hv.2.2)); rw [hz] at hat; exact lv_iload_n hx hb (xd_of hv.1) rfl hat (hz ▸ go (xnx_of hv.2.1))) | cases hv
      · simp only [Bool.and_eq_true] at hv
        obtain ⟨z, hz⟩ := xkd_i (E := X.E) (hk.trans (xbeq.mp hv.2.2))
        rw [hz] at hat
        exact lv_iload hx hb (xd_of hv.1) hat (hz ▸ go (xnx_of hv.2.1))
      · split at hv
        all_goals first | (simp only [Bool.and_eq_true] at hv; rename_i hu; rw [hu] at hat; obtain ⟨z, hz⟩ := xkd_l (E := X.E) (hk.trans (xbeq.mp hv.2.2)); rw [hz] at hat; exact lv_lload_n hx hb (xd_of hv.1) rfl hat (hz ▸ go (xnx_of hv.2.1))) | cases hv
      · simp only [Bool.and_eq_true] at hv
        obtain ⟨z, hz⟩ := xkd_l (E := X.E) (hk.trans (xbeq.mp hv.2.2))
        rw [hz] at hat
        exact lv_lload hx hb (xd_of hv.1) hat (hz ▸ go (xnx_of hv.2.1))
      · split at hv
        all_goals first
          | (simp only [Bool.and_eq_true] at hv; rename_i hu; rw [hu] at hat
             rcases xkd_r (E := X.E) (hk.trans (xbeq.mp hv.2.2)) with hz | ⟨z, hz⟩
             · rw [hz] at hat; exact lv_aload_nN hx hb (xd_of hv.1) rfl hat (hz ▸ go (xnx_of hv.2.1))
             · rw [hz] at hat; exact lv_aload_n hx hb (xd_of hv.1) rfl hat (hz ▸ go (xnx_of hv.2.1)))
          | cases hv
      · simp only [Bool.and_eq_true] at hv
        rcases xkd_r (E := X.E) (hk.trans (xbeq.mp hv.2.2)) with hz | ⟨z, hz⟩
        · rw [hz] at hat; exact lv_aloadN hx hb (xd_of hv.1) hat (hz ▸ go (xnx_of hv.2.1))
        · rw [hz] at hat; exact lv_aload hx hb (xd_of hv.1) hat (hz ▸ go (xnx_of hv.2.1))
      · cases hv
end XO
