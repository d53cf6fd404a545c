def xv4 (cb : ByteArray) (C i : Nat) : Bool := xnx C i 1 && (match xru (xrow C i) with
  | 0 => xd cb (xpc C i) .iadd 1
  | 1 => xd cb (xpc C i) .isub 1
  | 2 => xd cb (xpc C i) .imul 1
  | 3 => xd cb (xpc C i) .iand 1
  | 4 => xd cb (xpc C i) .ior 1
  | 5 => xd cb (xpc C i) .ixor 1
  | 6 => xd cb (xpc C i) .ishl 1
  | 7 => xd cb (xpc C i) .ishr 1
  | 8 => xd cb (xpc C i) .iushr 1
  | 9 => xd cb (xpc C i) .idiv 1
  | 10 => xd cb (xpc C i) .irem 1
  | _ => false)
def xv3 (cb : ByteArray) (maxL C i : Nat) : Bool := xd cb (xpc C i) (.iinc (xrv (xrow C i)) (xint (xru (xrow C i)))) 3 && (xnx C i 3 && (Nat.blt (xrv (xrow C i)) maxL && decide (Int32.ofInt (xint (xru (xrow C i))) = Int32.ofNat (xru (xrow C i)))))
def xv2 (cb : ByteArray) (maxL C i : Nat) : Bool := match xrb (xrow C i) with
  | 0 => match xru (xrow C i) with
    | 0 => xd cb (xpc C i) (.istore_n 0) 1 && (xnx C i 1 && (Nat.beq (xrw (xrow C i)) 0 && Nat.blt (0) maxL))
    | 1 => xd cb (xpc C i) (.istore_n 1) 1 && (xnx C i 1 && (Nat.beq (xrw (xrow C i)) 0 && Nat.blt (1) maxL))
    | 2 => xd cb (xpc C i) (.istore_n 2) 1 && (xnx C i 1 && (Nat.beq (xrw (xrow C i)) 0 && Nat.blt (2) maxL))
    | 3 => xd cb (xpc C i) (.istore_n 3) 1 && (xnx C i 1 && (Nat.beq (xrw (xrow C i)) 0 && Nat.blt (3) maxL))
    | _ => false
  | 1 => xd cb (xpc C i) (.istore (xru (xrow C i))) 2 && (xnx C i 2 && (Nat.beq (xrw (xrow C i)) 0 && Nat.blt (xru (xrow C i)) maxL))
  | 2 => match xru (xrow C i) with
    | 0 => xd cb (xpc C i) (.lstore_n 0) 1 && (xnx C i 1 && (Nat.beq (xrw (xrow C i)) 1 && Nat.blt (0 + 1) maxL))
    | 1 => xd cb (xpc C i) (.lstore_n 1) 1 && (xnx C i 1 && (Nat.beq (xrw (xrow C i)) 1 && Nat.blt (1 + 1) maxL))
    | 2 => xd cb (xpc C i) (.lstore_n 2) 1 && (xnx C i 1 && (Nat.beq (xrw (xrow C i)) 1 && Nat.blt (2 + 1) maxL))
    | 3 => xd cb (xpc C i) (.lstore_n 3) 1 && (xnx C i 1 && (Nat.beq (xrw (xrow C i)) 1 && Nat.blt (3 + 1) maxL))
    | _ => false
  | 3 => xd cb (xpc C i) (.lstore (xru (xrow C i))) 2 && (xnx C i 2 && (Nat.beq (xrw (xrow C i)) 1 && Nat.blt (xru (xrow C i) + 1) maxL))
  | 4 => match xru (xrow C i) with
    | 0 => xd cb (xpc C i) (.astore_n 0) 1 && (xnx C i 1 && (Nat.beq (xrw (xrow C i)) 2 && Nat.blt (0) maxL))
    | 1 => xd cb (xpc C i) (.astore_n 1) 1 && (xnx C i 1 && (Nat.beq (xrw (xrow C i)) 2 && Nat.blt (1) maxL))
    | 2 => xd cb (xpc C i) (.astore_n 2) 1 && (xnx C i 1 && (Nat.beq (xrw (xrow C i)) 2 && Nat.blt (2) maxL))
    | 3 => xd cb (xpc C i) (.astore_n 3) 1 && (xnx C i 1 && (Nat.beq (xrw (xrow C i)) 2 && Nat.blt (3) maxL))
    | _ => false
  | 5 => xd cb (xpc C i) (.astore (xru (xrow C i))) 2 && (xnx C i 2 && (Nat.beq (xrw (xrow C i)) 2 && Nat.blt (xru (xrow C i)) maxL))
  | _ => false
theorem xbq (a b : Nat) : Nat.beq a b = (a == b) := by
  by_cases h : a = b
  · subst h
    rw [xbeq.mpr rfl]
    simp
  · have h1 : Nat.beq a b = false := by
      cases hb : Nat.beq a b with
      | true => exact absurd (xbeq.mp hb) h
      | false => rfl
    rw [h1]
    simp [h]
theorem xrl_k1 (E : xE) (lv : xl) (i : Nat) : (xrl E lv).filter (fun q => !(q.1 == i) && !(q.1 + 1 == i && q.2.category == 2)) = xrl E (lv.filter (xkeep i 1)) := by
  unfold xrl
  rw [List.filter_map]
  congr 1
  apply List.filter_congr
  intro q _
  simp only [Function.comp, xkeep, xr_cat, xbq]
  simp
theorem xrl_k2 (E : xE) (lv : xl) (i : Nat) : (xrl E lv).filter (fun q => !(q.1 == i) && (!(q.1 == i + 1) && !(q.1 + 1 == i && q.2.category == 2))) = xrl E (lv.filter (xkeep i 2)) := by
  unfold xrl
  rw [List.filter_map]
  congr 1
  apply List.filter_congr
  intro q _
  simp only [Function.comp, xkeep, xr_cat, xbq]
  simp
section XO
variable {X : xFix} {ih : xrec} {C i : Nat} {lv : xl} {st : List xv} {hp : xh} {bc bs d : Nat} {out : (Nat × xv) × xh × Nat × Nat} {j : Nat} {y : MethodName} {cb : ByteArray} {maxL : Nat} {ret : Option FieldType} {hs : List (Nat × Nat × Nat × Nat)}
  {p : Program} {l : Launch} {e : Env} {R : Room} {s : State} {m : MethodId} {args : Array Value} {below : List Frame} {meth : Method} {c : Code} {H : Heap} {locs : List Loc} {cells slots : Nat} {ls : Array Slot}

theorem xgo2 {i2 : Nat} {st2 : List xv} {lv2 : xl} {ls2 : Array Slot} (hI : xIH X ih) (hM : xMe X j C y cb maxL ret hs) (hF : xF p e s m meth c y cb maxL ret hs) (hS : xS X s) (hN : xN X R s H locs cells slots ls maxL lv hp bc bs d) (h : ih C i2 lv2 st2 hp bc bs d = some out) {pc : Nat} (hpc : xpc C i2 = pc) (hl2 : lv_has ls2 maxL (xrl X.E lv2)) : W p l e R s m args below meth c H locs cells slots (xEnd X R s below out) (F0 m pc ls2 (st2.map (xr X.E))) := by
  subst hpc
  obtain ⟨n1, n2, n3, -, n5⟩ := hN
  exact hI _ _ _ _ _ _ _ _ _ h j y cb maxL ret hs hM p l e R s m args below meth c H locs cells slots ls2 hF hS ⟨n1, n2, n3, hl2, n5⟩
theorem ok2 (hI : xIH X ih) (hM : xMe X j C y cb maxL ret hs) (hF : xF p e s m meth c y cb maxL ret hs) (hS : xS X s) (hN : xN X R s H locs cells slots ls maxL lv hp bc bs d) (hv : xv2 cb maxL C i = true) (h : xh2 X.P X.G ih C (xrow C i) (i + 1) lv st hp bc bs d = some out) : W p l e R s m args below meth c H locs cells slots (xEnd X R s below out) (F0 m (xpc C i) ls (st.map (xr X.E))) := by
  simp only [xh2, xf_eq] at h
  obtain ⟨hx, hb, -⟩ := id hF
  have hl := hN.2.2.2.1
  match st, h with
  | [], h => cases h
  | x :: s9, h =>
    simp only [xflt_eq] at h
    cases hk : Nat.beq (xkd x) (xrw (xrow C i)) with
    | false => simp only [hk, cond_false] at h; cases h
    | true =>
      simp only [hk, cond_true] at h
      have hk := xbeq.mp hk
      have c1 : xkd x ≠ 1 → xcat x = 1 := by
        intro hne
        obtain ⟨t, n⟩ := x
        match t, hne with
        | 0, _ => rfl
        | 1, hne => exact absurd rfl hne
        | 2, _ => rfl
        | 3, _ => rfl
        | 4, _ => rfl
        | 5, hne => exact absurd rfl hne
        | k + 6, _ => rfl
      have c2 : xkd x = 1 → xcat x = 2 := by
        intro he
        obtain ⟨t, n⟩ := x
        match t, he with
        | 0, he => exact absurd (show (0 : Nat) = 1 from he) (by decide)
        | 1, _ => rfl
        | 2, he => exact absurd (show (2 : Nat) = 1 from he) (by decide)
        | 3, he => exact absurd (show (2 : Nat) = 1 from he) (by decide)
        | 4, he => exact absurd (show (0 : Nat) = 1 from he) (by decide)
        | 5, _ => rfl
        | k + 6, he => exact absurd (show (2 : Nat) = 1 from he) (by decide)
      unfold xv2 at hv
      split at hv
      · split at hv
        all_goals first
          | (simp only [Bool.and_eq_true] at hv; rename_i hu; rw [hu] at h; have hk2 := hk.trans (xbeq.mp hv.2.2.1); have hc : xcat x = 1 := c1 (by rw [hk2]; decide); rw [hc] at h
             obtain ⟨z, hz⟩ := xkd_i (E := X.E) hk2; show W _ _ _ _ _ _ _ _ _ _ _ _ _ _ _ (F0 m _ ls (xr X.E x :: s9.map (xr X.E))); rw [hz]; exact lv_istore_n hx hb (xd_of hv.1) rfl hl (xblt.mp hv.2.2.2) (by rw [← hz, xrl_k1]; rfl) (fun ls2 hl2 => xgo2 hI hM hF hS hN h (xnx_of hv.2.1) hl2))
          | cases hv
      · simp only [Bool.and_eq_true] at hv
        have hk2 := hk.trans (xbeq.mp hv.2.2.1); have hc : xcat x = 1 := c1 (by rw [hk2]; decide); rw [hc] at h
        obtain ⟨z, hz⟩ := xkd_i (E := X.E) hk2; show W _ _ _ _ _ _ _ _ _ _ _ _ _ _ _ (F0 m _ ls (xr X.E x :: s9.map (xr X.E))); rw [hz]; exact lv_istore hx hb (xd_of hv.1) hl (xblt.mp hv.2.2.2) (by rw [← hz, xrl_k1]; rfl) (fun ls2 hl2 => xgo2 hI hM hF hS hN h (xnx_of hv.2.1) hl2)
      · split at hv
        all_goals first
          | (simp only [Bool.and_eq_true] at hv; rename_i hu; rw [hu] at h; have hk2 := hk.trans (xbeq.mp hv.2.2.1); have hc : xcat x = 2 := c2 hk2; rw [hc] at h
             obtain ⟨z, hz⟩ := xkd_l (E := X.E) hk2; show W _ _ _ _ _ _ _ _ _ _ _ _ _ _ _ (F0 m _ ls (xr X.E x :: s9.map (xr X.E))); rw [hz]; exact lv_lstore_n hx hb (xd_of hv.1) rfl hl (xblt.mp hv.2.2.2) (by rw [← hz, xrl_k2]; rfl) (fun ls2 hl2 => xgo2 hI hM hF hS hN h (xnx_of hv.2.1) hl2))
          | cases hv
      · simp only [Bool.and_eq_true] at hv
        have hk2 := hk.trans (xbeq.mp hv.2.2.1); have hc : xcat x = 2 := c2 hk2; rw [hc] at h
        obtain ⟨z, hz⟩ := xkd_l (E := X.E) hk2; show W _ _ _ _ _ _ _ _ _ _ _ _ _ _ _ (F0 m _ ls (xr X.E x :: s9.map (xr X.E))); rw [hz]; exact lv_lstore hx hb (xd_of hv.1) hl (xblt.mp hv.2.2.2) (by rw [← hz, xrl_k2]; rfl) (fun ls2 hl2 => xgo2 hI hM hF hS hN h (xnx_of hv.2.1) hl2)
      · split at hv
        all_goals first
          | (simp only [Bool.and_eq_true] at hv; rename_i hu; rw [hu] at h; have hk2 := hk.trans (xbeq.mp hv.2.2.1); have hc : xcat x = 1 := c1 (by rw [hk2]; decide); rw [hc] at h
             rcases xkd_r (E := X.E) hk2 with hz | ⟨z, hz⟩
             · show W _ _ _ _ _ _ _ _ _ _ _ _ _ _ _ (F0 m _ ls (xr X.E x :: s9.map (xr X.E))); rw [hz]; exact lv_astore_nN hx hb (xd_of hv.1) rfl hl (xblt.mp hv.2.2.2) (by rw [← hz, xrl_k1]; rfl) (fun ls2 hl2 => xgo2 hI hM hF hS hN h (xnx_of hv.2.1) hl2)
             · show W _ _ _ _ _ _ _ _ _ _ _ _ _ _ _ (F0 m _ ls (xr X.E x :: s9.map (xr X.E))); rw [hz]; exact lv_astore_n hx hb (xd_of hv.1) rfl hl (xblt.mp hv.2.2.2) (by rw [← hz, xrl_k1]; rfl) (fun ls2 hl2 => xgo2 hI hM hF hS hN h (xnx_of hv.2.1) hl2))
          | cases hv
      · simp only [Bool.and_eq_true] at hv
        have hk2 := hk.trans (xbeq.mp hv.2.2.1); have hc : xcat x = 1 := c1 (by rw [hk2]; decide); rw [hc] at h
        rcases xkd_r (E := X.E) hk2 with hz | ⟨z, hz⟩
        · show W _ _ _ _ _ _ _ _ _ _ _ _ _ _ _ (F0 m _ ls (xr X.E x :: s9.map (xr X.E))); rw [hz]; exact lv_astoreN hx hb (xd_of hv.1) hl (xblt.mp hv.2.2.2) (by rw [← hz, xrl_k1]; rfl) (fun ls2 hl2 => xgo2 hI hM hF hS hN h (xnx_of hv.2.1) hl2)
        · show W _ _ _ _ _ _ _ _ _ _ _ _ _ _ _ (F0 m _ ls (xr X.E x :: s9.map (xr X.E))); rw [hz]; exact lv_astore hx hb (xd_of hv.1) hl (xblt.mp hv.2.2.2) (by rw [← hz, xrl_k1]; rfl) (fun ls2 hl2 => xgo2 hI hM hF hS hN h (xnx_of hv.2.1) hl2)
      · cases hv
theorem ok3 (hI : xIH X ih) (hM : xMe X j C y cb maxL ret hs) (hF : xF p e s m meth c y cb maxL ret hs) (hS : xS X s) (hN : xN X R s H locs cells slots ls maxL lv hp bc bs d) (hv : xv3 cb maxL C i = true) (h : xh3 X.P X.G ih C (xrow C i) (i + 1) lv st hp bc bs d = some out) : W p l e R s m args below meth c H locs cells slots (xEnd X R s below out) (F0 m (xpc C i) ls (st.map (xr X.E))) := by
  simp only [xh3, xf_eq, xflt_eq] at h
  obtain ⟨hx, hb, -⟩ := id hF
  have hl := hN.2.2.2.1
  simp only [xv3, Bool.and_eq_true, decide_eq_true_eq] at hv
  cases ha : xat lv (xrv (xrow C i)) with
  | none => rw [ha] at h; cases h
  | some x =>
    rw [ha] at h
    obtain ⟨t, n⟩ := x
    match t, h, ha with
    | 0, h, ha =>
      have hmem : (xrv (xrow C i), xr X.E (0, n)) ∈ xrl X.E lv := List.mem_map.mpr ⟨_, xat_mem ha, rfl⟩
      obtain ⟨k, hk⟩ := List.getElem?_of_mem hmem
      exact lv_iinc hx hb (xd_of hv.1) hl (k := k) hk (by rw [hv.2.2.2, i32_add]) (xblt.mp hv.2.2.1) (by rw [xrl_k1]; rfl) (fun ls2 hl2 => xgo2 hI hM hF hS hN h (xnx_of hv.2.1) (lv2 := (xrv (xrow C i), (0, (n + xru (xrow C i)) % xM)) :: lv.filter (xkeep (xrv (xrow C i)) 1)) hl2)
    | k + 1, h, _ => cases h
end XO
