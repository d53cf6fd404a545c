def xlk (Ws : List Cond) (own : String) (nest : Bool) (ix : Nat) (q : String × String × String × Bool) : Bool := match nest with
  | false => decide (Cond.fieldLink own ix q.1 q.2.1 q.2.2.1 ∈ Ws)
  | true => decide (Cond.fieldLinkNest own ix q.1 q.2.1 q.2.2.1 "ProxyForge" ∈ Ws)
def xv10 (cb : ByteArray) (Ws : List Cond) (cl : List vw_C) (own : String) (C i : Nat) : Bool := xd cb (xpc C i) (.getfield (xra (xrow C i))) 3 && (xnx C i 3 && (match cl[xrw (xrow C i)]? with
  | some (_, T, N) => Nat.blt (xrw (xrow C i)) 100 && (Nat.blt (xrv (xrow C i)) N && xlk Ws own (Nat.beq (xrb (xrow C i)) 1) (xra (xrow C i)) (T (xrv (xrow C i))))
  | none => Nat.beq (xrw (xrow C i)) 100 && (match xrv (xrow C i) with
    | 0 => decide (Cond.fieldLink own (xra (xrow C i)) "java/lang/String" "value" "[B" ∈ Ws)
    | _ => decide (Cond.fieldLink own (xra (xrow C i)) "java/lang/String" "coder" "B" ∈ Ws))))
/-- the type u of a field, as its descriptor has it -/
def xft (u : Nat) (d : String) : Bool := match parseFieldDescriptor d with
  | some .int => Nat.beq u 0
  | some .long => Nat.beq u 1
  | some (.object _) => Nat.beq u 2
  | some (.array _) => Nat.beq u 2
  | some .boolean => Nat.beq u 3
  | _ => false
def xv11 (cb : ByteArray) (Ws : List Cond) (cl : List vw_C) (own nm : String) (C i : Nat) : Bool := xd cb (xpc C i) (.putfield (xra (xrow C i))) 3 && (xnx C i 3 && (match cl[xrw (xrow C i)]? with
  | some (_, T, N) => Nat.blt (xrw (xrow C i)) 100 && (Nat.blt (xrv (xrow C i)) N && (xft (xru (xrow C i)) (T (xrv (xrow C i))).2.2.1 && (match xrb (xrow C i) with
    | 0 => xlk Ws own false (xra (xrow C i)) (T (xrv (xrow C i))) && !(T (xrv (xrow C i))).2.2.2
    | 1 => xlk Ws own true (xra (xrow C i)) (T (xrv (xrow C i))) && !(T (xrv (xrow C i))).2.2.2
    | 2 => xlk Ws own false (xra (xrow C i)) (T (xrv (xrow C i))) && ((T (xrv (xrow C i))).2.2.2 && (decide (nm = "<init>") && decide ((T (xrv (xrow C i))).1 = own)))
    | _ => false)))
  | none => false))
theorem xfit_of {E : xE} {u : Nat} {x : xv} {d : String} (h1 : xfit u x = true) (h2 : xft u d = true) : ∃ ty, parseFieldDescriptor d = some ty ∧ narrow ty (xr E x) = xr E x ∧ fits ty (xr E x) = true := by
  unfold xft at h2
  split at h2
  · rename_i hd
    have := xbeq.mp h2
    subst this
    obtain ⟨z, hz⟩ := xkd_i (E := E) (xbeq.mp h1)
    exact ⟨_, hd, by rw [hz]; rfl, by rw [hz]; rfl⟩
  · rename_i hd
    have := xbeq.mp h2
    subst this
    obtain ⟨z, hz⟩ := xkd_l (E := E) (xbeq.mp h1)
    exact ⟨_, hd, by rw [hz]; rfl, by rw [hz]; rfl⟩
  · rename_i hd
    have := xbeq.mp h2
    subst this
    rcases xkd_r (E := E) (xbeq.mp h1) with hz | ⟨z, hz⟩
    · exact ⟨_, hd, by rw [hz]; rfl, by rw [hz]; rfl⟩
    · exact ⟨_, hd, by rw [hz]; rfl, by rw [hz]; rfl⟩
  · rename_i hd
    have := xbeq.mp h2
    subst this
    rcases xkd_r (E := E) (xbeq.mp h1) with hz | ⟨z, hz⟩
    · exact ⟨_, hd, by rw [hz]; rfl, by rw [hz]; rfl⟩
    · exact ⟨_, hd, by rw [hz]; rfl, by rw [hz]; rfl⟩
  · rename_i hd
    have := xbeq.mp h2
    subst this
    obtain ⟨t, n⟩ := x
    simp only [xfit, Bool.and_eq_true, xbeq, xblt] at h1
    obtain ⟨rfl, h1⟩ := h1
    refine ⟨_, hd, ?_, ?_⟩
    · match n, h1 with
      | 0, _ => rfl
      | 1, _ => rfl
    · match n, h1 with
      | 0, _ => rfl
      | 1, _ => rfl
  · cases h2
theorem xre_o {E : xE} {dA : Nat → ClassId} {c m N : Nat} {fs : List xv} (h : c < 100) : xre E dA ((c, m), N, fs) = .inr (c, fs.map (xr E)) := by
  unfold xre
  rw [if_neg (by show ¬ 1000 ≤ c; omega)]
section XO
variable {X : xFix} {ih : xrec} {C i : Nat} {lv : xl} {st : List xv} {hp : xh} {bc bs d : Nat} {out : (Nat × xv) × xh × Nat × Nat} {j : Nat} {y : MethodName} {cb : ByteArray} {maxL : Nat} {ret : Option FieldType} {hs : List (Nat × Nat × Nat × Nat)}
  {p : Program} {l : Launch} {e : Env} {R : Room} {s : State} {m : MethodId} {args : Array Value} {below : List Frame} {meth : Method} {c : Code} {H : Heap} {locs : List Loc} {cells slots : Nat} {ls : Array Slot}

theorem ok10 (hI : xIH X ih) (hM : xMe X j C y cb maxL ret hs) (hF : xF p e s m meth c y cb maxL ret hs) (hS : xS X s) (hN : xN X R s H locs cells slots ls maxL lv hp bc bs d) (hv : xv10 cb X.Ws X.cl y.cls C i = true) (h : xh10 X.P X.G ih C (xrow C i) (i + 1) lv st hp bc bs d = some out) : W p l e R s m args below meth c H locs cells slots (xEnd X R s below out) (F0 m (xpc C i) ls (st.map (xr X.E))) := by
  simp only [xh10, xf_eq] at h
  obtain ⟨hx, hb, -, -, -, -, hown, -⟩ := id hF
  obtain ⟨hWd, hK, hO, -, -, hCl, -⟩ := id hS
  obtain ⟨hSS, -, hP, -⟩ := id hN
  simp only [xv10, Bool.and_eq_true] at hv
  obtain ⟨hdg, hnx, hv⟩ := hv
  have hnx := xnx_of hnx
  split at h
  · rename_i a9 s9
    rw [xnth_eq] at h
    cases hc : hp[a9]? with
    | none => simp only [hc] at h; cases h
    | some cell =>
      obtain ⟨⟨c9, m9⟩, N9, fs⟩ := cell
      simp only [hc] at h
      cases hcw : Nat.beq c9 (xrw (xrow C i)) with
      | false => rw [hcw] at h; cases h
      | true =>
        rw [hcw] at h
        have hcw := xbeq.mp hcw
        simp only [cond_true, xnth_eq] at h
        cases hf : fs[xrv (xrow C i)]? with
        | none => simp only [hf] at h; cases h
        | some x =>
          simp only [hf] at h
          cases hcl : X.cl[xrw (xrow C i)]? with
          | none =>
            exfalso
            simp only [hcl, Bool.and_eq_true, xbeq] at hv
            have h9 := hP a9 _ (xrh_get hc)
            unfold xre at h9
            rw [if_neg (by show ¬ 1000 ≤ c9; omega)] at h9
            obtain ⟨r, h1, -⟩ := h9
            have h1 : X.cl[c9]? = some r := h1
            rw [hcw, hcl] at h1
            cases h1
          | some q =>
            obtain ⟨Cn, T, N⟩ := q
            simp only [hcl, Bool.and_eq_true, xblt] at hv
            obtain ⟨hw, hlt, hlk⟩ := hv
            obtain ⟨hin, -⟩ := hCl _ _ _ _ hcl
            have hc2 : (xrh X.E X.dA hp)[a9]? = some (X.E.1 + a9, .inr (xrw (xrow C i), fs.map (xr X.E))) := by
              rw [xrh_get hc, xre_o (by rw [hcw]; exact hw), hcw]
            have hf2 : (fs.map (xr X.E))[xrv (xrow C i)]? = some (xr X.E x) := by rw [List.getElem?_map, hf]; rfl
            have go := xgo (p := p) (l := l) (e := e) (R := R) (s := s) (m := m) (args := args) (below := below) (meth := meth) (c := c) hI hM hF hS hN h hnx
            unfold xlk at hlk
            split at hlk
            · exact va_get (Ts := X.Ws) hx hb (fun w hw => hWd w hw args) hin hown hK hP a9 hc2 hcl _ hlt (hWd _ (of_decide_eq_true hlk) args) (fun _ h9 => h9) hf2 (xd_of hdg) go
            · exact va_getN (Ts := X.Ws) hx hb (fun w hw => hWd w hw args) hin hown hK hP a9 hc2 hcl _ hlt (hWd _ (of_decide_eq_true hlk) args) (fun _ h9 => h9) hf2 (xd_of hdg) go
  · rename_i a9 s9
    cases hcw : Nat.beq (xrw (xrow C i)) 100 && Nat.ble 1 a9 with
    | false => rw [hcw] at h; cases h
    | true =>
      rw [hcw] at h
      simp only [Bool.and_eq_true, xbeq, xble] at hcw
      obtain ⟨hw, ha⟩ := hcw
      cases hcl : X.cl[xrw (xrow C i)]? with
      | some q =>
        obtain ⟨Cn, T, N⟩ := q
        simp only [hcl, Bool.and_eq_true, xblt] at hv
        omega
      | none =>
        simp only [hcl, Bool.and_eq_true] at hv
        simp only [cond_true, xnth_eq] at h
        obtain ⟨a8, rfl⟩ := Nat.exists_eq_add_of_le' ha
        generalize hV : xrv (xrow C i) = v9 at h hv
        cases hst : X.P.2.1[a8 + 1]? with
        | none => simp only [hst] at h; cases h
        | some b9 =>
          obtain ⟨-, q2, q3, -⟩ := hO.2.2.1 a8 b9 hst
          match v9, h, hv with
          | 0, h, hv =>
            simp only [hst] at h
            exact vk_getf hx hb q3 hSS hown (hWd _ (of_decide_eq_true hv.2) args) (fun _ h9 => h9) (xd_of hdg) (xgo hI hM hF hS hN h hnx)
          | k + 1, h, hv =>
            simp only [hst] at h
            exact vk_getf hx hb q2 hSS hown (hWd _ (of_decide_eq_true hv.2) args) (fun _ h9 => h9) (xd_of hdg) (xgo hI hM hF hS hN h hnx)
  · cases h
theorem xset_ok {a9 k9 : Nat} {cell cell' : xc} {H' : Heap} (hN : xN X R s H locs cells slots ls maxL lv hp bc bs d) (hc : hp[a9]? = some cell) (he : va_at X.D X.cl (X.E.1 + a9, xre X.E X.dA cell') H') (e2 : H'.size = H.size) (e3 : ∀ q, q ≠ X.E.1 + a9 → H'[q]? = H[q]?) : va_S (xA X.E) s.heap H' (locs ++ [⟨X.E.1 + a9, k9⟩]) ∧ H'.size = X.E.1 + (hp.set a9 cell').length ∧ va_P X.D X.cl (xrh X.E X.dA (hp.set a9 cell')) H' := by
  obtain ⟨hS0, hz, hP, -⟩ := hN
  refine ⟨hS0.put e2 e3 (Nat.le_add_right _ _), by rw [List.length_set, e2]; exact hz, ?_⟩
  rw [← xrh_set hc]
  exact hP.set (xrh_D (A := xA X.E) (fun _ h => h)) (xrh_get hc) he e3
theorem xgo3 {i2 : Nat} {st2 : List xv} {hp2 : xh} {H2 : Heap} {locs2 : List Loc} (hI : xIH X ih) (hM : xMe X j C y cb maxL ret hs) (hF : xF p e s m meth c y cb maxL ret hs) (hS : xS X s) (hN : xN X R s H locs cells slots ls maxL lv hp bc bs d) (h : ih C i2 lv st2 hp2 bc bs d = some out) {pc : Nat} (hpc : xpc C i2 = pc) (hS2 : va_S (xA X.E) s.heap H2 locs2) (hz : H2.size = X.E.1 + hp2.length) (hP2 : va_P X.D X.cl (xrh X.E X.dA hp2) H2) : W p l e R s m args below meth c H2 locs2 cells slots (xEnd X R s below out) (F0 m pc ls (st2.map (xr X.E))) := by
  subst hpc
  obtain ⟨n1, n2, n3, n4, n5⟩ := hN
  exact hI _ _ _ _ _ _ _ _ _ h j y cb maxL ret hs hM p l e R s m args below meth c H2 locs2 cells slots ls hF hS ⟨hS2, hz, hP2, n4, n5⟩
theorem ok11 (hI : xIH X ih) (hM : xMe X j C y cb maxL ret hs) (hF : xF p e s m meth c y cb maxL ret hs) (hS : xS X s) (hN : xN X R s H locs cells slots ls maxL lv hp bc bs d) (hv : xv11 cb X.Ws X.cl y.cls y.name C i = true) (h : xh11 X.P X.G ih C (xrow C i) (i + 1) lv st hp bc bs d = some out) : W p l e R s m args below meth c H locs cells slots (xEnd X R s below out) (F0 m (xpc C i) ls (st.map (xr X.E))) := by
  simp only [xh11, xf_eq, xvset_eq, xhset_eq] at h
  obtain ⟨hx, hb, -, -, -, hnm, hown, -⟩ := id hF
  obtain ⟨hWd, hK, hO, -, -, hCl, -⟩ := id hS
  obtain ⟨hSS, hsz, hP, -⟩ := id hN
  simp only [xv11, Bool.and_eq_true] at hv
  obtain ⟨hdg, hnx, hv⟩ := hv
  have hnx := xnx_of hnx
  split at h
  · rename_i x9 a9 s9
    rw [xnth_eq] at h
    cases hc : hp[a9]? with
    | none => simp only [hc] at h; cases h
    | some cell =>
      obtain ⟨⟨c9, m9⟩, N9, fs⟩ := cell
      simp only [hc] at h
      cases hcw : Nat.beq c9 (xrw (xrow C i)) && (xfit (xru (xrow C i)) x9 && Nat.blt (xrv (xrow C i)) (List.length fs)) with
      | false => rw [hcw] at h; cases h
      | true =>
        rw [hcw] at h
        simp only [Bool.and_eq_true, xbeq, xblt] at hcw
        obtain ⟨hcw, hfit, hlen⟩ := hcw
        simp only [cond_true] at h
        cases hcl : X.cl[xrw (xrow C i)]? with
        | none => simp only [hcl] at hv; cases hv
        | some q =>
          obtain ⟨Cn, T, N⟩ := q
          simp only [hcl, Bool.and_eq_true, xblt] at hv
          obtain ⟨hw, hlt, hft, hlk⟩ := hv
          obtain ⟨hin, ty0, hty, hnames⟩ := hCl _ _ _ _ hcl
          obtain ⟨ty, hd, hn, hf⟩ := xfit_of (E := X.E) hfit hft
          have hc2 : (xrh X.E X.dA hp)[a9]? = some (X.E.1 + a9, .inr (xrw (xrow C i), fs.map (xr X.E))) := by
            rw [xrh_get hc, xre_o (by rw [hcw]; exact hw), hcw]
          obtain ⟨r9, hr1, cell, q1, q2, q3, q4⟩ := hP a9 _ hc2
          have hr : r9 = (Cn, T, N) := Option.some.inj (hr1.symm.trans hcl)
          subst hr
          have hap := va_apart (own := y.cls) (Ts := X.Ws) (args := args) (fun w hw => hWd w hw args) hin ty0 hty hnames hK hcl
          obtain ⟨hSl, hfc, kC, hkC, hkind⟩ := hK.1 _ _ hcl
          obtain ⟨cf, kf, fi, f, hi, hsl⟩ := hSl (xrv (xrow C i)) hlt
          have hst := (u_facts hfc hkC (u_lays (args := args) (fun w hw => hWd w hw args) hin hlt) hi).1
          have hlay := hWd _ (hin _ (u_in_lay hlt)) args
          have hslot : f.slot < cell.slots.size := by rw [hsl]; exact k2_hasslot (q4 _ hlt)
          have fin : ∀ (H' : Heap), H'[X.E.1 + a9]? = some (cell.setSlot f.slot (xr X.E x9)) → H'.size = H.size → (∀ q, q ≠ X.E.1 + a9 → H'[q]? = H[q]?) → W p l e R s m args below meth c H' (locs ++ [⟨X.E.1 + a9, f.slot⟩]) cells slots (xEnd X R s below out) (F0 m (xpc C i + 3) ls (s9.map (xr X.E))) := by
            intro H' e1 e2 e3
            obtain ⟨z1, z2, z3⟩ := xset_ok (k9 := f.slot) (cell' := ((c9, m9), N9, fs.set (xrv (xrow C i)) x9)) hN hc (by
              rw [xre_o (by rw [hcw]; exact hw), hcw, List.map_set]
              refine ⟨_, hcl, t_OB.to (V := updV (vp_V (fs.map (xr X.E))) (xrv (xrow C i)) (xr X.E x9)) ⟨_, e1, q2, q3, ?_⟩ (fun j _ => vp_updV_set (by rw [List.length_map]; exact hlen) _ j)⟩
              rw [hsl]
              exact t_set q4 hap hlt _) e2 e3
            exact xgo3 hI hM hF hS hN h hnx z1 z2 z3
          split at hlk
          · simp only [Bool.and_eq_true, Bool.not_eq_true'] at hlk
            obtain ⟨hlk, hnf⟩ := hlk
            unfold u_lay at hlay
            rw [if_neg (by rw [hnf]; decide)] at hlay
            have h6 := u_store hfc hkC hkind hlay hi hd hn hf
            exact W.putK hx hb (f := f) ⟨hown, hWd _ (of_decide_eq_true hlk) args, ⟨_, _, _, hi⟩, hst⟩ (by rw [q2]; exact h6) q1 q3 hslot rfl rfl (xd_of hdg) fin
          · simp only [Bool.and_eq_true, Bool.not_eq_true'] at hlk
            obtain ⟨hlk, hnf⟩ := hlk
            unfold u_lay at hlay
            rw [if_neg (by rw [hnf]; decide)] at hlay
            have h6 := u_store hfc hkC hkind hlay hi hd hn hf
            exact va_WputK hx hb (f := f) hown (hWd _ (of_decide_eq_true hlk) args) hi hst (by rw [q2]; exact h6) q1 q3 hslot rfl rfl (xd_of hdg) fin
          · simp only [Bool.and_eq_true, decide_eq_true_eq] at hlk
            obtain ⟨hlk, hyf, hy1, hy2⟩ := hlk
            unfold u_lay at hlay
            rw [if_pos hyf] at hlay
            have hcf : m.cls = cf := by
              obtain ⟨_, _, c', _, _, _, -, -, hf', -, -, -, hown2, -⟩ := Cond.laysFinal_spec hlay
              have e1 : c' = cf := by have := hi.symm.trans hf'; simp at this; exact this.1.symm
              rw [hy2] at hown2
              rw [← e1]; exact Option.some.inj (hown.symm.trans hown2)
            have h6 := u_fits hfc hkC hkind (Or.inr hlay) hi hd hn hf
            exact W.putFinK hx hb hown (hWd _ (of_decide_eq_true hlk) args) hi hst hcf (hnm.trans hy1) (by rw [q2]; exact h6) q1 q3 hslot rfl rfl (xd_of hdg) fin
          · cases hlk
  · cases h
end XO
