theorem xtake_of : ∀ (n : Nat) (st acc as s : List xv), xtake n st acc = some (as, s) → ∃ l, as = l ++ acc ∧ st = l.reverse ++ s ∧ l.length = n := by
  intro n
  induction n with
  | zero => intro st acc as s h; simp only [xtake] at h; cases h; exact ⟨[], rfl, rfl, rfl⟩
  | succ m ih =>
    intro st acc as s h
    cases st with
    | nil => simp only [xtake] at h; cases h
    | cons v r =>
      simp only [xtake] at h
      obtain ⟨l, h1, h2, h3⟩ := ih r (v :: acc) as s h
      exact ⟨l ++ [v], by rw [h1]; simp, by rw [h2]; simp, by simp [h3]⟩
def xargs : List xv → Nat → xl
  | [], _ => []
  | v :: r, i => (i, v) :: xargs r (i + xcat v)
def xargn : List xv → Nat → Nat
  | [], i => i
  | v :: r, i => xargn r (i + xcat v)
theorem xarg_eqJ {α : Type} (as : List xv) (i : Nat) (k : xl → Nat → α) : xarg as i k = k (xargs as i) (xargn as i) := by
  induction as generalizing i k with
  | nil => rfl
  | cons v r ih => simp only [xarg, xf_eq, ih, xargs, xargn]
theorem xcat12 (v : xv) : xcat v = 1 ∨ xcat v = 2 := by
  unfold xcat
  split
  · exact Or.inr rfl
  · exact Or.inr rfl
  · exact Or.inl rfl
theorem xargs_lv (E : xE) (as : List xv) (i : Nat) : xrl E (xargs as i) = lv_args i (as.map (xr E)) := by
  induction as generalizing i with
  | nil => rfl
  | cons v r ih =>
    show (i, xr E v) :: xrl E (xargs r (i + xcat v)) = _
    rw [ih]
    simp only [List.map_cons, lv_args, xr_cat]
    rcases xcat12 v with h | h
    · rw [h]; simp
    · rw [h]; simp
theorem xargn_sl (E : xE) (as : List xv) (i : Nat) : xargn as i = i + (lg_sl (as.map (xr E))).length := by
  induction as generalizing i with
  | nil => rfl
  | cons v r ih =>
    show xargn r (i + xcat v) = _
    rw [ih]
    have e : lg_sl (List.map (xr E) (v :: r)) = (if (xr E v).category = 2 then [Slot.val (xr E v), .second] else [.val (xr E v)]) ++ lg_sl (r.map (xr E)) := by simp [lg_sl]
    rw [e, List.length_append, xr_cat]
    rcases xcat12 v with h | h
    · rw [h]; simp; omega
    · rw [h]; simp; omega
/-- nothing runs in the place of its bytecode -/
def xpl (y : MethodName) : Bool := plainName y.cls || (NativeRow.find? Jvm.natives y.cls y.name y.desc).isNone
def xcw (y : MethodName) (cb : ByteArray) (maxL : Nat) (ret : Option FieldType) (hs : List (Nat × Nat × Nat × Nat)) : Cond := match hs with
  | [] => .code y cb maxL ret
  | _ => .codeWith y cb maxL ret hs
theorem xcw_spec {y : MethodName} {cb : ByteArray} {maxL : Nat} {ret : Option FieldType} {hs : List (Nat × Nat × Nat × Nat)} {a : Array Value} {s : State} {mk : MethodId} (hn : s.methodNamed? y = some mk) (h : (xcw y cb maxL ret hs).before a s = true) :
    ∃ methk ck, s.vm.method? mk = some methk ∧ methk.code = some ck ∧ ck.code = cb ∧ ck.maxLocals = maxL ∧ methk.sig.returnType = ret ∧ methk.locks = false ∧ ck.exceptionTable.toList.map (fun h => (h.startPc, h.endPc, h.handlerPc, h.catchType)) = hs ∧ parseMethodDescriptor y.desc = some methk.sig := by
  unfold xcw at h
  split at h
  · obtain ⟨methk, ck, h1, h2, h3, h4, h5, h6, h7, h8⟩ := Cond.code_spec hn h
    refine ⟨methk, ck, h1, h2, h3, h4, h5, h6, ?_, h8⟩
    have h0 : ck.exceptionTable.size = 0 := by simpa [Array.isEmpty] using h7
    have h9 : ck.exceptionTable.toList = [] := List.eq_nil_of_length_eq_zero (by simpa using h0)
    rw [h9]; rfl
  · obtain ⟨m9, methk, ck, hn9, h1, h2, h3, h4, h5, h6, h7, h8⟩ := Cond.codeWith_spec h
    cases hn.symm.trans hn9
    exact ⟨methk, ck, h1, h2, h3, h4, h6, h7, h5, h8⟩
theorem xsteps {tb : Tables} {e : Env} {g : JFrame} {below : List Frame} {a b : State} (h : Steps tb e (.java g :: below) a b) : Steps tb e below a b := by
  obtain ⟨n, h1, h2⟩ := h
  exact ⟨n, h1, fun k hk => Within.weaken (mid := [.java g]) (h2 k hk)⟩
section XO
variable {X : xFix} {ih : xrec} {C i : Nat} {lv : xl} {st : List xv} {hp : xh} {bc bs d : Nat} {out : (Nat × xv) × xh × Nat × Nat} {j : Nat} {y : MethodName} {cb : ByteArray} {maxL : Nat} {ret : Option FieldType} {hs : List (Nat × Nat × Nat × Nat)}
  {p : Program} {l : Launch} {e : Env} {R : Room} {s : State} {m : MethodId} {args : Array Value} {below : List Frame} {meth : Method} {c : Code} {H : Heap} {locs : List Loc} {cells slots : Nat} {ls : Array Slot}

/-- what holds at an invocation's start holds at the start of one that it makes -/
theorem xS.call {T : State} {g : JFrame} {mk : MethodId} {a : Array Value} (hS : xS X s) (hN : xN X R s H locs cells slots ls maxL lv hp bc bs d) (hT : T.heap = H) (hW : s.WarmedH T.vm) : xS X (T.calling g mk a) := by
  obtain ⟨h1, h2, h3, h4, h5, h6, h7, h8⟩ := hS
  obtain ⟨n1, n2, n3, -⟩ := hN
  have hvm : (T.calling g mk a).vm = T.vm := rfl
  have hh : (T.calling g mk a).heap = H := hT
  have hW' : s.WarmedH (T.calling g mk a).vm := hW
  refine ⟨h1.warm h7 hW', h2.moved hW'.alike, ?_, by rw [hh, n2]; exact Nat.le_add_right _ _, h5, h6, h7, fun i own k tx hk => (h8 i own k tx hk).warm hW'⟩
  rw [hh]
  exact (h3.moved hW'.alike).kept h4 n1.2.1
theorem xcall_in {T : State} {C2 d2 j2 : Nat} {y2 : MethodName} {cb2 : ByteArray} {maxL2 : Nat} {ret2 : Option FieldType} {hs2 : List (Nat × Nat × Nat × Nat)} {as rest : List xv} {out2 : (Nat × xv) × xh × Nat × Nat} {mk : MethodId} {pc : Nat} {ig : Instr}
    (Y : Stand p l e R s m args below meth c T locs cells slots) (hT : T.heap = H) (hI : xIH X ih) (hF : xF p e s m meth c y cb maxL ret hs) (hS : xS X s) (hN : xN X R s H locs cells slots ls maxL lv hp bc bs (d2 + 1)) (hrest : rest.length ≤ 8) (hdg : decode cb pc = .ok (ig, 3))
    (hM2 : xMe X j2 C2 y2 cb2 maxL2 ret2 hs2) (hn : s.methodNamed? y2 = some mk) (hcw : xcw y2 cb2 maxL2 ret2 hs2 ∈ X.Ws) (hpl : xpl y2 = true) (hmax : maxL2 ≤ 37) (hpc0 : xpc C2 0 = 0) (hlen : xargn as 0 ≤ maxL2) (hrun : ih C2 0 (xargs as 0) [] hp bc bs d2 = some out2) :
    ∃ t, Steps p.tables e below (doInvoke e (T.setTop (F0 m pc ls (rest.map (xr X.E)))) [] mk (as.map (xr X.E)).toArray).1 t ∧ xEnd X { frames := d2, cells := bc, slots := bs, locals := 64 * d2 } (T.calling (F0 m pc ls (rest.map (xr X.E))) mk (as.map (xr X.E)).toArray) (.java (F0 m pc ls (rest.map (xr X.E))) :: below) out2 t := by
  obtain ⟨hx, hb, hml, -⟩ := id hF
  obtain ⟨n1, n2, n3, n4, n5, n6, n7, n8⟩ := id hN
  obtain ⟨methk, ck, k1, k2, k3, k4, k5, k6, k7, k8⟩ := xcw_spec hn (hS.1 _ hcw args)
  have hA := Y.warmed.alike
  have hmk : T.vm.method? mk = some methk := by rw [hA.method?]; exact k1
  have hpk : T.plainMethod mk := by
    intro k hk
    obtain ⟨k', hk', hnm⟩ := className_of_methodNamed hn
    obtain ⟨k3', hk3, he⟩ := hA.2.2 _ _ hk'
    cases hk.symm.trans hk3
    have hcn : k.name = y2.cls := by
      rw [he]
      exact hnm
    have hnm3 := name_of_methodNamed hn k1
    have hmx : k.methods[mk.idx]? = some methk := by
      have h9 := hmk
      simp only [Vm.method?, hk, Option.bind_eq_bind, Option.bind_some] at h9
      exact h9
    have hp9 := hpl
    unfold xpl at hp9
    rw [Bool.or_eq_true] at hp9 ⊢
    rcases hp9 with hp9 | hp9
    · left
      rw [hcn]
      exact hp9
    · right
      unfold rowless
      rw [hmx]
      show (NativeRow.find? Jvm.natives k.name methk.name methk.desc).isNone = true
      rw [hcn, hnm3.1, hnm3.2]
      exact hp9
  have hsum := xcat_sum X.E rest
  obtain ⟨Z, hdo⟩ := Y.into (g := F0 m pc ls (rest.map (xr X.E))) (R' := { frames := d2, cells := bc, slots := bs, locals := 64 * d2 }) rfl (by rw [hml]; exact n4.1) (by rw [hb]; exact hdg) (as.map (xr X.E)).toArray hmk k2 k6 hpk n7
    (by show 2 * 0 + ((rest.map (xr X.E)).map fun v => v.category).sum + (ck.maxLocals + 11) + 64 * d2 ≤ _; rw [k4]; omega) (by show cells + bc ≤ _; omega) (by show slots + bs ≤ _; omega)
  have hnm2 := name_of_methodNamed hn k1
  have hF2 : xF p e (T.calling (F0 m pc ls (rest.map (xr X.E))) mk (as.map (xr X.E)).toArray) mk methk ck y2 cb2 maxL2 ret2 hs2 := ⟨hx, k3, k4, k5, ⟨k6, hF.2.2.2.2.1.2⟩, hnm2.1, by show T.vm.findClass _ = _; rw [hA.findClass]; exact findClass_of_methodNamed hn, k7⟩
  have hS2 := hS.call (g := F0 m pc ls (rest.map (xr X.E))) (mk := mk) (a := (as.map (xr X.E)).toArray) hN hT Y.warmed
  have hl2 := lv_entry (as.map (xr X.E)) (n := maxL2) (by rw [xargn_sl X.E] at hlen; omega)
  rw [← xargs_lv] at hl2
  have hN2 : xN X { frames := d2, cells := bc, slots := bs, locals := 64 * d2 } (T.calling (F0 m pc ls (rest.map (xr X.E))) mk (as.map (xr X.E)).toArray) H [] 0 0 _ maxL2 (xargs as 0) hp bc bs d2 := ⟨⟨by show T.heap.size ≤ _; rw [hT]; exact Nat.le_refl _, fun q _ _ => by show H[q]? = T.heap[q]?; rw [hT], fun q hq => by cases hq⟩, n2, n3, hl2, Nat.zero_add _, Nat.zero_add _, Nat.le_refl _, Nat.le_refl _⟩
  obtain ⟨t, st1, hend⟩ := hI _ _ _ _ _ _ _ _ _ hrun j2 y2 cb2 maxL2 ret2 hs2 hM2 p l e _ _ mk (as.map (xr X.E)).toArray (.java (F0 m pc ls (rest.map (xr X.E))) :: below) methk ck H [] 0 0 _ hF2 hS2 hN2 ((T.setTop (F0 m pc ls (rest.map (xr X.E)))).pushFrame (.java (entryFrame mk (as.map (xr X.E)).toArray ck.maxLocals))) hT Z
  refine ⟨t, ?_, hend⟩
  rw [hdo [], k4, lg_entry_eq]
  rw [hpc0] at st1
  rw [k4, lg_entry_eq] at st1
  exact xsteps st1
end XO
