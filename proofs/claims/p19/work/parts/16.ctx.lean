/-! Where the own machine stands in the JVM. -/
theorem xkd_i {E : xE} {v : xv} (h : xkd v = 0) : ∃ x, xr E v = .int x := by
  obtain ⟨t, n⟩ := v
  match t, h with
  | 0, _ => exact ⟨_, rfl⟩
  | 1, h => exact absurd (show (1 : Nat) = 0 from h) (by decide)
  | 2, h => exact absurd (show (2 : Nat) = 0 from h) (by decide)
  | 3, h => exact absurd (show (2 : Nat) = 0 from h) (by decide)
  | 4, _ => exact ⟨_, rfl⟩
  | 5, h => exact absurd (show (1 : Nat) = 0 from h) (by decide)
  | k + 6, h => exact absurd (show (2 : Nat) = 0 from h) (by decide)
theorem xkd_l {E : xE} {v : xv} (h : xkd v = 1) : ∃ x, xr E v = .long x := by
  obtain ⟨t, n⟩ := v
  match t, h with
  | 0, h => exact absurd (show (0 : Nat) = 1 from h) (by decide)
  | 1, _ => exact ⟨_, rfl⟩
  | 2, h => exact absurd (show (2 : Nat) = 1 from h) (by decide)
  | 3, h => exact absurd (show (2 : Nat) = 1 from h) (by decide)
  | 4, h => exact absurd (show (0 : Nat) = 1 from h) (by decide)
  | 5, _ => exact ⟨_, rfl⟩
  | k + 6, h => exact absurd (show (2 : Nat) = 1 from h) (by decide)
theorem xkd_r {E : xE} {v : xv} (h : xkd v = 2) : xr E v = .null ∨ ∃ a, xr E v = .ref a := by
  obtain ⟨t, n⟩ := v
  match t, h with
  | 0, h => exact absurd (show (0 : Nat) = 2 from h) (by decide)
  | 1, h => exact absurd (show (1 : Nat) = 2 from h) (by decide)
  | 4, h => exact absurd (show (0 : Nat) = 2 from h) (by decide)
  | 5, h => exact absurd (show (1 : Nat) = 2 from h) (by decide)
  | 2, _ => exact Or.inr ⟨_, rfl⟩
  | 3, _ => exact Or.inl rfl
  | 6, _ => exact Or.inr ⟨_, rfl⟩
  | 7, _ => exact Or.inr ⟨_, rfl⟩
  | k + 8, _ =>
    show va_rf (E.2.2.2.2.2 n) = .null ∨ ∃ a, va_rf (E.2.2.2.2.2 n) = .ref a
    cases E.2.2.2.2.2 n with
    | none => exact Or.inl rfl
    | some a => exact Or.inr ⟨a, rfl⟩
abbrev xA (E : xE) : Nat → Prop := fun q => E.1 ≤ q
def xty (dA : Nat → ClassId) : List (ClassId × FieldType) := [(dA 4, .boolean), (dA 8, .byte), (dA 10, .int), (dA 11, .long)]
/-- words that hold wherever the tables are warmer -/
def xgood (w : Cond) : Prop := (w.onTables && w.keeps) = true ∨ (∃ ty, w = .arrayClass ty) ∨ (∃ a i b n d h, w = .fieldLinkNest a i b n d h) ∨ (∃ a i x h, w = .methodLinkNest a i x h) ∨ (∃ x, w = .declares x) ∨ (∃ a b, w = .castable a b) ∨ ∃ a b, w = .not (.castable a b)
def xWd (Ws : List Cond) (s : State) : Prop := ∀ w ∈ Ws, ∀ a : Array Value, w.before a s = true
theorem xnoc {A : Array Value} {s : State} {a b : String} (h : (Cond.not (.castable a b)).before A s = true) : ∃ c t, s.vm.findClass a = some c ∧ s.vm.findClass b = some t ∧ s.vm.assignable c t = false := by
  cases h1 : s.vm.findClass a with
  | none => simp [Cond.before, Cond.holds, Cond.value, h1] at h
  | some c =>
    cases h2 : s.vm.findClass b with
    | none => simp [Cond.before, Cond.holds, Cond.value, h1, h2] at h
    | some t =>
      refine ⟨c, t, rfl, rfl, ?_⟩
      simpa [Cond.before, Cond.holds, Cond.value, h1, h2] using h
theorem xnoc_of {A : Array Value} {s : State} {a b : String} {c t : ClassId} (h1 : s.vm.findClass a = some c) (h2 : s.vm.findClass b = some t) (h3 : s.vm.assignable c t = false) : (Cond.not (.castable a b)).before A s = true := by
  simp [Cond.before, Cond.holds, Cond.value, h1, h2, h3]
theorem xWd.warm {Ws : List Cond} {s U : State} (hg : ∀ w ∈ Ws, xgood w) (hW : s.WarmedH U.vm) (h : xWd Ws s) : xWd Ws U := by
  intro w hw a
  rcases hg w hw with h1 | h1 | ⟨x1, x2, x3, x4, x5, x6, rfl⟩ | ⟨x1, x2, x3, x4, rfl⟩ | ⟨x1, rfl⟩ | ⟨x1, x2, rfl⟩ | ⟨x1, x2, rfl⟩
  · exact word_at hW (Or.inl h1) (h w hw #[])
  · exact word_at hW (Or.inr h1) (h w hw #[])
  · exact va_Nw.use rfl (va_Nw.warmF hW (h _ hw #[]))
  · exact va_Nw.use rfl (va_Nw.warmM hW (h _ hw #[]))
  · exact va_Nw.use rfl (va_Nw.warmD hW (h _ hw #[]))
  · obtain ⟨c1, c2, q1, q2, q3⟩ := Cond.castable_spec (h _ hw #[])
    have f1 : U.vm.findClass x1 = some c1 := by rw [hW.alike.findClass]; exact q1
    have f2 : U.vm.findClass x2 = some c2 := by rw [hW.alike.findClass]; exact q2
    have f3 : U.vm.assignable c1 c2 = true := by rw [hW.alike.assignable]; exact q3
    simp [Cond.before, Cond.holds, Cond.value, f1, f2, f3]
  · obtain ⟨c1, c2, q1, q2, q3⟩ := xnoc (h _ hw #[])
    exact xnoc_of (by rw [hW.alike.findClass]; exact q1) (by rw [hW.alike.findClass]; exact q2) (by rw [hW.alike.assignable]; exact q3)
/-- a static field, laid in its class's cell, that is not among A -/
def xLs (O n d : String) (A : Nat → Prop) (s : State) (H : Heap) : Prop := ∃ (c : ClassId) (k : Class) (i : Nat) (f : Field) (a : Nat) (cell : Cell), s.vm.findClass O = some c ∧ s.fieldFound? O n d = some (c, k, i, f) ∧ f.isStatic = true ∧ k.statics = some a ∧ H[a]? = some cell ∧ cell.vm.isStatics = true ∧ cell.cls = c ∧ f.slot < cell.slots.size ∧ k.staticTypes[f.slot]? = some f.type ∧ ¬ A a
theorem xLs.kept {O n d : String} {A : Nat → Prop} {s : State} {H H1 : Heap} (h : xLs O n d A s H) (hq : ∀ a : Nat, a < H.size → ¬ A a → H1[a]? = H[a]?) : xLs O n d A s H1 := by
  obtain ⟨c, k, i, f, a, cell, h1, h2, h3, h4, h5, h6, h7, h8, h9, h10⟩ := h
  exact ⟨c, k, i, f, a, cell, h1, h2, h3, h4, by rw [hq a (Array.getElem?_eq_some_iff.mp h5).1 h10]; exact h5, h6, h7, h8, h9, h10⟩
theorem xLs.moved {O n d : String} {A : Nat → Prop} {s U : State} {H : Heap} (hvm : s.vm.Alike U.vm) (h : xLs O n d A s H) : xLs O n d A U H := by
  obtain ⟨c, k, i, f, a, cell, h1, h2, h3, h4, h5, h6, h7, h8, h9, h10⟩ := h
  obtain ⟨k', hi', he⟩ := State.fieldFound?_setVm hvm h2
  exact ⟨c, k', i, f, a, cell, by rw [hvm.findClass]; exact h1, hi', h3, by rw [he]; exact h4, h5, h6, h7, h8, by rw [he]; exact h9, h10⟩
theorem xLs.word {O n d : String} {A : Nat → Prop} {s : State} {a : Array Value} (h : xLs O n d A s s.heap) : (Cond.laysStatic O n d).before a s = true := by
  obtain ⟨c, k, i, f, a, cell, h1, h2, h3, h4, h5, h6, h7, h8, h9, -⟩ := h
  exact Cond.laysStatic_of h1 h2 h3 h4 h5 h6 h7 h8 h9
/-- the script is not looked at -/
def xBl (G : xk) : Prop := G.1.1 = 99 ∧ G.1.2 = 0
/-- what was there before: the script; the String constants (from number 1 on) and their bytes; two statics -/
def xOld (E : xE) (G : xk) (St : List (List xv)) (s : State) (H : Heap) : Prop :=
  ((xBl G ∨ G.1.2 = E.2.2.2.2.1 0) ∧ va_X (E.2.2.2.1 0) (E.2.2.2.2.1 0) E.2.1 s H) ∧ E.2.2.2.1 0 < E.1 ∧
  (∀ (i : Nat) (b : List xv), St[i + 1]? = some b → va_O "java/lang/String" (E.2.2.2.1 (i + 1)) (xA E) s H ∧ va_OF "java/lang/String" "coder" "B" (.int 0) (E.2.2.2.1 (i + 1)) (xA E) s H ∧ va_OF "java/lang/String" "value" "[B" (.ref (E.2.2.2.2.1 (i + 1))) (E.2.2.2.1 (i + 1)) (xA E) s H ∧ va_T .byte (E.2.2.2.2.1 (i + 1)) b.length (fun j => xr E (b.getD j (0, 0))) (xA E) s H ∧ b.length < 65536) ∧
  va_Z "java/lang/String" "COMPACT_STRINGS" "Z" (.int 1) (xA E) s H ∧ va_Z "jdk/internal/util/Preconditions" "SIOOBE_FORMATTER" "Ljava/util/function/BiFunction;" (va_rf (E.2.2.2.2.2 0)) (xA E) s H ∧
  va_Zq "java/lang/Throwable" "UNASSIGNED_STACK" "[Ljava/lang/StackTraceElement;" (xA E) s H ∧ va_Zq "java/lang/Throwable" "SUPPRESSED_SENTINEL" "Ljava/util/List;" (xA E) s H ∧
  xLs "java/lang/Throwable" "UNASSIGNED_STACK" "[Ljava/lang/StackTraceElement;" (xA E) s H ∧ xLs "java/lang/Throwable" "SUPPRESSED_SENTINEL" "Ljava/util/List;" (xA E) s H
theorem xOld.kept {E : xE} {G : xk} {St : List (List xv)} {s : State} {H H1 : Heap} (h : xOld E G St s H) (hB : E.1 ≤ H.size) (hq : ∀ a : Nat, a < H.size → ¬ xA E a → H1[a]? = H[a]?) : xOld E G St s H1 := by
  obtain ⟨⟨hBl, scr, x1, x2⟩, h2, h3, h4, h5, h6, h7, h8, h9⟩ := h
  refine ⟨⟨hBl, scr, by rw [hq _ (Nat.lt_of_lt_of_le h2 hB) (Nat.not_le.mpr h2)]; exact x1, x2⟩, h2, fun i b hb => ?_, ?_, ?_, ?_, ?_, h8.kept hq, h9.kept hq⟩
  · obtain ⟨q1, q2, q3, q4, q5⟩ := h3 i b hb
    exact ⟨q1.kept hq, q2.kept hq, q3.kept hq, q4.kept hq, q5⟩
  · exact h4.kept hq
  · exact h5.kept hq
  · rcases h6 with h | ⟨t, h⟩
    · exact Or.inl (h.kept hq)
    · exact Or.inr ⟨t, h.kept hq⟩
  · rcases h7 with h | ⟨t, h⟩
    · exact Or.inl (h.kept hq)
    · exact Or.inr ⟨t, h.kept hq⟩
theorem xOld.moved {E : xE} {G : xk} {St : List (List xv)} {s U : State} {H : Heap} (hvm : s.vm.Alike U.vm) (h : xOld E G St s H) : xOld E G St U H := by
  obtain ⟨⟨hBl, scr, x1, x2, x3⟩, h2, h3, h4, h5, h6, h7, h8, h9⟩ := h
  refine ⟨⟨hBl, scr, x1, State.isArrayOf_alike hvm x2, x3⟩, h2, fun i b hb => ?_, h4.moved hvm, h5.moved hvm, h6.imp (fun h => h.moved hvm) (fun ⟨t, h⟩ => ⟨t, h.moved hvm⟩), h7.imp (fun h => h.moved hvm) (fun ⟨t, h⟩ => ⟨t, h.moved hvm⟩), h8.moved hvm, h9.moved hvm⟩
  obtain ⟨q1, q2, q3, q4, q5⟩ := h3 i b hb
  exact ⟨q1.moved hvm, q2.moved hvm, q3.moved hvm, q4.moved hvm, q5⟩
/-- what is fixed for a whole run: words, classes, numbers of classes and slots, array classes, variables, what is known of them, program, methods -/
abbrev xFix : Type := List Cond × List vw_C × va_G × (Nat → ClassId) × xE × xk × xP × List (MethodName × ByteArray × Nat × Option FieldType × List (Nat × Nat × Nat × Nat)) × List (String × Nat × String) × (Room → State → List Frame → State → Prop)
abbrev xFix.Ws (X : xFix) : List Cond := X.1
abbrev xFix.cl (X : xFix) : List vw_C := X.2.1
abbrev xFix.D (X : xFix) : va_G := X.2.2.1
abbrev xFix.dA (X : xFix) : Nat → ClassId := X.2.2.2.1
abbrev xFix.E (X : xFix) : xE := X.2.2.2.2.1
abbrev xFix.G (X : xFix) : xk := X.2.2.2.2.2.1
abbrev xFix.P (X : xFix) : xP := X.2.2.2.2.2.2.1
abbrev xFix.Mi (X : xFix) : List (MethodName × ByteArray × Nat × Option FieldType × List (Nat × Nat × Nat × Nat)) := X.2.2.2.2.2.2.2.1
abbrev xFix.Sn (X : xFix) : List (String × Nat × String) := X.2.2.2.2.2.2.2.2.1
/-- what is to hold where the run is left off (mark 9) -/
abbrev xFix.Z (X : xFix) : Room → State → List Frame → State → Prop := X.2.2.2.2.2.2.2.2.2
/-- what is known of the variables is so -/
def xGk (E : xE) (G : xk) : Prop :=
  (32 ≤ G.1.1 ∨ (E.2.1 0 &&& 31) = Int32.ofNat G.1.1) ∧ (∀ (j : Nat) (q : Nat × Nat), G.2.1[j]? = some q → (q.1 : Int) ≤ (E.2.1 j).toInt + 2147483648 ∧ (E.2.1 j).toInt + 2147483648 ≤ (q.2 : Int)) ∧
  ((G.2.2.1 : Int) ≤ (E.2.2.1 291).toInt + 9223372036854775808 ∧ (E.2.2.1 291).toInt + 9223372036854775808 ≤ (G.2.2.2 : Int)) ∧
  (∀ c : Nat, c < 16 → E.2.2.1 c = (E.2.1 c).toInt64 ∧ E.2.2.1 (c + 16) = (E.2.1 c).toInt64 <<< ((32 : Int32).toInt64 &&& 63) ∧ E.2.2.1 (c + 32) = (E.2.1 c).toInt64 &&& 4294967295) ∧
  (∀ a b : Nat, a < 16 → b < 16 → E.2.2.1 (256 + 16 * a + b) = E.2.2.1 (a + 16) ||| E.2.2.1 (b + 32)) ∧
  (∀ c : Nat, E.2.2.1 (c + 1024) = E.2.2.1 c &&& 1) ∧ (∀ c : Nat, E.2.1 (c + 8192) = (E.2.2.1 c).toInt32) ∧ (∀ c : Nat, c < 512 → E.2.2.1 (c + 512) = (E.2.1 (c + 8192)).toInt64) ∧ G.1.2 < 65536
/-- the words say how the objects of the classes are laid -/
def xCls (X : xFix) : Prop := ∀ (ci : Nat) (C : String) (T : u_T) (N : Nat), X.cl[ci]? = some (C, T, N) → (∀ w ∈ u_ws C T N, w ∈ X.Ws) ∧ ∃ ty : Nat → FieldType, (∀ k, k < N → parseFieldDescriptor (T k).2.2.1 = some (ty k)) ∧ ∀ a, a < N → ∀ b, b < N → a ≠ b → (T a).2.1 ≠ (T b).2.1
/-- at the start of every invocation -/
def xS (X : xFix) (s : State) : Prop := xWd X.Ws s ∧ va_K X.D X.cl (xty X.dA) s ∧ xOld X.E X.G X.P.2.1 s s.heap ∧ X.E.1 ≤ s.heap.size ∧ xGk X.E X.G ∧ xCls X ∧ (∀ w ∈ X.Ws, xgood w) ∧ ∀ (i : Nat) (own : String) (k : Nat) (tx : String), X.Sn[i]? = some (own, k, tx) → vk_R own k tx (X.E.2.2.2.1 (i + 1)) s
/-- the frame of method y -/
def xF (p : Program) (e : Env) (s : State) (m : MethodId) (meth : Method) (c : Code) (y : MethodName) (cb : ByteArray) (maxL : Nat) (ret : Option FieldType) (hs : List (Nat × Nat × Nat × Nat)) : Prop :=
  p.tables.exec = Jvm.exec ∧ c.code = cb ∧ c.maxLocals = maxL ∧ meth.sig.returnType = ret ∧ (meth.locks = false ∧ e.platform.stackTraces = false) ∧ meth.name = y.name ∧ s.vm.findClass y.cls = some m.cls ∧ c.exceptionTable.toList.map (fun h => (h.startPc, h.endPc, h.handlerPc, h.catchType)) = hs
/-- the world now -/
def xN (X : xFix) (R : Room) (s : State) (H : Heap) (locs : List Loc) (cells slots : Nat) (ls : Array Slot) (maxL : Nat) (lv : xl) (hp : xh) (bc bs d : Nat) : Prop :=
  va_S (xA X.E) s.heap H locs ∧ H.size = X.E.1 + hp.length ∧ va_P X.D X.cl (xrh X.E X.dA hp) H ∧ lv_has ls maxL (xrl X.E lv) ∧ cells + bc = R.cells ∧ slots + bs = R.slots ∧ d ≤ R.frames ∧ 64 * d ≤ R.locals
/-- what a result says of the outcome -/
def xO (E : xE) (r : Nat × xv) (o : Outcome) : Prop := match r.1 with
  | 0 => o = .returned none
  | 1 => o = .returned (some (xr E r.2))
  | _ => o = .threw (E.1 + r.2.2)
/-- the end of an invocation -/
def xEnd0 (X : xFix) (R : Room) (s : State) (below : List Frame) (out : (Nat × xv) × xh × Nat × Nat) : State → Prop := fun t =>
  ∃ (o : Outcome) (L : List Loc) (k n : Nat), xO X.E out.1 o ∧ t.status = .running ∧ Ended t below o ∧ s.WarmedH t.vm ∧ s.sameButNew ({ t with vm := s.vm } : State) L k n ∧ (∀ q ∈ L, xA X.E q.base) ∧
    k + out.2.2.1 = R.cells ∧ n + out.2.2.2 = R.slots ∧ va_S (xA X.E) s.heap t.heap L ∧ t.heap.size = X.E.1 + out.2.1.length ∧ va_P X.D X.cl (xrh X.E X.dA out.2.1) t.heap
def xEnd (X : xFix) (R : Room) (s : State) (below : List Frame) (out : (Nat × xv) × xh × Nat × Nat) : State → Prop := fun t => (out.1.1 = 9 ∧ X.Z R s below t) ∨ (out.1.1 ≠ 9 ∧ xEnd0 X R s below out t)
theorem xEnd.old {X : xFix} {R : Room} {s : State} {below : List Frame} {out : (Nat × xv) × xh × Nat × Nat} {t : State} (h : xEnd X R s below out t) (h9 : out.1.1 ≠ 9) : xEnd0 X R s below out t := by
  rcases h with h | h
  · exact absurd h.1 h9
  · exact h.2
/-- the pc of row i -/
def xpc (C i : Nat) : Nat := xrp (xrow C i)
/-- method j, its code's number C -/
def xMe (X : xFix) (j C : Nat) (y : MethodName) (cb : ByteArray) (maxL : Nat) (ret : Option FieldType) (hs : List (Nat × Nat × Nat × Nat)) : Prop := X.Mi[j]? = some (y, cb, maxL, ret, hs) ∧ ∃ na, X.P.1[j]? = some (na, C) ∧ na / 256 = maxL
/-- what the recursion gives -/
def xIH (X : xFix) (ih : xrec) : Prop := ∀ (C i : Nat) (lv : xl) (st : List xv) (hp : xh) (bc bs d : Nat) (out : (Nat × xv) × xh × Nat × Nat), ih C i lv st hp bc bs d = some out →
  ∀ (j : Nat) (y : MethodName) (cb : ByteArray) (maxL : Nat) (ret : Option FieldType) (hs : List (Nat × Nat × Nat × Nat)), xMe X j C y cb maxL ret hs →
  ∀ (p : Program) (l : Launch) (e : Env) (R : Room) (s : State) (m : MethodId) (args : Array Value) (below : List Frame) (meth : Method) (c : Code) (H : Heap) (locs : List Loc) (cells slots : Nat) (ls : Array Slot),
    xF p e s m meth c y cb maxL ret hs → xS X s → xN X R s H locs cells slots ls maxL lv hp bc bs d → W p l e R s m args below meth c H locs cells slots (xEnd X R s below out) (F0 m (xpc C i) ls (st.map (xr X.E)))
