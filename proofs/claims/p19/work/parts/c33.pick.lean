noncomputable section XNC
/-! Words picked by their places, and the validity of a method's rows out of them. -/
def xgoodb (w : Cond) : Bool := (w.onTables && w.keeps) || (match w with
  | .arrayClass _ => true
  | .fieldLinkNest _ _ _ _ _ _ => true
  | .methodLinkNest _ _ _ _ => true
  | .declares _ => true
  | .castable _ _ => true
  | _ => false)
theorem xgoodb_of {w : Cond} (h : xgoodb w = true) : xgood w := by
  unfold xgoodb at h
  rw [Bool.or_eq_true] at h
  rcases h with h | h
  · exact Or.inl h
  · split at h
    · exact Or.inr (Or.inl ⟨_, rfl⟩)
    · exact Or.inr (Or.inr (Or.inl ⟨_, _, _, _, _, _, rfl⟩))
    · exact Or.inr (Or.inr (Or.inr (Or.inl ⟨_, _, _, _, rfl⟩)))
    · exact Or.inr (Or.inr (Or.inr (Or.inr (Or.inl ⟨_, rfl⟩))))
    · exact Or.inr (Or.inr (Or.inr (Or.inr (Or.inr (Or.inl ⟨_, _, rfl⟩)))))
    · cases h
/-- the words of a run -/
def xnw : Cond := .not (.castable "java/lang/IllegalStateException" "java/lang/IllegalArgumentException")
def xWs : List Cond := xnw :: lw_tbl.filter xgoodb
def xnt {α : Type} : List α → Nat → Option α
  | [], _ => none
  | a :: _, 0 => some a
  | _ :: r, n + 1 => xnt r n
theorem xnt_eq {α : Type} (l : List α) (n : Nat) : xnt l n = l[n]? := by
  induction l generalizing n with
  | nil => rfl
  | cons a r ih => cases n with
    | zero => rfl
    | succ m => simp only [xnt, ih]; rfl
def xpk (L : List Cond) : List Nat → List Cond → (List Cond → Bool) → Bool
  | [], acc, k => k acc
  | i :: r, acc, k => match xnt L i with
    | some w => cond (xgoodb w) (xpk L r (w :: acc) k) (xpk L r acc k)
    | none => false
theorem xpk_of {L : List Cond} {k : List Cond → Bool} : ∀ (I : List Nat) (acc : List Cond), (∀ w ∈ acc, w ∈ xnw :: L.filter xgoodb) → xpk L I acc k = true → ∃ Ws, (∀ w ∈ Ws, w ∈ xnw :: L.filter xgoodb) ∧ k Ws = true := by
  intro I
  induction I with
  | nil => intro acc ha h; exact ⟨acc, ha, h⟩
  | cons i r ih =>
    intro acc ha h
    simp only [xpk, xnt_eq] at h
    cases hw : L[i]? with
    | none => simp only [hw] at h; cases h
    | some w =>
      simp only [hw] at h
      cases hg : xgoodb w with
      | false => rw [hg] at h; exact ih acc ha h
      | true =>
        rw [hg] at h
        refine ih (w :: acc) (fun q hq => ?_) h
        rcases List.mem_cons.mp hq with rfl | hq
        · exact List.mem_cons_of_mem _ (List.mem_filter.mpr ⟨List.mem_of_getElem? hw, hg⟩)
        · exact ha q hq
/-- words by the gaps between their places: one walk through the tables -/
def xdr : List Cond → Nat → List Cond
  | [], _ => []
  | a :: r, 0 => a :: r
  | _ :: r, n + 1 => xdr r n
theorem xdr_mem {L : List Cond} {n : Nat} {w : Cond} (h : w ∈ xdr L n) : w ∈ L := by
  induction L generalizing n with
  | nil => exact h
  | cons a r ih => cases n with
    | zero => exact h
    | succ m => exact List.mem_cons_of_mem _ (ih (n := m) h)
def xpd : List Nat → List Cond → List Cond → (List Cond → Bool) → Bool
  | [], _, acc, k => k acc
  | g :: r, L, acc, k => match xdr L g with
    | w :: L2 => cond (xgoodb w) (xpd r L2 (w :: acc) k) (xpd r L2 acc k)
    | [] => false
theorem xpd_of {L0 : List Cond} {k : List Cond → Bool} : ∀ (I : List Nat) (L acc : List Cond), (∀ w ∈ L, w ∈ L0) → (∀ w ∈ acc, w ∈ xnw :: L0.filter xgoodb) → xpd I L acc k = true → ∃ Ws, (∀ w ∈ Ws, w ∈ xnw :: L0.filter xgoodb) ∧ k Ws = true := by
  intro I
  induction I with
  | nil => intro L acc hL ha h; exact ⟨acc, ha, h⟩
  | cons g r ih =>
    intro L acc hL ha h
    simp only [xpd] at h
    cases hw : xdr L g with
    | nil => simp only [hw] at h; cases h
    | cons w L2 =>
      simp only [hw] at h
      have hm : ∀ q ∈ w :: L2, q ∈ L0 := fun q hq => hL q (xdr_mem (by rw [hw]; exact hq))
      have h2 : ∀ q ∈ L2, q ∈ L0 := fun q hq => hm q (List.mem_cons_of_mem _ hq)
      cases hg : xgoodb w with
      | false => rw [hg] at h; exact ih L2 acc h2 ha h
      | true =>
        rw [hg] at h
        refine ih L2 (w :: acc) h2 (fun q hq => ?_) h
        rcases List.mem_cons.mp hq with rfl | hq
        · exact List.mem_cons_of_mem _ (List.mem_filter.mpr ⟨hm _ List.mem_cons_self, hg⟩)
        · exact ha q hq
/-- words out of the tables' pieces -/
def xpieces : List (List Cond) := [k2_sels lw_privs, tables_1_1, tables_1_2, tables_1_3, tables_1_4, tables_1_5, tables_1_6, tables_1_7, tables_1_8]
def xpiece (n : Nat) : List Cond := match xnt xpieces n with
  | some L => L
  | none => []
theorem xpieces_mem : ∀ L ∈ xpieces, ∀ w ∈ L, w ∈ lw_tbl := by
  intro L hL w hw
  show w ∈ k2_sels lw_privs ++ (tables_1_1 ++ (tables_1_2 ++ (tables_1_3 ++ (tables_1_4 ++ (tables_1_5 ++ (tables_1_6 ++ (tables_1_7 ++ (tables_1_8))))))))
  simp only [xpieces, List.mem_cons, List.not_mem_nil, or_false] at hL
  rcases hL with rfl | rfl | rfl | rfl | rfl | rfl | rfl | rfl | rfl
  · exact List.mem_append_left _ hw
  · exact List.mem_append_right _ (List.mem_append_left _ hw)
  · exact List.mem_append_right _ (List.mem_append_right _ (List.mem_append_left _ hw))
  · exact List.mem_append_right _ (List.mem_append_right _ (List.mem_append_right _ (List.mem_append_left _ hw)))
  · exact List.mem_append_right _ (List.mem_append_right _ (List.mem_append_right _ (List.mem_append_right _ (List.mem_append_left _ hw))))
  · exact List.mem_append_right _ (List.mem_append_right _ (List.mem_append_right _ (List.mem_append_right _ (List.mem_append_right _ (List.mem_append_left _ hw)))))
  · exact List.mem_append_right _ (List.mem_append_right _ (List.mem_append_right _ (List.mem_append_right _ (List.mem_append_right _ (List.mem_append_right _ (List.mem_append_left _ hw))))))
  · exact List.mem_append_right _ (List.mem_append_right _ (List.mem_append_right _ (List.mem_append_right _ (List.mem_append_right _ (List.mem_append_right _ (List.mem_append_right _ (List.mem_append_left _ hw)))))))
  · exact List.mem_append_right _ (List.mem_append_right _ (List.mem_append_right _ (List.mem_append_right _ (List.mem_append_right _ (List.mem_append_right _ (List.mem_append_right _ (List.mem_append_right _ hw)))))))
theorem xpiece_mem (n : Nat) : ∀ w ∈ xpiece n, w ∈ lw_tbl := by
  intro w hw
  unfold xpiece at hw
  rw [xnt_eq] at hw
  cases hL : xpieces[n]? with
  | none => rw [hL] at hw; cases hw
  | some L => rw [hL] at hw; exact xpieces_mem L (List.mem_of_getElem? hL) w hw
def xpp : List (Nat × List Nat) → List Cond → (List Cond → Bool) → Bool
  | [], acc, k => k acc
  | q :: r, acc, k => xpd q.2 (xpiece q.1) acc (fun a => xpp r a k)
theorem xpp_of {k : List Cond → Bool} : ∀ (I : List (Nat × List Nat)) (acc : List Cond), (∀ w ∈ acc, w ∈ xnw :: lw_tbl.filter xgoodb) → xpp I acc k = true → ∃ Ws, (∀ w ∈ Ws, w ∈ xnw :: lw_tbl.filter xgoodb) ∧ k Ws = true := by
  intro I
  induction I with
  | nil => intro acc ha h; exact ⟨acc, ha, h⟩
  | cons q r ih =>
    intro acc ha h
    simp only [xpp] at h
    obtain ⟨W, hW, h2⟩ := xpd_of q.2 (xpiece q.1) acc (xpiece_mem q.1) ha h
    exact ih W hW h2
theorem xmo {Ws Ws2 : List Cond} (hm : ∀ w ∈ Ws, w ∈ Ws2) {w : Cond} (h : decide (w ∈ Ws) = true) : decide (w ∈ Ws2) = true := decide_eq_true (hm w (of_decide_eq_true h))
theorem xam {a b a' b' : Bool} (h1 : a = true → a' = true) (h2 : b = true → b' = true) (h : (a && b) = true) : (a' && b') = true := by
  rw [Bool.and_eq_true] at h ⊢
  exact ⟨h1 h.1, h2 h.2⟩
theorem xom {a b a' b' : Bool} (h1 : a = true → a' = true) (h2 : b = true → b' = true) (h : (a || b) = true) : (a' || b') = true := by
  rw [Bool.or_eq_true] at h ⊢
  exact h.imp h1 h2
theorem xlm {l : List Cond} {f g : Cond → Bool} (h1 : ∀ q, f q = true → g q = true) (h : l.all f = true) : l.all g = true := by
  rw [List.all_eq_true] at h ⊢
  exact fun q hq => h1 q (h q hq)
theorem xm0 {Ws Ws2 : List Cond} (hm : ∀ w ∈ Ws, w ∈ Ws2) {cb : ByteArray} {own : String} {C i : Nat} : xv0 cb Ws own C i = true → xv0 cb Ws2 own C i = true := by
  unfold xv0; repeat' (first | exact id | exact xmo hm | apply xam | apply xom | (apply xlm; intro _) | split)
theorem xmlk {Ws Ws2 : List Cond} (hm : ∀ w ∈ Ws, w ∈ Ws2) {own : String} {b : Bool} {i : Nat} {q : String × String × String × Bool} : xlk Ws own b i q = true → xlk Ws2 own b i q = true := by
  unfold xlk; repeat' (first | exact id | exact xmo hm | apply xam | apply xom | (apply xlm; intro _) | split)
theorem xm10 {Ws Ws2 : List Cond} (hm : ∀ w ∈ Ws, w ∈ Ws2) {cb : ByteArray} {cl : List vw_C} {own : String} {C i : Nat} : xv10 cb Ws cl own C i = true → xv10 cb Ws2 cl own C i = true := by
  unfold xv10; repeat' (first | exact id | exact xmo hm | exact xmlk hm | apply xam | split)
theorem xm11 {Ws Ws2 : List Cond} (hm : ∀ w ∈ Ws, w ∈ Ws2) {cb : ByteArray} {cl : List vw_C} {own nm : String} {C i : Nat} : xv11 cb Ws cl own nm C i = true → xv11 cb Ws2 cl own nm C i = true := by
  unfold xv11; repeat' (first | exact id | exact xmo hm | exact xmlk hm | apply xam | split)
theorem xm12 {Ws Ws2 : List Cond} (hm : ∀ w ∈ Ws, w ∈ Ws2) {cb : ByteArray} {cl : List vw_C} {Cl : List (Nat × List xv)} {own : String} {C i : Nat} : xv12 cb Ws cl Cl own C i = true → xv12 cb Ws2 cl Cl own C i = true := by
  unfold xv12; repeat' (first | exact id | exact xmo hm | apply xam | apply xom | (apply xlm; intro _) | split)
theorem xm13 {Ws Ws2 : List Cond} (hm : ∀ w ∈ Ws, w ∈ Ws2) {cb : ByteArray} {C i : Nat} : xv13 cb Ws C i = true → xv13 cb Ws2 C i = true := by
  unfold xv13; repeat' (first | exact id | exact xmo hm | apply xam | apply xom | (apply xlm; intro _) | split)
theorem xmhr {Ws Ws2 : List Cond} (hm : ∀ w ∈ Ws, w ∈ Ws2) {cb : ByteArray} {cl : List vw_C} {own : String} {hs : List (Nat × Nat × Nat × Nat)} {C i : Nat} : xhr cb Ws cl own hs C i = true → xhr cb Ws2 cl own hs C i = true := by
  unfold xhr; repeat' (first | exact id | exact xmo hm | apply xam | apply xom | (apply xlm; intro _) | split)
theorem xmhr2 {Ws Ws2 : List Cond} (hm : ∀ w ∈ Ws, w ∈ Ws2) {cl : List vw_C} {own : String} {hs : List (Nat × Nat × Nat × Nat)} {C i : Nat} : xhr2 Ws cl own hs C i = true → xhr2 Ws2 cl own hs C i = true := by
  unfold xhr2; repeat' (first | exact id | exact xmo hm | apply xam | apply xom | (apply xlm; intro _) | split)
theorem xm17 {Ws Ws2 : List Cond} (hm : ∀ w ∈ Ws, w ∈ Ws2) {cb : ByteArray} {cl : List vw_C} {Mi : List (MethodName × ByteArray × Nat × Option FieldType × List (Nat × Nat × Nat × Nat))} {P1 : List (Nat × Nat)} {own : String} {hs : List (Nat × Nat × Nat × Nat)} {C i : Nat} : xv17 cb Ws cl Mi P1 own hs C i = true → xv17 cb Ws2 cl Mi P1 own hs C i = true := by
  unfold xv17; repeat' (first | exact id | exact xmo hm | exact xmhr hm | exact xmhr2 hm | apply xam | split)
theorem xm19 {Ws Ws2 : List Cond} (hm : ∀ w ∈ Ws, w ∈ Ws2) {cb : ByteArray} {cl : List vw_C} {own : String} {hs : List (Nat × Nat × Nat × Nat)} {C i : Nat} : xv19 cb Ws cl own hs C i = true → xv19 cb Ws2 cl own hs C i = true := by
  unfold xv19; repeat' (first | exact id | exact xmo hm | apply xam | apply xom | (apply xlm; intro _) | split)
theorem xm20 {Ws Ws2 : List Cond} (hm : ∀ w ∈ Ws, w ∈ Ws2) {cb : ByteArray} {own : String} {C i : Nat} : xv20 cb Ws own C i = true → xv20 cb Ws2 own C i = true := by
  unfold xv20; repeat' (first | exact id | exact xmo hm | apply xam | apply xom | (apply xlm; intro _) | split)
theorem xm22 {Ws Ws2 : List Cond} (hm : ∀ w ∈ Ws, w ∈ Ws2) {cb : ByteArray} {own : String} {C i : Nat} : xv22 cb Ws own C i = true → xv22 cb Ws2 own C i = true := by
  unfold xv22; repeat' (first | exact id | exact xmo hm | apply xam | apply xom | (apply xlm; intro _) | split)
theorem xm24 {Ws Ws2 : List Cond} (hm : ∀ w ∈ Ws, w ∈ Ws2) {cb : ByteArray} {own : String} {C i : Nat} : xv24 cb Ws own C i = true → xv24 cb Ws2 own C i = true := by
  unfold xv24; repeat' (first | exact id | exact xmo hm | apply xam | apply xom | (apply xlm; intro _) | split)
theorem xm25 {Ws Ws2 : List Cond} (hm : ∀ w ∈ Ws, w ∈ Ws2) {cb : ByteArray} {own : String} {C i : Nat} : xv25 cb Ws own C i = true → xv25 cb Ws2 own C i = true := by
  unfold xv25; repeat' (first | exact id | exact xmo hm | apply xam | apply xom | (apply xlm; intro _) | split)
theorem xval_mono {Ws Ws2 : List Cond} (hm : ∀ w ∈ Ws, w ∈ Ws2) {cl : List vw_C} {Cl : List (Nat × List xv)} {Mi : List (MethodName × ByteArray × Nat × Option FieldType × List (Nat × Nat × Nat × Nat))} {P1 : List (Nat × Nat)} {Sn : List (String × Nat × String)} {Sw : List (List Nat)} {own nm : String} {cb : ByteArray} {maxL : Nat} {ret : Option FieldType} {hs : List (Nat × Nat × Nat × Nat)} {C i : Nat} :
    xval Ws cl Cl Mi P1 Sn Sw own nm cb maxL ret hs C i = true → xval Ws2 cl Cl Mi P1 Sn Sw own nm cb maxL ret hs C i = true := by
  unfold xval
  split
  all_goals first | exact id | exact xm0 hm | exact xm10 hm | exact xm11 hm | exact xm12 hm | exact xm13 hm | exact xm17 hm | exact xm19 hm | exact xm20 hm | exact xm22 hm | exact xm24 hm | exact xm25 hm
def xvl (f : Nat → Bool) : Nat → Bool
  | 0 => true
  | n + 1 => f n && xvl f n
theorem xvl_of {f : Nat → Bool} : ∀ n, xvl f n = true → ∀ i, i < n → f i = true := by
  intro n
  induction n with
  | zero => intro _ i hi; cases hi
  | succ n ih =>
    intro h i hi
    simp only [xvl, Bool.and_eq_true] at h
    by_cases e : i = n
    · subst e; exact h.1
    · exact ih h.2 i (by omega)
theorem xrow_end {C n i : Nat} (h : C < 2 ^ (144 * n)) (hi : n ≤ i) : xrow C i = 0 := by
  have h1 : Nat.shiftRight C (144 * i) = 0 := by
    show C >>> (144 * i) = 0
    rw [Nat.shiftRight_eq_div_pow]
    exact Nat.div_eq_of_lt (Nat.lt_of_lt_of_le h (Nat.pow_le_pow_right (by decide) (by omega)))
  unfold xrow
  rw [h1]
  exact Nat.zero_and _
def xv17q (cb : ByteArray) (Ws : List Cond) (cl : List vw_C) (Mi : List (MethodName × ByteArray × Nat × Option FieldType × List (Nat × Nat × Nat × Nat))) (P1 : List (Nat × Nat)) (own : String) (hs : List (Nat × Nat × Nat × Nat)) (C i : Nat) : Bool := match Mi[xrv (xrow C i)]?, P1[xrv (xrow C i)]? with
  | some (y2, cb2, maxL2, ret2, hs2), some (na, C2) => xnx C i 3 && (xhr cb Ws cl own hs C i && (xhr2 Ws cl own hs C i && (Nat.blt (xrv (xrow C i)) 280 && (xpl y2 && (Nat.ble maxL2 37 && (Nat.beq (xpc C2 0) 0 && (Nat.beq (na / 256) maxL2 && (decide (y2.cls ≠ "java/lang/invoke/MethodHandle" ∧ y2.cls ≠ "java/lang/invoke/VarHandle") &&
    (match xrb (xrow C i) with
    | 0 => xd cb (xpc C i) (.invokevirtual (xra (xrow C i))) 3 && (decide (Cond.methodLink own (xra (xrow C i)) y2 ∈ Ws) && (decide (Cond.instanceMethod y2 ∈ Ws) && (decide (Cond.selects y2.cls y2 y2 ∈ Ws) && (decide ((parseMethodDescriptor y2.desc).map (fun d => d.parameters.length + 1) = some (na % 256)) && (match cl[xru (xrow C i) % 65536]? with
      | some (Cn, _, _) => decide (Cn = y2.cls) && Nat.blt (xru (xrow C i) % 65536) 100
      | none => decide (y2.cls = "java/lang/String"))))))
    | 1 => xd cb (xpc C i) (.invokespecial (xra (xrow C i))) 3 && (decide (Cond.methodLink own (xra (xrow C i)) y2 ∈ Ws) && (decide (Cond.instanceMethod y2 ∈ Ws) && (decide (y2.name = "<init>") && (decide (hs2 = []) && (decide (ret2 = none) && decide ((parseMethodDescriptor y2.desc).map (fun d => d.parameters.length + 1) = some (na % 256)))))))
    | 5 => xd cb (xpc C i) (.invokespecial (xra (xrow C i))) 3 && (decide (Cond.methodLinkNest own (xra (xrow C i)) y2 "ProxyForge" ∈ Ws) && (decide (Cond.instanceMethod y2 ∈ Ws) && (decide (y2.name = "<init>") && (decide (hs2 = []) && (decide (ret2 = none) && decide ((parseMethodDescriptor y2.desc).map (fun d => d.parameters.length + 1) = some (na % 256)))))))
    | 2 => xd cb (xpc C i) (.invokestatic (xra (xrow C i))) 3 && (decide (Cond.methodLink own (xra (xrow C i)) y2 ∈ Ws) && (decide (Cond.static y2 ∈ Ws) && (decide (Cond.initialized y2.cls ∈ Ws) && decide ((parseMethodDescriptor y2.desc).map (fun d => d.parameters.length) = some (na % 256)))))
    | _ => false)))))))))
  | _, _ => false
def xcwe9 (e : (MethodName × ByteArray × Nat × Option FieldType × List (Nat × Nat × Nat × Nat))) : Cond := xcw e.1 e.2.1 e.2.2.1 e.2.2.2.1 e.2.2.2.2
theorem xm17q {Ws Ws2 : List Cond} (hm : ∀ w ∈ Ws, w ∈ Ws2) {cb : ByteArray} {cl : List vw_C} {Mi : List (MethodName × ByteArray × Nat × Option FieldType × List (Nat × Nat × Nat × Nat))} {P1 : List (Nat × Nat)} {own : String} {hs : List (Nat × Nat × Nat × Nat)} {C i : Nat} : xv17q cb Ws cl Mi P1 own hs C i = true → xv17q cb Ws2 cl Mi P1 own hs C i = true := by
  unfold xv17q; repeat' (first | exact id | exact xmo hm | exact xmhr hm | exact xmhr2 hm | apply xam | split)
theorem xand4 {a b c d e r : Bool} (h : (a && (b && (c && (d && r)))) = true) (h2 : e = true) : (a && (b && (c && (e && r)))) = true := by
  rw [Bool.and_eq_true, Bool.and_eq_true, Bool.and_eq_true, Bool.and_eq_true] at h ⊢
  exact ⟨h.1, h.2.1, h.2.2.1, h2, h.2.2.2.2⟩
theorem xand4d {a b c d r : Bool} (h : (a && (b && (c && (d && r)))) = true) : d = true := by
  rw [Bool.and_eq_true, Bool.and_eq_true, Bool.and_eq_true, Bool.and_eq_true] at h
  exact h.2.2.2.1
theorem xv17_of9 {Ws : List Cond} {cb : ByteArray} {cl : List vw_C} {Mi : List (MethodName × ByteArray × Nat × Option FieldType × List (Nat × Nat × Nat × Nat))} {P1 : List (Nat × Nat)} {own : String} {hs : List (Nat × Nat × Nat × Nat)} {C i : Nat} (hc : ∀ v, v < 280 → ∀ q, Mi[v]? = some q → xcwe9 q ∈ Ws) (h : xv17q cb Ws cl Mi P1 own hs C i = true) : xv17 cb Ws cl Mi P1 own hs C i = true := by
  unfold xv17q at h
  unfold xv17
  cases e1 : Mi[xrv (xrow C i)]? with
  | none => rw [e1] at h; exact absurd h Bool.false_ne_true
  | some q =>
    obtain ⟨y2, cb2, maxL2, ret2, hs2⟩ := q
    cases e2 : P1[xrv (xrow C i)]? with
    | none => rw [e1, e2] at h; exact absurd h Bool.false_ne_true
    | some r =>
      obtain ⟨na, C2⟩ := r
      rw [e1, e2] at h
      exact xand4 h (decide_eq_true (hc _ (xblt.mp (xand4d h)) _ e1))
def xvalq (Ws : List Cond) (cl : List vw_C) (Cl : List (Nat × List xv)) (Mi : List (MethodName × ByteArray × Nat × Option FieldType × List (Nat × Nat × Nat × Nat))) (P1 : List (Nat × Nat)) (Sn : List (String × Nat × String)) (Sw : List (List Nat)) (own nm : String) (cb : ByteArray) (maxL : Nat) (ret : Option FieldType) (hs : List (Nat × Nat × Nat × Nat)) (C i : Nat) : Bool :=
  cond (Nat.beq (xrk (xrow C i)) 17) (xv17q cb Ws cl Mi P1 own hs C i) (xval Ws cl Cl Mi P1 Sn Sw own nm cb maxL ret hs C i)
theorem xvalq_of {Ws Ws2 : List Cond} (hm : ∀ w ∈ Ws, w ∈ Ws2) {cl : List vw_C} {Cl : List (Nat × List xv)} {Mi : List (MethodName × ByteArray × Nat × Option FieldType × List (Nat × Nat × Nat × Nat))} {P1 : List (Nat × Nat)} {Sn : List (String × Nat × String)} {Sw : List (List Nat)} {own nm : String} {cb : ByteArray} {maxL : Nat} {ret : Option FieldType} {hs : List (Nat × Nat × Nat × Nat)} {C i : Nat} (hc : ∀ v, v < 280 → ∀ q, Mi[v]? = some q → xcwe9 q ∈ Ws2) (h : xvalq Ws cl Cl Mi P1 Sn Sw own nm cb maxL ret hs C i = true) : xval Ws2 cl Cl Mi P1 Sn Sw own nm cb maxL ret hs C i = true := by
  unfold xvalq at h
  cases hk : Nat.beq (xrk (xrow C i)) 17 with
  | false => rw [hk] at h; exact xval_mono hm h
  | true =>
    rw [hk] at h
    have e := xbeq.mp hk
    unfold xval
    rw [e]
    exact xv17_of9 hc (xm17q hm h)
theorem xcm9 {w : Cond} (k j : Nat) (h : xnt (xpiece k) j = some w) (hg : xgoodb w = true) : w ∈ xWs := by
  rw [xnt_eq] at h
  exact List.mem_cons_of_mem _ (List.mem_filter.mpr ⟨xpiece_mem k w (List.mem_of_getElem? h), hg⟩)
/-- all the rows of a method -/
def xvm (I : List (Nat × List Nat)) (cl : List vw_C) (Cl : List (Nat × List xv)) (Mi : List (MethodName × ByteArray × Nat × Option FieldType × List (Nat × Nat × Nat × Nat))) (P1 : List (Nat × Nat)) (Sn : List (String × Nat × String)) (Sw : List (List Nat)) (e : (MethodName × ByteArray × Nat × Option FieldType × List (Nat × Nat × Nat × Nat)) × Nat × Nat) (n : Nat) : Bool :=
  Nat.blt e.2.2 (2 ^ (144 * n)) && xpp I [xnw] (fun Ws => xvl (fun i => xvalq Ws cl Cl Mi P1 Sn Sw e.1.1.cls e.1.1.name e.1.2.1 e.1.2.2.1 e.1.2.2.2.1 e.1.2.2.2.2 e.2.2 i) n)
def xvok (cl : List vw_C) (Cl : List (Nat × List xv)) (Mi : List (MethodName × ByteArray × Nat × Option FieldType × List (Nat × Nat × Nat × Nat))) (P1 : List (Nat × Nat)) (Sn : List (String × Nat × String)) (Sw : List (List Nat)) (e : (MethodName × ByteArray × Nat × Option FieldType × List (Nat × Nat × Nat × Nat)) × Nat × Nat) : Prop :=
  ∀ i, xval xWs cl Cl Mi P1 Sn Sw e.1.1.cls e.1.1.name e.1.2.1 e.1.2.2.1 e.1.2.2.2.1 e.1.2.2.2.2 e.2.2 i = true
theorem xvm_of {I : List (Nat × List Nat)} {cl : List vw_C} {Cl : List (Nat × List xv)} {Mi : List (MethodName × ByteArray × Nat × Option FieldType × List (Nat × Nat × Nat × Nat))} {P1 : List (Nat × Nat)} {Sn : List (String × Nat × String)} {Sw : List (List Nat)} {e : (MethodName × ByteArray × Nat × Option FieldType × List (Nat × Nat × Nat × Nat)) × Nat × Nat} {n : Nat} (hc : ∀ v, v < 280 → ∀ q, Mi[v]? = some q → xcwe9 q ∈ xWs) (h : xvm I cl Cl Mi P1 Sn Sw e n = true) : xvok cl Cl Mi P1 Sn Sw e := by
  intro i
  unfold xvm at h
  rw [Bool.and_eq_true] at h
  obtain ⟨h1, h2⟩ := h
  by_cases hi : i < n
  · obtain ⟨Ws, hW, h3⟩ := xpp_of I [xnw] (fun w hw => by rw [List.mem_singleton.mp hw]; exact List.mem_cons_self) h2
    exact xvalq_of hW hc (xvl_of n h3 i hi)
  · have h4 := xrow_end (xblt.mp h1) (Nat.le_of_not_lt hi)
    unfold xval
    rw [h4]
    rfl
/-- rows a .. a + n of a method -/
def xvm2 (I : List (Nat × List Nat)) (cl : List vw_C) (Cl : List (Nat × List xv)) (Mi : List (MethodName × ByteArray × Nat × Option FieldType × List (Nat × Nat × Nat × Nat))) (P1 : List (Nat × Nat)) (Sn : List (String × Nat × String)) (Sw : List (List Nat)) (e : (MethodName × ByteArray × Nat × Option FieldType × List (Nat × Nat × Nat × Nat)) × Nat × Nat) (a n : Nat) : Bool :=
  xpp I [xnw] (fun Ws => xvl (fun i => xvalq Ws cl Cl Mi P1 Sn Sw e.1.1.cls e.1.1.name e.1.2.1 e.1.2.2.1 e.1.2.2.2.1 e.1.2.2.2.2 e.2.2 (Nat.add a i)) n)
def xvr (cl : List vw_C) (Cl : List (Nat × List xv)) (Mi : List (MethodName × ByteArray × Nat × Option FieldType × List (Nat × Nat × Nat × Nat))) (P1 : List (Nat × Nat)) (Sn : List (String × Nat × String)) (Sw : List (List Nat)) (e : (MethodName × ByteArray × Nat × Option FieldType × List (Nat × Nat × Nat × Nat)) × Nat × Nat) (a b : Nat) : Prop :=
  ∀ i, a ≤ i → i < b → xval xWs cl Cl Mi P1 Sn Sw e.1.1.cls e.1.1.name e.1.2.1 e.1.2.2.1 e.1.2.2.2.1 e.1.2.2.2.2 e.2.2 i = true
theorem xvm2_of {I : List (Nat × List Nat)} {cl : List vw_C} {Cl : List (Nat × List xv)} {Mi : List (MethodName × ByteArray × Nat × Option FieldType × List (Nat × Nat × Nat × Nat))} {P1 : List (Nat × Nat)} {Sn : List (String × Nat × String)} {Sw : List (List Nat)} {e : (MethodName × ByteArray × Nat × Option FieldType × List (Nat × Nat × Nat × Nat)) × Nat × Nat} {a n b : Nat} (hb : a + n = b) (hc : ∀ v, v < 280 → ∀ q, Mi[v]? = some q → xcwe9 q ∈ xWs) (h : xvm2 I cl Cl Mi P1 Sn Sw e a n = true) : xvr cl Cl Mi P1 Sn Sw e a b := by
  intro i h1 h2
  unfold xvm2 at h
  obtain ⟨Ws, hW, h3⟩ := xpp_of I [xnw] (fun w hw => by rw [List.mem_singleton.mp hw]; exact List.mem_cons_self) h
  have h4 := xvl_of n h3 (i - a) (by omega)
  have e9 : Nat.add a (i - a) = i := by show a + (i - a) = i; omega
  rw [e9] at h4
  exact xvalq_of hW hc h4
theorem xvr.add {cl : List vw_C} {Cl : List (Nat × List xv)} {Mi : List (MethodName × ByteArray × Nat × Option FieldType × List (Nat × Nat × Nat × Nat))} {P1 : List (Nat × Nat)} {Sn : List (String × Nat × String)} {Sw : List (List Nat)} {e : (MethodName × ByteArray × Nat × Option FieldType × List (Nat × Nat × Nat × Nat)) × Nat × Nat} {a b c : Nat} (h1 : xvr cl Cl Mi P1 Sn Sw e a b) (h2 : xvr cl Cl Mi P1 Sn Sw e b c) : xvr cl Cl Mi P1 Sn Sw e a c := by
  intro i ha hc
  by_cases hb : i < b
  · exact h1 i ha hb
  · exact h2 i (by omega) hc
theorem xvr.ok {cl : List vw_C} {Cl : List (Nat × List xv)} {Mi : List (MethodName × ByteArray × Nat × Option FieldType × List (Nat × Nat × Nat × Nat))} {P1 : List (Nat × Nat)} {Sn : List (String × Nat × String)} {Sw : List (List Nat)} {e : (MethodName × ByteArray × Nat × Option FieldType × List (Nat × Nat × Nat × Nat)) × Nat × Nat} {n : Nat} (h1 : Nat.blt e.2.2 (2 ^ (144 * n)) = true) (h2 : xvr cl Cl Mi P1 Sn Sw e 0 n) : xvok cl Cl Mi P1 Sn Sw e := by
  intro i
  by_cases hi : i < n
  · exact h2 i (Nat.zero_le _) hi
  · have h4 := xrow_end (xblt.mp h1) (Nat.le_of_not_lt hi)
    unfold xval
    rw [h4]
    rfl
end XNC
