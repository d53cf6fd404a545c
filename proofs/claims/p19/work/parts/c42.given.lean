noncomputable section XNC
/-! What the Statement gives at the law's entry, as the own machine wants it. -/
theorem xWd_of {Ws : List Cond} {s : State} {A : Array Value} (hg : ∀ w ∈ Ws, xgood w) (h : ∀ w ∈ Ws, w.before A s = true) : xWd Ws s := by
  have hW : s.WarmedH s.vm := State.WarmedH.refl s
  intro w hw a
  rcases hg w hw with h1 | h1 | ⟨x1, x2, x3, x4, x5, x6, rfl⟩ | ⟨x1, x2, x3, x4, rfl⟩ | ⟨x1, rfl⟩ | ⟨x1, x2, rfl⟩ | ⟨x1, x2, rfl⟩
  · exact word_at hW (Or.inl h1) (h w hw)
  · exact word_at hW (Or.inr h1) (h w hw)
  · exact va_Nw.use rfl (va_Nw.warmF hW (h _ hw))
  · exact va_Nw.use rfl (va_Nw.warmM hW (h _ hw))
  · exact va_Nw.use rfl (va_Nw.warmD hW (h _ hw))
  · obtain ⟨c1, c2, q1, q2, q3⟩ := Cond.castable_spec (h _ hw)
    simp [Cond.before, Cond.holds, Cond.value, q1, q2, q3]
  · obtain ⟨c1, c2, q1, q2, q3⟩ := xnoc (h _ hw)
    exact xnoc_of q1 q2 q3
theorem xscript {b L : Nat} {xs : Nat → Int32} {s : State} {H : Heap} (hL : L ≤ 5120) (h : va_X b L xs s H) : va_X b L (xai xs) s H := by
  obtain ⟨scr, h1, h2, h3, h4, h5⟩ := h
  exact ⟨scr, h1, h2, h3, h4, fun j hj => by rw [xai_0 (by omega)]; exact h5 j hj⟩
theorem xarrs {s : State} {A : Array Value} (h4 : (Cond.arrayClass .boolean).before A s = true) (h8 : (Cond.arrayClass .byte).before A s = true) (h10 : (Cond.arrayClass .int).before A s = true) (h11 : (Cond.arrayClass .long).before A s = true) :
    ∃ dA : Nat → ClassId, ∀ (k : Nat) (q : ClassId × FieldType), (xty dA)[k]? = some q → ArrOfT s q.1 q.2 ∧ va_RA s q.1 q.2 := by
  obtain ⟨c4, k4, d4, p1, p2, p3⟩ := Cond.arrayClass_spec h4
  obtain ⟨c8, k8, d8, p4, p5, p6⟩ := Cond.arrayClass_spec h8
  obtain ⟨c10, k10, d10, p7, p8, p9⟩ := Cond.arrayClass_spec h10
  obtain ⟨c11, k11, d11, p10, p11, p12⟩ := Cond.arrayClass_spec h11
  refine ⟨fun k => if k = 4 then c4 else if k = 8 then c8 else if k = 10 then c10 else c11, fun k q hq => ?_⟩
  have hm := List.mem_of_getElem? hq
  simp only [xty, List.mem_cons, List.not_mem_nil, or_false] at hm
  rcases hm with rfl | rfl | rfl | rfl
  · exact ⟨fun n z => ⟨fun k h => (by cases h), k4, p2, d4, p3⟩, p1⟩
  · exact ⟨fun n z => ⟨fun k h => (by cases h), k8, p5, d8, p6⟩, p4⟩
  · exact ⟨fun n z => ⟨fun k h => (by cases h), k10, p8, d10, p9⟩, p7⟩
  · exact ⟨fun n z => ⟨fun k h => (by cases h), k11, p11, d11, p12⟩, p10⟩
theorem xcls_D {s : State} {A : Array Value} (hn9 : xnw.before A s = true) (hts : ∀ w ∈ lw_tbl, w.before A s = true) (hi : ∀ q ∈ xcls, ∃ n, Cond.instantiable q.1 n ∈ lw_tbl) : ∃ D : va_G, ∀ (c : Nat) (q : vw_C), xcls[c]? = some q → u_Kn s q.1 q.2.1 q.2.2 (D.1 c) (D.2 c) := by
  have h : ∀ c : Nat, ∃ d : ClassId × (Nat → Nat), ∀ q : vw_C, xcls[c]? = some q → u_Kn s q.1 q.2.1 q.2.2 d.1 d.2 := by
    intro c
    cases hq : xcls[c]? with
    | none => exact ⟨(0, fun _ => 0), fun q h => by cases h⟩
    | some q =>
      have hm := List.mem_of_getElem? hq
      obtain ⟨n, hn⟩ := hi q hm
      obtain ⟨cC, iS, hk⟩ := u_known (ws := xWs) (C := q.1) (T := q.2.1) (N := q.2.2) (fun w hw => by
        rcases List.mem_cons.mp hw with e9 | h9
        · rw [e9]; exact hn9
        · exact hts w (List.mem_filter.mp h9).1) (xk_all q hm).1 (hts _ hn)
      exact ⟨(cC, iS), fun q2 h2 => by cases h2; exact hk⟩
  obtain ⟨d, hd⟩ := Classical.axiomOfChoice h
  exact ⟨(fun c => (d c).1, fun c => (d c).2), fun c q hq => hd c q hq⟩
/-- words by their places in the tables -/
def xwi : List Nat → List Cond → Bool
  | i :: I, w :: S => decide (xnt lw_tbl i = some w) && xwi I S
  | _, [] => true
  | _, _ => false
theorem xwi_of {I : List Nat} {S : List Cond} (h : xwi I S = true) : ∀ w ∈ S, w ∈ lw_tbl := by
  induction S generalizing I with
  | nil => intro w hw; cases hw
  | cons a S ih =>
    cases I with
    | nil => cases h
    | cons i I =>
      have h : (decide (xnt lw_tbl i = some a) && xwi I S) = true := h
      rw [Bool.and_eq_true, decide_eq_true_eq, xnt_eq] at h
      intro w hw
      rcases List.mem_cons.mp hw with rfl | hw
      · exact List.mem_of_getElem? h.1
      · exact ih h.2 w hw
/-- one list within another, in its order -/
def xsub : List Cond → List Cond → Bool
  | [], _ => true
  | _ :: _, [] => false
  | a :: r, b :: s => cond (decide (a = b)) (xsub r s) (xsub (a :: r) s)
theorem xsub_of {r s : List Cond} (h : xsub r s = true) : ∀ w ∈ r, w ∈ s := by
  induction s generalizing r with
  | nil => cases r with
    | nil => intro w hw; cases hw
    | cons a r => simp only [xsub] at h; cases h
  | cons b s ih => cases r with
    | nil => intro w hw; cases hw
    | cons a r =>
      simp only [xsub] at h
      cases hd : decide (a = b) with
      | true =>
        rw [hd] at h
        have e := of_decide_eq_true hd
        intro w hw
        rcases List.mem_cons.mp hw with rfl | hw
        · rw [e]; exact List.mem_cons_self
        · exact List.mem_cons_of_mem _ (ih h w hw)
      | false =>
        rw [hd] at h
        intro w hw
        exact List.mem_cons_of_mem _ (ih h w hw)
def xsV (own : String) (k : Nat) : Term := .field (.string own k) "java/lang/String" "value" "[B"
/-- what is given of a String constant -/
def xsat (own : String) (k : Nat) (b : List Nat) : List Cond := .exactly (.string own k) "java/lang/String" :: .eq (.field (.string own k) "java/lang/String" "coder" "B") (.int 0) :: .arrayOf (xsV own k) .byte :: .eq (.length (xsV own k)) (.int (Int32.ofNat b.length)) :: b.mapIdx (fun j x => Cond.eq (.elem (xsV own k) (.int (Int32.ofNat j))) (.int (Int32.ofNat x)))
theorem xstr1 {args : Array Value} {s : State} {A : Nat → Prop} {own tx : String} {k : Nat} {b : List Nat} (hlen : b.length < 65536) (h : ∀ w ∈ xsat own k b, w.before args s = true) (hr : (Cond.stringRef own k tx).before args s = true) (hA : ∀ a : Nat, a < s.heap.size → ¬ A a) :
    ∃ q : Nat × Nat, vk_R own k tx q.1 s ∧ va_O "java/lang/String" q.1 A s s.heap ∧ va_OF "java/lang/String" "coder" "B" (.int 0) q.1 A s s.heap ∧ va_OF "java/lang/String" "value" "[B" (.ref q.2) q.1 A s s.heap ∧ va_T .byte q.2 b.length (fun j => .int (Int32.ofNat (b.getD j 0))) A s s.heap := by
  have hz : ∀ i : Nat, i < 1 → i = 0 := fun i hi => by omega
  obtain ⟨adK, adV, hS, hev⟩ := vk_Sof (args := args) (s := s) (N := 1) (tm := fun _ => .string own k) (len := [b.length]) (byt := [b.map Int32.ofNat]) (A := A)
    (fun i hi => by rw [hz i hi]; show b.length < 2 ^ 31; omega)
    (fun i hi => h _ (by unfold xsat; exact List.mem_cons_self))
    (fun i hi => h _ (by unfold xsat; exact List.mem_cons_of_mem _ List.mem_cons_self))
    (fun i hi => h _ (by unfold xsat; exact List.mem_cons_of_mem _ (List.mem_cons_of_mem _ List.mem_cons_self)))
    (fun i hi => h _ (by rw [hz i hi]; unfold xsat; exact List.mem_cons_of_mem _ (List.mem_cons_of_mem _ (List.mem_cons_of_mem _ List.mem_cons_self))))
    (fun i hi j hj => h _ (by
      rw [hz i hi] at hj ⊢
      have hj : j < b.length := hj
      unfold xsat
      refine List.mem_cons_of_mem _ (List.mem_cons_of_mem _ (List.mem_cons_of_mem _ (List.mem_cons_of_mem _ ?_)))
      refine List.mem_mapIdx.mpr ⟨j, hj, ?_⟩
      show Cond.eq _ (.int (Int32.ofNat b[j])) = Cond.eq _ (.int ((b.map Int32.ofNat).getD j 0))
      simp [List.getD, hj]
      rfl))
    (fun i j hi hj hij => absurd ((hz i hi).trans (hz j hj).symm) hij) hA
  obtain ⟨q1, q2, q3, q4⟩ := hS.1 0 (by decide)
  refine ⟨(adK 0, adV 0), vk_R.of hr (hev 0 (by decide)), q1, q2, q3, ?_⟩
  obtain ⟨cell, t1, t2, t3, t4, t5, t6, t7⟩ := q4
  refine ⟨cell, t1, t2, t3, t4, t5, fun j hj => ?_, t7⟩
  have h6 := t6 j hj
  rw [h6]
  have hj : j < b.length := hj
  show some (Value.int ((b.map Int32.ofNat).getD j 0)) = some (Value.int (Int32.ofNat (b.getD j 0)))
  simp [List.getD, hj]
theorem xLs_of {args : Array Value} {s : State} {O n d : String} {A : Nat → Prop} (h : (Cond.laysStatic O n d).before args s = true) (hA : ∀ a : Nat, a < s.heap.size → ¬ A a) : xLs O n d A s s.heap := by
  obtain ⟨c, k, i, f, a, cell, h1, h2, h3, h4, h5, h6, h7, h8, h9⟩ := Cond.laysStatic_spec h
  exact ⟨c, k, i, f, a, cell, h1, h2, h3, h4, h5, h6, h7, h8, h9, hA a (Array.getElem?_eq_some_iff.mp h5).1⟩
def xw1 : List Cond := [.laysStatic "java/lang/String" "COMPACT_STRINGS" "Z", .initialized "java/lang/String", .laysStatic "jdk/internal/util/Preconditions" "SIOOBE_FORMATTER" "Ljava/util/function/BiFunction;", .initialized "jdk/internal/util/Preconditions", .laysStatic "java/lang/Throwable" "UNASSIGNED_STACK" "[Ljava/lang/StackTraceElement;", .laysStatic "java/lang/Throwable" "SUPPRESSED_SENTINEL" "Ljava/util/List;", .initialized "java/lang/Throwable", .arrayClass .boolean, .arrayClass .byte, .arrayClass .int, .arrayClass .long, .instantiable "ProxyForge" 10, .instantiable "ProxyForge$Types" 8, .instantiable "ProxyForge$Methods" 9, .instantiable "ProxyForge$Collector" 13, .instantiable "ProxyForge$Proxy" 4, .instantiable "ProxyForge$Callback" 6, .instantiable "ProxyForge$Caller" 6, .instantiable "ProxyForge$Bytes" 2, .instantiable "ProxyForge$Writer" 16, .instantiable "ProxyForge$Pool" 6, .instantiable "ProxyForge$Reader" 6, .instantiable "ProxyForgeModel" 60, .instantiable "java/lang/IllegalArgumentException" 6, .instantiable "java/lang/IllegalStateException" 6]
theorem xw1_mem : ∀ w ∈ xw1, w ∈ lw_tbl := xwi_of (I := [763, 165, 779, 167, 860, 862, 155, 225, 437, 226, 392, 170, 178, 228, 282, 333, 361, 394, 421, 439, 447, 522, 1475, 834, 896]) (by decide +kernel)
def xw2 : List Cond := xSn.map (fun q => Cond.stringRef q.1 q.2.1 q.2.2)
theorem xw2_mem : ∀ w ∈ xw2, w ∈ lw_tbl := xwi_of (I := [741, 806, 815, 1144, 1172, 1173, 1174, 1175, 1176, 1177, 1182, 1208, 1224, 1266, 1305, 1306, 1307, 1308, 1312, 1313, 1314, 1320, 1321, 1322, 1334, 1335, 1336, 1340, 1341, 1342, 1347, 1352, 1369, 1378, 1379, 1380, 1394, 1399, 1752, 1783, 1792, 1793, 1794, 1795, 1796, 1797, 1798, 1807, 1827, 1860, 1885, 1886, 1887, 1888, 1889, 1890, 1891, 1892, 1893, 1898, 1907, 1908, 1909, 1910, 1911, 1912, 1921, 1922, 1923, 1928, 1929, 1930]) (by decide +kernel)
theorem xcls_inst : ∀ q ∈ xcls, ∃ n, Cond.instantiable q.1 n ∈ lw_tbl := List.forall_mem_cons.mpr ⟨⟨10, xw1_mem _ (List.mem_of_getElem? (i := 11) rfl)⟩, List.forall_mem_cons.mpr ⟨⟨8, xw1_mem _ (List.mem_of_getElem? (i := 12) rfl)⟩, List.forall_mem_cons.mpr ⟨⟨9, xw1_mem _ (List.mem_of_getElem? (i := 13) rfl)⟩, List.forall_mem_cons.mpr ⟨⟨13, xw1_mem _ (List.mem_of_getElem? (i := 14) rfl)⟩, List.forall_mem_cons.mpr ⟨⟨4, xw1_mem _ (List.mem_of_getElem? (i := 15) rfl)⟩, List.forall_mem_cons.mpr ⟨⟨6, xw1_mem _ (List.mem_of_getElem? (i := 16) rfl)⟩, List.forall_mem_cons.mpr ⟨⟨6, xw1_mem _ (List.mem_of_getElem? (i := 17) rfl)⟩, List.forall_mem_cons.mpr ⟨⟨2, xw1_mem _ (List.mem_of_getElem? (i := 18) rfl)⟩, List.forall_mem_cons.mpr ⟨⟨16, xw1_mem _ (List.mem_of_getElem? (i := 19) rfl)⟩, List.forall_mem_cons.mpr ⟨⟨6, xw1_mem _ (List.mem_of_getElem? (i := 20) rfl)⟩, List.forall_mem_cons.mpr ⟨⟨6, xw1_mem _ (List.mem_of_getElem? (i := 21) rfl)⟩, List.forall_mem_cons.mpr ⟨⟨60, xw1_mem _ (List.mem_of_getElem? (i := 22) rfl)⟩, List.forall_mem_cons.mpr ⟨⟨6, xw1_mem _ (List.mem_of_getElem? (i := 23) rfl)⟩, List.forall_mem_cons.mpr ⟨⟨6, xw1_mem _ (List.mem_of_getElem? (i := 24) rfl)⟩, fun _ h => absurd h List.not_mem_nil⟩⟩⟩⟩⟩⟩⟩⟩⟩⟩⟩⟩⟩⟩
theorem xnw_in : xnw ∈ flatC (Jvm.Cond.and given_1 narrow_1) := by decide +kernel
/-- the Strings and their bytes -/
def xZL : List ((String × Nat × String) × List xv) := xSn.zip xSt.tail
def xgiv : List Cond := .eq (.static "java/lang/String" "COMPACT_STRINGS" "Z") (.int 1) :: .isRef (.static "jdk/internal/util/Preconditions" "SIOOBE_FORMATTER" "Ljava/util/function/BiFunction;") :: .isRef (.static "java/lang/Throwable" "UNASSIGNED_STACK" "[Ljava/lang/StackTraceElement;") :: .isRef (.static "java/lang/Throwable" "SUPPRESSED_SENTINEL" "Ljava/util/List;") :: xZL.flatMap (fun z => xsat z.1.1 z.1.2.1 (z.2.map (fun v => v.2)))
theorem xgiv_in : ∀ w ∈ xgiv, w ∈ flatC (Jvm.Cond.and given_1 narrow_1) := xsub_of (by decide +kernel)
theorem xSt_ok : xSt.all (fun b => Nat.blt b.length 65536 && b.all (fun v => Nat.beq v.1 0)) = true := by decide +kernel
theorem xSn_len : xSn.length = 72 ∧ xSt.length = 73 := ⟨rfl, rfl⟩
theorem xZL_of {i : Nat} {b : List xv} (h : xSt[i + 1]? = some b) : ∃ q, xSn[i]? = some q ∧ xZL[i]? = some (q, b) := by
  have hl := (List.getElem?_eq_some_iff.mp h).1
  rw [xSn_len.2] at hl
  have h2 : i < xSn.length := by rw [xSn_len.1]; omega
  have h3 : xSt.tail[i]? = some b := by rw [List.getElem?_tail]; exact h
  refine ⟨xSn[i], List.getElem?_eq_getElem h2, ?_⟩
  exact List.getElem?_zip_eq_some.mpr ⟨List.getElem?_eq_getElem h2, h3⟩
theorem xZL_of2 {i : Nat} {q : String × Nat × String} (h : xSn[i]? = some q) : ∃ b, xZL[i]? = some (q, b) := by
  have hl := (List.getElem?_eq_some_iff.mp h).1
  rw [xSn_len.1] at hl
  have h2 : i + 1 < xSt.length := by rw [xSn_len.2]; omega
  have h3 : xSt.tail[i]? = some xSt[i + 1] := by rw [List.getElem?_tail]; exact List.getElem?_eq_getElem h2
  exact ⟨_, List.getElem?_zip_eq_some.mpr ⟨h, h3⟩⟩
theorem xtag {E : xE} {b : List xv} (hb : b.all (fun v => Nat.beq v.1 0) = true) (j : Nat) : xr E (b.getD j (0, 0)) = .int (Int32.ofNat ((b.map (fun v => v.2)).getD j 0)) := by
  by_cases hj : j < b.length
  · have hm := List.all_eq_true.mp hb _ (List.getElem_mem hj)
    have e : b.getD j (0, 0) = b[j] := by simp [List.getD, hj]
    have e2 : (b.map (fun v => v.2)).getD j 0 = b[j].2 := by simp [List.getD, hj]
    rw [e, e2]
    have h1 := xbeq.mp hm
    generalize b[j] = v at h1
    obtain ⟨t, n⟩ := v
    have h1 : t = 0 := h1
    subst h1
    rfl
  · have e : b.getD j (0, 0) = (0, 0) := by simp [List.getD, hj]
    have e2 : (b.map (fun v => v.2)).getD j 0 = 0 := by simp [List.getD, hj]
    rw [e, e2]
    rfl
/-- all that the own machine wants at the law's entry -/
theorem xbegin {s : State} {b L : Nat} {xs : Nat → Int32} (hL : L ≤ 5120) (hts : ∀ w ∈ lw_tbl, w.before #[Value.ref b] s = true) (hX : va_X b L xs s s.heap) (hb : b < s.heap.size) (hg : (Jvm.Cond.and given_1 narrow_1).before #[Value.ref b] s = true) :
    ∃ (D : va_G) (dA : Nat → ClassId) (E : xE), E.1 = s.heap.size ∧ E.2.2.2.1 0 = b ∧ E.2.1 = xai xs ∧ E.2.2.1 = xal xs ∧ E.2.2.2.2.1 0 = L ∧ ∀ Z, xS (xX D dA E xGb Z) s := by
  have hF := fun w hw => flat_of_before _ hg w (xgiv_in w hw)
  have hw1 := fun w hw => hts w (xw1_mem w hw)
  have hA : ∀ a : Nat, a < s.heap.size → ¬ (fun q => s.heap.size ≤ q) a := fun a h => Nat.not_le.mpr h
  obtain ⟨dA, hdA⟩ := xarrs (hw1 _ (List.mem_of_getElem? (i := 7) rfl)) (hw1 _ (List.mem_of_getElem? (i := 8) rfl)) (hw1 _ (List.mem_of_getElem? (i := 9) rfl)) (hw1 _ (List.mem_of_getElem? (i := 10) rfl))
  obtain ⟨D, hD⟩ := xcls_D (flat_of_before _ hg xnw xnw_in) hts xcls_inst
  have z1 := va_Zof (A := fun q => s.heap.size ≤ q) (hw1 _ (List.mem_of_getElem? (i := 0) rfl)) (hw1 _ (List.mem_of_getElem? (i := 1) rfl)) (va_eqt (hF _ (by unfold xgiv; exact List.mem_cons_self))) hA
  have z2 := va_Zqof (A := fun q => s.heap.size ≤ q) (hw1 _ (List.mem_of_getElem? (i := 2) rfl)) (hw1 _ (List.mem_of_getElem? (i := 3) rfl)) (hF _ (by unfold xgiv; exact List.mem_cons_of_mem _ List.mem_cons_self)) hA
  have z3 := va_Zqof (A := fun q => s.heap.size ≤ q) (hw1 _ (List.mem_of_getElem? (i := 4) rfl)) (hw1 _ (List.mem_of_getElem? (i := 6) rfl)) (hF _ (by unfold xgiv; exact List.mem_cons_of_mem _ (List.mem_cons_of_mem _ List.mem_cons_self))) hA
  have z4 := va_Zqof (A := fun q => s.heap.size ≤ q) (hw1 _ (List.mem_of_getElem? (i := 5) rfl)) (hw1 _ (List.mem_of_getElem? (i := 6) rfl)) (hF _ (by unfold xgiv; exact List.mem_cons_of_mem _ (List.mem_cons_of_mem _ (List.mem_cons_of_mem _ List.mem_cons_self)))) hA
  have z5 := xLs_of (A := fun q => s.heap.size ≤ q) (hw1 _ (List.mem_of_getElem? (i := 4) rfl)) hA
  have z6 := xLs_of (A := fun q => s.heap.size ≤ q) (hw1 _ (List.mem_of_getElem? (i := 5) rfl)) hA
  have hs : ∀ i : Nat, ∃ q : Nat × Nat, ∀ z, xZL[i]? = some z → vk_R z.1.1 z.1.2.1 z.1.2.2 q.1 s ∧ va_O "java/lang/String" q.1 (fun q => s.heap.size ≤ q) s s.heap ∧ va_OF "java/lang/String" "coder" "B" (.int 0) q.1 (fun q => s.heap.size ≤ q) s s.heap ∧ va_OF "java/lang/String" "value" "[B" (.ref q.2) q.1 (fun q => s.heap.size ≤ q) s s.heap ∧ va_T .byte q.2 (z.2.map (fun v => v.2)).length (fun j => .int (Int32.ofNat ((z.2.map (fun v => v.2)).getD j 0))) (fun q => s.heap.size ≤ q) s s.heap := by
    intro i
    cases hz : xZL[i]? with
    | none => exact ⟨(0, 0), fun z h => by cases h⟩
    | some z =>
      have hm := List.mem_of_getElem? hz
      have hq := List.getElem?_zip_eq_some.mp (show (xSn.zip xSt.tail)[i]? = some z from hz)
      have hb9 : z.2 ∈ xSt := List.mem_of_mem_tail (List.mem_of_getElem? hq.2)
      have hk9 := List.all_eq_true.mp xSt_ok _ hb9
      rw [Bool.and_eq_true] at hk9
      obtain ⟨q, hq9⟩ := xstr1 (args := #[Value.ref b]) (s := s) (A := fun q => s.heap.size ≤ q) (own := z.1.1) (k := z.1.2.1) (tx := z.1.2.2) (b := z.2.map (fun v => v.2)) (by rw [List.length_map]; exact xblt.mp hk9.1)
        (fun w hw => hF w (by unfold xgiv; exact List.mem_cons_of_mem _ (List.mem_cons_of_mem _ (List.mem_cons_of_mem _ (List.mem_cons_of_mem _ (List.mem_flatMap.mpr ⟨z, hm, hw⟩))))))
        (hts _ (xw2_mem _ (List.mem_map.mpr ⟨z.1, List.mem_of_getElem? hq.1, rfl⟩))) hA
      exact ⟨q, fun z2 h2 => by cases h2; exact hq9⟩
  obtain ⟨ad, had⟩ := Classical.axiomOfChoice hs
  have hr : ∃ o : Option Nat, va_Z "jdk/internal/util/Preconditions" "SIOOBE_FORMATTER" "Ljava/util/function/BiFunction;" (va_rf o) (fun q => s.heap.size ≤ q) s s.heap := by
    rcases z2 with h | ⟨t, h⟩
    · exact ⟨none, h⟩
    · exact ⟨some t, h⟩
  obtain ⟨o2, z2⟩ := hr
  refine ⟨D, dA, (s.heap.size, xai xs, xal xs, (fun n => match n with
    | 0 => b
    | i + 1 => (ad i).1), (fun n => match n with
    | 0 => L
    | i + 1 => (ad i).2), fun _ => o2), rfl, rfl, rfl, rfl, rfl, fun Z => ⟨xWd_of (A := #[Value.ref b]) xWs_good (fun w hw => by
      rcases List.mem_cons.mp hw with e9 | h9
      · rw [e9]; exact flat_of_before _ hg xnw xnw_in
      · exact hts w (List.mem_filter.mp h9).1), ⟨hD, hdA⟩, ⟨⟨Or.inl ⟨rfl, rfl⟩, xscript hL hX⟩, hb, ?_, z1, z2, z3, z4, z5, z6⟩, Nat.le_refl _, xGk_b rfl rfl, xCls_of rfl rfl, xWs_good, ?_⟩⟩
  · intro i b9 hb9
    obtain ⟨q, hq, hz⟩ := xZL_of hb9
    obtain ⟨-, p1, p2, p3, p4⟩ := had i _ hz
    have hk9 := List.all_eq_true.mp xSt_ok _ (List.mem_of_getElem? hb9)
    rw [Bool.and_eq_true] at hk9
    refine ⟨p1, p2, p3, ?_, xblt.mp hk9.1⟩
    have e1 : (fun j => xr (s.heap.size, xai xs, xal xs, (fun n => match n with
      | 0 => b
      | i + 1 => (ad i).1), (fun n => match n with
      | 0 => L
      | i + 1 => (ad i).2), fun _ => o2) (b9.getD j (0, 0))) = (fun j => Value.int (Int32.ofNat ((b9.map (fun v => v.2)).getD j 0))) := funext (fun j => xtag hk9.2 j)
    rw [e1, ← List.length_map (fun v : xv => v.2)]
    exact p4
  · intro i own k tx h
    obtain ⟨b9, hz⟩ := xZL_of2 h
    exact (had i _ hz).1
end XNC
