noncomputable section XNC
def xck (I : List Nat) (c : vw_C) : Bool := xpk lw_tbl I [] (fun Ws => (u_ws c.1 c.2.1 c.2.2).all (fun w => decide (w ∈ Ws))) && (xvl (fun k => (parseFieldDescriptor (c.2.1 k).2.2.1).isSome) c.2.2 && xvl (fun a => xvl (fun b => Nat.beq a b || decide ((c.2.1 a).2.1 ≠ (c.2.1 b).2.1)) c.2.2) c.2.2)
def xckP (c : vw_C) : Prop := (∀ w ∈ u_ws c.1 c.2.1 c.2.2, w ∈ xWs) ∧ ∃ ty : Nat → FieldType, (∀ k, k < c.2.2 → parseFieldDescriptor (c.2.1 k).2.2.1 = some (ty k)) ∧ ∀ a, a < c.2.2 → ∀ b, b < c.2.2 → a ≠ b → (c.2.1 a).2.1 ≠ (c.2.1 b).2.1
theorem xck_of {I : List Nat} {c : vw_C} (h : xck I c = true) : xckP c := by
  unfold xck at h
  rw [Bool.and_eq_true, Bool.and_eq_true] at h
  obtain ⟨h1, h2, h3⟩ := h
  obtain ⟨Ws, hW, h4⟩ := xpk_of I [] (fun _ h => by cases h) h1
  refine ⟨fun w hw => hW w (of_decide_eq_true (List.all_eq_true.mp h4 w hw)), fun k => (parseFieldDescriptor (c.2.1 k).2.2.1).getD .int, fun k hk => ?_, fun a ha b hb hab => ?_⟩
  · have h5 := xvl_of _ h2 k hk
    cases hp : parseFieldDescriptor (c.2.1 k).2.2.1 with
    | none => simp only [hp] at h5; cases h5
    | some t =>
      show some t = some ((parseFieldDescriptor (c.2.1 k).2.2.1).getD .int)
      rw [hp]
      rfl
  · have h5 := xvl_of _ (xvl_of _ h3 a ha) b hb
    rw [Bool.or_eq_true] at h5
    rcases h5 with h5 | h5
    · exact absurd (xbeq.mp h5) hab
    · exact of_decide_eq_true h5
theorem xk0 : xckP ("ProxyForge", xT0, 10) := xck_of (I := [556, 558, 560, 562, 564, 566, 568, 570, 572, 574]) (by decide +kernel)
theorem xk1 : xckP ("ProxyForge$Types", xT1, 8) := xck_of (I := [208, 210, 212, 214, 216, 218, 220, 222]) (by decide +kernel)
theorem xk2 : xckP ("ProxyForge$Methods", xT2, 9) := xck_of (I := [262, 264, 266, 268, 270, 272, 274, 276, 278]) (by decide +kernel)
theorem xk3 : xckP ("ProxyForge$Collector", xT3, 13) := xck_of (I := [305, 307, 309, 311, 313, 315, 317, 319, 321, 323, 325, 327, 329]) (by decide +kernel)
theorem xk4 : xckP ("ProxyForge$Proxy", xT4, 4) := xck_of (I := [351, 353, 355, 357]) (by decide +kernel)
theorem xk5 : xckP ("ProxyForge$Callback", xT5, 6) := xck_of (I := [379, 381, 383, 385, 387, 389]) (by decide +kernel)
theorem xk6 : xckP ("ProxyForge$Caller", xT6, 6) := xck_of (I := [407, 409, 411, 413, 415, 417]) (by decide +kernel)
theorem xk7 : xckP ("ProxyForge$Bytes", xT7, 2) := xck_of (I := [432, 434]) (by decide +kernel)
theorem xk8 : xckP ("ProxyForge$Writer", xT8, 16) := xck_of (I := [488, 490, 492, 494, 496, 498, 500, 502, 504, 506, 508, 510, 512, 514, 516, 518]) (by decide +kernel)
theorem xk9 : xckP ("ProxyForge$Pool", xT9, 6) := xck_of (I := [459, 461, 463, 465, 467, 469]) (by decide +kernel)
theorem xk10 : xckP ("ProxyForge$Reader", xT10, 6) := xck_of (I := [533, 535, 537, 539, 541, 543]) (by decide +kernel)
theorem xk11 : xckP ("ProxyForgeModel", xT11, 60) := xck_of (I := [1540, 1542, 1544, 1546, 1548, 1550, 1552, 1554, 1556, 1558, 1560, 1562, 1564, 1566, 1568, 1570, 1572, 1574, 1576, 1578, 1580, 1582, 1584, 1586, 1588, 1590, 1592, 1594, 1596, 1598, 1600, 1602, 1604, 1606, 1608, 1610, 1612, 1614, 1616, 1618, 1620, 1622, 1624, 1626, 1628, 1630, 1632, 1634, 1636, 1638, 1640, 1642, 1644, 1646, 1648, 1650, 1652, 1654, 1656, 1658]) (by decide +kernel)
theorem xk12 : xckP ("java/lang/IllegalArgumentException", xT12, 0) := xck_of (I := []) (by decide +kernel)
theorem xk13 : xckP ("java/lang/IllegalStateException", xT13, 0) := xck_of (I := []) (by decide +kernel)
theorem xk_all : ∀ c ∈ xcls, xckP c := List.forall_mem_cons.mpr ⟨xk0, List.forall_mem_cons.mpr ⟨xk1, List.forall_mem_cons.mpr ⟨xk2, List.forall_mem_cons.mpr ⟨xk3, List.forall_mem_cons.mpr ⟨xk4, List.forall_mem_cons.mpr ⟨xk5, List.forall_mem_cons.mpr ⟨xk6, List.forall_mem_cons.mpr ⟨xk7, List.forall_mem_cons.mpr ⟨xk8, List.forall_mem_cons.mpr ⟨xk9, List.forall_mem_cons.mpr ⟨xk10, List.forall_mem_cons.mpr ⟨xk11, List.forall_mem_cons.mpr ⟨xk12, List.forall_mem_cons.mpr ⟨xk13, fun _ h => absurd h List.not_mem_nil⟩⟩⟩⟩⟩⟩⟩⟩⟩⟩⟩⟩⟩⟩
theorem xCls_of {X : xFix} (h1 : X.Ws = xWs) (h2 : X.cl = xcls) : xCls X := by
  intro ci C T N h
  rw [h2] at h
  have h3 := xk_all _ (List.mem_of_getElem? h)
  rw [h1]
  exact h3
theorem xWs_good : ∀ w ∈ xWs, xgood w := by
  intro w hw
  rcases List.mem_cons.mp hw with rfl | hw
  · exact Or.inr (Or.inr (Or.inr (Or.inr (Or.inr (Or.inr ⟨_, _, rfl⟩)))))
  · exact xgoodb_of (List.mem_filter.mp hw).2
end XNC
