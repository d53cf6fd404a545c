set_option linter.unusedVariables false
noncomputable section XNC
section
variable {P : xP} {G : xk} {ly : List yc} {C i i1 : Nat} {L L1 : List (Option xv)} {st st1 : List xv} {S S1 : yS} {d : Nat} {Q : Nat × xv → yS → Prop}
/-! the comparisons one by one -/
theorem c_eq {v : Nat} {x y : Int} (h : yq C i 8 0 v 0 = true) (hx : Rg x) (hy : Rg y) (k1 : x = y → yT P G ly C v L st S d Q) (k2 : x ≠ y → yT P G ly C (i + 1) L st S d Q) : yT P G ly C i L (vi y :: vi x :: st) S d Q := r_icmp h (by decide) hx hy k1 k2
theorem c_ne {v : Nat} {x y : Int} (h : yq C i 8 1 v 0 = true) (hx : Rg x) (hy : Rg y) (k1 : x ≠ y → yT P G ly C v L st S d Q) (k2 : x = y → yT P G ly C (i + 1) L st S d Q) : yT P G ly C i L (vi y :: vi x :: st) S d Q := r_icmp h (by decide) hx hy k1 (fun h => k2 (Decidable.of_not_not h))
theorem c_lt {v : Nat} {x y : Int} (h : yq C i 8 2 v 0 = true) (hx : Rg x) (hy : Rg y) (k1 : x < y → yT P G ly C v L st S d Q) (k2 : y ≤ x → yT P G ly C (i + 1) L st S d Q) : yT P G ly C i L (vi y :: vi x :: st) S d Q := r_icmp h (by decide) hx hy k1 (fun h => k2 (Int.not_lt.mp h))
theorem c_ge {v : Nat} {x y : Int} (h : yq C i 8 3 v 0 = true) (hx : Rg x) (hy : Rg y) (k1 : y ≤ x → yT P G ly C v L st S d Q) (k2 : x < y → yT P G ly C (i + 1) L st S d Q) : yT P G ly C i L (vi y :: vi x :: st) S d Q := r_icmp h (by decide) hx hy k1 (fun h => k2 (Int.not_le.mp h))
theorem c_gt {v : Nat} {x y : Int} (h : yq C i 8 4 v 0 = true) (hx : Rg x) (hy : Rg y) (k1 : y < x → yT P G ly C v L st S d Q) (k2 : x ≤ y → yT P G ly C (i + 1) L st S d Q) : yT P G ly C i L (vi y :: vi x :: st) S d Q := r_icmp h (by decide) hx hy k1 (fun h => k2 (Int.not_lt.mp h))
theorem c_le {v : Nat} {x y : Int} (h : yq C i 8 5 v 0 = true) (hx : Rg x) (hy : Rg y) (k1 : x ≤ y → yT P G ly C v L st S d Q) (k2 : y < x → yT P G ly C (i + 1) L st S d Q) : yT P G ly C i L (vi y :: vi x :: st) S d Q := r_icmp h (by decide) hx hy k1 (fun h => k2 (Int.not_le.mp h))
theorem z_eq {v : Nat} {x : Int} (h : yq C i 7 0 v 0 = true) (hx : Rg x) (k1 : x = 0 → yT P G ly C v L st S d Q) (k2 : x ≠ 0 → yT P G ly C (i + 1) L st S d Q) : yT P G ly C i L (vi x :: st) S d Q := r_if h (by decide) hx k1 k2
theorem z_ne {v : Nat} {x : Int} (h : yq C i 7 1 v 0 = true) (hx : Rg x) (k1 : x ≠ 0 → yT P G ly C v L st S d Q) (k2 : x = 0 → yT P G ly C (i + 1) L st S d Q) : yT P G ly C i L (vi x :: st) S d Q := r_if h (by decide) hx k1 (fun h => k2 (Decidable.of_not_not h))
theorem z_lt {v : Nat} {x : Int} (h : yq C i 7 2 v 0 = true) (hx : Rg x) (k1 : x < 0 → yT P G ly C v L st S d Q) (k2 : 0 ≤ x → yT P G ly C (i + 1) L st S d Q) : yT P G ly C i L (vi x :: st) S d Q := r_if h (by decide) hx k1 (fun h => k2 (Int.not_lt.mp h))
theorem z_ge {v : Nat} {x : Int} (h : yq C i 7 3 v 0 = true) (hx : Rg x) (k1 : 0 ≤ x → yT P G ly C v L st S d Q) (k2 : x < 0 → yT P G ly C (i + 1) L st S d Q) : yT P G ly C i L (vi x :: st) S d Q := r_if h (by decide) hx k1 (fun h => k2 (Int.not_le.mp h))
theorem z_gt {v : Nat} {x : Int} (h : yq C i 7 4 v 0 = true) (hx : Rg x) (k1 : 0 < x → yT P G ly C v L st S d Q) (k2 : x ≤ 0 → yT P G ly C (i + 1) L st S d Q) : yT P G ly C i L (vi x :: st) S d Q := r_if h (by decide) hx k1 (fun h => k2 (Int.not_lt.mp h))
theorem z_le {v : Nat} {x : Int} (h : yq C i 7 5 v 0 = true) (hx : Rg x) (k1 : x ≤ 0 → yT P G ly C v L st S d Q) (k2 : 0 < x → yT P G ly C (i + 1) L st S d Q) : yT P G ly C i L (vi x :: st) S d Q := r_if h (by decide) hx k1 (fun h => k2 (Int.not_le.mp h))
/-- elements of a row, by kind -/
theorem a_int {b n : Nat} {z : Int} (h : yq C i 14 10 0 0 = true) (hb : ly[b]? = some (.a 10 n)) (hn : Nat.blt n 1048576 = true) (h0 : 0 ≤ z) (hz : z < n) (k : Rg (S.a b z.toNat) → yT P G ly C (i + 1) L (vi (S.a b z.toNat) :: st) S d Q) : yT P G ly C i L (vi z :: (2, b) :: st) S d Q := r_aload h hb (by rw [Nat.blt_eq] at hn; exact hn) h0 hz (Or.inl rfl) k
theorem a_bool {b n : Nat} {z : Int} (h : yq C i 14 4 0 0 = true) (hb : ly[b]? = some (.a 4 n)) (hn : Nat.blt n 1048576 = true) (h0 : 0 ≤ z) (hz : z < n) (k : 0 ≤ S.a b z.toNat ∧ S.a b z.toNat ≤ 1 → yT P G ly C (i + 1) L (vi (S.a b z.toNat) :: st) S d Q) : yT P G ly C i L (vi z :: (2, b) :: st) S d Q := r_aload h hb (by rw [Nat.blt_eq] at hn; exact hn) h0 hz (Or.inr (Or.inr rfl)) k
theorem s_int {b n : Nat} {z q : Int} (h : yq C i 15 10 0 0 = true) (hb : ly[b]? = some (.a 10 n)) (hn : Nat.blt n 1048576 = true) (h0 : 0 ≤ z) (hz : z < n) (hr : Rg q) (k : yT P G ly C (i + 1) L st (ysa S b z.toNat q) d Q) : yT P G ly C i L (vi q :: vi z :: (2, b) :: st) S d Q := r_iastore h hb (by rw [Nat.blt_eq] at hn; exact hn) h0 hz hr k
theorem s_bool {b n : Nat} {z q : Int} (h : yq C i 15 4 0 0 = true) (hb : ly[b]? = some (.a 4 n)) (hn : Nat.blt n 1048576 = true) (h0 : 0 ≤ z) (hz : z < n) (hq : 0 ≤ q) (hq2 : q ≤ 1) (k : yT P G ly C (i + 1) L st (ysa S b z.toNat q) d Q) : yT P G ly C i L (vi q :: vi z :: (2, b) :: st) S d Q := r_zastore h hb (by rw [Nat.blt_eq] at hn; exact hn) h0 hz hq hq2 k
/-! what is always kept: bounds of the fields and of the rows -/
def yfd : List (Nat × Nat × Int × Int) → Nat → Nat → Option (Int × Int)
  | [], _, _ => none
  | (a, v, lo, hi) :: r, b, w => cond (Nat.beq a b && Nat.beq v w) (some (lo, hi)) (yfd r b w)
def yad : List (Nat × Int × Int) → Nat → Option (Int × Int)
  | [], _ => none
  | (a, lo, hi) :: r, b => cond (Nat.beq a b) (some (lo, hi)) (yad r b)
def yBd (TF : List (Nat × Nat × Int × Int)) (TA : List (Nat × Int × Int)) (S : yS) : Prop :=
  (∀ b w lo hi, yfd TF b w = some (lo, hi) → lo ≤ S.f b w ∧ S.f b w ≤ hi) ∧ (∀ b lo hi, yad TA b = some (lo, hi) → ∀ j, lo ≤ S.a b j ∧ S.a b j ≤ hi)
variable {TF : List (Nat × Nat × Int × Int)} {TA : List (Nat × Int × Int)}
theorem yBd.f (h : yBd TF TA S) {b w : Nat} {lo hi : Int} (e : yfd TF b w = some (lo, hi)) : lo ≤ S.f b w ∧ S.f b w ≤ hi := h.1 b w lo hi e
theorem yBd.a (h : yBd TF TA S) {b : Nat} {lo hi : Int} (e : yad TA b = some (lo, hi)) (j : Nat) : lo ≤ S.a b j ∧ S.a b j ≤ hi := h.2 b lo hi e j
theorem yBd.setf (h : yBd TF TA S) {b w : Nat} {lo hi z : Int} (e : yfd TF b w = some (lo, hi)) (h1 : lo ≤ z) (h2 : z ≤ hi) : yBd TF TA (ysf S b w z) := by
  refine ⟨fun b' w' lo' hi' e' => ?_, h.2⟩
  by_cases hb : b' = b
  · by_cases hw : w' = w
    · subst hb hw
      rw [e] at e'
      cases e'
      rw [ysf_eq]
      exact ⟨h1, h2⟩
    · rw [ysf_ne (Or.inr hw)]
      exact h.1 _ _ _ _ e'
  · rw [ysf_ne (Or.inl hb)]
    exact h.1 _ _ _ _ e'
theorem yBd.setf0 (h : yBd TF TA S) {b w : Nat} {z : Int} (e : yfd TF b w = none) : yBd TF TA (ysf S b w z) := by
  refine ⟨fun b' w' lo' hi' e' => ?_, h.2⟩
  by_cases hb : b' = b
  · by_cases hw : w' = w
    · subst hb hw
      rw [e] at e'
      cases e'
    · rw [ysf_ne (Or.inr hw)]
      exact h.1 _ _ _ _ e'
  · rw [ysf_ne (Or.inl hb)]
    exact h.1 _ _ _ _ e'
theorem ysa_ne {b j b' j' : Nat} {z : Int} (h : b' ≠ b ∨ j' ≠ j) : (ysa S b j z).a b' j' = S.a b' j' := by
  show cond (Nat.beq b' b && Nat.beq j' j) z (S.a b' j') = _
  rcases h with h | h
  · rw [ybeqF h]; rfl
  · rw [ybeqF h, Bool.and_false]; rfl
theorem ysa_eq {b j : Nat} {z : Int} : (ysa S b j z).a b j = z := by
  show cond (Nat.beq b b && Nat.beq j j) z (S.a b j) = _
  rw [ybeqT, ybeqT]; rfl
theorem yBd.seta (h : yBd TF TA S) {b j : Nat} {lo hi z : Int} (e : yad TA b = some (lo, hi)) (h1 : lo ≤ z) (h2 : z ≤ hi) : yBd TF TA (ysa S b j z) := by
  refine ⟨h.1, fun b' lo' hi' e' j' => ?_⟩
  by_cases hb : b' = b
  · by_cases hw : j' = j
    · subst hb hw
      rw [e] at e'
      cases e'
      rw [ysa_eq]
      exact ⟨h1, h2⟩
    · rw [ysa_ne (Or.inr hw)]
      exact h.2 _ _ _ e' _
  · rw [ysa_ne (Or.inl hb)]
    exact h.2 _ _ _ e' _
theorem yBd.seta0 (h : yBd TF TA S) {b j : Nat} {z : Int} (e : yad TA b = none) : yBd TF TA (ysa S b j z) := by
  refine ⟨h.1, fun b' lo' hi' e' j' => ?_⟩
  by_cases hb : b' = b
  · subst hb
    rw [e] at e'
    cases e'
  · rw [ysa_ne (Or.inl hb)]
    exact h.2 _ _ _ e' _
theorem yBd.cost (h : yBd TF TA S) {c s : Nat} : yBd TF TA (ycost S c s) := h
end
end XNC
