set_option linter.unusedVariables false
noncomputable section XNC
/-! the room for k throws -/
def wRM (k : Int) (S : yS) : Prop := 7100000 + 6 * k ≤ ((S.bs + 2 * (S.n 0 + S.n 1 + S.n 2 + S.n 3 + S.n 4) : Nat) : Int) ∧ 76000000 + 128 * k ≤ ((128 * S.bc + (S.n 0 + S.n 1 + S.n 2 + S.n 3 + S.n 4) : Nat) : Int)
section
variable {S S' : yS} {k j : Int}
theorem wRM_le (h : wRM k S) (hj : j ≤ k) : wRM j S := by
  obtain ⟨h1, h2⟩ := h
  exact ⟨by omega, by omega⟩
theorem wRM_f (h : wRM k S) {b w : Nat} {z : Int} : wRM k (ysf S b w z) := h
theorem wRM_a (h : wRM k S) {b j : Nat} {z : Int} : wRM k (ysa S b j z) := h
theorem wRM_rm {MN : List Nat} (h : wRM k S) (hR : yRm MN S S') : wRM k S' := by
  obtain ⟨h1, h2⟩ := h
  have h3 := hR.c
  have h4 := hR.s
  exact ⟨by omega, by omega⟩
theorem wRM_cost (h : wRM (k + 1) S) (hI : yI S) (hk : 0 ≤ k) : yI (ycost S 1 6) ∧ wRM k (ycost S 1 6) := by
  obtain ⟨h1, h2⟩ := h
  obtain ⟨b0, b1, b2, b3, b4, b5, b6, b7, b8⟩ := hI.bn
  have e1 : (ycost S 1 6).bs = S.bs - 6 := rfl
  have e2 : (ycost S 1 6).bc = S.bc - 1 := rfl
  have e3 : (ycost S 1 6).n = S.n := rfl
  refine ⟨hI.cost (by omega) (by omega), ?_, ?_⟩
  · rw [e1, e3]; omega
  · rw [e2, e3]; omega
end
end XNC
