set_option linter.unusedVariables false
noncomputable section XNC
section
variable {P : xP} {G : xk} {ly : List yc} {C i : Nat} {L : List (Option xv)} {st : List xv} {S : yS} {d : Nat} {Q : Nat × xv → yS → Prop}
theorem yshl_lt {x y : Int} (hx : 0 ≤ x) (hy : 0 ≤ y) (hy2 : y < 32) (hm : x * 2 ^ y.toNat < 4294967296) : Nat.shiftLeft (enc x) (enc y) < 4294967296 := by
  have hp : (1 : Int) ≤ 2 ^ y.toNat := Int.pow_pos (by decide)
  have hxx : x ≤ x * 2 ^ y.toNat := by
    have := Int.mul_le_mul_of_nonneg_left hp hx
    omega
  have e1 : (enc x : Int) = x := enc_nat hx (by omega)
  have e2 : enc y = y.toNat := by have := enc_nat hy (by omega : y < 4294967296); omega
  show enc x <<< enc y < _
  rw [Nat.shiftLeft_eq, e2]
  have : ((enc x * 2 ^ y.toNat : Nat) : Int) < 4294967296 := by
    rw [Int.natCast_mul, e1]
    simpa using hm
  omega
theorem r_shl1 {y : Int} (h : yq C i 4 6 0 0 = true) (hy : 0 ≤ y) (hy2 : y < 32) (k : Rg (yshl 1 y) → yT P G ly C (i + 1) L (vi (yshl 1 y) :: st) S d Q) : yT P G ly C i L (vi y :: vi 1 :: st) S d Q := by
  have hm : (1 : Int) * 2 ^ y.toNat < 4294967296 := by
    have h1 : (2 : Nat) ^ y.toNat < 2 ^ 32 := Nat.pow_lt_pow_right (by decide) (by omega)
    have h2 : ((2 : Int) ^ y.toNat) = (((2 : Nat) ^ y.toNat : Nat) : Int) := by simp
    rw [h2]
    omega
  exact r_ishl h (by decide) hy hy2 hm (k (dec_rg (yshl_lt (by decide) hy hy2 hm)))
theorem r_shl8 {x : Int} (h : yq C i 4 6 0 0 = true) (h0 : 0 ≤ x) (h1 : x < 16777216) (k : Rg (yshl x 8) → (x < 8388608 → yshl x 8 = x * 256) → yT P G ly C (i + 1) L (vi (yshl x 8) :: st) S d Q) : yT P G ly C i L (vi 8 :: vi x :: st) S d Q := by
  have hm : x * 2 ^ (8 : Int).toNat < 4294967296 := by
    have : (2 : Int) ^ (8 : Int).toNat = 256 := by decide
    rw [this]
    omega
  refine r_ishl h h0 (by decide) (by decide) hm (k (dec_rg (yshl_lt h0 (by decide) (by decide) hm)) (fun hx => ?_))
  have e1 : (enc x : Int) = x := enc_nat h0 (by omega)
  have e8 : enc 8 = 8 := rfl
  unfold yshl dec
  rw [e8]
  show (if enc x <<< 8 < _ then ((enc x <<< 8 : Nat) : Int) else _) = _
  rw [Nat.shiftLeft_eq]
  split <;> omega
end
theorem dec_zero {n : Nat} (hn : n < 4294967296) (h : dec n = 0) : n = 0 := by unfold dec at h; split at h <;> omega
theorem yshr_up {p a b : Int} (ha : 0 ≤ a) (hab : a ≤ b) (hb : b < 4294967296) (h : yshr p a = 0) : yshr p b = 0 := by
  have h1 := dec_zero (yshr_lt p a) h
  have e1 : (enc a : Int) = a := enc_nat ha (by omega)
  have e2 : (enc b : Int) = b := enc_nat (by omega) (by omega)
  have h2 : Nat.shiftRight (enc p) (enc b) = 0 := by
    have h1 : enc p >>> enc a = 0 := h1
    show enc p >>> enc b = 0
    obtain ⟨c, hc⟩ := Nat.exists_eq_add_of_le (show enc a ≤ enc b by omega)
    rw [hc, Nat.shiftRight_add, h1, Nat.zero_shiftRight]
  unfold yshr
  rw [h2]
  rfl
end XNC
