theorem xblt {a b : Nat} : Nat.blt a b = true ↔ a < b := by
  show Nat.ble (a + 1) b = true ↔ a < b
  rw [Nat.ble_eq]
  omega
theorem xbltF {a b : Nat} : Nat.blt a b = false ↔ b ≤ a := by
  rw [← Bool.not_eq_true, xblt]
  omega
theorem xble {a b : Nat} : Nat.ble a b = true ↔ a ≤ b := by rw [Nat.ble_eq]
theorem xbeq {a b : Nat} : Nat.beq a b = true ↔ a = b := by rw [Nat.beq_eq]
theorem sh_31 : ∀ y : Fin 32, (Int32.ofNat y.val &&& 31) = Int32.ofNat y.val ∧ ((Int32.ofNat y.val).toBitVec.smod 32).toNat = y.val ∧ (((Int32.ofNat y.val).toUInt32 &&& Int32.toUInt32 31).toBitVec % 32).toNat = y.val := by decide +kernel
theorem i32_shl {x y : Nat} (hy : y < 32) (h : Nat.shiftLeft x y < xM) : Int32.ofNat x <<< (Int32.ofNat y &&& 31) = Int32.ofNat (Nat.shiftLeft x y) := by
  obtain ⟨h1, h2, -⟩ := sh_31 ⟨y, hy⟩
  rw [h1]
  have e : Nat.shiftLeft x y = x * 2 ^ y := Nat.shiftLeft_eq x y
  rw [e] at h ⊢
  exact pk_shlN (Int32.ofNat y) y h2 h
theorem i32_shr {x y : Nat} (hy : y < 32) (h : x < 2147483648) : Int32.ofNat x >>> (Int32.ofNat y &&& 31) = Int32.ofNat (Nat.shiftRight x y) := by
  obtain ⟨h1, h2, -⟩ := sh_31 ⟨y, hy⟩
  rw [h1]
  have e : Nat.shiftRight x y = x / 2 ^ y := Nat.shiftRight_eq_div_pow x y
  rw [e]
  exact pk_shrN h (Int32.ofNat y) y h2
theorem i32_ushr {x y : Nat} (hy : y < 32) (h : x < xM) : ((Int32.ofNat x).toUInt32 >>> ((Int32.ofNat y).toUInt32 &&& Int32.toUInt32 31)).toInt32 = Int32.ofNat (Nat.shiftRight x y) := by
  obtain ⟨-, -, h3⟩ := sh_31 ⟨y, hy⟩
  have e : Nat.shiftRight x y = x / 2 ^ y := Nat.shiftRight_eq_div_pow x y
  rw [e]
  exact pk_ushrN h (Int32.ofNat y) y h3
theorem i32_toInt (n : Nat) : (Int32.ofNat n).toInt = (xbi n : Int) - 2147483648 := by
  have h : (Int32.ofNat n).toInt = (BitVec.ofNat 32 n).toInt := rfl
  rw [h, BitVec.toInt_eq_toNat_bmod, BitVec.toNat_ofNat]
  unfold xbi xM
  rw [Int.bmod_def]
  split <;> omega
theorem i64_toInt (n : Nat) : (Int64.ofNat n).toInt = (xbl n : Int) - 9223372036854775808 := by
  have h : (Int64.ofNat n).toInt = (BitVec.ofNat 64 n).toInt := rfl
  rw [h, BitVec.toInt_eq_toNat_bmod, BitVec.toNat_ofNat]
  unfold xbl xL
  rw [Int.bmod_def]
  split <;> omega
theorem i32_i2l {x : Nat} (h : x < xM) : (Int32.ofNat x).toInt64 = Int64.ofNat (cond (Nat.blt x 2147483648) x (x + 18446744069414584320)) := by
  apply Int64.toInt_inj.mp
  rw [Int32.toInt_toInt64, i32_toInt, i64_toInt]
  unfold xM at h
  cases hb : Nat.blt x 2147483648 with
  | true =>
    have h2 : x < 2147483648 := xblt.mp hb
    simp only [cond_true]
    unfold xbi xbl xM xL
    omega
  | false =>
    have h2 : 2147483648 ≤ x := xbltF.mp hb
    simp only [cond_false]
    unfold xbi xbl xM xL
    omega
theorem i64_l2i (x : Nat) : (Int64.ofNat x).toInt32 = Int32.ofNat (x % xM) := by
  have h : (Int64.ofNat x).toInt32 = Int32.ofNat x := lN_i x
  rw [h]
  exact i32_eq (by simp)
theorem by_256 : ∀ k : Fin 256, (Int8.ofNat k.val).toInt32 = Int32.ofNat (cond (Nat.blt k.val 128) k.val (k.val + 4294967040)) := by decide +kernel
theorem i32_i2b (x : Nat) : (Int32.ofNat x).toInt8.toInt32 = Int32.ofNat (cond (Nat.blt (x % 256) 128) (x % 256) (x % 256 + 4294967040)) := by
  have h : (Int32.ofNat x).toInt8 = Int8.ofNat (x % 256) := by
    apply Int8.toBitVec_inj.mp
    apply BitVec.eq_of_toNat_eq
    show ((BitVec.ofNat 32 x).signExtend 8).toNat = (BitVec.ofNat 8 (x % 256)).toNat
    rw [BitVec.signExtend_eq_setWidth_of_le _ (by decide)]
    simp only [BitVec.toNat_setWidth, BitVec.toNat_ofNat]
    omega
  rw [h]
  exact by_256 ⟨x % 256, Nat.mod_lt _ (by decide)⟩
theorem i32_i2c (x : Nat) : ((Int32.ofNat x).toUInt32 % 65536).toInt32 = Int32.ofNat (x % 65536) := by
  rw [pk_char]
  show Int32.ofNat ((BitVec.ofNat 32 x).toNat % 65536) = _
  rw [BitVec.toNat_ofNat]
  congr 1
  omega
