theorem xblt {a b : Nat} : Nat.blt a b = true ↔ a < b := by
  show Nat.ble (a + 1) b = true ↔ a < b
  rw [Nat.ble_eq]
  omega
theorem xbltF {a b : Nat} : Nat.blt a b = false ↔ b ≤ a := by
  rw [← Bool.not_eq_true, xblt]
  omega
theorem xble {a b : Nat} : Nat.ble a b = true ↔ a ≤ b := by rw [Nat.ble_eq]
theorem xbeq {a b : Nat} : Nat.beq a b = true ↔ a = b := by rw [Nat.beq_eq]
theorem sh_31 : ∀ y : Fin 32, (Int32.ofNat y.val &&& 31) = Int32.ofNat y.val ∧ ((Int32.ofNat y.val).toBitVec.smod 32).toNat = y.val ∧ (((Int32.ofNat y.val).toUInt32 &&& Int32.toUInt32 31).toBitVec % 32).toNat = y.val := by decide +kernel
theorem i32_shl {x y : Nat} (hy : y < 32) (h : Nat.shiftLeft x y < xM) : Int32.ofNat x <<< (Int32.ofNat y &&& 31) = Int32.ofNat (Nat.shiftLeft x y) := by
  obtain ⟨h1, h2, -⟩ := sh_31 ⟨y, hy⟩
  rw [h1]
  have e : Nat.shiftLeft x y = x * 2 ^ y := Nat.shiftLeft_eq x y
  rw [e] at h ⊢
  exact pk_shlN (Int32.ofNat y) y h2 h
theorem i32_shr {x y : Nat} (hy : y < 32) (h : x < 2147483648) : Int32.ofNat x >>> (Int32.ofNat y &&& 31) = Int32.ofNat (Nat.shiftRight x y) := by
  obtain ⟨h1, h2, -⟩ := sh_31 ⟨y, hy⟩
  rw [h1]
  have e : Nat.shiftRight x y = x / 2 ^ y := Nat.shiftRight_eq_div_pow x y
  rw [e]
  exact pk_shrN h (Int32.ofNat y) y h2
theorem i32_ushr {x y : Nat} (hy : y < 32) (h : x < xM) : ((Int32.ofNat x).toUInt32 >>> ((Int32.ofNat y).toUInt32 &&& Int32.toUInt32 31)).toInt32 = Int32.ofNat (Nat.shiftRight x y) := by
  obtain ⟨-, -, h3⟩ := sh_31 ⟨y, hy⟩
  have e : Nat.shiftRight x y = x / 2 ^ y := Nat.shiftRight_eq_div_pow x y
  rw [e]
  exact pk_ushrN h (Int32.ofNat y) y h3
theorem i32_toInt (n : Nat) : (Int32.ofNat n).toInt = (xbi n : Int) - 2147483648 := by
  have h : (Int32.ofNat n).toInt = (BitVec.ofNat 32 n).toInt := rfl
  rw [h, BitVec.toInt_eq_toNat_bmod, BitVec.toNat_ofNat]
  unfold xbi xM
  rw [Int.bmod_def]
  split <;> omega
theorem i64_toInt (n : Nat) : (Int64.ofNat n).toInt = (xbl n : Int) - 9223372036854775808 := by
  have h : (Int64.ofNat n).toInt = (BitVec.ofNat 64 n).toInt := rfl
  rw [h, BitVec.toInt_eq_toNat_bmod, BitVec.toNat_ofNat]
  unfold xbl xL
  rw [Int.bmod_def]
  split <;> omega
theorem i32_i2l {x : Nat} (h : x < xM) : (Int32.ofNat x).toInt64 = Int64.ofNat (cond (Nat.blt x 2147483648) x (x + 18446744069414584320)) := by
  apply Int64.toInt_inj.mp
  rw [Int32.toInt_toInt64, i32_toInt, i64_toInt]
  unfold xM at h
  cases hb : Nat.blt x 2147483648 with
  | true =>
    have h2 : x < 2147483648 := xblt.mp hb
    simp only [cond_true]
    unfold xbi xbl xM xL
    omega
  | false =>
    have h2 : 2147483648 ≤ x := xbltF.mp hb
    simp only [cond_false]
    unfold xbi xbl xM xL
    omega
theorem i64_l2i (x : Nat) : (Int64.ofNat x).toInt32 = Int32.ofNat (x % xM) := by
  have h : (Int64.ofNat x).toInt32 = Int32.ofNat x := lN_i x
  rw [h]
  exact i32_eq (by simp)
theorem by_256 : ∀ k : Fin 256, (Int8.ofNat k.val).toInt32 = Int32.ofNat (cond (Nat.blt k.val 128) k.val (k.val + 4294967040)) := by decide +kernel
theorem i32_i2b (x : Nat) : (Int32.ofNat x).toInt8.toInt32 = Int32.ofNat (cond (Nat.blt (x % 256) 128) (x % 256) (x % 256 + 4294967040)) := by
  have h : (Int32.ofNat x).toInt8 = Int8.ofNat (x % 256) := by
    apply Int8.toBitVec_inj.mp
    apply BitVec.eq_of_toNat_eq
    show ((BitVec.ofNat 32 x).signExtend 8).toNat = (BitVec.ofNat 8 (x % 256)).toNat
    rw [BitVec.signExtend_eq_setWidth_of_le _ (by decide)]
    simp only [BitVec.toNat_setWidth, BitVec.toNat_ofNat]
    omega
  rw [h]
  exact by_256 ⟨x % 256, Nat.mod_lt _ (by decide)⟩
theorem i32_i2c (x : Nat) : ((Int32.ofNat x).toUInt32 % 65536).toInt32 = Int32.ofNat (x % 65536) := by
  rw [pk_char]
  show Int32.ofNat ((BitVec.ofNat 32 x).toNat % 65536) = _
  rw [BitVec.toNat_ofNat]
  congr 1
  omega
theorem i32_neg (n : Nat) : - Int32.ofNat n = Int32.ofNat ((xM - n % xM) % xM) := by
  apply Int32.toBitVec_inj.mp
  rw [Int32.toBitVec_neg, i32_bv, i32_bv]
  apply BitVec.eq_of_toNat_eq
  simp only [BitVec.toNat_neg, BitVec.toNat_ofNat, xM]
  omega
theorem i32_div {x y : Nat} (hx : x < 2147483648) (hy : y < 2147483648) (h0 : 0 < y) : Int32.ofNat x / Int32.ofNat y = Int32.ofNat (x / y) := pk_div (by omega) h0 (by omega)
theorem i32_rem {x y : Nat} (hx : x < 2147483648) (hy : y < 2147483648) (h0 : 0 < y) : Int32.ofNat x - Int32.ofNat x / Int32.ofNat y * Int32.ofNat y = Int32.ofNat (x % y) := pk_rem (by omega) h0 (by omega)
theorem i32_ne0 {y : Nat} (hy : y < 2147483648) (h0 : 0 < y) : ¬ Int32.ofNat y = 0 := by
  intro h
  have h1 := congrArg Int32.toInt h
  rw [i32_toInt] at h1
  have h2 : (0 : Int32).toInt = 0 := by decide
  rw [h2] at h1
  unfold xbi xM at h1
  omega
theorem i64_sub (a b : Nat) : Int64.ofNat a - Int64.ofNat b = Int64.ofNat ((a + (xL - b % xL)) % xL) := by
  apply Int64.toBitVec_inj.mp
  rw [Int64.toBitVec_sub, i64_bv, i64_bv, i64_bv]
  apply BitVec.eq_of_toNat_eq
  simp only [BitVec.toNat_sub, BitVec.toNat_ofNat, xL]
  omega
theorem i64_or (a b : Nat) : Int64.ofNat a ||| Int64.ofNat b = Int64.ofNat (Nat.lor a b) := by
  apply Int64.toBitVec_inj.mp
  rw [Int64.toBitVec_or, i64_bv, i64_bv, i64_bv]
  apply BitVec.eq_of_toNat_eq
  show (BitVec.ofNat 64 a ||| BitVec.ofNat 64 b).toNat = (BitVec.ofNat 64 (a ||| b)).toNat
  simp only [BitVec.toNat_or, BitVec.toNat_ofNat, Nat.or_mod_two_pow]
theorem i64_s32 : (((32 : Int32).toInt64 &&& 63).toBitVec.smod 64).toNat = 32 := by decide +kernel
theorem i64_shl32 (a : Nat) : Int64.ofNat a <<< ((Int32.ofNat 32).toInt64 &&& 63) = Int64.ofNat (a * 4294967296 % xL) := by
  apply Int64.toBitVec_inj.mp
  show (BitVec.ofNat 64 a) <<< (((32 : Int32).toInt64 &&& 63).toBitVec.smod 64) = BitVec.ofNat 64 (a * 4294967296 % xL)
  apply BitVec.eq_of_toNat_eq
  rw [BitVec.shiftLeft_eq', BitVec.toNat_shiftLeft, i64_s32, BitVec.toNat_ofNat, BitVec.toNat_ofNat, Nat.shiftLeft_eq, show (2 : Nat) ^ 32 = 4294967296 from by decide]
  unfold xL
  omega
