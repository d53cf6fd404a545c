/-! What the numbers stand for: values, cells, worlds. E: the first new address; the int and long variables; the addresses of the script and of the String constants, of their bytes; a static of which only 'a reference or null' is known. -/
abbrev xE : Type := Nat × (Nat → Int32) × (Nat → Int64) × (Nat → Nat) × (Nat → Nat) × (Nat → Option Nat)
def xr (E : xE) (v : xv) : Value := match v.1 with
  | 0 => .int (Int32.ofNat v.2)
  | 1 => .long (Int64.ofNat v.2)
  | 2 => .ref (E.1 + v.2)
  | 3 => .null
  | 4 => .int (E.2.1 v.2)
  | 5 => .long (E.2.2.1 v.2)
  | 6 => .ref (E.2.2.2.1 v.2)
  | 7 => .ref (E.2.2.2.2.1 v.2)
  | _ => va_rf (E.2.2.2.2.2 v.2)
theorem xr_cat (E : xE) (v : xv) : (xr E v).category = xcat v := by
  obtain ⟨t, n⟩ := v
  match t with
  | 0 => rfl
  | 1 => rfl
  | 2 => rfl
  | 3 => rfl
  | 4 => rfl
  | 5 => rfl
  | 6 => rfl
  | 7 => rfl
  | k + 8 =>
    show (va_rf (E.2.2.2.2.2 n)).category = 1
    cases E.2.2.2.2.2 n <;> rfl
def xrl (E : xE) (l : xl) : List (Nat × Value) := l.map (fun q => (q.1, xr E q.2))
/-- the contents of an array -/
def xca (k N : Nat) : ((Nat → Int32) ⊕ (Nat → Int64) ⊕ (Nat → UInt32) ⊕ (Nat → UInt64) ⊕ (Nat → Option Nat)) := match k with
  | 11 => .inr (.inl (fun j => Int64.ofNat (xg 64 N j)))
  | _ => .inl (fun j => Int32.ofNat (xg 32 N j))
def xre (E : xE) (dA : Nat → ClassId) (c : xc) : va_E := if 1000 ≤ c.1.1 then .inl (dA (c.1.1 - 1000), c.1.2, xca (c.1.1 - 1000) c.2.1) else .inr (c.1.1, c.2.2.map (xr E))
def xrh (E : xE) (dA : Nat → ClassId) (h : xh) : va_W := h.mapIdx (fun k c => (E.1 + k, xre E dA c))
theorem xrh_get {E : xE} {dA : Nat → ClassId} {h : xh} {k : Nat} {c : xc} (hk : h[k]? = some c) : (xrh E dA h)[k]? = some (E.1 + k, xre E dA c) := by
  simp [xrh, hk]
theorem xrh_set {E : xE} {dA : Nat → ClassId} {h : xh} {k : Nat} {c c' : xc} (hk : h[k]? = some c) : (xrh E dA h).set k (E.1 + k, xre E dA c') = xrh E dA (h.set k c') := by
  apply List.ext_getElem?
  intro j
  simp only [xrh, List.getElem?_set, List.getElem?_mapIdx, List.length_mapIdx]
  by_cases hj : k = j
  · subst hj
    have hlt : k < h.length := (List.getElem?_eq_some_iff.mp hk).1
    simp [hlt]
  · simp [hj]
theorem xrh_push {E : xE} {dA : Nat → ClassId} {h : xh} {c : xc} : xrh E dA (h ++ [c]) = xrh E dA h ++ [(E.1 + h.length, xre E dA c)] := by
  simp [xrh, List.mapIdx_append]
theorem xnth_eq {α : Type} (l : List α) (n : Nat) : xnth l n = l[n]? := by
  induction l generalizing n with
  | nil => rfl
  | cons a r ih => cases n with
    | zero => rfl
    | succ m =>
      show xnth r m = _
      rw [ih]
      rfl
theorem xrh_D {E : xE} {dA : Nat → ClassId} {h : xh} {A : Nat → Prop} (hA : ∀ q, E.1 ≤ q → A q) : va_D A (xrh E dA h) := by
  refine ⟨fun i j p q hi hj e => ?_, fun k q hq => ?_⟩
  · simp only [xrh, List.getElem?_mapIdx, Option.map_eq_some_iff] at hi hj
    obtain ⟨_, _, rfl⟩ := hi
    obtain ⟨_, _, rfl⟩ := hj
    have : E.1 + i = E.1 + j := e
    omega
  · simp only [xrh, List.getElem?_mapIdx, Option.map_eq_some_iff] at hq
    obtain ⟨_, _, rfl⟩ := hq
    exact hA _ (Nat.le_add_right _ _)
/-! arithmetic -/
theorem i32_bv (n : Nat) : (Int32.ofNat n).toBitVec = BitVec.ofNat 32 n := rfl
theorem i64_bv (n : Nat) : (Int64.ofNat n).toBitVec = BitVec.ofNat 64 n := rfl
theorem i32_eq {a b : Nat} (h : a % xM = b % xM) : Int32.ofNat a = Int32.ofNat b := by
  apply Int32.toBitVec_inj.mp
  rw [i32_bv, i32_bv]
  apply BitVec.eq_of_toNat_eq
  simp only [BitVec.toNat_ofNat]
  exact h
theorem i32_add (a b : Nat) : Int32.ofNat a + Int32.ofNat b = Int32.ofNat ((a + b) % xM) := by
  rw [← Int32.ofNat_add]
  exact i32_eq (by simp [xM])
theorem i32_mul (a b : Nat) : Int32.ofNat a * Int32.ofNat b = Int32.ofNat (a * b % xM) := by
  rw [← Int32.ofNat_mul]
  exact i32_eq (by simp [xM])
theorem i32_sub (a b : Nat) : Int32.ofNat a - Int32.ofNat b = Int32.ofNat ((a + (xM - b % xM)) % xM) := by
  apply Int32.toBitVec_inj.mp
  rw [Int32.toBitVec_sub, i32_bv, i32_bv, i32_bv]
  apply BitVec.eq_of_toNat_eq
  simp only [BitVec.toNat_sub, BitVec.toNat_ofNat, xM]
  omega
theorem i32_and (a b : Nat) : Int32.ofNat a &&& Int32.ofNat b = Int32.ofNat (Nat.land a b) := by
  apply Int32.toBitVec_inj.mp
  rw [Int32.toBitVec_and, i32_bv, i32_bv, i32_bv]
  apply BitVec.eq_of_toNat_eq
  show (BitVec.ofNat 32 a &&& BitVec.ofNat 32 b).toNat = (BitVec.ofNat 32 (a &&& b)).toNat
  simp only [BitVec.toNat_and, BitVec.toNat_ofNat, Nat.and_mod_two_pow]
theorem i32_or (a b : Nat) : Int32.ofNat a ||| Int32.ofNat b = Int32.ofNat (Nat.lor a b) := by
  apply Int32.toBitVec_inj.mp
  rw [Int32.toBitVec_or, i32_bv, i32_bv, i32_bv]
  apply BitVec.eq_of_toNat_eq
  show (BitVec.ofNat 32 a ||| BitVec.ofNat 32 b).toNat = (BitVec.ofNat 32 (a ||| b)).toNat
  simp only [BitVec.toNat_or, BitVec.toNat_ofNat, Nat.or_mod_two_pow]
theorem i32_xor (a b : Nat) : Int32.ofNat a ^^^ Int32.ofNat b = Int32.ofNat (Nat.xor a b) := by
  apply Int32.toBitVec_inj.mp
  rw [Int32.toBitVec_xor, i32_bv, i32_bv, i32_bv]
  apply BitVec.eq_of_toNat_eq
  show (BitVec.ofNat 32 a ^^^ BitVec.ofNat 32 b).toNat = (BitVec.ofNat 32 (a ^^^ b)).toNat
  simp only [BitVec.toNat_xor, BitVec.toNat_ofNat, Nat.xor_mod_two_pow]
