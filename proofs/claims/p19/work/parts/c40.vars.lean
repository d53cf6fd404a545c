/-! The variables: the script's ints and the longs made of them. -/
def xa0 (xs : Nat → Int32) (c : Nat) : Int64 := if c < 16 then (xs c).toInt64 else if c < 32 then (xs (c - 16)).toInt64 <<< ((32 : Int32).toInt64 &&& 63) else if c < 48 then (xs (c - 32)).toInt64 &&& 4294967295 else if c < 256 then 0 else ((xs ((c - 256) / 16)).toInt64 <<< ((32 : Int32).toInt64 &&& 63)) ||| ((xs ((c - 256) % 16)).toInt64 &&& 4294967295)
def xa1 (xs : Nat → Int32) (c : Nat) : Int64 := if c < 512 then xa0 xs c else (xa0 xs (c - 512)).toInt32.toInt64
def xaF (xs : Nat → Int32) : Nat → Nat → Int64
  | 0, r => xa1 xs r
  | n + 1, r => xaF xs n r &&& 1
def xal (xs : Nat → Int32) (c : Nat) : Int64 := xaF xs (c / 1024) (c % 1024)
def xai (xs : Nat → Int32) (j : Nat) : Int32 := if j < 8192 then xs j else (xal xs (j - 8192)).toInt32
theorem xal_1 {xs : Nat → Int32} {c : Nat} (h : c < 1024) : xal xs c = xa1 xs c := by
  unfold xal
  rw [Nat.div_eq_of_lt h, Nat.mod_eq_of_lt h]
  rfl
theorem xal_0 {xs : Nat → Int32} {c : Nat} (h : c < 512) : xal xs c = xa0 xs c := by
  rw [xal_1 (by omega)]
  unfold xa1
  rw [if_pos h]
theorem xai_0 {xs : Nat → Int32} {c : Nat} (h : c < 8192) : xai xs c = xs c := by
  unfold xai
  rw [if_pos h]
theorem xai_16 {xs : Nat → Int32} {c : Nat} : xai xs (c + 8192) = (xal xs c).toInt32 := by
  unfold xai
  rw [if_neg (by omega), Nat.add_sub_cancel]
theorem xal_16 {xs : Nat → Int32} {c : Nat} (h : c < 16) : xal xs (c + 16) = (xs c).toInt64 <<< ((32 : Int32).toInt64 &&& 63) := by
  rw [xal_0 (by omega)]
  unfold xa0
  rw [if_neg (by omega), if_pos (by omega), Nat.add_sub_cancel]
theorem xal_32 {xs : Nat → Int32} {c : Nat} (h : c < 16) : xal xs (c + 32) = (xs c).toInt64 &&& 4294967295 := by
  rw [xal_0 (by omega)]
  unfold xa0
  rw [if_neg (by omega), if_neg (by omega), if_pos (by omega), Nat.add_sub_cancel]
theorem xal_256 {xs : Nat → Int32} {a b : Nat} (ha : a < 16) (hb : b < 16) : xal xs (256 + 16 * a + b) = xal xs (a + 16) ||| xal xs (b + 32) := by
  rw [xal_16 ha, xal_32 hb, xal_0 (by omega)]
  unfold xa0
  have e1 : (256 + 16 * a + b - 256) / 16 = a := by omega
  have e2 : (256 + 16 * a + b - 256) % 16 = b := by omega
  rw [if_neg (by omega), if_neg (by omega), if_neg (by omega), if_neg (by omega), e1, e2]
theorem xal_1024 {xs : Nat → Int32} {c : Nat} : xal xs (c + 1024) = xal xs c &&& 1 := by
  unfold xal
  have e1 : (c + 1024) / 1024 = c / 1024 + 1 := by omega
  have e2 : (c + 1024) % 1024 = c % 1024 := by omega
  rw [e1, e2]
  rfl
theorem xal_512 {xs : Nat → Int32} {c : Nat} (h : c < 512) : xal xs (c + 512) = (xai xs (c + 8192)).toInt64 := by
  rw [xai_16, xal_0 h, xal_1 (by omega)]
  unfold xa1
  rw [if_neg (by omega), Nat.add_sub_cancel]
theorem xGk_of {E : xE} {xs : Nat → Int32} {G : xk} (h1 : E.2.1 = xai xs) (h2 : E.2.2.1 = xal xs) (hop : 32 ≤ G.1.1 ∨ (xs 0 &&& 31) = Int32.ofNat G.1.1)
    (hb : ∀ (j : Nat) (q : Nat × Nat), G.2.1[j]? = some q → (q.1 : Int) ≤ (E.2.1 j).toInt + 2147483648 ∧ (E.2.1 j).toInt + 2147483648 ≤ (q.2 : Int))
    (hl : (G.2.2.1 : Int) ≤ (E.2.2.1 291).toInt + 9223372036854775808 ∧ (E.2.2.1 291).toInt + 9223372036854775808 ≤ (G.2.2.2 : Int)) (hL : G.1.2 < 65536) : xGk E G := by
  refine ⟨?_, hb, hl, fun c hc => ⟨?_, ?_, ?_⟩, fun a b ha hb => ?_, fun c => ?_, fun c => ?_, fun c hc => ?_, hL⟩
  · rw [h1, xai_0 (by decide)]; exact hop
  · rw [h1, h2, xai_0 (show _ < 8192 by omega), xal_0 (by omega)]; unfold xa0; rw [if_pos hc]
  · rw [h1, h2, xai_0 (show _ < 8192 by omega)]; exact xal_16 hc
  · rw [h1, h2, xai_0 (show _ < 8192 by omega)]; exact xal_32 hc
  · rw [h2]; exact xal_256 ha hb
  · rw [h2]; exact xal_1024
  · rw [h1, h2]; exact xai_16
  · rw [h1, h2]; exact xal_512 hc
theorem xi32 (x : Int32) : (0 : Int) ≤ x.toInt + 2147483648 ∧ x.toInt + 2147483648 ≤ ((4294967295 : Nat) : Int) := by
  have h1 := Int32.le_toInt x
  have h2 := Int32.toInt_lt x
  omega
theorem xi64 (x : Int64) : (0 : Int) ≤ x.toInt + 9223372036854775808 ∧ x.toInt + 9223372036854775808 ≤ ((18446744073709551615 : Nat) : Int) := by
  have h1 := Int64.le_toInt x
  have h2 := Int64.toInt_lt x
  omega
theorem xGk_b {E : xE} {xs : Nat → Int32} (h1 : E.2.1 = xai xs) (h2 : E.2.2.1 = xal xs) : xGk E xGb :=
  xGk_of h1 h2 (Or.inl (by show 32 ≤ 99; decide)) (fun j q hq => by cases hq) (xi64 _) (by show 0 < 65536; decide)
/-- all ints of the script are known -/
def xpt (z : Int) : Nat × Nat := ((z + 2147483648).toNat, (z + 2147483648).toNat)
def xGs (L : Nat) (xs : Nat → Int32) : xk := ((32, L), (List.range L).map (fun j => xpt (xs j).toInt), (0, 18446744073709551615))
theorem xGs_at {L : Nat} {xs : Nat → Int32} {j : Nat} (h : j < L) : (xGs L xs).2.1[j]? = some (xpt (xs j).toInt) := by
  show ((List.range L).map (fun j => xpt (xs j).toInt))[j]? = _
  rw [List.getElem?_map, List.getElem?_range h]
  rfl
theorem xGk_s {E : xE} {xs : Nat → Int32} {L : Nat} (h1 : E.2.1 = xai xs) (h2 : E.2.2.1 = xal xs) (hL : L ≤ 5120) : xGk E (xGs L xs) := by
  refine xGk_of h1 h2 (Or.inl (Nat.le_refl 32)) (fun j q hq => ?_) (xi64 _) (by show L < 65536; omega)
  have hj : j < L := by
    have := (List.getElem?_eq_some_iff.mp hq).1
    simpa [xGs] using this
  rw [xGs_at hj] at hq
  have e := Option.some.inj hq
  subst e
  rw [h1, xai_0 (show j < 8192 by omega)]
  have h8 := (xi32 (xs j)).1
  have e9 := Int.toNat_of_nonneg h8
  exact ⟨by show (((xs j).toInt + 2147483648).toNat : Int) ≤ _; omega, by show _ ≤ (((xs j).toInt + 2147483648).toNat : Int); omega⟩
theorem xGs_sc {L : Nat} {xs : Nat → Int32} (hL : L ≤ 5120) : ySc (xGs L xs) L (fun j => (xs j).toInt) := by
  refine ⟨⟨rfl, rfl⟩, by omega, fun j hj => ⟨⟨Int32.le_toInt _, Int32.toInt_lt _⟩, ((xs j).toInt + 2147483648).toNat, Int.toNat_of_nonneg (xi32 (xs j)).1, xGs_at hj⟩⟩
