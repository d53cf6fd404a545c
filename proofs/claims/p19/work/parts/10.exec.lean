set_option linter.unusedVariables false
/-! A small machine of its own over numbers: values (tag, number), cells, rows of micro-operations; it is run by the kernel. What it does is shown to be what the JVM does in the parts behind. -/
abbrev xv : Type := Nat × Nat
abbrev xl : Type := List (Nat × xv)
abbrev xc : Type := (Nat × Nat) × Nat × List xv
abbrev xh : Type := List xc
/-- the number is computed before it is handed on -/
def xf {α : Type} (n : Nat) (k : Nat → α) : α := match n with
  | 0 => k 0
  | m + 1 => k (Nat.succ m)
theorem xf_eq {α : Type} (n : Nat) (k : Nat → α) : xf n k = k n := by cases n <;> rfl
def xM : Nat := 4294967296
def xcat (v : xv) : Nat := match v.1 with
  | 1 => 2
  | 5 => 2
  | _ => 1
/-- the 32-bit digit i of N -/
def xg (w N i : Nat) : Nat := Nat.land (Nat.shiftRight N (w * i)) (2 ^ w - 1)
def xs (w N i v : Nat) : Nat := Nat.xor N (Nat.shiftLeft (Nat.xor (xg w N i) v) (w * i))
theorem xg_lt (w N i : Nat) : xg w N i < 2 ^ w := by
  have h : N >>> (w * i) &&& (2 ^ w - 1) = (N >>> (w * i)) % 2 ^ w := Nat.and_two_pow_sub_one_eq_mod _ _
  show N >>> (w * i) &&& (2 ^ w - 1) < _
  rw [h]
  exact Nat.mod_lt _ (Nat.two_pow_pos w)
theorem xg_bit (w N i b : Nat) : (xg w N i).testBit b = (decide (b < w) && N.testBit (w * i + b)) := by
  show (N >>> (w * i) &&& (2 ^ w - 1)).testBit b = _
  rw [Nat.testBit_and, Nat.testBit_shiftRight, Nat.testBit_two_pow_sub_one, Bool.and_comm]
theorem xg_xs (w N i j v : Nat) (hv : v < 2 ^ w) : xg w (xs w N i v) j = if j = i then v else xg w N j := by
  apply Nat.eq_of_testBit_eq
  intro b
  rw [xg_bit]
  show (decide (b < w) && (N ^^^ ((xg w N i ^^^ v) <<< (w * i))).testBit (w * j + b)) = _
  rw [Nat.testBit_xor, Nat.testBit_shiftLeft, Nat.testBit_xor]
  by_cases hb : b < w
  · by_cases hj : j = i
    · subst hj
      rw [if_pos rfl, xg_bit]
      have h1 : w * j + b - w * j = b := by omega
      simp [hb, h1]
    · rw [if_neg hj]
      have hz : (decide (w * j + b ≥ w * i) && ((xg w N i).testBit (w * j + b - w * i) ^^ v.testBit (w * j + b - w * i))) = false := by
        by_cases hge : w * j + b ≥ w * i
        · have hgt : w ≤ w * j + b - w * i := by
            have hij : i < j := by
              rcases Nat.lt_or_ge i j with h | h
              · exact h
              · exfalso
                have hlt : j < i := Nat.lt_of_le_of_ne h hj
                have h2 : w * (j + 1) ≤ w * i := Nat.mul_le_mul_left w hlt
                rw [Nat.mul_add, Nat.mul_one] at h2
                omega
            have h2 : w * (i + 1) ≤ w * j := Nat.mul_le_mul_left w hij
            rw [Nat.mul_add, Nat.mul_one] at h2
            omega
          have e1 : (xg w N i).testBit (w * j + b - w * i) = false := Nat.testBit_lt_two_pow (Nat.lt_of_lt_of_le (xg_lt w N i) (Nat.pow_le_pow_right (by decide) hgt))
          have e2 : v.testBit (w * j + b - w * i) = false := Nat.testBit_lt_two_pow (Nat.lt_of_lt_of_le hv (Nat.pow_le_pow_right (by decide) hgt))
          rw [e1, e2]; simp
        · simp [hge]
      rw [hz, xg_bit]
      simp [hb]
  · rw [decide_eq_false hb, Bool.false_and]
    by_cases hj : j = i
    · rw [if_pos hj]
      exact (Nat.testBit_lt_two_pow (Nat.lt_of_lt_of_le hv (Nat.pow_le_pow_right (by decide) (Nat.not_lt.mp hb)))).symm
    · rw [if_neg hj, xg_bit, decide_eq_false hb, Bool.false_and]
theorem xg_zero (w i : Nat) : xg w 0 i = 0 := by
  show 0 >>> (w * i) &&& (2 ^ w - 1) = 0
  simp
/-- what is kept of the locals when a value of category c goes to place i -/
def xkeep (i c : Nat) (q : Nat × xv) : Bool := !(Nat.beq q.1 i) && (!(Nat.beq c 2 && Nat.beq q.1 (i + 1)) && !(Nat.beq (q.1 + 1) i && Nat.beq (xcat q.2) 2))
noncomputable def xflt {α : Type} (l : xl) (i c : Nat) (k : xl → α) : α := List.rec (motive := fun _ => (xl → α) → α) (fun k => k []) (fun q _ ih k => Bool.rec (motive := fun _ => α) (ih k) (ih (fun r' => k (q :: r'))) (xkeep i c q)) l k
theorem xflt_cons {α : Type} (q : Nat × xv) (r : xl) (i c : Nat) (k : xl → α) : xflt (q :: r) i c k = Bool.rec (motive := fun _ => α) (xflt r i c k) (xflt r i c (fun r' => k (q :: r'))) (xkeep i c q) := rfl
theorem xflt_eq {α : Type} (l : xl) (i c : Nat) (k : xl → α) : xflt l i c k = k (l.filter (xkeep i c)) := by
  induction l generalizing k with
  | nil => rfl
  | cons q r ih =>
    rw [xflt_cons]
    cases h : xkeep i c q with
    | true => simp only [h, ih, List.filter]
    | false => simp only [h, ih, List.filter]
noncomputable def xat (l : xl) (i : Nat) : Option xv := List.rec (motive := fun _ => Option xv) none (fun q _ ih => Bool.rec (motive := fun _ => Option xv) ih (some q.2) (Nat.beq q.1 i)) l
theorem xat_cons (q : Nat × xv) (r : xl) (i : Nat) : xat (q :: r) i = Bool.rec (motive := fun _ => Option xv) (xat r i) (some q.2) (Nat.beq q.1 i) := rfl
theorem xat_mem {l : xl} {i : Nat} {v : xv} (h : xat l i = some v) : (i, v) ∈ l := by
  induction l with
  | nil => cases h
  | cons q r ih =>
    rw [xat_cons] at h
    cases hb : Nat.beq q.1 i with
    | true =>
      rw [hb] at h
      have h : some q.2 = some v := h
      cases h
      have e : q.1 = i := Nat.eq_of_beq_eq_true hb
      rw [← e]
      exact List.mem_cons_self
    | false =>
      rw [hb] at h
      exact List.mem_cons_of_mem _ (ih h)
noncomputable def xhset {α : Type} (h : xh) (n : Nat) (c : xc) (k : xh → α) : α := List.rec (motive := fun _ => Nat → (xh → α) → α) (fun _ k => k []) (fun x r ih n k => Nat.rec (motive := fun _ => α) (k (c :: r)) (fun m _ => ih m (fun r' => k (x :: r'))) n) h n k
theorem xhset_eq {α : Type} (h : xh) (n : Nat) (c : xc) (k : xh → α) : xhset h n c k = k (h.set n c) := by
  induction h generalizing n k with
  | nil => rfl
  | cons x r ih => cases n with
    | zero => rfl
    | succ m =>
      show xhset r m c (fun r' => k (x :: r')) = _
      rw [ih]
      rfl
noncomputable def xhpush {α : Type} (h : xh) (c : xc) (k : xh → α) : α := List.rec (motive := fun _ => (xh → α) → α) (fun k => k [c]) (fun x _ ih k => ih (fun r' => k (x :: r'))) h k
theorem xhpush_eq {α : Type} (h : xh) (c : xc) (k : xh → α) : xhpush h c k = k (h ++ [c]) := by
  induction h generalizing k with
  | nil => rfl
  | cons x r ih =>
    show xhpush r c (fun r' => k (x :: r')) = _
    rw [ih]
    rfl
noncomputable def xvset {α : Type} (h : List xv) (n : Nat) (c : xv) (k : List xv → α) : α := List.rec (motive := fun _ => Nat → (List xv → α) → α) (fun _ k => k []) (fun x r ih n k => Nat.rec (motive := fun _ => α) (k (c :: r)) (fun m _ => ih m (fun r' => k (x :: r'))) n) h n k
theorem xvset_eq {α : Type} (h : List xv) (n : Nat) (c : xv) (k : List xv → α) : xvset h n c k = k (h.set n c) := by
  induction h generalizing n k with
  | nil => rfl
  | cons x r ih => cases n with
    | zero => rfl
    | succ m =>
      show xvset r m c (fun r' => k (x :: r')) = _
      rw [ih]
      rfl
