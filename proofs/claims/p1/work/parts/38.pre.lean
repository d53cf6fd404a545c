noncomputable section XNC
/-! The run is left off at the law's loop (row 13), where nothing of the script has been read: from there one run for each box of arguments. -/
def xl13 : xl := [(4, (0, 0)), (3, (2, 81)), (2, (2, 43)), (1, (2, 0)), (0, (6, 0))]
def xH13 : xh := [((0, 10), 0, [(2, 1), (2, 9), (2, 17), (2, 22), (2, 26), (2, 29), (2, 31), (2, 33), (2, 40), (2, 42)]),
  ((1, 8), 0, [(2, 2), (2, 3), (2, 4), (2, 5), (2, 6), (2, 7), (2, 8), (0, 4)]),
  ((1004, 20), 0, []),
  ((1010, 20), 79228162532711081671548469249, []),
  ((1010, 20), 316912650130844326686193876996, []),
  ((1010, 20), 79228162532711081671548469247, []),
  ((1010, 20), 871509787786034922057835216897, []),
  ((1010, 20), 0, []),
  ((1010, 80), 0, []),
  ((2, 9), 0, [(2, 1), (2, 10), (2, 11), (2, 12), (2, 13), (2, 14), (2, 15), (2, 16), (0, 4)]),
  ((1010, 60), 237684487579686500932345921536, []),
  ((1010, 60), 792281625327110816715484692490, []),
  ((1010, 60), 79228162532711081671548469249, []),
  ((1010, 60), 0, []),
  ((1010, 60), 0, []),
  ((1010, 60), 0, []),
  ((1010, 180), 0, []),
  ((3, 13), 0, [(2, 1), (2, 9), (2, 18), (2, 19), (2, 20), (2, 21), (0, 0), (0, 0), (0, 0), (0, 0), (0, 0), (0, 0), (0, 0)]),
  ((1010, 3), 0, []),
  ((1010, 20), 0, []),
  ((1010, 60), 0, []),
  ((1010, 60), 0, []),
  ((4, 4), 0, [(2, 23), (2, 24), (2, 25), (0, 0)]),
  ((1010, 24), 0, []),
  ((1010, 24), 0, []),
  ((1010, 24), 0, []),
  ((5, 6), 0, [(2, 27), (2, 28), (0, 0), (0, 4294967295), (0, 0), (1, 0)]),
  ((1010, 4), 0, []),
  ((1011, 4), 0, []),
  ((6, 6), 0, [(2, 1), (2, 9), (2, 22), (2, 26), (2, 30), (1, 0)]),
  ((1011, 4), 0, []),
  ((7, 2), 0, [(2, 32), (0, 0)]),
  ((1008, 512), 0, []),
  ((8, 16), 0, [(2, 1), (2, 9), (2, 17), (2, 22), (2, 31), (2, 34), (2, 36), (0, 0), (0, 0), (0, 0), (0, 0), (0, 0), (0, 0), (0, 0), (0, 0), (0, 0)]),
  ((7, 2), 0, [(2, 35), (0, 0)]),
  ((1008, 512), 0, []),
  ((9, 6), 0, [(2, 1), (2, 31), (2, 37), (2, 38), (2, 39), (0, 0)]),
  ((1010, 64), 0, []),
  ((1010, 128), 0, []),
  ((1010, 128), 0, []),
  ((10, 6), 0, [(2, 31), (2, 41), (0, 0), (0, 0), (0, 0), (0, 0)]),
  ((1010, 128), 0, []),
  ((1010, 10), 0, []),
  ((11, 60), 0, [(0, 0), (0, 4), (2, 44), (2, 45), (2, 46), (2, 47), (2, 48), (2, 49), (2, 50), (2, 51), (0, 4), (2, 52), (2, 53), (2, 54), (2, 55), (2, 56), (2, 57), (2, 58), (2, 59), (0, 0), (0, 0), (0, 0), (0, 0), (2, 60), (2, 61), (2, 62), (2, 63), (2, 64), (2, 65), (2, 66), (2, 67), (0, 0), (2, 68), (0, 0), (0, 4294967295), (0, 0), (1, 0), (1, 0), (2, 69), (2, 70), (2, 71), (2, 72), (0, 0), (0, 0), (2, 73), (2, 74), (2, 75), (2, 76), (2, 77), (0, 0), (0, 0), (0, 0), (0, 0), (0, 0), (2, 78), (2, 79), (0, 0), (0, 0), (0, 0), (2, 80)]),
  ((1004, 20), 0, []),
  ((1004, 20), 79228162532711081671548469249, []),
  ((1004, 20), 0, []),
  ((1004, 20), 0, []),
  ((1010, 20), 316912650130844326686193876996, []),
  ((1010, 20), 79228162532711081671548469247, []),
  ((1010, 80), 0, []),
  ((1010, 20), 0, []),
  ((1010, 60), 237684487579686500932345921536, []),
  ((1010, 60), 792281625327110816715484692490, []),
  ((1010, 60), 79228162532711081671548469249, []),
  ((1010, 60), 0, []),
  ((1010, 60), 0, []),
  ((1010, 180), 0, []),
  ((1010, 60), 0, []),
  ((1010, 10), 0, []),
  ((1010, 24), 0, []),
  ((1010, 24), 0, []),
  ((1010, 72), 0, []),
  ((1010, 24), 0, []),
  ((1010, 3), 0, []),
  ((1004, 24), 0, []),
  ((1010, 60), 0, []),
  ((1004, 60), 0, []),
  ((1004, 20), 0, []),
  ((1010, 4), 0, []),
  ((1011, 4), 0, []),
  ((1010, 24000), 0, []),
  ((1010, 24000), 0, []),
  ((1010, 1200), 0, []),
  ((1010, 1200), 0, []),
  ((1010, 1200), 0, []),
  ((1010, 24000), 0, []),
  ((1010, 200), 0, []),
  ((1004, 20), 0, []),
  ((1010, 400), 0, []),
  ((1010, 24002), 0, []),
  ((1011, 1), 0, [])]
def xmk : (Nat × xv) × xh × Nat × Nat := ((9, (0, 0)), [], 0, 0)
def xq13 : xrec := fun C i lv st hp bc bs d => cond (Nat.beq C xC188 && (Nat.beq i 13 && (decide (lv = xl13) && (decide (st = []) && (decide (hp = xH13) && (Nat.beq bc 599920 && (Nat.beq bs 7198323 && Nat.beq d 40))))))) (some xmk) none
def xrunS (P : xP) (G : xk) (i0 d0 : Nat) (q : xrec) (n : Nat) : xrec := Nat.rec (motive := fun _ => xrec) (fun _ _ _ _ _ _ _ _ => none) (fun _ ih => fun C i lv st hp bc bs d => cond (Nat.beq i i0 && Nat.beq d d0) (q C i lv st hp bc bs d) (xstep P G ih C i lv st hp bc bs d)) n
theorem xrunS_ok {X : xFix} {q : xrec} {i0 d0 : Nat} (hV : xV X) (hq : xIH X q) : ∀ n, xIH X (xrunS X.P X.G i0 d0 q n) := by
  intro n
  induction n with
  | zero => intro C i lv st hp bc bs d out h; cases h
  | succ n ih =>
    intro C i lv st hp bc bs d out h
    have h : cond (Nat.beq i i0 && Nat.beq d d0) (q C i lv st hp bc bs d) (xstep X.P X.G (xrunS X.P X.G i0 d0 q n) C i lv st hp bc bs d) = some out := h
    cases hc : Nat.beq i i0 && Nat.beq d d0 with
    | true => rw [hc] at h; exact hq C i lv st hp bc bs d out h
    | false => rw [hc] at h; exact xstep_ok hV ih C i lv st hp bc bs d out h
/-- nothing is known -/
def xG0 (L : Nat) : xk := ((32, L), [], (0, 18446744073709551615))
def xis (r : xres) : Bool := match r with
  | some ((9, (0, 0)), [], 0, 0) => true
  | _ => false
theorem xis_of {r : xres} (h : xis r = true) : r = some xmk := by
  unfold xis at h
  split at h
  · rfl
  · cases h
theorem xpre : xrunS xPr (xG0 10) 13 40 xq13 50000 xC188 0 [(0, (6, 0))] [] [] 600002 7302232 40 = some xmk := xis_of (by decide +kernel)
def xok1 (r : xres) : Bool := match r with
  | some ((1, (0, 1)), _) => true
  | _ => false
theorem xok1_of {r : xres} (h : xok1 r = true) : ∃ out, r = some out ∧ out.1 = (1, (0, 1)) := by
  unfold xok1 at h
  split at h
  · exact ⟨_, rfl, rfl⟩
  · cases h
/-- too short a script: no call -/
theorem xshort : (List.range 10).all (fun L => xok1 (xrun xPr (xG0 L) 50000 xC188 0 [(0, (6, 0))] [] [] 600002 7302232 40)) = true := by decide +kernel
def xbox (G : xk) : Bool := xok1 (xrun xPr G 50000 xC188 13 xl13 [] xH13 599920 7198323 40)
theorem xbox_of {l : List xk} (h : l.all xbox = true) (i : Nat) {G : xk} (hi : l[i]? = some G) : xbox G = true := List.all_eq_true.mp h G (List.mem_of_getElem? hi)
def xAll (E : xE) (P : Prop) : Prop := ∀ G : xk, G.1.2 = 10 → xbox G = true → xGk E G → P
theorem xcutI {E : xE} {P : Prop} {g : Nat × Nat} {bd bd1 bd2 : List (Nat × Nat)} {lb : Nat × Nat} (j k lo hi : Nat) (hj : bd[j]? = some (lo, hi)) (e1 : bd1 = bd.set j (lo, k - 1)) (e2 : bd2 = bd.set j (k, hi)) (hk : 1 ≤ k) (h : xGk E (g, bd, lb)) (h1 : xGk E (g, bd1, lb) → P) (h2 : xGk E (g, bd2, lb) → P) : P := by
  obtain ⟨q1, q2, q3⟩ := h
  have hjl : j < bd.length := (List.getElem?_eq_some_iff.mp hj).1
  obtain ⟨b1, b2⟩ := q2 j _ hj
  rcases Int.lt_or_le ((E.2.1 j).toInt + 2147483648) (k : Int) with hlt | hge
  · refine h1 ⟨q1, fun i q hq => ?_, q3⟩
    have hq : (bd.set j (lo, k - 1))[i]? = some q := by rw [← e1]; exact hq
    by_cases hij : j = i
    · subst hij
      rw [List.getElem?_set_self hjl] at hq
      cases hq
      exact ⟨b1, by show _ ≤ ((k - 1 : Nat) : Int); omega⟩
    · rw [List.getElem?_set_ne hij] at hq
      exact q2 i q hq
  · refine h2 ⟨q1, fun i q hq => ?_, q3⟩
    have hq : (bd.set j (k, hi))[i]? = some q := by rw [← e2]; exact hq
    by_cases hij : j = i
    · subst hij
      rw [List.getElem?_set_self hjl] at hq
      cases hq
      exact ⟨hge, b2⟩
    · rw [List.getElem?_set_ne hij] at hq
      exact q2 i q hq
theorem xcutL {E : xE} {P : Prop} {g : Nat × Nat} {bd : List (Nat × Nat)} {lo hi k : Nat} (hk : 1 ≤ k) (h : xGk E (g, bd, (lo, hi))) (h1 : xGk E (g, bd, (lo, k - 1)) → P) (h2 : xGk E (g, bd, (k, hi)) → P) : P := by
  obtain ⟨q1, q2, ⟨b1, b2⟩, q4⟩ := h
  rcases Int.lt_or_le ((E.2.2.1 291).toInt + 9223372036854775808) (k : Int) with hlt | hge
  · exact h1 ⟨q1, q2, ⟨b1, by show _ ≤ ((k - 1 : Nat) : Int); omega⟩, q4⟩
  · exact h2 ⟨q1, q2, ⟨hge, b2⟩, q4⟩
end XNC
