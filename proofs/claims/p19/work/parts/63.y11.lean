set_option linter.unusedVariables false
noncomputable section XNC
/-! words about the state that look at some fields and rows alone -/
def yX (FF : List (Nat × Nat)) (FA : List Nat) (X : yS → Prop) : Prop := ∀ S S' : yS, (∀ b w, yin2 FF b w = true → S'.f b w = S.f b w) → (∀ b, yin FA b = true → ∀ j, S'.a b j = S.a b j) → X S → X S'
def ydj2 : List (Nat × Nat) → List (Nat × Nat) → Bool
  | [], _ => true
  | (a, v) :: r, m => !(yin2 m a v) && ydj2 r m
def ydj1 : List Nat → List Nat → Bool
  | [], _ => true
  | a :: r, m => !(yin m a) && ydj1 r m
theorem ydj2_of {l m : List (Nat × Nat)} (h : ydj2 l m = true) {b w : Nat} (e : yin2 l b w = true) : yin2 m b w = false := by
  induction l with
  | nil => cases e
  | cons q r ih =>
    obtain ⟨a, v⟩ := q
    have h : (!(yin2 m a v) && ydj2 r m) = true := h
    rw [Bool.and_eq_true] at h
    have e : (Nat.beq a b && Nat.beq v w || yin2 r b w) = true := e
    rw [Bool.or_eq_true] at e
    rcases e with e | e
    · rw [Bool.and_eq_true] at e
      have e1 := Nat.eq_of_beq_eq_true e.1
      have e2 := Nat.eq_of_beq_eq_true e.2
      subst e1 e2
      simpa using h.1
    · exact ih h.2 e
theorem ydj1_of {l m : List Nat} (h : ydj1 l m = true) {b : Nat} (e : yin l b = true) : yin m b = false := by
  induction l with
  | nil => cases e
  | cons a r ih =>
    have h : (!(yin m a) && ydj1 r m) = true := h
    rw [Bool.and_eq_true] at h
    have e : (Nat.beq a b || yin r b) = true := e
    rw [Bool.or_eq_true] at e
    rcases e with e | e
    · have e1 := Nat.eq_of_beq_eq_true e
      subst e1
      simpa using h.1
    · exact ih h.2 e
section
variable {FF MF : List (Nat × Nat)} {FA MA : List Nat} {X : yS → Prop} {S S' : yS}
theorem yX.setf (h : yX FF FA X) (hx : X S) {b w : Nat} {z : Int} (e : yin2 FF b w = false) : X (ysf S b w z) := by
  refine h S _ (fun b' w' e' => ysf_ne ?_) (fun _ _ _ => rfl) hx
  by_cases h1 : b' = b
  · by_cases h2 : w' = w
    · subst h1 h2; rw [e] at e'; cases e'
    · exact Or.inr h2
  · exact Or.inl h1
theorem yX.seta (h : yX FF FA X) (hx : X S) {b j : Nat} {z : Int} (e : yin FA b = false) : X (ysa S b j z) := by
  refine h S _ (fun _ _ _ => rfl) (fun b' e' j' => ysa_ne (Or.inl ?_)) hx
  intro h1
  subst h1
  rw [e] at e'
  cases e'
theorem yX.fr (h : yX FF FA X) (hx : X S) (hF : yFr MF MA S S') (e1 : ydj2 FF MF = true) (e2 : ydj1 FA MA = true) : X S' :=
  h S S' (fun b w e => hF.f (ydj2_of e1 e)) (fun b e j => hF.a (ydj1_of e2 e) j) hx
end
/-! the interfaces that were asked for are types -/
def FA (S : yS) : Prop := ∀ j : Nat, (j : Int) < S.f 17 7 → 0 ≤ S.a 18 j
theorem FAx : yX [(17, 7)] [18] FA := by
  intro S S' hf ha h j hj
  rw [hf 17 7 rfl] at hj
  rw [ha 18 rfl]
  exact h j hj
theorem FA_0 {S : yS} (h : S.f 17 7 = 0) : FA S := fun j hj => absurd hj (by omega)
theorem FA_push {S S' : yS} (h : FA S) (h0 : 0 ≤ S.f 17 7) (e : S'.f 17 7 = S.f 17 7 + 1) (ha : ∀ j, S'.a 18 j = S.a 18 j) (hz : 0 ≤ S.a 18 (S.f 17 7).toNat) : FA S' := by
  intro j hj
  rw [ha]
  rcases Int.lt_or_le (j : Int) (S.f 17 7) with h1 | h1
  · exact h j h1
  · have : j = (S.f 17 7).toNat := by omega
    rw [this]; exact hz
/-! what was counted: each once -/
def DC (S : yS) : Prop := (∀ i j : Nat, i < j → (j : Int) < S.f 17 11 → S.a 20 i ≠ S.a 20 j) ∧ ∀ i : Nat, (i : Int) < S.f 17 11 → 0 ≤ S.a 20 i ∧ S.a 20 i < S.f 9 8
theorem DCx : yX [(17, 11), (9, 8)] [20] DC := by
  intro S S' hf ha h
  refine ⟨fun i j hij hj => ?_, fun i hi => ?_⟩
  · rw [hf 17 11 rfl] at hj
    rw [ha 20 rfl, ha 20 rfl]
    exact h.1 i j hij hj
  · rw [hf 17 11 rfl] at hi
    rw [ha 20 rfl, hf 9 8 rfl]
    exact h.2 i hi
theorem DC_0 {S : yS} (h : S.f 17 11 = 0) : DC S := ⟨fun i j _ hj => absurd hj (by omega), fun i hi => absurd hi (by omega)⟩
/-- different numbers below n are at most n -/
theorem pigeon : ∀ (n c : Nat) (g : Nat → Int), (∀ i j, i < j → j < c → g i ≠ g j) → (∀ i, i < c → 0 ≤ g i ∧ g i < n) → c ≤ n := by
  intro n
  induction n with
  | zero =>
    intro c g _ h2
    rcases Nat.eq_zero_or_pos c with h | h
    · omega
    · have := h2 0 h; omega
  | succ n ih =>
    intro c g h1 h2
    by_cases hex : ∃ k, k < c ∧ g k = n
    · obtain ⟨k, hk, hg⟩ := hex
      have := ih (c - 1) (fun i => if i < k then g i else g (i + 1)) (fun i j hij hj => by
        by_cases hi : i < k <;> by_cases hj2 : j < k <;> simp only [hi, hj2, if_true, if_false]
        · exact h1 i j hij (by omega)
        · exact h1 i (j + 1) (by omega) (by omega)
        · omega
        · exact h1 (i + 1) (j + 1) (by omega) (by omega)) (fun i hi => by
        by_cases hik : i < k
        · simp only [hik, if_true]
          have h3 := h2 i (by omega)
          have h4 := h1 i k hik hk
          omega
        · simp only [hik, if_false]
          have h3 := h2 (i + 1) (by omega)
          have h4 := h1 k (i + 1) (by omega) (by omega)
          omega)
      omega
    · have := ih c g h1 (fun i hi => by
        have h3 := h2 i hi
        have h4 : g i ≠ n := fun e => hex ⟨i, hi, e⟩
        omega)
      omega
theorem DC_room {S : yS} {m : Int} (h : DC S) (h0 : 0 ≤ S.f 17 11) (hn : ∀ j : Nat, (j : Int) < S.f 17 11 → S.a 20 j ≠ m) (hm0 : 0 ≤ m) (hm : m < S.f 9 8) : S.f 17 11 + 1 ≤ S.f 9 8 := by
  have := pigeon (S.f 9 8).toNat ((S.f 17 11).toNat + 1) (fun i => if i < (S.f 17 11).toNat then S.a 20 i else m) (fun i j hij hj => by
      have hi : i < (S.f 17 11).toNat := by omega
      simp only [hi, if_true]
      by_cases hj2 : j < (S.f 17 11).toNat
      · simp only [hj2, if_true]; exact h.1 i j hij (by omega)
      · simp only [hj2, if_false]; exact hn i (by omega)) (fun i hi => by
      by_cases hi2 : i < (S.f 17 11).toNat
      · simp only [hi2, if_true]
        have := h.2 i (by omega)
        omega
      · simp only [hi2, if_false]; omega)
  omega
theorem DC_push {S S' : yS} {m : Int} (h : DC S) (h0 : 0 ≤ S.f 17 11) (hn : ∀ j : Nat, (j : Int) < S.f 17 11 → S.a 20 j ≠ m) (hm0 : 0 ≤ m) (hm : m < S.f 9 8) (e : S'.f 17 11 = S.f 17 11 + 1) (e2 : S'.f 9 8 = S.f 9 8) (ha : ∀ j, S'.a 20 j = (ysa S 20 (S.f 17 11).toNat m).a 20 j) : DC S' := by
  have hq : ∀ i : Nat, i ≠ (S.f 17 11).toNat → S'.a 20 i = S.a 20 i := fun i hi => (ha i).trans (ysa_ne (Or.inr hi))
  have hl : S'.a 20 (S.f 17 11).toNat = m := (ha _).trans ysa_eq
  refine ⟨fun i j hij hj => ?_, fun i hi => ?_⟩
  · rw [hq i (by omega)]
    by_cases hj2 : j = (S.f 17 11).toNat
    · rw [hj2, hl]; exact hn i (by omega)
    · rw [hq j hj2]; exact h.1 i j hij (by omega)
  · rw [e2]
    by_cases hi2 : i = (S.f 17 11).toNat
    · rw [hi2, hl]; exact ⟨hm0, hm⟩
    · rw [hq i hi2]; exact h.2 i (by omega)
/-! what was found is no constructor -/
def FN (S : yS) : Prop := ∀ j : Nat, (j : Int) < S.f 17 12 → S.a 11 (S.a 21 j).toNat ≤ 9
theorem FNx : yX [(17, 12)] [21, 11] FN := by
  intro S S' hf ha h j hj
  rw [hf 17 12 rfl] at hj
  rw [ha 21 rfl, ha 11 rfl]
  exact h j hj
theorem FN_0 {S : yS} (h : S.f 17 12 = 0) : FN S := fun j hj => absurd hj (by omega)
theorem FN_push {S S' : yS} {m : Int} (h : FN S) (h0 : 0 ≤ S.f 17 12) (hm : S.a 11 m.toNat ≤ 9) (e : S'.f 17 12 = S.f 17 12 + 1) (ha : ∀ j, S'.a 21 j = (ysa S 21 (S.f 17 12).toNat m).a 21 j) (hb : ∀ j, S'.a 11 j = S.a 11 j) : FN S' := by
  intro j hj
  rw [hb, ha]
  by_cases hj2 : j = (S.f 17 12).toNat
  · rw [hj2, ysa_eq]; exact hm
  · rw [ysa_ne (Or.inr hj2)]; exact h j (by omega)
/-- m is not among the first i that were counted -/
def NC (S : yS) (i m : Int) : Prop := ∀ j : Nat, (j : Int) < i → S.a 20 j ≠ m
theorem NC_0 {S : yS} {m : Int} : NC S 0 m := fun j hj => absurd hj (by omega)
theorem NC_push {S : yS} {i m : Int} (h : NC S i m) (h0 : 0 ≤ i) (hn : S.a 20 i.toNat ≠ m) : NC S (i + 1) m := by
  intro j hj
  by_cases hj2 : j = i.toNat
  · rw [hj2]; exact hn
  · exact h j (by omega)
theorem r_swK {P : xP} {G : xk} {ly : List yc} {C i : Nat} {L : List (Option xv)} {st : List xv} {S : yS} {d : Nat} {Q : Nat × xv → yS → Prop} {u v t : Nat} {z k : Int} {l : List Nat} (h : yq C i 26 u v 0 = true) (hl : P.2.2.1[u]? = some l) (hz : z = k) (h0 : 0 ≤ k) (h1 : k < 65536) (ht : (l[k.toNat]?).getD v = t) (kk : yT P G ly C t L st S d Q) : yT P G ly C i L (vi z :: st) S d Q := by
  subst hz ht
  exact r_switch h hl h0 h1 kk
theorem fill_push {S S' : yS} {b : Nat} {k v : Int} (h : ∀ j : Nat, (j : Int) < k → S.a b j = 0) (h0 : 0 ≤ k) (hv : v = 0) (e : S' = ysa S b k.toNat v) : ∀ j : Nat, (j : Int) < k + 1 → S'.a b j = 0 := by
  intro j hj
  subst e
  by_cases hj2 : j = k.toNat
  · rw [hj2, ysa_eq]; exact hv
  · rw [ysa_ne (Or.inr hj2)]; exact h j (by omega)
end XNC
