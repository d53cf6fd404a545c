set_option linter.unusedVariables false
noncomputable section XNC
/-! what may have changed -/
def yin : List Nat → Nat → Bool
  | [], _ => false
  | a :: r, b => Nat.beq a b || yin r b
def yin2 : List (Nat × Nat) → Nat → Nat → Bool
  | [], _, _ => false
  | (a, v) :: r, b, w => Nat.beq a b && Nat.beq v w || yin2 r b w
def yFr (MF : List (Nat × Nat)) (MA : List Nat) (S S' : yS) : Prop := (∀ b w : Nat, yin2 MF b w = false → S'.f b w = S.f b w) ∧ ∀ b : Nat, yin MA b = false → ∀ j, S'.a b j = S.a b j
theorem yFr.mk' {MF : List (Nat × Nat)} {MA : List Nat} {S S' : yS} (h : (∀ b w : Nat, yin2 MF b w = false → S'.f b w = S.f b w) ∧ ∀ b : Nat, yin MA b = false → ∀ j, S'.a b j = S.a b j) : yFr MF MA S S' := h
theorem yFr.f {MF : List (Nat × Nat)} {MA : List Nat} {S S' : yS} (h : yFr MF MA S S') {b w : Nat} (e : yin2 MF b w = false) : S'.f b w = S.f b w := h.1 b w e
theorem yFr.a {MF : List (Nat × Nat)} {MA : List Nat} {S S' : yS} (h : yFr MF MA S S') {b : Nat} (e : yin MA b = false) (j : Nat) : S'.a b j = S.a b j := h.2 b e j
section
variable {MF MF2 : List (Nat × Nat)} {MA MA2 : List Nat} {S S1 S2 : yS}
theorem yFr.refl (S : yS) : yFr MF MA S S := yFr.mk' ⟨fun _ _ _ => rfl, fun _ _ _ => rfl⟩
theorem yFr.setf (h : yFr MF MA S S1) {b w : Nat} {z : Int} (e : yin2 MF b w = true) : yFr MF MA S (ysf S1 b w z) := by
  refine yFr.mk' ⟨fun b' w' e' => ?_, fun b' e' j' => h.a e' j'⟩
  rw [← h.f e']
  refine ysf_ne ?_
  by_cases hb : b' = b
  · by_cases hw : w' = w
    · subst hb hw; rw [e] at e'; cases e'
    · exact Or.inr hw
  · exact Or.inl hb
theorem yFr.seta (h : yFr MF MA S S1) {b j : Nat} {z : Int} (e : yin MA b = true) : yFr MF MA S (ysa S1 b j z) := by
  refine yFr.mk' ⟨fun b' w' e' => h.f e', fun b' e' j' => ?_⟩
  rw [← h.a e']
  refine ysa_ne (Or.inl ?_)
  intro hb
  subst hb
  rw [e] at e'
  cases e'
def ysub2 : List (Nat × Nat) → List (Nat × Nat) → Bool
  | [], _ => true
  | (a, v) :: r, m => yin2 m a v && ysub2 r m
def ysub1 : List Nat → List Nat → Bool
  | [], _ => true
  | a :: r, m => yin m a && ysub1 r m
theorem ysub2_of {l m : List (Nat × Nat)} (h : ysub2 l m = true) {b w : Nat} (e : yin2 m b w = false) : yin2 l b w = false := by
  induction l with
  | nil => rfl
  | cons q r ih =>
    obtain ⟨a, v⟩ := q
    have h : (yin2 m a v && ysub2 r m) = true := h
    rw [Bool.and_eq_true] at h
    show (Nat.beq a b && Nat.beq v w || yin2 r b w) = false
    rw [ih h.2, Bool.or_false]
    cases h1 : Nat.beq a b with
    | false => rfl
    | true =>
      cases h2 : Nat.beq v w with
      | false => rfl
      | true =>
        have e1 := Nat.eq_of_beq_eq_true h1
        have e2 := Nat.eq_of_beq_eq_true h2
        subst e1 e2
        rw [h.1] at e
        cases e
theorem ysub1_of {l m : List Nat} (h : ysub1 l m = true) {b : Nat} (e : yin m b = false) : yin l b = false := by
  induction l with
  | nil => rfl
  | cons a r ih =>
    have h : (yin m a && ysub1 r m) = true := h
    rw [Bool.and_eq_true] at h
    show (Nat.beq a b || yin r b) = false
    rw [ih h.2, Bool.or_false]
    cases h1 : Nat.beq a b with
    | false => rfl
    | true =>
      have e1 := Nat.eq_of_beq_eq_true h1
      subst e1
      rw [h.1] at e
      cases e
theorem yFr.trans (h : yFr MF MA S S1) (h2 : yFr MF2 MA2 S1 S2) (e1 : ysub2 MF2 MF = true) (e2 : ysub1 MA2 MA = true) : yFr MF MA S S2 :=
  yFr.mk' ⟨fun b w e => (h2.f (ysub2_of e1 e)).trans (h.f e), fun b e j => (h2.a (ysub1_of e2 e) j).trans (h.a e j)⟩
end
/-- the room: rows that grow at least double; what that costs is paid by their lengths -/
def yRm (MN : List Nat) (S S' : yS) : Prop := (∀ k, k < 5 → S.n k ≤ S'.n k) ∧ (∀ k, yin MN k = false → S'.n k = S.n k ∨ 5 ≤ k) ∧ (128 * S.bc + (S.n 0 + S.n 1 + S.n 2 + S.n 3 + S.n 4) ≤ 128 * S'.bc + (S'.n 0 + S'.n 1 + S'.n 2 + S'.n 3 + S'.n 4)) ∧ (S.bs + 2 * (S.n 0 + S.n 1 + S.n 2 + S.n 3 + S.n 4) ≤ S'.bs + 2 * (S'.n 0 + S'.n 1 + S'.n 2 + S'.n 3 + S'.n 4))
theorem yRm.mk' {MN : List Nat} {S S' : yS} (h : (∀ k, k < 5 → S.n k ≤ S'.n k) ∧ (∀ k, yin MN k = false → S'.n k = S.n k ∨ 5 ≤ k) ∧ (128 * S.bc + (S.n 0 + S.n 1 + S.n 2 + S.n 3 + S.n 4) ≤ 128 * S'.bc + (S'.n 0 + S'.n 1 + S'.n 2 + S'.n 3 + S'.n 4)) ∧ (S.bs + 2 * (S.n 0 + S.n 1 + S.n 2 + S.n 3 + S.n 4) ≤ S'.bs + 2 * (S'.n 0 + S'.n 1 + S'.n 2 + S'.n 3 + S'.n 4))) : yRm MN S S' := h
theorem yRm.n {MN : List Nat} {S S' : yS} (h : yRm MN S S') : ∀ k, k < 5 → S.n k ≤ S'.n k := h.1
theorem yRm.e {MN : List Nat} {S S' : yS} (h : yRm MN S S') {k : Nat} (e : yin MN k = false) : S'.n k = S.n k ∨ 5 ≤ k := h.2.1 k e
theorem yRm.c {MN : List Nat} {S S' : yS} (h : yRm MN S S') : 128 * S.bc + (S.n 0 + S.n 1 + S.n 2 + S.n 3 + S.n 4) ≤ 128 * S'.bc + (S'.n 0 + S'.n 1 + S'.n 2 + S'.n 3 + S'.n 4) := h.2.2.1
theorem yRm.s {MN : List Nat} {S S' : yS} (h : yRm MN S S') : S.bs + 2 * (S.n 0 + S.n 1 + S.n 2 + S.n 3 + S.n 4) ≤ S'.bs + 2 * (S'.n 0 + S'.n 1 + S'.n 2 + S'.n 3 + S'.n 4) := h.2.2.2
theorem yRm.refl {MN : List Nat} (S : yS) : yRm MN S S := yRm.mk' ⟨fun _ _ => Nat.le_refl _, fun _ _ => Or.inl rfl, Nat.le_refl _, Nat.le_refl _⟩
theorem yRm.trans {MN MN2 : List Nat} {S S1 S2 : yS} (h : yRm MN S S1) (h2 : yRm MN2 S1 S2) (hs : ysub1 MN2 MN = true) : yRm MN S S2 := by
  refine yRm.mk' ⟨fun k hk => Nat.le_trans (h.n k hk) (h2.n k hk), fun k e => ?_, Nat.le_trans h.c h2.c, Nat.le_trans h.s h2.s⟩
  rcases h.e e with h1 | h1
  · rcases h2.e (ysub1_of hs e) with h3 | h3
    · exact Or.inl (h3.trans h1)
    · exact Or.inr h3
  · exact Or.inr h1
theorem yRm.eq {MN : List Nat} {S S1 : yS} (h : yRm MN S S1) {k : Nat} (e : yin MN k = false) (hk : Nat.blt k 5 = true) : S1.n k = S.n k := by
  rw [Nat.blt_eq] at hk
  rcases h.e e with h1 | h1
  · exact h1
  · omega
theorem yRm.setf {MN : List Nat} {S S1 : yS} (h : yRm MN S S1) {b w : Nat} {z : Int} : yRm MN S (ysf S1 b w z) := yRm.mk' ⟨h.n, fun _ e => h.e e, h.c, h.s⟩
theorem yRm.seta {MN : List Nat} {S S1 : yS} (h : yRm MN S S1) {b j : Nat} {z : Int} : yRm MN S (ysa S1 b j z) := yRm.mk' ⟨h.n, fun _ e => h.e e, h.c, h.s⟩
end XNC
