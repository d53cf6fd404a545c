set_option linter.unusedVariables false
noncomputable section XNC
/-! what is read off the state, from some fields and rows alone -/
def yXf {β : Type} (FF : List (Nat × Nat)) (FA : List Nat) (W : yS → β) : Prop := ∀ S S' : yS, (∀ b w, yin2 FF b w = true → S'.f b w = S.f b w) → (∀ b, yin FA b = true → ∀ j, S'.a b j = S.a b j) → W S' = W S
section
variable {β : Type} {FF MF : List (Nat × Nat)} {FA MA : List Nat} {W : yS → β} {S S' : yS}
theorem yXf.setf (h : yXf FF FA W) {b w : Nat} {z : Int} (e : yin2 FF b w = false) : W (ysf S b w z) = W S := by
  refine h S _ (fun b' w' e' => ysf_ne ?_) (fun _ _ _ => rfl)
  by_cases h1 : b' = b
  · by_cases h2 : w' = w
    · subst h1 h2; rw [e] at e'; cases e'
    · exact Or.inr h2
  · exact Or.inl h1
theorem yXf.seta (h : yXf FF FA W) {b j : Nat} {z : Int} (e : yin FA b = false) : W (ysa S b j z) = W S := by
  refine h S _ (fun _ _ _ => rfl) (fun b' e' j' => ysa_ne (Or.inl ?_))
  intro h1
  subst h1
  rw [e] at e'
  cases e'
theorem yXf.fr (h : yXf FF FA W) (hF : yFr MF MA S S') (e1 : ydj2 FF MF = true) (e2 : ydj1 FA MA = true) : W S' = W S :=
  h S S' (fun b w e => hF.f (ydj2_of e1 e)) (fun b e j => hF.a (ydj1_of e2 e) j)
end
/-! how many interfaces are gone -/
def gsum (S : yS) : Nat → Int
  | 0 => 0
  | n + 1 => gsum S n + S.a 78 n
def gs (S : yS) : Int := gsum S 20
theorem gsum_eq {S S' : yS} (h : ∀ j, S'.a 78 j = S.a 78 j) : ∀ n, gsum S' n = gsum S n := by
  intro n
  induction n with
  | zero => rfl
  | succ n ih => show gsum S' n + S'.a 78 n = gsum S n + S.a 78 n; rw [ih, h]
theorem gsX : yXf [] [78] gs := fun S S' _ ha => gsum_eq (ha 78 rfl) 20
theorem gsum_le {S : yS} (h : ∀ j, 0 ≤ S.a 78 j ∧ S.a 78 j ≤ 1) : ∀ n : Nat, 0 ≤ gsum S n ∧ gsum S n ≤ n := by
  intro n
  induction n with
  | zero => exact ⟨Int.le_refl _, Int.le_refl _⟩
  | succ n ih =>
    have := h n
    show 0 ≤ gsum S n + S.a 78 n ∧ gsum S n + S.a 78 n ≤ ((n + 1 : Nat) : Int)
    omega
theorem gs_le {S : yS} (h : yI S) : 0 ≤ gs S ∧ gs S ≤ 20 := gsum_le (fun j => h.a ta78 j) 20
theorem gsum_set {S : yS} {f : Nat} (h0 : S.a 78 f = 0) : ∀ n : Nat, gsum (ysa S 78 f 1) n = gsum S n + (if f < n then 1 else 0) := by
  intro n
  induction n with
  | zero => rfl
  | succ n ih =>
    show gsum (ysa S 78 f 1) n + (ysa S 78 f 1).a 78 n = gsum S n + S.a 78 n + _
    rw [ih]
    by_cases hn : n = f
    · subst hn
      rw [ysa_eq, h0, if_neg (by omega), if_pos (by omega)]
    · rw [ysa_ne (Or.inr hn)]
      by_cases hf : f < n
      · rw [if_pos hf, if_pos (by omega)]; omega
      · rw [if_neg hf, if_neg (by omega)]; omega
theorem gs_set {S : yS} {f : Nat} (h0 : S.a 78 f = 0) (hf : f < 20) : gs (ysa S 78 f 1) = gs S + 1 := by
  have := gsum_set h0 20
  rw [if_pos hf] at this
  exact this
/-! how many of the first k that were counted are not final -/
def nfN (S : yS) : Nat → Int
  | 0 => 0
  | n + 1 => nfN S n + (if yand (S.a 54 (S.a 66 n).toNat) 16 ≤ 0 then 1 else 0)
def nf (S : yS) (k : Int) : Int := nfN S k.toNat
def nfa (S : yS) : Int := nf S (S.f 43 31)
theorem nfN_eq {S S' : yS} (h : ∀ j, S'.a 66 j = S.a 66 j) (h2 : ∀ j, S'.a 54 j = S.a 54 j) : ∀ n, nfN S' n = nfN S n := by
  intro n
  induction n with
  | zero => rfl
  | succ n ih => unfold nfN; rw [ih, h, h2]
theorem nfX : yXf [] [66, 54] nf := by
  intro S S' _ ha
  funext k
  exact nfN_eq (ha 66 rfl) (ha 54 rfl) _
theorem nfaX : yXf [(43, 31)] [66, 54] nfa := by
  intro S S' hf ha
  unfold nfa
  rw [hf 43 31 rfl]
  exact nfN_eq (ha 66 rfl) (ha 54 rfl) _
theorem nfz_0 {S : yS} : nf S 0 = 0 := rfl
theorem nfz_s {S : yS} {k : Int} (h : 0 ≤ k) : nf S (k + 1) = nf S k + (if yand (S.a 54 (S.a 66 k.toNat).toNat) 16 ≤ 0 then 1 else 0) := by
  unfold nf
  rw [show (k + 1).toNat = k.toNat + 1 by omega]
  rfl
theorem nf_y {S : yS} {k : Int} (h : 0 ≤ k) (e : yand (S.a 54 (S.a 66 k.toNat).toNat) 16 ≤ 0) : nf S (k + 1) = nf S k + 1 := by rw [nfz_s h, if_pos e]
theorem nf_n {S : yS} {k : Int} (h : 0 ≤ k) (e : 0 < yand (S.a 54 (S.a 66 k.toNat).toNat) 16) : nf S (k + 1) = nf S k := by rw [nfz_s h, if_neg (by omega)]; omega
theorem nfN_mono {S : yS} (n m : Nat) : nfN S n ≤ nfN S (n + m) := by
  induction m with
  | zero => exact Int.le_refl _
  | succ m ih =>
    show _ ≤ nfN S (n + m) + (if yand (S.a 54 (S.a 66 (n + m)).toNat) 16 ≤ 0 then 1 else 0)
    split <;> omega
theorem nf_room {S : yS} {k : Int} (h : 0 ≤ k) (h2 : k < S.f 43 31) (e : yand (S.a 54 (S.a 66 k.toNat).toNat) 16 ≤ 0) : nf S k + 1 ≤ nfa S := by
  rw [← nf_y h e]
  unfold nfa nf
  rw [show (S.f 43 31).toNat = (k + 1).toNat + ((S.f 43 31).toNat - (k + 1).toNat) by omega]
  exact nfN_mono _ _
theorem nfa_of {S : yS} {k : Int} (h : S.f 43 31 = k) : nfa S = nf S k := by unfold nfa; rw [h]
end XNC
