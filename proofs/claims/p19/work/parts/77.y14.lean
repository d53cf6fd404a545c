set_option linter.unusedVariables false
noncomputable section XNC
/-! the reader: places of entries that were read -/
def tg (S : yS) (p : Int) : Int := yand (S.a 100 p.toNat) 255
def RDk (S : yS) (k : Int) : Prop := (0 ≤ S.f 40 2 ∧ S.f 40 2 < S.n 4) ∧ (∀ e : Nat, 1 ≤ e → (e : Int) ≤ S.f 40 2 → 0 ≤ S.a 104 e ∧ S.a 104 e < S.f 31 1) ∧ (S.f 40 5 = -1 → ∀ e : Nat, 1 ≤ e → (e : Int) ≤ k → S.a 104 e + 2 < S.f 31 1 ∧ (tg S (S.a 104 e) = 1 ∨ tg S (S.a 104 e) = 7 ∨ 9 ≤ tg S (S.a 104 e) ∧ S.a 104 e + 4 < S.f 31 1))
def RD (S : yS) : Prop := RDk S (S.f 40 2)
def RE (S : yS) : Prop := RDk S (S.f 40 2 - 1)
section
variable {S S' : yS}
theorem RDk.up {k : Int} (h : RDk S k) (e2 : S'.f 40 2 = S.f 40 2) (e31 : S'.f 31 1 = S.f 31 1) (hf : S'.f 40 5 = S.f 40 5 ∨ S'.f 40 5 ≠ -1) (n4 : S'.n 4 = S.n 4) (a104 : ∀ j, S'.a 104 j = S.a 104 j) (a100 : ∀ j, S'.a 100 j = S.a 100 j) : RDk S' k := by
  obtain ⟨h1, h2, h3⟩ := h
  have ht : ∀ p, tg S' p = tg S p := fun p => by unfold tg; rw [a100]
  refine ⟨by rw [e2, n4]; exact h1, fun e he1 he2 => ?_, fun hq e he1 he2 => ?_⟩
  · rw [a104, e31]; exact h2 e he1 (by omega)
  · rw [a104, e31, ht]
    exact h3 (by rcases hf with hf | hf <;> omega) e he1 he2
theorem RDk_setf {k : Int} (h : RDk S k) {b w : Nat} {z : Int} (e : yin2 [(40, 2), (40, 5), (31, 1)] b w = false) : RDk (ysf S b w z) k := by
  have hne : ∀ b' w', yin2 [(40, 2), (40, 5), (31, 1)] b' w' = true → (ysf S b w z).f b' w' = S.f b' w' := fun b' w' e' => by
    refine ysf_ne ?_
    by_cases h1 : b' = b
    · by_cases h2 : w' = w
      · subst h1 h2; rw [e] at e'; cases e'
      · exact Or.inr h2
    · exact Or.inl h1
  exact h.up (hne 40 2 rfl) (hne 31 1 rfl) (Or.inl (hne 40 5 rfl)) rfl (fun _ => rfl) (fun _ => rfl)
theorem RDk_flt {k z : Int} (h : RDk S k) (hz : z ≠ -1) : RDk (ysf S 40 5 z) k :=
  h.up (ysf_ne (Or.inr (by decide))) (ysf_ne (Or.inl (by decide))) (Or.inr (by rw [ysf_eq]; exact hz)) rfl (fun _ => rfl) (fun _ => rfl)
theorem RDk_seta {k : Int} (h : RDk S k) {b j : Nat} {z : Int} (e : yin [104, 100] b = false) : RDk (ysa S b j z) k := by
  have hne : ∀ b', yin [104, 100] b' = true → ∀ j', (ysa S b j z).a b' j' = S.a b' j' := fun b' e' j' => ysa_ne (Or.inl (fun h1 => by subst h1; rw [e] at e'; cases e'))
  exact h.up rfl rfl (Or.inl rfl) rfl (hne 104 rfl) (hne 100 rfl)
theorem RDk_fr {k : Int} {MF : List (Nat × Nat)} {MA MN : List Nat} (h : RDk S k) (hF : yFr MF MA S S') (hR : yRm MN S S') (e1 : ydj2 [(40, 2), (40, 5), (31, 1)] MF = true) (e2 : ydj1 [104, 100] MA = true) (e3 : ydj1 [4] MN = true) : RDk S' k :=
  h.up (hF.f (ydj2_of e1 rfl)) (hF.f (ydj2_of e1 rfl)) (Or.inl (hF.f (ydj2_of e1 rfl))) (hR.eq (ydj1_of e3 rfl) rfl) (hF.a (ydj1_of e2 rfl)) (hF.a (ydj1_of e2 rfl))
theorem f402 {b w : Nat} {z : Int} (e : yin2 [(40, 2), (40, 5), (31, 1)] b w = false) : (ysf S b w z).f 40 2 = S.f 40 2 := by
  refine ysf_ne ?_
  by_cases h1 : 40 = b
  · by_cases h2 : 2 = w
    · subst h1 h2; cases e
    · exact Or.inr h2
  · exact Or.inl h1
theorem RDx.setf (h : RD S) {b w : Nat} {z : Int} (e : yin2 [(40, 2), (40, 5), (31, 1)] b w = false) : RD (ysf S b w z) := by
  unfold RD; rw [f402 e]; exact RDk_setf h e
theorem REx.setf (h : RE S) {b w : Nat} {z : Int} (e : yin2 [(40, 2), (40, 5), (31, 1)] b w = false) : RE (ysf S b w z) := by
  unfold RE; rw [f402 e]; exact RDk_setf h e
theorem RDx.flt (h : RD S) {z : Int} (hz : z ≠ -1) : RD (ysf S 40 5 z) := by
  unfold RD; rw [ysf_ne (Or.inr (by decide))]; exact RDk_flt h hz
theorem REx.flt (h : RE S) {z : Int} (hz : z ≠ -1) : RE (ysf S 40 5 z) := by
  unfold RE; rw [ysf_ne (Or.inr (by decide))]; exact RDk_flt h hz
theorem RDx.seta (h : RD S) {b j : Nat} {z : Int} (e : yin [104, 100] b = false) : RD (ysa S b j z) := RDk_seta h e
theorem REx.seta (h : RE S) {b j : Nat} {z : Int} (e : yin [104, 100] b = false) : RE (ysa S b j z) := RDk_seta h e
theorem RDx.fr {MF : List (Nat × Nat)} {MA MN : List Nat} (h : RD S) (hF : yFr MF MA S S') (hR : yRm MN S S') (e1 : ydj2 [(40, 2), (40, 5), (31, 1)] MF = true) (e2 : ydj1 [104, 100] MA = true) (e3 : ydj1 [4] MN = true) : RD S' := by
  unfold RD; rw [hF.f (ydj2_of e1 rfl)]; exact RDk_fr h hF hR e1 e2 e3
theorem REx.fr {MF : List (Nat × Nat)} {MA MN : List Nat} (h : RE S) (hF : yFr MF MA S S') (hR : yRm MN S S') (e1 : ydj2 [(40, 2), (40, 5), (31, 1)] MF = true) (e2 : ydj1 [104, 100] MA = true) (e3 : ydj1 [4] MN = true) : RE S' := by
  unfold RE; rw [hF.f (ydj2_of e1 rfl)]; exact RDk_fr h hF hR e1 e2 e3
theorem RDk_upf {k : Int} {MF : List (Nat × Nat)} {MA MN : List Nat} (h : RDk S k) (hF : yFr MF MA S S') (hR : yRm MN S S') (e1 : ydj2 [(40, 2), (31, 1)] MF = true) (e2 : ydj1 [104, 100] MA = true) (e3 : ydj1 [4] MN = true) (hf : S'.f 40 5 = S.f 40 5 ∨ S'.f 40 5 ≠ -1) : RDk S' k :=
  h.up (hF.f (ydj2_of e1 rfl)) (hF.f (ydj2_of e1 rfl)) hf (hR.eq (ydj1_of e3 rfl) rfl) (hF.a (ydj1_of e2 rfl)) (hF.a (ydj1_of e2 rfl))
theorem RDx.up {MF : List (Nat × Nat)} {MA MN : List Nat} (h : RD S) (hF : yFr MF MA S S') (hR : yRm MN S S') (e1 : ydj2 [(40, 2), (31, 1)] MF = true) (e2 : ydj1 [104, 100] MA = true) (e3 : ydj1 [4] MN = true) (hf : S'.f 40 5 = S.f 40 5 ∨ S'.f 40 5 ≠ -1) : RD S' := by
  unfold RD; rw [hF.f (ydj2_of e1 rfl)]; exact RDk_upf h hF hR e1 e2 e3 hf
theorem REx.up {MF : List (Nat × Nat)} {MA MN : List Nat} (h : RE S) (hF : yFr MF MA S S') (hR : yRm MN S S') (e1 : ydj2 [(40, 2), (31, 1)] MF = true) (e2 : ydj1 [104, 100] MA = true) (e3 : ydj1 [4] MN = true) (hf : S'.f 40 5 = S.f 40 5 ∨ S'.f 40 5 ≠ -1) : RE S' := by
  unfold RE; rw [hF.f (ydj2_of e1 rfl)]; exact RDk_upf h hF hR e1 e2 e3 hf
theorem RD_0 (h : S.f 40 2 = 0) (hn : 128 ≤ S.n 4) : RD S := ⟨by omega, fun e h1 h2 => absurd h2 (by omega), fun _ e h1 h2 => absurd h2 (by omega)⟩
theorem RE_push {pl : Int} (h : RD S) (hp : 0 ≤ pl ∧ pl < S.f 31 1) (e2 : S'.f 40 2 = S.f 40 2 + 1) (e31 : S'.f 31 1 = S.f 31 1) (e5 : S'.f 40 5 = S.f 40 5) (hn : S'.f 40 2 < S'.n 4) (a100 : ∀ j, S'.a 100 j = S.a 100 j) (a104 : ∀ j : Nat, (j : Int) ≤ S.f 40 2 → S'.a 104 j = S.a 104 j) (hl : S'.a 104 (S'.f 40 2).toNat = pl) : RE S' := by
  obtain ⟨h1, h2, h3⟩ := h
  have ht : ∀ p, tg S' p = tg S p := fun p => by unfold tg; rw [a100]
  refine ⟨by omega, fun e he1 he2 => ?_, fun hq e he1 he2 => ?_⟩
  · by_cases he : (e : Int) ≤ S.f 40 2
    · rw [a104 e he, e31]; exact h2 e he1 he
    · have : e = (S'.f 40 2).toNat := by omega
      rw [this, hl, e31]; exact hp
  · rw [a104 e (by omega), e31, ht]
    exact h3 (by omega) e he1 (by omega)
/-- the newest entry's place and tag -/
def RLt (S : yS) (np t : Int) : Prop := S.a 104 (S.f 40 2).toNat = np ∧ tg S np = t
theorem RLx.setf {np t : Int} (h : RLt S np t) {b w : Nat} {z : Int} (e : yin2 [(40, 2)] b w = false) : RLt (ysf S b w z) np t := by
  have h9 : (ysf S b w z).f 40 2 = S.f 40 2 := by
    refine ysf_ne ?_
    by_cases h1 : 40 = b
    · by_cases h2 : 2 = w
      · subst h1 h2; cases e
      · exact Or.inr h2
    · exact Or.inl h1
  refine ⟨?_, h.2⟩
  rw [h9]; exact h.1
theorem RLx.seta {np t : Int} (h : RLt S np t) {b j : Nat} {z : Int} (e : yin [104, 100] b = false) : RLt (ysa S b j z) np t := by
  have hne : ∀ b', yin [104, 100] b' = true → ∀ j', (ysa S b j z).a b' j' = S.a b' j' := fun b' e' j' => ysa_ne (Or.inl (fun h1 => by subst h1; rw [e] at e'; cases e'))
  exact ⟨(hne 104 rfl _).trans h.1, by unfold tg; rw [hne 100 rfl]; exact h.2⟩
theorem RLx.fr {np t : Int} {MF : List (Nat × Nat)} {MA MN : List Nat} (h : RLt S np t) (hF : yFr MF MA S S') (hR : yRm MN S S') (e1 : ydj2 [(40, 2)] MF = true) (e2 : ydj1 [104, 100] MA = true) (e3 : ydj1 [] MN = true) : RLt S' np t := by
  refine ⟨?_, ?_⟩
  · rw [hF.f (ydj2_of e1 rfl), hF.a (ydj1_of e2 rfl)]; exact h.1
  · unfold tg; rw [hF.a (ydj1_of e2 rfl)]; exact h.2
theorem RD_done {np t : Int} (h : RE S) (hl : RLt S np t) (hq : S.f 40 5 = -1 → np + 2 < S.f 31 1 ∧ (t = 1 ∨ t = 7 ∨ 9 ≤ t ∧ np + 4 < S.f 31 1)) : RD S := by
  obtain ⟨h1, h2, h3⟩ := h
  refine ⟨h1, h2, fun hf e he1 he2 => ?_⟩
  by_cases he : (e : Int) ≤ S.f 40 2 - 1
  · exact h3 hf e he1 he
  · have : e = (S.f 40 2).toNat := by omega
    rw [this, hl.1, hl.2]
    exact hq hf
end
theorem yshl8 {x : Int} (h0 : 0 ≤ x) (h1 : x < 8388608) : yshl x 8 = x * 256 := by
  have e1 : (enc x : Int) = x := enc_nat h0 (by omega)
  have e8 : enc 8 = 8 := rfl
  unfold yshl dec
  rw [e8]
  show (if enc x <<< 8 < _ then ((enc x <<< 8 : Nat) : Int) else _) = _
  rw [Nat.shiftLeft_eq]
  split <;> omega
theorem num_or {x b k : Int} (hb0 : 0 ≤ b) (hb : b ≤ 255) (h0 : k = 0 → x = 0) (h1 : k = 1 → 0 ≤ x ∧ x ≤ 255) (h2 : k = 2 → 0 ≤ x ∧ x ≤ 65535) : (k = 0 → yor (yshl x 8) b = b) ∧ (k = 1 → 0 ≤ yor (yshl x 8) b ∧ yor (yshl x 8) b ≤ 65535) ∧ (k = 2 → 0 ≤ yor (yshl x 8) b ∧ yor (yshl x 8) b ≤ 16777215) := by
  refine ⟨fun hk => ?_, fun hk => ?_, fun hk => ?_⟩
  · rw [h0 hk, yshl8 (by decide) (by decide), Int.zero_mul]
    unfold yor
    have e0 : enc 0 = 0 := rfl
    rw [e0]
    show dec (0 ||| enc b) = b
    rw [Nat.zero_or]
    have e1 : (enc b : Int) = b := enc_nat hb0 (by omega)
    unfold dec
    split <;> omega
  · have h9 := h1 hk
    rw [yshl8 (by omega) (by omega)]
    have := @yor_c (x * 256) b 16 (by decide) (by omega) (by omega) hb0 (by omega)
    omega
  · have h9 := h2 hk
    rw [yshl8 (by omega) (by omega)]
    have := @yor_c (x * 256) b 24 (by decide) (by omega) (by omega) hb0 (by omega)
    omega
end XNC
