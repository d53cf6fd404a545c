set_option linter.unusedVariables false
noncomputable section XNC
/-! the model's counts: each method once, no constructor -/
def MC (S : yS) : Prop := (∀ i j : Nat, i < j → (j : Int) < S.f 43 31 → S.a 66 i ≠ S.a 66 j) ∧ ∀ i : Nat, (i : Int) < S.f 43 31 → 0 ≤ S.a 66 i ∧ S.a 66 i < S.f 43 10 ∧ S.a 53 (S.a 66 i).toNat ≤ 9
theorem MCx : yX [(43, 31), (43, 10)] [66, 53] MC := by
  intro S S' hf ha h
  refine ⟨fun i j hij hj => ?_, fun i hi => ?_⟩
  · rw [hf 43 31 rfl] at hj
    rw [ha 66 rfl, ha 66 rfl]
    exact h.1 i j hij hj
  · rw [hf 43 31 rfl] at hi
    rw [ha 66 rfl, ha 53 rfl, hf 43 10 rfl]
    exact h.2 i hi
theorem MC_0 {S : yS} (h : S.f 43 31 = 0) : MC S := ⟨fun i j _ hj => absurd hj (by omega), fun i hi => absurd hi (by omega)⟩
/-- m is not among the first i that were counted -/
def MNC (S : yS) (i m : Int) : Prop := ∀ j : Nat, (j : Int) < i → S.a 66 j ≠ m
theorem MNC_0 {S : yS} {m : Int} : MNC S 0 m := fun j hj => absurd hj (by omega)
theorem MNC_push {S : yS} {i m : Int} (h : MNC S i m) (h0 : 0 ≤ i) (hn : S.a 66 i.toNat ≠ m) : MNC S (i + 1) m := by
  intro j hj
  by_cases hj2 : j = i.toNat
  · rw [hj2]; exact hn
  · exact h j (by omega)
theorem MC_room {S : yS} {m : Int} (h : MC S) (h0 : 0 ≤ S.f 43 31) (hn : MNC S (S.f 43 31) m) (hm0 : 0 ≤ m) (hm : m < S.f 43 10) : S.f 43 31 + 1 ≤ S.f 43 10 := by
  have := pigeon (S.f 43 10).toNat ((S.f 43 31).toNat + 1) (fun i => if i < (S.f 43 31).toNat then S.a 66 i else m) (fun i j hij hj => by
      have hi : i < (S.f 43 31).toNat := by omega
      simp only [hi, if_true]
      by_cases hj2 : j < (S.f 43 31).toNat
      · simp only [hj2, if_true]; exact h.1 i j hij (by omega)
      · simp only [hj2, if_false]; exact hn i (by omega)) (fun i hi => by
      by_cases hi2 : i < (S.f 43 31).toNat
      · simp only [hi2, if_true]
        have := h.2 i (by omega)
        omega
      · simp only [hi2, if_false]; omega)
  omega
theorem MC_push {S S' : yS} {m : Int} (h : MC S) (h0 : 0 ≤ S.f 43 31) (hn : MNC S (S.f 43 31) m) (hm0 : 0 ≤ m) (hm : m < S.f 43 10) (h9 : S.a 53 m.toNat ≤ 9) (e : S'.f 43 31 = S.f 43 31 + 1) (e2 : S'.f 43 10 = S.f 43 10) (ha : ∀ j, S'.a 66 j = (ysa S 66 (S.f 43 31).toNat m).a 66 j) (hb : ∀ j, S'.a 53 j = S.a 53 j) : MC S' := by
  have hq : ∀ i : Nat, i ≠ (S.f 43 31).toNat → S'.a 66 i = S.a 66 i := fun i hi => (ha i).trans (ysa_ne (Or.inr hi))
  have hl : S'.a 66 (S.f 43 31).toNat = m := (ha _).trans ysa_eq
  refine ⟨fun i j hij hj => ?_, fun i hi => ?_⟩
  · rw [hq i (by omega)]
    by_cases hj2 : j = (S.f 43 31).toNat
    · rw [hj2, hl]; exact hn i (by omega)
    · rw [hq j hj2]; exact h.1 i j hij (by omega)
  · rw [e2]
    by_cases hi2 : i = (S.f 43 31).toNat
    · rw [hi2, hl, hb]; exact ⟨hm0, hm, h9⟩
    · rw [hq i hi2, hb]; exact h.2 i (by omega)
end XNC
