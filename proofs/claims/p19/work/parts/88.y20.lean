set_option linter.unusedVariables false
noncomputable section XNC
section
variable {S S' : yS}
/-! the interfaces that were asked for are types -/
def wAS (S : yS) : Prop := ∀ j : Nat, (j : Int) < S.f 43 22 → 0 ≤ S.a 64 j
theorem wASx : yX [(43, 22)] [64] wAS := by
  intro S S' hf ha h j hj
  rw [hf 43 22 rfl] at hj
  rw [ha 64 rfl]
  exact h j hj
theorem wAS_of (h3 : S.f 43 22 ≤ 3) (h : (1 ≤ S.f 43 22 → 0 ≤ S.a 64 0) ∧ (2 ≤ S.f 43 22 → 0 ≤ S.a 64 1) ∧ (3 ≤ S.f 43 22 → 0 ≤ S.a 64 2)) : wAS S := by
  intro j hj
  have e : j = 0 ∨ j = 1 ∨ j = 2 := by omega
  rcases e with rfl | rfl | rfl
  · exact h.1 (by omega)
  · exact h.2.1 (by omega)
  · exact h.2.2 (by omega)
/-! the slots are different methods, no constructors -/
def wSD (S : yS) : Prop := (∀ i j : Nat, i < j → (j : Int) < S.f 43 20 → S.a 60 i ≠ S.a 60 j) ∧ ∀ i : Nat, (i : Int) < S.f 43 20 → 0 ≤ S.a 60 i ∧ S.a 60 i < S.f 43 10 ∧ S.a 53 (S.a 60 i).toNat ≤ 9
theorem wSDx : yX [(43, 20), (43, 10)] [60, 53] wSD := by
  intro S S' hf ha h
  refine ⟨fun i j hij hj => ?_, fun i hi => ?_⟩
  · rw [hf 43 20 rfl] at hj
    rw [ha 60 rfl, ha 60 rfl]
    exact h.1 i j hij hj
  · rw [hf 43 20 rfl] at hi
    rw [ha 60 rfl, ha 53 rfl, hf 43 10 rfl]
    exact h.2 i hi
/-! how many of the first m methods are constructors -/
def wcN (S : yS) : Nat → Int
  | 0 => 0
  | n + 1 => wcN S n + (if S.a 53 n = 10 then 1 else 0)
def wct (S : yS) (m : Int) : Int := wcN S m.toNat
def wcta (S : yS) : Int := wct S (S.f 43 10)
theorem wcN_eq (h : ∀ j, S'.a 53 j = S.a 53 j) : ∀ n, wcN S' n = wcN S n := by
  intro n
  induction n with
  | zero => rfl
  | succ n ih => unfold wcN; rw [ih, h]
theorem wctX : yXf [] [53] wct := by
  intro S S' _ ha
  funext k
  exact wcN_eq (ha 53 rfl) _
theorem wctaX : yXf [(43, 10)] [53] wcta := by
  intro S S' hf ha
  unfold wcta
  rw [hf 43 10 rfl]
  exact wcN_eq (ha 53 rfl) _
theorem wct_0 : wct S 0 = 0 := rfl
theorem wct_s {m : Int} (h : 0 ≤ m) : wct S (m + 1) = wct S m + (if S.a 53 m.toNat = 10 then 1 else 0) := by
  unfold wct
  rw [show (m + 1).toNat = m.toNat + 1 by omega]
  rfl
theorem wct_y {m : Int} (h : 0 ≤ m) (e : S.a 53 m.toNat = 10) : wct S (m + 1) = wct S m + 1 := by rw [wct_s h, if_pos e]
theorem wct_n {m : Int} (h : 0 ≤ m) : wct S m ≤ wct S (m + 1) := by rw [wct_s h]; split <;> omega
theorem wcN_nn : ∀ n : Nat, 0 ≤ wcN S n ∧ wcN S n ≤ n := by
  intro n
  induction n with
  | zero => exact ⟨Int.le_refl _, Int.le_refl _⟩
  | succ n ih =>
    show 0 ≤ wcN S n + _ ∧ wcN S n + _ ≤ ((n + 1 : Nat) : Int)
    split <;> omega
theorem wct_nn {m : Int} (h : 0 ≤ m) : 0 ≤ wct S m ∧ wct S m ≤ m := by
  have := wcN_nn (S := S) m.toNat
  unfold wct
  omega
theorem wcta_nn (h : 0 ≤ S.f 43 10) : 0 ≤ wcta S := (wct_nn h).1
theorem wct_le {m : Int} (h : 0 ≤ m) (h2 : m ≤ S.f 43 10) : wct S m ≤ wcta S := by
  have : ∀ (n k : Nat), wcN S n ≤ wcN S (n + k) := by
    intro n k
    induction k with
    | zero => exact Int.le_refl _
    | succ k ih =>
      show _ ≤ wcN S (n + k) + (if S.a 53 (n + k) = 10 then 1 else 0)
      split <;> omega
  have h3 := this m.toNat ((S.f 43 10).toNat - m.toNat)
  unfold wcta wct
  rwa [show m.toNat + ((S.f 43 10).toNat - m.toNat) = (S.f 43 10).toNat by omega] at h3
theorem wcta_of {m : Int} (h : S.f 43 10 = m) : wcta S = wct S m := by unfold wcta; rw [h]
/-- different numbers that are no constructors, and the constructors -/
theorem wpigeon : ∀ (n c : Nat) (g : Nat → Int), (∀ i j, i < j → j < c → g i ≠ g j) → (∀ i, i < c → 0 ≤ g i ∧ g i < n ∧ S.a 53 (g i).toNat ≤ 9) → wcN S n + c ≤ n := by
  intro n
  induction n with
  | zero =>
    intro c g _ h2
    rcases Nat.eq_zero_or_pos c with h | h
    · subst h; exact Int.le_refl _
    · have := h2 0 h; omega
  | succ n ih =>
    intro c g h1 h2
    show wcN S n + (if S.a 53 n = 10 then 1 else 0) + (c : Int) ≤ ((n + 1 : Nat) : Int)
    by_cases hex : ∃ k, k < c ∧ g k = n
    · obtain ⟨k, hk, hg⟩ := hex
      have h9 := (h2 k hk).2.2
      rw [hg] at h9
      rw [if_neg (by have e : ((n : Int)).toNat = n := by omega
                     rw [e] at h9; omega)]
      have := ih (c - 1) (fun i => if i < k then g i else g (i + 1)) (fun i j hij hj => by
        by_cases hi : i < k <;> by_cases hj2 : j < k <;> simp only [hi, hj2, if_true, if_false]
        · exact h1 i j hij (by omega)
        · exact h1 i (j + 1) (by omega) (by omega)
        · omega
        · exact h1 (i + 1) (j + 1) (by omega) (by omega)) (fun i hi => by
        by_cases hik : i < k
        · simp only [hik, if_true]
          have h3 := h2 i (by omega)
          have h4 := h1 i k hik hk
          exact ⟨by omega, by omega, h3.2.2⟩
        · simp only [hik, if_false]
          have h3 := h2 (i + 1) (by omega)
          have h4 := h1 k (i + 1) (by omega) (by omega)
          exact ⟨by omega, by omega, h3.2.2⟩)
      omega
    · have := ih c g h1 (fun i hi => by
        have h3 := h2 i hi
        have h4 : g i ≠ n := fun e => hex ⟨i, hi, e⟩
        exact ⟨by omega, by omega, h3.2.2⟩)
      split <;> omega
theorem wSD_room (h : wSD S) (h0 : 0 ≤ S.f 43 20) (h1 : 0 ≤ S.f 43 10) : wcta S + S.f 43 20 ≤ S.f 43 10 := by
  have := wpigeon (S := S) (S.f 43 10).toNat (S.f 43 20).toNat (fun i => S.a 60 i) (fun i j hij hj => h.1 i j hij (by omega)) (fun i hi => by
    have := h.2 i (by omega)
    exact ⟨this.1, by omega, this.2.2⟩)
  unfold wcta wct
  omega
/-! an empty file -/
def wm0 (wt wl wc : Int) : List Nat → Int
  | [] => 0
  | c :: r => wt + wl * wln c + wc + wm0 wt wl wc r
theorem wms_0 {wt wl wc : Int} (h : S.f 43 49 = 0) : ∀ l, wms wt wl wc S l = wm0 wt wl wc l := by
  intro l
  induction l with
  | nil => rfl
  | cons c r ih =>
    show wif (wpr S c) 0 (wt + wl * wln c) + wif (wpc S c) 0 wc + wms wt wl wc S r = wt + wl * wln c + wc + wm0 wt wl wc r
    have h1 : ¬ wpr S c := fun ⟨e, h1, h2, _⟩ => by omega
    have h2 : ¬ wpc S c := fun ⟨r, _, e, h1, h2, _⟩ => by omega
    rw [wif_n h1, wif_n h2, ih]
theorem wphi_0 (h : S.f 43 49 = 0) : wphi S ≤ 1000 ∧ 0 ≤ wphi S := by
  have e : wphi S = 0 + wm0 3 1 3 wCL := by
    unfold wphi wpot
    rw [wms_0 h, h]
    rfl
  rw [e]
  decide +kernel
theorem wpsi_0 (h : S.f 43 49 = 0) : wpsi S ≤ 130 ∧ 0 ≤ wpsi S := by
  have e : wpsi S = 0 + wm0 1 0 1 wCL := by
    unfold wpsi wpot
    rw [wms_0 h, h]
    rfl
  rw [e]
  decide +kernel
theorem wLV_0 (h : S.f 43 49 = 0) (h2 : S.f 43 50 = 0) : wLV S := by
  refine ⟨fun e h1 h3 => by omega, ?_⟩
  rw [h, h2]
  exact Int.le_refl _
/-! the bytes of the first entries -/
def web (S : yS) (e : Int) : Int := wes 3 1 3 5 S (e - 1).toNat
theorem webX : yXf [] [73, 75] web := by
  intro S S' _ ha
  funext e
  exact wes_eq (ha 73 rfl) (ha 75 rfl) _
theorem web_1 : web S 1 = 0 := rfl
theorem web_s {e : Int} (h : 1 ≤ e) : web S (e + 1) = web S e + wew 3 1 3 5 S e.toNat := by
  unfold web
  rw [show (e + 1 - 1).toNat = (e - 1).toNat + 1 by omega]
  show wes 3 1 3 5 S (e - 1).toNat + wew 3 1 3 5 S ((e - 1).toNat + 1) = _
  rw [show (e - 1).toNat + 1 = e.toNat by omega]
theorem web_t {e : Int} (h : 1 ≤ e) (k : S.a 73 e.toNat = 1) : web S (e + 1) = web S e + 3 + S.a 75 e.toNat := by
  rw [web_s h]; unfold wew; rw [if_pos k]; omega
theorem web_c {e : Int} (h : 1 ≤ e) (k : S.a 73 e.toNat = 7) : web S (e + 1) = web S e + 3 := by
  rw [web_s h]; unfold wew; rw [if_neg (by omega), if_pos k]
theorem web_o {e : Int} (h : 1 ≤ e) (k : S.a 73 e.toNat ≠ 1) (k2 : S.a 73 e.toNat ≠ 7) : web S (e + 1) = web S e + 5 := by
  rw [web_s h]; unfold wew; rw [if_neg k, if_neg k2]
theorem wew_nn (hI : yI S) (e : Nat) : 0 ≤ wew 3 1 3 5 S e := by
  have := hI.a ta75 e
  unfold wew
  split
  · omega
  · split <;> omega
theorem wes_mono (hI : yI S) (n k : Nat) : wes 3 1 3 5 S n ≤ wes 3 1 3 5 S (n + k) := by
  induction k with
  | zero => exact Int.le_refl _
  | succ k ih =>
    have := wew_nn hI (n + k + 1)
    show _ ≤ wes 3 1 3 5 S (n + k) + wew 3 1 3 5 S (n + k + 1)
    omega
theorem web_le (hI : yI S) {e : Int} (h : 1 ≤ e) (h2 : e ≤ S.f 43 49 + 1) : 0 ≤ web S e ∧ web S e ≤ wphi S := by
  have h3 := wes_mono hI (e - 1).toNat ((S.f 43 49).toNat - (e - 1).toNat)
  have h4 := wphi_es (S := S)
  have h5 := wes_mono hI 0 (e - 1).toNat
  rw [show (e - 1).toNat + ((S.f 43 49).toNat - (e - 1).toNat) = (S.f 43 49).toNat by omega] at h3
  have h6 : wes 3 1 3 5 S 0 = 0 := rfl
  rw [Nat.zero_add, h6] at h5
  unfold web
  omega
theorem wphi_nn (hI : yI S) : 0 ≤ wphi S := by
  have h5 := wes_mono hI 0 (S.f 43 49).toNat
  have h6 : wes 3 1 3 5 S 0 = 0 := rfl
  rw [Nat.zero_add, h6] at h5
  have h4 := wphi_es (S := S)
  omega
theorem wpsi_nn (hI : yI S) : 0 ≤ wpsi S := by
  have h0 := (hI.f tf43_49).1
  have := wpsi_en h0
  omega
/-! slots among what was counted -/
def wSC (k : Int) (S : yS) : Prop := (∀ i j : Nat, i < j → (j : Int) < S.f 43 20 → S.a 60 i ≠ S.a 60 j) ∧ ∀ i : Nat, (i : Int) < S.f 43 20 → ∃ j : Nat, (j : Int) < k ∧ S.a 60 i = S.a 66 j
theorem wSCx (k : Int) : yX [(43, 20)] [60, 66] (wSC k) := by
  intro S S' hf ha h
  refine ⟨fun i j hij hj => ?_, fun i hi => ?_⟩
  · rw [hf 43 20 rfl] at hj
    rw [ha 60 rfl, ha 60 rfl]
    exact h.1 i j hij hj
  · rw [hf 43 20 rfl] at hi
    obtain ⟨j, h1, h2⟩ := h.2 i hi
    exact ⟨j, h1, by rw [ha 60 rfl, ha 66 rfl]; exact h2⟩
theorem wSC_0 (h : S.f 43 20 = 0) : wSC 0 S := ⟨fun i j _ hj => absurd hj (by omega), fun i hi => absurd hi (by omega)⟩
theorem wSC_skip {k : Int} (h : wSC k S) : wSC (k + 1) S := ⟨h.1, fun i hi => by
  obtain ⟨j, h1, h2⟩ := h.2 i hi
  exact ⟨j, by omega, h2⟩⟩
theorem wSC_put {k z : Int} {j : Nat} (h : wSC k S) (hj : S.f 43 20 ≤ (j : Int)) : wSC k (ysa S 60 j z) := by
  refine ⟨fun i i2 hij hj2 => ?_, fun i hi => ?_⟩
  · have hj2 : (i2 : Int) < S.f 43 20 := hj2
    rw [ysa_ne (Or.inr (by omega)), ysa_ne (Or.inr (by omega))]
    exact h.1 i i2 hij hj2
  · have hi : (i : Int) < S.f 43 20 := hi
    obtain ⟨q, h1, h2⟩ := h.2 i hi
    exact ⟨q, h1, by rw [ysa_ne (Or.inr (by omega)), ysa_ne (Or.inl (by decide))]; exact h2⟩
theorem wSC_push {k : Int} (h : wSC k S) (hm : MC S) (h0 : 0 ≤ S.f 43 20) (hk : 0 ≤ k) (hk2 : k < S.f 43 31) (e : S.a 60 (S.f 43 20).toNat = S.a 66 k.toNat) (e1 : S'.f 43 20 = S.f 43 20 + 1) (e2 : ∀ j, S'.a 60 j = S.a 60 j) (e3 : ∀ j, S'.a 66 j = S.a 66 j) : wSC (k + 1) S' := by
  have key : ∀ i : Nat, (i : Int) < S.f 43 20 → S.a 60 i ≠ S.a 66 k.toNat := by
    intro i hi
    obtain ⟨j, h1, h2⟩ := h.2 i hi
    rw [h2]
    exact hm.1 j k.toNat (by omega) (by omega)
  refine ⟨fun i j hij hj => ?_, fun i hi => ?_⟩
  · rw [e2, e2]
    by_cases h5 : (j : Int) < S.f 43 20
    · exact h.1 i j hij h5
    · rw [show j = (S.f 43 20).toNat by omega, e]
      exact key i (by omega)
  · rw [e2]
    by_cases h5 : (i : Int) < S.f 43 20
    · obtain ⟨j, h1, h2⟩ := h.2 i h5
      exact ⟨j, by omega, by rw [e3]; exact h2⟩
    · rw [show i = (S.f 43 20).toNat by omega, e]
      exact ⟨k.toNat, by omega, (e3 _).symm⟩
theorem wSD_of {k : Int} (h : wSC k S) (hm : MC S) (hk : k ≤ S.f 43 31) : wSD S := by
  refine ⟨h.1, fun i hi => ?_⟩
  obtain ⟨j, h1, h2⟩ := h.2 i hi
  rw [h2]
  exact hm.2 j (by omega)
end
end XNC
