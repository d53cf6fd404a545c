set_option linter.unusedVariables false
noncomputable section XNC
/-! what is read off the state, from some fields and rows alone -/
def yXf {β : Type} (FF : List (Nat × Nat)) (FA : List Nat) (W : yS → β) : Prop := ∀ S S' : yS, (∀ b w, yin2 FF b w = true → S'.f b w = S.f b w) → (∀ b, yin FA b = true → ∀ j, S'.a b j = S.a b j) → W S' = W S
section
variable {β : Type} {FF MF : List (Nat × Nat)} {FA MA : List Nat} {W : yS → β} {S S' : yS}
theorem yXf.setf (h : yXf FF FA W) {b w : Nat} {z : Int} (e : yin2 FF b w = false) : W (ysf S b w z) = W S := by
  refine h S _ (fun b' w' e' => ysf_ne ?_) (fun _ _ _ => rfl)
  by_cases h1 : b' = b
  · by_cases h2 : w' = w
    · subst h1 h2; rw [e] at e'; cases e'
    · exact Or.inr h2
  · exact Or.inl h1
theorem yXf.seta (h : yXf FF FA W) {b j : Nat} {z : Int} (e : yin FA b = false) : W (ysa S b j z) = W S := by
  refine h S _ (fun _ _ _ => rfl) (fun b' e' j' => ysa_ne (Or.inl ?_))
  intro h1
  subst h1
  rw [e] at e'
  cases e'
theorem yXf.fr (h : yXf FF FA W) (hF : yFr MF MA S S') (e1 : ydj2 FF MF = true) (e2 : ydj1 FA MA = true) : W S' = W S :=
  h S S' (fun b w e => hF.f (ydj2_of e1 e)) (fun b e j => hF.a (ydj1_of e2 e) j)
end
/-! how many interfaces are gone -/
def gsum (S : yS) : Nat → Int
  | 0 => 0
  | n + 1 => gsum S n + S.a 78 n
def gs (S : yS) : Int := gsum S 20
theorem gsum_eq {S S' : yS} (h : ∀ j, S'.a 78 j = S.a 78 j) : ∀ n, gsum S' n = gsum S n := by
  intro n
  induction n with
  | zero => rfl
  | succ n ih => show gsum S' n + S'.a 78 n = gsum S n + S.a 78 n; rw [ih, h]
theorem gsX : yXf [] [78] gs := fun S S' _ ha => gsum_eq (ha 78 rfl) 20
theorem gsum_le {S : yS} (h : ∀ j, 0 ≤ S.a 78 j ∧ S.a 78 j ≤ 1) : ∀ n : Nat, 0 ≤ gsum S n ∧ gsum S n ≤ n := by
  intro n
  induction n with
  | zero => exact ⟨Int.le_refl _, Int.le_refl _⟩
  | succ n ih =>
    have := h n
    show 0 ≤ gsum S n + S.a 78 n ∧ gsum S n + S.a 78 n ≤ ((n + 1 : Nat) : Int)
    omega
theorem gs_le {S : yS} (h : yI S) : 0 ≤ gs S ∧ gs S ≤ 20 := gsum_le (fun j => h.a ta78 j) 20
theorem gsum_set {S : yS} {f : Nat} (h0 : S.a 78 f = 0) : ∀ n : Nat, gsum (ysa S 78 f 1) n = gsum S n + (if f < n then 1 else 0) := by
  intro n
  induction n with
  | zero => rfl
  | succ n ih =>
    show gsum (ysa S 78 f 1) n + (ysa S 78 f 1).a 78 n = gsum S n + S.a 78 n + _
    rw [ih]
    by_cases hn : n = f
    · subst hn
      rw [ysa_eq, h0, if_neg (by omega), if_pos (by omega)]
    · rw [ysa_ne (Or.inr hn)]
      by_cases hf : f < n
      · rw [if_pos hf, if_pos (by omega)]; omega
      · rw [if_neg hf, if_neg (by omega)]; omega
theorem gs_set {S : yS} {f : Nat} (h0 : S.a 78 f = 0) (hf : f < 20) : gs (ysa S 78 f 1) = gs S + 1 := by
  have := gsum_set h0 20
  rw [if_pos hf] at this
  exact this
/-! how many of the first k that were counted are not final -/
def nfN (S : yS) : Nat → Int
  | 0 => 0
  | n + 1 => nfN S n + (if yand (S.a 54 (S.a 66 n).toNat) 16 ≤ 0 then 1 else 0)
def nf (S : yS) (k : Int) : Int := nfN S k.toNat
def nfa (S : yS) : Int := nf S (S.f 43 31)
theorem nfN_eq {S S' : yS} (h : ∀ j, S'.a 66 j = S.a 66 j) (h2 : ∀ j, S'.a 54 j = S.a 54 j) : ∀ n, nfN S' n = nfN S n := by
  intro n
  induction n with
  | zero => rfl
  | succ n ih => unfold nfN; rw [ih, h, h2]
theorem nfX : yXf [] [66, 54] nf := by
  intro S S' _ ha
  funext k
  exact nfN_eq (ha 66 rfl) (ha 54 rfl) _
theorem nfaX : yXf [(43, 31)] [66, 54] nfa := by
  intro S S' hf ha
  unfold nfa
  rw [hf 43 31 rfl]
  exact nfN_eq (ha 66 rfl) (ha 54 rfl) _
theorem nfz_0 {S : yS} : nf S 0 = 0 := rfl
theorem nfz_s {S : yS} {k : Int} (h : 0 ≤ k) : nf S (k + 1) = nf S k + (if yand (S.a 54 (S.a 66 k.toNat).toNat) 16 ≤ 0 then 1 else 0) := by
  unfold nf
  rw [show (k + 1).toNat = k.toNat + 1 by omega]
  rfl
theorem nf_y {S : yS} {k : Int} (h : 0 ≤ k) (e : yand (S.a 54 (S.a 66 k.toNat).toNat) 16 ≤ 0) : nf S (k + 1) = nf S k + 1 := by rw [nfz_s h, if_pos e]
theorem nf_n {S : yS} {k : Int} (h : 0 ≤ k) (e : 0 < yand (S.a 54 (S.a 66 k.toNat).toNat) 16) : nf S (k + 1) = nf S k := by rw [nfz_s h, if_neg (by omega)]; omega
theorem nfN_mono {S : yS} (n m : Nat) : nfN S n ≤ nfN S (n + m) := by
  induction m with
  | zero => exact Int.le_refl _
  | succ m ih =>
    show _ ≤ nfN S (n + m) + (if yand (S.a 54 (S.a 66 (n + m)).toNat) 16 ≤ 0 then 1 else 0)
    split <;> omega
theorem nf_room {S : yS} {k : Int} (h : 0 ≤ k) (h2 : k < S.f 43 31) (e : yand (S.a 54 (S.a 66 k.toNat).toNat) 16 ≤ 0) : nf S k + 1 ≤ nfa S := by
  rw [← nf_y h e]
  unfold nfa nf
  rw [show (S.f 43 31).toNat = (k + 1).toNat + ((S.f 43 31).toNat - (k + 1).toNat) by omega]
  exact nfN_mono _ _
theorem nfa_of {S : yS} {k : Int} (h : S.f 43 31 = k) : nfa S = nf S k := by unfold nfa; rw [h]
def mrQ (S S1 : yS) (z c a b e : Int) : Prop := (z = 1 ∧ r1M S c) ∨ (z = 2 ∧ ¬ r1M S c ∧ onM S (S.f 43 10) c) ∨ (z = 3 ∧ ¬ r1M S c ∧ oyM S c ∧ r3M S a b e) ∨ (z = 4 ∧ ¬ r1M S c ∧ oyM S c ∧ ¬ r3M S a b e ∧ r4M S c a b e) ∨ (paM S c a b e ∧ mcQ S S1 c a b e ∧ (∀ j, S1.a 54 j = S.a 54 j) ∧ 0 ≤ S1.f 43 31 ∧ (mrH S → (z = 5 ∧ hmY S S1) ∨ (z = 6 ∧ hmN S S1 (S1.f 43 31) ∧ 24 < nfa S1) ∨ (z = 0 ∧ hmN S S1 (S1.f 43 31) ∧ nfa S1 ≤ 24)))
theorem nfN_len {S : yS} : ∀ n : Nat, nfN S n = (((rL S 66 n).filter (nfM S)).length : Int) := by
  intro n
  induction n with
  | zero => rfl
  | succ n ih =>
    show nfN S n + (if yand (S.a 54 (S.a 66 n).toNat) 16 ≤ 0 then 1 else 0) = (((rL S 66 n ++ [S.a 66 n]).filter (nfM S)).length : Int)
    rw [List.filter_append, List.length_append, ih]
    by_cases h : yand (S.a 54 (S.a 66 n).toNat) 16 ≤ 0
    · have e : nfM S (S.a 66 n) = true := decide_eq_true h
      rw [if_pos h, List.filter_cons_of_pos e]
      rfl
    · have e : ¬ nfM S (S.a 66 n) = true := by unfold nfM; rw [decide_eq_true_iff]; exact h
      rw [if_neg h, List.filter_cons_of_neg e]
      rfl
theorem mL_cl {S S1 : yS} (e54 : ∀ j, S1.a 54 j = S.a 54 j) (o0 : 0 ≤ S1.f 43 31) : (hmY S S1 → pr (clM S) ((mL S1).filter (nfM S))) ∧ (hmN S S1 (S1.f 43 31) → ¬ pr (clM S) ((mL S1).filter (nfM S))) := by
  rw [pr_filter]
  refine ⟨?_, ?_⟩
  · rintro ⟨i, j, hj, hi, f1, f2, h⟩
    refine (pr_row _).mpr ⟨i, j, hj, by omega, decide_eq_true ?_, decide_eq_true ?_, h⟩
    · rw [← e54]; exact f1
    · rw [← e54]; exact f2
  · intro hn q
    obtain ⟨i, j, hj, hi, f1, f2, h⟩ := (pr_row _).mp q
    refine hn i j hj (by omega) ?_ ?_ h
    · rw [e54]; exact of_decide_eq_true f1
    · rw [e54]; exact of_decide_eq_true f2
/-! forge: both sides together -/
theorem pr_or {A B : Int → Int → Prop} : ∀ l : List Int, pr (fun y x => A y x ∨ B y x) l → pr A l ∨ pr B l := by
  intro l
  induction l with
  | nil => intro h; exact Or.inl h
  | cons x r ih =>
    rintro (⟨y, hy, h | h⟩ | h)
    · exact Or.inl (Or.inl ⟨y, hy, h⟩)
    · exact Or.inr (Or.inl ⟨y, hy, h⟩)
    · rcases ih h with h1 | h1
      · exact Or.inl (Or.inr h1)
      · exact Or.inr (Or.inr h1)
def goM (S : yS) (c a b e : Int) : Prop := (0 ≤ c ∧ c < S.f 43 1) ∧ (a = -1 ∨ (0 ≤ a ∧ a < S.f 43 1)) ∧ (b = -1 ∨ (0 ≤ b ∧ b < S.f 43 1)) ∧ (e = -1 ∨ (0 ≤ e ∧ e < S.f 43 1)) ∧ (a ≠ -1 ∨ b = -1) ∧ (b ≠ -1 ∨ e = -1)
def sMa (S Sa : yS) : Prop := Sa.f 43 1 = S.f 43 1 ∧ Sa.f 43 10 = S.f 43 10 ∧ (∀ j, Sa.a 44 j = S.a 44 j) ∧ (∀ j, Sa.a 45 j = S.a 45 j) ∧ (∀ j, Sa.a 46 j = S.a 46 j) ∧ (∀ j, Sa.a 48 j = S.a 48 j) ∧ (∀ j, Sa.a 49 j = S.a 49 j) ∧ (∀ j, Sa.a 50 j = S.a 50 j) ∧ (∀ j, Sa.a 51 j = S.a 51 j) ∧ (∀ j, Sa.a 52 j = S.a 52 j) ∧ (∀ j, Sa.a 53 j = S.a 53 j) ∧ (∀ j, Sa.a 54 j = S.a 54 j) ∧ (∀ j, Sa.a 55 j = S.a 55 j) ∧ (∀ j, Sa.a 56 j = S.a 56 j)
theorem sMa_fr {S Sa : yS} {MF : List (Nat × Nat)} {MA : List Nat} (hF : yFr MF MA S Sa) (s1 : ydj2 [(43, 1), (43, 10)] MF = true) (s2 : ydj1 [44, 45, 46, 48, 49, 50, 51, 52, 53, 54, 55, 56] MA = true) : sMa S Sa :=
  ⟨hF.f (ydj2_of s1 rfl), hF.f (ydj2_of s1 rfl), hF.a (ydj1_of s2 rfl), hF.a (ydj1_of s2 rfl), hF.a (ydj1_of s2 rfl), hF.a (ydj1_of s2 rfl), hF.a (ydj1_of s2 rfl), hF.a (ydj1_of s2 rfl), hF.a (ydj1_of s2 rfl), hF.a (ydj1_of s2 rfl), hF.a (ydj1_of s2 rfl), hF.a (ydj1_of s2 rfl), hF.a (ydj1_of s2 rfl), hF.a (ydj1_of s2 rfl)⟩
def mfR (S : yS) (z c a b e : Int) : Prop := goM S c a b e ∧ ∃ Sa Sb, sMa S Sa ∧ mrQ Sa Sb z c a b e
def mfQ (S S1 : yS) (z c a b e : Int) : Prop := (S1.f 43 0 = 1 ∧ ¬ goM S c a b e) ∨ (S1.f 43 0 = 0 ∧ mfR S z c a b e)
/-- the rows of the two sides -/
def JJ (Sa Ma : yS) : Prop := Sa.f 1 7 = Ma.f 43 1 ∧ Sa.f 9 8 = Ma.f 43 10 ∧ (∀ j, Ma.a 44 j = Sa.a 2 j) ∧ (∀ j, Ma.a 45 j = yand (Sa.a 3 j) 1) ∧ (∀ j, 2 * Ma.a 46 j = yand (Sa.a 3 j) 2) ∧ (∀ j, Ma.a 48 j = Sa.a 4 j) ∧ (∀ j, Sa.a 2 j = 0 → Ma.a 49 j = Sa.a 5 j) ∧ (∀ j, Ma.a 50 j = Sa.a 8 j) ∧ (∀ j, Ma.a 51 j = Sa.a 7 j) ∧ (∀ j, Ma.a 52 j = Sa.a 10 j) ∧ (∀ j, Ma.a 53 j = Sa.a 11 j) ∧ (∀ j, Ma.a 54 j = Sa.a 12 j) ∧ (∀ j, Ma.a 55 j = Sa.a 13 j) ∧ (∀ j, Ma.a 56 j = Sa.a 14 j)
theorem JJ_of {S S1 Sa Ma : yS} (h : RT S) (hs : RS S) (hm : RMe S) (h1 : sAs S Sa) (h2 : sMa S S1) (h3 : sMa S1 Ma) : JJ Sa Ma := by
  obtain ⟨a1, a2, a3, a4, a5, a6, a7, a8, a9, a10, a11, a12, a13, a14⟩ := h1
  obtain ⟨b1, b2, b3, b4, b5, b6, b7, b8, b9, b10, b11, b12, b13, b14⟩ := h2
  obtain ⟨c1, c2, c3, c4, c5, c6, c7, c8, c9, c10, c11, c12, c13, c14⟩ := h3
  obtain ⟨r1, -, r⟩ := h
  obtain ⟨m1, m⟩ := hm
  obtain ⟨-, -, ⟨f1, f2⟩, -⟩ := hs
  refine ⟨by omega, by omega, fun j => ?_, fun j => ?_, fun j => ?_, fun j => ?_, fun j hj => ?_, fun j => ?_, fun j => ?_, fun j => ?_, fun j => ?_, fun j => ?_, fun j => ?_, fun j => ?_⟩
  · rw [c3, b3, a3]; exact (r j).1
  · rw [c4, b4, a4]; exact (r j).2.1
  · rw [c5, b5, a4]; exact (r j).2.2.1
  · rw [c6, b6, a5]; exact (r j).2.2.2.2.1
  · rw [a3] at hj; rw [c7, b7, a6]; exact (r j).2.2.2.2.2.2 hj
  · rw [c8, b8, a9]; exact f2 j
  · rw [c9, b9, a8]; exact f1 j
  · rw [c10, b10, a10]; exact (m j).1
  · rw [c11, b11, a11]; exact (m j).2.1
  · rw [c12, b12, a12]; exact (m j).2.2.1
  · rw [c13, b13, a13]; exact (m j).2.2.2.1
  · rw [c14, b14, a14]; exact (m j).2.2.2.2
theorem J3 {Sa Ma : yS} {t a b c : Int} (ha : asQ Sa t a b c) (ga : a = -1 ∨ 0 ≤ a) (gb : b = -1 ∨ 0 ≤ b) (gc : c = -1 ∨ 0 ≤ c) (o1 : a ≠ -1 ∨ b = -1) (o2 : b ≠ -1 ∨ c = -1) (e44 : ∀ j, Ma.a 44 j = Sa.a 2 j) : diC Sa (Sa.f 17 7) ↔ ¬ r3M Ma a b c := by
  obtain ⟨-, h0, h1, h2, hc⟩ := ha
  unfold r3M
  rw [e44, e44, e44]
  constructor
  · intro hd
    have d0 : 0 < Sa.f 17 7 → Sa.a 2 a.toNat ≠ 0 := fun q => by
      have w := (hd 0 (by omega)).1
      rw [h0] at w
      exact w
    have d1 : 1 < Sa.f 17 7 → Sa.a 2 b.toNat ≠ 0 ∧ b ≠ a := fun q => by
      have w := hd 1 (by omega)
      have w2 := w.2 0 (by omega)
      have w1 := w.1
      rw [h1] at w1 w2
      rw [h0] at w2
      exact ⟨w1, w2⟩
    have d2 : 2 < Sa.f 17 7 → Sa.a 2 c.toNat ≠ 0 ∧ c ≠ a ∧ c ≠ b := fun q => by
      have w := hd 2 (by omega)
      have w2 := w.2 0 (by omega)
      have w3 := w.2 1 (by omega)
      have w1 := w.1
      rw [h2] at w1 w2 w3
      rw [h0] at w2
      rw [h1] at w3
      exact ⟨w1, w2, w3⟩
    omega
  · intro hn i hi
    rcases (show i = 0 ∨ i = 1 ∨ i = 2 by omega) with rfl | rfl | rfl
    · rw [h0]
      exact ⟨by omega, fun j hj => absurd hj (by omega)⟩
    · rw [h1]
      refine ⟨by omega, fun j hj => ?_⟩
      have e : j = 0 := by omega
      subst e
      rw [h0]
      omega
    · rw [h2]
      refine ⟨by omega, fun j hj => ?_⟩
      rcases (show j = 0 ∨ j = 1 by omega) with rfl | rfl
      · rw [h0]; omega
      · rw [h1]; omega
theorem J4 {Sa Ma : yS} {t a b c : Int} (ha : asQ Sa t a b c) (ga : a = -1 ∨ 0 ≤ a) (gb : b = -1 ∨ 0 ≤ b) (gc : c = -1 ∨ 0 ≤ c) (o1 : a ≠ -1 ∨ b = -1) (o2 : b ≠ -1 ∨ c = -1) (e45 : ∀ j, Ma.a 45 j = yand (Sa.a 3 j) 1) (e48 : ∀ j, Ma.a 48 j = Sa.a 4 j) : viC Sa (Sa.f 17 7) ↔ ¬ r4M Ma t a b c := by
  obtain ⟨h6, h0, h1, h2, hc⟩ := ha
  unfold r4M hdM
  rw [e45, e45, e45, e48, e48, e48, e48]
  constructor
  · intro hd
    have d0 : 0 < Sa.f 17 7 → yand (Sa.a 3 a.toNat) 1 ≠ 0 ∨ Sa.a 4 a.toNat = Sa.a 4 t.toNat := fun q => by
      have w := hd 0 (by omega)
      rw [h0, h6] at w
      exact w
    have d1 : 1 < Sa.f 17 7 → yand (Sa.a 3 b.toNat) 1 ≠ 0 ∨ Sa.a 4 b.toNat = Sa.a 4 t.toNat := fun q => by
      have w := hd 1 (by omega)
      rw [h1, h6] at w
      exact w
    have d2 : 2 < Sa.f 17 7 → yand (Sa.a 3 c.toNat) 1 ≠ 0 ∨ Sa.a 4 c.toNat = Sa.a 4 t.toNat := fun q => by
      have w := hd 2 (by omega)
      rw [h2, h6] at w
      exact w
    omega
  · intro hn i hi
    rcases (show i = 0 ∨ i = 1 ∨ i = 2 by omega) with rfl | rfl | rfl
    · rw [h0, h6]; omega
    · rw [h1, h6]; omega
    · rw [h2, h6]; omega
theorem J5 {Sa : yS} {t a b c : Int} (ha : asQ Sa t a b c) (ga : a = -1 ∨ 0 ≤ a) (gb : b = -1 ∨ 0 ≤ b) (gc : c = -1 ∨ 0 ≤ c) (o1 : a ≠ -1 ∨ b = -1) (o2 : b ≠ -1 ∨ c = -1) : rL Sa 18 (Sa.f 17 7).toNat = gl a b c := by
  obtain ⟨-, h0, h1, h2, hc⟩ := ha
  unfold gl
  rcases hc with ⟨q, e⟩ | ⟨q0, q, e⟩ | ⟨q0, q1, q, e⟩ | ⟨q0, q1, q, e⟩
  · rw [e, if_neg (by omega), if_neg (by omega), if_neg (by omega)]; rfl
  · rw [e, if_pos (by omega), if_neg (by omega), if_neg (by omega)]
    show [] ++ [Sa.a 18 0] = _
    rw [h0]; rfl
  · rw [e, if_pos (by omega), if_pos (by omega), if_neg (by omega)]
    show ([] ++ [Sa.a 18 0]) ++ [Sa.a 18 1] = _
    rw [h0, h1]; rfl
  · rw [e, if_pos (by omega), if_pos (by omega), if_pos (by omega)]
    show (([] ++ [Sa.a 18 0]) ++ [Sa.a 18 1]) ++ [Sa.a 18 2] = _
    rw [h0, h1, h2]; rfl
theorem J_ok {Sa Ma : yS} {t : Int} (j : JJ Sa Ma) : okC Sa t = okM Ma t := by
  obtain ⟨-, -, -, -, -, j6, -, -, -, j10, j11, j12, -, -⟩ := j
  funext x m
  unfold okC okM
  have w := @yand_c (Sa.a 12 m) 12 (by decide) (by decide)
  rw [j10, j11, j12, j6, j6]
  exact decide_eq_decide.mpr ⟨fun q => ⟨q.1, q.2.1, by omega, q.2.2.2⟩, fun q => ⟨q.1, q.2.1, by omega, q.2.2.2⟩⟩
theorem J_sm {Sa Ma : yS} (j : JJ Sa Ma) : smC Sa = smM Ma := by
  obtain ⟨-, -, -, -, -, -, -, -, -, -, j11, -, j13, j14⟩ := j
  funext x m
  unfold smC smM
  rw [j11, j11, j13, j13, j14, j14]
theorem J_nf {Sa Ma : yS} (j : JJ Sa Ma) : nfC Sa = nfM Ma := by
  obtain ⟨-, -, -, -, -, -, -, -, -, -, -, j12, -, -⟩ := j
  funext x
  unfold nfC nfM
  have w := @yand_c (Sa.a 12 x.toNat) 16 (by decide) (by decide)
  rw [j12]
  exact decide_eq_decide.mpr ⟨fun q => by omega, fun q => by omega⟩
theorem J_ch {Sa Ma : yS} (j : JJ Sa Ma) : chM Ma = chC Sa := by
  obtain ⟨-, -, -, -, -, -, -, j8, j7, -⟩ := j
  funext t
  unfold chM chC
  rw [chI_eq j8, j7]
theorem J_chn {Sa Ma : yS} {t : Int} (j : JJ Sa Ma) (h : maH Sa) (ht : Sa.f 17 6 = t) : chQ Ma t = chP Sa := by
  obtain ⟨-, -, -, -, -, -, j7, -⟩ := j
  obtain ⟨hr, hf, hb, h2, h5, n20, -⟩ := h
  unfold chQ chP
  rw [ht] at hb h2 ⊢
  refine chn_congr (R := fun x => (0 ≤ x ∧ x < Sa.f 1 7) ∧ Sa.a 2 x.toNat = 0) (fun x hx hp => ?_) (fun x hx => j7 _ hx.2) 20 t (fun _ => ⟨hb, h2⟩)
  rcases Int.lt_or_le 0 x with p0 | p0
  · have f5 := hf.1 x (by omega) hx.1.2
    have hx1 := hx.1
    refine ⟨⟨f5.1, ?_⟩, hr.2 x (by omega) hx.1.2 hx.2⟩
    have : parC Sa x = Sa.a 5 x.toNat := rfl
    omega
  · have hx1 := hx.1
    have e : x = 0 := by omega
    subst e
    have q1 : parC Sa 0 = Sa.a 5 0 := rfl
    have q2 : Sa.a 5 (0 : Int).toNat = Sa.a 5 0 := rfl
    exfalso
    have hp2 : 0 ≤ parC Sa 0 := hp
    omega
/-- what stands in the way of two methods is the same -/
theorem J_cl {Sa Ma : yS} (j : JJ Sa Ma) (hk : RK Ma) (n20 : Sa.f 1 7 ≤ 20) (hb : ∀ x y : Int, 0 ≤ x → x < Sa.f 1 7 → 0 ≤ y → y ≤ 19 → (bt (Sa.a 6 x.toNat) y ↔ rcM Ma x y)) {l : List Int} (hl : ¬ pr (fun y x => smC Sa x y.toNat = true) l) : pr (clC Sa) l ↔ pr (clM Ma) l := by
  obtain ⟨j1, -, -, -, -, -, -, -, -, -, j11, -, j13, j14⟩ := j
  have key : ∀ x y : Int, 4 ≤ Sa.a 14 x.toNat → 4 ≤ Sa.a 14 y.toNat → (bt (Sa.a 6 (Sa.a 14 y.toNat - 4).toNat) (Sa.a 14 x.toNat - 4) ↔ rcM Ma (Sa.a 14 y.toNat - 4) (Sa.a 14 x.toNat - 4)) := by
    intro x y x4 y4
    have kx := hk x.toNat
    have ky := hk y.toNat
    rw [j14] at kx ky
    exact hb _ _ (by omega) (by omega) (by omega) (by omega)
  constructor
  · refine pr_imp l (fun x _ y _ q => ?_)
    obtain ⟨q1, q2, q3⟩ := q
    refine ⟨by rw [j11, j11]; exact q1.symm, by rw [j13, j13]; exact q2.symm, ?_⟩
    rw [j14, j14]
    rcases q3 with ⟨q3, -⟩ | ⟨⟨q3, q4⟩, q5, q6⟩
    · exact Or.inl (by omega)
    · exact Or.inr ⟨fun w => q5 ((key x y q4 q3).mpr w), fun w => q6 ((key y x q3 q4).mpr w)⟩
  · intro h
    have h2 : pr (fun y x => clC Sa y x ∨ smC Sa x y.toNat = true) l := by
      refine pr_imp l (fun x _ y _ q => ?_) h
      obtain ⟨q1, q2, q3⟩ := q
      rw [j11, j11] at q1
      rw [j13, j13] at q2
      rw [j14, j14] at q3
      by_cases e : Sa.a 14 x.toNat = Sa.a 14 y.toNat
      · exact Or.inr (decide_eq_true ⟨q1, q2, e⟩)
      · refine Or.inl ⟨q1.symm, q2.symm, ?_⟩
        by_cases c4 : 3 < Sa.a 14 y.toNat ∧ 3 < Sa.a 14 x.toNat
        · rcases q3 with q3 | q3
          · exact absurd c4 q3
          · exact Or.inr ⟨⟨by omega, by omega⟩, fun w => q3.1 ((key x y (by omega) (by omega)).mp w), fun w => q3.2 ((key y x (by omega) (by omega)).mp w)⟩
        · exact Or.inl ⟨by omega, fun w => e w.symm⟩
    rcases pr_or l h2 with h3 | h3
    · exact h3
    · exact absurd h3 hl
theorem go_iff {S S1 : yS} {t a b c : Int} (h : S.f 1 7 = S1.f 43 1) : goC S t a b c ↔ goM S1 t a b c := by
  unfold goC goM
  rw [h]
  omega
/-- the answers of the two sides -/
theorem RF_eq {Sa Sb Ma Mb : yS} {t a b c v z : Int} (j : JJ Sa Ma) (ha : asQ Sa t a b c) (hg : goC Sa t a b c) (hr : RI Sa) (hf : FC Sa) (h01 : ∀ j : Nat, Sa.a 2 j = 0 ∨ Sa.a 2 j = 1) (h5 : Sa.a 5 0 < 0) (n20 : Sa.f 1 7 ≤ 20) (hh : mrH Ma) (hb : ∀ x y : Int, 0 ≤ x → x < Sa.f 1 7 → 0 ≤ y → y ≤ 19 → (bt (Sa.a 6 x.toNat) y ↔ rcM Ma x y)) (f0 : 0 ≤ Sb.f 17 12) (hC : rfQ Sa Sb v) (hM : mrQ Ma Mb z t a b c) : v = z ∧ (v = 0 → fnd Sb = (mL Mb).filter (nfM Ma)) := by
  have gt := hg.1
  have ga : a = -1 ∨ 0 ≤ a := by have := hg.2; omega
  have gb : b = -1 ∨ 0 ≤ b := by have := hg.2; omega
  have gc : c = -1 ∨ 0 ≤ c := by have := hg.2; omega
  have o1 : a ≠ -1 ∨ b = -1 := by have := hg.2; omega
  have o2 : b ≠ -1 ∨ c = -1 := by have := hg.2; omega
  have i3 := J3 (Ma := Ma) ha ga gb gc o1 o2 j.2.2.1
  have i4 := J4 (Ma := Ma) ha ga gb gc o1 o2 j.2.2.2.1 j.2.2.2.2.2.1
  have e6 := ha.1
  have i1 : r1C Sa ↔ r1M Ma t := by
    unfold r1C r1M
    have w1 := j.2.2.1 t.toNat
    have w2 := j.2.2.2.2.1 t.toNat
    rw [e6]
    omega
  have iop : ∀ m : Int, opC Sa m t ↔ opM Ma m t := by
    intro m
    unfold opC opM
    rw [j.2.2.2.2.2.2.2.2.2.1, j.2.2.2.2.2.2.2.2.2.2.1, j.2.2.2.2.2.2.2.2.2.2.2.1]
  have i2 : ocY Sa t ↔ oyM Ma t := by
    unfold ocY oyM
    rw [j.2.1]
    exact ⟨fun ⟨m, a, b, q⟩ => ⟨m, a, b, (iop m).mp q⟩, fun ⟨m, a, b, q⟩ => ⟨m, a, b, (iop m).mpr q⟩⟩
  have i2n : ocN Sa (Sa.f 9 8) t → ¬ oyM Ma t := fun q ⟨m, a, b, w⟩ => q m a (by rw [j.2.1]; exact b) ((iop m).mpr w)
  have i2m : onM Ma (Ma.f 43 10) t → ¬ oyM Ma t := fun q ⟨m, a, b, w⟩ => q m a b w
  unfold rfQ paC at hC
  unfold mrQ paM at hM
  rw [e6] at hC
  rcases hC with ⟨v1, a1⟩ | ⟨v1, a1, a2⟩ | ⟨v1, a1, a2, a3⟩ | ⟨v1, a1, a2, a3, a4⟩ | ⟨⟨a1, a2, a3, a4⟩, S2, b1, b2, b3, b4, b5⟩
  · have m1 := i1.mp a1
    rcases hM with ⟨z1, -⟩ | ⟨z1, c1, -⟩ | ⟨z1, c1, -⟩ | ⟨z1, c1, -⟩ | ⟨⟨c1, -⟩, -⟩
    · exact ⟨by omega, fun q => by omega⟩
    · exact absurd m1 c1
    · exact absurd m1 c1
    · exact absurd m1 c1
    · exact absurd m1 c1
  · have m1 : ¬ r1M Ma t := fun q => a1 (i1.mpr q)
    have m2 := i2n a2
    rcases hM with ⟨z1, c1⟩ | ⟨z1, -⟩ | ⟨z1, c1, c2, -⟩ | ⟨z1, c1, c2, -⟩ | ⟨⟨c1, c2, -⟩, -⟩
    · exact absurd c1 m1
    · exact ⟨by omega, fun q => by omega⟩
    · exact absurd c2 m2
    · exact absurd c2 m2
    · exact absurd c2 m2
  · have m1 : ¬ r1M Ma t := fun q => a1 (i1.mpr q)
    have m2 := i2.mp a2
    rcases hM with ⟨z1, c1⟩ | ⟨z1, c1, c2⟩ | ⟨z1, -⟩ | ⟨z1, c1, c2, c3, -⟩ | ⟨⟨c1, c2, c3, -⟩, -⟩
    · exact absurd c1 m1
    · exact absurd m2 (i2m c2)
    · exact ⟨by omega, fun q => by omega⟩
    · exact absurd (i3.mpr c3) a3
    · exact absurd (i3.mpr c3) a3
  · have m1 : ¬ r1M Ma t := fun q => a1 (i1.mpr q)
    have m2 := i2.mp a2
    have m3 := i3.mp a3
    rcases hM with ⟨z1, c1⟩ | ⟨z1, c1, c2⟩ | ⟨z1, c1, c2, c3⟩ | ⟨z1, -⟩ | ⟨⟨c1, c2, c3, c4⟩, -⟩
    · exact absurd c1 m1
    · exact absurd m2 (i2m c2)
    · exact absurd c3 m3
    · exact ⟨by omega, fun q => by omega⟩
    · exact absurd (i4.mpr c4) a4
  · have m1 : ¬ r1M Ma t := fun q => a1 (i1.mpr q)
    have m2 := i2.mp a2
    have m3 := i3.mp a3
    have m4 := i4.mp a4
    rcases hM with ⟨z1, c1⟩ | ⟨z1, c1, c2⟩ | ⟨z1, c1, c2, c3⟩ | ⟨z1, c1, c2, c3, c4⟩ | ⟨-, d1, d2, d3, d4⟩
    · exact absurd c1 m1
    · exact absurd m2 (i2m c2)
    · exact absurd c3 m3
    · exact absurd c4 m4
    · have hma : maH Sa := by
        refine ⟨hr, hf, by rw [e6]; exact gt, ?_, h5, n20, fun q hq => ?_⟩
        · unfold r1C at a1; rw [e6] at a1 ⊢; omega
        · have w1 := (a3 q hq).1
          have w2 := h01 (Sa.a 18 q).toNat
          have w3 := hg.2
          obtain ⟨-, h0, h1, h2, hc⟩ := ha
          rcases (show q = 0 ∨ q = 1 ∨ q = 2 by omega) with rfl | rfl | rfl
          · rw [h0] at w1 w2 ⊢; omega
          · rw [h1] at w1 w2 ⊢; omega
          · rw [h2] at w1 w2 ⊢; omega
      obtain ⟨acc, g1, g2⟩ := FL_of hma b1 b2 b3
      obtain ⟨acc2, k1, k2⟩ := d1
      rw [J_ch j, J_chn j hma e6, ← J5 ha ga gb gc o1 o2] at k1
      have ea := DF_det g1 k1
      subst ea
      have el : mL Mb = caL Sa (chP Sa ++ acc) := by
        rw [k2, J_chn j hma e6]
        unfold maL caL
        rw [← J_ok j, ← J_sm j, j.2.1, e6]
      have eL : fnd Sb = (mL Mb).filter (nfM Ma) := by rw [g2, el, J_nf j]
      refine ⟨?_, fun _ => eL⟩
      have nps : ¬ pr (fun y x => smC Sa x y.toNat = true) (fnd Sb) := by
        intro q
        rw [g2, pr_filter] at q
        refine cAll_npr (ok := okC Sa (Sa.f 17 6)) (sm := smC Sa) (M := (Sa.f 9 8).toNat) (chP Sa ++ acc) [] (fun w => w) ?_
        exact pr_imp _ (fun x _ y _ w => w.2.2) q
      have ic := J_cl j hh.2 n20 hb nps
      have fc := fnd_cl b4 f0
      have mc := mL_cl d2 d3
      rw [← eL] at mc
      have lc : Sb.f 17 12 = ((fnd Sb).length : Int) := by unfold fnd; rw [rL_len]; omega
      have lm : nfa Mb = ((fnd Sb).length : Int) := by
        rw [eL]
        have w : nfM Mb = nfM Ma := by
          funext x
          unfold nfM
          rw [d2]
        rw [← w]
        exact nfN_len _
      rcases d4 hh with ⟨z1, y⟩ | ⟨z1, y, l⟩ | ⟨z1, y, l⟩
      · rcases b5 with ⟨v1, x⟩ | ⟨v1, x, l⟩ | ⟨v1, x, l⟩
        · omega
        · exact absurd (ic.mpr (mc.1 y)) (fc.2 x)
        · exact absurd (ic.mpr (mc.1 y)) (fc.2 x)
      · rcases b5 with ⟨v1, x⟩ | ⟨v1, x, l2⟩ | ⟨v1, x, l2⟩
        · exact absurd (ic.mp (fc.1 x)) (mc.2 y)
        · omega
        · omega
      · rcases b5 with ⟨v1, x⟩ | ⟨v1, x, l2⟩ | ⟨v1, x, l2⟩
        · exact absurd (ic.mp (fc.1 x)) (mc.2 y)
        · omega
        · omega
theorem FO_eq {S S1 S2 : yS} {t a b c k z : Int} (h : RT S) (hs : RS S) (hm : RMe S) (hi : RI S) (hk : RK S) (h3 : ∀ j : Nat, S.a 49 j < j) (n20 : S.f 1 7 ≤ 20) (hC : hFo S S1 t a b c k) (e1 : sMa S S1) (hM : mfQ S1 S2 z t a b c) : S2.f 43 0 = k ∧ (k = 0 → S1.a 81 (0 : Int).toNat = z) := by
  have en : S.f 1 7 = S1.f 43 1 := by rw [e1.1]; exact h.1
  have gi := go_iff (S := S) (S1 := S1) (t := t) (a := a) (b := b) (c := c) en
  rcases hC with ⟨k0, g, Sa, Sb, ha, hsa, hr, f0⟩ | ⟨k1, g⟩
  · rcases hM with ⟨m0, g2⟩ | ⟨m0, g2, Ma, Mb, hma, hmr⟩
    · exact absurd (gi.mp g) g2
    · refine ⟨by omega, fun _ => ?_⟩
      have j := JJ_of h hs hm hsa e1 hma
      obtain ⟨a1, a2, a3, a4, a5, a6, a7, a8, a9, -⟩ := id hsa
      obtain ⟨b1, b2, b3, b4, b5, b6, b7, b8, b9, b10, b11, b12, b13, b14⟩ := e1
      obtain ⟨c1, c2, c3, c4, c5, c6, c7, c8, c9, c10, c11, c12, c13, c14⟩ := hma
      have hT : sT S Sa := ⟨a1, fun j => ⟨a3 j, a6 j, a8 j, a9 j⟩⟩
      have e49 : ∀ j, Ma.a 49 j = S.a 49 j := fun j => (c7 j).trans (b7 j)
      have e50 : ∀ j, Ma.a 50 j = S.a 50 j := fun j => (c8 j).trans (b8 j)
      have e51 : ∀ j, Ma.a 51 j = S.a 51 j := fun j => (c9 j).trans (b9 j)
      have e431 : Ma.f 43 1 = S.f 43 1 := by omega
      have hFM := FM_of h hs h3 e431 e49 e50 e51
      have hRK : RK Ma := fun q => by rw [c14, b14, e431]; exact hk q
      have h5 : S.a 5 0 < 0 := by
        have w := (h.2.2 0).2.2.2.2.2.2 h.2.1.1
        have w2 := h3 0
        omega
      refine (RF_eq j ha ?_ (sT_RI hT hi) (sT_FC hT hs.1) (fun q => by rw [a3]; exact hs.2.2.2.1 q) (by rw [a6]; exact h5) (by omega) ⟨hFM, hRK⟩ (fun x y x0 x1 y0 y1 => ?_) f0 hr hmr).1
      · unfold goC at g ⊢; rw [a1]; exact g
      · rw [a7]
        exact (hs.2.1 x y x0 (by omega) y0 y1).trans (rcC_M h hs h3 x0 (by omega) e431 e49 e50 e51)
  · rcases hM with ⟨m0, g2⟩ | ⟨m0, g2, -⟩
    · exact ⟨by omega, fun q => absurd q (by omega)⟩
    · exact absurd (gi.mpr g2) g
theorem mr0 {S S1 : yS} {z c a b e : Int} (h : mrQ S S1 z c a b e) (hz : z = 0) : mrQ S S1 0 c a b e := by
  rw [hz] at h
  exact h
theorem RI_type {S S1 : yS} {b fl p up k : Int} {MF1 : List (Nat × Nat)} {MA1 : List Nat} (h : RI S) (hf : FC S) (n4 : 4 ≤ S.f 1 7) (hC : hTy S S1 b fl p up k) (hF1 : yFr MF1 MA1 S S1) (s2 : ydj1 [7, 8] MA1 = true) : RI S1 := by
  have e7 : ∀ j, S1.a 7 j = S.a 7 j := hF1.a (ydj1_of s2 rfl)
  have e8 : ∀ j, S1.a 8 j = S.a 8 j := hF1.a (ydj1_of s2 rfl)
  rcases hC with ⟨-, ht, -, -, hc⟩ | ⟨-, -, e1, e2⟩ | ⟨-, -, -, e1, e2⟩
  · obtain ⟨c1, c2, -, -, c5⟩ := hc
    have q2 : ∀ x : Int, 0 ≤ x → x < S.f 1 7 → S1.a 2 x.toNat = S.a 2 x.toNat := fun x x0 x1 => (c2 _).trans (ysa_ne (Or.inr (by omega)))
    have q5 : ∀ x : Int, 0 ≤ x → x < S.f 1 7 → S1.a 5 x.toNat = S.a 5 x.toNat := fun x x0 x1 => (c5 _).trans (ysa_ne (Or.inr (by omega)))
    refine ⟨fun x i x0 x1 i0 i1 => ?_, fun x x0 x1 x2 => ?_⟩
    · rw [e7] at i1
      rw [e8]
      rcases Int.lt_or_le x (S.f 1 7) with w | w
      · have g := hf.2.1 x i x0 w i0 i1
        rw [q2 _ g.1 g.2]
        exact h.1 x i x0 w i0 i1
      · have g := hf.2.2 x w
        omega
    · rcases Int.lt_or_le x (S.f 1 7) with w | w
      · have g := hf.1 x x0 w
        rw [q2 x (by omega) w] at x2
        rw [q5 x (by omega) w, q2 _ g.1 (by omega)]
        exact h.2 x x0 w x2
      · have e : x = S.f 1 7 := by omega
        subst e
        have b0 : b = 0 := by
          rw [c2, ysa_eq] at x2
          exact x2
        rw [c5, ysa_eq]
        unfold tyC at ht
        rw [q2 up (by omega) (by omega)]
        omega
  · unfold RI at h ⊢
    rw [e1, e2]
    exact h
  · unfold RI at h ⊢
    rw [e1, e2]
    exact h
theorem RI_impl {S S1 : yS} {t f k : Int} {MF1 : List (Nat × Nat)} {MA1 : List Nat} (h : RI S) (hb : B2 S) (a7 : ∀ j, 0 ≤ S.a 7 j ∧ S.a 7 j ≤ 4) (hC : hIm S S1 t f k) (hF1 : yFr MF1 MA1 S S1) (s1 : ydj2 [(1, 7)] MF1 = true) (s2 : ydj1 [2, 5] MA1 = true) : RI S1 := by
  have e2 : ∀ j, S1.a 2 j = S.a 2 j := hF1.a (ydj1_of s2 rfl)
  have e5 : ∀ j, S1.a 5 j = S.a 5 j := hF1.a (ydj1_of s2 rfl)
  have e1 : S1.f 1 7 = S.f 1 7 := hF1.f (ydj2_of s1 rfl)
  rcases hC with ⟨-, hi, ⟨c7, c8⟩, -⟩ | ⟨-, -, e1, e2⟩
  · refine ⟨fun x i x0 x1 i0 i1 => ?_, fun x x0 x1 x2 => ?_⟩
    · rw [e2]
      rw [e1] at x1
      have w7 := a7 t.toNat
      have i3 := hi.2.2.1
      have b3 := hb.1 f.toNat
      have t0 := hi.1.1
      by_cases q : x = t
      · subst q
        rw [c7, ysa_eq] at i1
        by_cases qi : i = S.a 7 x.toNat
        · have e : (4 * x + i).toNat = (x * 4 + S.a 7 x.toNat).toNat := by omega
          rw [e, c8, ysa_eq]
          omega
        · rw [c8, ysa_ne (Or.inr (by omega))]
          exact h.1 x i x0 x1 i0 (by omega)
      · rw [c7, ysa_ne (Or.inr (by omega))] at i1
        have w8 := a7 x.toNat
        rw [c8, ysa_ne (Or.inr (by have := hi.2.2.2.2.1; omega))]
        exact h.1 x i x0 x1 i0 i1
    · rw [e2] at x2
      rw [e2, e5]
      rw [e1] at x1
      exact h.2 x x0 x1 x2
  · unfold RI at h ⊢
    rw [e1, e2]
    exact h
theorem RK_type {S S1 : yS} {b fl p up z : Int} {MF1 : List (Nat × Nat)} {MA1 : List Nat} (h : RK S) (hM : mTyQ S S1 b fl p up z) (hF1 : yFr MF1 MA1 S S1) (s2 : ydj1 [56] MA1 = true) : RK S1 := by
  have e : ∀ j, S1.a 56 j = S.a 56 j := hF1.a (ydj1_of s2 rfl)
  have e1 : S.f 43 1 ≤ S1.f 43 1 := by
    rcases hM with ⟨-, -, -, -, o, f, a, u, -, c1, -⟩ | ⟨-, -, c1, -⟩ | ⟨-, -, -, c1, -⟩
    · omega
    · omega
    · omega
  intro j
  rw [e]
  have := h j
  omega
theorem RK_meth {S S1 : yS} {t w fl p b z : Int} {MF1 : List (Nat × Nat)} {MA1 : List Nat} (h : RK S) (n4 : 4 ≤ S.f 43 1) (hM : mMeQ S S1 t w fl p b z) (hF1 : yFr MF1 MA1 S S1) (s1 : ydj2 [(43, 1)] MF1 = true) : RK S1 := by
  have e1 : S1.f 43 1 = S.f 43 1 := hF1.f (ydj2_of s1 rfl)
  intro j
  rw [e1]
  rcases hM with ⟨-, hb, -, -, hc⟩ | ⟨-, -, hc⟩ | ⟨-, -, -, hc⟩
  · obtain ⟨-, -, -, -, -, c5⟩ := hc
    rw [c5]
    by_cases q : j = (S.f 43 10).toNat
    · rw [q, ysa_eq]
      have w1 := hb.2.2.2.2.1
      rcases Int.lt_or_le 0 b with g | g
      · have := w1.2 g
        unfold kdC at this
        omega
      · omega
    · rw [ysa_ne (Or.inr q)]
      exact h j
  · rw [(hc.2 j).2.2.2.2]; exact h j
  · rw [(hc.2 j).2.2.2.2]; exact h j
/-! the slots on the other side, and both together -/
def sSm (S S1 : yS) : Prop := S1.f 43 20 = S.f 43 20 ∧ (∀ j, S1.a 60 j = S.a 60 j)
theorem sSm_rfl {S : yS} : sSm S S := ⟨rfl, fun _ => rfl⟩
theorem sSm_fr {S S1 : yS} {MF : List (Nat × Nat)} {MA : List Nat} (hF : yFr MF MA S S1) (s1 : ydj2 [(43, 20)] MF = true) (s2 : ydj1 [60] MA = true) : sSm S S1 := ⟨hF.f (ydj2_of s1 rfl), hF.a (ydj1_of s2 rfl)⟩
theorem sSm_tr {S S1 S2 : yS} (h : sSm S S1) (h2 : sSm S1 S2) : sSm S S2 := ⟨h2.1.trans h.1, fun j => (h2.2 j).trans (h.2 j)⟩
def mS1 (S : yS) (k : Int) : Prop := rL S 60 (S.f 43 20).toNat = (rL S 66 k.toNat).filter (nfM S)
theorem mS1_0 {S : yS} (e : S.f 43 20 = 0) : mS1 S 0 := by
  unfold mS1
  rw [e]
  rfl
theorem mS1_n {S : yS} {k : Int} (h : mS1 S k) (k0 : 0 ≤ k) (hf : 0 < yand (S.a 54 (S.a 66 k.toNat).toNat) 16) : mS1 S (k + 1) := by
  unfold mS1 at h ⊢
  have e : ¬ nfM S (S.a 66 k.toNat) = true := by unfold nfM; rw [decide_eq_true_iff]; omega
  rw [rL_s k0, List.filter_append, List.filter_cons_of_neg e, h]
  exact (List.append_nil _).symm
theorem mS1_up {S S1 : yS} {k : Int} (h : mS1 S k) (u : sSm S S1) (e66 : ∀ j, S1.a 66 j = S.a 66 j) (e54 : ∀ j, S1.a 54 j = S.a 54 j) : mS1 S1 k := by
  unfold mS1 at h ⊢
  have e : nfM S1 = nfM S := by
    funext x
    unfold nfM
    rw [e54]
  rw [e, u.1, rL_eq (S := S) (b := 60) _ (fun j _ => u.2 j), rL_eq (S := S) (b := 66) _ (fun j _ => e66 j)]
  exact h
/-- the slot of the k-th that was counted, which is not final -/
def mS2 (S : yS) (k : Int) : Prop := mS1 S k ∧ S.a 60 (S.f 43 20).toNat = S.a 66 k.toNat ∧ yand (S.a 54 (S.a 66 k.toNat).toNat) 16 ≤ 0
theorem mS1_y {S S1 : yS} {k : Int} (h : mS2 S k) (k0 : 0 ≤ k) (o0 : 0 ≤ S.f 43 20) (e20 : S1.f 43 20 = S.f 43 20 + 1) (e60 : ∀ j, S1.a 60 j = S.a 60 j) (e66 : ∀ j, S1.a 66 j = S.a 66 j) (e54 : ∀ j, S1.a 54 j = S.a 54 j) : mS1 S1 (k + 1) := by
  obtain ⟨h1, h2, h3⟩ := h
  unfold mS1 at h1 ⊢
  have e : nfM S1 = nfM S := by
    funext x
    unfold nfM
    rw [e54]
  have e2 : nfM S (S.a 66 k.toNat) = true := decide_eq_true h3
  rw [e, e20, rL_s o0, rL_s k0, e60, e66, rL_eq (S := S) (b := 60) _ (fun j _ => e60 j), rL_eq (S := S) (b := 66) _ (fun j _ => e66 j), List.filter_append, List.filter_cons_of_pos e2, h1, h2]
  rfl
theorem mS2_0 {S S1 : yS} {k : Int} (h : mS1 S k) (o0 : 0 ≤ S.f 43 20) (e20 : S1.f 43 20 = S.f 43 20) (e60 : ∀ j, S1.a 60 j = (ysa S 60 (S.f 43 20).toNat (S.a 66 k.toNat)).a 60 j) (e66 : ∀ j, S1.a 66 j = S.a 66 j) (e54 : ∀ j, S1.a 54 j = S.a 54 j) (hf : yand (S.a 54 (S.a 66 k.toNat).toNat) 16 ≤ 0) : mS2 S1 k := by
  refine ⟨?_, ?_, ?_⟩
  · unfold mS1 at h ⊢
    have e : nfM S1 = nfM S := by
      funext x
      unfold nfM
      rw [e54]
    rw [e, e20, rL_eq (S := S) (b := 60) _ (fun j hj => (e60 j).trans (ysa_ne (Or.inr (by omega)))), rL_eq (S := S) (b := 66) _ (fun j _ => e66 j)]
    exact h
  · rw [e20, e60, ysa_eq, e66]
  · rw [e66, e54]; exact hf
theorem mS2_up {S S1 : yS} {k : Int} (h : mS2 S k) (u : sSm S S1) (e66 : ∀ j, S1.a 66 j = S.a 66 j) (e54 : ∀ j, S1.a 54 j = S.a 54 j) : mS2 S1 k := by
  refine ⟨mS1_up h.1 u e66 e54, ?_, ?_⟩
  · rw [u.1, u.2, e66]; exact h.2.1
  · rw [e66, e54]; exact h.2.2
theorem sU_f {S S1 : yS} {b w : Nat} {z : Int} (h : ysf S b w z = S1) (hn : 43 ≠ b ∨ 31 ≠ w) : sU S S1 := by
  rw [← h]
  exact ⟨ysf_ne hn, fun _ => rfl, fun _ => rfl⟩
theorem sU_a {S S1 : yS} {b k : Nat} {z : Int} (h : ysa S b k z = S1) (h1 : 66 ≠ b) (h2 : 54 ≠ b) : sU S S1 := by
  rw [← h]
  exact ⟨rfl, fun _ => ysa_ne (Or.inl h1), fun _ => ysa_ne (Or.inl h2)⟩
theorem sSm_f {S S1 : yS} {b w : Nat} {z : Int} (h : ysf S b w z = S1) (hn : 43 ≠ b ∨ 20 ≠ w) : sSm S S1 := by
  rw [← h]
  exact ⟨ysf_ne hn, fun _ => rfl⟩
theorem sSm_a {S S1 : yS} {b k : Nat} {z : Int} (h : ysa S b k z = S1) (h1 : 60 ≠ b) : sSm S S1 := by
  rw [← h]
  exact ⟨rfl, fun _ => ysa_ne (Or.inl h1)⟩
def RSl (S : yS) : Prop := S.f 22 3 = S.f 43 20 ∧ ∀ j : Nat, (j : Int) < S.f 22 3 → S.a 23 j = S.a 60 j
theorem RSlx : yX [(22, 3), (43, 20)] [23, 60] RSl := by
  intro S S' hf ha h
  refine ⟨by rw [hf 22 3 rfl, hf 43 20 rfl]; exact h.1, fun j hj => ?_⟩
  rw [hf 22 3 rfl] at hj
  rw [ha 23 rfl, ha 60 rfl]
  exact h.2 j hj
theorem RSl_slot {S : yS} {k z w : Int} (h : RSl S) (h1 : (z = -1 ∧ ¬ (0 ≤ k ∧ k < S.f 22 3)) ∨ ((0 ≤ k ∧ k < S.f 22 3) ∧ z = S.a 23 k.toNat)) (h2 : (w = -1 ∧ ¬ (0 ≤ k ∧ k < S.f 43 20)) ∨ ((0 ≤ k ∧ k < S.f 43 20) ∧ w = S.a 60 k.toNat)) : z = w := by
  have e := h.1
  rcases h1 with ⟨a, b⟩ | ⟨a, b⟩
  · rcases h2 with ⟨c, d⟩ | ⟨c, d⟩
    · omega
    · exact absurd ⟨c.1, by omega⟩ b
  · rcases h2 with ⟨c, d⟩ | ⟨c, d⟩
    · exact absurd ⟨a.1, by omega⟩ d
    · have q := h.2 k.toNat (by omega)
      omega
def mfX (S S1 : yS) (z c a b e : Int) : Prop := goM S c a b e ∧ ∃ Sa Sb, sMa S Sa ∧ mrQ Sa Sb z c a b e ∧ (z ≠ 0 → sSm S S1) ∧ (z = 0 → rL S1 60 (S1.f 43 20).toNat = (mL Sb).filter (nfM Sb))
def mfY (S S1 : yS) (c a b e : Int) : Prop := goM S c a b e ∧ ∃ Sa Sb, sMa S Sa ∧ mrQ Sa Sb 0 c a b e ∧ sU Sb S1
theorem mfY_up {S S1 S2 : yS} {c a b e : Int} (h : mfY S S1 c a b e) (u : sU S1 S2) : mfY S S2 c a b e := by
  obtain ⟨g, Sa, Sb, h1, h2, h3⟩ := h
  exact ⟨g, Sa, Sb, h1, h2, sU_tr h3 u⟩
theorem mfX_of {S S1 S2 : yS} {c a b e k : Int} (h : mfY S S1 c a b e) (hs : mS1 S1 k) (hk : k = S1.f 43 31) (u : sSm S1 S2) : mfX S S2 0 c a b e := by
  obtain ⟨g, Sa, Sb, h1, h2, h3⟩ := h
  refine ⟨g, Sa, Sb, h1, h2, fun q => absurd rfl q, fun _ => ?_⟩
  unfold mS1 at hs
  have e : nfM S1 = nfM Sb := by
    funext x
    unfold nfM
    rw [h3.2.2]
  rw [u.1, rL_eq (S := S1) (b := 60) _ (fun j _ => u.2 j), hs, e, hk, h3.1]
  unfold mL
  rw [rL_eq (S := Sb) (b := 66) _ (fun j _ => h3.2.1 j)]
def mfZ (S S1 : yS) (z c a b e : Int) : Prop := (S1.f 43 0 = 1 ∧ ¬ goM S c a b e ∧ sSm S S1) ∨ (S1.f 43 0 = 0 ∧ mfX S S1 z c a b e)
theorem FO_core {S S1 Sa Sb Ma Mb : yS} {t a b c v z : Int} (h : RT S) (hs : RS S) (hm : RMe S) (hi : RI S) (hk : RK S) (h3 : ∀ j : Nat, S.a 49 j < j) (n20 : S.f 1 7 ≤ 20) (e1 : sMa S S1) (g : goC S t a b c) (ha : asQ Sa t a b c) (hsa : sAs S Sa) (hr : rfQ Sa Sb v) (f0 : 0 ≤ Sb.f 17 12) (hma : sMa S1 Ma) (hmr : mrQ Ma Mb z t a b c) : v = z ∧ (v = 0 → fnd Sb = (mL Mb).filter (nfM Mb)) := by
  have j := JJ_of h hs hm hsa e1 hma
  obtain ⟨a1, a2, a3, a4, a5, a6, a7, a8, a9, -⟩ := id hsa
  obtain ⟨b1, b2, b3, b4, b5, b6, b7, b8, b9, b10, b11, b12, b13, b14⟩ := e1
  obtain ⟨c1, c2, c3, c4, c5, c6, c7, c8, c9, c10, c11, c12, c13, c14⟩ := hma
  have hT : sT S Sa := ⟨a1, fun j => ⟨a3 j, a6 j, a8 j, a9 j⟩⟩
  have e49 : ∀ j, Ma.a 49 j = S.a 49 j := fun j => (c7 j).trans (b7 j)
  have e50 : ∀ j, Ma.a 50 j = S.a 50 j := fun j => (c8 j).trans (b8 j)
  have e51 : ∀ j, Ma.a 51 j = S.a 51 j := fun j => (c9 j).trans (b9 j)
  have e431 : Ma.f 43 1 = S.f 43 1 := by omega
  have hFM := FM_of h hs h3 e431 e49 e50 e51
  have hRK : RK Ma := fun q => by rw [c14, b14, e431]; exact hk q
  have h5 : S.a 5 0 < 0 := by
    have w := (h.2.2 0).2.2.2.2.2.2 h.2.1.1
    have w2 := h3 0
    omega
  have r := RF_eq j ha (by unfold goC at g ⊢; rw [a1]; exact g) (sT_RI hT hi) (sT_FC hT hs.1) (fun q => by rw [a3]; exact hs.2.2.2.1 q) (by rw [a6]; exact h5) (by omega) ⟨hFM, hRK⟩ (fun x y x0 x1 y0 y1 => by
    rw [a7]
    exact (hs.2.1 x y x0 (by omega) y0 y1).trans (rcC_M h hs h3 x0 (by omega) e431 e49 e50 e51)) f0 hr hmr
  refine ⟨r.1, fun v0 => ?_⟩
  rw [r.2 v0]
  have z0 : z = 0 := by rw [← r.1]; exact v0
  have e54 : ∀ q, Mb.a 54 q = Ma.a 54 q := by
    rcases hmr with ⟨w, -⟩ | ⟨w, -⟩ | ⟨w, -⟩ | ⟨w, -⟩ | ⟨-, -, w, -⟩
    · exact absurd w (by omega)
    · exact absurd w (by omega)
    · exact absurd w (by omega)
    · exact absurd w (by omega)
    · exact w
  have w : nfM Mb = nfM Ma := by
    funext x
    unfold nfM
    rw [e54]
  rw [w]
theorem RSl_up {S S1 S2 : yS} (h : RSl S) (c1 : sSl S S1) (m1 : sSm S S1) (c2 : sSl S1 S2) (m2 : sSm S1 S2) : RSl S2 := by
  obtain ⟨a, b⟩ := h
  have c := sSl_tr c1 c2
  have m := sSm_tr m1 m2
  refine ⟨by rw [c.1, m.1]; exact a, fun j hj => ?_⟩
  rw [c.1] at hj
  rw [c.2.1, m.2]
  exact b j hj
theorem FX_eq {S S1 S2 : yS} {t a b c k z : Int} (h : RT S) (hs : RS S) (hm : RMe S) (hi : RI S) (hk : RK S) (h3 : ∀ j : Nat, S.a 49 j < j) (n20 : S.f 1 7 ≤ 20) (hC : hFx S S1 t a b c k) (e1 : sMa S S1) (hM : mfZ S1 S2 z t a b c) (hl : RSl S) (em : sSm S S1) (ec : sSl S1 S2) (o0 : 0 ≤ S2.f 43 20) : S2.f 43 0 = k ∧ (k = 0 → S1.a 81 (0 : Int).toNat = z) ∧ RSl S2 := by
  have en : S.f 1 7 = S1.f 43 1 := by rw [e1.1]; exact h.1
  have gi := go_iff (S := S) (S1 := S1) (t := t) (a := a) (b := b) (c := c) en
  rcases hC with ⟨k0, g, Sa, Sb, ha, hsa, hr, f0, -, x1, x2⟩ | ⟨k1, g, x1⟩
  · rcases hM with ⟨m0, g2, -⟩ | ⟨m0, g2, Ma, Mb, hma, hmr, y1, y2⟩
    · exact absurd (gi.mp g) g2
    · obtain ⟨r1, r2⟩ := FO_core h hs hm hi hk h3 n20 e1 g ha hsa hr f0 hma hmr
      refine ⟨by omega, fun _ => r1, ?_⟩
      by_cases v0 : S1.a 81 (0 : Int).toNat = 0
      · obtain ⟨s1, s2⟩ := x2 v0
        have e := r2 v0
        rw [← y2 (by rw [← r1]; exact v0)] at e
        have len := congrArg List.length e
        unfold fnd at len e
        rw [rL_len, rL_len] at len
        have n1 : S2.f 22 3 = Sb.f 17 12 := by rw [ec.1]; exact s1
        refine ⟨by omega, fun j hj => ?_⟩
        rw [len] at e
        have q := rL_inj _ e j (by omega)
        rw [ec.2.1, (s2 j (by rw [s1]; omega)).1]
        exact q
      · exact RSl_up hl (x1 v0) em ec (y1 (by rw [← r1]; exact v0))
  · rcases hM with ⟨m0, g2, y1⟩ | ⟨m0, g2, -⟩
    · exact ⟨by omega, fun q => absurd q (by omega), RSl_up hl x1 em ec y1⟩
    · exact absurd (gi.mpr g2) g
/-! what the reference keeps of each slot -/
def mKj (S : yS) (j : Nat) : Prop := S.a 61 j = S.a 59 (S.a 53 (S.a 60 j).toNat).toNat ∧ S.a 63 j = S.a 58 (S.a 60 j).toNat ∧ ∀ i : Int, 0 ≤ i → i < S.a 63 j → S.a 62 (3 * (j : Int) + i).toNat = S.a 57 (3 * S.a 60 j + i).toNat
def mK (S : yS) (n : Int) : Prop := ∀ j : Nat, (j : Int) < n → mKj S j
def mK2 (S : yS) (m q : Int) : Prop := mK S (S.f 43 20) ∧ S.a 60 (S.f 43 20).toNat = m ∧ S.a 61 (S.f 43 20).toNat = S.a 59 (S.a 53 m.toNat).toNat ∧ S.a 63 (S.f 43 20).toNat = S.a 58 m.toNat ∧ ∀ i : Int, 0 ≤ i → i < q → S.a 62 (3 * S.f 43 20 + i).toNat = S.a 57 (3 * m + i).toNat
def sK (S S1 : yS) : Prop := (∀ j, S1.a 53 j = S.a 53 j) ∧ (∀ j, S1.a 57 j = S.a 57 j) ∧ (∀ j, S1.a 58 j = S.a 58 j) ∧ (∀ j, S1.a 59 j = S.a 59 j)
theorem mKj_at {S S1 : yS} {j : Nat} (h : mKj S j) (e : sK S S1) (e60 : S1.a 60 j = S.a 60 j) (e61 : S1.a 61 j = S.a 61 j) (e63 : S1.a 63 j = S.a 63 j) (e62 : ∀ i : Int, 0 ≤ i → i < S.a 63 j → S1.a 62 (3 * (j : Int) + i).toNat = S.a 62 (3 * (j : Int) + i).toNat) : mKj S1 j := by
  obtain ⟨e53, e57, e58, e59⟩ := e
  refine ⟨?_, ?_, fun i i0 i1 => ?_⟩
  · rw [e60, e61, e53, e59]; exact h.1
  · rw [e60, e63, e58]; exact h.2.1
  · rw [e63] at i1
    rw [e60, e57, e62 i i0 i1]
    exact h.2.2 i i0 i1
theorem mK_0 {S : yS} : mK S 0 := fun j h => absurd h (by omega)
theorem mK_up {S S1 : yS} {n : Int} (h : mK S n) (e : sK S S1) (e60 : ∀ j, S1.a 60 j = S.a 60 j) (e61 : ∀ j, S1.a 61 j = S.a 61 j) (e62 : ∀ j, S1.a 62 j = S.a 62 j) (e63 : ∀ j, S1.a 63 j = S.a 63 j) : mK S1 n := fun j hj => mKj_at (h j hj) e (e60 j) (e61 j) (e63 j) (fun i _ _ => e62 _)
theorem mK2_0 {S S1 : yS} {m : Int} (h : mK S (S.f 43 20)) (o0 : 0 ≤ S.f 43 20) (e : sK S S1) (e20 : S1.f 43 20 = S.f 43 20) (e60 : ∀ j, S1.a 60 j = (ysa S 60 (S.f 43 20).toNat m).a 60 j) (e61 : ∀ j, S1.a 61 j = (ysa S 61 (S.f 43 20).toNat (S.a 59 (S.a 53 m.toNat).toNat)).a 61 j) (e63 : ∀ j, S1.a 63 j = (ysa S 63 (S.f 43 20).toNat (S.a 58 m.toNat)).a 63 j) (e62 : ∀ j, S1.a 62 j = S.a 62 j) : mK2 S1 m 0 := by
  refine ⟨fun j hj => ?_, ?_, ?_, ?_, fun i i0 i1 => absurd i0 (by omega)⟩
  · rw [e20] at hj
    exact mKj_at (h j hj) e ((e60 j).trans (ysa_ne (Or.inr (by omega)))) ((e61 j).trans (ysa_ne (Or.inr (by omega)))) ((e63 j).trans (ysa_ne (Or.inr (by omega)))) (fun i _ _ => e62 _)
  · rw [e20, e60, ysa_eq]
  · rw [e20, e61, ysa_eq, e.2.2.2, e.1]
  · rw [e20, e63, ysa_eq, e.2.2.1]
theorem mK2_s {S S1 : yS} {m q : Int} (h : mK2 S m q) (o0 : 0 ≤ S.f 43 20) (q0 : 0 ≤ q) (b63 : ∀ j, S.a 63 j ≤ 3) (e : sK S S1) (e20 : S1.f 43 20 = S.f 43 20) (e60 : ∀ j, S1.a 60 j = S.a 60 j) (e61 : ∀ j, S1.a 61 j = S.a 61 j) (e63 : ∀ j, S1.a 63 j = S.a 63 j) (e62 : ∀ j, S1.a 62 j = (ysa S 62 (3 * S.f 43 20 + q).toNat (S.a 57 (3 * m + q).toNat)).a 62 j) : mK2 S1 m (q + 1) := by
  obtain ⟨h1, h2, h3, h4, h5⟩ := h
  refine ⟨fun j hj => ?_, ?_, ?_, ?_, fun i i0 i1 => ?_⟩
  · rw [e20] at hj
    refine mKj_at (h1 j hj) e (e60 j) (e61 j) (e63 j) (fun i i0 i1 => (e62 _).trans (ysa_ne (Or.inr ?_)))
    have := b63 j
    omega
  · rw [e20, e60]; exact h2
  · rw [e20, e61, e.2.2.2, e.1]; exact h3
  · rw [e20, e63, e.2.2.1]; exact h4
  · rw [e20, e62, e.2.1]
    by_cases g : i = q
    · rw [g, ysa_eq]
    · rw [ysa_ne (Or.inr (by omega))]
      exact h5 i i0 (by omega)
theorem mK_y {S S1 : yS} {m q : Int} (h : mK2 S m q) (o0 : 0 ≤ S.f 43 20) (hq : S.a 58 m.toNat ≤ q) (e : sK S S1) (e20 : S1.f 43 20 = S.f 43 20 + 1) (e60 : ∀ j, S1.a 60 j = S.a 60 j) (e61 : ∀ j, S1.a 61 j = S.a 61 j) (e62 : ∀ j, S1.a 62 j = S.a 62 j) (e63 : ∀ j, S1.a 63 j = S.a 63 j) : mK S1 (S1.f 43 20) := by
  obtain ⟨h1, h2, h3, h4, h5⟩ := h
  intro j hj
  rw [e20] at hj
  refine mKj_at ?_ e (e60 j) (e61 j) (e63 j) (fun i _ _ => e62 _)
  by_cases g : j = (S.f 43 20).toNat
  · have gj : (j : Int) = S.f 43 20 := by omega
    refine ⟨?_, ?_, fun i i0 i1 => ?_⟩
    · rw [g, h3, h2]
    · rw [g, h4, h2]
    · rw [gj]
      rw [g] at i1 ⊢
      rw [h2]
      exact h5 i i0 (by omega)
  · exact h1 j (by omega)
def RP (S : yS) : Prop := ∀ j : Nat, S.a 59 j = S.a 42 j
theorem RPx : yX [] [59, 42] RP := by
  intro S S' _ ha h j
  rw [ha 59 rfl, ha 42 rfl]
  exact h j
/-- slots: policies, how many are thrown, and which -/
def RSk (S : yS) : Prop := ∀ j : Nat, (j : Int) < S.f 22 3 → S.a 24 j = S.a 61 j ∧ S.a 25 j = S.a 63 j ∧ S.a 63 j ≤ S.a 58 (S.a 60 j).toNat ∧ ∀ i : Int, 0 ≤ i → i < S.a 63 j → S.a 62 (3 * (j : Int) + i).toNat = S.a 57 (3 * S.a 60 j + i).toNat
theorem RSkx : yX [(22, 3)] [24, 25, 57, 58, 60, 61, 62, 63] RSk := by
  intro S S' hf ha h j hj
  rw [hf 22 3 rfl] at hj
  obtain ⟨a, b, c, d⟩ := h j hj
  rw [ha 24 rfl, ha 61 rfl, ha 25 rfl, ha 63 rfl, ha 58 rfl, ha 60 rfl]
  refine ⟨a, b, c, fun i i0 i1 => ?_⟩
  rw [ha 62 rfl, ha 57 rfl]
  exact d i i0 i1
theorem RSk_of {S : yS} (hl : RSl S) (hp : RP S) (hm : RMe S) (ht : RTh S) (hk : mK S (S.f 43 20)) (hc : ∀ j : Nat, (j : Int) < S.f 22 3 → S.a 24 j = S.a 42 (S.a 11 (S.a 23 j).toNat).toNat ∧ S.a 25 j = S.a 15 (S.a 23 j).toNat) : RSk S := by
  intro j hj
  obtain ⟨k1, k2, k3⟩ := hk j (by rw [← hl.1]; exact hj)
  obtain ⟨c1, c2⟩ := hc j hj
  have e := hl.2 j hj
  refine ⟨?_, ?_, by omega, k3⟩
  · rw [c1, k1, hp, (hm.2 _).2.1, e]
  · rw [c2, k2, (ht _).1, e]
theorem RSk_thr {S S1 S2 : yS} {m t : Int} {MF MF2 : List (Nat × Nat)} {MA MA2 : List Nat} (h : RSk S) (b : ∀ j, 0 ≤ S.a 60 j) (b58 : ∀ j, 0 ≤ S.a 58 j ∧ S.a 58 j ≤ 3) (hF : yFr MF MA S S1) (s1 : ydj2 [(22, 3)] MF = true) (s2 : ydj1 [24, 25, 57, 58, 60, 61, 62, 63] MA = true) (hf : FM S1) (hM : mThQ S1 S2 m t) (hF2 : yFr MF2 MA2 S1 S2) (s3 : ydj2 [(22, 3)] MF2 = true) (s4 : ydj1 [24, 25, 60, 61, 62, 63] MA2 = true) : RSk S2 := by
  have h1 : RSk S1 := RSkx.fr h hF s1 s2
  have c60 : ∀ j, S1.a 60 j = S.a 60 j := hF.a (ydj1_of s2 rfl)
  have c58 : ∀ j, S1.a 58 j = S.a 58 j := hF.a (ydj1_of s2 rfl)
  have e22 : S2.f 22 3 = S1.f 22 3 := hF2.f (ydj2_of s3 rfl)
  have e24 : ∀ j, S2.a 24 j = S1.a 24 j := hF2.a (ydj1_of s4 rfl)
  have e25 : ∀ j, S2.a 25 j = S1.a 25 j := hF2.a (ydj1_of s4 rfl)
  have e60 : ∀ j, S2.a 60 j = S1.a 60 j := hF2.a (ydj1_of s4 rfl)
  have e61 : ∀ j, S2.a 61 j = S1.a 61 j := hF2.a (ydj1_of s4 rfl)
  have e62 : ∀ j, S2.a 62 j = S1.a 62 j := hF2.a (ydj1_of s4 rfl)
  have e63 : ∀ j, S2.a 63 j = S1.a 63 j := hF2.a (ydj1_of s4 rfl)
  intro j hj
  rw [e22] at hj
  obtain ⟨a1, a2, a3, a4⟩ := h1 j hj
  rw [e24, e61, e25, e63, e60]
  have bj := b j
  rw [← c60] at bj
  rcases hM hf with ⟨-, hm, w58, w57⟩ | ⟨-, -, w⟩
  · have m0 := hm.1
    have b1 := b58 m.toNat
    rw [← c58] at b1
    have b2 := b58 (S1.a 60 j).toNat
    rw [← c58] at b2
    have m4 := hm.2.2.2.1
    refine ⟨a1, a2, ?_, fun i i0 i1 => ?_⟩
    · rw [w58]
      by_cases g : (S1.a 60 j).toNat = m.toNat
      · rw [g, ysa_eq]; rw [g] at a3; omega
      · rw [ysa_ne (Or.inr g)]; exact a3
    · rw [e62, w57, ysa_ne (Or.inr ?_)]
      · exact a4 i i0 i1
      · by_cases g : S1.a 60 j = m
        · rw [g] at a3 ⊢; omega
        · omega
  · refine ⟨a1, a2, ?_, fun i i0 i1 => ?_⟩
    · rw [(w _).1]; exact a3
    · rw [e62, (w _).2]; exact a4 i i0 i1
theorem RP_pol {S S1 S2 : yS} {w k z z2 : Int} {MF1 MF2 : List (Nat × Nat)} {MA1 MA2 : List Nat} (h : RP S) (hC : plQ 42 S S1 w k z) (hF1 : yFr MF1 MA1 S S1) (s1 : ydj1 [59] MA1 = true) (hM : plQ 59 S1 S2 w k z2) (hF2 : yFr MF2 MA2 S1 S2) (s2 : ydj1 [42] MA2 = true) (hz : (z = 1 ∧ z2 = 1) ∨ (z = 0 ∧ z2 = 0)) : RP S2 := by
  have c59 : ∀ j, S1.a 59 j = S.a 59 j := hF1.a (ydj1_of s1 rfl)
  have c42 : ∀ j, S2.a 42 j = S1.a 42 j := hF2.a (ydj1_of s2 rfl)
  intro j
  rw [c42]
  rcases hz with ⟨a, b⟩ | ⟨a, b⟩
  · rw [hM.1 b, hC.1 a]
    by_cases e : j = w.toNat
    · rw [e, ysa_eq, ysa_eq]
    · rw [ysa_ne (Or.inr e), ysa_ne (Or.inr e), c59]
      exact h j
  · rw [hM.2 b, hC.2 a, c59]
    exact h j
/-! what the reference keeps of its slots, while nothing is forged -/
def sKm (S S1 : yS) : Prop := (∀ j, S1.a 61 j = S.a 61 j) ∧ (∀ j, S1.a 62 j = S.a 62 j) ∧ (∀ j, S1.a 63 j = S.a 63 j)
theorem sKm_rfl {S : yS} : sKm S S := ⟨fun _ => rfl, fun _ => rfl, fun _ => rfl⟩
theorem sKm_fr {S S1 : yS} {MF : List (Nat × Nat)} {MA : List Nat} (hF : yFr MF MA S S1) (s1 : ydj2 [] MF = true) (s2 : ydj1 [61, 62, 63] MA = true) : sKm S S1 := ⟨hF.a (ydj1_of s2 rfl), hF.a (ydj1_of s2 rfl), hF.a (ydj1_of s2 rfl)⟩
theorem sKm_tr {S S1 S2 : yS} (h : sKm S S1) (h2 : sKm S1 S2) : sKm S S2 := ⟨fun j => (h2.1 j).trans (h.1 j), fun j => (h2.2.1 j).trans (h.2.1 j), fun j => (h2.2.2 j).trans (h.2.2 j)⟩
theorem sKm_f {S S1 : yS} {b w : Nat} {z : Int} (h : ysf S b w z = S1) (hn : True) : sKm S S1 := by
  rw [← h]
  exact ⟨fun _ => rfl, fun _ => rfl, fun _ => rfl⟩
theorem sKm_a {S S1 : yS} {b k : Nat} {z : Int} (h : ysa S b k z = S1) (hb : b ≠ 61 ∧ b ≠ 62 ∧ b ≠ 63) : sKm S S1 := by
  rw [← h]
  exact ⟨fun _ => ysa_ne (Or.inl (Ne.symm hb.1)), fun _ => ysa_ne (Or.inl (Ne.symm hb.2.1)), fun _ => ysa_ne (Or.inl (Ne.symm hb.2.2))⟩
def mkQ (S S1 : yS) (z : Int) : Prop := ((z ≠ 0 ∨ S1.f 43 0 = 1) → sKm S S1) ∧ (z = 0 → S1.f 43 0 = 0 → mK S1 (S1.f 43 20))
theorem mK_fr {S S1 : yS} {MF : List (Nat × Nat)} {MA : List Nat} (h : mK S (S.f 43 20)) (hF : yFr MF MA S S1) (s1 : ydj2 [(43, 20)] MF = true) (s2 : ydj1 [53, 57, 58, 59, 60, 61, 62, 63] MA = true) : mK S1 (S1.f 43 20) := by
  have e : S1.f 43 20 = S.f 43 20 := hF.f (ydj2_of s1 rfl)
  rw [e]
  exact mK_up h ⟨hF.a (ydj1_of s2 rfl), hF.a (ydj1_of s2 rfl), hF.a (ydj1_of s2 rfl), hF.a (ydj1_of s2 rfl)⟩ (hF.a (ydj1_of s2 rfl)) (hF.a (ydj1_of s2 rfl)) (hF.a (ydj1_of s2 rfl)) (hF.a (ydj1_of s2 rfl))
theorem mK_00 {S : yS} (e : S.f 43 20 = 0) : mK S (S.f 43 20) := by
  rw [e]
  exact mK_0
theorem RSk_same {S S2 : yS} (h : RSk S) (f22 : S2.f 22 3 = S.f 22 3) (e24 : ∀ j, S2.a 24 j = S.a 24 j) (e25 : ∀ j, S2.a 25 j = S.a 25 j) (e57 : ∀ j, S2.a 57 j = S.a 57 j) (e58 : ∀ j, S2.a 58 j = S.a 58 j) (e60 : ∀ j, S2.a 60 j = S.a 60 j) (k : sKm S S2) : RSk S2 := by
  obtain ⟨e61, e62, e63⟩ := k
  intro j hj
  rw [f22] at hj
  obtain ⟨a, b, c, d⟩ := h j hj
  rw [e24, e61, e25, e63, e58, e60]
  refine ⟨a, b, c, fun i i0 i1 => ?_⟩
  rw [e62, e57]
  exact d i i0 i1
theorem RSk_forge {S S1 S2 : yS} {t a b c k z : Int} {MF1 MF2 : List (Nat × Nat)} {MA1 MA2 : List Nat} (hk : RSk S) (hC : hFx S S1 t a b c k) (hF1 : yFr MF1 MA1 S S1) (s1 : ydj1 [11, 15, 42, 57, 58, 60, 61, 62, 63] MA1 = true) (hM : mfZ S1 S2 z t a b c) (hQ : mkQ S1 S2 z) (hF2 : yFr MF2 MA2 S1 S2) (s2 : ydj2 [(22, 3)] MF2 = true) (s3 : ydj1 [11, 15, 23, 24, 25, 42, 57, 58] MA2 = true) (e0 : S2.f 43 0 = k) (ez : k = 0 → S1.a 81 (0 : Int).toNat = z) (hl : RSl S2) (hp : RP S2) (hm : RMe S2) (ht : RTh S2) : RSk S2 := by
  have c11 : ∀ j, S1.a 11 j = S.a 11 j := hF1.a (ydj1_of s1 rfl)
  have c15 : ∀ j, S1.a 15 j = S.a 15 j := hF1.a (ydj1_of s1 rfl)
  have c42 : ∀ j, S1.a 42 j = S.a 42 j := hF1.a (ydj1_of s1 rfl)
  have c57 : ∀ j, S1.a 57 j = S.a 57 j := hF1.a (ydj1_of s1 rfl)
  have c58 : ∀ j, S1.a 58 j = S.a 58 j := hF1.a (ydj1_of s1 rfl)
  have c60 : ∀ j, S1.a 60 j = S.a 60 j := hF1.a (ydj1_of s1 rfl)
  have ck : sKm S S1 := ⟨hF1.a (ydj1_of s1 rfl), hF1.a (ydj1_of s1 rfl), hF1.a (ydj1_of s1 rfl)⟩
  have d22 : S2.f 22 3 = S1.f 22 3 := hF2.f (ydj2_of s2 rfl)
  have d11 : ∀ j, S2.a 11 j = S1.a 11 j := hF2.a (ydj1_of s3 rfl)
  have d15 : ∀ j, S2.a 15 j = S1.a 15 j := hF2.a (ydj1_of s3 rfl)
  have d23 : ∀ j, S2.a 23 j = S1.a 23 j := hF2.a (ydj1_of s3 rfl)
  have d24 : ∀ j, S2.a 24 j = S1.a 24 j := hF2.a (ydj1_of s3 rfl)
  have d25 : ∀ j, S2.a 25 j = S1.a 25 j := hF2.a (ydj1_of s3 rfl)
  have d42 : ∀ j, S2.a 42 j = S1.a 42 j := hF2.a (ydj1_of s3 rfl)
  have d57 : ∀ j, S2.a 57 j = S1.a 57 j := hF2.a (ydj1_of s3 rfl)
  have d58 : ∀ j, S2.a 58 j = S1.a 58 j := hF2.a (ydj1_of s3 rfl)
  have same : sSl S S1 → sSm S1 S2 → sKm S1 S2 → RSk S2 := fun u v w => RSk_same hk (d22.trans u.1) (fun j => (d24 j).trans (u.2.2.1 j)) (fun j => (d25 j).trans (u.2.2.2 j)) (fun j => (d57 j).trans (c57 j)) (fun j => (d58 j).trans (c58 j)) (fun j => (v.2 j).trans (c60 j)) (sKm_tr ck w)
  rcases hC with ⟨k0, -, Sa, Sb, -, -, -, -, hpb, x1, x2⟩ | ⟨k1, -, x1⟩
  · have ez := ez k0
    by_cases v0 : S1.a 81 (0 : Int).toNat = 0
    · refine RSk_of hl hp hm ht (hQ.2 (by omega) (by omega)) (fun j hj => ?_)
      obtain ⟨-, y2⟩ := x2 v0
      rw [d22] at hj
      obtain ⟨t1, t2, t3⟩ := y2 j hj
      refine ⟨?_, ?_⟩
      · rw [d24, d42, d11, d23, t1, t2, hpb.1, hpb.2.2, c42, c11]
      · rw [d25, d15, d23, t1, t3, hpb.2.1, c15]
    · have z0 : z ≠ 0 := by omega
      refine same (x1 v0) ?_ (hQ.1 (Or.inl z0))
      rcases hM with ⟨-, -, m2⟩ | ⟨-, -, Ma, Mb, -, -, y1, -⟩
      · exact m2
      · exact y1 z0
  · refine same x1 ?_ (hQ.1 (Or.inr (by omega)))
    rcases hM with ⟨-, -, m2⟩ | ⟨m0, -⟩
    · exact m2
    · exact absurd m0 (by omega)
/-! the slot that the callback was asked for -/
def RQ (S : yS) : Prop := S.f 26 3 = S.f 43 34
theorem RQx : yX [(26, 3), (43, 34)] [] RQ := by
  intro S S' hf ha h
  show S'.f 26 3 = S'.f 43 34
  rw [hf 26 3 rfl, hf 43 34 rfl]
  exact h
theorem RQ_call {S S1 S2 : yS} {k z : Int} {MF1 MF2 : List (Nat × Nat)} {MA1 MA2 : List Nat} (h : RQ S) (hl : RSl S) (hk : RSk S) (hC : hCq S S1 k z) (hF1 : yFr MF1 MA1 S S1) (s1 : ydj2 [(43, 34), (43, 20)] MF1 = true) (s2 : ydj1 [61] MA1 = true) (hM : mCq S1 S2 k) (hF2 : yFr MF2 MA2 S1 S2) (s3 : ydj2 [(26, 3)] MF2 = true) : RQ S2 := by
  have h : S.f 26 3 = S.f 43 34 := h
  have c34 : S1.f 43 34 = S.f 43 34 := hF1.f (ydj2_of s1 rfl)
  have c20 : S1.f 43 20 = S.f 43 20 := hF1.f (ydj2_of s1 rfl)
  have c61 : ∀ j, S1.a 61 j = S.a 61 j := hF1.a (ydj1_of s2 rfl)
  have d3 : S2.f 26 3 = S1.f 26 3 := hF2.f (ydj2_of s3 rfl)
  have e := hl.1
  obtain ⟨m1, m2⟩ := hM
  rw [c61, c20] at m1 m2
  show S2.f 26 3 = S2.f 43 34
  rcases hC with ⟨-, kk, c1, c2⟩ | ⟨-, kk, c1⟩
  · have q := (hk k.toNat (by omega)).1
    by_cases w : S.a 24 k.toNat = 2
    · have := c2 w
      have := m2 (Or.inl (by omega))
      omega
    · have := c1 w
      have := m1 (by omega) (by omega) (by omega)
      omega
  · have := m2 (Or.inr (by omega))
    omega
end XNC
