set_option linter.unusedVariables false
noncomputable section XNC
/-! the constant texts of the model's file -/
def wch (S : yS) (c k : Nat) : Int :=
  if c < 100 then (((((xPr.2.1[c]?).getD [])[k]?).getD (0, 0)).2 : Nat)
  else if c < 130 then (match k with
    | 0 => 112
    | 1 => 48 + S.a 48 (c - 100) % 10
    | 2 => 47
    | 3 => 84
    | 4 => if c < 110 then 48 + ((c : Int) - 100) % 10 else 48 + ((c : Int) - 100) / 10
    | _ => 48 + ((c : Int) - 100) % 10)
  else if c < 150 then (match k with
    | 0 => 109
    | _ => 48 + ((c : Int) - 130) % 10)
  else (match k with
    | 0 => 112
    | 1 => 48 + S.a 48 (S.f 43 21).toNat % 10
    | 2 => 47
    | _ => 80)
def wln (c : Nat) : Int := if c < 100 then slen c else if c < 130 then (if c < 110 then 5 else 6) else if c < 150 then 2 else 4
def wCL : List Nat := [39, 40, 41, 42, 43, 44, 45, 46, 47, 48, 49, 50, 51, 52, 53, 54, 55, 56, 57, 58, 59, 60, 61, 62, 63, 64, 65, 66, 67, 68, 69, 70, 71, 72, 104, 105, 106, 107, 108, 109, 110, 111, 112, 113, 114, 115, 116, 117, 118, 119, 130, 131, 132, 133, 134, 135, 136, 137, 138, 139, 150]
def wmt (S : yS) (e c : Nat) : Prop := S.a 73 e = 1 ∧ S.a 75 e = wln c ∧ ∀ k : Nat, (k : Int) < wln c → S.a 76 (S.a 74 e + (k : Int)).toNat = wch S c k
def wpr (S : yS) (c : Nat) : Prop := ∃ e : Nat, 1 ≤ e ∧ (e : Int) ≤ S.f 43 49 ∧ wmt S e c
def wfm (S : yS) (r : Int) (c : Nat) : Prop := 1 ≤ r ∧ r ≤ S.f 43 49 ∧ wmt S r.toNat c ∧ ∀ e : Nat, 1 ≤ e → (e : Int) < r → ¬ wmt S e c
def wpc (S : yS) (c : Nat) : Prop := ∃ r : Int, wfm S r c ∧ ∃ e : Nat, 1 ≤ e ∧ (e : Int) ≤ S.f 43 49 ∧ S.a 73 e = 7 ∧ S.a 74 e = r ∧ S.a 75 e = 0
def wew (wt wl wc wo : Int) (S : yS) (e : Nat) : Int := if S.a 73 e = 1 then wt + wl * S.a 75 e else if S.a 73 e = 7 then wc else wo
def wes (wt wl wc wo : Int) (S : yS) : Nat → Int
  | 0 => 0
  | n + 1 => wes wt wl wc wo S n + wew wt wl wc wo S (n + 1)
def wif (p : Prop) (a b : Int) : Int := @ite Int p (Classical.propDecidable p) a b
theorem wif_y {p : Prop} {a b : Int} (h : p) : wif p a b = a := by unfold wif; exact if_pos h
theorem wif_n {p : Prop} {a b : Int} (h : ¬ p) : wif p a b = b := by unfold wif; exact if_neg h
theorem wif_nn {p : Prop} {b : Int} (h : 0 ≤ b) : 0 ≤ wif p 0 b ∧ wif p 0 b ≤ b := by
  rcases Classical.em p with hp | hp
  · rw [wif_y hp]; omega
  · rw [wif_n hp]; omega
theorem wif_le {p q : Prop} {b : Int} (h : 0 ≤ b) (hpq : q → p) : wif p 0 b ≤ wif q 0 b := by
  rcases Classical.em q with hq | hq
  · rw [wif_y hq, wif_y (hpq hq)]; omega
  · rw [wif_n hq]; exact (wif_nn h).2
def wms (wt wl wc : Int) (S : yS) : List Nat → Int
  | [] => 0
  | c :: r => wif (wpr S c) 0 (wt + wl * wln c) + wif (wpc S c) 0 wc + wms wt wl wc S r
def wpot (wt wl wc wo : Int) (S : yS) : Int := wes wt wl wc wo S (S.f 43 49).toNat + wms wt wl wc S wCL
def wphi (S : yS) : Int := wpot 3 1 3 5 S
def wpsi (S : yS) : Int := wpot 1 0 1 1 S
/-! more entries, the old ones as they were -/
def wEx (S S' : yS) : Prop := S.f 43 49 ≤ S'.f 43 49 ∧ (∀ e : Nat, 1 ≤ e → (e : Int) ≤ S.f 43 49 → S'.a 73 e = S.a 73 e ∧ S'.a 74 e = S.a 74 e ∧ S'.a 75 e = S.a 75 e ∧ (S.a 73 e = 1 → ∀ k : Nat, (k : Int) < S.a 75 e → S'.a 76 (S.a 74 e + (k : Int)).toNat = S.a 76 (S.a 74 e + (k : Int)).toNat)) ∧ ∀ c k, wch S' c k = wch S c k
section
variable {S S' : yS} {c : Nat}
theorem wmt_ex (h : wEx S S') {e : Nat} (h1 : 1 ≤ e) (h2 : (e : Int) ≤ S.f 43 49) : wmt S' e c ↔ wmt S e c := by
  obtain ⟨a1, a2, a3, a4⟩ := h.2.1 e h1 h2
  unfold wmt
  rw [a1, a2, a3]
  constructor
  · rintro ⟨b1, b2, b3⟩
    refine ⟨b1, b2, fun k hk => ?_⟩
    rw [← a4 b1 k (by omega), b3 k hk, h.2.2]
  · rintro ⟨b1, b2, b3⟩
    refine ⟨b1, b2, fun k hk => ?_⟩
    rw [a4 b1 k (by omega), b3 k hk, h.2.2]
theorem wpr_ex (h : wEx S S') (hp : wpr S c) : wpr S' c := by
  obtain ⟨e, h1, h2, h3⟩ := hp
  exact ⟨e, h1, Int.le_trans h2 h.1, (wmt_ex h h1 h2).mpr h3⟩
theorem wfm_ex {r : Int} (h : wEx S S') (hp : wfm S r c) : wfm S' r c := by
  obtain ⟨h1, h2, h3, h4⟩ := hp
  refine ⟨h1, Int.le_trans h2 h.1, (wmt_ex h (by omega) (by omega)).mpr h3, fun e he1 he2 hm => h4 e he1 he2 ((wmt_ex h he1 (by omega)).mp hm)⟩
theorem wpc_ex (h : wEx S S') (hp : wpc S c) : wpc S' c := by
  obtain ⟨r, h1, e, h2, h3, h4, h5, h6⟩ := hp
  obtain ⟨a1, a2, a3, _⟩ := h.2.1 e h2 h3
  exact ⟨r, wfm_ex h h1, e, h2, Int.le_trans h3 h.1, a1.trans h4, a2.trans h5, a3.trans h6⟩
variable {wt wl wc wo : Int}
theorem wew_ex (h : wEx S S') {e : Nat} (h1 : 1 ≤ e) (h2 : (e : Int) ≤ S.f 43 49) : wew wt wl wc wo S' e = wew wt wl wc wo S e := by
  obtain ⟨a1, a2, a3, _⟩ := h.2.1 e h1 h2
  unfold wew
  rw [a1, a3]
theorem wes_ex (h : wEx S S') : ∀ n : Nat, (n : Int) ≤ S.f 43 49 → wes wt wl wc wo S' n = wes wt wl wc wo S n := by
  intro n
  induction n with
  | zero => intro _; rfl
  | succ n ih =>
    intro hn
    show wes wt wl wc wo S' n + wew wt wl wc wo S' (n + 1) = wes wt wl wc wo S n + wew wt wl wc wo S (n + 1)
    rw [ih (by omega), wew_ex h (by omega) hn]
theorem slen_nn (c : Nat) : 0 ≤ slen c := by unfold slen; omega
theorem wln_nn (c : Nat) : 0 ≤ wln c := by
  have := slen_nn c
  unfold wln
  split
  · exact this
  · split
    · split <;> omega
    · split <;> omega
theorem wms_ex (h : wEx S S') (w1 : 0 ≤ wt) (w2 : 0 ≤ wl) (w3 : 0 ≤ wc) : ∀ l : List Nat, wms wt wl wc S' l ≤ wms wt wl wc S l := by
  intro l
  induction l with
  | nil => exact Int.le_refl _
  | cons c r ih =>
    have hm : 0 ≤ wl * wln c := Int.mul_nonneg w2 (wln_nn c)
    have h1 : wif (wpr S' c) 0 (wt + wl * wln c) ≤ wif (wpr S c) 0 (wt + wl * wln c) := wif_le (by omega) (wpr_ex h)
    have h2 : wif (wpc S' c) 0 (wc) ≤ wif (wpc S c) 0 (wc) := wif_le (by omega) (wpc_ex h)
    show wif (wpr S' c) 0 (wt + wl * wln c) + wif (wpc S' c) 0 (wc) + wms wt wl wc S' r ≤ wif (wpr S c) 0 (wt + wl * wln c) + wif (wpc S c) 0 (wc) + wms wt wl wc S r
    omega
theorem wms_pr (h : wEx S S') (w1 : 0 ≤ wt) (w2 : 0 ≤ wl) (w3 : 0 ≤ wc) (hn : ¬ wpr S c) (hy : wpr S' c) : ∀ l : List Nat, c ∈ l → wms wt wl wc S' l + (wt + wl * wln c) ≤ wms wt wl wc S l := by
  intro l
  induction l with
  | nil => intro hc; cases hc
  | cons q r ih =>
    intro hc
    have hm : 0 ≤ wl * wln q := Int.mul_nonneg w2 (wln_nn q)
    have h1 : wif (wpr S' q) 0 (wt + wl * wln q) ≤ wif (wpr S q) 0 (wt + wl * wln q) := wif_le (by omega) (wpr_ex h)
    have h2 : wif (wpc S' q) 0 (wc) ≤ wif (wpc S q) 0 (wc) := wif_le (by omega) (wpc_ex h)
    show wif (wpr S' q) 0 (wt + wl * wln q) + wif (wpc S' q) 0 (wc) + wms wt wl wc S' r + (wt + wl * wln c) ≤ wif (wpr S q) 0 (wt + wl * wln q) + wif (wpc S q) 0 (wc) + wms wt wl wc S r
    rcases List.mem_cons.mp hc with e | hr
    · subst e
      have h3 := wms_ex h w1 w2 w3 r
      rw [wif_y hy, wif_n hn]
      omega
    · have := ih hr
      omega
theorem wms_pc (h : wEx S S') (w1 : 0 ≤ wt) (w2 : 0 ≤ wl) (w3 : 0 ≤ wc) (hn : ¬ wpc S c) (hy : wpc S' c) : ∀ l : List Nat, c ∈ l → wms wt wl wc S' l + wc ≤ wms wt wl wc S l := by
  intro l
  induction l with
  | nil => intro hc; cases hc
  | cons q r ih =>
    intro hc
    have hm : 0 ≤ wl * wln q := Int.mul_nonneg w2 (wln_nn q)
    have h1 : wif (wpr S' q) 0 (wt + wl * wln q) ≤ wif (wpr S q) 0 (wt + wl * wln q) := wif_le (by omega) (wpr_ex h)
    have h2 : wif (wpc S' q) 0 (wc) ≤ wif (wpc S q) 0 (wc) := wif_le (by omega) (wpc_ex h)
    show wif (wpr S' q) 0 (wt + wl * wln q) + wif (wpc S' q) 0 (wc) + wms wt wl wc S' r + wc ≤ wif (wpr S q) 0 (wt + wl * wln q) + wif (wpc S q) 0 (wc) + wms wt wl wc S r
    rcases List.mem_cons.mp hc with e | hr
    · subst e
      have h3 := wms_ex h w1 w2 w3 r
      rw [wif_y hy, wif_n hn]
      omega
    · have := ih hr
      omega
theorem wms_nn (w1 : 0 ≤ wt) (w2 : 0 ≤ wl) (w3 : 0 ≤ wc) : ∀ l : List Nat, 0 ≤ wms wt wl wc S l := by
  intro l
  induction l with
  | nil => exact Int.le_refl _
  | cons c r ih =>
    have hm : 0 ≤ wl * wln c := Int.mul_nonneg w2 (wln_nn c)
    show 0 ≤ wif (wpr S c) 0 (wt + wl * wln c) + wif (wpc S c) 0 (wc) + wms wt wl wc S r
    have g1 := wif_nn (p := wpr S c) (b := wt + wl * wln c) (by omega)
    have g2 := wif_nn (p := wpc S c) (b := wc) w3
    omega
end
/-! an entry: found, or new -/
def wEN (S S' : yS) (w a b z : Int) : Prop := (1 ≤ z ∧ z ≤ S'.f 43 49 ∧ S'.a 73 z.toNat = w ∧ S'.a 74 z.toNat = a ∧ S'.a 75 z.toNat = b) ∧ ((S'.f 43 49 = S.f 43 49 ∧ ∀ e : Nat, S'.a 73 e = S.a 73 e ∧ S'.a 74 e = S.a 74 e ∧ S'.a 75 e = S.a 75 e) ∨ (z = S.f 43 49 + 1 ∧ S'.f 43 49 = S.f 43 49 + 1 ∧ (∀ e : Nat, (e : Int) ≠ z → S'.a 73 e = S.a 73 e ∧ S'.a 74 e = S.a 74 e ∧ S'.a 75 e = S.a 75 e) ∧ ∀ e : Nat, 1 ≤ e → (e : Int) ≤ S.f 43 49 → ¬ (S.a 73 e = w ∧ S.a 74 e = a ∧ S.a 75 e = b)))
section
variable {S S' : yS} {w a b z : Int} {wt wl wc wo : Int}
theorem wEN_ex (h : wEN S S' w a b z) (hl : ∀ j, S'.a 76 j = S.a 76 j) (hc : ∀ c k, wch S' c k = wch S c k) : wEx S S' := by
  rcases h.2 with ⟨h1, h2⟩ | ⟨h1, h2, h3, h4⟩
  · refine ⟨by omega, fun e _ _ => ?_, hc⟩
    obtain ⟨a1, a2, a3⟩ := h2 e
    exact ⟨a1, a2, a3, fun _ k _ => hl _⟩
  · refine ⟨by omega, fun e _ he => ?_, hc⟩
    obtain ⟨a1, a2, a3⟩ := h3 e (by omega)
    exact ⟨a1, a2, a3, fun _ k _ => hl _⟩
def wgt (wt wl wc wo w b : Int) : Int := if w = 1 then wt + wl * b else if w = 7 then wc else wo
theorem wes_ent (h : wEN S S' w a b z) (hx : wEx S S') (h0 : 0 ≤ S.f 43 49) : (wes wt wl wc wo S' (S'.f 43 49).toNat = wes wt wl wc wo S (S.f 43 49).toNat) ∨ (z = S.f 43 49 + 1 ∧ wes wt wl wc wo S' (S'.f 43 49).toNat = wes wt wl wc wo S (S.f 43 49).toNat + wgt wt wl wc wo w b) := by
  rcases h.2 with ⟨h1, h2⟩ | ⟨h1, h2, h3, h4⟩
  · left; rw [h1]; exact wes_ex hx _ (by omega)
  · right
    refine ⟨h1, ?_⟩
    obtain ⟨⟨b1, b2, b3, b4, b5⟩, _⟩ := h
    rw [h2, show (S.f 43 49 + 1).toNat = (S.f 43 49).toNat + 1 by omega]
    show wes wt wl wc wo S' (S.f 43 49).toNat + wew wt wl wc wo S' ((S.f 43 49).toNat + 1) = _
    rw [wes_ex hx _ (by omega)]
    congr 1
    have e : (S.f 43 49).toNat + 1 = z.toNat := by omega
    unfold wew wgt
    rw [e, b3, b5]
theorem wpot_ent (h : wEN S S' w a b z) (hx : wEx S S') (h0 : 0 ≤ S.f 43 49) (w1 : 0 ≤ wt) (w2 : 0 ≤ wl) (w3 : 0 ≤ wc) (hw : 0 ≤ wgt wt wl wc wo w b) : wpot wt wl wc wo S' ≤ wpot wt wl wc wo S + wgt wt wl wc wo w b := by
  have h1 := wms_ex (wt := wt) (wl := wl) (wc := wc) hx w1 w2 w3 wCL
  unfold wpot
  rcases wes_ent (wt := wt) (wl := wl) (wc := wc) (wo := wo) h hx h0 with h2 | ⟨_, h2⟩ <;> omega
/-- where the text is a constant, its entry costs nothing -/
theorem wpot_cls {c : Nat} (h : wEN S S' 7 a 0 z) (hx : wEx S S') (h0 : 0 ≤ S.f 43 49) (hf : wfm S a c) (hc : c ∈ wCL) (w1 : 0 ≤ wt) (w2 : 0 ≤ wl) (w3 : 0 ≤ wc) : wpot wt wl wc wo S' ≤ wpot wt wl wc wo S := by
  unfold wpot
  rcases h.2 with ⟨h1, h2⟩ | ⟨h1, h2, h3, h4⟩
  · have := wms_ex (wt := wt) (wl := wl) (wc := wc) hx w1 w2 w3 wCL
    rw [h1, wes_ex hx _ (by omega)]
    omega
  · have hn : ¬ wpc S c := by
      rintro ⟨r, f1, e, e1, e2, e3, e4, e5⟩
      refine h4 e e1 e2 ⟨e3, ?_, e5⟩
      rw [e4]
      obtain ⟨p1, p2, p3, p4⟩ := f1
      obtain ⟨q1, q2, q3, q4⟩ := hf
      rcases Int.lt_trichotomy r a with hlt | heq | hgt
      · exact absurd p3 (q4 r.toNat (by omega) (by omega))
      · exact heq
      · exact absurd q3 (p4 a.toNat (by omega) (by omega))
    have hy : wpc S' c := by
      obtain ⟨⟨b1, b2, b3, b4, b5⟩, _⟩ := h
      exact ⟨a, wfm_ex hx hf, z.toNat, by omega, by omega, b3, b4, b5⟩
    have h5 := wms_pc (wt := wt) (wl := wl) (wc := wc) hx w1 w2 w3 hn hy wCL hc
    have h6 := wes_ent (wt := wt) (wl := wl) (wc := wc) (wo := wo) h hx h0
    have e7 : wgt wt wl wc wo 7 0 = wc := by unfold wgt; rw [if_neg (by decide), if_pos rfl]
    rw [e7] at h6
    rcases h6 with h6 | ⟨_, h6⟩ <;> omega
end
end XNC
