set_option linter.unusedVariables false
noncomputable section XNC
section
variable {S S0 S' S1 S2 S3 S4 : yS} {w a b z e n k c : Int}
theorem wch_eq (h1 : ∀ j, S'.a 48 j = S.a 48 j) (h2 : S'.f 43 21 = S.f 43 21) (c k : Nat) : wch S' c k = wch S c k := by
  unfold wch
  rw [h2]
  simp only [h1]
/-! entries among the first ones -/
def wNE (S : yS) (w a b e : Int) : Prop := ∀ q : Nat, 1 ≤ q → (q : Int) < e → ¬ (S.a 73 q = w ∧ S.a 74 q = a ∧ S.a 75 q = b)
theorem wNE_1 : wNE S w a b 1 := fun q h1 h2 => absurd h2 (by omega)
theorem wNE_s (h : wNE S w a b e) (h1 : 1 ≤ e) (hn : ¬ (S.a 73 e.toNat = w ∧ S.a 74 e.toNat = a ∧ S.a 75 e.toNat = b)) : wNE S w a b (e + 1) := by
  intro q hq1 hq2
  by_cases hq : q = e.toNat
  · rw [hq]; exact hn
  · exact h q hq1 (by omega)
theorem wEN_hit (q : S = S0) (h1 : 1 ≤ e) (h2 : e ≤ S.f 43 49) (a1 : S.a 73 e.toNat = w) (a2 : S.a 74 e.toNat = a) (a3 : S.a 75 e.toNat = b) : wEN S0 S w a b e := by
  subst q
  exact ⟨⟨h1, h2, a1, a2, a3⟩, Or.inl ⟨rfl, fun _ => ⟨rfl, rfl, rfl⟩⟩⟩
theorem wEN_new (q : S = S0) (hn : wNE S w a b e) (he : S.f 43 49 < e) (h0 : 0 ≤ S.f 43 49) (e1 : S'.f 43 49 = S.f 43 49 + 1) (e2 : ∀ j, S'.a 73 j = (ysa S 73 (S.f 43 49 + 1).toNat w).a 73 j) (e3 : ∀ j, S'.a 74 j = (ysa S 74 (S.f 43 49 + 1).toNat a).a 74 j) (e4 : ∀ j, S'.a 75 j = (ysa S 75 (S.f 43 49 + 1).toNat b).a 75 j) : wEN S0 S' w a b (S'.f 43 49) := by
  subst q
  refine ⟨⟨by omega, by omega, ?_, ?_, ?_⟩, Or.inr ⟨e1, e1, fun j hj => ⟨?_, ?_, ?_⟩, fun j h1 h2 => hn j h1 (by omega)⟩⟩
  · rw [e1, e2]; exact ysa_eq
  · rw [e1, e3]; exact ysa_eq
  · rw [e1, e4]; exact ysa_eq
  · rw [e2]; exact ysa_ne (Or.inr (by omega))
  · rw [e3]; exact ysa_ne (Or.inr (by omega))
  · rw [e4]; exact ysa_ne (Or.inr (by omega))
/-! the letters of the texts; the bytes -/
def wLV (S : yS) : Prop := (∀ e : Nat, 1 ≤ e → (e : Int) ≤ S.f 43 49 → S.a 73 e = 1 → 0 ≤ S.a 74 e ∧ S.a 74 e + S.a 75 e ≤ S.f 43 50) ∧ S.f 43 50 ≤ wes 3 1 3 5 S (S.f 43 49).toNat
theorem wes_eq {wt wl wc wo : Int} (h1 : ∀ j, S'.a 73 j = S.a 73 j) (h2 : ∀ j, S'.a 75 j = S.a 75 j) : ∀ n, wes wt wl wc wo S' n = wes wt wl wc wo S n := by
  intro n
  induction n with
  | zero => rfl
  | succ n ih => show wes wt wl wc wo S' n + wew wt wl wc wo S' (n + 1) = wes wt wl wc wo S n + wew wt wl wc wo S (n + 1); rw [ih]; unfold wew; rw [h1, h2]
theorem wLVx : yX [(43, 49), (43, 50)] [73, 74, 75] wLV := by
  intro S S' hf ha h
  refine ⟨fun e h1 h2 h3 => ?_, ?_⟩
  · rw [hf 43 49 rfl] at h2
    rw [ha 73 rfl] at h3
    rw [ha 74 rfl, ha 75 rfl, hf 43 50 rfl]
    exact h.1 e h1 h2 h3
  · rw [hf 43 50 rfl, hf 43 49 rfl, wes_eq (ha 73 rfl) (ha 75 rfl)]
    exact h.2
theorem wEx_eq (h1 : S'.f 43 49 = S.f 43 49) (h2 : ∀ j, S'.a 73 j = S.a 73 j) (h3 : ∀ j, S'.a 74 j = S.a 74 j) (h4 : ∀ j, S'.a 75 j = S.a 75 j) (h5 : ∀ j, S'.a 76 j = S.a 76 j) (h6 : ∀ j, S'.a 48 j = S.a 48 j) (h7 : S'.f 43 21 = S.f 43 21) : wEx S S' :=
  ⟨by omega, fun e _ _ => ⟨h2 e, h3 e, h4 e, fun _ k _ => h5 _⟩, wch_eq h6 h7⟩
theorem wpot_eq {wt wl wc wo : Int} (w1 : 0 ≤ wt) (w2 : 0 ≤ wl) (w3 : 0 ≤ wc) (h1 : S'.f 43 49 = S.f 43 49) (h2 : ∀ j, S'.a 73 j = S.a 73 j) (h3 : ∀ j, S'.a 74 j = S.a 74 j) (h4 : ∀ j, S'.a 75 j = S.a 75 j) (h5 : ∀ j, S'.a 76 j = S.a 76 j) (h6 : ∀ j, S'.a 48 j = S.a 48 j) (h7 : S'.f 43 21 = S.f 43 21) : wpot wt wl wc wo S' = wpot wt wl wc wo S := by
  have a1 := wms_ex (wt := wt) (wl := wl) (wc := wc) (wEx_eq h1 h2 h3 h4 h5 h6 h7) w1 w2 w3 wCL
  have a2 := wms_ex (wt := wt) (wl := wl) (wc := wc) (wEx_eq (S' := S) (S := S') h1.symm (fun j => (h2 j).symm) (fun j => (h3 j).symm) (fun j => (h4 j).symm) (fun j => (h5 j).symm) (fun j => (h6 j).symm) h7.symm) w1 w2 w3 wCL
  unfold wpot
  rw [h1, wes_eq h2 h4]
  omega
theorem wphiX : yXf [(43, 49), (43, 21)] [73, 74, 75, 76, 48] wphi := fun S S' hf ha => wpot_eq (by decide) (by decide) (by decide) (hf 43 49 rfl) (ha 73 rfl) (ha 74 rfl) (ha 75 rfl) (ha 76 rfl) (ha 48 rfl) (hf 43 21 rfl)
theorem wpsiX : yXf [(43, 49), (43, 21)] [73, 74, 75, 76, 48] wpsi := fun S S' hf ha => wpot_eq (by decide) (by decide) (by decide) (hf 43 49 rfl) (ha 73 rfl) (ha 74 rfl) (ha 75 rfl) (ha 76 rfl) (ha 48 rfl) (hf 43 21 rfl)
theorem wes_1 : ∀ n : Nat, wes 1 0 1 1 S n = n := by
  intro n
  induction n with
  | zero => rfl
  | succ n ih =>
    show wes 1 0 1 1 S n + wew 1 0 1 1 S (n + 1) = _
    have : wew 1 0 1 1 S (n + 1) = 1 := by
      unfold wew
      split
      · omega
      · split <;> rfl
    omega
theorem wpsi_en (h0 : 0 ≤ S.f 43 49) : S.f 43 49 ≤ wpsi S := by
  have := wms_nn (S := S) (wt := 1) (wl := 0) (wc := 1) (by decide) (by decide) (by decide) wCL
  unfold wpsi wpot
  rw [wes_1]
  omega
theorem wphi_le (h : wLV S) : S.f 43 50 ≤ wphi S := by
  have := wms_nn (S := S) (wt := 3) (wl := 1) (wc := 3) (by decide) (by decide) (by decide) wCL
  have := h.2
  unfold wphi wpot
  omega
theorem wphi_es : wes 3 1 3 5 S (S.f 43 49).toNat ≤ wphi S := by
  have := wms_nn (S := S) (wt := 3) (wl := 1) (wc := 3) (by decide) (by decide) (by decide) wCL
  unfold wphi wpot
  omega
theorem wen_all (h : wEN S S' w a b z) (hl : ∀ j, S'.a 76 j = S.a 76 j) (h48 : ∀ j, S'.a 48 j = S.a 48 j) (h21 : S'.f 43 21 = S.f 43 21) (h0 : 0 ≤ S.f 43 49) (hw : w ≠ 1) : wphi S' ≤ wphi S + 5 ∧ wpsi S' ≤ wpsi S + 1 ∧ (wLV S → S'.f 43 50 = S.f 43 50 → wLV S') ∧ (w = 7 → b = 0 → ∀ c : Nat, c ∈ wCL → wfm S a c → wphi S' ≤ wphi S ∧ wpsi S' ≤ wpsi S) := by
  have hx := wEN_ex h hl (wch_eq h48 h21)
  have e1 : 0 ≤ wgt 3 1 3 5 w b ∧ wgt 3 1 3 5 w b ≤ 5 := by unfold wgt; rw [if_neg hw]; split <;> omega
  have e2 : 0 ≤ wgt 1 0 1 1 w b ∧ wgt 1 0 1 1 w b ≤ 1 := by unfold wgt; rw [if_neg hw]; split <;> omega
  refine ⟨?_, ?_, fun hv h50 => ⟨fun e h1 h2 h3 => ?_, ?_⟩, ?_⟩
  · have := wpot_ent (wt := 3) (wl := 1) (wc := 3) (wo := 5) h hx h0 (by decide) (by decide) (by decide) e1.1
    unfold wphi; omega
  · have := wpot_ent (wt := 1) (wl := 0) (wc := 1) (wo := 1) h hx h0 (by decide) (by decide) (by decide) e2.1
    unfold wpsi; omega
  · rcases h.2 with ⟨b1, b2⟩ | ⟨b1, b2, b3, b4⟩
    · obtain ⟨q1, q2, q3⟩ := b2 e
      rw [q2, q3, h50]
      exact hv.1 e h1 (by omega) (by rw [← q1]; exact h3)
    · by_cases he : (e : Int) = z
      · exfalso
        have e9 : e = z.toNat := by omega
        rw [e9, h.1.2.2.1] at h3
        exact hw h3
      · obtain ⟨q1, q2, q3⟩ := b3 e he
        rw [q2, q3, h50]
        exact hv.1 e h1 (by omega) (by rw [← q1]; exact h3)
  · have := hv.2
    rcases wes_ent (wt := 3) (wl := 1) (wc := 3) (wo := 5) h hx h0 with h2 | ⟨_, h2⟩ <;> omega
  · intro hw7 hb0 c hc hf
    subst hw7 hb0
    exact ⟨wpot_cls h hx h0 hf hc (by decide) (by decide) (by decide), wpot_cls h hx h0 hf hc (by decide) (by decide) (by decide)⟩
/-! the word that is spelled -/
def wSG (S S1 : yS) (c : Int) : Prop := ∀ j : Nat, S1.a 77 j = if (j : Int) = S.f 43 51 then c else S.a 77 j
theorem wSG_mk (h0 : 0 ≤ S.f 43 51) (e : ∀ j, S1.a 77 j = (ysa S 77 (S.f 43 51).toNat c).a 77 j) : wSG S S1 c := by
  intro j
  rw [e]
  by_cases hj : (j : Int) = S.f 43 51
  · rw [if_pos hj, show j = (S.f 43 51).toNat by omega]; exact ysa_eq
  · rw [if_neg hj]; exact ysa_ne (Or.inr (by omega))
def wSP (S S1 : yS) (s : Nat) (k : Int) : Prop := ∀ j : Nat, S1.a 77 j = if S.f 43 51 ≤ (j : Int) ∧ (j : Int) < S.f 43 51 + k then wch S s (j - (S.f 43 51).toNat) else S.a 77 j
theorem wSP_0 {s : Nat} (h : S1 = S) : wSP S S1 s 0 := by
  intro j
  rw [if_neg (by omega), h]
theorem wch_lit {s k : Nat} (hs : s < 100) {q : Int} (h0 : 0 ≤ q) (h1 : q < 128) (h : ((xPr.2.1[s]?).getD [])[k]? = some (vi q)) : wch S s k = q := by
  unfold wch
  rw [if_pos hs, h, Option.getD_some]
  unfold vi
  exact enc_nat h0 (by omega)
theorem wSP_s {s : Nat} (hs : s < 100) (h : wSP S0 S s k) (hk : 0 ≤ k) (h0 : 0 ≤ S0.f 43 51) (e : S.f 43 51 = S0.f 43 51 + k) (hg : wSG S S1 c) (c0 : 0 ≤ c) (c1 : c < 128) (hc : ((xPr.2.1[s]?).getD [])[k.toNat]? = some (vi c)) : wSP S0 S1 s (k + 1) := by
  intro j
  rw [hg j]
  by_cases hj : (j : Int) = S.f 43 51
  · rw [if_pos hj, if_pos (by omega), show j - (S0.f 43 51).toNat = k.toNat by omega]
    exact (wch_lit hs c0 c1 hc).symm
  · rw [if_neg hj, h j]
    by_cases h2 : S0.f 43 51 ≤ (j : Int) ∧ (j : Int) < S0.f 43 51 + k
    · rw [if_pos h2, if_pos (by omega)]
    · rw [if_neg h2, if_neg (by omega)]
def wSN (S S1 : yS) (v : Int) : Prop := (v ≤ 9 → wSG S S1 (48 + v % 10)) ∧ (9 < v → ∃ S2, wSG S S2 (48 + v / 10) ∧ S2.f 43 51 = S.f 43 51 + 1 ∧ wSG S2 S1 (48 + v % 10))
def wWD (S : yS) (c : Nat) : Prop := S.f 43 51 = wln c ∧ ∀ k : Nat, (k : Int) < wln c → S.a 77 k = wch S c k
theorem wWD_sp {s : Nat} (hs : s < 100) (h : wSP S S1 s (slen s)) (h0 : S.f 43 51 = 0) (e : S1.f 43 51 = S.f 43 51 + slen s) : wWD S1 s := by
  have e1 : wln s = slen s := by unfold wln; rw [if_pos hs]
  refine ⟨by omega, fun k hk => ?_⟩
  rw [h k, if_pos (by omega), h0]
  show wch S s (k - 0) = _
  unfold wch
  rw [if_pos hs, if_pos hs]
  rfl
def wtc (t : Int) : Nat := if t < 4 then 41 + t.toNat else 100 + t.toNat
theorem wtc_mem {t : Int} (h0 : 0 ≤ t) (h1 : t ≤ 19) : wtc t ∈ wCL := by
  have e : t = 0 ∨ t = 1 ∨ t = 2 ∨ t = 3 ∨ t = 4 ∨ t = 5 ∨ t = 6 ∨ t = 7 ∨ t = 8 ∨ t = 9 ∨ t = 10 ∨ t = 11 ∨ t = 12 ∨ t = 13 ∨ t = 14 ∨ t = 15 ∨ t = 16 ∨ t = 17 ∨ t = 18 ∨ t = 19 := by omega
  rcases e with h | h | h | h | h | h | h | h | h | h | h | h | h | h | h | h | h | h | h | h <;> (subst h; decide)
theorem wlit_mem {s : Nat} (h0 : 39 ≤ s) (h1 : s ≤ 72) : s ∈ wCL := by
  have h : ∀ q : Nat, q < 34 → 39 + q ∈ wCL := by decide
  have := h (s - 39) (by omega)
  rwa [show 39 + (s - 39) = s by omega] at this
theorem wnm_mem {v : Int} (h0 : 0 ≤ v) (h1 : v ≤ 9) : 130 + v.toNat ∈ wCL := by
  have h : ∀ q : Nat, q < 10 → 130 + q ∈ wCL := by decide
  exact h v.toNat (by omega)
theorem slen_pos {s : Nat} (h0 : 39 ≤ s) (h1 : s ≤ 72) : 1 ≤ slen s := by
  have h : ((List.range 34).all fun q => Nat.ble 1 (((xnth xPr.2.1 (39 + q)).getD []).length)) = true := by decide +kernel
  have h2 := List.all_eq_true.mp h (s - 39) (List.mem_range.mpr (by omega))
  have h3 := Nat.le_of_ble_eq_true h2
  rw [xnth_eq', show 39 + (s - 39) = s by omega] at h3
  unfold slen
  omega
theorem wslash (q : Nat) : wch S 45 0 = 47 ∧ wch S 45 1 = 84 ∧ wch S 40 0 = 47 ∧ wch S 40 1 = 80 := by
  refine ⟨?_, ?_, ?_, ?_⟩ <;> (unfold wch; rw [if_pos (by decide)]; decide +kernel)
theorem wsl2 : slen 45 = 2 ∧ slen 40 = 2 := by decide +kernel
/-- a type's name -/
theorem wWD_ty {t p : Int} (h1 : wSG S S1 112) (e1 : S1.f 43 51 = S.f 43 51 + 1) (h2 : wSN S1 S2 p) (hp0 : 0 ≤ p) (hp : p ≤ 4) (e2 : S2.f 43 51 = S1.f 43 51 + 1) (h3 : wSP S2 S3 45 (slen 45)) (e3 : S3.f 43 51 = S2.f 43 51 + slen 45) (h4 : wSN S3 S4 t) (e4 : (t ≤ 9 → S4.f 43 51 = S3.f 43 51 + 1) ∧ (9 < t → S4.f 43 51 = S3.f 43 51 + 2)) (h0 : S.f 43 51 = 0) (hq : S4.a 48 t.toNat = p) (ht : 4 ≤ t) (ht2 : t ≤ 19) : wWD S4 (wtc t) := by
  have hc : wtc t = 100 + t.toNat := by unfold wtc; rw [if_neg (by omega)]
  have hs := wsl2.1
  have hch := wslash (S := S2) 0
  have g2 := h2.1 (by omega)
  have w3 : ∀ j : Nat, (j : Int) < 4 → S3.a 77 j = wch S4 (100 + t.toNat) j := by
    intro j hj
    rw [h3 j]
    have ej : j = 0 ∨ j = 1 ∨ j = 2 ∨ j = 3 := by omega
    unfold wch
    rw [if_neg (show ¬ 100 + t.toNat < 100 by omega), if_pos (show 100 + t.toNat < 130 by omega)]
    rcases ej with rfl | rfl | rfl | rfl
    · rw [if_neg (by omega), g2, if_neg (by omega), h1, if_pos (by omega)]; rfl
    · rw [if_neg (by omega), g2, if_pos (by omega)]
      show _ = 48 + S4.a 48 (100 + t.toNat - 100) % 10
      rw [show 100 + t.toNat - 100 = t.toNat by omega, hq]
    · rw [if_pos (by omega), show 2 - (S2.f 43 51).toNat = 0 by omega]
      have := hch.1
      unfold wch at this
      exact this
    · rw [if_pos (by omega), show 3 - (S2.f 43 51).toNat = 1 by omega]
      have := hch.2.1
      unfold wch at this
      exact this
  have hl : wln (wtc t) = if t ≤ 9 then 5 else 6 := by
    rw [hc]
    unfold wln
    rw [if_neg (by omega), if_pos (by omega)]
    by_cases h9 : t ≤ 9
    · rw [if_pos h9, if_pos (by omega)]
    · rw [if_neg h9, if_neg (by omega)]
  by_cases h9 : t ≤ 9
  · rw [if_pos h9] at hl
    have g4 := h4.1 h9
    refine ⟨by have := e4.1 h9; omega, fun k hk => ?_⟩
    rw [g4 k]
    by_cases hk4 : (k : Int) = S3.f 43 51
    · rw [if_pos hk4, hc]
      have : k = 4 := by omega
      subst this
      unfold wch
      rw [if_neg (by omega), if_pos (by omega)]
      show _ = if 100 + t.toNat < 110 then 48 + (((100 + t.toNat : Nat) : Int) - 100) % 10 else 48 + (((100 + t.toNat : Nat) : Int) - 100) / 10
      rw [if_pos (by omega)]
      omega
    · rw [if_neg hk4, hc]
      exact w3 k (by omega)
  · rw [if_neg h9] at hl
    obtain ⟨S5, g5, e5, g6⟩ := h4.2 (by omega)
    refine ⟨by have := e4.2 (by omega); omega, fun k hk => ?_⟩
    rw [g6 k]
    by_cases hk5 : (k : Int) = S5.f 43 51
    · rw [if_pos hk5, hc]
      have : k = 5 := by omega
      subst this
      unfold wch
      rw [if_neg (by omega), if_pos (by omega)]
      show _ = 48 + (((100 + t.toNat : Nat) : Int) - 100) % 10
      omega
    · rw [if_neg hk5, g5 k]
      by_cases hk4 : (k : Int) = S3.f 43 51
      · rw [if_pos hk4, hc]
        have : k = 4 := by omega
        subst this
        unfold wch
        rw [if_neg (by omega), if_pos (by omega)]
        show _ = if 100 + t.toNat < 110 then 48 + (((100 + t.toNat : Nat) : Int) - 100) % 10 else 48 + (((100 + t.toNat : Nat) : Int) - 100) / 10
        rw [if_neg (by omega)]
        omega
      · rw [if_neg hk4, hc]
        exact w3 k (by omega)
/-- the proxy's name -/
theorem wWD_px {p : Int} (h1 : wSG S S1 112) (e1 : S1.f 43 51 = S.f 43 51 + 1) (h2 : wSN S1 S2 p) (hp0 : 0 ≤ p) (hp : p ≤ 4) (e2 : S2.f 43 51 = S1.f 43 51 + 1) (h3 : wSP S2 S3 40 (slen 40)) (e3 : S3.f 43 51 = S2.f 43 51 + slen 40) (h0 : S.f 43 51 = 0) (hq : S3.a 48 (S3.f 43 21).toNat = p) : wWD S3 150 := by
  have hs := wsl2.2
  have hch := wslash (S := S2) 0
  have g2 := h2.1 (by omega)
  have hl : wln 150 = 4 := by decide
  refine ⟨by omega, fun j hj => ?_⟩
  rw [h3 j]
  have ej : j = 0 ∨ j = 1 ∨ j = 2 ∨ j = 3 := by omega
  unfold wch
  rw [if_neg (show ¬ 150 < 100 by omega), if_neg (show ¬ 150 < 130 by omega), if_neg (show ¬ 150 < 150 by omega)]
  rcases ej with rfl | rfl | rfl | rfl
  · rw [if_neg (by omega), g2, if_neg (by omega), h1, if_pos (by omega)]; rfl
  · rw [if_neg (by omega), g2, if_pos (by omega)]
    show _ = 48 + S3.a 48 (S3.f 43 21).toNat % 10
    rw [hq]
  · rw [if_pos (by omega), show 2 - (S2.f 43 51).toNat = 0 by omega]
    have := hch.2.2.1
    unfold wch at this
    exact this
  · rw [if_pos (by omega), show 3 - (S2.f 43 51).toNat = 1 by omega]
    have := hch.2.2.2
    unfold wch at this
    exact this
/-- a method's name -/
theorem wWD_nm {p : Int} (h1 : wSG S S1 109) (e1 : S1.f 43 51 = S.f 43 51 + 1) (h2 : wSN S1 S2 p) (hp0 : 0 ≤ p) (hp : p ≤ 9) (e2 : S2.f 43 51 = S1.f 43 51 + 1) (h0 : S.f 43 51 = 0) : wWD S2 (130 + p.toNat) := by
  have g2 := h2.1 hp
  have hl : wln (130 + p.toNat) = 2 := by unfold wln; rw [if_neg (by omega), if_neg (by omega), if_pos (by omega)]
  refine ⟨by omega, fun j hj => ?_⟩
  rw [g2 j]
  have ej : j = 0 ∨ j = 1 := by omega
  unfold wch
  rw [if_neg (show ¬ 130 + p.toNat < 100 by omega), if_neg (show ¬ 130 + p.toNat < 130 by omega), if_pos (show 130 + p.toNat < 150 by omega)]
  rcases ej with rfl | rfl
  · rw [if_neg (by omega), h1, if_pos (by omega)]; rfl
  · rw [if_pos (by omega)]
    show _ = 48 + (((130 + p.toNat : Nat) : Int) - 130) % 10
    omega
end
end XNC
