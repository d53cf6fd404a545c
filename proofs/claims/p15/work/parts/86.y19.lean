set_option linter.unusedVariables false
noncomputable section XNC
section
variable {S S0 S' S1 S2 S3 : yS} {w a b z e n k c : Int}
/-! a text is looked for, or written -/
def wMW (S : yS) (n e : Int) : Prop := S.a 73 e.toNat = 1 ∧ S.a 75 e.toNat = n ∧ ∀ q : Nat, (q : Int) < n → S.a 76 (S.a 74 e.toNat + (q : Int)).toNat = S.a 77 q
def wNM (S : yS) (n e : Int) : Prop := ∀ q : Nat, 1 ≤ q → (q : Int) < e → ¬ wMW S n (q : Int)
def wPF (S : yS) (e k : Int) : Prop := ∀ q : Nat, (q : Int) < k → S.a 76 (S.a 74 e.toNat + (q : Int)).toNat = S.a 77 q
theorem wNM_1 : wNM S n 1 := fun q h1 h2 => absurd h2 (by omega)
theorem wNM_s (h : wNM S n e) (h1 : 1 ≤ e) (hn : ¬ wMW S n e) : wNM S n (e + 1) := by
  intro q hq1 hq2
  by_cases hq : (q : Int) = e
  · rw [hq]; exact hn
  · exact h q hq1 (by omega)
theorem wMW_k (h : S.a 73 e.toNat ≠ 1) : ¬ wMW S n e := fun h2 => h h2.1
theorem wMW_b (h : S.a 75 e.toNat ≠ n) : ¬ wMW S n e := fun h2 => h h2.2.1
theorem wMW_l (h0 : 0 ≤ k) (h1 : k < n) (h : S.a 76 (S.a 74 e.toNat + k).toNat ≠ S.a 77 k.toNat) : ¬ wMW S n e := by
  intro h2
  have := h2.2.2 k.toNat (by omega)
  rw [show ((k.toNat : Nat) : Int) = k by omega] at this
  exact h this
theorem wPF_0 : wPF S e 0 := fun q h => absurd h (by omega)
theorem wPF_s (h : wPF S e k) (h0 : 0 ≤ k) (h1 : S.a 76 (S.a 74 e.toNat + k).toNat = S.a 77 k.toNat) : wPF S e (k + 1) := by
  intro q hq
  by_cases hk : (q : Int) = k
  · rw [hk, h1]; congr 1; omega
  · exact h q (by omega)
theorem wMW_of (h : wPF S e k) (hk : n ≤ k) (h1 : S.a 73 e.toNat = 1) (h2 : S.a 75 e.toNat = n) : wMW S n e := ⟨h1, h2, fun q hq => h q (by omega)⟩
def wTXT (S S1 : yS) (z : Int) : Prop := ∀ c : Nat, c ∈ wCL → wWD S c → wfm S1 z c ∧ wphi S1 ≤ wphi S ∧ wpsi S1 ≤ wpsi S
theorem wMW_mt {c : Nat} (hw : wWD S c) (h : wmt S e.toNat c ↔ wmt S e.toNat c) : wMW S (wln c) e ↔ wmt S e.toNat c := by
  constructor
  · rintro ⟨h1, h2, h3⟩
    exact ⟨h1, h2, fun q hq => (h3 q hq).trans (hw.2 q hq)⟩
  · rintro ⟨h1, h2, h3⟩
    exact ⟨h1, h2, fun q hq => (h3 q hq).trans (hw.2 q hq).symm⟩
theorem wmt_c {c : Nat} {q : Nat} (h2 : ∀ j, S'.a 73 j = S.a 73 j) (h3 : ∀ j, S'.a 74 j = S.a 74 j) (h4 : ∀ j, S'.a 75 j = S.a 75 j) (h5 : ∀ j, S'.a 76 j = S.a 76 j) (h6 : ∀ j, S'.a 48 j = S.a 48 j) (h7 : S'.f 43 21 = S.f 43 21) : wmt S' q c ↔ wmt S q c := by
  unfold wmt
  simp only [h2, h3, h4, h5, wch_eq h6 h7]
/-- found -/
theorem wTX_hit (q : S = ysf S0 43 51 0) (hn : n = S0.f 43 51) (h1 : 1 ≤ e) (h2 : e ≤ S.f 43 49) (hm : wMW S n e) (hN : wNM S n e) : wTXT S0 S e := by
  subst q
  intro c hc hw
  have hl : n = wln c := hn.trans hw.1
  have k1 : ∀ q : Nat, wMW (ysf S0 43 51 0) n (q : Int) ↔ wmt (ysf S0 43 51 0) q c := by
    intro q
    have a1 : wMW (ysf S0 43 51 0) n (q : Int) ↔ wMW S0 n (q : Int) := Iff.rfl
    have a2 : wmt (ysf S0 43 51 0) q c ↔ wmt S0 q c := Iff.rfl
    rw [a1, a2, hl]
    have := wMW_mt (e := (q : Int)) hw Iff.rfl
    rwa [show ((q : Int)).toNat = q by omega] at this
  refine ⟨⟨h1, h2, ?_, fun q hq1 hq2 hq3 => hN q hq1 hq2 ((k1 q).mpr hq3)⟩, ?_, ?_⟩
  · refine (k1 e.toNat).mp ?_
    rwa [show ((e.toNat : Nat) : Int) = e by omega]
  · rw [wphiX.setf (S := S0) (b := 43) (w := 51) (z := 0) rfl]; exact Int.le_refl _
  · rw [wpsiX.setf (S := S0) (b := 43) (w := 51) (z := 0) rfl]; exact Int.le_refl _
/-- letters copied -/
def wCP (S0 S : yS) (k : Int) : Prop := S.f 43 49 = S0.f 43 49 ∧ S.f 43 50 = S0.f 43 50 ∧ (∀ j, S.a 73 j = S0.a 73 j ∧ S.a 74 j = S0.a 74 j ∧ S.a 75 j = S0.a 75 j) ∧ ∀ j : Nat, S.a 76 j = if S0.f 43 50 ≤ (j : Int) ∧ (j : Int) < S0.f 43 50 + k then S0.a 77 (j - (S0.f 43 50).toNat) else S0.a 76 j
theorem wCP_0 (q : S = ysf S0 43 51 0) : wCP S0 S 0 := by
  subst q
  refine ⟨rfl, rfl, fun j => ⟨rfl, rfl, rfl⟩, fun j => ?_⟩
  rw [if_neg (by omega)]
  rfl
theorem wCP_s (h : wCP S0 S k) (hk : 0 ≤ k) (h0 : 0 ≤ S0.f 43 50) (h77 : S.a 77 k.toNat = S0.a 77 k.toNat) (e1 : S1.f 43 49 = S.f 43 49) (e2 : S1.f 43 50 = S.f 43 50) (e3 : ∀ j, S1.a 73 j = S.a 73 j ∧ S1.a 74 j = S.a 74 j ∧ S1.a 75 j = S.a 75 j) (e4 : ∀ j, S1.a 76 j = (ysa S 76 (S.f 43 50 + k).toNat (S.a 77 k.toNat)).a 76 j) : wCP S0 S1 (k + 1) := by
  obtain ⟨h1, h2, h3, h4⟩ := h
  refine ⟨e1.trans h1, e2.trans h2, fun j => ⟨(e3 j).1.trans (h3 j).1, (e3 j).2.1.trans (h3 j).2.1, (e3 j).2.2.trans (h3 j).2.2⟩, fun j => ?_⟩
  rw [e4]
  by_cases hj : j = (S.f 43 50 + k).toNat
  · rw [hj, ysa_eq, if_pos (by omega), h77]
    congr 1
    omega
  · rw [ysa_ne (Or.inr hj), h4]
    by_cases h5 : S0.f 43 50 ≤ (j : Int) ∧ (j : Int) < S0.f 43 50 + k
    · rw [if_pos h5, if_pos (by omega)]
    · rw [if_neg h5, if_neg (by omega)]
/-- a new text -/
theorem wTX_new (hlv : wLV S) (hn : n = S0.f 43 51) (hn1 : 1 ≤ n) (h0 : 0 ≤ S0.f 43 49) (h50 : 0 ≤ S0.f 43 50) (hcp : wCP S0 S k) (hk : k = n) (hN : wNM S0 n (S0.f 43 49 + 1)) (q2 : S2.f 43 49 = S.f 43 49) (q3 : ∀ j, S2.a 73 j = S.a 73 j ∧ S2.a 74 j = S.a 74 j ∧ S2.a 75 j = S.a 75 j ∧ S2.a 76 j = S.a 76 j) (q4 : S2.f 43 50 = S.f 43 50 + n) (hE : wEN S2 S3 1 (S2.f 43 50 - n) n z) (r76 : ∀ j, S3.a 76 j = S2.a 76 j) (r48 : ∀ j, S3.a 48 j = S0.a 48 j) (r21 : S3.f 43 21 = S0.f 43 21) (r50 : S3.f 43 50 = S2.f 43 50) : wLV S3 ∧ wphi S3 ≤ wphi S0 + 3 + n ∧ wpsi S3 ≤ wpsi S0 + 1 ∧ wTXT S0 S3 z := by
  subst hk
  obtain ⟨c1, c2, c3, c4⟩ := hcp
  have hlv0 : wLV S0 := by
    refine ⟨fun q h1 h2 h3 => ?_, ?_⟩
    · have := hlv.1 q h1 (by omega) (by rw [(c3 q).1]; exact h3)
      rw [(c3 q).2.1, (c3 q).2.2, c2] at this
      exact this
    · have := hlv.2
      rw [c1, c2, wes_eq (fun j => (c3 j).1) (fun j => (c3 j).2.2)] at this
      exact this
  -- the new entry
  obtain ⟨⟨b1, b2, b3, b4, b5⟩, bb⟩ := hE
  have hnew : z = S0.f 43 49 + 1 ∧ S3.f 43 49 = S0.f 43 49 + 1 ∧ ∀ q : Nat, (q : Int) ≠ z → S3.a 73 q = S0.a 73 q ∧ S3.a 74 q = S0.a 74 q ∧ S3.a 75 q = S0.a 75 q := by
    rcases bb with ⟨d1, d2⟩ | ⟨d1, d2, d3, d4⟩
    · exfalso
      obtain ⟨g1, g2, g3⟩ := d2 z.toNat
      obtain ⟨p1, p2, p3, _⟩ := q3 z.toNat
      have k1 : S0.a 73 z.toNat = 1 := by rw [← (c3 z.toNat).1, ← p1, ← g1]; exact b3
      have k2 : S0.a 74 z.toNat = S0.f 43 50 := by rw [← (c3 z.toNat).2.1, ← p2, ← g2, b4]; omega
      have k3 : S0.a 75 z.toNat = k := by rw [← (c3 z.toNat).2.2, ← p3, ← g3]; exact b5
      have := (hlv0.1 z.toNat (by omega) (by omega) k1).2
      omega
    · refine ⟨by omega, by omega, fun q hq => ?_⟩
      obtain ⟨g1, g2, g3⟩ := d3 q hq
      obtain ⟨p1, p2, p3, _⟩ := q3 q
      exact ⟨g1.trans (p1.trans (c3 q).1), g2.trans (p2.trans (c3 q).2.1), g3.trans (p3.trans (c3 q).2.2)⟩
  obtain ⟨z1, z2, z3⟩ := hnew
  have l76 : ∀ j : Nat, S3.a 76 j = if S0.f 43 50 ≤ (j : Int) ∧ (j : Int) < S0.f 43 50 + k then S0.a 77 (j - (S0.f 43 50).toNat) else S0.a 76 j := fun j => (r76 j).trans ((q3 j).2.2.2.trans (c4 j))
  have hEN : wEN S0 S3 1 (S0.f 43 50) k z := by
    refine ⟨⟨b1, b2, b3, by rw [b4]; omega, b5⟩, Or.inr ⟨z1, z2, z3, fun q h1 h2 h3 => ?_⟩⟩
    have := (hlv0.1 q h1 h2 h3.1).2
    omega
  have hx : wEx S0 S3 := by
    refine ⟨by omega, fun q h1 h2 => ?_, wch_eq r48 r21⟩
    obtain ⟨g1, g2, g3⟩ := z3 q (by omega)
    refine ⟨g1, g2, g3, fun hk1 j hj => ?_⟩
    have := hlv0.1 q h1 h2 hk1
    rw [l76, if_neg (by omega)]
  have e3 : wgt 3 1 3 5 1 k = 3 + k := by unfold wgt; rw [if_pos rfl]; omega
  have e1 : wgt 1 0 1 1 1 k = 1 := by unfold wgt; rw [if_pos rfl]; omega
  have P3 := wpot_ent (wt := 3) (wl := 1) (wc := 3) (wo := 5) hEN hx h0 (by decide) (by decide) (by decide) (by omega)
  have P1 := wpot_ent (wt := 1) (wl := 0) (wc := 1) (wo := 1) hEN hx h0 (by decide) (by decide) (by decide) (by omega)
  have s3 : wes 3 1 3 5 S3 (S3.f 43 49).toNat = wes 3 1 3 5 S0 (S0.f 43 49).toNat + (3 + k) := by
    rw [z2, show (S0.f 43 49 + 1).toNat = (S0.f 43 49).toNat + 1 by omega]
    show wes 3 1 3 5 S3 (S0.f 43 49).toNat + wew 3 1 3 5 S3 ((S0.f 43 49).toNat + 1) = _
    rw [wes_ex hx _ (by omega)]
    congr 1
    unfold wew
    rw [show (S0.f 43 49).toNat + 1 = z.toNat by omega, b3, b5, if_pos rfl]
    omega
  have s1 : wes 1 0 1 1 S3 (S3.f 43 49).toNat = wes 1 0 1 1 S0 (S0.f 43 49).toNat + 1 := by
    rw [wes_1, wes_1]; omega
  refine ⟨⟨fun q h1 h2 h3 => ?_, ?_⟩, ?_, ?_, fun c hc hw => ?_⟩
  · by_cases hq : (q : Int) = z
    · have e9 : q = z.toNat := by omega
      rw [e9, b4, b5]
      omega
    · obtain ⟨g1, g2, g3⟩ := z3 q hq
      rw [g2, g3]
      have := hlv0.1 q h1 (by omega) (by rw [← g1]; exact h3)
      omega
  · have := hlv0.2
    omega
  · unfold wphi; omega
  · unfold wpsi; omega
  · have hl : k = wln c := hn.trans hw.1
    have hmz : wmt S3 z.toNat c := by
      refine ⟨b3, b5.trans hl, fun q hq => ?_⟩
      rw [b4, l76, if_pos (by omega), wch_eq r48 r21, ← hw.2 q hq]
      congr 1
      omega
    have hno : ∀ q : Nat, 1 ≤ q → (q : Int) ≤ S0.f 43 49 → ¬ wmt S0 q c := by
      intro q h1 h2 h3
      refine hN q h1 (by omega) ?_
      rw [hl]
      refine (wMW_mt hw Iff.rfl).mpr ?_
      rwa [show ((q : Int)).toNat = q by omega]
    have hfm : wfm S3 z c := ⟨b1, b2, hmz, fun q h1 h2 h3 => hno q h1 (by omega) ((wmt_ex hx h1 (by omega)).mp h3)⟩
    have npr : ¬ wpr S0 c := fun ⟨q, h1, h2, h3⟩ => hno q h1 h2 h3
    have ypr : wpr S3 c := ⟨z.toNat, by omega, by omega, hmz⟩
    have m3 := wms_pr (wt := 3) (wl := 1) (wc := 3) hx (by decide) (by decide) (by decide) npr ypr wCL hc
    have m1 := wms_pr (wt := 1) (wl := 0) (wc := 1) hx (by decide) (by decide) (by decide) npr ypr wCL hc
    refine ⟨hfm, ?_, ?_⟩
    · unfold wphi wpot; omega
    · unfold wpsi wpot; omega
end
end XNC
