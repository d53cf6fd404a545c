set_option linter.unusedVariables false
set_option maxRecDepth 4000
noncomputable section XNC
/-- ProxyForgeModel.parameter -/
theorem sp229 {G : xk} {S : yS} {d : Nat} (hI : yI S) {a : Int} (h_a : 0 ≤ a ∧ a ≤ 1048575) {k : Int} (h_k : 0 ≤ k ∧ k ≤ 3) (hd : 0 ≤ d) : yT xPr G LY xC229 0 [some (vi a), some (vi k)] [] S d (fun r S' => ∃ z : Int, r = (1, vi z) ∧ 0 ≤ z ∧ z ≤ 31 ∧ z = yand (yshr a (5 * k)) 31 ∧ S = S') := by
  refine yT_pad 0 ?_
  show yT xPr G LY xC229 0 [some (vi a), some (vi k)] [] S d _
  refine r_load (i := 0) (u := 0) (w := 0) rfl rfl rfl ?_
  refine r_const (i := 1) (u := 5) (z := 5) rfl rfl ?_
  refine r_load (i := 2) (u := 1) (w := 0) rfl rfl rfl ?_
  refine r_imul (i := 3) rfl ?_
  refine r_ishr (i := 4) rfl (by omega) (by omega) (by omega) (by omega) ?_
  have h1 := @yshr_c a (5 * k) (by omega) (by omega)
  refine r_const (i := 5) (u := 31) (z := 31) rfl rfl ?_
  refine r_iand (i := 6) rfl ?_
  have h2 := @yand_c (yshr a (5 * k)) 31 (by decide) (by decide)
  exact r_retI (i := 7) rfl ⟨yand (yshr a (5 * k)) 31, rfl, by omega, by omega, (by omega), rfl⟩
theorem lp216_2 {G : xk} {d : Nat} {S : yS} (hI : yI S) {a : Int} (h_a : 0 ≤ a ∧ a ≤ 1048575) (hd : 1 ≤ d + 1) : ∀ (n : Nat), ∀ (n0 : Int) (h_n0 : 0 ≤ n0 ∧ n0 ≤ 4) (q_0 : ∀ k : Int, 0 ≤ k → k < n0 → dg a k ≠ 0) (hn : 4 - n0 < (n : Nat)), yT xPr G LY xC216 2 [some (vi a), some (vi n0)] [] S (d + 1) (fun r S' => ∃ z : Int, r = (1, vi z) ∧ 0 ≤ z ∧ z ≤ 4 ∧ hMn a z ∧ S = S') := by
  intro n
  induction n with
  | zero => intro n0 h_n0 q_0 hn; exact absurd hn (by omega)
  | succ n ih =>
    intro n0 h_n0 q_0 hn
    refine r_load (i := 2) (u := 1) (w := 0) rfl rfl rfl ?_
    refine r_const (i := 3) (u := 4) (z := 4) rfl rfl ?_
    refine c_ge (i := 4) (v := 11) rfl ⟨by omega, by omega⟩ ⟨by omega, by omega⟩ (fun h1 => ?_) (fun h2 => ?_)
    · refine r_load (i := 11) (u := 1) (w := 0) rfl rfl rfl ?_
      exact r_retI (i := 12) rfl ⟨n0, rfl, by omega, by omega, (by exact ⟨q_0, fun h9 => by unfold dg; omega⟩), rfl⟩
    · refine r_load (i := 5) (u := 0) (w := 0) rfl rfl rfl ?_
      refine r_load (i := 6) (u := 1) (w := 0) rfl rfl rfl ?_
      refine r_call (i := 7) (u := 65535) (v := 229) (w := 0) (b := 2) (na := 514) (C2 := xC229) (as := [vi a, vi n0]) (s := []) rfl rfl rfl rfl rfl rfl rfl (sp229 (a := a) (k := n0) hI ⟨by omega, by omega⟩ ⟨by omega, by omega⟩   (by omega)) (fun r3 S4 hq5 => ?_)
      obtain ⟨z6, rfl, h7, h8, h9, rfl⟩ := hq5
      refine Or.inr (Or.inl ⟨rfl, ?_⟩)
      refine z_le (i := 8) (v := 11) rfl ⟨by omega, by omega⟩ (fun h10 => ?_) (fun h11 => ?_)
      · refine r_load (i := 11) (u := 1) (w := 0) rfl rfl rfl ?_
        exact r_retI (i := 12) rfl ⟨n0, rfl, by omega, by omega, (by exact ⟨q_0, fun h9 => by unfold dg; omega⟩), rfl⟩
      · refine r_iinc (i := 9) (u := 1) (v := 1) (s := 1) (L1 := [some (vi a), some (vi (n0 + 1))]) rfl rfl rfl rfl rfl ?_
        refine r_goto (i := 10) (v := 2) rfl ?_
        exact ih (n0 + 1) ⟨by omega, by omega⟩ (by first | exact hm_0 | exact hm_s q_0 (by unfold dg; omega)) (by omega)
/-- ProxyForgeModel.many -/
theorem sp216 {G : xk} {S : yS} {d : Nat} (hI : yI S) {a : Int} (h_a : 0 ≤ a ∧ a ≤ 1048575) (hd : 1 ≤ d) : yT xPr G LY xC216 0 [some (vi a)] [] S d (fun r S' => ∃ z : Int, r = (1, vi z) ∧ 0 ≤ z ∧ z ≤ 4 ∧ hMn a z ∧ S = S') := by
  refine yT_pad 1 ?_
  show yT xPr G LY xC216 0 [some (vi a), none] [] S d _
  obtain ⟨d, rfl⟩ : ∃ q, d = q + 1 := ⟨d - 1, by omega⟩
  refine r_const (i := 0) (u := 0) (z := 0) rfl rfl ?_
  refine r_store (i := 1) (u := 1) (w := 0) (L1 := [some (vi a), some (vi 0)]) rfl rfl rfl rfl ?_
  exact lp216_2 hI h_a   hd _ 0 ⟨by omega, by omega⟩ (by first | exact hm_0 | exact hm_s q_0 (by unfold dg; omega)) (Int.lt_succ_toNat _)
/-- ProxyForgeModel.isType -/
theorem sp213 {G : xk} {S : yS} {d : Nat} (hI : yI S) {t : Int} (h_t : -2147483648 ≤ t ∧ t ≤ 2147483647) (hd : 0 ≤ d) : yT xPr G LY xC213 0 [some ((2, 43)), some (vi t)] [] S d (fun r S' => ∃ z : Int, r = (1, vi z) ∧ 0 ≤ z ∧ z ≤ 1 ∧ (z = 1 → 0 ≤ t ∧ t < S.f 43 1) ∧ (z = 0 → t < 0 ∨ S.f 43 1 ≤ t) ∧ S = S') := by
  refine yT_pad 0 ?_
  show yT xPr G LY xC213 0 [some ((2, 43)), some (vi t)] [] S d _
  refine r_load (i := 0) (u := 1) (w := 0) rfl rfl rfl ?_
  refine z_lt (i := 1) (v := 8) rfl ⟨by omega, by omega⟩ (fun h1 => ?_) (fun h2 => ?_)
  · refine r_const (i := 8) (u := 0) (z := 0) rfl rfl ?_
    have h3 := hI.f tf43_1
    exact r_retZ (i := 9) rfl (by omega) (by omega) ⟨0, rfl, by omega, by omega, (by omega), (by omega), rfl⟩
  · refine r_load (i := 2) (u := 1) (w := 0) rfl rfl rfl ?_
    refine r_load (i := 3) (u := 0) (w := 2) rfl rfl rfl ?_
    have h4 := hI.f tf43_1
    refine r_getf (i := 4) (v := 1) (w := 11) (x := vi (S.f 43 1)) rfl ly43 rfl rfl fun h5 => ?_
    have h5 : Rg (S.f 43 1) := h5
    refine c_ge (i := 5) (v := 8) rfl ⟨by omega, by omega⟩ ⟨by omega, by omega⟩ (fun h6 => ?_) (fun h7 => ?_)
    · refine r_const (i := 8) (u := 0) (z := 0) rfl rfl ?_
      exact r_retZ (i := 9) rfl (by omega) (by omega) ⟨0, rfl, by omega, by omega, (by omega), (by omega), rfl⟩
    · refine r_const (i := 6) (u := 1) (z := 1) rfl rfl ?_
      refine r_goto (i := 7) (v := 9) rfl ?_
      exact r_retZ (i := 9) rfl (by omega) (by omega) ⟨1, rfl, by omega, by omega, (by omega), (by omega), rfl⟩
/-- ProxyForgeModel.isKind -/
theorem sp210 {G : xk} {S : yS} {d : Nat} (hI : yI S) {k : Int} (h_k : -2147483648 ≤ k ∧ k ≤ 2147483647) (hd : 0 ≤ d) : yT xPr G LY xC210 0 [some ((2, 43)), some (vi k)] [] S d (fun r S' => ∃ z : Int, r = (1, vi z) ∧ 0 ≤ z ∧ z ≤ 1 ∧ (z = 1 → 0 < k ∧ k < 4 + S.f 43 1) ∧ (z = 0 → k ≤ 0 ∨ 4 + S.f 43 1 ≤ k) ∧ S = S') := by
  refine yT_pad 0 ?_
  show yT xPr G LY xC210 0 [some ((2, 43)), some (vi k)] [] S d _
  refine r_load (i := 0) (u := 1) (w := 0) rfl rfl rfl ?_
  refine z_le (i := 1) (v := 10) rfl ⟨by omega, by omega⟩ (fun h1 => ?_) (fun h2 => ?_)
  · refine r_const (i := 10) (u := 0) (z := 0) rfl rfl ?_
    have h3 := hI.f tf43_1
    exact r_retZ (i := 11) rfl (by omega) (by omega) ⟨0, rfl, by omega, by omega, (by omega), (by omega), rfl⟩
  · refine r_load (i := 2) (u := 1) (w := 0) rfl rfl rfl ?_
    refine r_const (i := 3) (u := 4) (z := 4) rfl rfl ?_
    refine r_load (i := 4) (u := 0) (w := 2) rfl rfl rfl ?_
    have h4 := hI.f tf43_1
    refine r_getf (i := 5) (v := 1) (w := 11) (x := vi (S.f 43 1)) rfl ly43 rfl rfl fun h5 => ?_
    have h5 : Rg (S.f 43 1) := h5
    refine r_iadd (i := 6) rfl ?_
    refine c_ge (i := 7) (v := 10) rfl ⟨by omega, by omega⟩ ⟨by omega, by omega⟩ (fun h6 => ?_) (fun h7 => ?_)
    · refine r_const (i := 10) (u := 0) (z := 0) rfl rfl ?_
      exact r_retZ (i := 11) rfl (by omega) (by omega) ⟨0, rfl, by omega, by omega, (by omega), (by omega), rfl⟩
    · refine r_const (i := 8) (u := 1) (z := 1) rfl rfl ?_
      refine r_goto (i := 9) (v := 11) rfl ?_
      exact r_retZ (i := 11) rfl (by omega) (by omega) ⟨1, rfl, by omega, by omega, (by omega), (by omega), rfl⟩
/-- ProxyForgeModel.wide -/
theorem sp263 {G : xk} {S : yS} {d : Nat} (hI : yI S) {k : Int} (h_k : -2147483648 ≤ k ∧ k ≤ 2147483647) (hd : 0 ≤ d) : yT xPr G LY xC263 0 [some (vi k)] [] S d (fun r S' => ∃ z : Int, r = (1, vi z) ∧ 0 ≤ z ∧ z ≤ 2 ∧ S = S') := by
  refine yT_pad 0 ?_
  show yT xPr G LY xC263 0 [some (vi k)] [] S d _
  refine r_load (i := 0) (u := 0) (w := 0) rfl rfl rfl ?_
  refine r_const (i := 1) (u := 2) (z := 2) rfl rfl ?_
  refine c_ne (i := 2) (v := 5) rfl ⟨by omega, by omega⟩ ⟨by omega, by omega⟩ (fun h1 => ?_) (fun h2 => ?_)
  · refine r_load (i := 5) (u := 0) (w := 0) rfl rfl rfl ?_
    refine z_ne (i := 6) (v := 9) rfl ⟨by omega, by omega⟩ (fun h3 => ?_) (fun h4 => ?_)
    · refine r_const (i := 9) (u := 1) (z := 1) rfl rfl ?_
      exact r_retI (i := 10) rfl ⟨1, rfl, by omega, by omega, rfl⟩
    · refine r_const (i := 7) (u := 0) (z := 0) rfl rfl ?_
      refine r_goto (i := 8) (v := 10) rfl ?_
      exact r_retI (i := 10) rfl ⟨0, rfl, by omega, by omega, rfl⟩
  · refine r_const (i := 3) (u := 2) (z := 2) rfl rfl ?_
    refine r_goto (i := 4) (v := 10) rfl ?_
    exact r_retI (i := 10) rfl ⟨2, rfl, by omega, by omega, rfl⟩
theorem lp262_55 {G : xk} {d : Nat} {S0 : yS} {t : Int} (h_t : -2147483648 ≤ t ∧ t ≤ 2147483647) {o : Int} (h_o : 0 ≤ o ∧ o ≤ 19) (hd : 0 ≤ d) {r0 : Int} (h_r0 : 0 ≤ r0 ∧ r0 ≤ 19) {k : Int} (h_k : 0 ≤ k ∧ k ≤ 19) (no : Nat) (K : ∀ (S : yS) (hI : yI S) (hF : yFr [] [68] S0 S) (hR : yRm [] S0 S) (k : Int) (h_k : 0 ≤ k ∧ k ≤ 20) (q_0 : I32 S S0 t r0 k) (hn : 20 - k < (no : Nat)), yT xPr G LY xC262 32 [some ((2, 43)), some (vi t), some (vi o), some ((2, 68)), some (vi r0), some (vi k), none] [] S d (fun r S' => ∃ z : Int, r = (1, vi z) ∧ 0 ≤ z ∧ z ≤ 1 ∧ (FM S0 → 0 ≤ t → t < S0.f 43 1 → o < S0.f 43 1 → (z = 1 ↔ rcM S0 t o)) ∧ yI S' ∧ yFr [] [68] S0 S' ∧ yRm [] S0 S')) (hm : 20 - k < ((no + 1 : Nat) : Int)) : ∀ (n : Nat), ∀ (S : yS) (hI : yI S) (hF : yFr [] [68] S0 S) (hR : yRm [] S0 S) (j : Int) (h_j : 0 ≤ j ∧ j ≤ 4) (q_0 : I55 S S0 t r0 k j) (q_1 : k < S.f 43 1) (hn : 4 - j < (n : Nat)), yT xPr G LY xC262 55 [some ((2, 43)), some (vi t), some (vi o), some ((2, 68)), some (vi r0), some (vi k), some (vi j)] [] S d (fun r S' => ∃ z : Int, r = (1, vi z) ∧ 0 ≤ z ∧ z ≤ 1 ∧ (FM S0 → 0 ≤ t → t < S0.f 43 1 → o < S0.f 43 1 → (z = 1 ↔ rcM S0 t o)) ∧ yI S' ∧ yFr [] [68] S0 S' ∧ yRm [] S0 S') := by
  intro n
  induction n with
  | zero => intro S hI hF hR j h_j q_0 q_1 hn; exact absurd hn (by omega)
  | succ n ih =>
    intro S hI hF hR j h_j q_0 q_1 hn
    have h1 := hI.f tf43_1
    have h2 : S.f 43 1 = S0.f 43 1 := hF.f rfl
    refine r_load (i := 55) (u := 6) (w := 0) rfl rfl rfl ?_
    refine r_load (i := 56) (u := 0) (w := 2) rfl rfl rfl ?_
    refine r_getf (i := 57) (v := 9) (w := 11) (x := (2, 51)) rfl ly43 rfl rfl fun _ => ?_
    refine r_load (i := 58) (u := 5) (w := 0) rfl rfl rfl ?_
    refine a_int (i := 59) rfl ly51 rfl (by omega) (by omega) fun h4 => ?_
    have h5 := hI.a ta51 k.toNat
    have h6 : S.a 51 k.toNat = S0.a 51 k.toNat := hF.a rfl _
    refine c_ge (i := 60) (v := 74) rfl ⟨by omega, by omega⟩ ⟨by omega, by omega⟩ (fun h7 => ?_) (fun h8 => ?_)
    · refine r_iinc (i := 74) (u := 1) (v := 5) (s := 1) (L1 := [some ((2, 43)), some (vi t), some (vi o), some ((2, 68)), some (vi r0), some (vi (k + 1)), some (vi j)]) rfl rfl rfl rfl rfl ?_
      refine r_goto (i := 75) (v := 32) rfl ?_
      refine yT_drop (L1 := [some ((2, 43)), some (vi t), some (vi o), some ((2, 68)), some (vi r0), some (vi (k + 1)), none]) rfl ?_
      exact K S hI hF hR (k + 1) ⟨by omega, by omega⟩ (by exact I32_s q_0 (by omega)) (by omega)
    · refine r_load (i := 61) (u := 3) (w := 2) rfl rfl rfl ?_
      refine r_load (i := 62) (u := 0) (w := 2) rfl rfl rfl ?_
      refine r_getf (i := 63) (v := 8) (w := 11) (x := (2, 50)) rfl ly43 rfl rfl fun _ => ?_
      refine r_const (i := 64) (u := 4) (z := 4) rfl rfl ?_
      refine r_load (i := 65) (u := 5) (w := 0) rfl rfl rfl ?_
      refine r_imul (i := 66) rfl ?_
      refine r_load (i := 67) (u := 6) (w := 0) rfl rfl rfl ?_
      refine r_iadd (i := 68) rfl ?_
      refine a_int (i := 69) rfl ly50 rfl (by omega) (by omega) fun h10 => ?_
      have h11 := hI.a ta50 ((4 * k) + j).toNat
      have h12 : S.a 50 ((4 * k) + j).toNat = S0.a 50 ((4 * k) + j).toNat := hF.a rfl _
      refine r_const (i := 70) (u := 1) (z := 1) rfl rfl ?_
      refine s_bool (i := 71) rfl ly68 rfl (by omega) (by omega) (by omega) (by omega) ?_
      have hI14 := hI.seta0 (b := 68) (j := (S.a 50 ((4 * k) + j).toNat).toNat) (z := 1) rfl rfl
      have hF16 := hF.seta (b := 68) (j := (S.a 50 ((4 * k) + j).toNat).toNat) (z := 1) rfl
      have hR17 := hR.seta (b := 68) (j := (S.a 50 ((4 * k) + j).toNat).toNat) (z := 1)
      refine yT_gen (fun S13 hS15 => ?_)
      rw [hS15] at hI14 hF16 hR17 
      refine r_iinc (i := 72) (u := 1) (v := 6) (s := 1) (L1 := [some ((2, 43)), some (vi t), some (vi o), some ((2, 68)), some (vi r0), some (vi k), some (vi (j + 1))]) rfl rfl rfl rfl rfl ?_
      refine r_goto (i := 73) (v := 55) rfl ?_
      have h18 := hI14.f tf43_1
      have h19 : S13.f 43 1 = S.f 43 1 := by rw [← hS15]; rfl
      have h20 : S.f 43 1 = S0.f 43 1 := hF.f rfl
      exact ih S13 hI14 hF16 hR17 (j + 1) ⟨by omega, by omega⟩ (by rw [← hS15]; exact I55_s q_0 (by omega) (by omega) (by omega) (by omega) (by omega)) (by omega) (by omega)
theorem lp262_32 {G : xk} {d : Nat} {S0 : yS} {t : Int} (h_t : -2147483648 ≤ t ∧ t ≤ 2147483647) {o : Int} (h_o : 0 ≤ o ∧ o ≤ 19) (hd : 0 ≤ d) {r0 : Int} (h_r0 : 0 ≤ r0 ∧ r0 ≤ 19) (no : Nat) (K : ∀ (S : yS) (hI : yI S) (hF : yFr [] [68] S0 S) (hR : yRm [] S0 S) (r0 : Int) (h_r0 : 0 ≤ r0 ∧ r0 ≤ 20) (q_0 : I26 S S0 t r0) (hn : 20 - r0 < (no : Nat)), yT xPr G LY xC262 26 [some ((2, 43)), some (vi t), some (vi o), some ((2, 68)), some (vi r0), none, none] [] S d (fun r S' => ∃ z : Int, r = (1, vi z) ∧ 0 ≤ z ∧ z ≤ 1 ∧ (FM S0 → 0 ≤ t → t < S0.f 43 1 → o < S0.f 43 1 → (z = 1 ↔ rcM S0 t o)) ∧ yI S' ∧ yFr [] [68] S0 S' ∧ yRm [] S0 S')) (hm : 20 - r0 < ((no + 1 : Nat) : Int)) : ∀ (n : Nat), ∀ (S : yS) (hI : yI S) (hF : yFr [] [68] S0 S) (hR : yRm [] S0 S) (k : Int) (h_k : 0 ≤ k ∧ k ≤ 20) (q_0 : I32 S S0 t r0 k) (hn : 20 - k < (n : Nat)), yT xPr G LY xC262 32 [some ((2, 43)), some (vi t), some (vi o), some ((2, 68)), some (vi r0), some (vi k), none] [] S d (fun r S' => ∃ z : Int, r = (1, vi z) ∧ 0 ≤ z ∧ z ≤ 1 ∧ (FM S0 → 0 ≤ t → t < S0.f 43 1 → o < S0.f 43 1 → (z = 1 ↔ rcM S0 t o)) ∧ yI S' ∧ yFr [] [68] S0 S' ∧ yRm [] S0 S') := by
  intro n
  induction n with
  | zero => intro S hI hF hR k h_k q_0 hn; exact absurd hn (by omega)
  | succ n ih =>
    intro S hI hF hR k h_k q_0 hn
    refine r_load (i := 32) (u := 5) (w := 0) rfl rfl rfl ?_
    refine r_load (i := 33) (u := 0) (w := 2) rfl rfl rfl ?_
    have h1 := hI.f tf43_1
    have h2 : S.f 43 1 = S0.f 43 1 := hF.f rfl
    refine r_getf (i := 34) (v := 1) (w := 11) (x := vi (S.f 43 1)) rfl ly43 rfl rfl fun h3 => ?_
    have h3 : Rg (S.f 43 1) := h3
    refine c_ge (i := 35) (v := 76) rfl ⟨by omega, by omega⟩ ⟨by omega, by omega⟩ (fun h4 => ?_) (fun h5 => ?_)
    · refine r_iinc (i := 76) (u := 1) (v := 4) (s := 1) (L1 := [some ((2, 43)), some (vi t), some (vi o), some ((2, 68)), some (vi (r0 + 1)), some (vi k), none]) rfl rfl rfl rfl rfl ?_
      refine r_goto (i := 77) (v := 26) rfl ?_
      refine yT_drop (L1 := [some ((2, 43)), some (vi t), some (vi o), some ((2, 68)), some (vi (r0 + 1)), none, none]) rfl ?_
      exact K S hI hF hR (r0 + 1) ⟨by omega, by omega⟩ (by exact I26_s q_0 (by omega)) (by omega)
    · refine r_load (i := 36) (u := 3) (w := 2) rfl rfl rfl ?_
      refine r_load (i := 37) (u := 5) (w := 0) rfl rfl rfl ?_
      refine a_bool (i := 38) rfl ly68 rfl (by omega) (by omega) fun h6 => ?_
      refine z_ne (i := 39) (v := 41) rfl ⟨by omega, by omega⟩ (fun h7 => ?_) (fun h8 => ?_)
      · refine r_load (i := 41) (u := 0) (w := 2) rfl rfl rfl ?_
        refine r_getf (i := 42) (v := 7) (w := 11) (x := (2, 49)) rfl ly43 rfl rfl fun _ => ?_
        refine r_load (i := 43) (u := 5) (w := 0) rfl rfl rfl ?_
        refine a_int (i := 44) rfl ly49 rfl (by omega) (by omega) fun h10 => ?_
        have h11 := hI.a ta49 k.toNat
        have h12 := hI.m3 k.toNat
        have h13 : S.a 49 k.toNat = S0.a 49 k.toNat := hF.a rfl _
        refine z_lt (i := 45) (v := 53) rfl ⟨by omega, by omega⟩ (fun h14 => ?_) (fun h15 => ?_)
        · refine r_const (i := 53) (u := 0) (z := 0) rfl rfl ?_
          refine r_store (i := 54) (u := 6) (w := 0) (L1 := [some ((2, 43)), some (vi t), some (vi o), some ((2, 68)), some (vi r0), some (vi k), some (vi 0)]) rfl rfl rfl rfl ?_
          exact lp262_55 h_t h_o  hd (r0 := r0) (k := k) ⟨by omega, by omega⟩ ⟨by omega, by omega⟩ n ih (by omega) _ S hI hF hR 0 ⟨by omega, by omega⟩ (by exact I55_0 q_0 (by omega) (by omega)) (by omega) (Int.lt_succ_toNat _)
        · refine r_load (i := 46) (u := 3) (w := 2) rfl rfl rfl ?_
          refine r_load (i := 47) (u := 0) (w := 2) rfl rfl rfl ?_
          refine r_getf (i := 48) (v := 7) (w := 11) (x := (2, 49)) rfl ly43 rfl rfl fun _ => ?_
          refine r_load (i := 49) (u := 5) (w := 0) rfl rfl rfl ?_
          refine a_int (i := 50) rfl ly49 rfl (by omega) (by omega) fun h17 => ?_
          have h18 := hI.a ta49 k.toNat
          have h19 := hI.m3 k.toNat
          refine r_const (i := 51) (u := 1) (z := 1) rfl rfl ?_
          refine s_bool (i := 52) rfl ly68 rfl (by omega) (by omega) (by omega) (by omega) ?_
          have hI21 := hI.seta0 (b := 68) (j := (S.a 49 k.toNat).toNat) (z := 1) rfl rfl
          have hF23 := hF.seta (b := 68) (j := (S.a 49 k.toNat).toNat) (z := 1) rfl
          have hR24 := hR.seta (b := 68) (j := (S.a 49 k.toNat).toNat) (z := 1)
          refine yT_gen (fun S20 hS22 => ?_)
          rw [hS22] at hI21 hF23 hR24 
          refine r_const (i := 53) (u := 0) (z := 0) rfl rfl ?_
          refine r_store (i := 54) (u := 6) (w := 0) (L1 := [some ((2, 43)), some (vi t), some (vi o), some ((2, 68)), some (vi r0), some (vi k), some (vi 0)]) rfl rfl rfl rfl ?_
          have h25 := hI21.f tf43_1
          have h26 : S20.f 43 1 = S.f 43 1 := by rw [← hS22]; rfl
          have h27 : S.f 43 1 = S0.f 43 1 := hF.f rfl
          exact lp262_55 h_t h_o  hd (r0 := r0) (k := k) ⟨by omega, by omega⟩ ⟨by omega, by omega⟩ n ih (by omega) _ S20 hI21 hF23 hR24 0 ⟨by omega, by omega⟩ (by rw [← hS22]; exact I55_p q_0 (by omega) (by omega) (by omega) (by omega) (by omega)) (by omega) (Int.lt_succ_toNat _)
      · refine r_goto (i := 40) (v := 74) rfl ?_
        refine r_iinc (i := 74) (u := 1) (v := 5) (s := 1) (L1 := [some ((2, 43)), some (vi t), some (vi o), some ((2, 68)), some (vi r0), some (vi (k + 1)), none]) rfl rfl rfl rfl rfl ?_
        refine r_goto (i := 75) (v := 32) rfl ?_
        exact ih S hI hF hR (k + 1) ⟨by omega, by omega⟩ (by exact I32_n q_0 (by omega)) (by omega)
theorem lp262_26 {G : xk} {d : Nat} {S0 : yS} {t : Int} (h_t : -2147483648 ≤ t ∧ t ≤ 2147483647) {o : Int} (h_o : 0 ≤ o ∧ o ≤ 19) (hd : 0 ≤ d) : ∀ (n : Nat), ∀ (S : yS) (hI : yI S) (hF : yFr [] [68] S0 S) (hR : yRm [] S0 S) (r0 : Int) (h_r0 : 0 ≤ r0 ∧ r0 ≤ 20) (q_0 : I26 S S0 t r0) (hn : 20 - r0 < (n : Nat)), yT xPr G LY xC262 26 [some ((2, 43)), some (vi t), some (vi o), some ((2, 68)), some (vi r0), none, none] [] S d (fun r S' => ∃ z : Int, r = (1, vi z) ∧ 0 ≤ z ∧ z ≤ 1 ∧ (FM S0 → 0 ≤ t → t < S0.f 43 1 → o < S0.f 43 1 → (z = 1 ↔ rcM S0 t o)) ∧ yI S' ∧ yFr [] [68] S0 S' ∧ yRm [] S0 S') := by
  intro n
  induction n with
  | zero => intro S hI hF hR r0 h_r0 q_0 hn; exact absurd hn (by omega)
  | succ n ih =>
    intro S hI hF hR r0 h_r0 q_0 hn
    refine r_load (i := 26) (u := 4) (w := 0) rfl rfl rfl ?_
    refine r_load (i := 27) (u := 0) (w := 2) rfl rfl rfl ?_
    have h1 := hI.f tf43_1
    have h2 : S.f 43 1 = S0.f 43 1 := hF.f rfl
    refine r_getf (i := 28) (v := 1) (w := 11) (x := vi (S.f 43 1)) rfl ly43 rfl rfl fun h3 => ?_
    have h3 : Rg (S.f 43 1) := h3
    refine c_ge (i := 29) (v := 78) rfl ⟨by omega, by omega⟩ ⟨by omega, by omega⟩ (fun h4 => ?_) (fun h5 => ?_)
    · refine r_load (i := 78) (u := 3) (w := 2) rfl rfl rfl ?_
      refine r_load (i := 79) (u := 2) (w := 0) rfl rfl rfl ?_
      refine a_bool (i := 80) rfl ly68 rfl (by omega) (by omega) fun h6 => ?_
      exact r_retZ (i := 81) rfl (by omega) (by omega) ⟨S.a 68 o.toNat, rfl, by omega, by omega, (by exact fun hf9 t0 t1 o1 => ⟨fun h9 => (I26_end q_0 (by omega) hf9 t0 t1 (by omega) o1).mp (by omega), fun h9 => by have w9 := (I26_end q_0 (by omega) hf9 t0 t1 (by omega) o1).mpr h9; omega⟩), hI, hF, hR⟩
    · refine r_const (i := 30) (u := 0) (z := 0) rfl rfl ?_
      refine r_store (i := 31) (u := 5) (w := 0) (L1 := [some ((2, 43)), some (vi t), some (vi o), some ((2, 68)), some (vi r0), some (vi 0), none]) rfl rfl rfl rfl ?_
      exact lp262_32 h_t h_o  hd (r0 := r0) ⟨by omega, by omega⟩ n ih (by omega) _ S hI hF hR 0 ⟨by omega, by omega⟩ (by exact I32_0 q_0) (Int.lt_succ_toNat _)
theorem lp262_5 {G : xk} {d : Nat} {S0 : yS} {t : Int} (h_t : -2147483648 ≤ t ∧ t ≤ 2147483647) {o : Int} (h_o : 0 ≤ o ∧ o ≤ 19) (hd : 0 ≤ d) : ∀ (n : Nat), ∀ (S : yS) (hI : yI S) (hF : yFr [] [68] S0 S) (hR : yRm [] S0 S) (k : Int) (h_k : 0 ≤ k ∧ k ≤ 20) (q_0 : uIn S k t) (hn : 20 - k < (n : Nat)), yT xPr G LY xC262 5 [some ((2, 43)), some (vi t), some (vi o), some ((2, 68)), some (vi k), none, none] [] S d (fun r S' => ∃ z : Int, r = (1, vi z) ∧ 0 ≤ z ∧ z ≤ 1 ∧ (FM S0 → 0 ≤ t → t < S0.f 43 1 → o < S0.f 43 1 → (z = 1 ↔ rcM S0 t o)) ∧ yI S' ∧ yFr [] [68] S0 S' ∧ yRm [] S0 S') := by
  intro n
  induction n with
  | zero => intro S hI hF hR k h_k q_0 hn; exact absurd hn (by omega)
  | succ n ih =>
    intro S hI hF hR k h_k q_0 hn
    refine r_load (i := 5) (u := 4) (w := 0) rfl rfl rfl ?_
    refine r_load (i := 6) (u := 0) (w := 2) rfl rfl rfl ?_
    have h1 := hI.f tf43_1
    have h2 : S.f 43 1 = S0.f 43 1 := hF.f rfl
    refine r_getf (i := 7) (v := 1) (w := 11) (x := vi (S.f 43 1)) rfl ly43 rfl rfl fun h3 => ?_
    have h3 : Rg (S.f 43 1) := h3
    refine c_ge (i := 8) (v := 20) rfl ⟨by omega, by omega⟩ ⟨by omega, by omega⟩ (fun h4 => ?_) (fun h5 => ?_)
    · refine r_load (i := 20) (u := 3) (w := 2) rfl rfl rfl ?_
      refine r_const (i := 21) (u := 0) (z := 0) rfl rfl ?_
      refine r_const (i := 22) (u := 1) (z := 1) rfl rfl ?_
      refine s_bool (i := 23) rfl ly68 rfl (by omega) (by omega) (by omega) (by omega) ?_
      have hI7 := hI.seta0 (b := 68) (j := (0 : Int).toNat) (z := 1) rfl rfl
      have hF9 := hF.seta (b := 68) (j := (0 : Int).toNat) (z := 1) rfl
      have hR10 := hR.seta (b := 68) (j := (0 : Int).toNat) (z := 1)
      refine yT_gen (fun S6 hS8 => ?_)
      rw [hS8] at hI7 hF9 hR10 
      refine r_const (i := 24) (u := 0) (z := 0) rfl rfl ?_
      refine r_store (i := 25) (u := 4) (w := 0) (L1 := [some ((2, 43)), some (vi t), some (vi o), some ((2, 68)), some (vi 0), none, none]) rfl rfl rfl rfl ?_
      exact lp262_26 h_t h_o  hd _ S6 hI7 hF9 hR10 0 ⟨by omega, by omega⟩ (by rw [← hS8]; exact I26_0 q_0 (by omega)) (Int.lt_succ_toNat _)
    · refine r_load (i := 9) (u := 3) (w := 2) rfl rfl rfl ?_
      refine r_load (i := 10) (u := 4) (w := 0) rfl rfl rfl ?_
      refine r_load (i := 11) (u := 4) (w := 0) rfl rfl rfl ?_
      refine r_load (i := 12) (u := 1) (w := 0) rfl rfl rfl ?_
      refine c_ne (i := 13) (v := 16) rfl ⟨by omega, by omega⟩ ⟨by omega, by omega⟩ (fun h11 => ?_) (fun h12 => ?_)
      · refine r_const (i := 16) (u := 0) (z := 0) rfl rfl ?_
        refine s_bool (i := 17) rfl ly68 rfl (by omega) (by omega) (by omega) (by omega) ?_
        have hI14 := hI.seta0 (b := 68) (j := k.toNat) (z := 0) rfl rfl
        have hF16 := hF.seta (b := 68) (j := k.toNat) (z := 0) rfl
        have hR17 := hR.seta (b := 68) (j := k.toNat) (z := 0)
        refine yT_gen (fun S13 hS15 => ?_)
        rw [hS15] at hI14 hF16 hR17 
        refine r_iinc (i := 18) (u := 1) (v := 4) (s := 1) (L1 := [some ((2, 43)), some (vi t), some (vi o), some ((2, 68)), some (vi (k + 1)), none, none]) rfl rfl rfl rfl rfl ?_
        refine r_goto (i := 19) (v := 5) rfl ?_
        exact ih S13 hI14 hF16 hR17 (k + 1) ⟨by omega, by omega⟩ (by rw [← hS15]; exact uIn_s q_0 (by omega) (by omega)) (by omega)
      · refine r_const (i := 14) (u := 1) (z := 1) rfl rfl ?_
        refine r_goto (i := 15) (v := 17) rfl ?_
        refine s_bool (i := 17) rfl ly68 rfl (by omega) (by omega) (by omega) (by omega) ?_
        have hI19 := hI.seta0 (b := 68) (j := k.toNat) (z := 1) rfl rfl
        have hF21 := hF.seta (b := 68) (j := k.toNat) (z := 1) rfl
        have hR22 := hR.seta (b := 68) (j := k.toNat) (z := 1)
        refine yT_gen (fun S18 hS20 => ?_)
        rw [hS20] at hI19 hF21 hR22 
        refine r_iinc (i := 18) (u := 1) (v := 4) (s := 1) (L1 := [some ((2, 43)), some (vi t), some (vi o), some ((2, 68)), some (vi (k + 1)), none, none]) rfl rfl rfl rfl rfl ?_
        refine r_goto (i := 19) (v := 5) rfl ?_
        exact ih S18 hI19 hF21 hR22 (k + 1) ⟨by omega, by omega⟩ (by rw [← hS20]; exact uIn_s q_0 (by omega) (by omega)) (by omega)
/-- ProxyForgeModel.under -/
theorem sp262 {G : xk} {S : yS} {d : Nat} (hI : yI S) {t : Int} (h_t : -2147483648 ≤ t ∧ t ≤ 2147483647) {o : Int} (h_o : 0 ≤ o ∧ o ≤ 19) (hd : 0 ≤ d) : yT xPr G LY xC262 0 [some ((2, 43)), some (vi t), some (vi o)] [] S d (fun r S' => ∃ z : Int, r = (1, vi z) ∧ 0 ≤ z ∧ z ≤ 1 ∧ (FM S → 0 ≤ t → t < S.f 43 1 → o < S.f 43 1 → (z = 1 ↔ rcM S t o)) ∧ yI S' ∧ yFr [] [68] S S' ∧ yRm [] S S') := by
  refine yT_pad 4 ?_
  show yT xPr G LY xC262 0 [some ((2, 43)), some (vi t), some (vi o), none, none, none, none] [] S d _
  have hF : yFr [] [68] S S := yFr.refl S
  have hR : yRm [] S S := yRm.refl S
  refine r_load (i := 0) (u := 0) (w := 2) rfl rfl rfl ?_
  refine r_getf (i := 1) (v := 32) (w := 11) (x := (2, 68)) rfl ly43 rfl rfl fun _ => ?_
  refine r_store (i := 2) (u := 3) (w := 2) (L1 := [some ((2, 43)), some (vi t), some (vi o), some ((2, 68)), none, none, none]) rfl rfl rfl rfl ?_
  refine r_const (i := 3) (u := 0) (z := 0) rfl rfl ?_
  refine r_store (i := 4) (u := 4) (w := 0) (L1 := [some ((2, 43)), some (vi t), some (vi o), some ((2, 68)), some (vi 0), none, none]) rfl rfl rfl rfl ?_
  exact lp262_5 h_t h_o  hd _ S hI hF hR 0 ⟨by omega, by omega⟩ (by exact uIn_0) (Int.lt_succ_toNat _)
/-- ProxyForgeModel.isHidden -/
theorem sp209 {G : xk} {S : yS} {d : Nat} (hI : yI S) {f : Int} (h_f : -1 ≤ f ∧ f ≤ 19) {c : Int} (h_c : 0 ≤ c ∧ c ≤ 19) (hd : 0 ≤ d) : yT xPr G LY xC209 0 [some ((2, 43)), some (vi f), some (vi c)] [] S d (fun r S' => ∃ z : Int, r = (1, vi z) ∧ 0 ≤ z ∧ z ≤ 1 ∧ (z = 1 → hdM S f c) ∧ (z = 0 → ¬ hdM S f c) ∧ S = S') := by
  refine yT_pad 0 ?_
  show yT xPr G LY xC209 0 [some ((2, 43)), some (vi f), some (vi c)] [] S d _
  refine r_load (i := 0) (u := 1) (w := 0) rfl rfl rfl ?_
  refine z_lt (i := 1) (v := 18) rfl ⟨by omega, by omega⟩ (fun h1 => ?_) (fun h2 => ?_)
  · refine r_const (i := 18) (u := 0) (z := 0) rfl rfl ?_
    exact r_retZ (i := 19) rfl (by omega) (by omega) ⟨0, rfl, by omega, by omega, (by unfold hdM; omega), (by unfold hdM; omega), rfl⟩
  · refine r_load (i := 2) (u := 0) (w := 2) rfl rfl rfl ?_
    refine r_getf (i := 3) (v := 3) (w := 11) (x := (2, 45)) rfl ly43 rfl rfl fun _ => ?_
    refine r_load (i := 4) (u := 1) (w := 0) rfl rfl rfl ?_
    refine a_bool (i := 5) rfl ly45 rfl (by omega) (by omega) fun h4 => ?_
    refine z_ne (i := 6) (v := 18) rfl ⟨by omega, by omega⟩ (fun h5 => ?_) (fun h6 => ?_)
    · refine r_const (i := 18) (u := 0) (z := 0) rfl rfl ?_
      exact r_retZ (i := 19) rfl (by omega) (by omega) ⟨0, rfl, by omega, by omega, (by unfold hdM; omega), (by unfold hdM; omega), rfl⟩
    · refine r_load (i := 7) (u := 0) (w := 2) rfl rfl rfl ?_
      refine r_getf (i := 8) (v := 6) (w := 11) (x := (2, 48)) rfl ly43 rfl rfl fun _ => ?_
      refine r_load (i := 9) (u := 1) (w := 0) rfl rfl rfl ?_
      refine a_int (i := 10) rfl ly48 rfl (by omega) (by omega) fun h8 => ?_
      have h9 := hI.a ta48 f.toNat
      refine r_load (i := 11) (u := 0) (w := 2) rfl rfl rfl ?_
      refine r_getf (i := 12) (v := 6) (w := 11) (x := (2, 48)) rfl ly43 rfl rfl fun _ => ?_
      refine r_load (i := 13) (u := 2) (w := 0) rfl rfl rfl ?_
      refine a_int (i := 14) rfl ly48 rfl (by omega) (by omega) fun h11 => ?_
      have h12 := hI.a ta48 c.toNat
      refine c_eq (i := 15) (v := 18) rfl ⟨by omega, by omega⟩ ⟨by omega, by omega⟩ (fun h13 => ?_) (fun h14 => ?_)
      · refine r_const (i := 18) (u := 0) (z := 0) rfl rfl ?_
        exact r_retZ (i := 19) rfl (by omega) (by omega) ⟨0, rfl, by omega, by omega, (by unfold hdM; omega), (by unfold hdM; omega), rfl⟩
      · refine r_const (i := 16) (u := 1) (z := 1) rfl rfl ?_
        refine r_goto (i := 17) (v := 19) rfl ?_
        exact r_retZ (i := 19) rfl (by omega) (by omega) ⟨1, rfl, by omega, by omega, (by unfold hdM; omega), (by unfold hdM; omega), rfl⟩
/-- ProxyForgeModel.isSubtype -/
theorem sp211 {G : xk} {S : yS} {d : Nat} (hI : yI S) {t : Int} (h_t : -2147483648 ≤ t ∧ t ≤ 2147483647) {o : Int} (h_o : -2147483648 ≤ o ∧ o ≤ 2147483647) (hd : 1 ≤ d) : yT xPr G LY xC211 0 [some ((2, 43)), some (vi t), some (vi o)] [] S d (fun r S' => ∃ z : Int, r = (1, vi z) ∧ 0 ≤ z ∧ z ≤ 1 ∧ (FM S → (z = 1 ↔ (0 ≤ t ∧ t < S.f 43 1 ∧ 0 ≤ o ∧ o < S.f 43 1 ∧ rcM S t o))) ∧ yI S' ∧ yFr [(43, 0)] [68] S S' ∧ yRm [] S S') := by
  refine yT_pad 0 ?_
  show yT xPr G LY xC211 0 [some ((2, 43)), some (vi t), some (vi o)] [] S d _
  obtain ⟨d, rfl⟩ : ∃ q, d = q + 1 := ⟨d - 1, by omega⟩
  have hF : yFr [(43, 0)] [68] S S := yFr.refl S
  have hR : yRm [] S S := yRm.refl S
  refine r_load (i := 0) (u := 0) (w := 2) rfl rfl rfl ?_
  refine r_const (i := 1) (u := 0) (z := 0) rfl rfl ?_
  refine r_putI (i := 2) (v := 0) (w := 11) rfl ly43 rfl ⟨by omega, by omega⟩ ?_
  have hI2 := hI.setf (b := 43) (w := 0) (z := 0) tf43_0 rfl (by omega) (by omega)
  have hF4 := hF.setf (b := 43) (w := 0) (z := 0) rfl
  have hR5 := hR.setf (b := 43) (w := 0) (z := 0)
  refine yT_gen (fun S1 hS3 => ?_)
  rw [hS3] at hI2 hF4 hR5 
  refine r_load (i := 3) (u := 0) (w := 2) rfl rfl rfl ?_
  refine r_load (i := 4) (u := 1) (w := 0) rfl rfl rfl ?_
  have h6 := hI2.f tf43_1
  have h7 : S1.f 43 1 = S.f 43 1 := by rw [← hS3]; exact ysf_ne (by decide)
  refine r_call (i := 5) (u := 11) (v := 213) (w := 0) (b := 0) (na := 514) (C2 := xC213) (as := [(2, 43), vi t]) (s := []) rfl rfl rfl rfl rfl rfl rfl (sp213 (t := t) hI2 ⟨by omega, by omega⟩   (by omega)) (fun r8 S9 hq10 => ?_)
  obtain ⟨z11, rfl, h12, h13, h14, h15, rfl⟩ := hq10
  refine Or.inr (Or.inl ⟨rfl, ?_⟩)
  refine z_eq (i := 6) (v := 18) rfl ⟨by omega, by omega⟩ (fun h16 => ?_) (fun h17 => ?_)
  · refine r_const (i := 18) (u := 0) (z := 0) rfl rfl ?_
    exact r_retZ (i := 19) rfl (by omega) (by omega) ⟨0, rfl, by omega, by omega, (by exact fun hf9 => ⟨fun h9 => by exfalso; omega, fun h9 => by obtain ⟨a1, a2, a3, a4, -⟩ := h9; exfalso; omega⟩), hI2, hF4, hR5⟩
  · refine r_load (i := 7) (u := 0) (w := 2) rfl rfl rfl ?_
    refine r_load (i := 8) (u := 2) (w := 0) rfl rfl rfl ?_
    refine r_call (i := 9) (u := 11) (v := 213) (w := 0) (b := 0) (na := 514) (C2 := xC213) (as := [(2, 43), vi o]) (s := []) rfl rfl rfl rfl rfl rfl rfl (sp213 (t := o) hI2 ⟨by omega, by omega⟩   (by omega)) (fun r18 S19 hq20 => ?_)
    obtain ⟨z21, rfl, h22, h23, h24, h25, rfl⟩ := hq20
    refine Or.inr (Or.inl ⟨rfl, ?_⟩)
    refine z_eq (i := 10) (v := 18) rfl ⟨by omega, by omega⟩ (fun h26 => ?_) (fun h27 => ?_)
    · refine r_const (i := 18) (u := 0) (z := 0) rfl rfl ?_
      exact r_retZ (i := 19) rfl (by omega) (by omega) ⟨0, rfl, by omega, by omega, (by exact fun hf9 => ⟨fun h9 => by exfalso; omega, fun h9 => by obtain ⟨a1, a2, a3, a4, -⟩ := h9; exfalso; omega⟩), hI2, hF4, hR5⟩
    · refine r_load (i := 11) (u := 0) (w := 2) rfl rfl rfl ?_
      refine r_load (i := 12) (u := 1) (w := 0) rfl rfl rfl ?_
      refine r_load (i := 13) (u := 2) (w := 0) rfl rfl rfl ?_
      refine r_call (i := 14) (u := 11) (v := 262) (w := 0) (b := 0) (na := 1795) (C2 := xC262) (as := [(2, 43), vi t, vi o]) (s := []) rfl rfl rfl rfl rfl rfl rfl (sp262 (t := t) (o := o) hI2 ⟨by omega, by omega⟩ ⟨by omega, by omega⟩   (by omega)) (fun r28 S29 hq30 => ?_)
      obtain ⟨z31, rfl, h32, h33, um34, hI35, hF36, hR37⟩ := hq30
      have hF38 := hF4.trans hF36 rfl rfl
      have hR39 := hR5.trans hR37 rfl
      refine Or.inr (Or.inl ⟨rfl, ?_⟩)
      refine z_eq (i := 15) (v := 18) rfl ⟨by omega, by omega⟩ (fun h40 => ?_) (fun h41 => ?_)
      · refine r_const (i := 18) (u := 0) (z := 0) rfl rfl ?_
        exact r_retZ (i := 19) rfl (by omega) (by omega) ⟨0, rfl, by omega, by omega, (by intro hf9; subst hS3; have w9 := um34 hf9 (by omega) (by omega) (by omega); exact ⟨fun h9 => ⟨by omega, by omega, by omega, by omega, w9.mp (by omega)⟩, fun h9 => by have w8 := w9.mpr h9.2.2.2.2; omega⟩), hI35, hF38, hR39⟩
      · refine r_const (i := 16) (u := 1) (z := 1) rfl rfl ?_
        refine r_goto (i := 17) (v := 19) rfl ?_
        exact r_retZ (i := 19) rfl (by omega) (by omega) ⟨1, rfl, by omega, by omega, (by intro hf9; subst hS3; have w9 := um34 hf9 (by omega) (by omega) (by omega); exact ⟨fun h9 => ⟨by omega, by omega, by omega, by omega, w9.mp (by omega)⟩, fun h9 => by have w8 := w9.mpr h9.2.2.2.2; omega⟩), hI35, hF38, hR39⟩
/-- ProxyForgeModel.thrown -/
theorem sp256 {G : xk} {S : yS} {d : Nat} (hI : yI S)  (hd : 0 ≤ d) : yT xPr G LY xC256 0 [some ((2, 43))] [] S d (fun r S' => ∃ z : Int, r = (1, vi z) ∧ 0 ≤ z ∧ z ≤ 2 ∧ z = S.f 43 0 ∧ S = S') := by
  refine yT_pad 0 ?_
  show yT xPr G LY xC256 0 [some ((2, 43))] [] S d _
  refine r_load (i := 0) (u := 0) (w := 2) rfl rfl rfl ?_
  have h1 := hI.f tf43_0
  refine r_getf (i := 1) (v := 0) (w := 11) (x := vi (S.f 43 0)) rfl ly43 rfl rfl fun h2 => ?_
  have h2 : Rg (S.f 43 0) := h2
  exact r_retI (i := 2) rfl ⟨S.f 43 0, rfl, by omega, by omega, (by omega), rfl⟩
/-- ProxyForgeModel.policy -/
theorem sp232 {G : xk} {S : yS} {d : Nat} (hI : yI S) {w0 : Int} (h_w0 : -2147483648 ≤ w0 ∧ w0 ≤ 2147483647) {k : Int} (h_k : -2147483648 ≤ k ∧ k ≤ 2147483647) (hd : 0 ≤ d) : yT xPr G LY xC232 0 [some ((2, 43)), some (vi w0), some (vi k)] [] S d (fun r S' => ∃ z : Int, r = (1, vi z) ∧ 0 ≤ z ∧ z ≤ 1 ∧ (z = 1 ∧ 0 ≤ w0 ∧ w0 ≤ 9 ∧ 0 ≤ k ∧ k ≤ 3 ∨ z = 0 ∧ (w0 < 0 ∨ 9 < w0 ∨ k < 0 ∨ 3 < k)) ∧ plQ 59 S S' w0 k z ∧ yI S' ∧ yFr [(43, 0)] [59] S S' ∧ yRm [] S S') := by
  refine yT_pad 0 ?_
  show yT xPr G LY xC232 0 [some ((2, 43)), some (vi w0), some (vi k)] [] S d _
  have hF : yFr [(43, 0)] [59] S S := yFr.refl S
  have hR : yRm [] S S := yRm.refl S
  refine r_load (i := 0) (u := 0) (w := 2) rfl rfl rfl ?_
  refine r_const (i := 1) (u := 0) (z := 0) rfl rfl ?_
  refine r_putI (i := 2) (v := 0) (w := 11) rfl ly43 rfl ⟨by omega, by omega⟩ ?_
  have hI2 := hI.setf (b := 43) (w := 0) (z := 0) tf43_0 rfl (by omega) (by omega)
  have hF4 := hF.setf (b := 43) (w := 0) (z := 0) rfl
  have hR5 := hR.setf (b := 43) (w := 0) (z := 0)
  refine yT_gen (fun S1 hS3 => ?_)
  rw [hS3] at hI2 hF4 hR5 
  refine r_load (i := 3) (u := 1) (w := 0) rfl rfl rfl ?_
  refine z_lt (i := 4) (v := 13) rfl ⟨by omega, by omega⟩ (fun h6 => ?_) (fun h7 => ?_)
  · refine r_const (i := 13) (u := 0) (z := 0) rfl rfl ?_
    exact r_retZ (i := 14) rfl (by omega) (by omega) ⟨0, rfl, by omega, by omega, (by omega), (by exact ⟨fun h9 => by first | exact absurd h9 (by omega) | exact fun j => by subst hS3; rfl, fun h9 => by first | exact absurd h9 (by omega) | exact fun j => by subst hS3; rfl⟩), hI2, hF4, hR5⟩
  · refine r_load (i := 5) (u := 1) (w := 0) rfl rfl rfl ?_
    refine r_const (i := 6) (u := 9) (z := 9) rfl rfl ?_
    refine c_gt (i := 7) (v := 13) rfl ⟨by omega, by omega⟩ ⟨by omega, by omega⟩ (fun h8 => ?_) (fun h9 => ?_)
    · refine r_const (i := 13) (u := 0) (z := 0) rfl rfl ?_
      exact r_retZ (i := 14) rfl (by omega) (by omega) ⟨0, rfl, by omega, by omega, (by omega), (by exact ⟨fun h9 => by first | exact absurd h9 (by omega) | exact fun j => by subst hS3; rfl, fun h9 => by first | exact absurd h9 (by omega) | exact fun j => by subst hS3; rfl⟩), hI2, hF4, hR5⟩
    · refine r_load (i := 8) (u := 2) (w := 0) rfl rfl rfl ?_
      refine z_lt (i := 9) (v := 13) rfl ⟨by omega, by omega⟩ (fun h10 => ?_) (fun h11 => ?_)
      · refine r_const (i := 13) (u := 0) (z := 0) rfl rfl ?_
        exact r_retZ (i := 14) rfl (by omega) (by omega) ⟨0, rfl, by omega, by omega, (by omega), (by exact ⟨fun h9 => by first | exact absurd h9 (by omega) | exact fun j => by subst hS3; rfl, fun h9 => by first | exact absurd h9 (by omega) | exact fun j => by subst hS3; rfl⟩), hI2, hF4, hR5⟩
      · refine r_load (i := 10) (u := 2) (w := 0) rfl rfl rfl ?_
        refine r_const (i := 11) (u := 3) (z := 3) rfl rfl ?_
        refine c_le (i := 12) (v := 15) rfl ⟨by omega, by omega⟩ ⟨by omega, by omega⟩ (fun h12 => ?_) (fun h13 => ?_)
        · refine r_load (i := 15) (u := 0) (w := 2) rfl rfl rfl ?_
          refine r_getf (i := 16) (v := 18) (w := 11) (x := (2, 59)) rfl ly43 rfl rfl fun _ => ?_
          refine r_load (i := 17) (u := 1) (w := 0) rfl rfl rfl ?_
          refine r_load (i := 18) (u := 2) (w := 0) rfl rfl rfl ?_
          refine s_int (i := 19) rfl ly59 rfl (by omega) (by omega) ⟨by omega, by omega⟩ ?_
          have hI16 := hI2.seta (b := 59) (j := w0.toNat) (z := k) ta59 rfl (by omega) (by omega)
          have hF18 := hF4.seta (b := 59) (j := w0.toNat) (z := k) rfl
          have hR19 := hR5.seta (b := 59) (j := w0.toNat) (z := k)
          refine yT_gen (fun S15 hS17 => ?_)
          rw [hS17] at hI16 hF18 hR19 
          refine r_const (i := 20) (u := 1) (z := 1) rfl rfl ?_
          exact r_retZ (i := 21) rfl (by omega) (by omega) ⟨1, rfl, by omega, by omega, (by omega), (by exact ⟨fun h9 => by first | exact absurd h9 (by omega) | exact fun j => by subst hS3 hS17; rfl, fun h9 => by first | exact absurd h9 (by omega) | exact fun j => by subst hS3 hS17; rfl⟩), hI16, hF18, hR19⟩
        · refine r_const (i := 13) (u := 0) (z := 0) rfl rfl ?_
          exact r_retZ (i := 14) rfl (by omega) (by omega) ⟨0, rfl, by omega, by omega, (by omega), (by exact ⟨fun h9 => by first | exact absurd h9 (by omega) | exact fun j => by subst hS3; rfl, fun h9 => by first | exact absurd h9 (by omega) | exact fun j => by subst hS3; rfl⟩), hI2, hF4, hR5⟩
theorem lp259_64 {G : xk} {d : Nat} {S0 : yS} {b : Int} (h_b : 0 ≤ b ∧ b ≤ 1) {bits : Int} (h_bits : -2147483648 ≤ bits ∧ bits ≤ 2147483647) {p : Int} (h_p : -2147483648 ≤ p ∧ p ≤ 2147483647) {up : Int} (h_up : -2147483648 ≤ up ∧ up ≤ 2147483647) (hd : 0 ≤ d) : ∀ (S : yS) (hI : yI S) (hF : yFr [(43, 0), (43, 1)] [44, 45, 46, 47, 48, 49] S0 S) (hR : yRm [] S0 S) (g0 c0 : Int) (h_g0 : 0 ≤ g0 ∧ g0 ≤ 1) (h_c0 : 0 ≤ c0 ∧ c0 ≤ 2) (q_0 : c0 = 0 → (0 ≤ bits ∧ bits < 8 ∧ yand bits 6 ≠ 6 ∧ (b ≠ 0 → yand bits 6 = 0) ∧ 0 ≤ p ∧ p < 4 ∧ 0 ≤ up ∧ up < S.f 43 1 ∧ (b ≠ 0 → up = 0) ∧ (b = 0 → S.a 44 up.toNat = 0 ∧ S.a 46 up.toNat = 0)) ∧ S.f 43 1 < 20) (q_1 : c0 = 1 → ¬ (0 ≤ bits ∧ bits < 8 ∧ yand bits 6 ≠ 6 ∧ (b ≠ 0 → yand bits 6 = 0) ∧ 0 ≤ p ∧ p < 4 ∧ 0 ≤ up ∧ up < S.f 43 1 ∧ (b ≠ 0 → up = 0) ∧ (b = 0 → S.a 44 up.toNat = 0 ∧ S.a 46 up.toNat = 0))) (q_2 : c0 = 2 → (0 ≤ bits ∧ bits < 8 ∧ yand bits 6 ≠ 6 ∧ (b ≠ 0 → yand bits 6 = 0) ∧ 0 ≤ p ∧ p < 4 ∧ 0 ≤ up ∧ up < S.f 43 1 ∧ (b ≠ 0 → up = 0) ∧ (b = 0 → S.a 44 up.toNat = 0 ∧ S.a 46 up.toNat = 0)) ∧ S.f 43 1 = 20) (q_3 : S = S0), yT xPr G LY xC259 64 [some ((2, 43)), some (vi b), some (vi bits), some (vi p), some (vi up), some (vi g0)] [vi c0, (2, 43)] S d (fun r S' => ∃ z : Int, r = (1, vi z) ∧ 0 ≤ z ∧ z ≤ 20 ∧ mTyQ S0 S' b bits p up z ∧ yI S' ∧ yFr [(43, 0), (43, 1)] [44, 45, 46, 47, 48, 49] S0 S' ∧ yRm [] S0 S') := by
  intro S hI hF hR g0 c0 h_g0 h_c0 q_0 q_1 q_2 q_3
  have h1 := hI.f tf43_1
  refine r_putI (i := 64) (v := 0) (w := 11) rfl ly43 rfl ⟨by omega, by omega⟩ ?_
  have hI3 := hI.setf (b := 43) (w := 0) (z := c0) tf43_0 rfl (by omega) (by omega)
  have hF5 := hF.setf (b := 43) (w := 0) (z := c0) rfl
  have hR6 := hR.setf (b := 43) (w := 0) (z := c0)
  refine yT_gen (fun S2 hS4 => ?_)
  rw [hS4] at hI3 hF5 hR6 
  refine r_load (i := 65) (u := 0) (w := 2) rfl rfl rfl ?_
  have h7 := hI3.f tf43_0
  have h8 : S2.f 43 0 = c0 := by rw [← hS4]; exact ysf_eq
  refine r_getf (i := 66) (v := 0) (w := 11) (x := vi (S2.f 43 0)) rfl ly43 rfl rfl fun h9 => ?_
  have h9 : Rg (S2.f 43 0) := h9
  refine z_le (i := 67) (v := 70) rfl ⟨by omega, by omega⟩ (fun h10 => ?_) (fun h11 => ?_)
  · refine r_load (i := 70) (u := 0) (w := 2) rfl rfl rfl ?_
    refine r_getf (i := 71) (v := 2) (w := 11) (x := (2, 44)) rfl ly43 rfl rfl fun _ => ?_
    refine r_load (i := 72) (u := 0) (w := 2) rfl rfl rfl ?_
    have h13 := hI3.f tf43_1
    have h14 : S2.f 43 1 = S.f 43 1 := by rw [← hS4]; exact ysf_ne (by decide)
    refine r_getf (i := 73) (v := 1) (w := 11) (x := vi (S2.f 43 1)) rfl ly43 rfl rfl fun h15 => ?_
    have h15 : Rg (S2.f 43 1) := h15
    refine r_load (i := 74) (u := 1) (w := 0) rfl rfl rfl ?_
    refine s_bool (i := 75) rfl ly44 rfl (by omega) (by omega) (by omega) (by omega) ?_
    have hI17 := hI3.seta0 (b := 44) (j := (S2.f 43 1).toNat) (z := b) rfl rfl
    have hF19 := hF5.seta (b := 44) (j := (S2.f 43 1).toNat) (z := b) rfl
    have hR20 := hR6.seta (b := 44) (j := (S2.f 43 1).toNat) (z := b)
    refine yT_gen (fun S16 hS18 => ?_)
    rw [hS18] at hI17 hF19 hR20 
    refine r_load (i := 76) (u := 0) (w := 2) rfl rfl rfl ?_
    refine r_getf (i := 77) (v := 3) (w := 11) (x := (2, 45)) rfl ly43 rfl rfl fun _ => ?_
    refine r_load (i := 78) (u := 0) (w := 2) rfl rfl rfl ?_
    have h22 := hI17.f tf43_1
    have h23 : S16.f 43 1 = S2.f 43 1 := by rw [← hS18]; rfl
    have h24 : S2.f 43 1 = S.f 43 1 := by rw [← hS4]; exact ysf_ne (by decide)
    refine r_getf (i := 79) (v := 1) (w := 11) (x := vi (S16.f 43 1)) rfl ly43 rfl rfl fun h25 => ?_
    have h25 : Rg (S16.f 43 1) := h25
    refine r_load (i := 80) (u := 2) (w := 0) rfl rfl rfl ?_
    refine r_const (i := 81) (u := 1) (z := 1) rfl rfl ?_
    refine r_iand (i := 82) rfl ?_
    have h26 := @yand_c bits 1 (by decide) (by decide)
    have h27 := yand_p1 bits
    refine r_const (i := 83) (u := 1) (z := 1) rfl rfl ?_
    refine c_ne (i := 84) (v := 87) rfl ⟨by omega, by omega⟩ ⟨by omega, by omega⟩ (fun h28 => ?_) (fun h29 => ?_)
    · refine r_const (i := 87) (u := 0) (z := 0) rfl rfl ?_
      refine s_bool (i := 88) rfl ly45 rfl (by omega) (by omega) (by omega) (by omega) ?_
      have hI31 := hI17.seta0 (b := 45) (j := (S16.f 43 1).toNat) (z := 0) rfl rfl
      have hF33 := hF19.seta (b := 45) (j := (S16.f 43 1).toNat) (z := 0) rfl
      have hR34 := hR20.seta (b := 45) (j := (S16.f 43 1).toNat) (z := 0)
      refine yT_gen (fun S30 hS32 => ?_)
      rw [hS32] at hI31 hF33 hR34 
      refine r_load (i := 89) (u := 0) (w := 2) rfl rfl rfl ?_
      refine r_getf (i := 90) (v := 4) (w := 11) (x := (2, 46)) rfl ly43 rfl rfl fun _ => ?_
      refine r_load (i := 91) (u := 0) (w := 2) rfl rfl rfl ?_
      have h36 := hI31.f tf43_1
      have h37 : S30.f 43 1 = S16.f 43 1 := by rw [← hS32]; rfl
      have h38 : S16.f 43 1 = S2.f 43 1 := by rw [← hS18]; rfl
      have h39 : S2.f 43 1 = S.f 43 1 := by rw [← hS4]; exact ysf_ne (by decide)
      refine r_getf (i := 92) (v := 1) (w := 11) (x := vi (S30.f 43 1)) rfl ly43 rfl rfl fun h40 => ?_
      have h40 : Rg (S30.f 43 1) := h40
      refine r_load (i := 93) (u := 2) (w := 0) rfl rfl rfl ?_
      refine r_const (i := 94) (u := 2) (z := 2) rfl rfl ?_
      refine r_iand (i := 95) rfl ?_
      have h41 := @yand_c bits 2 (by decide) (by decide)
      have h42 := yand_p2 bits
      refine r_const (i := 96) (u := 2) (z := 2) rfl rfl ?_
      refine c_ne (i := 97) (v := 100) rfl ⟨by omega, by omega⟩ ⟨by omega, by omega⟩ (fun h43 => ?_) (fun h44 => ?_)
      · refine r_const (i := 100) (u := 0) (z := 0) rfl rfl ?_
        refine s_bool (i := 101) rfl ly46 rfl (by omega) (by omega) (by omega) (by omega) ?_
        have hI46 := hI31.seta0 (b := 46) (j := (S30.f 43 1).toNat) (z := 0) rfl rfl
        have hF48 := hF33.seta (b := 46) (j := (S30.f 43 1).toNat) (z := 0) rfl
        have hR49 := hR34.seta (b := 46) (j := (S30.f 43 1).toNat) (z := 0)
        refine yT_gen (fun S45 hS47 => ?_)
        rw [hS47] at hI46 hF48 hR49 
        refine r_load (i := 102) (u := 0) (w := 2) rfl rfl rfl ?_
        refine r_getf (i := 103) (v := 5) (w := 11) (x := (2, 47)) rfl ly43 rfl rfl fun _ => ?_
        refine r_load (i := 104) (u := 0) (w := 2) rfl rfl rfl ?_
        have h51 := hI46.f tf43_1
        have h52 : S45.f 43 1 = S30.f 43 1 := by rw [← hS47]; rfl
        have h53 : S30.f 43 1 = S16.f 43 1 := by rw [← hS32]; rfl
        have h54 : S16.f 43 1 = S2.f 43 1 := by rw [← hS18]; rfl
        have h55 : S2.f 43 1 = S.f 43 1 := by rw [← hS4]; exact ysf_ne (by decide)
        refine r_getf (i := 105) (v := 1) (w := 11) (x := vi (S45.f 43 1)) rfl ly43 rfl rfl fun h56 => ?_
        have h56 : Rg (S45.f 43 1) := h56
        refine r_load (i := 106) (u := 2) (w := 0) rfl rfl rfl ?_
        refine r_const (i := 107) (u := 4) (z := 4) rfl rfl ?_
        refine r_iand (i := 108) rfl ?_
        have h57 := @yand_c bits 4 (by decide) (by decide)
        have h58 := yand_p4 bits
        refine r_const (i := 109) (u := 4) (z := 4) rfl rfl ?_
        refine c_ne (i := 110) (v := 113) rfl ⟨by omega, by omega⟩ ⟨by omega, by omega⟩ (fun h59 => ?_) (fun h60 => ?_)
        · refine r_const (i := 113) (u := 0) (z := 0) rfl rfl ?_
          refine s_bool (i := 114) rfl ly47 rfl (by omega) (by omega) (by omega) (by omega) ?_
          have hI62 := hI46.seta0 (b := 47) (j := (S45.f 43 1).toNat) (z := 0) rfl rfl
          have hF64 := hF48.seta (b := 47) (j := (S45.f 43 1).toNat) (z := 0) rfl
          have hR65 := hR49.seta (b := 47) (j := (S45.f 43 1).toNat) (z := 0)
          refine yT_gen (fun S61 hS63 => ?_)
          rw [hS63] at hI62 hF64 hR65 
          refine r_load (i := 115) (u := 0) (w := 2) rfl rfl rfl ?_
          refine r_getf (i := 116) (v := 6) (w := 11) (x := (2, 48)) rfl ly43 rfl rfl fun _ => ?_
          refine r_load (i := 117) (u := 0) (w := 2) rfl rfl rfl ?_
          have h67 := hI62.f tf43_1
          have h68 : S61.f 43 1 = S45.f 43 1 := by rw [← hS63]; rfl
          have h69 : S45.f 43 1 = S30.f 43 1 := by rw [← hS47]; rfl
          have h70 : S30.f 43 1 = S16.f 43 1 := by rw [← hS32]; rfl
          have h71 : S16.f 43 1 = S2.f 43 1 := by rw [← hS18]; rfl
          have h72 : S2.f 43 1 = S.f 43 1 := by rw [← hS4]; exact ysf_ne (by decide)
          refine r_getf (i := 118) (v := 1) (w := 11) (x := vi (S61.f 43 1)) rfl ly43 rfl rfl fun h73 => ?_
          have h73 : Rg (S61.f 43 1) := h73
          refine r_load (i := 119) (u := 3) (w := 0) rfl rfl rfl ?_
          refine s_int (i := 120) rfl ly48 rfl (by omega) (by omega) ⟨by omega, by omega⟩ ?_
          have hI75 := hI62.seta (b := 48) (j := (S61.f 43 1).toNat) (z := p) ta48 rfl (by omega) (by omega)
          have hF77 := hF64.seta (b := 48) (j := (S61.f 43 1).toNat) (z := p) rfl
          have hR78 := hR65.seta (b := 48) (j := (S61.f 43 1).toNat) (z := p)
          refine yT_gen (fun S74 hS76 => ?_)
          rw [hS76] at hI75 hF77 hR78 
          refine r_load (i := 121) (u := 0) (w := 2) rfl rfl rfl ?_
          refine r_getf (i := 122) (v := 7) (w := 11) (x := (2, 49)) rfl ly43 rfl rfl fun _ => ?_
          refine r_load (i := 123) (u := 0) (w := 2) rfl rfl rfl ?_
          have h80 := hI75.f tf43_1
          have h81 : S74.f 43 1 = S61.f 43 1 := by rw [← hS76]; rfl
          have h82 : S61.f 43 1 = S45.f 43 1 := by rw [← hS63]; rfl
          have h83 : S45.f 43 1 = S30.f 43 1 := by rw [← hS47]; rfl
          have h84 : S30.f 43 1 = S16.f 43 1 := by rw [← hS32]; rfl
          have h85 : S16.f 43 1 = S2.f 43 1 := by rw [← hS18]; rfl
          have h86 : S2.f 43 1 = S.f 43 1 := by rw [← hS4]; exact ysf_ne (by decide)
          refine r_getf (i := 124) (v := 1) (w := 11) (x := vi (S74.f 43 1)) rfl ly43 rfl rfl fun h87 => ?_
          have h87 : Rg (S74.f 43 1) := h87
          refine r_load (i := 125) (u := 1) (w := 0) rfl rfl rfl ?_
          refine z_eq (i := 126) (v := 129) rfl ⟨by omega, by omega⟩ (fun h88 => ?_) (fun h89 => ?_)
          · refine r_load (i := 129) (u := 4) (w := 0) rfl rfl rfl ?_
            refine s_int (i := 130) rfl ly49 rfl (by omega) (by omega) ⟨by omega, by omega⟩ ?_
            have hI91 := hI75.seta49 (j := (S74.f 43 1).toNat) (z := up) (by omega) (by omega) (by omega)
            have hF93 := hF77.seta (b := 49) (j := (S74.f 43 1).toNat) (z := up) rfl
            have hR94 := hR78.seta (b := 49) (j := (S74.f 43 1).toNat) (z := up)
            refine yT_gen (fun S90 hS92 => ?_)
            rw [hS92] at hI91 hF93 hR94 
            refine r_load (i := 131) (u := 0) (w := 2) rfl rfl rfl ?_
            refine r_dup (i := 132) rfl rfl ?_
            have h95 := hI91.f tf43_1
            have h96 : S90.f 43 1 = S74.f 43 1 := by rw [← hS92]; rfl
            have h97 : S74.f 43 1 = S61.f 43 1 := by rw [← hS76]; rfl
            have h98 : S61.f 43 1 = S45.f 43 1 := by rw [← hS63]; rfl
            have h99 : S45.f 43 1 = S30.f 43 1 := by rw [← hS47]; rfl
            have h100 : S30.f 43 1 = S16.f 43 1 := by rw [← hS32]; rfl
            have h101 : S16.f 43 1 = S2.f 43 1 := by rw [← hS18]; rfl
            have h102 : S2.f 43 1 = S.f 43 1 := by rw [← hS4]; exact ysf_ne (by decide)
            refine r_getf (i := 133) (v := 1) (w := 11) (x := vi (S90.f 43 1)) rfl ly43 rfl rfl fun h103 => ?_
            have h103 : Rg (S90.f 43 1) := h103
            refine r_const (i := 134) (u := 1) (z := 1) rfl rfl ?_
            refine r_iadd (i := 135) rfl ?_
            refine r_putI (i := 136) (v := 1) (w := 11) rfl ly43 rfl ⟨by omega, by omega⟩ ?_
            have hI105 := hI91.setf (b := 43) (w := 1) (z := (S90.f 43 1) + 1) tf43_1 rfl (by omega) (by omega)
            have hF107 := hF93.setf (b := 43) (w := 1) (z := (S90.f 43 1) + 1) rfl
            have hR108 := hR94.setf (b := 43) (w := 1) (z := (S90.f 43 1) + 1)
            refine yT_gen (fun S104 hS106 => ?_)
            rw [hS106] at hI105 hF107 hR108 
            have h109 := hI105.f tf43_0
            have h110 : S104.f 43 0 = S90.f 43 0 := by rw [← hS106]; exact ysf_ne (by decide)
            have h111 : S90.f 43 0 = S74.f 43 0 := by rw [← hS92]; rfl
            have h112 : S74.f 43 0 = S61.f 43 0 := by rw [← hS76]; rfl
            have h113 : S61.f 43 0 = S45.f 43 0 := by rw [← hS63]; rfl
            have h114 : S45.f 43 0 = S30.f 43 0 := by rw [← hS47]; rfl
            have h115 : S30.f 43 0 = S16.f 43 0 := by rw [← hS32]; rfl
            have h116 : S16.f 43 0 = S2.f 43 0 := by rw [← hS18]; rfl
            have h117 : S2.f 43 0 = c0 := by rw [← hS4]; exact ysf_eq
            have h118 := hI105.f tf43_1
            have h119 : S104.f 43 1 = (S90.f 43 1) + 1 := by rw [← hS106]; exact ysf_eq
            refine r_load (i := 137) (u := 0) (w := 2) rfl rfl rfl ?_
            refine r_getf (i := 138) (v := 1) (w := 11) (x := vi (S104.f 43 1)) rfl ly43 rfl rfl fun h120 => ?_
            have h120 : Rg (S104.f 43 1) := h120
            refine r_const (i := 139) (u := 1) (z := 1) rfl rfl ?_
            refine r_isub (i := 140) rfl ?_
            exact r_retI (i := 141) rfl ⟨(S104.f 43 1) - 1, rfl, by omega, by omega, (by rw [← q_3]; exact Or.inl ⟨by omega, by unfold tyM; omega, by omega, by omega, 0, 0, 0, up, ⟨by omega, by omega, by omega, by omega, by omega⟩, by subst hS4 hS18 hS32 hS47 hS63 hS76 hS92 hS106; rfl, fun j => by subst hS4 hS18 hS32 hS47 hS63 hS76 hS92 hS106; rfl, fun j => by subst hS4 hS18 hS32 hS47 hS63 hS76 hS92 hS106; rfl, fun j => by subst hS4 hS18 hS32 hS47 hS63 hS76 hS92 hS106; rfl, fun j => by subst hS4 hS18 hS32 hS47 hS63 hS76 hS92 hS106; rfl, fun j => by subst hS4 hS18 hS32 hS47 hS63 hS76 hS92 hS106; rfl, fun j => by subst hS4 hS18 hS32 hS47 hS63 hS76 hS92 hS106; rfl⟩), hI105, hF107, hR108⟩
          · refine r_const (i := 127) (u := 4294967295) (z := -1) rfl rfl ?_
            refine r_goto (i := 128) (v := 130) rfl ?_
            refine s_int (i := 130) rfl ly49 rfl (by omega) (by omega) ⟨by omega, by omega⟩ ?_
            have hI122 := hI75.seta49 (j := (S74.f 43 1).toNat) (z := -1) (by omega) (by omega) (by omega)
            have hF124 := hF77.seta (b := 49) (j := (S74.f 43 1).toNat) (z := -1) rfl
            have hR125 := hR78.seta (b := 49) (j := (S74.f 43 1).toNat) (z := -1)
            refine yT_gen (fun S121 hS123 => ?_)
            rw [hS123] at hI122 hF124 hR125 
            refine r_load (i := 131) (u := 0) (w := 2) rfl rfl rfl ?_
            refine r_dup (i := 132) rfl rfl ?_
            have h126 := hI122.f tf43_1
            have h127 : S121.f 43 1 = S74.f 43 1 := by rw [← hS123]; rfl
            have h128 : S74.f 43 1 = S61.f 43 1 := by rw [← hS76]; rfl
            have h129 : S61.f 43 1 = S45.f 43 1 := by rw [← hS63]; rfl
            have h130 : S45.f 43 1 = S30.f 43 1 := by rw [← hS47]; rfl
            have h131 : S30.f 43 1 = S16.f 43 1 := by rw [← hS32]; rfl
            have h132 : S16.f 43 1 = S2.f 43 1 := by rw [← hS18]; rfl
            have h133 : S2.f 43 1 = S.f 43 1 := by rw [← hS4]; exact ysf_ne (by decide)
            refine r_getf (i := 133) (v := 1) (w := 11) (x := vi (S121.f 43 1)) rfl ly43 rfl rfl fun h134 => ?_
            have h134 : Rg (S121.f 43 1) := h134
            refine r_const (i := 134) (u := 1) (z := 1) rfl rfl ?_
            refine r_iadd (i := 135) rfl ?_
            refine r_putI (i := 136) (v := 1) (w := 11) rfl ly43 rfl ⟨by omega, by omega⟩ ?_
            have hI136 := hI122.setf (b := 43) (w := 1) (z := (S121.f 43 1) + 1) tf43_1 rfl (by omega) (by omega)
            have hF138 := hF124.setf (b := 43) (w := 1) (z := (S121.f 43 1) + 1) rfl
            have hR139 := hR125.setf (b := 43) (w := 1) (z := (S121.f 43 1) + 1)
            refine yT_gen (fun S135 hS137 => ?_)
            rw [hS137] at hI136 hF138 hR139 
            have h140 := hI136.f tf43_0
            have h141 : S135.f 43 0 = S121.f 43 0 := by rw [← hS137]; exact ysf_ne (by decide)
            have h142 : S121.f 43 0 = S74.f 43 0 := by rw [← hS123]; rfl
            have h143 : S74.f 43 0 = S61.f 43 0 := by rw [← hS76]; rfl
            have h144 : S61.f 43 0 = S45.f 43 0 := by rw [← hS63]; rfl
            have h145 : S45.f 43 0 = S30.f 43 0 := by rw [← hS47]; rfl
            have h146 : S30.f 43 0 = S16.f 43 0 := by rw [← hS32]; rfl
            have h147 : S16.f 43 0 = S2.f 43 0 := by rw [← hS18]; rfl
            have h148 : S2.f 43 0 = c0 := by rw [← hS4]; exact ysf_eq
            have h149 := hI136.f tf43_1
            have h150 : S135.f 43 1 = (S121.f 43 1) + 1 := by rw [← hS137]; exact ysf_eq
            refine r_load (i := 137) (u := 0) (w := 2) rfl rfl rfl ?_
            refine r_getf (i := 138) (v := 1) (w := 11) (x := vi (S135.f 43 1)) rfl ly43 rfl rfl fun h151 => ?_
            have h151 : Rg (S135.f 43 1) := h151
            refine r_const (i := 139) (u := 1) (z := 1) rfl rfl ?_
            refine r_isub (i := 140) rfl ?_
            exact r_retI (i := 141) rfl ⟨(S135.f 43 1) - 1, rfl, by omega, by omega, (by rw [← q_3]; exact Or.inl ⟨by omega, by unfold tyM; omega, by omega, by omega, 0, 0, 0, -1, ⟨by omega, by omega, by omega, by omega, by omega⟩, by subst hS4 hS18 hS32 hS47 hS63 hS76 hS123 hS137; rfl, fun j => by subst hS4 hS18 hS32 hS47 hS63 hS76 hS123 hS137; rfl, fun j => by subst hS4 hS18 hS32 hS47 hS63 hS76 hS123 hS137; rfl, fun j => by subst hS4 hS18 hS32 hS47 hS63 hS76 hS123 hS137; rfl, fun j => by subst hS4 hS18 hS32 hS47 hS63 hS76 hS123 hS137; rfl, fun j => by subst hS4 hS18 hS32 hS47 hS63 hS76 hS123 hS137; rfl, fun j => by subst hS4 hS18 hS32 hS47 hS63 hS76 hS123 hS137; rfl⟩), hI136, hF138, hR139⟩
        · refine r_const (i := 111) (u := 1) (z := 1) rfl rfl ?_
          refine r_goto (i := 112) (v := 114) rfl ?_
          refine s_bool (i := 114) rfl ly47 rfl (by omega) (by omega) (by omega) (by omega) ?_
          have hI153 := hI46.seta0 (b := 47) (j := (S45.f 43 1).toNat) (z := 1) rfl rfl
          have hF155 := hF48.seta (b := 47) (j := (S45.f 43 1).toNat) (z := 1) rfl
          have hR156 := hR49.seta (b := 47) (j := (S45.f 43 1).toNat) (z := 1)
          refine yT_gen (fun S152 hS154 => ?_)
          rw [hS154] at hI153 hF155 hR156 
          refine r_load (i := 115) (u := 0) (w := 2) rfl rfl rfl ?_
          refine r_getf (i := 116) (v := 6) (w := 11) (x := (2, 48)) rfl ly43 rfl rfl fun _ => ?_
          refine r_load (i := 117) (u := 0) (w := 2) rfl rfl rfl ?_
          have h158 := hI153.f tf43_1
          have h159 : S152.f 43 1 = S45.f 43 1 := by rw [← hS154]; rfl
          have h160 : S45.f 43 1 = S30.f 43 1 := by rw [← hS47]; rfl
          have h161 : S30.f 43 1 = S16.f 43 1 := by rw [← hS32]; rfl
          have h162 : S16.f 43 1 = S2.f 43 1 := by rw [← hS18]; rfl
          have h163 : S2.f 43 1 = S.f 43 1 := by rw [← hS4]; exact ysf_ne (by decide)
          refine r_getf (i := 118) (v := 1) (w := 11) (x := vi (S152.f 43 1)) rfl ly43 rfl rfl fun h164 => ?_
          have h164 : Rg (S152.f 43 1) := h164
          refine r_load (i := 119) (u := 3) (w := 0) rfl rfl rfl ?_
          refine s_int (i := 120) rfl ly48 rfl (by omega) (by omega) ⟨by omega, by omega⟩ ?_
          have hI166 := hI153.seta (b := 48) (j := (S152.f 43 1).toNat) (z := p) ta48 rfl (by omega) (by omega)
          have hF168 := hF155.seta (b := 48) (j := (S152.f 43 1).toNat) (z := p) rfl
          have hR169 := hR156.seta (b := 48) (j := (S152.f 43 1).toNat) (z := p)
          refine yT_gen (fun S165 hS167 => ?_)
          rw [hS167] at hI166 hF168 hR169 
          refine r_load (i := 121) (u := 0) (w := 2) rfl rfl rfl ?_
          refine r_getf (i := 122) (v := 7) (w := 11) (x := (2, 49)) rfl ly43 rfl rfl fun _ => ?_
          refine r_load (i := 123) (u := 0) (w := 2) rfl rfl rfl ?_
          have h171 := hI166.f tf43_1
          have h172 : S165.f 43 1 = S152.f 43 1 := by rw [← hS167]; rfl
          have h173 : S152.f 43 1 = S45.f 43 1 := by rw [← hS154]; rfl
          have h174 : S45.f 43 1 = S30.f 43 1 := by rw [← hS47]; rfl
          have h175 : S30.f 43 1 = S16.f 43 1 := by rw [← hS32]; rfl
          have h176 : S16.f 43 1 = S2.f 43 1 := by rw [← hS18]; rfl
          have h177 : S2.f 43 1 = S.f 43 1 := by rw [← hS4]; exact ysf_ne (by decide)
          refine r_getf (i := 124) (v := 1) (w := 11) (x := vi (S165.f 43 1)) rfl ly43 rfl rfl fun h178 => ?_
          have h178 : Rg (S165.f 43 1) := h178
          refine r_load (i := 125) (u := 1) (w := 0) rfl rfl rfl ?_
          refine z_eq (i := 126) (v := 129) rfl ⟨by omega, by omega⟩ (fun h179 => ?_) (fun h180 => ?_)
          · refine r_load (i := 129) (u := 4) (w := 0) rfl rfl rfl ?_
            refine s_int (i := 130) rfl ly49 rfl (by omega) (by omega) ⟨by omega, by omega⟩ ?_
            have hI182 := hI166.seta49 (j := (S165.f 43 1).toNat) (z := up) (by omega) (by omega) (by omega)
            have hF184 := hF168.seta (b := 49) (j := (S165.f 43 1).toNat) (z := up) rfl
            have hR185 := hR169.seta (b := 49) (j := (S165.f 43 1).toNat) (z := up)
            refine yT_gen (fun S181 hS183 => ?_)
            rw [hS183] at hI182 hF184 hR185 
            refine r_load (i := 131) (u := 0) (w := 2) rfl rfl rfl ?_
            refine r_dup (i := 132) rfl rfl ?_
            have h186 := hI182.f tf43_1
            have h187 : S181.f 43 1 = S165.f 43 1 := by rw [← hS183]; rfl
            have h188 : S165.f 43 1 = S152.f 43 1 := by rw [← hS167]; rfl
            have h189 : S152.f 43 1 = S45.f 43 1 := by rw [← hS154]; rfl
            have h190 : S45.f 43 1 = S30.f 43 1 := by rw [← hS47]; rfl
            have h191 : S30.f 43 1 = S16.f 43 1 := by rw [← hS32]; rfl
            have h192 : S16.f 43 1 = S2.f 43 1 := by rw [← hS18]; rfl
            have h193 : S2.f 43 1 = S.f 43 1 := by rw [← hS4]; exact ysf_ne (by decide)
            refine r_getf (i := 133) (v := 1) (w := 11) (x := vi (S181.f 43 1)) rfl ly43 rfl rfl fun h194 => ?_
            have h194 : Rg (S181.f 43 1) := h194
            refine r_const (i := 134) (u := 1) (z := 1) rfl rfl ?_
            refine r_iadd (i := 135) rfl ?_
            refine r_putI (i := 136) (v := 1) (w := 11) rfl ly43 rfl ⟨by omega, by omega⟩ ?_
            have hI196 := hI182.setf (b := 43) (w := 1) (z := (S181.f 43 1) + 1) tf43_1 rfl (by omega) (by omega)
            have hF198 := hF184.setf (b := 43) (w := 1) (z := (S181.f 43 1) + 1) rfl
            have hR199 := hR185.setf (b := 43) (w := 1) (z := (S181.f 43 1) + 1)
            refine yT_gen (fun S195 hS197 => ?_)
            rw [hS197] at hI196 hF198 hR199 
            have h200 := hI196.f tf43_0
            have h201 : S195.f 43 0 = S181.f 43 0 := by rw [← hS197]; exact ysf_ne (by decide)
            have h202 : S181.f 43 0 = S165.f 43 0 := by rw [← hS183]; rfl
            have h203 : S165.f 43 0 = S152.f 43 0 := by rw [← hS167]; rfl
            have h204 : S152.f 43 0 = S45.f 43 0 := by rw [← hS154]; rfl
            have h205 : S45.f 43 0 = S30.f 43 0 := by rw [← hS47]; rfl
            have h206 : S30.f 43 0 = S16.f 43 0 := by rw [← hS32]; rfl
            have h207 : S16.f 43 0 = S2.f 43 0 := by rw [← hS18]; rfl
            have h208 : S2.f 43 0 = c0 := by rw [← hS4]; exact ysf_eq
            have h209 := hI196.f tf43_1
            have h210 : S195.f 43 1 = (S181.f 43 1) + 1 := by rw [← hS197]; exact ysf_eq
            refine r_load (i := 137) (u := 0) (w := 2) rfl rfl rfl ?_
            refine r_getf (i := 138) (v := 1) (w := 11) (x := vi (S195.f 43 1)) rfl ly43 rfl rfl fun h211 => ?_
            have h211 : Rg (S195.f 43 1) := h211
            refine r_const (i := 139) (u := 1) (z := 1) rfl rfl ?_
            refine r_isub (i := 140) rfl ?_
            exact r_retI (i := 141) rfl ⟨(S195.f 43 1) - 1, rfl, by omega, by omega, (by rw [← q_3]; exact Or.inl ⟨by omega, by unfold tyM; omega, by omega, by omega, 0, 0, 1, up, ⟨by omega, by omega, by omega, by omega, by omega⟩, by subst hS4 hS18 hS32 hS47 hS154 hS167 hS183 hS197; rfl, fun j => by subst hS4 hS18 hS32 hS47 hS154 hS167 hS183 hS197; rfl, fun j => by subst hS4 hS18 hS32 hS47 hS154 hS167 hS183 hS197; rfl, fun j => by subst hS4 hS18 hS32 hS47 hS154 hS167 hS183 hS197; rfl, fun j => by subst hS4 hS18 hS32 hS47 hS154 hS167 hS183 hS197; rfl, fun j => by subst hS4 hS18 hS32 hS47 hS154 hS167 hS183 hS197; rfl, fun j => by subst hS4 hS18 hS32 hS47 hS154 hS167 hS183 hS197; rfl⟩), hI196, hF198, hR199⟩
          · refine r_const (i := 127) (u := 4294967295) (z := -1) rfl rfl ?_
            refine r_goto (i := 128) (v := 130) rfl ?_
            refine s_int (i := 130) rfl ly49 rfl (by omega) (by omega) ⟨by omega, by omega⟩ ?_
            have hI213 := hI166.seta49 (j := (S165.f 43 1).toNat) (z := -1) (by omega) (by omega) (by omega)
            have hF215 := hF168.seta (b := 49) (j := (S165.f 43 1).toNat) (z := -1) rfl
            have hR216 := hR169.seta (b := 49) (j := (S165.f 43 1).toNat) (z := -1)
            refine yT_gen (fun S212 hS214 => ?_)
            rw [hS214] at hI213 hF215 hR216 
            refine r_load (i := 131) (u := 0) (w := 2) rfl rfl rfl ?_
            refine r_dup (i := 132) rfl rfl ?_
            have h217 := hI213.f tf43_1
            have h218 : S212.f 43 1 = S165.f 43 1 := by rw [← hS214]; rfl
            have h219 : S165.f 43 1 = S152.f 43 1 := by rw [← hS167]; rfl
            have h220 : S152.f 43 1 = S45.f 43 1 := by rw [← hS154]; rfl
            have h221 : S45.f 43 1 = S30.f 43 1 := by rw [← hS47]; rfl
            have h222 : S30.f 43 1 = S16.f 43 1 := by rw [← hS32]; rfl
            have h223 : S16.f 43 1 = S2.f 43 1 := by rw [← hS18]; rfl
            have h224 : S2.f 43 1 = S.f 43 1 := by rw [← hS4]; exact ysf_ne (by decide)
            refine r_getf (i := 133) (v := 1) (w := 11) (x := vi (S212.f 43 1)) rfl ly43 rfl rfl fun h225 => ?_
            have h225 : Rg (S212.f 43 1) := h225
            refine r_const (i := 134) (u := 1) (z := 1) rfl rfl ?_
            refine r_iadd (i := 135) rfl ?_
            refine r_putI (i := 136) (v := 1) (w := 11) rfl ly43 rfl ⟨by omega, by omega⟩ ?_
            have hI227 := hI213.setf (b := 43) (w := 1) (z := (S212.f 43 1) + 1) tf43_1 rfl (by omega) (by omega)
            have hF229 := hF215.setf (b := 43) (w := 1) (z := (S212.f 43 1) + 1) rfl
            have hR230 := hR216.setf (b := 43) (w := 1) (z := (S212.f 43 1) + 1)
            refine yT_gen (fun S226 hS228 => ?_)
            rw [hS228] at hI227 hF229 hR230 
            have h231 := hI227.f tf43_0
            have h232 : S226.f 43 0 = S212.f 43 0 := by rw [← hS228]; exact ysf_ne (by decide)
            have h233 : S212.f 43 0 = S165.f 43 0 := by rw [← hS214]; rfl
            have h234 : S165.f 43 0 = S152.f 43 0 := by rw [← hS167]; rfl
            have h235 : S152.f 43 0 = S45.f 43 0 := by rw [← hS154]; rfl
            have h236 : S45.f 43 0 = S30.f 43 0 := by rw [← hS47]; rfl
            have h237 : S30.f 43 0 = S16.f 43 0 := by rw [← hS32]; rfl
            have h238 : S16.f 43 0 = S2.f 43 0 := by rw [← hS18]; rfl
            have h239 : S2.f 43 0 = c0 := by rw [← hS4]; exact ysf_eq
            have h240 := hI227.f tf43_1
            have h241 : S226.f 43 1 = (S212.f 43 1) + 1 := by rw [← hS228]; exact ysf_eq
            refine r_load (i := 137) (u := 0) (w := 2) rfl rfl rfl ?_
            refine r_getf (i := 138) (v := 1) (w := 11) (x := vi (S226.f 43 1)) rfl ly43 rfl rfl fun h242 => ?_
            have h242 : Rg (S226.f 43 1) := h242
            refine r_const (i := 139) (u := 1) (z := 1) rfl rfl ?_
            refine r_isub (i := 140) rfl ?_
            exact r_retI (i := 141) rfl ⟨(S226.f 43 1) - 1, rfl, by omega, by omega, (by rw [← q_3]; exact Or.inl ⟨by omega, by unfold tyM; omega, by omega, by omega, 0, 0, 1, -1, ⟨by omega, by omega, by omega, by omega, by omega⟩, by subst hS4 hS18 hS32 hS47 hS154 hS167 hS214 hS228; rfl, fun j => by subst hS4 hS18 hS32 hS47 hS154 hS167 hS214 hS228; rfl, fun j => by subst hS4 hS18 hS32 hS47 hS154 hS167 hS214 hS228; rfl, fun j => by subst hS4 hS18 hS32 hS47 hS154 hS167 hS214 hS228; rfl, fun j => by subst hS4 hS18 hS32 hS47 hS154 hS167 hS214 hS228; rfl, fun j => by subst hS4 hS18 hS32 hS47 hS154 hS167 hS214 hS228; rfl, fun j => by subst hS4 hS18 hS32 hS47 hS154 hS167 hS214 hS228; rfl⟩), hI227, hF229, hR230⟩
      · refine r_const (i := 98) (u := 1) (z := 1) rfl rfl ?_
        refine r_goto (i := 99) (v := 101) rfl ?_
        refine s_bool (i := 101) rfl ly46 rfl (by omega) (by omega) (by omega) (by omega) ?_
        have hI244 := hI31.seta0 (b := 46) (j := (S30.f 43 1).toNat) (z := 1) rfl rfl
        have hF246 := hF33.seta (b := 46) (j := (S30.f 43 1).toNat) (z := 1) rfl
        have hR247 := hR34.seta (b := 46) (j := (S30.f 43 1).toNat) (z := 1)
        refine yT_gen (fun S243 hS245 => ?_)
        rw [hS245] at hI244 hF246 hR247 
        refine r_load (i := 102) (u := 0) (w := 2) rfl rfl rfl ?_
        refine r_getf (i := 103) (v := 5) (w := 11) (x := (2, 47)) rfl ly43 rfl rfl fun _ => ?_
        refine r_load (i := 104) (u := 0) (w := 2) rfl rfl rfl ?_
        have h249 := hI244.f tf43_1
        have h250 : S243.f 43 1 = S30.f 43 1 := by rw [← hS245]; rfl
        have h251 : S30.f 43 1 = S16.f 43 1 := by rw [← hS32]; rfl
        have h252 : S16.f 43 1 = S2.f 43 1 := by rw [← hS18]; rfl
        have h253 : S2.f 43 1 = S.f 43 1 := by rw [← hS4]; exact ysf_ne (by decide)
        refine r_getf (i := 105) (v := 1) (w := 11) (x := vi (S243.f 43 1)) rfl ly43 rfl rfl fun h254 => ?_
        have h254 : Rg (S243.f 43 1) := h254
        refine r_load (i := 106) (u := 2) (w := 0) rfl rfl rfl ?_
        refine r_const (i := 107) (u := 4) (z := 4) rfl rfl ?_
        refine r_iand (i := 108) rfl ?_
        have h255 := @yand_c bits 4 (by decide) (by decide)
        have h256 := yand_p4 bits
        refine r_const (i := 109) (u := 4) (z := 4) rfl rfl ?_
        refine c_ne (i := 110) (v := 113) rfl ⟨by omega, by omega⟩ ⟨by omega, by omega⟩ (fun h257 => ?_) (fun h258 => ?_)
        · refine r_const (i := 113) (u := 0) (z := 0) rfl rfl ?_
          refine s_bool (i := 114) rfl ly47 rfl (by omega) (by omega) (by omega) (by omega) ?_
          have hI260 := hI244.seta0 (b := 47) (j := (S243.f 43 1).toNat) (z := 0) rfl rfl
          have hF262 := hF246.seta (b := 47) (j := (S243.f 43 1).toNat) (z := 0) rfl
          have hR263 := hR247.seta (b := 47) (j := (S243.f 43 1).toNat) (z := 0)
          refine yT_gen (fun S259 hS261 => ?_)
          rw [hS261] at hI260 hF262 hR263 
          refine r_load (i := 115) (u := 0) (w := 2) rfl rfl rfl ?_
          refine r_getf (i := 116) (v := 6) (w := 11) (x := (2, 48)) rfl ly43 rfl rfl fun _ => ?_
          refine r_load (i := 117) (u := 0) (w := 2) rfl rfl rfl ?_
          have h265 := hI260.f tf43_1
          have h266 : S259.f 43 1 = S243.f 43 1 := by rw [← hS261]; rfl
          have h267 : S243.f 43 1 = S30.f 43 1 := by rw [← hS245]; rfl
          have h268 : S30.f 43 1 = S16.f 43 1 := by rw [← hS32]; rfl
          have h269 : S16.f 43 1 = S2.f 43 1 := by rw [← hS18]; rfl
          have h270 : S2.f 43 1 = S.f 43 1 := by rw [← hS4]; exact ysf_ne (by decide)
          refine r_getf (i := 118) (v := 1) (w := 11) (x := vi (S259.f 43 1)) rfl ly43 rfl rfl fun h271 => ?_
          have h271 : Rg (S259.f 43 1) := h271
          refine r_load (i := 119) (u := 3) (w := 0) rfl rfl rfl ?_
          refine s_int (i := 120) rfl ly48 rfl (by omega) (by omega) ⟨by omega, by omega⟩ ?_
          have hI273 := hI260.seta (b := 48) (j := (S259.f 43 1).toNat) (z := p) ta48 rfl (by omega) (by omega)
          have hF275 := hF262.seta (b := 48) (j := (S259.f 43 1).toNat) (z := p) rfl
          have hR276 := hR263.seta (b := 48) (j := (S259.f 43 1).toNat) (z := p)
          refine yT_gen (fun S272 hS274 => ?_)
          rw [hS274] at hI273 hF275 hR276 
          refine r_load (i := 121) (u := 0) (w := 2) rfl rfl rfl ?_
          refine r_getf (i := 122) (v := 7) (w := 11) (x := (2, 49)) rfl ly43 rfl rfl fun _ => ?_
          refine r_load (i := 123) (u := 0) (w := 2) rfl rfl rfl ?_
          have h278 := hI273.f tf43_1
          have h279 : S272.f 43 1 = S259.f 43 1 := by rw [← hS274]; rfl
          have h280 : S259.f 43 1 = S243.f 43 1 := by rw [← hS261]; rfl
          have h281 : S243.f 43 1 = S30.f 43 1 := by rw [← hS245]; rfl
          have h282 : S30.f 43 1 = S16.f 43 1 := by rw [← hS32]; rfl
          have h283 : S16.f 43 1 = S2.f 43 1 := by rw [← hS18]; rfl
          have h284 : S2.f 43 1 = S.f 43 1 := by rw [← hS4]; exact ysf_ne (by decide)
          refine r_getf (i := 124) (v := 1) (w := 11) (x := vi (S272.f 43 1)) rfl ly43 rfl rfl fun h285 => ?_
          have h285 : Rg (S272.f 43 1) := h285
          refine r_load (i := 125) (u := 1) (w := 0) rfl rfl rfl ?_
          refine z_eq (i := 126) (v := 129) rfl ⟨by omega, by omega⟩ (fun h286 => ?_) (fun h287 => ?_)
          · refine r_load (i := 129) (u := 4) (w := 0) rfl rfl rfl ?_
            refine s_int (i := 130) rfl ly49 rfl (by omega) (by omega) ⟨by omega, by omega⟩ ?_
            have hI289 := hI273.seta49 (j := (S272.f 43 1).toNat) (z := up) (by omega) (by omega) (by omega)
            have hF291 := hF275.seta (b := 49) (j := (S272.f 43 1).toNat) (z := up) rfl
            have hR292 := hR276.seta (b := 49) (j := (S272.f 43 1).toNat) (z := up)
            refine yT_gen (fun S288 hS290 => ?_)
            rw [hS290] at hI289 hF291 hR292 
            refine r_load (i := 131) (u := 0) (w := 2) rfl rfl rfl ?_
            refine r_dup (i := 132) rfl rfl ?_
            have h293 := hI289.f tf43_1
            have h294 : S288.f 43 1 = S272.f 43 1 := by rw [← hS290]; rfl
            have h295 : S272.f 43 1 = S259.f 43 1 := by rw [← hS274]; rfl
            have h296 : S259.f 43 1 = S243.f 43 1 := by rw [← hS261]; rfl
            have h297 : S243.f 43 1 = S30.f 43 1 := by rw [← hS245]; rfl
            have h298 : S30.f 43 1 = S16.f 43 1 := by rw [← hS32]; rfl
            have h299 : S16.f 43 1 = S2.f 43 1 := by rw [← hS18]; rfl
            have h300 : S2.f 43 1 = S.f 43 1 := by rw [← hS4]; exact ysf_ne (by decide)
            refine r_getf (i := 133) (v := 1) (w := 11) (x := vi (S288.f 43 1)) rfl ly43 rfl rfl fun h301 => ?_
            have h301 : Rg (S288.f 43 1) := h301
            refine r_const (i := 134) (u := 1) (z := 1) rfl rfl ?_
            refine r_iadd (i := 135) rfl ?_
            refine r_putI (i := 136) (v := 1) (w := 11) rfl ly43 rfl ⟨by omega, by omega⟩ ?_
            have hI303 := hI289.setf (b := 43) (w := 1) (z := (S288.f 43 1) + 1) tf43_1 rfl (by omega) (by omega)
            have hF305 := hF291.setf (b := 43) (w := 1) (z := (S288.f 43 1) + 1) rfl
            have hR306 := hR292.setf (b := 43) (w := 1) (z := (S288.f 43 1) + 1)
            refine yT_gen (fun S302 hS304 => ?_)
            rw [hS304] at hI303 hF305 hR306 
            have h307 := hI303.f tf43_0
            have h308 : S302.f 43 0 = S288.f 43 0 := by rw [← hS304]; exact ysf_ne (by decide)
            have h309 : S288.f 43 0 = S272.f 43 0 := by rw [← hS290]; rfl
            have h310 : S272.f 43 0 = S259.f 43 0 := by rw [← hS274]; rfl
            have h311 : S259.f 43 0 = S243.f 43 0 := by rw [← hS261]; rfl
            have h312 : S243.f 43 0 = S30.f 43 0 := by rw [← hS245]; rfl
            have h313 : S30.f 43 0 = S16.f 43 0 := by rw [← hS32]; rfl
            have h314 : S16.f 43 0 = S2.f 43 0 := by rw [← hS18]; rfl
            have h315 : S2.f 43 0 = c0 := by rw [← hS4]; exact ysf_eq
            have h316 := hI303.f tf43_1
            have h317 : S302.f 43 1 = (S288.f 43 1) + 1 := by rw [← hS304]; exact ysf_eq
            refine r_load (i := 137) (u := 0) (w := 2) rfl rfl rfl ?_
            refine r_getf (i := 138) (v := 1) (w := 11) (x := vi (S302.f 43 1)) rfl ly43 rfl rfl fun h318 => ?_
            have h318 : Rg (S302.f 43 1) := h318
            refine r_const (i := 139) (u := 1) (z := 1) rfl rfl ?_
            refine r_isub (i := 140) rfl ?_
            exact r_retI (i := 141) rfl ⟨(S302.f 43 1) - 1, rfl, by omega, by omega, (by rw [← q_3]; exact Or.inl ⟨by omega, by unfold tyM; omega, by omega, by omega, 0, 1, 0, up, ⟨by omega, by omega, by omega, by omega, by omega⟩, by subst hS4 hS18 hS32 hS245 hS261 hS274 hS290 hS304; rfl, fun j => by subst hS4 hS18 hS32 hS245 hS261 hS274 hS290 hS304; rfl, fun j => by subst hS4 hS18 hS32 hS245 hS261 hS274 hS290 hS304; rfl, fun j => by subst hS4 hS18 hS32 hS245 hS261 hS274 hS290 hS304; rfl, fun j => by subst hS4 hS18 hS32 hS245 hS261 hS274 hS290 hS304; rfl, fun j => by subst hS4 hS18 hS32 hS245 hS261 hS274 hS290 hS304; rfl, fun j => by subst hS4 hS18 hS32 hS245 hS261 hS274 hS290 hS304; rfl⟩), hI303, hF305, hR306⟩
          · refine r_const (i := 127) (u := 4294967295) (z := -1) rfl rfl ?_
            refine r_goto (i := 128) (v := 130) rfl ?_
            refine s_int (i := 130) rfl ly49 rfl (by omega) (by omega) ⟨by omega, by omega⟩ ?_
            have hI320 := hI273.seta49 (j := (S272.f 43 1).toNat) (z := -1) (by omega) (by omega) (by omega)
            have hF322 := hF275.seta (b := 49) (j := (S272.f 43 1).toNat) (z := -1) rfl
            have hR323 := hR276.seta (b := 49) (j := (S272.f 43 1).toNat) (z := -1)
            refine yT_gen (fun S319 hS321 => ?_)
            rw [hS321] at hI320 hF322 hR323 
            refine r_load (i := 131) (u := 0) (w := 2) rfl rfl rfl ?_
            refine r_dup (i := 132) rfl rfl ?_
            have h324 := hI320.f tf43_1
            have h325 : S319.f 43 1 = S272.f 43 1 := by rw [← hS321]; rfl
            have h326 : S272.f 43 1 = S259.f 43 1 := by rw [← hS274]; rfl
            have h327 : S259.f 43 1 = S243.f 43 1 := by rw [← hS261]; rfl
            have h328 : S243.f 43 1 = S30.f 43 1 := by rw [← hS245]; rfl
            have h329 : S30.f 43 1 = S16.f 43 1 := by rw [← hS32]; rfl
            have h330 : S16.f 43 1 = S2.f 43 1 := by rw [← hS18]; rfl
            have h331 : S2.f 43 1 = S.f 43 1 := by rw [← hS4]; exact ysf_ne (by decide)
            refine r_getf (i := 133) (v := 1) (w := 11) (x := vi (S319.f 43 1)) rfl ly43 rfl rfl fun h332 => ?_
            have h332 : Rg (S319.f 43 1) := h332
            refine r_const (i := 134) (u := 1) (z := 1) rfl rfl ?_
            refine r_iadd (i := 135) rfl ?_
            refine r_putI (i := 136) (v := 1) (w := 11) rfl ly43 rfl ⟨by omega, by omega⟩ ?_
            have hI334 := hI320.setf (b := 43) (w := 1) (z := (S319.f 43 1) + 1) tf43_1 rfl (by omega) (by omega)
            have hF336 := hF322.setf (b := 43) (w := 1) (z := (S319.f 43 1) + 1) rfl
            have hR337 := hR323.setf (b := 43) (w := 1) (z := (S319.f 43 1) + 1)
            refine yT_gen (fun S333 hS335 => ?_)
            rw [hS335] at hI334 hF336 hR337 
            have h338 := hI334.f tf43_0
            have h339 : S333.f 43 0 = S319.f 43 0 := by rw [← hS335]; exact ysf_ne (by decide)
            have h340 : S319.f 43 0 = S272.f 43 0 := by rw [← hS321]; rfl
            have h341 : S272.f 43 0 = S259.f 43 0 := by rw [← hS274]; rfl
            have h342 : S259.f 43 0 = S243.f 43 0 := by rw [← hS261]; rfl
            have h343 : S243.f 43 0 = S30.f 43 0 := by rw [← hS245]; rfl
            have h344 : S30.f 43 0 = S16.f 43 0 := by rw [← hS32]; rfl
            have h345 : S16.f 43 0 = S2.f 43 0 := by rw [← hS18]; rfl
            have h346 : S2.f 43 0 = c0 := by rw [← hS4]; exact ysf_eq
            have h347 := hI334.f tf43_1
            have h348 : S333.f 43 1 = (S319.f 43 1) + 1 := by rw [← hS335]; exact ysf_eq
            refine r_load (i := 137) (u := 0) (w := 2) rfl rfl rfl ?_
            refine r_getf (i := 138) (v := 1) (w := 11) (x := vi (S333.f 43 1)) rfl ly43 rfl rfl fun h349 => ?_
            have h349 : Rg (S333.f 43 1) := h349
            refine r_const (i := 139) (u := 1) (z := 1) rfl rfl ?_
            refine r_isub (i := 140) rfl ?_
            exact r_retI (i := 141) rfl ⟨(S333.f 43 1) - 1, rfl, by omega, by omega, (by rw [← q_3]; exact Or.inl ⟨by omega, by unfold tyM; omega, by omega, by omega, 0, 1, 0, -1, ⟨by omega, by omega, by omega, by omega, by omega⟩, by subst hS4 hS18 hS32 hS245 hS261 hS274 hS321 hS335; rfl, fun j => by subst hS4 hS18 hS32 hS245 hS261 hS274 hS321 hS335; rfl, fun j => by subst hS4 hS18 hS32 hS245 hS261 hS274 hS321 hS335; rfl, fun j => by subst hS4 hS18 hS32 hS245 hS261 hS274 hS321 hS335; rfl, fun j => by subst hS4 hS18 hS32 hS245 hS261 hS274 hS321 hS335; rfl, fun j => by subst hS4 hS18 hS32 hS245 hS261 hS274 hS321 hS335; rfl, fun j => by subst hS4 hS18 hS32 hS245 hS261 hS274 hS321 hS335; rfl⟩), hI334, hF336, hR337⟩
        · refine r_const (i := 111) (u := 1) (z := 1) rfl rfl ?_
          refine r_goto (i := 112) (v := 114) rfl ?_
          refine s_bool (i := 114) rfl ly47 rfl (by omega) (by omega) (by omega) (by omega) ?_
          have hI351 := hI244.seta0 (b := 47) (j := (S243.f 43 1).toNat) (z := 1) rfl rfl
          have hF353 := hF246.seta (b := 47) (j := (S243.f 43 1).toNat) (z := 1) rfl
          have hR354 := hR247.seta (b := 47) (j := (S243.f 43 1).toNat) (z := 1)
          refine yT_gen (fun S350 hS352 => ?_)
          rw [hS352] at hI351 hF353 hR354 
          refine r_load (i := 115) (u := 0) (w := 2) rfl rfl rfl ?_
          refine r_getf (i := 116) (v := 6) (w := 11) (x := (2, 48)) rfl ly43 rfl rfl fun _ => ?_
          refine r_load (i := 117) (u := 0) (w := 2) rfl rfl rfl ?_
          have h356 := hI351.f tf43_1
          have h357 : S350.f 43 1 = S243.f 43 1 := by rw [← hS352]; rfl
          have h358 : S243.f 43 1 = S30.f 43 1 := by rw [← hS245]; rfl
          have h359 : S30.f 43 1 = S16.f 43 1 := by rw [← hS32]; rfl
          have h360 : S16.f 43 1 = S2.f 43 1 := by rw [← hS18]; rfl
          have h361 : S2.f 43 1 = S.f 43 1 := by rw [← hS4]; exact ysf_ne (by decide)
          refine r_getf (i := 118) (v := 1) (w := 11) (x := vi (S350.f 43 1)) rfl ly43 rfl rfl fun h362 => ?_
          have h362 : Rg (S350.f 43 1) := h362
          refine r_load (i := 119) (u := 3) (w := 0) rfl rfl rfl ?_
          refine s_int (i := 120) rfl ly48 rfl (by omega) (by omega) ⟨by omega, by omega⟩ ?_
          have hI364 := hI351.seta (b := 48) (j := (S350.f 43 1).toNat) (z := p) ta48 rfl (by omega) (by omega)
          have hF366 := hF353.seta (b := 48) (j := (S350.f 43 1).toNat) (z := p) rfl
          have hR367 := hR354.seta (b := 48) (j := (S350.f 43 1).toNat) (z := p)
          refine yT_gen (fun S363 hS365 => ?_)
          rw [hS365] at hI364 hF366 hR367 
          refine r_load (i := 121) (u := 0) (w := 2) rfl rfl rfl ?_
          refine r_getf (i := 122) (v := 7) (w := 11) (x := (2, 49)) rfl ly43 rfl rfl fun _ => ?_
          refine r_load (i := 123) (u := 0) (w := 2) rfl rfl rfl ?_
          have h369 := hI364.f tf43_1
          have h370 : S363.f 43 1 = S350.f 43 1 := by rw [← hS365]; rfl
          have h371 : S350.f 43 1 = S243.f 43 1 := by rw [← hS352]; rfl
          have h372 : S243.f 43 1 = S30.f 43 1 := by rw [← hS245]; rfl
          have h373 : S30.f 43 1 = S16.f 43 1 := by rw [← hS32]; rfl
          have h374 : S16.f 43 1 = S2.f 43 1 := by rw [← hS18]; rfl
          have h375 : S2.f 43 1 = S.f 43 1 := by rw [← hS4]; exact ysf_ne (by decide)
          refine r_getf (i := 124) (v := 1) (w := 11) (x := vi (S363.f 43 1)) rfl ly43 rfl rfl fun h376 => ?_
          have h376 : Rg (S363.f 43 1) := h376
          refine r_load (i := 125) (u := 1) (w := 0) rfl rfl rfl ?_
          refine z_eq (i := 126) (v := 129) rfl ⟨by omega, by omega⟩ (fun h377 => ?_) (fun h378 => ?_)
          · refine r_load (i := 129) (u := 4) (w := 0) rfl rfl rfl ?_
            refine s_int (i := 130) rfl ly49 rfl (by omega) (by omega) ⟨by omega, by omega⟩ ?_
            have hI380 := hI364.seta49 (j := (S363.f 43 1).toNat) (z := up) (by omega) (by omega) (by omega)
            have hF382 := hF366.seta (b := 49) (j := (S363.f 43 1).toNat) (z := up) rfl
            have hR383 := hR367.seta (b := 49) (j := (S363.f 43 1).toNat) (z := up)
            refine yT_gen (fun S379 hS381 => ?_)
            rw [hS381] at hI380 hF382 hR383 
            refine r_load (i := 131) (u := 0) (w := 2) rfl rfl rfl ?_
            refine r_dup (i := 132) rfl rfl ?_
            have h384 := hI380.f tf43_1
            have h385 : S379.f 43 1 = S363.f 43 1 := by rw [← hS381]; rfl
            have h386 : S363.f 43 1 = S350.f 43 1 := by rw [← hS365]; rfl
            have h387 : S350.f 43 1 = S243.f 43 1 := by rw [← hS352]; rfl
            have h388 : S243.f 43 1 = S30.f 43 1 := by rw [← hS245]; rfl
            have h389 : S30.f 43 1 = S16.f 43 1 := by rw [← hS32]; rfl
            have h390 : S16.f 43 1 = S2.f 43 1 := by rw [← hS18]; rfl
            have h391 : S2.f 43 1 = S.f 43 1 := by rw [← hS4]; exact ysf_ne (by decide)
            refine r_getf (i := 133) (v := 1) (w := 11) (x := vi (S379.f 43 1)) rfl ly43 rfl rfl fun h392 => ?_
            have h392 : Rg (S379.f 43 1) := h392
            refine r_const (i := 134) (u := 1) (z := 1) rfl rfl ?_
            refine r_iadd (i := 135) rfl ?_
            refine r_putI (i := 136) (v := 1) (w := 11) rfl ly43 rfl ⟨by omega, by omega⟩ ?_
            have hI394 := hI380.setf (b := 43) (w := 1) (z := (S379.f 43 1) + 1) tf43_1 rfl (by omega) (by omega)
            have hF396 := hF382.setf (b := 43) (w := 1) (z := (S379.f 43 1) + 1) rfl
            have hR397 := hR383.setf (b := 43) (w := 1) (z := (S379.f 43 1) + 1)
            refine yT_gen (fun S393 hS395 => ?_)
            rw [hS395] at hI394 hF396 hR397 
            have h398 := hI394.f tf43_0
            have h399 : S393.f 43 0 = S379.f 43 0 := by rw [← hS395]; exact ysf_ne (by decide)
            have h400 : S379.f 43 0 = S363.f 43 0 := by rw [← hS381]; rfl
            have h401 : S363.f 43 0 = S350.f 43 0 := by rw [← hS365]; rfl
            have h402 : S350.f 43 0 = S243.f 43 0 := by rw [← hS352]; rfl
            have h403 : S243.f 43 0 = S30.f 43 0 := by rw [← hS245]; rfl
            have h404 : S30.f 43 0 = S16.f 43 0 := by rw [← hS32]; rfl
            have h405 : S16.f 43 0 = S2.f 43 0 := by rw [← hS18]; rfl
            have h406 : S2.f 43 0 = c0 := by rw [← hS4]; exact ysf_eq
            have h407 := hI394.f tf43_1
            have h408 : S393.f 43 1 = (S379.f 43 1) + 1 := by rw [← hS395]; exact ysf_eq
            refine r_load (i := 137) (u := 0) (w := 2) rfl rfl rfl ?_
            refine r_getf (i := 138) (v := 1) (w := 11) (x := vi (S393.f 43 1)) rfl ly43 rfl rfl fun h409 => ?_
            have h409 : Rg (S393.f 43 1) := h409
            refine r_const (i := 139) (u := 1) (z := 1) rfl rfl ?_
            refine r_isub (i := 140) rfl ?_
            exact r_retI (i := 141) rfl ⟨(S393.f 43 1) - 1, rfl, by omega, by omega, (by rw [← q_3]; exact Or.inl ⟨by omega, by unfold tyM; omega, by omega, by omega, 0, 1, 1, up, ⟨by omega, by omega, by omega, by omega, by omega⟩, by subst hS4 hS18 hS32 hS245 hS352 hS365 hS381 hS395; rfl, fun j => by subst hS4 hS18 hS32 hS245 hS352 hS365 hS381 hS395; rfl, fun j => by subst hS4 hS18 hS32 hS245 hS352 hS365 hS381 hS395; rfl, fun j => by subst hS4 hS18 hS32 hS245 hS352 hS365 hS381 hS395; rfl, fun j => by subst hS4 hS18 hS32 hS245 hS352 hS365 hS381 hS395; rfl, fun j => by subst hS4 hS18 hS32 hS245 hS352 hS365 hS381 hS395; rfl, fun j => by subst hS4 hS18 hS32 hS245 hS352 hS365 hS381 hS395; rfl⟩), hI394, hF396, hR397⟩
          · refine r_const (i := 127) (u := 4294967295) (z := -1) rfl rfl ?_
            refine r_goto (i := 128) (v := 130) rfl ?_
            refine s_int (i := 130) rfl ly49 rfl (by omega) (by omega) ⟨by omega, by omega⟩ ?_
            have hI411 := hI364.seta49 (j := (S363.f 43 1).toNat) (z := -1) (by omega) (by omega) (by omega)
            have hF413 := hF366.seta (b := 49) (j := (S363.f 43 1).toNat) (z := -1) rfl
            have hR414 := hR367.seta (b := 49) (j := (S363.f 43 1).toNat) (z := -1)
            refine yT_gen (fun S410 hS412 => ?_)
            rw [hS412] at hI411 hF413 hR414 
            refine r_load (i := 131) (u := 0) (w := 2) rfl rfl rfl ?_
            refine r_dup (i := 132) rfl rfl ?_
            have h415 := hI411.f tf43_1
            have h416 : S410.f 43 1 = S363.f 43 1 := by rw [← hS412]; rfl
            have h417 : S363.f 43 1 = S350.f 43 1 := by rw [← hS365]; rfl
            have h418 : S350.f 43 1 = S243.f 43 1 := by rw [← hS352]; rfl
            have h419 : S243.f 43 1 = S30.f 43 1 := by rw [← hS245]; rfl
            have h420 : S30.f 43 1 = S16.f 43 1 := by rw [← hS32]; rfl
            have h421 : S16.f 43 1 = S2.f 43 1 := by rw [← hS18]; rfl
            have h422 : S2.f 43 1 = S.f 43 1 := by rw [← hS4]; exact ysf_ne (by decide)
            refine r_getf (i := 133) (v := 1) (w := 11) (x := vi (S410.f 43 1)) rfl ly43 rfl rfl fun h423 => ?_
            have h423 : Rg (S410.f 43 1) := h423
            refine r_const (i := 134) (u := 1) (z := 1) rfl rfl ?_
            refine r_iadd (i := 135) rfl ?_
            refine r_putI (i := 136) (v := 1) (w := 11) rfl ly43 rfl ⟨by omega, by omega⟩ ?_
            have hI425 := hI411.setf (b := 43) (w := 1) (z := (S410.f 43 1) + 1) tf43_1 rfl (by omega) (by omega)
            have hF427 := hF413.setf (b := 43) (w := 1) (z := (S410.f 43 1) + 1) rfl
            have hR428 := hR414.setf (b := 43) (w := 1) (z := (S410.f 43 1) + 1)
            refine yT_gen (fun S424 hS426 => ?_)
            rw [hS426] at hI425 hF427 hR428 
            have h429 := hI425.f tf43_0
            have h430 : S424.f 43 0 = S410.f 43 0 := by rw [← hS426]; exact ysf_ne (by decide)
            have h431 : S410.f 43 0 = S363.f 43 0 := by rw [← hS412]; rfl
            have h432 : S363.f 43 0 = S350.f 43 0 := by rw [← hS365]; rfl
            have h433 : S350.f 43 0 = S243.f 43 0 := by rw [← hS352]; rfl
            have h434 : S243.f 43 0 = S30.f 43 0 := by rw [← hS245]; rfl
            have h435 : S30.f 43 0 = S16.f 43 0 := by rw [← hS32]; rfl
            have h436 : S16.f 43 0 = S2.f 43 0 := by rw [← hS18]; rfl
            have h437 : S2.f 43 0 = c0 := by rw [← hS4]; exact ysf_eq
            have h438 := hI425.f tf43_1
            have h439 : S424.f 43 1 = (S410.f 43 1) + 1 := by rw [← hS426]; exact ysf_eq
            refine r_load (i := 137) (u := 0) (w := 2) rfl rfl rfl ?_
            refine r_getf (i := 138) (v := 1) (w := 11) (x := vi (S424.f 43 1)) rfl ly43 rfl rfl fun h440 => ?_
            have h440 : Rg (S424.f 43 1) := h440
            refine r_const (i := 139) (u := 1) (z := 1) rfl rfl ?_
            refine r_isub (i := 140) rfl ?_
            exact r_retI (i := 141) rfl ⟨(S424.f 43 1) - 1, rfl, by omega, by omega, (by rw [← q_3]; exact Or.inl ⟨by omega, by unfold tyM; omega, by omega, by omega, 0, 1, 1, -1, ⟨by omega, by omega, by omega, by omega, by omega⟩, by subst hS4 hS18 hS32 hS245 hS352 hS365 hS412 hS426; rfl, fun j => by subst hS4 hS18 hS32 hS245 hS352 hS365 hS412 hS426; rfl, fun j => by subst hS4 hS18 hS32 hS245 hS352 hS365 hS412 hS426; rfl, fun j => by subst hS4 hS18 hS32 hS245 hS352 hS365 hS412 hS426; rfl, fun j => by subst hS4 hS18 hS32 hS245 hS352 hS365 hS412 hS426; rfl, fun j => by subst hS4 hS18 hS32 hS245 hS352 hS365 hS412 hS426; rfl, fun j => by subst hS4 hS18 hS32 hS245 hS352 hS365 hS412 hS426; rfl⟩), hI425, hF427, hR428⟩
    · refine r_const (i := 85) (u := 1) (z := 1) rfl rfl ?_
      refine r_goto (i := 86) (v := 88) rfl ?_
      refine s_bool (i := 88) rfl ly45 rfl (by omega) (by omega) (by omega) (by omega) ?_
      have hI442 := hI17.seta0 (b := 45) (j := (S16.f 43 1).toNat) (z := 1) rfl rfl
      have hF444 := hF19.seta (b := 45) (j := (S16.f 43 1).toNat) (z := 1) rfl
      have hR445 := hR20.seta (b := 45) (j := (S16.f 43 1).toNat) (z := 1)
      refine yT_gen (fun S441 hS443 => ?_)
      rw [hS443] at hI442 hF444 hR445 
      refine r_load (i := 89) (u := 0) (w := 2) rfl rfl rfl ?_
      refine r_getf (i := 90) (v := 4) (w := 11) (x := (2, 46)) rfl ly43 rfl rfl fun _ => ?_
      refine r_load (i := 91) (u := 0) (w := 2) rfl rfl rfl ?_
      have h447 := hI442.f tf43_1
      have h448 : S441.f 43 1 = S16.f 43 1 := by rw [← hS443]; rfl
      have h449 : S16.f 43 1 = S2.f 43 1 := by rw [← hS18]; rfl
      have h450 : S2.f 43 1 = S.f 43 1 := by rw [← hS4]; exact ysf_ne (by decide)
      refine r_getf (i := 92) (v := 1) (w := 11) (x := vi (S441.f 43 1)) rfl ly43 rfl rfl fun h451 => ?_
      have h451 : Rg (S441.f 43 1) := h451
      refine r_load (i := 93) (u := 2) (w := 0) rfl rfl rfl ?_
      refine r_const (i := 94) (u := 2) (z := 2) rfl rfl ?_
      refine r_iand (i := 95) rfl ?_
      have h452 := @yand_c bits 2 (by decide) (by decide)
      have h453 := yand_p2 bits
      refine r_const (i := 96) (u := 2) (z := 2) rfl rfl ?_
      refine c_ne (i := 97) (v := 100) rfl ⟨by omega, by omega⟩ ⟨by omega, by omega⟩ (fun h454 => ?_) (fun h455 => ?_)
      · refine r_const (i := 100) (u := 0) (z := 0) rfl rfl ?_
        refine s_bool (i := 101) rfl ly46 rfl (by omega) (by omega) (by omega) (by omega) ?_
        have hI457 := hI442.seta0 (b := 46) (j := (S441.f 43 1).toNat) (z := 0) rfl rfl
        have hF459 := hF444.seta (b := 46) (j := (S441.f 43 1).toNat) (z := 0) rfl
        have hR460 := hR445.seta (b := 46) (j := (S441.f 43 1).toNat) (z := 0)
        refine yT_gen (fun S456 hS458 => ?_)
        rw [hS458] at hI457 hF459 hR460 
        refine r_load (i := 102) (u := 0) (w := 2) rfl rfl rfl ?_
        refine r_getf (i := 103) (v := 5) (w := 11) (x := (2, 47)) rfl ly43 rfl rfl fun _ => ?_
        refine r_load (i := 104) (u := 0) (w := 2) rfl rfl rfl ?_
        have h462 := hI457.f tf43_1
        have h463 : S456.f 43 1 = S441.f 43 1 := by rw [← hS458]; rfl
        have h464 : S441.f 43 1 = S16.f 43 1 := by rw [← hS443]; rfl
        have h465 : S16.f 43 1 = S2.f 43 1 := by rw [← hS18]; rfl
        have h466 : S2.f 43 1 = S.f 43 1 := by rw [← hS4]; exact ysf_ne (by decide)
        refine r_getf (i := 105) (v := 1) (w := 11) (x := vi (S456.f 43 1)) rfl ly43 rfl rfl fun h467 => ?_
        have h467 : Rg (S456.f 43 1) := h467
        refine r_load (i := 106) (u := 2) (w := 0) rfl rfl rfl ?_
        refine r_const (i := 107) (u := 4) (z := 4) rfl rfl ?_
        refine r_iand (i := 108) rfl ?_
        have h468 := @yand_c bits 4 (by decide) (by decide)
        have h469 := yand_p4 bits
        refine r_const (i := 109) (u := 4) (z := 4) rfl rfl ?_
        refine c_ne (i := 110) (v := 113) rfl ⟨by omega, by omega⟩ ⟨by omega, by omega⟩ (fun h470 => ?_) (fun h471 => ?_)
        · refine r_const (i := 113) (u := 0) (z := 0) rfl rfl ?_
          refine s_bool (i := 114) rfl ly47 rfl (by omega) (by omega) (by omega) (by omega) ?_
          have hI473 := hI457.seta0 (b := 47) (j := (S456.f 43 1).toNat) (z := 0) rfl rfl
          have hF475 := hF459.seta (b := 47) (j := (S456.f 43 1).toNat) (z := 0) rfl
          have hR476 := hR460.seta (b := 47) (j := (S456.f 43 1).toNat) (z := 0)
          refine yT_gen (fun S472 hS474 => ?_)
          rw [hS474] at hI473 hF475 hR476 
          refine r_load (i := 115) (u := 0) (w := 2) rfl rfl rfl ?_
          refine r_getf (i := 116) (v := 6) (w := 11) (x := (2, 48)) rfl ly43 rfl rfl fun _ => ?_
          refine r_load (i := 117) (u := 0) (w := 2) rfl rfl rfl ?_
          have h478 := hI473.f tf43_1
          have h479 : S472.f 43 1 = S456.f 43 1 := by rw [← hS474]; rfl
          have h480 : S456.f 43 1 = S441.f 43 1 := by rw [← hS458]; rfl
          have h481 : S441.f 43 1 = S16.f 43 1 := by rw [← hS443]; rfl
          have h482 : S16.f 43 1 = S2.f 43 1 := by rw [← hS18]; rfl
          have h483 : S2.f 43 1 = S.f 43 1 := by rw [← hS4]; exact ysf_ne (by decide)
          refine r_getf (i := 118) (v := 1) (w := 11) (x := vi (S472.f 43 1)) rfl ly43 rfl rfl fun h484 => ?_
          have h484 : Rg (S472.f 43 1) := h484
          refine r_load (i := 119) (u := 3) (w := 0) rfl rfl rfl ?_
          refine s_int (i := 120) rfl ly48 rfl (by omega) (by omega) ⟨by omega, by omega⟩ ?_
          have hI486 := hI473.seta (b := 48) (j := (S472.f 43 1).toNat) (z := p) ta48 rfl (by omega) (by omega)
          have hF488 := hF475.seta (b := 48) (j := (S472.f 43 1).toNat) (z := p) rfl
          have hR489 := hR476.seta (b := 48) (j := (S472.f 43 1).toNat) (z := p)
          refine yT_gen (fun S485 hS487 => ?_)
          rw [hS487] at hI486 hF488 hR489 
          refine r_load (i := 121) (u := 0) (w := 2) rfl rfl rfl ?_
          refine r_getf (i := 122) (v := 7) (w := 11) (x := (2, 49)) rfl ly43 rfl rfl fun _ => ?_
          refine r_load (i := 123) (u := 0) (w := 2) rfl rfl rfl ?_
          have h491 := hI486.f tf43_1
          have h492 : S485.f 43 1 = S472.f 43 1 := by rw [← hS487]; rfl
          have h493 : S472.f 43 1 = S456.f 43 1 := by rw [← hS474]; rfl
          have h494 : S456.f 43 1 = S441.f 43 1 := by rw [← hS458]; rfl
          have h495 : S441.f 43 1 = S16.f 43 1 := by rw [← hS443]; rfl
          have h496 : S16.f 43 1 = S2.f 43 1 := by rw [← hS18]; rfl
          have h497 : S2.f 43 1 = S.f 43 1 := by rw [← hS4]; exact ysf_ne (by decide)
          refine r_getf (i := 124) (v := 1) (w := 11) (x := vi (S485.f 43 1)) rfl ly43 rfl rfl fun h498 => ?_
          have h498 : Rg (S485.f 43 1) := h498
          refine r_load (i := 125) (u := 1) (w := 0) rfl rfl rfl ?_
          refine z_eq (i := 126) (v := 129) rfl ⟨by omega, by omega⟩ (fun h499 => ?_) (fun h500 => ?_)
          · refine r_load (i := 129) (u := 4) (w := 0) rfl rfl rfl ?_
            refine s_int (i := 130) rfl ly49 rfl (by omega) (by omega) ⟨by omega, by omega⟩ ?_
            have hI502 := hI486.seta49 (j := (S485.f 43 1).toNat) (z := up) (by omega) (by omega) (by omega)
            have hF504 := hF488.seta (b := 49) (j := (S485.f 43 1).toNat) (z := up) rfl
            have hR505 := hR489.seta (b := 49) (j := (S485.f 43 1).toNat) (z := up)
            refine yT_gen (fun S501 hS503 => ?_)
            rw [hS503] at hI502 hF504 hR505 
            refine r_load (i := 131) (u := 0) (w := 2) rfl rfl rfl ?_
            refine r_dup (i := 132) rfl rfl ?_
            have h506 := hI502.f tf43_1
            have h507 : S501.f 43 1 = S485.f 43 1 := by rw [← hS503]; rfl
            have h508 : S485.f 43 1 = S472.f 43 1 := by rw [← hS487]; rfl
            have h509 : S472.f 43 1 = S456.f 43 1 := by rw [← hS474]; rfl
            have h510 : S456.f 43 1 = S441.f 43 1 := by rw [← hS458]; rfl
            have h511 : S441.f 43 1 = S16.f 43 1 := by rw [← hS443]; rfl
            have h512 : S16.f 43 1 = S2.f 43 1 := by rw [← hS18]; rfl
            have h513 : S2.f 43 1 = S.f 43 1 := by rw [← hS4]; exact ysf_ne (by decide)
            refine r_getf (i := 133) (v := 1) (w := 11) (x := vi (S501.f 43 1)) rfl ly43 rfl rfl fun h514 => ?_
            have h514 : Rg (S501.f 43 1) := h514
            refine r_const (i := 134) (u := 1) (z := 1) rfl rfl ?_
            refine r_iadd (i := 135) rfl ?_
            refine r_putI (i := 136) (v := 1) (w := 11) rfl ly43 rfl ⟨by omega, by omega⟩ ?_
            have hI516 := hI502.setf (b := 43) (w := 1) (z := (S501.f 43 1) + 1) tf43_1 rfl (by omega) (by omega)
            have hF518 := hF504.setf (b := 43) (w := 1) (z := (S501.f 43 1) + 1) rfl
            have hR519 := hR505.setf (b := 43) (w := 1) (z := (S501.f 43 1) + 1)
            refine yT_gen (fun S515 hS517 => ?_)
            rw [hS517] at hI516 hF518 hR519 
            have h520 := hI516.f tf43_0
            have h521 : S515.f 43 0 = S501.f 43 0 := by rw [← hS517]; exact ysf_ne (by decide)
            have h522 : S501.f 43 0 = S485.f 43 0 := by rw [← hS503]; rfl
            have h523 : S485.f 43 0 = S472.f 43 0 := by rw [← hS487]; rfl
            have h524 : S472.f 43 0 = S456.f 43 0 := by rw [← hS474]; rfl
            have h525 : S456.f 43 0 = S441.f 43 0 := by rw [← hS458]; rfl
            have h526 : S441.f 43 0 = S16.f 43 0 := by rw [← hS443]; rfl
            have h527 : S16.f 43 0 = S2.f 43 0 := by rw [← hS18]; rfl
            have h528 : S2.f 43 0 = c0 := by rw [← hS4]; exact ysf_eq
            have h529 := hI516.f tf43_1
            have h530 : S515.f 43 1 = (S501.f 43 1) + 1 := by rw [← hS517]; exact ysf_eq
            refine r_load (i := 137) (u := 0) (w := 2) rfl rfl rfl ?_
            refine r_getf (i := 138) (v := 1) (w := 11) (x := vi (S515.f 43 1)) rfl ly43 rfl rfl fun h531 => ?_
            have h531 : Rg (S515.f 43 1) := h531
            refine r_const (i := 139) (u := 1) (z := 1) rfl rfl ?_
            refine r_isub (i := 140) rfl ?_
            exact r_retI (i := 141) rfl ⟨(S515.f 43 1) - 1, rfl, by omega, by omega, (by rw [← q_3]; exact Or.inl ⟨by omega, by unfold tyM; omega, by omega, by omega, 1, 0, 0, up, ⟨by omega, by omega, by omega, by omega, by omega⟩, by subst hS4 hS18 hS443 hS458 hS474 hS487 hS503 hS517; rfl, fun j => by subst hS4 hS18 hS443 hS458 hS474 hS487 hS503 hS517; rfl, fun j => by subst hS4 hS18 hS443 hS458 hS474 hS487 hS503 hS517; rfl, fun j => by subst hS4 hS18 hS443 hS458 hS474 hS487 hS503 hS517; rfl, fun j => by subst hS4 hS18 hS443 hS458 hS474 hS487 hS503 hS517; rfl, fun j => by subst hS4 hS18 hS443 hS458 hS474 hS487 hS503 hS517; rfl, fun j => by subst hS4 hS18 hS443 hS458 hS474 hS487 hS503 hS517; rfl⟩), hI516, hF518, hR519⟩
          · refine r_const (i := 127) (u := 4294967295) (z := -1) rfl rfl ?_
            refine r_goto (i := 128) (v := 130) rfl ?_
            refine s_int (i := 130) rfl ly49 rfl (by omega) (by omega) ⟨by omega, by omega⟩ ?_
            have hI533 := hI486.seta49 (j := (S485.f 43 1).toNat) (z := -1) (by omega) (by omega) (by omega)
            have hF535 := hF488.seta (b := 49) (j := (S485.f 43 1).toNat) (z := -1) rfl
            have hR536 := hR489.seta (b := 49) (j := (S485.f 43 1).toNat) (z := -1)
            refine yT_gen (fun S532 hS534 => ?_)
            rw [hS534] at hI533 hF535 hR536 
            refine r_load (i := 131) (u := 0) (w := 2) rfl rfl rfl ?_
            refine r_dup (i := 132) rfl rfl ?_
            have h537 := hI533.f tf43_1
            have h538 : S532.f 43 1 = S485.f 43 1 := by rw [← hS534]; rfl
            have h539 : S485.f 43 1 = S472.f 43 1 := by rw [← hS487]; rfl
            have h540 : S472.f 43 1 = S456.f 43 1 := by rw [← hS474]; rfl
            have h541 : S456.f 43 1 = S441.f 43 1 := by rw [← hS458]; rfl
            have h542 : S441.f 43 1 = S16.f 43 1 := by rw [← hS443]; rfl
            have h543 : S16.f 43 1 = S2.f 43 1 := by rw [← hS18]; rfl
            have h544 : S2.f 43 1 = S.f 43 1 := by rw [← hS4]; exact ysf_ne (by decide)
            refine r_getf (i := 133) (v := 1) (w := 11) (x := vi (S532.f 43 1)) rfl ly43 rfl rfl fun h545 => ?_
            have h545 : Rg (S532.f 43 1) := h545
            refine r_const (i := 134) (u := 1) (z := 1) rfl rfl ?_
            refine r_iadd (i := 135) rfl ?_
            refine r_putI (i := 136) (v := 1) (w := 11) rfl ly43 rfl ⟨by omega, by omega⟩ ?_
            have hI547 := hI533.setf (b := 43) (w := 1) (z := (S532.f 43 1) + 1) tf43_1 rfl (by omega) (by omega)
            have hF549 := hF535.setf (b := 43) (w := 1) (z := (S532.f 43 1) + 1) rfl
            have hR550 := hR536.setf (b := 43) (w := 1) (z := (S532.f 43 1) + 1)
            refine yT_gen (fun S546 hS548 => ?_)
            rw [hS548] at hI547 hF549 hR550 
            have h551 := hI547.f tf43_0
            have h552 : S546.f 43 0 = S532.f 43 0 := by rw [← hS548]; exact ysf_ne (by decide)
            have h553 : S532.f 43 0 = S485.f 43 0 := by rw [← hS534]; rfl
            have h554 : S485.f 43 0 = S472.f 43 0 := by rw [← hS487]; rfl
            have h555 : S472.f 43 0 = S456.f 43 0 := by rw [← hS474]; rfl
            have h556 : S456.f 43 0 = S441.f 43 0 := by rw [← hS458]; rfl
            have h557 : S441.f 43 0 = S16.f 43 0 := by rw [← hS443]; rfl
            have h558 : S16.f 43 0 = S2.f 43 0 := by rw [← hS18]; rfl
            have h559 : S2.f 43 0 = c0 := by rw [← hS4]; exact ysf_eq
            have h560 := hI547.f tf43_1
            have h561 : S546.f 43 1 = (S532.f 43 1) + 1 := by rw [← hS548]; exact ysf_eq
            refine r_load (i := 137) (u := 0) (w := 2) rfl rfl rfl ?_
            refine r_getf (i := 138) (v := 1) (w := 11) (x := vi (S546.f 43 1)) rfl ly43 rfl rfl fun h562 => ?_
            have h562 : Rg (S546.f 43 1) := h562
            refine r_const (i := 139) (u := 1) (z := 1) rfl rfl ?_
            refine r_isub (i := 140) rfl ?_
            exact r_retI (i := 141) rfl ⟨(S546.f 43 1) - 1, rfl, by omega, by omega, (by rw [← q_3]; exact Or.inl ⟨by omega, by unfold tyM; omega, by omega, by omega, 1, 0, 0, -1, ⟨by omega, by omega, by omega, by omega, by omega⟩, by subst hS4 hS18 hS443 hS458 hS474 hS487 hS534 hS548; rfl, fun j => by subst hS4 hS18 hS443 hS458 hS474 hS487 hS534 hS548; rfl, fun j => by subst hS4 hS18 hS443 hS458 hS474 hS487 hS534 hS548; rfl, fun j => by subst hS4 hS18 hS443 hS458 hS474 hS487 hS534 hS548; rfl, fun j => by subst hS4 hS18 hS443 hS458 hS474 hS487 hS534 hS548; rfl, fun j => by subst hS4 hS18 hS443 hS458 hS474 hS487 hS534 hS548; rfl, fun j => by subst hS4 hS18 hS443 hS458 hS474 hS487 hS534 hS548; rfl⟩), hI547, hF549, hR550⟩
        · refine r_const (i := 111) (u := 1) (z := 1) rfl rfl ?_
          refine r_goto (i := 112) (v := 114) rfl ?_
          refine s_bool (i := 114) rfl ly47 rfl (by omega) (by omega) (by omega) (by omega) ?_
          have hI564 := hI457.seta0 (b := 47) (j := (S456.f 43 1).toNat) (z := 1) rfl rfl
          have hF566 := hF459.seta (b := 47) (j := (S456.f 43 1).toNat) (z := 1) rfl
          have hR567 := hR460.seta (b := 47) (j := (S456.f 43 1).toNat) (z := 1)
          refine yT_gen (fun S563 hS565 => ?_)
          rw [hS565] at hI564 hF566 hR567 
          refine r_load (i := 115) (u := 0) (w := 2) rfl rfl rfl ?_
          refine r_getf (i := 116) (v := 6) (w := 11) (x := (2, 48)) rfl ly43 rfl rfl fun _ => ?_
          refine r_load (i := 117) (u := 0) (w := 2) rfl rfl rfl ?_
          have h569 := hI564.f tf43_1
          have h570 : S563.f 43 1 = S456.f 43 1 := by rw [← hS565]; rfl
          have h571 : S456.f 43 1 = S441.f 43 1 := by rw [← hS458]; rfl
          have h572 : S441.f 43 1 = S16.f 43 1 := by rw [← hS443]; rfl
          have h573 : S16.f 43 1 = S2.f 43 1 := by rw [← hS18]; rfl
          have h574 : S2.f 43 1 = S.f 43 1 := by rw [← hS4]; exact ysf_ne (by decide)
          refine r_getf (i := 118) (v := 1) (w := 11) (x := vi (S563.f 43 1)) rfl ly43 rfl rfl fun h575 => ?_
          have h575 : Rg (S563.f 43 1) := h575
          refine r_load (i := 119) (u := 3) (w := 0) rfl rfl rfl ?_
          refine s_int (i := 120) rfl ly48 rfl (by omega) (by omega) ⟨by omega, by omega⟩ ?_
          have hI577 := hI564.seta (b := 48) (j := (S563.f 43 1).toNat) (z := p) ta48 rfl (by omega) (by omega)
          have hF579 := hF566.seta (b := 48) (j := (S563.f 43 1).toNat) (z := p) rfl
          have hR580 := hR567.seta (b := 48) (j := (S563.f 43 1).toNat) (z := p)
          refine yT_gen (fun S576 hS578 => ?_)
          rw [hS578] at hI577 hF579 hR580 
          refine r_load (i := 121) (u := 0) (w := 2) rfl rfl rfl ?_
          refine r_getf (i := 122) (v := 7) (w := 11) (x := (2, 49)) rfl ly43 rfl rfl fun _ => ?_
          refine r_load (i := 123) (u := 0) (w := 2) rfl rfl rfl ?_
          have h582 := hI577.f tf43_1
          have h583 : S576.f 43 1 = S563.f 43 1 := by rw [← hS578]; rfl
          have h584 : S563.f 43 1 = S456.f 43 1 := by rw [← hS565]; rfl
          have h585 : S456.f 43 1 = S441.f 43 1 := by rw [← hS458]; rfl
          have h586 : S441.f 43 1 = S16.f 43 1 := by rw [← hS443]; rfl
          have h587 : S16.f 43 1 = S2.f 43 1 := by rw [← hS18]; rfl
          have h588 : S2.f 43 1 = S.f 43 1 := by rw [← hS4]; exact ysf_ne (by decide)
          refine r_getf (i := 124) (v := 1) (w := 11) (x := vi (S576.f 43 1)) rfl ly43 rfl rfl fun h589 => ?_
          have h589 : Rg (S576.f 43 1) := h589
          refine r_load (i := 125) (u := 1) (w := 0) rfl rfl rfl ?_
          refine z_eq (i := 126) (v := 129) rfl ⟨by omega, by omega⟩ (fun h590 => ?_) (fun h591 => ?_)
          · refine r_load (i := 129) (u := 4) (w := 0) rfl rfl rfl ?_
            refine s_int (i := 130) rfl ly49 rfl (by omega) (by omega) ⟨by omega, by omega⟩ ?_
            have hI593 := hI577.seta49 (j := (S576.f 43 1).toNat) (z := up) (by omega) (by omega) (by omega)
            have hF595 := hF579.seta (b := 49) (j := (S576.f 43 1).toNat) (z := up) rfl
            have hR596 := hR580.seta (b := 49) (j := (S576.f 43 1).toNat) (z := up)
            refine yT_gen (fun S592 hS594 => ?_)
            rw [hS594] at hI593 hF595 hR596 
            refine r_load (i := 131) (u := 0) (w := 2) rfl rfl rfl ?_
            refine r_dup (i := 132) rfl rfl ?_
            have h597 := hI593.f tf43_1
            have h598 : S592.f 43 1 = S576.f 43 1 := by rw [← hS594]; rfl
            have h599 : S576.f 43 1 = S563.f 43 1 := by rw [← hS578]; rfl
            have h600 : S563.f 43 1 = S456.f 43 1 := by rw [← hS565]; rfl
            have h601 : S456.f 43 1 = S441.f 43 1 := by rw [← hS458]; rfl
            have h602 : S441.f 43 1 = S16.f 43 1 := by rw [← hS443]; rfl
            have h603 : S16.f 43 1 = S2.f 43 1 := by rw [← hS18]; rfl
            have h604 : S2.f 43 1 = S.f 43 1 := by rw [← hS4]; exact ysf_ne (by decide)
            refine r_getf (i := 133) (v := 1) (w := 11) (x := vi (S592.f 43 1)) rfl ly43 rfl rfl fun h605 => ?_
            have h605 : Rg (S592.f 43 1) := h605
            refine r_const (i := 134) (u := 1) (z := 1) rfl rfl ?_
            refine r_iadd (i := 135) rfl ?_
            refine r_putI (i := 136) (v := 1) (w := 11) rfl ly43 rfl ⟨by omega, by omega⟩ ?_
            have hI607 := hI593.setf (b := 43) (w := 1) (z := (S592.f 43 1) + 1) tf43_1 rfl (by omega) (by omega)
            have hF609 := hF595.setf (b := 43) (w := 1) (z := (S592.f 43 1) + 1) rfl
            have hR610 := hR596.setf (b := 43) (w := 1) (z := (S592.f 43 1) + 1)
            refine yT_gen (fun S606 hS608 => ?_)
            rw [hS608] at hI607 hF609 hR610 
            have h611 := hI607.f tf43_0
            have h612 : S606.f 43 0 = S592.f 43 0 := by rw [← hS608]; exact ysf_ne (by decide)
            have h613 : S592.f 43 0 = S576.f 43 0 := by rw [← hS594]; rfl
            have h614 : S576.f 43 0 = S563.f 43 0 := by rw [← hS578]; rfl
            have h615 : S563.f 43 0 = S456.f 43 0 := by rw [← hS565]; rfl
            have h616 : S456.f 43 0 = S441.f 43 0 := by rw [← hS458]; rfl
            have h617 : S441.f 43 0 = S16.f 43 0 := by rw [← hS443]; rfl
            have h618 : S16.f 43 0 = S2.f 43 0 := by rw [← hS18]; rfl
            have h619 : S2.f 43 0 = c0 := by rw [← hS4]; exact ysf_eq
            have h620 := hI607.f tf43_1
            have h621 : S606.f 43 1 = (S592.f 43 1) + 1 := by rw [← hS608]; exact ysf_eq
            refine r_load (i := 137) (u := 0) (w := 2) rfl rfl rfl ?_
            refine r_getf (i := 138) (v := 1) (w := 11) (x := vi (S606.f 43 1)) rfl ly43 rfl rfl fun h622 => ?_
            have h622 : Rg (S606.f 43 1) := h622
            refine r_const (i := 139) (u := 1) (z := 1) rfl rfl ?_
            refine r_isub (i := 140) rfl ?_
            exact r_retI (i := 141) rfl ⟨(S606.f 43 1) - 1, rfl, by omega, by omega, (by rw [← q_3]; exact Or.inl ⟨by omega, by unfold tyM; omega, by omega, by omega, 1, 0, 1, up, ⟨by omega, by omega, by omega, by omega, by omega⟩, by subst hS4 hS18 hS443 hS458 hS565 hS578 hS594 hS608; rfl, fun j => by subst hS4 hS18 hS443 hS458 hS565 hS578 hS594 hS608; rfl, fun j => by subst hS4 hS18 hS443 hS458 hS565 hS578 hS594 hS608; rfl, fun j => by subst hS4 hS18 hS443 hS458 hS565 hS578 hS594 hS608; rfl, fun j => by subst hS4 hS18 hS443 hS458 hS565 hS578 hS594 hS608; rfl, fun j => by subst hS4 hS18 hS443 hS458 hS565 hS578 hS594 hS608; rfl, fun j => by subst hS4 hS18 hS443 hS458 hS565 hS578 hS594 hS608; rfl⟩), hI607, hF609, hR610⟩
          · refine r_const (i := 127) (u := 4294967295) (z := -1) rfl rfl ?_
            refine r_goto (i := 128) (v := 130) rfl ?_
            refine s_int (i := 130) rfl ly49 rfl (by omega) (by omega) ⟨by omega, by omega⟩ ?_
            have hI624 := hI577.seta49 (j := (S576.f 43 1).toNat) (z := -1) (by omega) (by omega) (by omega)
            have hF626 := hF579.seta (b := 49) (j := (S576.f 43 1).toNat) (z := -1) rfl
            have hR627 := hR580.seta (b := 49) (j := (S576.f 43 1).toNat) (z := -1)
            refine yT_gen (fun S623 hS625 => ?_)
            rw [hS625] at hI624 hF626 hR627 
            refine r_load (i := 131) (u := 0) (w := 2) rfl rfl rfl ?_
            refine r_dup (i := 132) rfl rfl ?_
            have h628 := hI624.f tf43_1
            have h629 : S623.f 43 1 = S576.f 43 1 := by rw [← hS625]; rfl
            have h630 : S576.f 43 1 = S563.f 43 1 := by rw [← hS578]; rfl
            have h631 : S563.f 43 1 = S456.f 43 1 := by rw [← hS565]; rfl
            have h632 : S456.f 43 1 = S441.f 43 1 := by rw [← hS458]; rfl
            have h633 : S441.f 43 1 = S16.f 43 1 := by rw [← hS443]; rfl
            have h634 : S16.f 43 1 = S2.f 43 1 := by rw [← hS18]; rfl
            have h635 : S2.f 43 1 = S.f 43 1 := by rw [← hS4]; exact ysf_ne (by decide)
            refine r_getf (i := 133) (v := 1) (w := 11) (x := vi (S623.f 43 1)) rfl ly43 rfl rfl fun h636 => ?_
            have h636 : Rg (S623.f 43 1) := h636
            refine r_const (i := 134) (u := 1) (z := 1) rfl rfl ?_
            refine r_iadd (i := 135) rfl ?_
            refine r_putI (i := 136) (v := 1) (w := 11) rfl ly43 rfl ⟨by omega, by omega⟩ ?_
            have hI638 := hI624.setf (b := 43) (w := 1) (z := (S623.f 43 1) + 1) tf43_1 rfl (by omega) (by omega)
            have hF640 := hF626.setf (b := 43) (w := 1) (z := (S623.f 43 1) + 1) rfl
            have hR641 := hR627.setf (b := 43) (w := 1) (z := (S623.f 43 1) + 1)
            refine yT_gen (fun S637 hS639 => ?_)
            rw [hS639] at hI638 hF640 hR641 
            have h642 := hI638.f tf43_0
            have h643 : S637.f 43 0 = S623.f 43 0 := by rw [← hS639]; exact ysf_ne (by decide)
            have h644 : S623.f 43 0 = S576.f 43 0 := by rw [← hS625]; rfl
            have h645 : S576.f 43 0 = S563.f 43 0 := by rw [← hS578]; rfl
            have h646 : S563.f 43 0 = S456.f 43 0 := by rw [← hS565]; rfl
            have h647 : S456.f 43 0 = S441.f 43 0 := by rw [← hS458]; rfl
            have h648 : S441.f 43 0 = S16.f 43 0 := by rw [← hS443]; rfl
            have h649 : S16.f 43 0 = S2.f 43 0 := by rw [← hS18]; rfl
            have h650 : S2.f 43 0 = c0 := by rw [← hS4]; exact ysf_eq
            have h651 := hI638.f tf43_1
            have h652 : S637.f 43 1 = (S623.f 43 1) + 1 := by rw [← hS639]; exact ysf_eq
            refine r_load (i := 137) (u := 0) (w := 2) rfl rfl rfl ?_
            refine r_getf (i := 138) (v := 1) (w := 11) (x := vi (S637.f 43 1)) rfl ly43 rfl rfl fun h653 => ?_
            have h653 : Rg (S637.f 43 1) := h653
            refine r_const (i := 139) (u := 1) (z := 1) rfl rfl ?_
            refine r_isub (i := 140) rfl ?_
            exact r_retI (i := 141) rfl ⟨(S637.f 43 1) - 1, rfl, by omega, by omega, (by rw [← q_3]; exact Or.inl ⟨by omega, by unfold tyM; omega, by omega, by omega, 1, 0, 1, -1, ⟨by omega, by omega, by omega, by omega, by omega⟩, by subst hS4 hS18 hS443 hS458 hS565 hS578 hS625 hS639; rfl, fun j => by subst hS4 hS18 hS443 hS458 hS565 hS578 hS625 hS639; rfl, fun j => by subst hS4 hS18 hS443 hS458 hS565 hS578 hS625 hS639; rfl, fun j => by subst hS4 hS18 hS443 hS458 hS565 hS578 hS625 hS639; rfl, fun j => by subst hS4 hS18 hS443 hS458 hS565 hS578 hS625 hS639; rfl, fun j => by subst hS4 hS18 hS443 hS458 hS565 hS578 hS625 hS639; rfl, fun j => by subst hS4 hS18 hS443 hS458 hS565 hS578 hS625 hS639; rfl⟩), hI638, hF640, hR641⟩
      · refine r_const (i := 98) (u := 1) (z := 1) rfl rfl ?_
        refine r_goto (i := 99) (v := 101) rfl ?_
        refine s_bool (i := 101) rfl ly46 rfl (by omega) (by omega) (by omega) (by omega) ?_
        have hI655 := hI442.seta0 (b := 46) (j := (S441.f 43 1).toNat) (z := 1) rfl rfl
        have hF657 := hF444.seta (b := 46) (j := (S441.f 43 1).toNat) (z := 1) rfl
        have hR658 := hR445.seta (b := 46) (j := (S441.f 43 1).toNat) (z := 1)
        refine yT_gen (fun S654 hS656 => ?_)
        rw [hS656] at hI655 hF657 hR658 
        refine r_load (i := 102) (u := 0) (w := 2) rfl rfl rfl ?_
        refine r_getf (i := 103) (v := 5) (w := 11) (x := (2, 47)) rfl ly43 rfl rfl fun _ => ?_
        refine r_load (i := 104) (u := 0) (w := 2) rfl rfl rfl ?_
        have h660 := hI655.f tf43_1
        have h661 : S654.f 43 1 = S441.f 43 1 := by rw [← hS656]; rfl
        have h662 : S441.f 43 1 = S16.f 43 1 := by rw [← hS443]; rfl
        have h663 : S16.f 43 1 = S2.f 43 1 := by rw [← hS18]; rfl
        have h664 : S2.f 43 1 = S.f 43 1 := by rw [← hS4]; exact ysf_ne (by decide)
        refine r_getf (i := 105) (v := 1) (w := 11) (x := vi (S654.f 43 1)) rfl ly43 rfl rfl fun h665 => ?_
        have h665 : Rg (S654.f 43 1) := h665
        refine r_load (i := 106) (u := 2) (w := 0) rfl rfl rfl ?_
        refine r_const (i := 107) (u := 4) (z := 4) rfl rfl ?_
        refine r_iand (i := 108) rfl ?_
        have h666 := @yand_c bits 4 (by decide) (by decide)
        have h667 := yand_p4 bits
        refine r_const (i := 109) (u := 4) (z := 4) rfl rfl ?_
        refine c_ne (i := 110) (v := 113) rfl ⟨by omega, by omega⟩ ⟨by omega, by omega⟩ (fun h668 => ?_) (fun h669 => ?_)
        · refine r_const (i := 113) (u := 0) (z := 0) rfl rfl ?_
          refine s_bool (i := 114) rfl ly47 rfl (by omega) (by omega) (by omega) (by omega) ?_
          have hI671 := hI655.seta0 (b := 47) (j := (S654.f 43 1).toNat) (z := 0) rfl rfl
          have hF673 := hF657.seta (b := 47) (j := (S654.f 43 1).toNat) (z := 0) rfl
          have hR674 := hR658.seta (b := 47) (j := (S654.f 43 1).toNat) (z := 0)
          refine yT_gen (fun S670 hS672 => ?_)
          rw [hS672] at hI671 hF673 hR674 
          refine r_load (i := 115) (u := 0) (w := 2) rfl rfl rfl ?_
          refine r_getf (i := 116) (v := 6) (w := 11) (x := (2, 48)) rfl ly43 rfl rfl fun _ => ?_
          refine r_load (i := 117) (u := 0) (w := 2) rfl rfl rfl ?_
          have h676 := hI671.f tf43_1
          have h677 : S670.f 43 1 = S654.f 43 1 := by rw [← hS672]; rfl
          have h678 : S654.f 43 1 = S441.f 43 1 := by rw [← hS656]; rfl
          have h679 : S441.f 43 1 = S16.f 43 1 := by rw [← hS443]; rfl
          have h680 : S16.f 43 1 = S2.f 43 1 := by rw [← hS18]; rfl
          have h681 : S2.f 43 1 = S.f 43 1 := by rw [← hS4]; exact ysf_ne (by decide)
          refine r_getf (i := 118) (v := 1) (w := 11) (x := vi (S670.f 43 1)) rfl ly43 rfl rfl fun h682 => ?_
          have h682 : Rg (S670.f 43 1) := h682
          refine r_load (i := 119) (u := 3) (w := 0) rfl rfl rfl ?_
          refine s_int (i := 120) rfl ly48 rfl (by omega) (by omega) ⟨by omega, by omega⟩ ?_
          have hI684 := hI671.seta (b := 48) (j := (S670.f 43 1).toNat) (z := p) ta48 rfl (by omega) (by omega)
          have hF686 := hF673.seta (b := 48) (j := (S670.f 43 1).toNat) (z := p) rfl
          have hR687 := hR674.seta (b := 48) (j := (S670.f 43 1).toNat) (z := p)
          refine yT_gen (fun S683 hS685 => ?_)
          rw [hS685] at hI684 hF686 hR687 
          refine r_load (i := 121) (u := 0) (w := 2) rfl rfl rfl ?_
          refine r_getf (i := 122) (v := 7) (w := 11) (x := (2, 49)) rfl ly43 rfl rfl fun _ => ?_
          refine r_load (i := 123) (u := 0) (w := 2) rfl rfl rfl ?_
          have h689 := hI684.f tf43_1
          have h690 : S683.f 43 1 = S670.f 43 1 := by rw [← hS685]; rfl
          have h691 : S670.f 43 1 = S654.f 43 1 := by rw [← hS672]; rfl
          have h692 : S654.f 43 1 = S441.f 43 1 := by rw [← hS656]; rfl
          have h693 : S441.f 43 1 = S16.f 43 1 := by rw [← hS443]; rfl
          have h694 : S16.f 43 1 = S2.f 43 1 := by rw [← hS18]; rfl
          have h695 : S2.f 43 1 = S.f 43 1 := by rw [← hS4]; exact ysf_ne (by decide)
          refine r_getf (i := 124) (v := 1) (w := 11) (x := vi (S683.f 43 1)) rfl ly43 rfl rfl fun h696 => ?_
          have h696 : Rg (S683.f 43 1) := h696
          refine r_load (i := 125) (u := 1) (w := 0) rfl rfl rfl ?_
          refine z_eq (i := 126) (v := 129) rfl ⟨by omega, by omega⟩ (fun h697 => ?_) (fun h698 => ?_)
          · refine r_load (i := 129) (u := 4) (w := 0) rfl rfl rfl ?_
            refine s_int (i := 130) rfl ly49 rfl (by omega) (by omega) ⟨by omega, by omega⟩ ?_
            have hI700 := hI684.seta49 (j := (S683.f 43 1).toNat) (z := up) (by omega) (by omega) (by omega)
            have hF702 := hF686.seta (b := 49) (j := (S683.f 43 1).toNat) (z := up) rfl
            have hR703 := hR687.seta (b := 49) (j := (S683.f 43 1).toNat) (z := up)
            refine yT_gen (fun S699 hS701 => ?_)
            rw [hS701] at hI700 hF702 hR703 
            refine r_load (i := 131) (u := 0) (w := 2) rfl rfl rfl ?_
            refine r_dup (i := 132) rfl rfl ?_
            have h704 := hI700.f tf43_1
            have h705 : S699.f 43 1 = S683.f 43 1 := by rw [← hS701]; rfl
            have h706 : S683.f 43 1 = S670.f 43 1 := by rw [← hS685]; rfl
            have h707 : S670.f 43 1 = S654.f 43 1 := by rw [← hS672]; rfl
            have h708 : S654.f 43 1 = S441.f 43 1 := by rw [← hS656]; rfl
            have h709 : S441.f 43 1 = S16.f 43 1 := by rw [← hS443]; rfl
            have h710 : S16.f 43 1 = S2.f 43 1 := by rw [← hS18]; rfl
            have h711 : S2.f 43 1 = S.f 43 1 := by rw [← hS4]; exact ysf_ne (by decide)
            refine r_getf (i := 133) (v := 1) (w := 11) (x := vi (S699.f 43 1)) rfl ly43 rfl rfl fun h712 => ?_
            have h712 : Rg (S699.f 43 1) := h712
            refine r_const (i := 134) (u := 1) (z := 1) rfl rfl ?_
            refine r_iadd (i := 135) rfl ?_
            refine r_putI (i := 136) (v := 1) (w := 11) rfl ly43 rfl ⟨by omega, by omega⟩ ?_
            have hI714 := hI700.setf (b := 43) (w := 1) (z := (S699.f 43 1) + 1) tf43_1 rfl (by omega) (by omega)
            have hF716 := hF702.setf (b := 43) (w := 1) (z := (S699.f 43 1) + 1) rfl
            have hR717 := hR703.setf (b := 43) (w := 1) (z := (S699.f 43 1) + 1)
            refine yT_gen (fun S713 hS715 => ?_)
            rw [hS715] at hI714 hF716 hR717 
            have h718 := hI714.f tf43_0
            have h719 : S713.f 43 0 = S699.f 43 0 := by rw [← hS715]; exact ysf_ne (by decide)
            have h720 : S699.f 43 0 = S683.f 43 0 := by rw [← hS701]; rfl
            have h721 : S683.f 43 0 = S670.f 43 0 := by rw [← hS685]; rfl
            have h722 : S670.f 43 0 = S654.f 43 0 := by rw [← hS672]; rfl
            have h723 : S654.f 43 0 = S441.f 43 0 := by rw [← hS656]; rfl
            have h724 : S441.f 43 0 = S16.f 43 0 := by rw [← hS443]; rfl
            have h725 : S16.f 43 0 = S2.f 43 0 := by rw [← hS18]; rfl
            have h726 : S2.f 43 0 = c0 := by rw [← hS4]; exact ysf_eq
            have h727 := hI714.f tf43_1
            have h728 : S713.f 43 1 = (S699.f 43 1) + 1 := by rw [← hS715]; exact ysf_eq
            refine r_load (i := 137) (u := 0) (w := 2) rfl rfl rfl ?_
            refine r_getf (i := 138) (v := 1) (w := 11) (x := vi (S713.f 43 1)) rfl ly43 rfl rfl fun h729 => ?_
            have h729 : Rg (S713.f 43 1) := h729
            refine r_const (i := 139) (u := 1) (z := 1) rfl rfl ?_
            refine r_isub (i := 140) rfl ?_
            exact r_retI (i := 141) rfl ⟨(S713.f 43 1) - 1, rfl, by omega, by omega, (by rw [← q_3]; exact Or.inl ⟨by omega, by unfold tyM; omega, by omega, by omega, 1, 1, 0, up, ⟨by omega, by omega, by omega, by omega, by omega⟩, by subst hS4 hS18 hS443 hS656 hS672 hS685 hS701 hS715; rfl, fun j => by subst hS4 hS18 hS443 hS656 hS672 hS685 hS701 hS715; rfl, fun j => by subst hS4 hS18 hS443 hS656 hS672 hS685 hS701 hS715; rfl, fun j => by subst hS4 hS18 hS443 hS656 hS672 hS685 hS701 hS715; rfl, fun j => by subst hS4 hS18 hS443 hS656 hS672 hS685 hS701 hS715; rfl, fun j => by subst hS4 hS18 hS443 hS656 hS672 hS685 hS701 hS715; rfl, fun j => by subst hS4 hS18 hS443 hS656 hS672 hS685 hS701 hS715; rfl⟩), hI714, hF716, hR717⟩
          · refine r_const (i := 127) (u := 4294967295) (z := -1) rfl rfl ?_
            refine r_goto (i := 128) (v := 130) rfl ?_
            refine s_int (i := 130) rfl ly49 rfl (by omega) (by omega) ⟨by omega, by omega⟩ ?_
            have hI731 := hI684.seta49 (j := (S683.f 43 1).toNat) (z := -1) (by omega) (by omega) (by omega)
            have hF733 := hF686.seta (b := 49) (j := (S683.f 43 1).toNat) (z := -1) rfl
            have hR734 := hR687.seta (b := 49) (j := (S683.f 43 1).toNat) (z := -1)
            refine yT_gen (fun S730 hS732 => ?_)
            rw [hS732] at hI731 hF733 hR734 
            refine r_load (i := 131) (u := 0) (w := 2) rfl rfl rfl ?_
            refine r_dup (i := 132) rfl rfl ?_
            have h735 := hI731.f tf43_1
            have h736 : S730.f 43 1 = S683.f 43 1 := by rw [← hS732]; rfl
            have h737 : S683.f 43 1 = S670.f 43 1 := by rw [← hS685]; rfl
            have h738 : S670.f 43 1 = S654.f 43 1 := by rw [← hS672]; rfl
            have h739 : S654.f 43 1 = S441.f 43 1 := by rw [← hS656]; rfl
            have h740 : S441.f 43 1 = S16.f 43 1 := by rw [← hS443]; rfl
            have h741 : S16.f 43 1 = S2.f 43 1 := by rw [← hS18]; rfl
            have h742 : S2.f 43 1 = S.f 43 1 := by rw [← hS4]; exact ysf_ne (by decide)
            refine r_getf (i := 133) (v := 1) (w := 11) (x := vi (S730.f 43 1)) rfl ly43 rfl rfl fun h743 => ?_
            have h743 : Rg (S730.f 43 1) := h743
            refine r_const (i := 134) (u := 1) (z := 1) rfl rfl ?_
            refine r_iadd (i := 135) rfl ?_
            refine r_putI (i := 136) (v := 1) (w := 11) rfl ly43 rfl ⟨by omega, by omega⟩ ?_
            have hI745 := hI731.setf (b := 43) (w := 1) (z := (S730.f 43 1) + 1) tf43_1 rfl (by omega) (by omega)
            have hF747 := hF733.setf (b := 43) (w := 1) (z := (S730.f 43 1) + 1) rfl
            have hR748 := hR734.setf (b := 43) (w := 1) (z := (S730.f 43 1) + 1)
            refine yT_gen (fun S744 hS746 => ?_)
            rw [hS746] at hI745 hF747 hR748 
            have h749 := hI745.f tf43_0
            have h750 : S744.f 43 0 = S730.f 43 0 := by rw [← hS746]; exact ysf_ne (by decide)
            have h751 : S730.f 43 0 = S683.f 43 0 := by rw [← hS732]; rfl
            have h752 : S683.f 43 0 = S670.f 43 0 := by rw [← hS685]; rfl
            have h753 : S670.f 43 0 = S654.f 43 0 := by rw [← hS672]; rfl
            have h754 : S654.f 43 0 = S441.f 43 0 := by rw [← hS656]; rfl
            have h755 : S441.f 43 0 = S16.f 43 0 := by rw [← hS443]; rfl
            have h756 : S16.f 43 0 = S2.f 43 0 := by rw [← hS18]; rfl
            have h757 : S2.f 43 0 = c0 := by rw [← hS4]; exact ysf_eq
            have h758 := hI745.f tf43_1
            have h759 : S744.f 43 1 = (S730.f 43 1) + 1 := by rw [← hS746]; exact ysf_eq
            refine r_load (i := 137) (u := 0) (w := 2) rfl rfl rfl ?_
            refine r_getf (i := 138) (v := 1) (w := 11) (x := vi (S744.f 43 1)) rfl ly43 rfl rfl fun h760 => ?_
            have h760 : Rg (S744.f 43 1) := h760
            refine r_const (i := 139) (u := 1) (z := 1) rfl rfl ?_
            refine r_isub (i := 140) rfl ?_
            exact r_retI (i := 141) rfl ⟨(S744.f 43 1) - 1, rfl, by omega, by omega, (by rw [← q_3]; exact Or.inl ⟨by omega, by unfold tyM; omega, by omega, by omega, 1, 1, 0, -1, ⟨by omega, by omega, by omega, by omega, by omega⟩, by subst hS4 hS18 hS443 hS656 hS672 hS685 hS732 hS746; rfl, fun j => by subst hS4 hS18 hS443 hS656 hS672 hS685 hS732 hS746; rfl, fun j => by subst hS4 hS18 hS443 hS656 hS672 hS685 hS732 hS746; rfl, fun j => by subst hS4 hS18 hS443 hS656 hS672 hS685 hS732 hS746; rfl, fun j => by subst hS4 hS18 hS443 hS656 hS672 hS685 hS732 hS746; rfl, fun j => by subst hS4 hS18 hS443 hS656 hS672 hS685 hS732 hS746; rfl, fun j => by subst hS4 hS18 hS443 hS656 hS672 hS685 hS732 hS746; rfl⟩), hI745, hF747, hR748⟩
        · refine r_const (i := 111) (u := 1) (z := 1) rfl rfl ?_
          refine r_goto (i := 112) (v := 114) rfl ?_
          refine s_bool (i := 114) rfl ly47 rfl (by omega) (by omega) (by omega) (by omega) ?_
          have hI762 := hI655.seta0 (b := 47) (j := (S654.f 43 1).toNat) (z := 1) rfl rfl
          have hF764 := hF657.seta (b := 47) (j := (S654.f 43 1).toNat) (z := 1) rfl
          have hR765 := hR658.seta (b := 47) (j := (S654.f 43 1).toNat) (z := 1)
          refine yT_gen (fun S761 hS763 => ?_)
          rw [hS763] at hI762 hF764 hR765 
          refine r_load (i := 115) (u := 0) (w := 2) rfl rfl rfl ?_
          refine r_getf (i := 116) (v := 6) (w := 11) (x := (2, 48)) rfl ly43 rfl rfl fun _ => ?_
          refine r_load (i := 117) (u := 0) (w := 2) rfl rfl rfl ?_
          have h767 := hI762.f tf43_1
          have h768 : S761.f 43 1 = S654.f 43 1 := by rw [← hS763]; rfl
          have h769 : S654.f 43 1 = S441.f 43 1 := by rw [← hS656]; rfl
          have h770 : S441.f 43 1 = S16.f 43 1 := by rw [← hS443]; rfl
          have h771 : S16.f 43 1 = S2.f 43 1 := by rw [← hS18]; rfl
          have h772 : S2.f 43 1 = S.f 43 1 := by rw [← hS4]; exact ysf_ne (by decide)
          refine r_getf (i := 118) (v := 1) (w := 11) (x := vi (S761.f 43 1)) rfl ly43 rfl rfl fun h773 => ?_
          have h773 : Rg (S761.f 43 1) := h773
          refine r_load (i := 119) (u := 3) (w := 0) rfl rfl rfl ?_
          refine s_int (i := 120) rfl ly48 rfl (by omega) (by omega) ⟨by omega, by omega⟩ ?_
          have hI775 := hI762.seta (b := 48) (j := (S761.f 43 1).toNat) (z := p) ta48 rfl (by omega) (by omega)
          have hF777 := hF764.seta (b := 48) (j := (S761.f 43 1).toNat) (z := p) rfl
          have hR778 := hR765.seta (b := 48) (j := (S761.f 43 1).toNat) (z := p)
          refine yT_gen (fun S774 hS776 => ?_)
          rw [hS776] at hI775 hF777 hR778 
          refine r_load (i := 121) (u := 0) (w := 2) rfl rfl rfl ?_
          refine r_getf (i := 122) (v := 7) (w := 11) (x := (2, 49)) rfl ly43 rfl rfl fun _ => ?_
          refine r_load (i := 123) (u := 0) (w := 2) rfl rfl rfl ?_
          have h780 := hI775.f tf43_1
          have h781 : S774.f 43 1 = S761.f 43 1 := by rw [← hS776]; rfl
          have h782 : S761.f 43 1 = S654.f 43 1 := by rw [← hS763]; rfl
          have h783 : S654.f 43 1 = S441.f 43 1 := by rw [← hS656]; rfl
          have h784 : S441.f 43 1 = S16.f 43 1 := by rw [← hS443]; rfl
          have h785 : S16.f 43 1 = S2.f 43 1 := by rw [← hS18]; rfl
          have h786 : S2.f 43 1 = S.f 43 1 := by rw [← hS4]; exact ysf_ne (by decide)
          refine r_getf (i := 124) (v := 1) (w := 11) (x := vi (S774.f 43 1)) rfl ly43 rfl rfl fun h787 => ?_
          have h787 : Rg (S774.f 43 1) := h787
          refine r_load (i := 125) (u := 1) (w := 0) rfl rfl rfl ?_
          refine z_eq (i := 126) (v := 129) rfl ⟨by omega, by omega⟩ (fun h788 => ?_) (fun h789 => ?_)
          · refine r_load (i := 129) (u := 4) (w := 0) rfl rfl rfl ?_
            refine s_int (i := 130) rfl ly49 rfl (by omega) (by omega) ⟨by omega, by omega⟩ ?_
            have hI791 := hI775.seta49 (j := (S774.f 43 1).toNat) (z := up) (by omega) (by omega) (by omega)
            have hF793 := hF777.seta (b := 49) (j := (S774.f 43 1).toNat) (z := up) rfl
            have hR794 := hR778.seta (b := 49) (j := (S774.f 43 1).toNat) (z := up)
            refine yT_gen (fun S790 hS792 => ?_)
            rw [hS792] at hI791 hF793 hR794 
            refine r_load (i := 131) (u := 0) (w := 2) rfl rfl rfl ?_
            refine r_dup (i := 132) rfl rfl ?_
            have h795 := hI791.f tf43_1
            have h796 : S790.f 43 1 = S774.f 43 1 := by rw [← hS792]; rfl
            have h797 : S774.f 43 1 = S761.f 43 1 := by rw [← hS776]; rfl
            have h798 : S761.f 43 1 = S654.f 43 1 := by rw [← hS763]; rfl
            have h799 : S654.f 43 1 = S441.f 43 1 := by rw [← hS656]; rfl
            have h800 : S441.f 43 1 = S16.f 43 1 := by rw [← hS443]; rfl
            have h801 : S16.f 43 1 = S2.f 43 1 := by rw [← hS18]; rfl
            have h802 : S2.f 43 1 = S.f 43 1 := by rw [← hS4]; exact ysf_ne (by decide)
            refine r_getf (i := 133) (v := 1) (w := 11) (x := vi (S790.f 43 1)) rfl ly43 rfl rfl fun h803 => ?_
            have h803 : Rg (S790.f 43 1) := h803
            refine r_const (i := 134) (u := 1) (z := 1) rfl rfl ?_
            refine r_iadd (i := 135) rfl ?_
            refine r_putI (i := 136) (v := 1) (w := 11) rfl ly43 rfl ⟨by omega, by omega⟩ ?_
            have hI805 := hI791.setf (b := 43) (w := 1) (z := (S790.f 43 1) + 1) tf43_1 rfl (by omega) (by omega)
            have hF807 := hF793.setf (b := 43) (w := 1) (z := (S790.f 43 1) + 1) rfl
            have hR808 := hR794.setf (b := 43) (w := 1) (z := (S790.f 43 1) + 1)
            refine yT_gen (fun S804 hS806 => ?_)
            rw [hS806] at hI805 hF807 hR808 
            have h809 := hI805.f tf43_0
            have h810 : S804.f 43 0 = S790.f 43 0 := by rw [← hS806]; exact ysf_ne (by decide)
            have h811 : S790.f 43 0 = S774.f 43 0 := by rw [← hS792]; rfl
            have h812 : S774.f 43 0 = S761.f 43 0 := by rw [← hS776]; rfl
            have h813 : S761.f 43 0 = S654.f 43 0 := by rw [← hS763]; rfl
            have h814 : S654.f 43 0 = S441.f 43 0 := by rw [← hS656]; rfl
            have h815 : S441.f 43 0 = S16.f 43 0 := by rw [← hS443]; rfl
            have h816 : S16.f 43 0 = S2.f 43 0 := by rw [← hS18]; rfl
            have h817 : S2.f 43 0 = c0 := by rw [← hS4]; exact ysf_eq
            have h818 := hI805.f tf43_1
            have h819 : S804.f 43 1 = (S790.f 43 1) + 1 := by rw [← hS806]; exact ysf_eq
            refine r_load (i := 137) (u := 0) (w := 2) rfl rfl rfl ?_
            refine r_getf (i := 138) (v := 1) (w := 11) (x := vi (S804.f 43 1)) rfl ly43 rfl rfl fun h820 => ?_
            have h820 : Rg (S804.f 43 1) := h820
            refine r_const (i := 139) (u := 1) (z := 1) rfl rfl ?_
            refine r_isub (i := 140) rfl ?_
            exact r_retI (i := 141) rfl ⟨(S804.f 43 1) - 1, rfl, by omega, by omega, (by rw [← q_3]; exact Or.inl ⟨by omega, by unfold tyM; omega, by omega, by omega, 1, 1, 1, up, ⟨by omega, by omega, by omega, by omega, by omega⟩, by subst hS4 hS18 hS443 hS656 hS763 hS776 hS792 hS806; rfl, fun j => by subst hS4 hS18 hS443 hS656 hS763 hS776 hS792 hS806; rfl, fun j => by subst hS4 hS18 hS443 hS656 hS763 hS776 hS792 hS806; rfl, fun j => by subst hS4 hS18 hS443 hS656 hS763 hS776 hS792 hS806; rfl, fun j => by subst hS4 hS18 hS443 hS656 hS763 hS776 hS792 hS806; rfl, fun j => by subst hS4 hS18 hS443 hS656 hS763 hS776 hS792 hS806; rfl, fun j => by subst hS4 hS18 hS443 hS656 hS763 hS776 hS792 hS806; rfl⟩), hI805, hF807, hR808⟩
          · refine r_const (i := 127) (u := 4294967295) (z := -1) rfl rfl ?_
            refine r_goto (i := 128) (v := 130) rfl ?_
            refine s_int (i := 130) rfl ly49 rfl (by omega) (by omega) ⟨by omega, by omega⟩ ?_
            have hI822 := hI775.seta49 (j := (S774.f 43 1).toNat) (z := -1) (by omega) (by omega) (by omega)
            have hF824 := hF777.seta (b := 49) (j := (S774.f 43 1).toNat) (z := -1) rfl
            have hR825 := hR778.seta (b := 49) (j := (S774.f 43 1).toNat) (z := -1)
            refine yT_gen (fun S821 hS823 => ?_)
            rw [hS823] at hI822 hF824 hR825 
            refine r_load (i := 131) (u := 0) (w := 2) rfl rfl rfl ?_
            refine r_dup (i := 132) rfl rfl ?_
            have h826 := hI822.f tf43_1
            have h827 : S821.f 43 1 = S774.f 43 1 := by rw [← hS823]; rfl
            have h828 : S774.f 43 1 = S761.f 43 1 := by rw [← hS776]; rfl
            have h829 : S761.f 43 1 = S654.f 43 1 := by rw [← hS763]; rfl
            have h830 : S654.f 43 1 = S441.f 43 1 := by rw [← hS656]; rfl
            have h831 : S441.f 43 1 = S16.f 43 1 := by rw [← hS443]; rfl
            have h832 : S16.f 43 1 = S2.f 43 1 := by rw [← hS18]; rfl
            have h833 : S2.f 43 1 = S.f 43 1 := by rw [← hS4]; exact ysf_ne (by decide)
            refine r_getf (i := 133) (v := 1) (w := 11) (x := vi (S821.f 43 1)) rfl ly43 rfl rfl fun h834 => ?_
            have h834 : Rg (S821.f 43 1) := h834
            refine r_const (i := 134) (u := 1) (z := 1) rfl rfl ?_
            refine r_iadd (i := 135) rfl ?_
            refine r_putI (i := 136) (v := 1) (w := 11) rfl ly43 rfl ⟨by omega, by omega⟩ ?_
            have hI836 := hI822.setf (b := 43) (w := 1) (z := (S821.f 43 1) + 1) tf43_1 rfl (by omega) (by omega)
            have hF838 := hF824.setf (b := 43) (w := 1) (z := (S821.f 43 1) + 1) rfl
            have hR839 := hR825.setf (b := 43) (w := 1) (z := (S821.f 43 1) + 1)
            refine yT_gen (fun S835 hS837 => ?_)
            rw [hS837] at hI836 hF838 hR839 
            have h840 := hI836.f tf43_0
            have h841 : S835.f 43 0 = S821.f 43 0 := by rw [← hS837]; exact ysf_ne (by decide)
            have h842 : S821.f 43 0 = S774.f 43 0 := by rw [← hS823]; rfl
            have h843 : S774.f 43 0 = S761.f 43 0 := by rw [← hS776]; rfl
            have h844 : S761.f 43 0 = S654.f 43 0 := by rw [← hS763]; rfl
            have h845 : S654.f 43 0 = S441.f 43 0 := by rw [← hS656]; rfl
            have h846 : S441.f 43 0 = S16.f 43 0 := by rw [← hS443]; rfl
            have h847 : S16.f 43 0 = S2.f 43 0 := by rw [← hS18]; rfl
            have h848 : S2.f 43 0 = c0 := by rw [← hS4]; exact ysf_eq
            have h849 := hI836.f tf43_1
            have h850 : S835.f 43 1 = (S821.f 43 1) + 1 := by rw [← hS837]; exact ysf_eq
            refine r_load (i := 137) (u := 0) (w := 2) rfl rfl rfl ?_
            refine r_getf (i := 138) (v := 1) (w := 11) (x := vi (S835.f 43 1)) rfl ly43 rfl rfl fun h851 => ?_
            have h851 : Rg (S835.f 43 1) := h851
            refine r_const (i := 139) (u := 1) (z := 1) rfl rfl ?_
            refine r_isub (i := 140) rfl ?_
            exact r_retI (i := 141) rfl ⟨(S835.f 43 1) - 1, rfl, by omega, by omega, (by rw [← q_3]; exact Or.inl ⟨by omega, by unfold tyM; omega, by omega, by omega, 1, 1, 1, -1, ⟨by omega, by omega, by omega, by omega, by omega⟩, by subst hS4 hS18 hS443 hS656 hS763 hS776 hS823 hS837; rfl, fun j => by subst hS4 hS18 hS443 hS656 hS763 hS776 hS823 hS837; rfl, fun j => by subst hS4 hS18 hS443 hS656 hS763 hS776 hS823 hS837; rfl, fun j => by subst hS4 hS18 hS443 hS656 hS763 hS776 hS823 hS837; rfl, fun j => by subst hS4 hS18 hS443 hS656 hS763 hS776 hS823 hS837; rfl, fun j => by subst hS4 hS18 hS443 hS656 hS763 hS776 hS823 hS837; rfl, fun j => by subst hS4 hS18 hS443 hS656 hS763 hS776 hS823 hS837; rfl⟩), hI836, hF838, hR839⟩
  · have h852 := hI3.f tf43_1
    have h853 : S2.f 43 1 = S.f 43 1 := by rw [← hS4]; exact ysf_ne (by decide)
    refine r_const (i := 68) (u := 0) (z := 0) rfl rfl ?_
    exact r_retI (i := 69) rfl ⟨0, rfl, by omega, by omega, (by rw [← q_3]; rcases (show c0 = 1 ∨ c0 = 2 by omega) with e9 | e9 <;> first | exact Or.inr (Or.inl ⟨by omega, by unfold tyM; omega, by subst hS4; rfl, fun j => by subst hS4; exact ⟨rfl, rfl, rfl, rfl, rfl, rfl⟩⟩) | exact Or.inr (Or.inr ⟨by omega, by unfold tyM; omega, by omega, by subst hS4; rfl, fun j => by subst hS4; exact ⟨rfl, rfl, rfl, rfl, rfl, rfl⟩⟩)), hI3, hF5, hR6⟩
theorem lp259_30 {G : xk} {d : Nat} {S0 : yS} {b : Int} (h_b : 0 ≤ b ∧ b ≤ 1) {bits : Int} (h_bits : -2147483648 ≤ bits ∧ bits ≤ 2147483647) {p : Int} (h_p : -2147483648 ≤ p ∧ p ≤ 2147483647) {up : Int} (h_up : -2147483648 ≤ up ∧ up ≤ 2147483647) (hd : 0 ≤ d) : ∀ (S : yS) (hI : yI S) (hF : yFr [(43, 0), (43, 1)] [44, 45, 46, 47, 48, 49] S0 S) (hR : yRm [] S0 S) (g0 : Int) (h_g0 : 0 ≤ g0 ∧ g0 ≤ 1) (q_0 : g0 = 1 → 0 ≤ bits ∧ bits < 8 ∧ yand bits 6 ≠ 6 ∧ (b ≠ 0 → yand bits 6 = 0) ∧ 0 ≤ p ∧ p < 4 ∧ 0 ≤ up ∧ up < S.f 43 1) (q_1 : g0 = 0 → ¬ (0 ≤ bits ∧ bits < 8 ∧ yand bits 6 ≠ 6 ∧ (b ≠ 0 → yand bits 6 = 0) ∧ 0 ≤ p ∧ p < 4 ∧ 0 ≤ up ∧ up < S.f 43 1)) (q_2 : S = S0), yT xPr G LY xC259 30 [some ((2, 43)), some (vi b), some (vi bits), some (vi p), some (vi up), none] [vi g0] S d (fun r S' => ∃ z : Int, r = (1, vi z) ∧ 0 ≤ z ∧ z ≤ 20 ∧ mTyQ S0 S' b bits p up z ∧ yI S' ∧ yFr [(43, 0), (43, 1)] [44, 45, 46, 47, 48, 49] S0 S' ∧ yRm [] S0 S') := by
  intro S hI hF hR g0 h_g0 q_0 q_1 q_2
  have h1 := hI.f tf43_1
  refine r_store (i := 30) (u := 5) (w := 0) (L1 := [some ((2, 43)), some (vi b), some (vi bits), some (vi p), some (vi up), some (vi g0)]) rfl rfl rfl rfl ?_
  refine r_load (i := 31) (u := 5) (w := 0) rfl rfl rfl ?_
  refine z_eq (i := 32) (v := 50) rfl ⟨by omega, by omega⟩ (fun h2 => ?_) (fun h3 => ?_)
  · refine r_const (i := 50) (u := 0) (z := 0) rfl rfl ?_
    refine r_store (i := 51) (u := 5) (w := 0) (L1 := [some ((2, 43)), some (vi b), some (vi bits), some (vi p), some (vi up), some (vi 0)]) rfl rfl rfl rfl ?_
    refine r_load (i := 52) (u := 0) (w := 2) rfl rfl rfl ?_
    refine r_load (i := 53) (u := 5) (w := 0) rfl rfl rfl ?_
    refine z_ne (i := 54) (v := 57) rfl ⟨by omega, by omega⟩ (fun h4 => absurd h4 (by omega)) (fun h5 => ?_)
    refine r_const (i := 55) (u := 1) (z := 1) rfl rfl ?_
    refine r_goto (i := 56) (v := 64) rfl ?_
    exact lp259_64 h_b h_bits h_p h_up  hd S hI hF hR 0 1 ⟨by omega, by omega⟩ ⟨by omega, by omega⟩ (by omega) (by omega) (by omega) (by first | rfl | assumption) 
  · refine r_load (i := 33) (u := 1) (w := 0) rfl rfl rfl ?_
    refine z_eq (i := 34) (v := 38) rfl ⟨by omega, by omega⟩ (fun h6 => ?_) (fun h7 => ?_)
    · refine r_load (i := 38) (u := 0) (w := 2) rfl rfl rfl ?_
      refine r_getf (i := 39) (v := 2) (w := 11) (x := (2, 44)) rfl ly43 rfl rfl fun _ => ?_
      refine r_load (i := 40) (u := 4) (w := 0) rfl rfl rfl ?_
      refine a_bool (i := 41) rfl ly44 rfl (by omega) (by omega) fun h9 => ?_
      refine z_ne (i := 42) (v := 50) rfl ⟨by omega, by omega⟩ (fun h10 => ?_) (fun h11 => ?_)
      · refine r_const (i := 50) (u := 0) (z := 0) rfl rfl ?_
        refine r_store (i := 51) (u := 5) (w := 0) (L1 := [some ((2, 43)), some (vi b), some (vi bits), some (vi p), some (vi up), some (vi 0)]) rfl rfl rfl rfl ?_
        refine r_load (i := 52) (u := 0) (w := 2) rfl rfl rfl ?_
        refine r_load (i := 53) (u := 5) (w := 0) rfl rfl rfl ?_
        refine z_ne (i := 54) (v := 57) rfl ⟨by omega, by omega⟩ (fun h12 => absurd h12 (by omega)) (fun h13 => ?_)
        refine r_const (i := 55) (u := 1) (z := 1) rfl rfl ?_
        refine r_goto (i := 56) (v := 64) rfl ?_
        exact lp259_64 h_b h_bits h_p h_up  hd S hI hF hR 0 1 ⟨by omega, by omega⟩ ⟨by omega, by omega⟩ (by omega) (by omega) (by omega) (by first | rfl | assumption) 
      · refine r_load (i := 43) (u := 0) (w := 2) rfl rfl rfl ?_
        refine r_getf (i := 44) (v := 4) (w := 11) (x := (2, 46)) rfl ly43 rfl rfl fun _ => ?_
        refine r_load (i := 45) (u := 4) (w := 0) rfl rfl rfl ?_
        refine a_bool (i := 46) rfl ly46 rfl (by omega) (by omega) fun h15 => ?_
        refine z_ne (i := 47) (v := 50) rfl ⟨by omega, by omega⟩ (fun h16 => ?_) (fun h17 => ?_)
        · refine r_const (i := 50) (u := 0) (z := 0) rfl rfl ?_
          refine r_store (i := 51) (u := 5) (w := 0) (L1 := [some ((2, 43)), some (vi b), some (vi bits), some (vi p), some (vi up), some (vi 0)]) rfl rfl rfl rfl ?_
          refine r_load (i := 52) (u := 0) (w := 2) rfl rfl rfl ?_
          refine r_load (i := 53) (u := 5) (w := 0) rfl rfl rfl ?_
          refine z_ne (i := 54) (v := 57) rfl ⟨by omega, by omega⟩ (fun h18 => absurd h18 (by omega)) (fun h19 => ?_)
          refine r_const (i := 55) (u := 1) (z := 1) rfl rfl ?_
          refine r_goto (i := 56) (v := 64) rfl ?_
          exact lp259_64 h_b h_bits h_p h_up  hd S hI hF hR 0 1 ⟨by omega, by omega⟩ ⟨by omega, by omega⟩ (by omega) (by omega) (by omega) (by first | rfl | assumption) 
        · refine r_const (i := 48) (u := 1) (z := 1) rfl rfl ?_
          refine r_goto (i := 49) (v := 51) rfl ?_
          refine r_store (i := 51) (u := 5) (w := 0) (L1 := [some ((2, 43)), some (vi b), some (vi bits), some (vi p), some (vi up), some (vi 1)]) rfl rfl rfl rfl ?_
          refine r_load (i := 52) (u := 0) (w := 2) rfl rfl rfl ?_
          refine r_load (i := 53) (u := 5) (w := 0) rfl rfl rfl ?_
          refine z_ne (i := 54) (v := 57) rfl ⟨by omega, by omega⟩ (fun h20 => ?_) (fun h21 => absurd h21 (by omega))
          refine r_load (i := 57) (u := 0) (w := 2) rfl rfl rfl ?_
          refine r_getf (i := 58) (v := 1) (w := 11) (x := vi (S.f 43 1)) rfl ly43 rfl rfl fun h22 => ?_
          have h22 : Rg (S.f 43 1) := h22
          refine r_const (i := 59) (u := 20) (z := 20) rfl rfl ?_
          refine c_ne (i := 60) (v := 63) rfl ⟨by omega, by omega⟩ ⟨by omega, by omega⟩ (fun h23 => ?_) (fun h24 => ?_)
          · refine r_const (i := 63) (u := 0) (z := 0) rfl rfl ?_
            exact lp259_64 h_b h_bits h_p h_up  hd S hI hF hR 1 0 ⟨by omega, by omega⟩ ⟨by omega, by omega⟩ (by omega) (by omega) (by omega) (by first | rfl | assumption) 
          · refine r_const (i := 61) (u := 2) (z := 2) rfl rfl ?_
            refine r_goto (i := 62) (v := 64) rfl ?_
            exact lp259_64 h_b h_bits h_p h_up  hd S hI hF hR 1 2 ⟨by omega, by omega⟩ ⟨by omega, by omega⟩ (by omega) (by omega) (by omega) (by first | rfl | assumption) 
    · refine r_load (i := 35) (u := 4) (w := 0) rfl rfl rfl ?_
      refine z_ne (i := 36) (v := 50) rfl ⟨by omega, by omega⟩ (fun h25 => ?_) (fun h26 => ?_)
      · refine r_const (i := 50) (u := 0) (z := 0) rfl rfl ?_
        refine r_store (i := 51) (u := 5) (w := 0) (L1 := [some ((2, 43)), some (vi b), some (vi bits), some (vi p), some (vi up), some (vi 0)]) rfl rfl rfl rfl ?_
        refine r_load (i := 52) (u := 0) (w := 2) rfl rfl rfl ?_
        refine r_load (i := 53) (u := 5) (w := 0) rfl rfl rfl ?_
        refine z_ne (i := 54) (v := 57) rfl ⟨by omega, by omega⟩ (fun h27 => absurd h27 (by omega)) (fun h28 => ?_)
        refine r_const (i := 55) (u := 1) (z := 1) rfl rfl ?_
        refine r_goto (i := 56) (v := 64) rfl ?_
        exact lp259_64 h_b h_bits h_p h_up  hd S hI hF hR 0 1 ⟨by omega, by omega⟩ ⟨by omega, by omega⟩ (by omega) (by omega) (by omega) (by first | rfl | assumption) 
      · refine r_goto (i := 37) (v := 48) rfl ?_
        refine r_const (i := 48) (u := 1) (z := 1) rfl rfl ?_
        refine r_goto (i := 49) (v := 51) rfl ?_
        refine r_store (i := 51) (u := 5) (w := 0) (L1 := [some ((2, 43)), some (vi b), some (vi bits), some (vi p), some (vi up), some (vi 1)]) rfl rfl rfl rfl ?_
        refine r_load (i := 52) (u := 0) (w := 2) rfl rfl rfl ?_
        refine r_load (i := 53) (u := 5) (w := 0) rfl rfl rfl ?_
        refine z_ne (i := 54) (v := 57) rfl ⟨by omega, by omega⟩ (fun h29 => ?_) (fun h30 => absurd h30 (by omega))
        refine r_load (i := 57) (u := 0) (w := 2) rfl rfl rfl ?_
        refine r_getf (i := 58) (v := 1) (w := 11) (x := vi (S.f 43 1)) rfl ly43 rfl rfl fun h31 => ?_
        have h31 : Rg (S.f 43 1) := h31
        refine r_const (i := 59) (u := 20) (z := 20) rfl rfl ?_
        refine c_ne (i := 60) (v := 63) rfl ⟨by omega, by omega⟩ ⟨by omega, by omega⟩ (fun h32 => ?_) (fun h33 => ?_)
        · refine r_const (i := 63) (u := 0) (z := 0) rfl rfl ?_
          exact lp259_64 h_b h_bits h_p h_up  hd S hI hF hR 1 0 ⟨by omega, by omega⟩ ⟨by omega, by omega⟩ (by omega) (by omega) (by omega) (by first | rfl | assumption) 
        · refine r_const (i := 61) (u := 2) (z := 2) rfl rfl ?_
          refine r_goto (i := 62) (v := 64) rfl ?_
          exact lp259_64 h_b h_bits h_p h_up  hd S hI hF hR 1 2 ⟨by omega, by omega⟩ ⟨by omega, by omega⟩ (by omega) (by omega) (by omega) (by first | rfl | assumption) 
/-- ProxyForgeModel.type -/
theorem sp259 {G : xk} {S : yS} {d : Nat} (hI : yI S) {b : Int} (h_b : 0 ≤ b ∧ b ≤ 1) {bits : Int} (h_bits : -2147483648 ≤ bits ∧ bits ≤ 2147483647) {p : Int} (h_p : -2147483648 ≤ p ∧ p ≤ 2147483647) {up : Int} (h_up : -2147483648 ≤ up ∧ up ≤ 2147483647) (hd : 0 ≤ d) : yT xPr G LY xC259 0 [some ((2, 43)), some (vi b), some (vi bits), some (vi p), some (vi up)] [] S d (fun r S' => ∃ z : Int, r = (1, vi z) ∧ 0 ≤ z ∧ z ≤ 20 ∧ mTyQ S S' b bits p up z ∧ yI S' ∧ yFr [(43, 0), (43, 1)] [44, 45, 46, 47, 48, 49] S S' ∧ yRm [] S S') := by
  refine yT_pad 1 ?_
  show yT xPr G LY xC259 0 [some ((2, 43)), some (vi b), some (vi bits), some (vi p), some (vi up), none] [] S d _
  have hF : yFr [(43, 0), (43, 1)] [44, 45, 46, 47, 48, 49] S S := yFr.refl S
  have hR : yRm [] S S := yRm.refl S
  refine r_load (i := 0) (u := 2) (w := 0) rfl rfl rfl ?_
  refine z_lt (i := 1) (v := 29) rfl ⟨by omega, by omega⟩ (fun h1 => ?_) (fun h2 => ?_)
  · refine r_const (i := 29) (u := 0) (z := 0) rfl rfl ?_
    have h3 := hI.f tf43_1
    exact lp259_30 h_b h_bits h_p h_up  hd S hI hF hR 0 ⟨by omega, by omega⟩ (by omega) (by omega) (by first | rfl | assumption) 
  · refine r_load (i := 2) (u := 2) (w := 0) rfl rfl rfl ?_
    refine r_const (i := 3) (u := 8) (z := 8) rfl rfl ?_
    refine c_ge (i := 4) (v := 29) rfl ⟨by omega, by omega⟩ ⟨by omega, by omega⟩ (fun h4 => ?_) (fun h5 => ?_)
    · refine r_const (i := 29) (u := 0) (z := 0) rfl rfl ?_
      have h6 := hI.f tf43_1
      exact lp259_30 h_b h_bits h_p h_up  hd S hI hF hR 0 ⟨by omega, by omega⟩ (by omega) (by omega) (by first | rfl | assumption) 
    · refine r_load (i := 5) (u := 2) (w := 0) rfl rfl rfl ?_
      refine r_const (i := 6) (u := 6) (z := 6) rfl rfl ?_
      refine r_iand (i := 7) rfl ?_
      have h7 := @yand_c bits 6 (by decide) (by decide)
      refine r_const (i := 8) (u := 6) (z := 6) rfl rfl ?_
      refine c_eq (i := 9) (v := 29) rfl ⟨by omega, by omega⟩ ⟨by omega, by omega⟩ (fun h8 => ?_) (fun h9 => ?_)
      · refine r_const (i := 29) (u := 0) (z := 0) rfl rfl ?_
        have h10 := hI.f tf43_1
        exact lp259_30 h_b h_bits h_p h_up  hd S hI hF hR 0 ⟨by omega, by omega⟩ (by omega) (by omega) (by first | rfl | assumption) 
      · refine r_load (i := 10) (u := 1) (w := 0) rfl rfl rfl ?_
        refine z_eq (i := 11) (v := 16) rfl ⟨by omega, by omega⟩ (fun h11 => ?_) (fun h12 => ?_)
        · refine r_load (i := 16) (u := 3) (w := 0) rfl rfl rfl ?_
          refine z_lt (i := 17) (v := 29) rfl ⟨by omega, by omega⟩ (fun h13 => ?_) (fun h14 => ?_)
          · refine r_const (i := 29) (u := 0) (z := 0) rfl rfl ?_
            have h15 := hI.f tf43_1
            exact lp259_30 h_b h_bits h_p h_up  hd S hI hF hR 0 ⟨by omega, by omega⟩ (by omega) (by omega) (by first | rfl | assumption) 
          · refine r_load (i := 18) (u := 3) (w := 0) rfl rfl rfl ?_
            refine r_const (i := 19) (u := 4) (z := 4) rfl rfl ?_
            refine c_ge (i := 20) (v := 29) rfl ⟨by omega, by omega⟩ ⟨by omega, by omega⟩ (fun h16 => ?_) (fun h17 => ?_)
            · refine r_const (i := 29) (u := 0) (z := 0) rfl rfl ?_
              have h18 := hI.f tf43_1
              exact lp259_30 h_b h_bits h_p h_up  hd S hI hF hR 0 ⟨by omega, by omega⟩ (by omega) (by omega) (by first | rfl | assumption) 
            · refine r_load (i := 21) (u := 4) (w := 0) rfl rfl rfl ?_
              refine z_lt (i := 22) (v := 29) rfl ⟨by omega, by omega⟩ (fun h19 => ?_) (fun h20 => ?_)
              · refine r_const (i := 29) (u := 0) (z := 0) rfl rfl ?_
                have h21 := hI.f tf43_1
                exact lp259_30 h_b h_bits h_p h_up  hd S hI hF hR 0 ⟨by omega, by omega⟩ (by omega) (by omega) (by first | rfl | assumption) 
              · refine r_load (i := 23) (u := 4) (w := 0) rfl rfl rfl ?_
                refine r_load (i := 24) (u := 0) (w := 2) rfl rfl rfl ?_
                have h22 := hI.f tf43_1
                refine r_getf (i := 25) (v := 1) (w := 11) (x := vi (S.f 43 1)) rfl ly43 rfl rfl fun h23 => ?_
                have h23 : Rg (S.f 43 1) := h23
                refine c_ge (i := 26) (v := 29) rfl ⟨by omega, by omega⟩ ⟨by omega, by omega⟩ (fun h24 => ?_) (fun h25 => ?_)
                · refine r_const (i := 29) (u := 0) (z := 0) rfl rfl ?_
                  exact lp259_30 h_b h_bits h_p h_up  hd S hI hF hR 0 ⟨by omega, by omega⟩ (by omega) (by omega) (by first | rfl | assumption) 
                · refine r_const (i := 27) (u := 1) (z := 1) rfl rfl ?_
                  refine r_goto (i := 28) (v := 30) rfl ?_
                  exact lp259_30 h_b h_bits h_p h_up  hd S hI hF hR 1 ⟨by omega, by omega⟩ (by omega) (by omega) (by first | rfl | assumption) 
        · refine r_load (i := 12) (u := 2) (w := 0) rfl rfl rfl ?_
          refine r_const (i := 13) (u := 6) (z := 6) rfl rfl ?_
          refine r_iand (i := 14) rfl ?_
          have h26 := @yand_c bits 6 (by decide) (by decide)
          refine z_ne (i := 15) (v := 29) rfl ⟨by omega, by omega⟩ (fun h27 => ?_) (fun h28 => ?_)
          · refine r_const (i := 29) (u := 0) (z := 0) rfl rfl ?_
            have h29 := hI.f tf43_1
            exact lp259_30 h_b h_bits h_p h_up  hd S hI hF hR 0 ⟨by omega, by omega⟩ (by omega) (by omega) (by first | rfl | assumption) 
          · refine r_load (i := 16) (u := 3) (w := 0) rfl rfl rfl ?_
            refine z_lt (i := 17) (v := 29) rfl ⟨by omega, by omega⟩ (fun h30 => ?_) (fun h31 => ?_)
            · refine r_const (i := 29) (u := 0) (z := 0) rfl rfl ?_
              have h32 := hI.f tf43_1
              exact lp259_30 h_b h_bits h_p h_up  hd S hI hF hR 0 ⟨by omega, by omega⟩ (by omega) (by omega) (by first | rfl | assumption) 
            · refine r_load (i := 18) (u := 3) (w := 0) rfl rfl rfl ?_
              refine r_const (i := 19) (u := 4) (z := 4) rfl rfl ?_
              refine c_ge (i := 20) (v := 29) rfl ⟨by omega, by omega⟩ ⟨by omega, by omega⟩ (fun h33 => ?_) (fun h34 => ?_)
              · refine r_const (i := 29) (u := 0) (z := 0) rfl rfl ?_
                have h35 := hI.f tf43_1
                exact lp259_30 h_b h_bits h_p h_up  hd S hI hF hR 0 ⟨by omega, by omega⟩ (by omega) (by omega) (by first | rfl | assumption) 
              · refine r_load (i := 21) (u := 4) (w := 0) rfl rfl rfl ?_
                refine z_lt (i := 22) (v := 29) rfl ⟨by omega, by omega⟩ (fun h36 => ?_) (fun h37 => ?_)
                · refine r_const (i := 29) (u := 0) (z := 0) rfl rfl ?_
                  have h38 := hI.f tf43_1
                  exact lp259_30 h_b h_bits h_p h_up  hd S hI hF hR 0 ⟨by omega, by omega⟩ (by omega) (by omega) (by first | rfl | assumption) 
                · refine r_load (i := 23) (u := 4) (w := 0) rfl rfl rfl ?_
                  refine r_load (i := 24) (u := 0) (w := 2) rfl rfl rfl ?_
                  have h39 := hI.f tf43_1
                  refine r_getf (i := 25) (v := 1) (w := 11) (x := vi (S.f 43 1)) rfl ly43 rfl rfl fun h40 => ?_
                  have h40 : Rg (S.f 43 1) := h40
                  refine c_ge (i := 26) (v := 29) rfl ⟨by omega, by omega⟩ ⟨by omega, by omega⟩ (fun h41 => ?_) (fun h42 => ?_)
                  · refine r_const (i := 29) (u := 0) (z := 0) rfl rfl ?_
                    exact lp259_30 h_b h_bits h_p h_up  hd S hI hF hR 0 ⟨by omega, by omega⟩ (by omega) (by omega) (by first | rfl | assumption) 
                  · refine r_const (i := 27) (u := 1) (z := 1) rfl rfl ?_
                    refine r_goto (i := 28) (v := 30) rfl ?_
                    exact lp259_30 h_b h_bits h_p h_up  hd S hI hF hR 1 ⟨by omega, by omega⟩ (by omega) (by omega) (by first | rfl | assumption) 
/-- ProxyForgeModel.slots -/
theorem sp244 {G : xk} {S : yS} {d : Nat} (hI : yI S)  (hd : 0 ≤ d) : yT xPr G LY xC244 0 [some ((2, 43))] [] S d (fun r S' => ∃ z : Int, r = (1, vi z) ∧ 0 ≤ z ∧ z ≤ 24 ∧ z = S.f 43 20 ∧ yI S' ∧ yFr [(43, 0)] [] S S' ∧ yRm [] S S') := by
  refine yT_pad 0 ?_
  show yT xPr G LY xC244 0 [some ((2, 43))] [] S d _
  have hF : yFr [(43, 0)] [] S S := yFr.refl S
  have hR : yRm [] S S := yRm.refl S
  refine r_load (i := 0) (u := 0) (w := 2) rfl rfl rfl ?_
  refine r_const (i := 1) (u := 0) (z := 0) rfl rfl ?_
  refine r_putI (i := 2) (v := 0) (w := 11) rfl ly43 rfl ⟨by omega, by omega⟩ ?_
  have hI2 := hI.setf (b := 43) (w := 0) (z := 0) tf43_0 rfl (by omega) (by omega)
  have hF4 := hF.setf (b := 43) (w := 0) (z := 0) rfl
  have hR5 := hR.setf (b := 43) (w := 0) (z := 0)
  refine yT_gen (fun S1 hS3 => ?_)
  rw [hS3] at hI2 hF4 hR5 
  refine r_load (i := 3) (u := 0) (w := 2) rfl rfl rfl ?_
  have h6 := hI2.f tf43_20
  have h7 : S1.f 43 20 = S.f 43 20 := by rw [← hS3]; exact ysf_ne (by decide)
  refine r_getf (i := 4) (v := 20) (w := 11) (x := vi (S1.f 43 20)) rfl ly43 rfl rfl fun h8 => ?_
  have h8 : Rg (S1.f 43 20) := h8
  exact r_retI (i := 5) rfl ⟨S1.f 43 20, rfl, by omega, by omega, (by omega), hI2, hF4, hR5⟩
/-- ProxyForgeModel.slot -/
theorem sp243 {G : xk} {S : yS} {d : Nat} (hI : yI S) {k : Int} (h_k : -2147483648 ≤ k ∧ k ≤ 2147483647) (hd : 0 ≤ d) : yT xPr G LY xC243 0 [some ((2, 43)), some (vi k)] [] S d (fun r S' => ∃ z : Int, r = (1, vi z) ∧ -1 ≤ z ∧ z ≤ 59 ∧ ((z = -1 ∧ ¬ (0 ≤ k ∧ k < S.f 43 20)) ∨ ((0 ≤ k ∧ k < S.f 43 20) ∧ z = S.a 60 k.toNat)) ∧ yI S' ∧ yFr [(43, 0)] [] S S' ∧ yRm [] S S') := by
  refine yT_pad 0 ?_
  show yT xPr G LY xC243 0 [some ((2, 43)), some (vi k)] [] S d _
  have hF : yFr [(43, 0)] [] S S := yFr.refl S
  have hR : yRm [] S S := yRm.refl S
  refine r_load (i := 0) (u := 0) (w := 2) rfl rfl rfl ?_
  refine r_const (i := 1) (u := 0) (z := 0) rfl rfl ?_
  refine r_putI (i := 2) (v := 0) (w := 11) rfl ly43 rfl ⟨by omega, by omega⟩ ?_
  have hI2 := hI.setf (b := 43) (w := 0) (z := 0) tf43_0 rfl (by omega) (by omega)
  have hF4 := hF.setf (b := 43) (w := 0) (z := 0) rfl
  have hR5 := hR.setf (b := 43) (w := 0) (z := 0)
  refine yT_gen (fun S1 hS3 => ?_)
  rw [hS3] at hI2 hF4 hR5 
  refine r_load (i := 3) (u := 1) (w := 0) rfl rfl rfl ?_
  refine z_lt (i := 4) (v := 9) rfl ⟨by omega, by omega⟩ (fun h6 => ?_) (fun h7 => ?_)
  · refine r_const (i := 9) (u := 4294967295) (z := -1) rfl rfl ?_
    refine r_goto (i := 10) (v := 15) rfl ?_
    exact r_retI (i := 15) rfl ⟨-1, rfl, by omega, by omega, (by omega), hI2, hF4, hR5⟩
  · refine r_load (i := 5) (u := 1) (w := 0) rfl rfl rfl ?_
    refine r_load (i := 6) (u := 0) (w := 2) rfl rfl rfl ?_
    have h8 := hI2.f tf43_20
    have h9 : S1.f 43 20 = S.f 43 20 := by rw [← hS3]; exact ysf_ne (by decide)
    refine r_getf (i := 7) (v := 20) (w := 11) (x := vi (S1.f 43 20)) rfl ly43 rfl rfl fun h10 => ?_
    have h10 : Rg (S1.f 43 20) := h10
    refine c_lt (i := 8) (v := 11) rfl ⟨by omega, by omega⟩ ⟨by omega, by omega⟩ (fun h11 => ?_) (fun h12 => ?_)
    · refine r_load (i := 11) (u := 0) (w := 2) rfl rfl rfl ?_
      refine r_getf (i := 12) (v := 23) (w := 11) (x := (2, 60)) rfl ly43 rfl rfl fun _ => ?_
      refine r_load (i := 13) (u := 1) (w := 0) rfl rfl rfl ?_
      refine a_int (i := 14) rfl ly60 rfl (by omega) (by omega) fun h14 => ?_
      have h15 := hI2.a ta60 k.toNat
      have h16 : S1.a 60 k.toNat = S.a 60 k.toNat := by rw [← hS3]; rfl
      exact r_retI (i := 15) rfl ⟨S1.a 60 k.toNat, rfl, by omega, by omega, (by omega), hI2, hF4, hR5⟩
    · refine r_const (i := 9) (u := 4294967295) (z := -1) rfl rfl ?_
      refine r_goto (i := 10) (v := 15) rfl ?_
      exact r_retI (i := 15) rfl ⟨-1, rfl, by omega, by omega, (by omega), hI2, hF4, hR5⟩
/-- ProxyForgeModel.asked -/
theorem sp184 {G : xk} {S : yS} {d : Nat} (hI : yI S)  (hd : 0 ≤ d) : yT xPr G LY xC184 0 [some ((2, 43))] [] S d (fun r S' => ∃ z : Int, r = (1, vi z) ∧ -1 ≤ z ∧ z ≤ 23 ∧ yI S' ∧ yFr [(43, 0)] [] S S' ∧ yRm [] S S') := by
  refine yT_pad 0 ?_
  show yT xPr G LY xC184 0 [some ((2, 43))] [] S d _
  have hF : yFr [(43, 0)] [] S S := yFr.refl S
  have hR : yRm [] S S := yRm.refl S
  refine r_load (i := 0) (u := 0) (w := 2) rfl rfl rfl ?_
  refine r_const (i := 1) (u := 0) (z := 0) rfl rfl ?_
  refine r_putI (i := 2) (v := 0) (w := 11) rfl ly43 rfl ⟨by omega, by omega⟩ ?_
  have hI2 := hI.setf (b := 43) (w := 0) (z := 0) tf43_0 rfl (by omega) (by omega)
  have hF4 := hF.setf (b := 43) (w := 0) (z := 0) rfl
  have hR5 := hR.setf (b := 43) (w := 0) (z := 0)
  refine yT_gen (fun S1 hS3 => ?_)
  rw [hS3] at hI2 hF4 hR5 
  refine r_load (i := 3) (u := 0) (w := 2) rfl rfl rfl ?_
  have h6 := hI2.f tf43_34
  have h7 : S1.f 43 34 = S.f 43 34 := by rw [← hS3]; exact ysf_ne (by decide)
  refine r_getf (i := 4) (v := 34) (w := 11) (x := vi (S1.f 43 34)) rfl ly43 rfl rfl fun h8 => ?_
  have h8 : Rg (S1.f 43 34) := h8
  exact r_retI (i := 5) rfl ⟨S1.f 43 34, rfl, by omega, by omega, hI2, hF4, hR5⟩
/-- ProxyForgeModel.result -/
theorem sp239 {G : xk} {S : yS} {d : Nat} (hI : yI S)  (hd : 0 ≤ d) : yT xPr G LY xC239 0 [some ((2, 43))] [] S d (fun r S' => ∃ z : Int, r = (1, vl z) ∧ Rl z ∧ z = S.f 43 37 ∧ yI S' ∧ yFr [(43, 0)] [] S S' ∧ yRm [] S S') := by
  refine yT_pad 0 ?_
  show yT xPr G LY xC239 0 [some ((2, 43))] [] S d _
  have hF : yFr [(43, 0)] [] S S := yFr.refl S
  have hR : yRm [] S S := yRm.refl S
  refine r_load (i := 0) (u := 0) (w := 2) rfl rfl rfl ?_
  refine r_const (i := 1) (u := 0) (z := 0) rfl rfl ?_
  refine r_putI (i := 2) (v := 0) (w := 11) rfl ly43 rfl ⟨by omega, by omega⟩ ?_
  have hI2 := hI.setf (b := 43) (w := 0) (z := 0) tf43_0 rfl (by omega) (by omega)
  have hF4 := hF.setf (b := 43) (w := 0) (z := 0) rfl
  have hR5 := hR.setf (b := 43) (w := 0) (z := 0)
  refine yT_gen (fun S1 hS3 => ?_)
  rw [hS3] at hI2 hF4 hR5 
  refine r_load (i := 3) (u := 0) (w := 2) rfl rfl rfl ?_
  have h6 : S1.f 43 37 = S.f 43 37 := by rw [← hS3]; exact ysf_ne (by decide)
  refine r_getf (i := 4) (v := 37) (w := 11) (x := vl (S1.f 43 37)) rfl ly43 rfl rfl fun h7 => ?_
  have h7 : Rl (S1.f 43 37) := h7
  exact r_retL (i := 5) rfl ⟨S1.f 43 37, rfl, ⟨by omega, by omega⟩, (by omega), hI2, hF4, hR5⟩
/-- ProxyForgeModel.given -/
theorem sp205 {G : xk} {S : yS} {d : Nat} (hI : yI S) {i0 : Int} (h_i0 : -2147483648 ≤ i0 ∧ i0 ≤ 2147483647) {w0 : Int} (h_w0 : -2147483648 ≤ w0 ∧ w0 ≤ 2147483647) (hd : 0 ≤ d) : yT xPr G LY xC205 0 [some ((2, 43)), some (vi i0), some (vi w0)] [] S d (fun r S' => ∃ z : Int, r = (1, vl z) ∧ Rl z ∧ yI S' ∧ yFr [(43, 0)] [] S S' ∧ yRm [] S S') := by
  refine yT_pad 0 ?_
  show yT xPr G LY xC205 0 [some ((2, 43)), some (vi i0), some (vi w0)] [] S d _
  have hF : yFr [(43, 0)] [] S S := yFr.refl S
  have hR : yRm [] S S := yRm.refl S
  refine r_load (i := 0) (u := 0) (w := 2) rfl rfl rfl ?_
  refine r_const (i := 1) (u := 0) (z := 0) rfl rfl ?_
  refine r_putI (i := 2) (v := 0) (w := 11) rfl ly43 rfl ⟨by omega, by omega⟩ ?_
  have hI2 := hI.setf (b := 43) (w := 0) (z := 0) tf43_0 rfl (by omega) (by omega)
  have hF4 := hF.setf (b := 43) (w := 0) (z := 0) rfl
  have hR5 := hR.setf (b := 43) (w := 0) (z := 0)
  refine yT_gen (fun S1 hS3 => ?_)
  rw [hS3] at hI2 hF4 hR5 
  refine r_load (i := 3) (u := 1) (w := 0) rfl rfl rfl ?_
  refine z_lt (i := 4) (v := 9) rfl ⟨by omega, by omega⟩ (fun h6 => ?_) (fun h7 => ?_)
  · refine r_lconst (i := 9) (u := 18446744073709551615) (z := -1) rfl rfl ?_
    exact r_retL (i := 10) rfl ⟨-1, rfl, ⟨by omega, by omega⟩, hI2, hF4, hR5⟩
  · refine r_load (i := 5) (u := 1) (w := 0) rfl rfl rfl ?_
    refine r_load (i := 6) (u := 0) (w := 2) rfl rfl rfl ?_
    have h8 := hI2.f tf43_35
    have h9 : S1.f 43 35 = S.f 43 35 := by rw [← hS3]; exact ysf_ne (by decide)
    refine r_getf (i := 7) (v := 35) (w := 11) (x := vi (S1.f 43 35)) rfl ly43 rfl rfl fun h10 => ?_
    have h10 : Rg (S1.f 43 35) := h10
    refine c_lt (i := 8) (v := 11) rfl ⟨by omega, by omega⟩ ⟨by omega, by omega⟩ (fun h11 => ?_) (fun h12 => ?_)
    · refine r_load (i := 11) (u := 2) (w := 0) rfl rfl rfl ?_
      refine z_ne (i := 12) (v := 19) rfl ⟨by omega, by omega⟩ (fun h13 => ?_) (fun h14 => ?_)
      · refine r_load (i := 19) (u := 2) (w := 0) rfl rfl rfl ?_
        refine r_const (i := 20) (u := 1) (z := 1) rfl rfl ?_
        refine c_ne (i := 21) (v := 27) rfl ⟨by omega, by omega⟩ ⟨by omega, by omega⟩ (fun h15 => ?_) (fun h16 => ?_)
        · refine r_lconst (i := 27) (u := 18446744073709551615) (z := -1) rfl rfl ?_
          exact r_retL (i := 28) rfl ⟨-1, rfl, ⟨by omega, by omega⟩, hI2, hF4, hR5⟩
        · refine r_load (i := 22) (u := 0) (w := 2) rfl rfl rfl ?_
          refine r_getf (i := 23) (v := 39) (w := 11) (x := (2, 70)) rfl ly43 rfl rfl fun _ => ?_
          refine r_load (i := 24) (u := 1) (w := 0) rfl rfl rfl ?_
          refine r_laload (i := 25) rfl ly70 (by decide) (by omega) (by omega) fun h18 => ?_
          have h19 : S1.a 70 i0.toNat = S.a 70 i0.toNat := by rw [← hS3]; rfl
          refine r_goto (i := 26) (v := 28) rfl ?_
          exact r_retL (i := 28) rfl ⟨S1.a 70 i0.toNat, rfl, ⟨by omega, by omega⟩, hI2, hF4, hR5⟩
      · refine r_load (i := 13) (u := 0) (w := 2) rfl rfl rfl ?_
        refine r_getf (i := 14) (v := 38) (w := 11) (x := (2, 69)) rfl ly43 rfl rfl fun _ => ?_
        refine r_load (i := 15) (u := 1) (w := 0) rfl rfl rfl ?_
        refine a_int (i := 16) rfl ly69 rfl (by omega) (by omega) fun h21 => ?_
        have h22 := hI2.a ta69 i0.toNat
        have h23 : S1.a 69 i0.toNat = S.a 69 i0.toNat := by rw [← hS3]; rfl
        refine r_i2l (i := 17) rfl ⟨by omega, by omega⟩ ?_
        refine r_goto (i := 18) (v := 28) rfl ?_
        exact r_retL (i := 28) rfl ⟨S1.a 69 i0.toNat, rfl, ⟨by omega, by omega⟩, hI2, hF4, hR5⟩
    · refine r_lconst (i := 9) (u := 18446744073709551615) (z := -1) rfl rfl ?_
      exact r_retL (i := 10) rfl ⟨-1, rfl, ⟨by omega, by omega⟩, hI2, hF4, hR5⟩
/-- ProxyForgeModel.size -/
theorem sp242 {G : xk} {S : yS} {d : Nat} (hI : yI S)  (hd : 0 ≤ d) : yT xPr G LY xC242 0 [some ((2, 43))] [] S d (fun r S' => ∃ z : Int, r = (1, vi z) ∧ 0 ≤ z ∧ z ≤ 23500 ∧ yI S' ∧ yFr [(43, 0)] [] S S' ∧ yRm [] S S') := by
  refine yT_pad 0 ?_
  show yT xPr G LY xC242 0 [some ((2, 43))] [] S d _
  have hF : yFr [(43, 0)] [] S S := yFr.refl S
  have hR : yRm [] S S := yRm.refl S
  refine r_load (i := 0) (u := 0) (w := 2) rfl rfl rfl ?_
  refine r_const (i := 1) (u := 0) (z := 0) rfl rfl ?_
  refine r_putI (i := 2) (v := 0) (w := 11) rfl ly43 rfl ⟨by omega, by omega⟩ ?_
  have hI2 := hI.setf (b := 43) (w := 0) (z := 0) tf43_0 rfl (by omega) (by omega)
  have hF4 := hF.setf (b := 43) (w := 0) (z := 0) rfl
  have hR5 := hR.setf (b := 43) (w := 0) (z := 0)
  refine yT_gen (fun S1 hS3 => ?_)
  rw [hS3] at hI2 hF4 hR5 
  refine r_load (i := 3) (u := 0) (w := 2) rfl rfl rfl ?_
  have h6 := hI2.f tf43_42
  have h7 : S1.f 43 42 = S.f 43 42 := by rw [← hS3]; exact ysf_ne (by decide)
  refine r_getf (i := 4) (v := 42) (w := 11) (x := vi (S1.f 43 42)) rfl ly43 rfl rfl fun h8 => ?_
  have h8 : Rg (S1.f 43 42) := h8
  exact r_retI (i := 5) rfl ⟨S1.f 43 42, rfl, by omega, by omega, hI2, hF4, hR5⟩
/-- ProxyForgeModel.byteAt -/
theorem sp187 {G : xk} {S : yS} {d : Nat} (hI : yI S) {k : Int} (h_k : -2147483648 ≤ k ∧ k ≤ 2147483647) (hd : 0 ≤ d) : yT xPr G LY xC187 0 [some ((2, 43)), some (vi k)] [] S d (fun r S' => ∃ z : Int, r = (1, vi z) ∧ -1 ≤ z ∧ z ≤ 255 ∧ yI S' ∧ yFr [(43, 0)] [] S S' ∧ yRm [] S S') := by
  refine yT_pad 0 ?_
  show yT xPr G LY xC187 0 [some ((2, 43)), some (vi k)] [] S d _
  have hF : yFr [(43, 0)] [] S S := yFr.refl S
  have hR : yRm [] S S := yRm.refl S
  refine r_load (i := 0) (u := 0) (w := 2) rfl rfl rfl ?_
  refine r_const (i := 1) (u := 0) (z := 0) rfl rfl ?_
  refine r_putI (i := 2) (v := 0) (w := 11) rfl ly43 rfl ⟨by omega, by omega⟩ ?_
  have hI2 := hI.setf (b := 43) (w := 0) (z := 0) tf43_0 rfl (by omega) (by omega)
  have hF4 := hF.setf (b := 43) (w := 0) (z := 0) rfl
  have hR5 := hR.setf (b := 43) (w := 0) (z := 0)
  refine yT_gen (fun S1 hS3 => ?_)
  rw [hS3] at hI2 hF4 hR5 
  refine r_load (i := 3) (u := 1) (w := 0) rfl rfl rfl ?_
  refine z_lt (i := 4) (v := 9) rfl ⟨by omega, by omega⟩ (fun h6 => ?_) (fun h7 => ?_)
  · refine r_const (i := 9) (u := 4294967295) (z := -1) rfl rfl ?_
    refine r_goto (i := 10) (v := 15) rfl ?_
    exact r_retI (i := 15) rfl ⟨-1, rfl, by omega, by omega, hI2, hF4, hR5⟩
  · refine r_load (i := 5) (u := 1) (w := 0) rfl rfl rfl ?_
    refine r_load (i := 6) (u := 0) (w := 2) rfl rfl rfl ?_
    have h8 := hI2.f tf43_42
    have h9 : S1.f 43 42 = S.f 43 42 := by rw [← hS3]; exact ysf_ne (by decide)
    refine r_getf (i := 7) (v := 42) (w := 11) (x := vi (S1.f 43 42)) rfl ly43 rfl rfl fun h10 => ?_
    have h10 : Rg (S1.f 43 42) := h10
    refine c_lt (i := 8) (v := 11) rfl ⟨by omega, by omega⟩ ⟨by omega, by omega⟩ (fun h11 => ?_) (fun h12 => ?_)
    · refine r_load (i := 11) (u := 0) (w := 2) rfl rfl rfl ?_
      refine r_getf (i := 12) (v := 40) (w := 11) (x := (2, 71)) rfl ly43 rfl rfl fun _ => ?_
      refine r_load (i := 13) (u := 1) (w := 0) rfl rfl rfl ?_
      refine a_int (i := 14) rfl ly71 rfl (by omega) (by omega) fun h14 => ?_
      have h15 := hI2.a ta71 k.toNat
      have h16 : S1.a 71 k.toNat = S.a 71 k.toNat := by rw [← hS3]; rfl
      exact r_retI (i := 15) rfl ⟨S1.a 71 k.toNat, rfl, by omega, by omega, hI2, hF4, hR5⟩
    · refine r_const (i := 9) (u := 4294967295) (z := -1) rfl rfl ?_
      refine r_goto (i := 10) (v := 15) rfl ?_
      exact r_retI (i := 15) rfl ⟨-1, rfl, by omega, by omega, hI2, hF4, hR5⟩
/-- ProxyForgeModel.change -/
theorem sp191 {G : xk} {S : yS} {d : Nat} (hI : yI S) {k : Int} (h_k : -2147483648 ≤ k ∧ k ≤ 2147483647) {b : Int} (h_b : -2147483648 ≤ b ∧ b ≤ 2147483647) (hd : 0 ≤ d) : yT xPr G LY xC191 0 [some ((2, 43)), some (vi k), some (vi b)] [] S d (fun r S' => ∃ z : Int, r = (1, vi z) ∧ 0 ≤ z ∧ z ≤ 1 ∧ yI S' ∧ yFr [(43, 0)] [71] S S' ∧ yRm [] S S') := by
  refine yT_pad 0 ?_
  show yT xPr G LY xC191 0 [some ((2, 43)), some (vi k), some (vi b)] [] S d _
  have hF : yFr [(43, 0)] [71] S S := yFr.refl S
  have hR : yRm [] S S := yRm.refl S
  refine r_load (i := 0) (u := 0) (w := 2) rfl rfl rfl ?_
  refine r_const (i := 1) (u := 0) (z := 0) rfl rfl ?_
  refine r_putI (i := 2) (v := 0) (w := 11) rfl ly43 rfl ⟨by omega, by omega⟩ ?_
  have hI2 := hI.setf (b := 43) (w := 0) (z := 0) tf43_0 rfl (by omega) (by omega)
  have hF4 := hF.setf (b := 43) (w := 0) (z := 0) rfl
  have hR5 := hR.setf (b := 43) (w := 0) (z := 0)
  refine yT_gen (fun S1 hS3 => ?_)
  rw [hS3] at hI2 hF4 hR5 
  refine r_load (i := 3) (u := 1) (w := 0) rfl rfl rfl ?_
  refine z_lt (i := 4) (v := 9) rfl ⟨by omega, by omega⟩ (fun h6 => ?_) (fun h7 => ?_)
  · refine r_const (i := 9) (u := 0) (z := 0) rfl rfl ?_
    exact r_retZ (i := 10) rfl (by omega) (by omega) ⟨0, rfl, by omega, by omega, hI2, hF4, hR5⟩
  · refine r_load (i := 5) (u := 1) (w := 0) rfl rfl rfl ?_
    refine r_load (i := 6) (u := 0) (w := 2) rfl rfl rfl ?_
    have h8 := hI2.f tf43_42
    have h9 : S1.f 43 42 = S.f 43 42 := by rw [← hS3]; exact ysf_ne (by decide)
    refine r_getf (i := 7) (v := 42) (w := 11) (x := vi (S1.f 43 42)) rfl ly43 rfl rfl fun h10 => ?_
    have h10 : Rg (S1.f 43 42) := h10
    refine c_lt (i := 8) (v := 11) rfl ⟨by omega, by omega⟩ ⟨by omega, by omega⟩ (fun h11 => ?_) (fun h12 => ?_)
    · refine r_load (i := 11) (u := 0) (w := 2) rfl rfl rfl ?_
      refine r_getf (i := 12) (v := 40) (w := 11) (x := (2, 71)) rfl ly43 rfl rfl fun _ => ?_
      refine r_load (i := 13) (u := 1) (w := 0) rfl rfl rfl ?_
      refine r_load (i := 14) (u := 2) (w := 0) rfl rfl rfl ?_
      refine r_const (i := 15) (u := 255) (z := 255) rfl rfl ?_
      refine r_iand (i := 16) rfl ?_
      have h14 := @yand_c b 255 (by decide) (by decide)
      have h15 := yand_255 b
      refine s_int (i := 17) rfl ly71 rfl (by omega) (by omega) ⟨by omega, by omega⟩ ?_
      have hI17 := hI2.seta (b := 71) (j := k.toNat) (z := yand b 255) ta71 rfl (by omega) (by omega)
      have hF19 := hF4.seta (b := 71) (j := k.toNat) (z := yand b 255) rfl
      have hR20 := hR5.seta (b := 71) (j := k.toNat) (z := yand b 255)
      refine yT_gen (fun S16 hS18 => ?_)
      rw [hS18] at hI17 hF19 hR20 
      refine r_const (i := 18) (u := 1) (z := 1) rfl rfl ?_
      exact r_retZ (i := 19) rfl (by omega) (by omega) ⟨1, rfl, by omega, by omega, hI17, hF19, hR20⟩
    · refine r_const (i := 9) (u := 0) (z := 0) rfl rfl ?_
      exact r_retZ (i := 10) rfl (by omega) (by omega) ⟨0, rfl, by omega, by omega, hI2, hF4, hR5⟩
/-- ProxyForgeModel.cut -/
theorem sp197 {G : xk} {S : yS} {d : Nat} (hI : yI S) {k : Int} (h_k : -2147483648 ≤ k ∧ k ≤ 2147483647) (hd : 0 ≤ d) : yT xPr G LY xC197 0 [some ((2, 43)), some (vi k)] [] S d (fun r S' => ∃ z : Int, r = (1, vi z) ∧ 0 ≤ z ∧ z ≤ 1 ∧ yI S' ∧ yFr [(43, 0), (43, 42)] [] S S' ∧ yRm [] S S') := by
  refine yT_pad 0 ?_
  show yT xPr G LY xC197 0 [some ((2, 43)), some (vi k)] [] S d _
  have hF : yFr [(43, 0), (43, 42)] [] S S := yFr.refl S
  have hR : yRm [] S S := yRm.refl S
  refine r_load (i := 0) (u := 0) (w := 2) rfl rfl rfl ?_
  refine r_const (i := 1) (u := 0) (z := 0) rfl rfl ?_
  refine r_putI (i := 2) (v := 0) (w := 11) rfl ly43 rfl ⟨by omega, by omega⟩ ?_
  have hI2 := hI.setf (b := 43) (w := 0) (z := 0) tf43_0 rfl (by omega) (by omega)
  have hF4 := hF.setf (b := 43) (w := 0) (z := 0) rfl
  have hR5 := hR.setf (b := 43) (w := 0) (z := 0)
  refine yT_gen (fun S1 hS3 => ?_)
  rw [hS3] at hI2 hF4 hR5 
  refine r_load (i := 3) (u := 1) (w := 0) rfl rfl rfl ?_
  refine z_lt (i := 4) (v := 9) rfl ⟨by omega, by omega⟩ (fun h6 => ?_) (fun h7 => ?_)
  · refine r_const (i := 9) (u := 0) (z := 0) rfl rfl ?_
    exact r_retZ (i := 10) rfl (by omega) (by omega) ⟨0, rfl, by omega, by omega, hI2, hF4, hR5⟩
  · refine r_load (i := 5) (u := 1) (w := 0) rfl rfl rfl ?_
    refine r_load (i := 6) (u := 0) (w := 2) rfl rfl rfl ?_
    have h8 := hI2.f tf43_42
    have h9 : S1.f 43 42 = S.f 43 42 := by rw [← hS3]; exact ysf_ne (by decide)
    refine r_getf (i := 7) (v := 42) (w := 11) (x := vi (S1.f 43 42)) rfl ly43 rfl rfl fun h10 => ?_
    have h10 : Rg (S1.f 43 42) := h10
    refine c_le (i := 8) (v := 11) rfl ⟨by omega, by omega⟩ ⟨by omega, by omega⟩ (fun h11 => ?_) (fun h12 => ?_)
    · refine r_load (i := 11) (u := 0) (w := 2) rfl rfl rfl ?_
      refine r_load (i := 12) (u := 1) (w := 0) rfl rfl rfl ?_
      refine r_putI (i := 13) (v := 42) (w := 11) rfl ly43 rfl ⟨by omega, by omega⟩ ?_
      have hI14 := hI2.setf (b := 43) (w := 42) (z := k) tf43_42 rfl (by omega) (by omega)
      have hF16 := hF4.setf (b := 43) (w := 42) (z := k) rfl
      have hR17 := hR5.setf (b := 43) (w := 42) (z := k)
      refine yT_gen (fun S13 hS15 => ?_)
      rw [hS15] at hI14 hF16 hR17 
      refine r_const (i := 14) (u := 1) (z := 1) rfl rfl ?_
      exact r_retZ (i := 15) rfl (by omega) (by omega) ⟨1, rfl, by omega, by omega, hI14, hF16, hR17⟩
    · refine r_const (i := 9) (u := 0) (z := 0) rfl rfl ?_
      exact r_retZ (i := 10) rfl (by omega) (by omega) ⟨0, rfl, by omega, by omega, hI2, hF4, hR5⟩
/-- ProxyForgeModel.outcome -/
theorem sp228 {G : xk} {S : yS} {d : Nat} (hI : yI S) {w0 : Int} (h_w0 : -2147483648 ≤ w0 ∧ w0 ≤ 2147483647) {v : Int} (h_v : Rl v) (hd : 0 ≤ d) : yT xPr G LY xC228 0 [some ((2, 43)), some (vi w0), some (vl v), none] [] S d (fun r S' => ∃ z : Int, r = (1, vi z) ∧ -2147483648 ≤ z ∧ z ≤ 2147483647 ∧ z = w0 ∧ S'.f 43 37 = v ∧ yI S' ∧ yFr [(43, 37)] [] S S' ∧ yRm [] S S') := by
  refine yT_pad 0 ?_
  show yT xPr G LY xC228 0 [some ((2, 43)), some (vi w0), some (vl v), none] [] S d _
  have hF : yFr [(43, 37)] [] S S := yFr.refl S
  have hR : yRm [] S S := yRm.refl S
  refine r_load (i := 0) (u := 0) (w := 2) rfl rfl rfl ?_
  refine r_load (i := 1) (u := 2) (w := 1) rfl rfl rfl ?_
  refine r_putL (i := 2) (v := 37) (w := 11) rfl ly43 rfl ⟨by omega, by omega⟩ ?_
  have hI2 := hI.setf0 (b := 43) (w := 37) (z := v) rfl rfl
  have hF4 := hF.setf (b := 43) (w := 37) (z := v) rfl
  have hR5 := hR.setf (b := 43) (w := 37) (z := v)
  refine yT_gen (fun S1 hS3 => ?_)
  rw [hS3] at hI2 hF4 hR5 
  refine r_load (i := 3) (u := 1) (w := 0) rfl rfl rfl ?_
  have h6 : S1.f 43 37 = v := by rw [← hS3]; exact ysf_eq
  exact r_retI (i := 4) rfl ⟨w0, rfl, by omega, by omega, (by omega), (by omega), hI2, hF4, hR5⟩
/-- ProxyForgeModel.original -/
theorem sp225 {G : xk} {S : yS} {d : Nat} (hI : yI S) {m : Int} (h_m : 0 ≤ m ∧ m ≤ 59) (hd : 1 ≤ d) : yT xPr G LY xC225 0 [some ((2, 43)), some (vi m)] [] S d (fun r S' => ∃ z : Int, r = (1, vi z) ∧ 0 ≤ z ∧ z ≤ 5 ∧ oO (abM S m) (S.a 56 m.toNat) z (S'.f 43 37) ∧ yI S' ∧ yFr [(43, 37)] [] S S' ∧ yRm [] S S') := by
  refine yT_pad 0 ?_
  show yT xPr G LY xC225 0 [some ((2, 43)), some (vi m)] [] S d _
  obtain ⟨d, rfl⟩ : ∃ q, d = q + 1 := ⟨d - 1, by omega⟩
  have hF : yFr [(43, 37)] [] S S := yFr.refl S
  have hR : yRm [] S S := yRm.refl S
  refine r_load (i := 0) (u := 0) (w := 2) rfl rfl rfl ?_
  refine r_getf (i := 1) (v := 13) (w := 11) (x := (2, 54)) rfl ly43 rfl rfl fun _ => ?_
  refine r_load (i := 2) (u := 1) (w := 0) rfl rfl rfl ?_
  refine a_int (i := 3) rfl ly54 rfl (by omega) (by omega) fun h2 => ?_
  have h3 := hI.a ta54 m.toNat
  refine r_const (i := 4) (u := 32) (z := 32) rfl rfl ?_
  refine r_iand (i := 5) rfl ?_
  have h4 := @yand_c (S.a 54 m.toNat) 32 (by decide) (by decide)
  refine z_le (i := 6) (v := 12) rfl ⟨by omega, by omega⟩ (fun h5 => ?_) (fun h6 => ?_)
  · refine r_load (i := 12) (u := 0) (w := 2) rfl rfl rfl ?_
    refine r_const (i := 13) (u := 0) (z := 0) rfl rfl ?_
    refine r_load (i := 14) (u := 0) (w := 2) rfl rfl rfl ?_
    refine r_getf (i := 15) (v := 15) (w := 11) (x := (2, 56)) rfl ly43 rfl rfl fun _ => ?_
    refine r_load (i := 16) (u := 1) (w := 0) rfl rfl rfl ?_
    refine a_int (i := 17) rfl ly56 rfl (by omega) (by omega) fun h8 => ?_
    have h9 := hI.a ta56 m.toNat
    refine r_const (i := 18) (u := 3) (z := 3) rfl rfl ?_
    refine c_le (i := 19) (v := 22) rfl ⟨by omega, by omega⟩ ⟨by omega, by omega⟩ (fun h10 => ?_) (fun h11 => ?_)
    · refine r_lconst (i := 22) (u := 0) (z := 0) rfl rfl ?_
      refine r_call (i := 23) (u := 11) (v := 228) (w := 0) (b := 0) (na := 1027) (C2 := xC228) (as := [(2, 43), vi 0, vl 0]) (s := []) rfl rfl rfl rfl rfl rfl rfl (sp228 (w0 := 0) (v := 0) hI ⟨by omega, by omega⟩ ⟨by omega, by omega⟩   (by omega)) (fun r12 S13 hq14 => ?_)
      obtain ⟨z15, rfl, h16, h17, h18, h19, hI20, hF21, hR22⟩ := hq14
      have hF23 := hF.trans hF21 rfl rfl
      have hR24 := hR.trans hR22 rfl
      refine Or.inr (Or.inl ⟨rfl, ?_⟩)
      have h25 := hI20.a ta56 m.toNat
      have h26 : S13.a 56 m.toNat = S.a 56 m.toNat := hF21.a rfl _
      exact r_retI (i := 24) rfl ⟨z15, rfl, by omega, by omega, (by first | exact Or.inl ⟨by unfold abM; omega, by omega, by omega⟩ | exact Or.inr ⟨by unfold abM; omega, by omega, by omega⟩), hI20, hF23, hR24⟩
    · refine r_lconst (i := 20) (u := 18446744073709551615) (z := -1) rfl rfl ?_
      refine r_goto (i := 21) (v := 23) rfl ?_
      refine r_call (i := 23) (u := 11) (v := 228) (w := 0) (b := 0) (na := 1027) (C2 := xC228) (as := [(2, 43), vi 0, vl (-1)]) (s := []) rfl rfl rfl rfl rfl rfl rfl (sp228 (w0 := 0) (v := -1) hI ⟨by omega, by omega⟩ ⟨by omega, by omega⟩   (by omega)) (fun r27 S28 hq29 => ?_)
      obtain ⟨z30, rfl, h31, h32, h33, h34, hI35, hF36, hR37⟩ := hq29
      have hF38 := hF.trans hF36 rfl rfl
      have hR39 := hR.trans hR37 rfl
      refine Or.inr (Or.inl ⟨rfl, ?_⟩)
      have h40 := hI35.a ta56 m.toNat
      have h41 : S28.a 56 m.toNat = S.a 56 m.toNat := hF36.a rfl _
      exact r_retI (i := 24) rfl ⟨z30, rfl, by omega, by omega, (by first | exact Or.inl ⟨by unfold abM; omega, by omega, by omega⟩ | exact Or.inr ⟨by unfold abM; omega, by omega, by omega⟩), hI35, hF38, hR39⟩
  · refine r_load (i := 7) (u := 0) (w := 2) rfl rfl rfl ?_
    refine r_const (i := 8) (u := 5) (z := 5) rfl rfl ?_
    refine r_lconst (i := 9) (u := 0) (z := 0) rfl rfl ?_
    refine r_call (i := 10) (u := 11) (v := 228) (w := 0) (b := 0) (na := 1027) (C2 := xC228) (as := [(2, 43), vi 5, vl 0]) (s := []) rfl rfl rfl rfl rfl rfl rfl (sp228 (w0 := 5) (v := 0) hI ⟨by omega, by omega⟩ ⟨by omega, by omega⟩   (by omega)) (fun r42 S43 hq44 => ?_)
    obtain ⟨z45, rfl, h46, h47, h48, h49, hI50, hF51, hR52⟩ := hq44
    have hF53 := hF.trans hF51 rfl rfl
    have hR54 := hR.trans hR52 rfl
    refine Or.inr (Or.inl ⟨rfl, ?_⟩)
    have h55 := hI50.a ta56 m.toNat
    have h56 : S43.a 56 m.toNat = S.a 56 m.toNat := hF51.a rfl _
    exact r_retI (i := 11) rfl ⟨z45, rfl, by omega, by omega, (by first | exact Or.inl ⟨by unfold abM; omega, by omega, by omega⟩ | exact Or.inr ⟨by unfold abM; omega, by omega, by omega⟩), hI50, hF53, hR54⟩
/-- ProxyForgeModel.unboxed -/
theorem sp261 {G : xk} {S : yS} {d : Nat} (hI : yI S) {b : Int} (h_b : 0 ≤ b ∧ b ≤ 23) (hd : 1 ≤ d) : yT xPr G LY xC261 0 [some ((2, 43)), some (vi b)] [] S d (fun r S' => ∃ z : Int, r = (1, vi z) ∧ 0 ≤ z ∧ z ≤ 5 ∧ (FM S → (S.f 43 33 = 4 → 0 ≤ S.f 43 36 ∧ S.f 43 36 < S.f 43 1) → b - 4 < S.f 43 1 → S.f 43 33 ≠ 5 → oU (rcM S (S.f 43 36) (b - 4)) b (S.f 43 33) (S.f 43 36) z (S'.f 43 37)) ∧ yI S' ∧ yFr [(43, 37)] [68] S S' ∧ yRm [] S S') := by
  refine yT_pad 0 ?_
  show yT xPr G LY xC261 0 [some ((2, 43)), some (vi b)] [] S d _
  obtain ⟨d, rfl⟩ : ∃ q, d = q + 1 := ⟨d - 1, by omega⟩
  have hF : yFr [(43, 37)] [68] S S := yFr.refl S
  have hR : yRm [] S S := yRm.refl S
  refine r_load (i := 0) (u := 1) (w := 0) rfl rfl rfl ?_
  refine z_ne (i := 1) (v := 7) rfl ⟨by omega, by omega⟩ (fun h1 => ?_) (fun h2 => ?_)
  · refine r_load (i := 7) (u := 1) (w := 0) rfl rfl rfl ?_
    refine r_const (i := 8) (u := 4) (z := 4) rfl rfl ?_
    refine c_ge (i := 9) (v := 33) rfl ⟨by omega, by omega⟩ ⟨by omega, by omega⟩ (fun h3 => ?_) (fun h4 => ?_)
    · refine r_load (i := 33) (u := 0) (w := 2) rfl rfl rfl ?_
      have h5 := hI.f tf43_33
      have h6 := hI.m2
      refine r_getf (i := 34) (v := 33) (w := 11) (x := vi (S.f 43 33)) rfl ly43 rfl rfl fun h7 => ?_
      have h7 : Rg (S.f 43 33) := h7
      refine z_ne (i := 35) (v := 41) rfl ⟨by omega, by omega⟩ (fun h8 => ?_) (fun h9 => ?_)
      · refine r_load (i := 41) (u := 0) (w := 2) rfl rfl rfl ?_
        refine r_getf (i := 42) (v := 33) (w := 11) (x := vi (S.f 43 33)) rfl ly43 rfl rfl fun h10 => ?_
        have h10 : Rg (S.f 43 33) := h10
        refine r_const (i := 43) (u := 4) (z := 4) rfl rfl ?_
        refine c_ge (i := 44) (v := 62) rfl ⟨by omega, by omega⟩ ⟨by omega, by omega⟩ (fun h11 => ?_) (fun h12 => ?_)
        · refine r_load (i := 62) (u := 0) (w := 2) rfl rfl rfl ?_
          refine r_load (i := 63) (u := 0) (w := 2) rfl rfl rfl ?_
          have h13 := hI.m2
          refine r_getf (i := 64) (v := 36) (w := 11) (x := vl (S.f 43 36)) rfl ly43 rfl rfl fun h14 => ?_
          have h14 : Rl (S.f 43 36) := h14
          refine r_l2i (i := 65) rfl ?_
          rw [vi_sg (S.f 43 36)]
          have h15 := ysg_fact (S.f 43 36)
          refine r_load (i := 66) (u := 1) (w := 0) rfl rfl rfl ?_
          refine r_const (i := 67) (u := 4) (z := 4) rfl rfl ?_
          refine r_isub (i := 68) rfl ?_
          have h16 := hI.f tf43_1
          refine r_call (i := 69) (u := 11) (v := 262) (w := 0) (b := 0) (na := 1795) (C2 := xC262) (as := [(2, 43), vi (ysg (S.f 43 36)), vi (b - 4)]) (s := []) rfl rfl rfl rfl rfl rfl rfl (sp262 (t := ysg (S.f 43 36)) (o := b - 4) hI ⟨by omega, by omega⟩ ⟨by omega, by omega⟩   (by omega)) (fun r17 S18 hq19 => ?_)
          obtain ⟨z20, rfl, h21, h22, um23, hI24, hF25, hR26⟩ := hq19
          have hF27 := hF.trans hF25 rfl rfl
          have hR28 := hR.trans hR26 rfl
          refine Or.inr (Or.inl ⟨rfl, ?_⟩)
          refine z_eq (i := 70) (v := 77) rfl ⟨by omega, by omega⟩ (fun h29 => ?_) (fun h30 => ?_)
          · refine r_load (i := 77) (u := 0) (w := 2) rfl rfl rfl ?_
            refine r_const (i := 78) (u := 3) (z := 3) rfl rfl ?_
            refine r_lconst (i := 79) (u := 0) (z := 0) rfl rfl ?_
            refine r_call (i := 80) (u := 11) (v := 228) (w := 0) (b := 0) (na := 1027) (C2 := xC228) (as := [(2, 43), vi 3, vl 0]) (s := []) rfl rfl rfl rfl rfl rfl rfl (sp228 (w0 := 3) (v := 0) hI24 ⟨by omega, by omega⟩ ⟨by omega, by omega⟩   (by omega)) (fun r31 S32 hq33 => ?_)
            obtain ⟨z34, rfl, h35, h36, h37, h38, hI39, hF40, hR41⟩ := hq33
            have hF42 := hF27.trans hF40 rfl rfl
            have hR43 := hR28.trans hR41 rfl
            refine Or.inr (Or.inl ⟨rfl, ?_⟩)
            have h44 := hI39.f tf43_33
            have h45 := hI39.m2
            have h46 : S32.f 43 33 = S18.f 43 33 := hF40.f rfl
            have h47 : S18.f 43 33 = S.f 43 33 := hF25.f rfl
            have h48 := hI39.m2
            have h49 : S32.f 43 36 = S18.f 43 36 := hF40.f rfl
            have h50 : S18.f 43 36 = S.f 43 36 := hF25.f rfl
            have h51 := hI39.f tf43_1
            have h52 : S32.f 43 1 = S18.f 43 1 := hF40.f rfl
            have h53 : S18.f 43 1 = S.f 43 1 := hF25.f rfl
            exact r_retI (i := 81) rfl ⟨z34, rfl, by omega, by omega, (by intro hf9 hv9 hb9 hz9; have sg9 : ysg (S.f 43 36) = S.f 43 36 := (by omega); have w9 := um23 hf9 (by omega) (by omega) (by omega); rw [sg9] at w9; first | (exact Or.inr (Or.inr (Or.inl ⟨by omega, by omega, w9.mp (by omega), by omega, by omega⟩))) | (exact Or.inr (Or.inr (Or.inr (Or.inl ⟨by omega, by omega, fun q9 => absurd (w9.mpr q9) (by omega), by omega, by omega⟩))))), hI39, hF42, hR43⟩
          · refine r_load (i := 71) (u := 0) (w := 2) rfl rfl rfl ?_
            refine r_const (i := 72) (u := 0) (z := 0) rfl rfl ?_
            refine r_load (i := 73) (u := 0) (w := 2) rfl rfl rfl ?_
            have h54 := hI24.m2
            have h55 : S18.f 43 36 = S.f 43 36 := hF25.f rfl
            refine r_getf (i := 74) (v := 36) (w := 11) (x := vl (S18.f 43 36)) rfl ly43 rfl rfl fun h56 => ?_
            have h56 : Rl (S18.f 43 36) := h56
            refine r_call (i := 75) (u := 11) (v := 228) (w := 0) (b := 0) (na := 1027) (C2 := xC228) (as := [(2, 43), vi 0, vl (S18.f 43 36)]) (s := []) rfl rfl rfl rfl rfl rfl rfl (sp228 (w0 := 0) (v := S18.f 43 36) hI24 ⟨by omega, by omega⟩ ⟨by omega, by omega⟩   (by omega)) (fun r57 S58 hq59 => ?_)
            obtain ⟨z60, rfl, h61, h62, h63, h64, hI65, hF66, hR67⟩ := hq59
            have hF68 := hF27.trans hF66 rfl rfl
            have hR69 := hR28.trans hR67 rfl
            refine Or.inr (Or.inl ⟨rfl, ?_⟩)
            refine r_goto (i := 76) (v := 81) rfl ?_
            have h70 := hI65.f tf43_33
            have h71 := hI65.m2
            have h72 : S58.f 43 33 = S18.f 43 33 := hF66.f rfl
            have h73 : S18.f 43 33 = S.f 43 33 := hF25.f rfl
            have h74 := hI65.m2
            have h75 : S58.f 43 36 = S18.f 43 36 := hF66.f rfl
            have h76 : S18.f 43 36 = S.f 43 36 := hF25.f rfl
            have h77 := hI65.f tf43_1
            have h78 : S58.f 43 1 = S18.f 43 1 := hF66.f rfl
            have h79 : S18.f 43 1 = S.f 43 1 := hF25.f rfl
            exact r_retI (i := 81) rfl ⟨z60, rfl, by omega, by omega, (by intro hf9 hv9 hb9 hz9; have sg9 : ysg (S.f 43 36) = S.f 43 36 := (by omega); have w9 := um23 hf9 (by omega) (by omega) (by omega); rw [sg9] at w9; first | (exact Or.inr (Or.inr (Or.inl ⟨by omega, by omega, w9.mp (by omega), by omega, by omega⟩))) | (exact Or.inr (Or.inr (Or.inr (Or.inl ⟨by omega, by omega, fun q9 => absurd (w9.mpr q9) (by omega), by omega, by omega⟩))))), hI65, hF68, hR69⟩
        · refine r_load (i := 45) (u := 1) (w := 0) rfl rfl rfl ?_
          refine r_const (i := 46) (u := 4) (z := 4) rfl rfl ?_
          refine c_ne (i := 47) (v := 57) rfl ⟨by omega, by omega⟩ ⟨by omega, by omega⟩ (fun h80 => ?_) (fun h81 => ?_)
          · refine r_load (i := 57) (u := 0) (w := 2) rfl rfl rfl ?_
            refine r_const (i := 58) (u := 3) (z := 3) rfl rfl ?_
            refine r_lconst (i := 59) (u := 0) (z := 0) rfl rfl ?_
            refine r_call (i := 60) (u := 11) (v := 228) (w := 0) (b := 0) (na := 1027) (C2 := xC228) (as := [(2, 43), vi 3, vl 0]) (s := []) rfl rfl rfl rfl rfl rfl rfl (sp228 (w0 := 3) (v := 0) hI ⟨by omega, by omega⟩ ⟨by omega, by omega⟩   (by omega)) (fun r82 S83 hq84 => ?_)
            obtain ⟨z85, rfl, h86, h87, h88, h89, hI90, hF91, hR92⟩ := hq84
            have hF93 := hF.trans hF91 rfl rfl
            have hR94 := hR.trans hR92 rfl
            refine Or.inr (Or.inl ⟨rfl, ?_⟩)
            have h95 := hI90.f tf43_33
            have h96 := hI90.m2
            have h97 : S83.f 43 33 = S.f 43 33 := hF91.f rfl
            have h98 := hI90.m2
            have h99 : S83.f 43 36 = S.f 43 36 := hF91.f rfl
            have h100 := hI90.f tf43_1
            have h101 : S83.f 43 1 = S.f 43 1 := hF91.f rfl
            exact r_retI (i := 61) rfl ⟨z85, rfl, by omega, by omega, (by intro hf9 hv9 hb9 hz9; first | exact Or.inl ⟨by omega, by omega, by omega⟩ | exact Or.inr (Or.inl ⟨by omega, by omega, by omega, by omega⟩) | exact Or.inr (Or.inr (Or.inr (Or.inr (Or.inl ⟨by omega, by omega, by omega, by omega⟩)))) | exact Or.inr (Or.inr (Or.inr (Or.inr (Or.inr (Or.inl ⟨by omega, by omega, by omega, by omega⟩))))) | exact Or.inr (Or.inr (Or.inr (Or.inr (Or.inr (Or.inr (Or.inl ⟨by omega, by omega, by omega, by omega⟩)))))) | exact Or.inr (Or.inr (Or.inr (Or.inr (Or.inr (Or.inr (Or.inr (Or.inl ⟨by omega, by omega, by omega, by omega, by omega⟩))))))) | exact Or.inr (Or.inr (Or.inr (Or.inr (Or.inr (Or.inr (Or.inr (Or.inr (⟨by omega, by omega, by omega, by omega, by omega⟩))))))))), hI90, hF93, hR94⟩
          · refine r_load (i := 48) (u := 0) (w := 2) rfl rfl rfl ?_
            refine r_const (i := 49) (u := 0) (z := 0) rfl rfl ?_
            refine r_lconst (i := 50) (u := 18446744073709551615) (z := -1) rfl rfl ?_
            refine r_load (i := 51) (u := 0) (w := 2) rfl rfl rfl ?_
            refine r_getf (i := 52) (v := 33) (w := 11) (x := vi (S.f 43 33)) rfl ly43 rfl rfl fun h102 => ?_
            have h102 : Rg (S.f 43 33) := h102
            refine r_i2l (i := 53) rfl ⟨by omega, by omega⟩ ?_
            refine r_lsub (i := 54) rfl ?_
            refine r_call (i := 55) (u := 11) (v := 228) (w := 0) (b := 0) (na := 1027) (C2 := xC228) (as := [(2, 43), vi 0, vl ((-1) - (S.f 43 33))]) (s := []) rfl rfl rfl rfl rfl rfl rfl (sp228 (w0 := 0) (v := (-1) - (S.f 43 33)) hI ⟨by omega, by omega⟩ ⟨by omega, by omega⟩   (by omega)) (fun r103 S104 hq105 => ?_)
            obtain ⟨z106, rfl, h107, h108, h109, h110, hI111, hF112, hR113⟩ := hq105
            have hF114 := hF.trans hF112 rfl rfl
            have hR115 := hR.trans hR113 rfl
            refine Or.inr (Or.inl ⟨rfl, ?_⟩)
            refine r_goto (i := 56) (v := 61) rfl ?_
            have h116 := hI111.f tf43_33
            have h117 := hI111.m2
            have h118 : S104.f 43 33 = S.f 43 33 := hF112.f rfl
            have h119 := hI111.m2
            have h120 : S104.f 43 36 = S.f 43 36 := hF112.f rfl
            have h121 := hI111.f tf43_1
            have h122 : S104.f 43 1 = S.f 43 1 := hF112.f rfl
            exact r_retI (i := 61) rfl ⟨z106, rfl, by omega, by omega, (by intro hf9 hv9 hb9 hz9; first | exact Or.inl ⟨by omega, by omega, by omega⟩ | exact Or.inr (Or.inl ⟨by omega, by omega, by omega, by omega⟩) | exact Or.inr (Or.inr (Or.inr (Or.inr (Or.inl ⟨by omega, by omega, by omega, by omega⟩)))) | exact Or.inr (Or.inr (Or.inr (Or.inr (Or.inr (Or.inl ⟨by omega, by omega, by omega, by omega⟩))))) | exact Or.inr (Or.inr (Or.inr (Or.inr (Or.inr (Or.inr (Or.inl ⟨by omega, by omega, by omega, by omega⟩)))))) | exact Or.inr (Or.inr (Or.inr (Or.inr (Or.inr (Or.inr (Or.inr (Or.inl ⟨by omega, by omega, by omega, by omega, by omega⟩))))))) | exact Or.inr (Or.inr (Or.inr (Or.inr (Or.inr (Or.inr (Or.inr (Or.inr (⟨by omega, by omega, by omega, by omega, by omega⟩))))))))), hI111, hF114, hR115⟩
      · refine r_load (i := 36) (u := 0) (w := 2) rfl rfl rfl ?_
        refine r_const (i := 37) (u := 0) (z := 0) rfl rfl ?_
        refine r_lconst (i := 38) (u := 18446744073709551615) (z := -1) rfl rfl ?_
        refine r_call (i := 39) (u := 11) (v := 228) (w := 0) (b := 0) (na := 1027) (C2 := xC228) (as := [(2, 43), vi 0, vl (-1)]) (s := []) rfl rfl rfl rfl rfl rfl rfl (sp228 (w0 := 0) (v := -1) hI ⟨by omega, by omega⟩ ⟨by omega, by omega⟩   (by omega)) (fun r123 S124 hq125 => ?_)
        obtain ⟨z126, rfl, h127, h128, h129, h130, hI131, hF132, hR133⟩ := hq125
        have hF134 := hF.trans hF132 rfl rfl
        have hR135 := hR.trans hR133 rfl
        refine Or.inr (Or.inl ⟨rfl, ?_⟩)
        have h136 := hI131.f tf43_33
        have h137 := hI131.m2
        have h138 : S124.f 43 33 = S.f 43 33 := hF132.f rfl
        have h139 := hI131.m2
        have h140 : S124.f 43 36 = S.f 43 36 := hF132.f rfl
        have h141 := hI131.f tf43_1
        have h142 : S124.f 43 1 = S.f 43 1 := hF132.f rfl
        exact r_retI (i := 40) rfl ⟨z126, rfl, by omega, by omega, (by intro hf9 hv9 hb9 hz9; first | exact Or.inl ⟨by omega, by omega, by omega⟩ | exact Or.inr (Or.inl ⟨by omega, by omega, by omega, by omega⟩) | exact Or.inr (Or.inr (Or.inr (Or.inr (Or.inl ⟨by omega, by omega, by omega, by omega⟩)))) | exact Or.inr (Or.inr (Or.inr (Or.inr (Or.inr (Or.inl ⟨by omega, by omega, by omega, by omega⟩))))) | exact Or.inr (Or.inr (Or.inr (Or.inr (Or.inr (Or.inr (Or.inl ⟨by omega, by omega, by omega, by omega⟩)))))) | exact Or.inr (Or.inr (Or.inr (Or.inr (Or.inr (Or.inr (Or.inr (Or.inl ⟨by omega, by omega, by omega, by omega, by omega⟩))))))) | exact Or.inr (Or.inr (Or.inr (Or.inr (Or.inr (Or.inr (Or.inr (Or.inr (⟨by omega, by omega, by omega, by omega, by omega⟩))))))))), hI131, hF134, hR135⟩
    · refine r_load (i := 10) (u := 0) (w := 2) rfl rfl rfl ?_
      have h143 := hI.f tf43_33
      have h144 := hI.m2
      refine r_getf (i := 11) (v := 33) (w := 11) (x := vi (S.f 43 33)) rfl ly43 rfl rfl fun h145 => ?_
      have h145 : Rg (S.f 43 33) := h145
      refine z_ne (i := 12) (v := 18) rfl ⟨by omega, by omega⟩ (fun h146 => ?_) (fun h147 => ?_)
      · refine r_load (i := 18) (u := 0) (w := 2) rfl rfl rfl ?_
        refine r_getf (i := 19) (v := 33) (w := 11) (x := vi (S.f 43 33)) rfl ly43 rfl rfl fun h148 => ?_
        have h148 : Rg (S.f 43 33) := h148
        refine r_load (i := 20) (u := 1) (w := 0) rfl rfl rfl ?_
        refine c_ne (i := 21) (v := 28) rfl ⟨by omega, by omega⟩ ⟨by omega, by omega⟩ (fun h149 => ?_) (fun h150 => ?_)
        · refine r_load (i := 28) (u := 0) (w := 2) rfl rfl rfl ?_
          refine r_const (i := 29) (u := 3) (z := 3) rfl rfl ?_
          refine r_lconst (i := 30) (u := 0) (z := 0) rfl rfl ?_
          refine r_call (i := 31) (u := 11) (v := 228) (w := 0) (b := 0) (na := 1027) (C2 := xC228) (as := [(2, 43), vi 3, vl 0]) (s := []) rfl rfl rfl rfl rfl rfl rfl (sp228 (w0 := 3) (v := 0) hI ⟨by omega, by omega⟩ ⟨by omega, by omega⟩   (by omega)) (fun r151 S152 hq153 => ?_)
          obtain ⟨z154, rfl, h155, h156, h157, h158, hI159, hF160, hR161⟩ := hq153
          have hF162 := hF.trans hF160 rfl rfl
          have hR163 := hR.trans hR161 rfl
          refine Or.inr (Or.inl ⟨rfl, ?_⟩)
          have h164 := hI159.f tf43_33
          have h165 := hI159.m2
          have h166 : S152.f 43 33 = S.f 43 33 := hF160.f rfl
          have h167 := hI159.m2
          have h168 : S152.f 43 36 = S.f 43 36 := hF160.f rfl
          have h169 := hI159.f tf43_1
          have h170 : S152.f 43 1 = S.f 43 1 := hF160.f rfl
          exact r_retI (i := 32) rfl ⟨z154, rfl, by omega, by omega, (by intro hf9 hv9 hb9 hz9; first | exact Or.inl ⟨by omega, by omega, by omega⟩ | exact Or.inr (Or.inl ⟨by omega, by omega, by omega, by omega⟩) | exact Or.inr (Or.inr (Or.inr (Or.inr (Or.inl ⟨by omega, by omega, by omega, by omega⟩)))) | exact Or.inr (Or.inr (Or.inr (Or.inr (Or.inr (Or.inl ⟨by omega, by omega, by omega, by omega⟩))))) | exact Or.inr (Or.inr (Or.inr (Or.inr (Or.inr (Or.inr (Or.inl ⟨by omega, by omega, by omega, by omega⟩)))))) | exact Or.inr (Or.inr (Or.inr (Or.inr (Or.inr (Or.inr (Or.inr (Or.inl ⟨by omega, by omega, by omega, by omega, by omega⟩))))))) | exact Or.inr (Or.inr (Or.inr (Or.inr (Or.inr (Or.inr (Or.inr (Or.inr (⟨by omega, by omega, by omega, by omega, by omega⟩))))))))), hI159, hF162, hR163⟩
        · refine r_load (i := 22) (u := 0) (w := 2) rfl rfl rfl ?_
          refine r_const (i := 23) (u := 0) (z := 0) rfl rfl ?_
          refine r_load (i := 24) (u := 0) (w := 2) rfl rfl rfl ?_
          have h171 := hI.m2
          refine r_getf (i := 25) (v := 36) (w := 11) (x := vl (S.f 43 36)) rfl ly43 rfl rfl fun h172 => ?_
          have h172 : Rl (S.f 43 36) := h172
          refine r_call (i := 26) (u := 11) (v := 228) (w := 0) (b := 0) (na := 1027) (C2 := xC228) (as := [(2, 43), vi 0, vl (S.f 43 36)]) (s := []) rfl rfl rfl rfl rfl rfl rfl (sp228 (w0 := 0) (v := S.f 43 36) hI ⟨by omega, by omega⟩ ⟨by omega, by omega⟩   (by omega)) (fun r173 S174 hq175 => ?_)
          obtain ⟨z176, rfl, h177, h178, h179, h180, hI181, hF182, hR183⟩ := hq175
          have hF184 := hF.trans hF182 rfl rfl
          have hR185 := hR.trans hR183 rfl
          refine Or.inr (Or.inl ⟨rfl, ?_⟩)
          refine r_goto (i := 27) (v := 32) rfl ?_
          have h186 := hI181.f tf43_33
          have h187 := hI181.m2
          have h188 : S174.f 43 33 = S.f 43 33 := hF182.f rfl
          have h189 := hI181.m2
          have h190 : S174.f 43 36 = S.f 43 36 := hF182.f rfl
          have h191 := hI181.f tf43_1
          have h192 : S174.f 43 1 = S.f 43 1 := hF182.f rfl
          exact r_retI (i := 32) rfl ⟨z176, rfl, by omega, by omega, (by intro hf9 hv9 hb9 hz9; first | exact Or.inl ⟨by omega, by omega, by omega⟩ | exact Or.inr (Or.inl ⟨by omega, by omega, by omega, by omega⟩) | exact Or.inr (Or.inr (Or.inr (Or.inr (Or.inl ⟨by omega, by omega, by omega, by omega⟩)))) | exact Or.inr (Or.inr (Or.inr (Or.inr (Or.inr (Or.inl ⟨by omega, by omega, by omega, by omega⟩))))) | exact Or.inr (Or.inr (Or.inr (Or.inr (Or.inr (Or.inr (Or.inl ⟨by omega, by omega, by omega, by omega⟩)))))) | exact Or.inr (Or.inr (Or.inr (Or.inr (Or.inr (Or.inr (Or.inr (Or.inl ⟨by omega, by omega, by omega, by omega, by omega⟩))))))) | exact Or.inr (Or.inr (Or.inr (Or.inr (Or.inr (Or.inr (Or.inr (Or.inr (⟨by omega, by omega, by omega, by omega, by omega⟩))))))))), hI181, hF184, hR185⟩
      · refine r_load (i := 13) (u := 0) (w := 2) rfl rfl rfl ?_
        refine r_const (i := 14) (u := 2) (z := 2) rfl rfl ?_
        refine r_lconst (i := 15) (u := 0) (z := 0) rfl rfl ?_
        refine r_call (i := 16) (u := 11) (v := 228) (w := 0) (b := 0) (na := 1027) (C2 := xC228) (as := [(2, 43), vi 2, vl 0]) (s := []) rfl rfl rfl rfl rfl rfl rfl (sp228 (w0 := 2) (v := 0) hI ⟨by omega, by omega⟩ ⟨by omega, by omega⟩   (by omega)) (fun r193 S194 hq195 => ?_)
        obtain ⟨z196, rfl, h197, h198, h199, h200, hI201, hF202, hR203⟩ := hq195
        have hF204 := hF.trans hF202 rfl rfl
        have hR205 := hR.trans hR203 rfl
        refine Or.inr (Or.inl ⟨rfl, ?_⟩)
        refine r_goto (i := 17) (v := 32) rfl ?_
        have h206 := hI201.f tf43_33
        have h207 := hI201.m2
        have h208 : S194.f 43 33 = S.f 43 33 := hF202.f rfl
        have h209 := hI201.m2
        have h210 : S194.f 43 36 = S.f 43 36 := hF202.f rfl
        have h211 := hI201.f tf43_1
        have h212 : S194.f 43 1 = S.f 43 1 := hF202.f rfl
        exact r_retI (i := 32) rfl ⟨z196, rfl, by omega, by omega, (by intro hf9 hv9 hb9 hz9; first | exact Or.inl ⟨by omega, by omega, by omega⟩ | exact Or.inr (Or.inl ⟨by omega, by omega, by omega, by omega⟩) | exact Or.inr (Or.inr (Or.inr (Or.inr (Or.inl ⟨by omega, by omega, by omega, by omega⟩)))) | exact Or.inr (Or.inr (Or.inr (Or.inr (Or.inr (Or.inl ⟨by omega, by omega, by omega, by omega⟩))))) | exact Or.inr (Or.inr (Or.inr (Or.inr (Or.inr (Or.inr (Or.inl ⟨by omega, by omega, by omega, by omega⟩)))))) | exact Or.inr (Or.inr (Or.inr (Or.inr (Or.inr (Or.inr (Or.inr (Or.inl ⟨by omega, by omega, by omega, by omega, by omega⟩))))))) | exact Or.inr (Or.inr (Or.inr (Or.inr (Or.inr (Or.inr (Or.inr (Or.inr (⟨by omega, by omega, by omega, by omega, by omega⟩))))))))), hI201, hF204, hR205⟩
  · refine r_load (i := 2) (u := 0) (w := 2) rfl rfl rfl ?_
    refine r_const (i := 3) (u := 0) (z := 0) rfl rfl ?_
    refine r_lconst (i := 4) (u := 0) (z := 0) rfl rfl ?_
    refine r_call (i := 5) (u := 11) (v := 228) (w := 0) (b := 0) (na := 1027) (C2 := xC228) (as := [(2, 43), vi 0, vl 0]) (s := []) rfl rfl rfl rfl rfl rfl rfl (sp228 (w0 := 0) (v := 0) hI ⟨by omega, by omega⟩ ⟨by omega, by omega⟩   (by omega)) (fun r213 S214 hq215 => ?_)
    obtain ⟨z216, rfl, h217, h218, h219, h220, hI221, hF222, hR223⟩ := hq215
    have hF224 := hF.trans hF222 rfl rfl
    have hR225 := hR.trans hR223 rfl
    refine Or.inr (Or.inl ⟨rfl, ?_⟩)
    have h226 := hI221.f tf43_33
    have h227 := hI221.m2
    have h228 : S214.f 43 33 = S.f 43 33 := hF222.f rfl
    have h229 := hI221.m2
    have h230 : S214.f 43 36 = S.f 43 36 := hF222.f rfl
    have h231 := hI221.f tf43_1
    have h232 : S214.f 43 1 = S.f 43 1 := hF222.f rfl
    exact r_retI (i := 6) rfl ⟨z216, rfl, by omega, by omega, (by intro hf9 hv9 hb9 hz9; first | exact Or.inl ⟨by omega, by omega, by omega⟩ | exact Or.inr (Or.inl ⟨by omega, by omega, by omega, by omega⟩) | exact Or.inr (Or.inr (Or.inr (Or.inr (Or.inl ⟨by omega, by omega, by omega, by omega⟩)))) | exact Or.inr (Or.inr (Or.inr (Or.inr (Or.inr (Or.inl ⟨by omega, by omega, by omega, by omega⟩))))) | exact Or.inr (Or.inr (Or.inr (Or.inr (Or.inr (Or.inr (Or.inl ⟨by omega, by omega, by omega, by omega⟩)))))) | exact Or.inr (Or.inr (Or.inr (Or.inr (Or.inr (Or.inr (Or.inr (Or.inl ⟨by omega, by omega, by omega, by omega, by omega⟩))))))) | exact Or.inr (Or.inr (Or.inr (Or.inr (Or.inr (Or.inr (Or.inr (Or.inr (⟨by omega, by omega, by omega, by omega, by omega⟩))))))))), hI221, hF224, hR225⟩
theorem lp212_16 {G : xk} {d : Nat} {S0 : yS} {k : Int} (h_k : 0 ≤ k ∧ k ≤ 23) {t : Int} (h_t : 0 ≤ t ∧ t ≤ 19) (hd : 1 ≤ d + 1) : ∀ (n : Nat), ∀ (S : yS) (hI : yI S) (hF : yFr [] [68] S0 S) (hR : yRm [] S0 S) (g0 j : Int) (h_g0 : 0 ≤ g0 ∧ g0 ≤ 1) (h_j : 0 ≤ j ∧ j ≤ 3) (q_0 : itL S0 k t g0 j) (hn : 3 - j < (n : Nat)), yT xPr G LY xC212 16 [some ((2, 43)), some (vi k), some (vi t), some (vi g0), some (vi j)] [] S (d + 1) (fun r S' => ∃ z : Int, r = (1, vi z) ∧ 0 ≤ z ∧ z ≤ 1 ∧ (FM S0 → 0 ≤ t → t < S0.f 43 1 → thB S0 k → (z = 1 ↔ dcM S0 k t)) ∧ yI S' ∧ yFr [] [68] S0 S' ∧ yRm [] S0 S') := by
  intro n
  induction n with
  | zero => intro S hI hF hR g0 j h_g0 h_j q_0 hn; exact absurd hn (by omega)
  | succ n ih =>
    intro S hI hF hR g0 j h_g0 h_j q_0 hn
    refine r_load (i := 16) (u := 4) (w := 0) rfl rfl rfl ?_
    refine r_load (i := 17) (u := 0) (w := 2) rfl rfl rfl ?_
    refine r_getf (i := 18) (v := 26) (w := 11) (x := (2, 63)) rfl ly43 rfl rfl fun _ => ?_
    refine r_load (i := 19) (u := 1) (w := 0) rfl rfl rfl ?_
    refine a_int (i := 20) rfl ly63 rfl (by omega) (by omega) fun h2 => ?_
    have h3 := hI.a ta63 k.toNat
    have h4 : S.a 63 k.toNat = S0.a 63 k.toNat := hF.a rfl _
    refine c_ge (i := 21) (v := 38) rfl ⟨by omega, by omega⟩ ⟨by omega, by omega⟩ (fun h5 => ?_) (fun h6 => ?_)
    · refine r_load (i := 38) (u := 3) (w := 0) rfl rfl rfl ?_
      exact r_retZ (i := 39) rfl (by omega) (by omega) ⟨g0, rfl, by omega, by omega, (by exact itL_end q_0 (by omega)), hI, hF, hR⟩
    · refine r_load (i := 22) (u := 3) (w := 0) rfl rfl rfl ?_
      refine z_ne (i := 23) (v := 38) rfl ⟨by omega, by omega⟩ (fun h7 => ?_) (fun h8 => ?_)
      · refine r_load (i := 38) (u := 3) (w := 0) rfl rfl rfl ?_
        exact r_retZ (i := 39) rfl (by omega) (by omega) ⟨g0, rfl, by omega, by omega, (by exact itL_end q_0 (by omega)), hI, hF, hR⟩
      · refine r_load (i := 24) (u := 0) (w := 2) rfl rfl rfl ?_
        refine r_load (i := 25) (u := 2) (w := 0) rfl rfl rfl ?_
        refine r_load (i := 26) (u := 0) (w := 2) rfl rfl rfl ?_
        refine r_getf (i := 27) (v := 25) (w := 11) (x := (2, 62)) rfl ly43 rfl rfl fun _ => ?_
        refine r_const (i := 28) (u := 3) (z := 3) rfl rfl ?_
        refine r_load (i := 29) (u := 1) (w := 0) rfl rfl rfl ?_
        refine r_imul (i := 30) rfl ?_
        refine r_load (i := 31) (u := 4) (w := 0) rfl rfl rfl ?_
        refine r_iadd (i := 32) rfl ?_
        refine a_int (i := 33) rfl ly62 rfl (by omega) (by omega) fun h10 => ?_
        have h11 := hI.a ta62 ((3 * k) + j).toNat
        have h12 : S.a 62 ((3 * k) + j).toNat = S0.a 62 ((3 * k) + j).toNat := hF.a rfl _
        have h13 := hI.f tf43_1
        have h14 : S.f 43 1 = S0.f 43 1 := hF.f rfl
        refine r_call (i := 34) (u := 11) (v := 262) (w := 0) (b := 0) (na := 1795) (C2 := xC262) (as := [(2, 43), vi t, vi (S.a 62 ((3 * k) + j).toNat)]) (s := []) rfl rfl rfl rfl rfl rfl rfl (sp262 (t := t) (o := S.a 62 ((3 * k) + j).toNat) hI ⟨by omega, by omega⟩ ⟨by omega, by omega⟩   (by omega)) (fun r15 S16 hq17 => ?_)
        obtain ⟨z18, rfl, h19, h20, um21, hI22, hF23, hR24⟩ := hq17
        have hF25 := hF.trans hF23 rfl rfl
        have hR26 := hR.trans hR24 rfl
        refine Or.inr (Or.inl ⟨rfl, ?_⟩)
        refine r_store (i := 35) (u := 3) (w := 0) (L1 := [some ((2, 43)), some (vi k), some (vi t), some (vi z18), some (vi j)]) rfl rfl rfl rfl ?_
        refine r_iinc (i := 36) (u := 1) (v := 4) (s := 1) (L1 := [some ((2, 43)), some (vi k), some (vi t), some (vi z18), some (vi (j + 1))]) rfl rfl rfl rfl rfl ?_
        refine r_goto (i := 37) (v := 16) rfl ?_
        exact ih S16 hI22 hF25 hR26 z18 (j + 1) ⟨by omega, by omega⟩ ⟨by omega, by omega⟩ (by exact itL_s q_0 (by omega) (by omega) (by omega) (hF.a rfl _) (un0 (sR_fr hF rfl rfl) um21)) (by omega)
/-- ProxyForgeModel.isThrown -/
theorem sp212 {G : xk} {S : yS} {d : Nat} (hI : yI S) {k : Int} (h_k : 0 ≤ k ∧ k ≤ 23) {t : Int} (h_t : 0 ≤ t ∧ t ≤ 19) (hd : 1 ≤ d) : yT xPr G LY xC212 0 [some ((2, 43)), some (vi k), some (vi t)] [] S d (fun r S' => ∃ z : Int, r = (1, vi z) ∧ 0 ≤ z ∧ z ≤ 1 ∧ (FM S → 0 ≤ t → t < S.f 43 1 → thB S k → (z = 1 ↔ dcM S k t)) ∧ yI S' ∧ yFr [] [68] S S' ∧ yRm [] S S') := by
  refine yT_pad 2 ?_
  show yT xPr G LY xC212 0 [some ((2, 43)), some (vi k), some (vi t), none, none] [] S d _
  obtain ⟨d, rfl⟩ : ∃ q, d = q + 1 := ⟨d - 1, by omega⟩
  have hF : yFr [] [68] S S := yFr.refl S
  have hR : yRm [] S S := yRm.refl S
  refine r_load (i := 0) (u := 0) (w := 2) rfl rfl rfl ?_
  refine r_load (i := 1) (u := 2) (w := 0) rfl rfl rfl ?_
  refine r_const (i := 2) (u := 2) (z := 2) rfl rfl ?_
  have h1 := hI.f tf43_1
  refine r_call (i := 3) (u := 11) (v := 262) (w := 0) (b := 0) (na := 1795) (C2 := xC262) (as := [(2, 43), vi t, vi 2]) (s := []) rfl rfl rfl rfl rfl rfl rfl (sp262 (t := t) (o := 2) hI ⟨by omega, by omega⟩ ⟨by omega, by omega⟩   (by omega)) (fun r2 S3 hq4 => ?_)
  obtain ⟨z5, rfl, h6, h7, um8, hI9, hF10, hR11⟩ := hq4
  have hF12 := hF.trans hF10 rfl rfl
  have hR13 := hR.trans hR11 rfl
  refine Or.inr (Or.inl ⟨rfl, ?_⟩)
  refine z_ne (i := 4) (v := 10) rfl ⟨by omega, by omega⟩ (fun h14 => ?_) (fun h15 => ?_)
  · refine r_const (i := 10) (u := 1) (z := 1) rfl rfl ?_
    refine r_goto (i := 11) (v := 13) rfl ?_
    refine r_store (i := 13) (u := 3) (w := 0) (L1 := [some ((2, 43)), some (vi k), some (vi t), some (vi 1), none]) rfl rfl rfl rfl ?_
    refine r_const (i := 14) (u := 0) (z := 0) rfl rfl ?_
    refine r_store (i := 15) (u := 4) (w := 0) (L1 := [some ((2, 43)), some (vi k), some (vi t), some (vi 1), some (vi 0)]) rfl rfl rfl rfl ?_
    exact lp212_16 h_k h_t  hd _ S3 hI9 hF12 hR13 1 0 ⟨by omega, by omega⟩ ⟨by omega, by omega⟩ (by exact itL_a (Int.le_trans (by decide) (hI.f tf43_1).1) um8 (by omega)) (Int.lt_succ_toNat _)
  · refine r_load (i := 5) (u := 0) (w := 2) rfl rfl rfl ?_
    refine r_load (i := 6) (u := 2) (w := 0) rfl rfl rfl ?_
    refine r_const (i := 7) (u := 3) (z := 3) rfl rfl ?_
    have h16 := hI9.f tf43_1
    have h17 : S3.f 43 1 = S.f 43 1 := hF10.f rfl
    refine r_call (i := 8) (u := 11) (v := 262) (w := 0) (b := 0) (na := 1795) (C2 := xC262) (as := [(2, 43), vi t, vi 3]) (s := []) rfl rfl rfl rfl rfl rfl rfl (sp262 (t := t) (o := 3) hI9 ⟨by omega, by omega⟩ ⟨by omega, by omega⟩   (by omega)) (fun r18 S19 hq20 => ?_)
    obtain ⟨z21, rfl, h22, h23, um24, hI25, hF26, hR27⟩ := hq20
    have hF28 := hF12.trans hF26 rfl rfl
    have hR29 := hR13.trans hR27 rfl
    refine Or.inr (Or.inl ⟨rfl, ?_⟩)
    refine z_eq (i := 9) (v := 12) rfl ⟨by omega, by omega⟩ (fun h30 => ?_) (fun h31 => ?_)
    · refine r_const (i := 12) (u := 0) (z := 0) rfl rfl ?_
      refine r_store (i := 13) (u := 3) (w := 0) (L1 := [some ((2, 43)), some (vi k), some (vi t), some (vi 0), none]) rfl rfl rfl rfl ?_
      refine r_const (i := 14) (u := 0) (z := 0) rfl rfl ?_
      refine r_store (i := 15) (u := 4) (w := 0) (L1 := [some ((2, 43)), some (vi k), some (vi t), some (vi 0), some (vi 0)]) rfl rfl rfl rfl ?_
      exact lp212_16 h_k h_t  hd _ S19 hI25 hF28 hR29 0 0 ⟨by omega, by omega⟩ ⟨by omega, by omega⟩ (by first | exact itL_b (Int.le_trans (by decide) (hI.f tf43_1).1) (un0 (sR_fr hF10 rfl rfl) um24) (by omega) | exact itL_c (Int.le_trans (by decide) (hI.f tf43_1).1) um8 (by omega) (un0 (sR_fr hF10 rfl rfl) um24) (by omega)) (Int.lt_succ_toNat _)
    · refine r_const (i := 10) (u := 1) (z := 1) rfl rfl ?_
      refine r_goto (i := 11) (v := 13) rfl ?_
      refine r_store (i := 13) (u := 3) (w := 0) (L1 := [some ((2, 43)), some (vi k), some (vi t), some (vi 1), none]) rfl rfl rfl rfl ?_
      refine r_const (i := 14) (u := 0) (z := 0) rfl rfl ?_
      refine r_store (i := 15) (u := 4) (w := 0) (L1 := [some ((2, 43)), some (vi k), some (vi t), some (vi 1), some (vi 0)]) rfl rfl rfl rfl ?_
      exact lp212_16 h_k h_t  hd _ S19 hI25 hF28 hR29 1 0 ⟨by omega, by omega⟩ ⟨by omega, by omega⟩ (by first | exact itL_b (Int.le_trans (by decide) (hI.f tf43_1).1) (un0 (sR_fr hF10 rfl rfl) um24) (by omega) | exact itL_c (Int.le_trans (by decide) (hI.f tf43_1).1) um8 (by omega) (un0 (sR_fr hF10 rfl rfl) um24) (by omega)) (Int.lt_succ_toNat _)
/-- ProxyForgeModel.answer -/
theorem sp181 {G : xk} {S : yS} {d : Nat} (hI : yI S) {w0 : Int} (h_w0 : -2147483648 ≤ w0 ∧ w0 ≤ 2147483647) {v : Int} (h_v : Rl v) (hd : 1 ≤ d) : yT xPr G LY xC181 0 [some ((2, 43)), some (vi w0), some (vl v), none] [] S d (fun r S' => r = (0, (0, 0)) ∧ mAnQ S S' w0 v ∧ (S'.f 43 0 = 0 → S'.f 43 33 = w0 ∧ (w0 = 1 → S'.f 43 36 = ysg v) ∧ (w0 = 3 → S'.f 43 36 = yland v 1) ∧ (w0 ≠ 1 → w0 ≠ 3 → S'.f 43 36 = v)) ∧ (S'.f 43 0 = 1 → S'.f 43 33 = S.f 43 33 ∧ S'.f 43 36 = S.f 43 36) ∧ (S'.f 43 0 = 0 ∨ S'.f 43 0 = 1) ∧ yI S' ∧ yFr [(43, 0), (43, 33), (43, 36)] [68] S S' ∧ yRm [] S S') := by
  refine yT_pad 2 ?_
  show yT xPr G LY xC181 0 [some ((2, 43)), some (vi w0), some (vl v), none, none, none] [] S d _
  obtain ⟨d, rfl⟩ : ∃ q, d = q + 1 := ⟨d - 1, by omega⟩
  have hF : yFr [(43, 0), (43, 33), (43, 36)] [68] S S := yFr.refl S
  have hR : yRm [] S S := yRm.refl S
  refine r_load (i := 0) (u := 1) (w := 0) rfl rfl rfl ?_
  refine r_const (i := 1) (u := 4) (z := 4) rfl rfl ?_
  refine c_eq (i := 2) (v := 6) rfl ⟨by omega, by omega⟩ ⟨by omega, by omega⟩ (fun h1 => ?_) (fun h2 => ?_)
  · refine r_const (i := 6) (u := 1) (z := 1) rfl rfl ?_
    refine r_goto (i := 7) (v := 9) rfl ?_
    refine r_store (i := 9) (u := 4) (w := 0) (L1 := [some ((2, 43)), some (vi w0), some (vl v), none, some (vi 1), none]) rfl rfl rfl rfl ?_
    refine r_load (i := 10) (u := 1) (w := 0) rfl rfl rfl ?_
    refine z_lt (i := 11) (v := 38) rfl ⟨by omega, by omega⟩ (fun h3 => ?_) (fun h4 => ?_)
    · refine r_const (i := 38) (u := 0) (z := 0) rfl rfl ?_
      refine r_store (i := 39) (u := 5) (w := 0) (L1 := [some ((2, 43)), some (vi w0), some (vl v), none, some (vi 1), some (vi 0)]) rfl rfl rfl rfl ?_
      refine r_load (i := 40) (u := 0) (w := 2) rfl rfl rfl ?_
      refine r_load (i := 41) (u := 5) (w := 0) rfl rfl rfl ?_
      refine z_eq (i := 42) (v := 45) rfl ⟨by omega, by omega⟩ (fun h5 => ?_) (fun h6 => absurd h6 (by omega))
      refine r_const (i := 45) (u := 1) (z := 1) rfl rfl ?_
      refine r_putI (i := 46) (v := 0) (w := 11) rfl ly43 rfl ⟨by omega, by omega⟩ ?_
      have hI8 := hI.setf (b := 43) (w := 0) (z := 1) tf43_0 rfl (by omega) (by omega)
      have hF10 := hF.setf (b := 43) (w := 0) (z := 1) rfl
      have hR11 := hR.setf (b := 43) (w := 0) (z := 1)
      refine yT_gen (fun S7 hS9 => ?_)
      rw [hS9] at hI8 hF10 hR11 
      refine r_load (i := 47) (u := 5) (w := 0) rfl rfl rfl ?_
      refine z_ne (i := 48) (v := 50) rfl ⟨by omega, by omega⟩ (fun h12 => absurd h12 (by omega)) (fun h13 => ?_)
      have h14 := hI8.f tf43_0
      have h15 : S7.f 43 0 = 1 := by rw [← hS9]; exact ysf_eq
      have h16 := hI8.f tf43_33
      have h17 := hI8.m2
      have h18 : S7.f 43 33 = S.f 43 33 := by rw [← hS9]; exact ysf_ne (by decide)
      have h19 := hI8.m2
      have h20 : S7.f 43 36 = S.f 43 36 := by rw [← hS9]; exact ysf_ne (by decide)
      exact r_ret0 (i := 49) rfl ⟨rfl, (by first | (exfalso; omega) | exact fun hf9 => Or.inl ⟨by omega, by omega, fun q9 => ⟨by omega, by omega⟩, fun q9 => absurd q9 (by omega)⟩ | exact fun hf9 => Or.inr ⟨by omega, fun hc => by obtain ⟨c1, c2, -⟩ := hc; omega⟩), (by omega), (by omega), (by omega), hI8, hF10, hR11⟩
    · refine r_load (i := 12) (u := 1) (w := 0) rfl rfl rfl ?_
      refine r_const (i := 13) (u := 6) (z := 6) rfl rfl ?_
      refine c_ge (i := 14) (v := 38) rfl ⟨by omega, by omega⟩ ⟨by omega, by omega⟩ (fun h21 => ?_) (fun h22 => ?_)
      · refine r_const (i := 38) (u := 0) (z := 0) rfl rfl ?_
        refine r_store (i := 39) (u := 5) (w := 0) (L1 := [some ((2, 43)), some (vi w0), some (vl v), none, some (vi 1), some (vi 0)]) rfl rfl rfl rfl ?_
        refine r_load (i := 40) (u := 0) (w := 2) rfl rfl rfl ?_
        refine r_load (i := 41) (u := 5) (w := 0) rfl rfl rfl ?_
        refine z_eq (i := 42) (v := 45) rfl ⟨by omega, by omega⟩ (fun h23 => ?_) (fun h24 => absurd h24 (by omega))
        refine r_const (i := 45) (u := 1) (z := 1) rfl rfl ?_
        refine r_putI (i := 46) (v := 0) (w := 11) rfl ly43 rfl ⟨by omega, by omega⟩ ?_
        have hI26 := hI.setf (b := 43) (w := 0) (z := 1) tf43_0 rfl (by omega) (by omega)
        have hF28 := hF.setf (b := 43) (w := 0) (z := 1) rfl
        have hR29 := hR.setf (b := 43) (w := 0) (z := 1)
        refine yT_gen (fun S25 hS27 => ?_)
        rw [hS27] at hI26 hF28 hR29 
        refine r_load (i := 47) (u := 5) (w := 0) rfl rfl rfl ?_
        refine z_ne (i := 48) (v := 50) rfl ⟨by omega, by omega⟩ (fun h30 => absurd h30 (by omega)) (fun h31 => ?_)
        have h32 := hI26.f tf43_0
        have h33 : S25.f 43 0 = 1 := by rw [← hS27]; exact ysf_eq
        have h34 := hI26.f tf43_33
        have h35 := hI26.m2
        have h36 : S25.f 43 33 = S.f 43 33 := by rw [← hS27]; exact ysf_ne (by decide)
        have h37 := hI26.m2
        have h38 : S25.f 43 36 = S.f 43 36 := by rw [← hS27]; exact ysf_ne (by decide)
        exact r_ret0 (i := 49) rfl ⟨rfl, (by first | (exfalso; omega) | exact fun hf9 => Or.inl ⟨by omega, by omega, fun q9 => ⟨by omega, by omega⟩, fun q9 => absurd q9 (by omega)⟩ | exact fun hf9 => Or.inr ⟨by omega, fun hc => by obtain ⟨c1, c2, -⟩ := hc; omega⟩), (by omega), (by omega), (by omega), hI26, hF28, hR29⟩
      · refine r_load (i := 15) (u := 4) (w := 0) rfl rfl rfl ?_
        refine z_eq (i := 16) (v := 36) rfl ⟨by omega, by omega⟩ (fun h39 => absurd h39 (by omega)) (fun h40 => ?_)
        refine r_load (i := 17) (u := 2) (w := 1) rfl rfl rfl ?_
        refine r_lconst (i := 18) (u := 0) (z := 0) rfl rfl ?_
        refine r_lcmp (i := 19) rfl ⟨by omega, by omega⟩ ⟨by omega, by omega⟩ (fun h41 => ?_) (fun h42 => ?_) (fun h43 => ?_)
        · refine z_lt (i := 20) (v := 38) rfl ⟨by omega, by omega⟩ (fun h44 => ?_) (fun h45 => absurd h45 (by omega))
          refine r_const (i := 38) (u := 0) (z := 0) rfl rfl ?_
          refine r_store (i := 39) (u := 5) (w := 0) (L1 := [some ((2, 43)), some (vi w0), some (vl v), none, some (vi 1), some (vi 0)]) rfl rfl rfl rfl ?_
          refine r_load (i := 40) (u := 0) (w := 2) rfl rfl rfl ?_
          refine r_load (i := 41) (u := 5) (w := 0) rfl rfl rfl ?_
          refine z_eq (i := 42) (v := 45) rfl ⟨by omega, by omega⟩ (fun h46 => ?_) (fun h47 => absurd h47 (by omega))
          refine r_const (i := 45) (u := 1) (z := 1) rfl rfl ?_
          refine r_putI (i := 46) (v := 0) (w := 11) rfl ly43 rfl ⟨by omega, by omega⟩ ?_
          have hI49 := hI.setf (b := 43) (w := 0) (z := 1) tf43_0 rfl (by omega) (by omega)
          have hF51 := hF.setf (b := 43) (w := 0) (z := 1) rfl
          have hR52 := hR.setf (b := 43) (w := 0) (z := 1)
          refine yT_gen (fun S48 hS50 => ?_)
          rw [hS50] at hI49 hF51 hR52 
          refine r_load (i := 47) (u := 5) (w := 0) rfl rfl rfl ?_
          refine z_ne (i := 48) (v := 50) rfl ⟨by omega, by omega⟩ (fun h53 => absurd h53 (by omega)) (fun h54 => ?_)
          have h55 := hI49.f tf43_0
          have h56 : S48.f 43 0 = 1 := by rw [← hS50]; exact ysf_eq
          have h57 := hI49.f tf43_33
          have h58 := hI49.m2
          have h59 : S48.f 43 33 = S.f 43 33 := by rw [← hS50]; exact ysf_ne (by decide)
          have h60 := hI49.m2
          have h61 : S48.f 43 36 = S.f 43 36 := by rw [← hS50]; exact ysf_ne (by decide)
          exact r_ret0 (i := 49) rfl ⟨rfl, (by first | (exfalso; omega) | exact fun hf9 => Or.inl ⟨by omega, by omega, fun q9 => ⟨by omega, by omega⟩, fun q9 => absurd q9 (by omega)⟩ | exact fun hf9 => Or.inr ⟨by omega, fun hc => by obtain ⟨c1, c2, -⟩ := hc; omega⟩), (by omega), (by omega), (by omega), hI49, hF51, hR52⟩
        · refine z_lt (i := 20) (v := 38) rfl ⟨by omega, by omega⟩ (fun h62 => absurd h62 (by omega)) (fun h63 => ?_)
          refine r_load (i := 21) (u := 2) (w := 1) rfl rfl rfl ?_
          refine r_load (i := 22) (u := 0) (w := 2) rfl rfl rfl ?_
          have h64 := hI.f tf43_1
          refine r_getf (i := 23) (v := 1) (w := 11) (x := vi (S.f 43 1)) rfl ly43 rfl rfl fun h65 => ?_
          have h65 : Rg (S.f 43 1) := h65
          refine r_i2l (i := 24) rfl ⟨by omega, by omega⟩ ?_
          refine r_lcmp (i := 25) rfl ⟨by omega, by omega⟩ ⟨by omega, by omega⟩ (fun h66 => ?_) (fun h67 => ?_) (fun h68 => ?_)
          · refine z_ge (i := 26) (v := 38) rfl ⟨by omega, by omega⟩ (fun h69 => absurd h69 (by omega)) (fun h70 => ?_)
            refine r_load (i := 27) (u := 1) (w := 0) rfl rfl rfl ?_
            refine r_const (i := 28) (u := 4) (z := 4) rfl rfl ?_
            refine c_eq (i := 29) (v := 36) rfl ⟨by omega, by omega⟩ ⟨by omega, by omega⟩ (fun h71 => ?_) (fun h72 => ?_)
            · refine r_const (i := 36) (u := 1) (z := 1) rfl rfl ?_
              refine r_goto (i := 37) (v := 39) rfl ?_
              refine r_store (i := 39) (u := 5) (w := 0) (L1 := [some ((2, 43)), some (vi w0), some (vl v), none, some (vi 1), some (vi 1)]) rfl rfl rfl rfl ?_
              refine r_load (i := 40) (u := 0) (w := 2) rfl rfl rfl ?_
              refine r_load (i := 41) (u := 5) (w := 0) rfl rfl rfl ?_
              refine z_eq (i := 42) (v := 45) rfl ⟨by omega, by omega⟩ (fun h73 => absurd h73 (by omega)) (fun h74 => ?_)
              refine r_const (i := 43) (u := 0) (z := 0) rfl rfl ?_
              refine r_goto (i := 44) (v := 46) rfl ?_
              refine r_putI (i := 46) (v := 0) (w := 11) rfl ly43 rfl ⟨by omega, by omega⟩ ?_
              have hI76 := hI.setf (b := 43) (w := 0) (z := 0) tf43_0 rfl (by omega) (by omega)
              have hF78 := hF.setf (b := 43) (w := 0) (z := 0) rfl
              have hR79 := hR.setf (b := 43) (w := 0) (z := 0)
              refine yT_gen (fun S75 hS77 => ?_)
              rw [hS77] at hI76 hF78 hR79 
              refine r_load (i := 47) (u := 5) (w := 0) rfl rfl rfl ?_
              refine z_ne (i := 48) (v := 50) rfl ⟨by omega, by omega⟩ (fun h80 => ?_) (fun h81 => absurd h81 (by omega))
              refine r_load (i := 50) (u := 0) (w := 2) rfl rfl rfl ?_
              refine r_load (i := 51) (u := 1) (w := 0) rfl rfl rfl ?_
              refine r_putI (i := 52) (v := 33) (w := 11) rfl ly43 rfl ⟨by omega, by omega⟩ ?_
              have hF85 := hF78.setf (b := 43) (w := 33) (z := w0) rfl
              have hR86 := hR79.setf (b := 43) (w := 33) (z := w0)
              refine yT_gen (fun S82 hS84 => ?_)
              rw [hS84] at hF85 hR86 
              refine r_load (i := 53) (u := 0) (w := 2) rfl rfl rfl ?_
              refine r_load (i := 54) (u := 1) (w := 0) rfl rfl rfl ?_
              refine r_const (i := 55) (u := 1) (z := 1) rfl rfl ?_
              refine c_ne (i := 56) (v := 61) rfl ⟨by omega, by omega⟩ ⟨by omega, by omega⟩ (fun h87 => ?_) (fun h88 => ?_)
              · refine r_load (i := 61) (u := 1) (w := 0) rfl rfl rfl ?_
                refine r_const (i := 62) (u := 3) (z := 3) rfl rfl ?_
                refine c_ne (i := 63) (v := 68) rfl ⟨by omega, by omega⟩ ⟨by omega, by omega⟩ (fun h89 => ?_) (fun h90 => ?_)
                · refine r_load (i := 68) (u := 2) (w := 1) rfl rfl rfl ?_
                  refine r_putL (i := 69) (v := 36) (w := 11) rfl ly43 rfl ⟨by omega, by omega⟩ ?_
                  have hI92 := hI76.set43 (z := w0) (y := v) (by omega) (by omega) (by omega)
                  rw [hS84] at hI92
                  have hF94 := hF85.setf (b := 43) (w := 36) (z := v) rfl
                  have hR95 := hR86.setf (b := 43) (w := 36) (z := v)
                  refine yT_gen (fun S91 hS93 => ?_)
                  rw [hS93] at hI92 hF94 hR95 
                  have h96 := hI92.f tf43_0
                  have h97 : S91.f 43 0 = S82.f 43 0 := by rw [← hS93]; exact ysf_ne (by decide)
                  have h98 : S82.f 43 0 = S75.f 43 0 := by rw [← hS84]; exact ysf_ne (by decide)
                  have h99 : S75.f 43 0 = 0 := by rw [← hS77]; exact ysf_eq
                  have h100 := hI92.f tf43_33
                  have h101 := hI92.m2
                  have h102 : S91.f 43 33 = S82.f 43 33 := by rw [← hS93]; exact ysf_ne (by decide)
                  have h103 : S82.f 43 33 = w0 := by rw [← hS84]; exact ysf_eq
                  have h104 := hI92.m2
                  have h105 : S91.f 43 36 = v := by rw [← hS93]; exact ysf_eq
                  exact r_ret0 (i := 70) rfl ⟨rfl, (by first | (exfalso; omega) | exact fun hf9 => Or.inl ⟨by omega, by omega, fun q9 => ⟨by omega, by omega⟩, fun q9 => absurd q9 (by omega)⟩ | exact fun hf9 => Or.inr ⟨by omega, fun hc => by obtain ⟨c1, c2, -⟩ := hc; omega⟩), (by omega), (by omega), (by omega), hI92, hF94, hR95⟩
                · refine r_load (i := 64) (u := 2) (w := 1) rfl rfl rfl ?_
                  refine r_lconst (i := 65) (u := 1) (z := 1) rfl rfl ?_
                  refine r_land (i := 66) rfl ?_
                  have h106 := @yland_c v 1 (by decide) (by decide)
                  refine r_goto (i := 67) (v := 69) rfl ?_
                  refine r_putL (i := 69) (v := 36) (w := 11) rfl ly43 rfl ⟨by omega, by omega⟩ ?_
                  have hI108 := hI76.set43 (z := w0) (y := yland v 1) (by omega) (by omega) (by omega)
                  rw [hS84] at hI108
                  have hF110 := hF85.setf (b := 43) (w := 36) (z := yland v 1) rfl
                  have hR111 := hR86.setf (b := 43) (w := 36) (z := yland v 1)
                  refine yT_gen (fun S107 hS109 => ?_)
                  rw [hS109] at hI108 hF110 hR111 
                  have h112 := hI108.f tf43_0
                  have h113 : S107.f 43 0 = S82.f 43 0 := by rw [← hS109]; exact ysf_ne (by decide)
                  have h114 : S82.f 43 0 = S75.f 43 0 := by rw [← hS84]; exact ysf_ne (by decide)
                  have h115 : S75.f 43 0 = 0 := by rw [← hS77]; exact ysf_eq
                  have h116 := hI108.f tf43_33
                  have h117 := hI108.m2
                  have h118 : S107.f 43 33 = S82.f 43 33 := by rw [← hS109]; exact ysf_ne (by decide)
                  have h119 : S82.f 43 33 = w0 := by rw [← hS84]; exact ysf_eq
                  have h120 := hI108.m2
                  have h121 : S107.f 43 36 = yland v 1 := by rw [← hS109]; exact ysf_eq
                  exact r_ret0 (i := 70) rfl ⟨rfl, (by first | (exfalso; omega) | exact fun hf9 => Or.inl ⟨by omega, by omega, fun q9 => ⟨by omega, by omega⟩, fun q9 => absurd q9 (by omega)⟩ | exact fun hf9 => Or.inr ⟨by omega, fun hc => by obtain ⟨c1, c2, -⟩ := hc; omega⟩), (by omega), (by omega), (by omega), hI108, hF110, hR111⟩
              · refine r_load (i := 57) (u := 2) (w := 1) rfl rfl rfl ?_
                refine r_l2i (i := 58) rfl ?_
                rw [vi_sg v]
                have h122 := ysg_fact v
                refine r_i2l (i := 59) rfl ⟨by omega, by omega⟩ ?_
                refine r_goto (i := 60) (v := 69) rfl ?_
                refine r_putL (i := 69) (v := 36) (w := 11) rfl ly43 rfl ⟨by omega, by omega⟩ ?_
                have hI124 := hI76.set43 (z := w0) (y := ysg v) (by omega) (by omega) (by omega)
                rw [hS84] at hI124
                have hF126 := hF85.setf (b := 43) (w := 36) (z := ysg v) rfl
                have hR127 := hR86.setf (b := 43) (w := 36) (z := ysg v)
                refine yT_gen (fun S123 hS125 => ?_)
                rw [hS125] at hI124 hF126 hR127 
                have h128 := hI124.f tf43_0
                have h129 : S123.f 43 0 = S82.f 43 0 := by rw [← hS125]; exact ysf_ne (by decide)
                have h130 : S82.f 43 0 = S75.f 43 0 := by rw [← hS84]; exact ysf_ne (by decide)
                have h131 : S75.f 43 0 = 0 := by rw [← hS77]; exact ysf_eq
                have h132 := hI124.f tf43_33
                have h133 := hI124.m2
                have h134 : S123.f 43 33 = S82.f 43 33 := by rw [← hS125]; exact ysf_ne (by decide)
                have h135 : S82.f 43 33 = w0 := by rw [← hS84]; exact ysf_eq
                have h136 := hI124.m2
                have h137 : S123.f 43 36 = ysg v := by rw [← hS125]; exact ysf_eq
                exact r_ret0 (i := 70) rfl ⟨rfl, (by first | (exfalso; omega) | exact fun hf9 => Or.inl ⟨by omega, by omega, fun q9 => ⟨by omega, by omega⟩, fun q9 => absurd q9 (by omega)⟩ | exact fun hf9 => Or.inr ⟨by omega, fun hc => by obtain ⟨c1, c2, -⟩ := hc; omega⟩), (by omega), (by omega), (by omega), hI124, hF126, hR127⟩
            · refine r_load (i := 30) (u := 0) (w := 2) rfl rfl rfl ?_
              refine r_load (i := 31) (u := 2) (w := 1) rfl rfl rfl ?_
              refine r_l2i (i := 32) rfl ?_
              rw [vi_sg v]
              have h138 := ysg_fact v
              refine r_const (i := 33) (u := 1) (z := 1) rfl rfl ?_
              refine r_call (i := 34) (u := 11) (v := 262) (w := 0) (b := 0) (na := 1795) (C2 := xC262) (as := [(2, 43), vi (ysg v), vi 1]) (s := []) rfl rfl rfl rfl rfl rfl rfl (sp262 (t := ysg v) (o := 1) hI ⟨by omega, by omega⟩ ⟨by omega, by omega⟩   (by omega)) (fun r139 S140 hq141 => ?_)
              obtain ⟨z142, rfl, h143, h144, um145, hI146, hF147, hR148⟩ := hq141
              have hF149 := hF.trans hF147 rfl rfl
              have hR150 := hR.trans hR148 rfl
              refine Or.inr (Or.inl ⟨rfl, ?_⟩)
              refine z_eq (i := 35) (v := 38) rfl ⟨by omega, by omega⟩ (fun h151 => ?_) (fun h152 => ?_)
              · refine r_const (i := 38) (u := 0) (z := 0) rfl rfl ?_
                refine r_store (i := 39) (u := 5) (w := 0) (L1 := [some ((2, 43)), some (vi w0), some (vl v), none, some (vi 1), some (vi 0)]) rfl rfl rfl rfl ?_
                refine r_load (i := 40) (u := 0) (w := 2) rfl rfl rfl ?_
                refine r_load (i := 41) (u := 5) (w := 0) rfl rfl rfl ?_
                refine z_eq (i := 42) (v := 45) rfl ⟨by omega, by omega⟩ (fun h153 => ?_) (fun h154 => absurd h154 (by omega))
                refine r_const (i := 45) (u := 1) (z := 1) rfl rfl ?_
                refine r_putI (i := 46) (v := 0) (w := 11) rfl ly43 rfl ⟨by omega, by omega⟩ ?_
                have hI156 := hI146.setf (b := 43) (w := 0) (z := 1) tf43_0 rfl (by omega) (by omega)
                have hF158 := hF149.setf (b := 43) (w := 0) (z := 1) rfl
                have hR159 := hR150.setf (b := 43) (w := 0) (z := 1)
                refine yT_gen (fun S155 hS157 => ?_)
                rw [hS157] at hI156 hF158 hR159 
                refine r_load (i := 47) (u := 5) (w := 0) rfl rfl rfl ?_
                refine z_ne (i := 48) (v := 50) rfl ⟨by omega, by omega⟩ (fun h160 => absurd h160 (by omega)) (fun h161 => ?_)
                have h162 := hI156.f tf43_0
                have h163 : S155.f 43 0 = 1 := by rw [← hS157]; exact ysf_eq
                have h164 := hI156.f tf43_33
                have h165 := hI156.m2
                have h166 : S155.f 43 33 = S140.f 43 33 := by rw [← hS157]; exact ysf_ne (by decide)
                have h167 : S140.f 43 33 = S.f 43 33 := hF147.f rfl
                have h168 := hI156.m2
                have h169 : S155.f 43 36 = S140.f 43 36 := by rw [← hS157]; exact ysf_ne (by decide)
                have h170 : S140.f 43 36 = S.f 43 36 := hF147.f rfl
                exact r_ret0 (i := 49) rfl ⟨rfl, (by first | (exfalso; omega) | (intro hf9; have sg9 : ysg v = v := (by omega); have w9 := um145 hf9 (by omega) (by omega) (by omega); rw [sg9] at w9; first | exact Or.inl ⟨by omega, by omega, fun _ => ⟨by omega, by omega⟩, fun _ => w9.mp (by omega)⟩ | exact Or.inr ⟨by omega, fun hc => absurd (w9.mpr (hc.2.2 (by omega))) (by omega)⟩)), (by omega), (by omega), (by omega), hI156, hF158, hR159⟩
              · refine r_const (i := 36) (u := 1) (z := 1) rfl rfl ?_
                refine r_goto (i := 37) (v := 39) rfl ?_
                refine r_store (i := 39) (u := 5) (w := 0) (L1 := [some ((2, 43)), some (vi w0), some (vl v), none, some (vi 1), some (vi 1)]) rfl rfl rfl rfl ?_
                refine r_load (i := 40) (u := 0) (w := 2) rfl rfl rfl ?_
                refine r_load (i := 41) (u := 5) (w := 0) rfl rfl rfl ?_
                refine z_eq (i := 42) (v := 45) rfl ⟨by omega, by omega⟩ (fun h171 => absurd h171 (by omega)) (fun h172 => ?_)
                refine r_const (i := 43) (u := 0) (z := 0) rfl rfl ?_
                refine r_goto (i := 44) (v := 46) rfl ?_
                refine r_putI (i := 46) (v := 0) (w := 11) rfl ly43 rfl ⟨by omega, by omega⟩ ?_
                have hI174 := hI146.setf (b := 43) (w := 0) (z := 0) tf43_0 rfl (by omega) (by omega)
                have hF176 := hF149.setf (b := 43) (w := 0) (z := 0) rfl
                have hR177 := hR150.setf (b := 43) (w := 0) (z := 0)
                refine yT_gen (fun S173 hS175 => ?_)
                rw [hS175] at hI174 hF176 hR177 
                refine r_load (i := 47) (u := 5) (w := 0) rfl rfl rfl ?_
                refine z_ne (i := 48) (v := 50) rfl ⟨by omega, by omega⟩ (fun h178 => ?_) (fun h179 => absurd h179 (by omega))
                refine r_load (i := 50) (u := 0) (w := 2) rfl rfl rfl ?_
                refine r_load (i := 51) (u := 1) (w := 0) rfl rfl rfl ?_
                refine r_putI (i := 52) (v := 33) (w := 11) rfl ly43 rfl ⟨by omega, by omega⟩ ?_
                have hF183 := hF176.setf (b := 43) (w := 33) (z := w0) rfl
                have hR184 := hR177.setf (b := 43) (w := 33) (z := w0)
                refine yT_gen (fun S180 hS182 => ?_)
                rw [hS182] at hF183 hR184 
                refine r_load (i := 53) (u := 0) (w := 2) rfl rfl rfl ?_
                refine r_load (i := 54) (u := 1) (w := 0) rfl rfl rfl ?_
                refine r_const (i := 55) (u := 1) (z := 1) rfl rfl ?_
                refine c_ne (i := 56) (v := 61) rfl ⟨by omega, by omega⟩ ⟨by omega, by omega⟩ (fun h185 => ?_) (fun h186 => ?_)
                · refine r_load (i := 61) (u := 1) (w := 0) rfl rfl rfl ?_
                  refine r_const (i := 62) (u := 3) (z := 3) rfl rfl ?_
                  refine c_ne (i := 63) (v := 68) rfl ⟨by omega, by omega⟩ ⟨by omega, by omega⟩ (fun h187 => ?_) (fun h188 => ?_)
                  · refine r_load (i := 68) (u := 2) (w := 1) rfl rfl rfl ?_
                    refine r_putL (i := 69) (v := 36) (w := 11) rfl ly43 rfl ⟨by omega, by omega⟩ ?_
                    have hI190 := hI174.set43 (z := w0) (y := v) (by omega) (by omega) (by omega)
                    rw [hS182] at hI190
                    have hF192 := hF183.setf (b := 43) (w := 36) (z := v) rfl
                    have hR193 := hR184.setf (b := 43) (w := 36) (z := v)
                    refine yT_gen (fun S189 hS191 => ?_)
                    rw [hS191] at hI190 hF192 hR193 
                    have h194 := hI190.f tf43_0
                    have h195 : S189.f 43 0 = S180.f 43 0 := by rw [← hS191]; exact ysf_ne (by decide)
                    have h196 : S180.f 43 0 = S173.f 43 0 := by rw [← hS182]; exact ysf_ne (by decide)
                    have h197 : S173.f 43 0 = 0 := by rw [← hS175]; exact ysf_eq
                    have h198 := hI190.f tf43_33
                    have h199 := hI190.m2
                    have h200 : S189.f 43 33 = S180.f 43 33 := by rw [← hS191]; exact ysf_ne (by decide)
                    have h201 : S180.f 43 33 = w0 := by rw [← hS182]; exact ysf_eq
                    have h202 := hI190.m2
                    have h203 : S189.f 43 36 = v := by rw [← hS191]; exact ysf_eq
                    exact r_ret0 (i := 70) rfl ⟨rfl, (by first | (exfalso; omega) | (intro hf9; have sg9 : ysg v = v := (by omega); have w9 := um145 hf9 (by omega) (by omega) (by omega); rw [sg9] at w9; first | exact Or.inl ⟨by omega, by omega, fun _ => ⟨by omega, by omega⟩, fun _ => w9.mp (by omega)⟩ | exact Or.inr ⟨by omega, fun hc => absurd (w9.mpr (hc.2.2 (by omega))) (by omega)⟩)), (by omega), (by omega), (by omega), hI190, hF192, hR193⟩
                  · refine r_load (i := 64) (u := 2) (w := 1) rfl rfl rfl ?_
                    refine r_lconst (i := 65) (u := 1) (z := 1) rfl rfl ?_
                    refine r_land (i := 66) rfl ?_
                    have h204 := @yland_c v 1 (by decide) (by decide)
                    refine r_goto (i := 67) (v := 69) rfl ?_
                    refine r_putL (i := 69) (v := 36) (w := 11) rfl ly43 rfl ⟨by omega, by omega⟩ ?_
                    have hI206 := hI174.set43 (z := w0) (y := yland v 1) (by omega) (by omega) (by omega)
                    rw [hS182] at hI206
                    have hF208 := hF183.setf (b := 43) (w := 36) (z := yland v 1) rfl
                    have hR209 := hR184.setf (b := 43) (w := 36) (z := yland v 1)
                    refine yT_gen (fun S205 hS207 => ?_)
                    rw [hS207] at hI206 hF208 hR209 
                    have h210 := hI206.f tf43_0
                    have h211 : S205.f 43 0 = S180.f 43 0 := by rw [← hS207]; exact ysf_ne (by decide)
                    have h212 : S180.f 43 0 = S173.f 43 0 := by rw [← hS182]; exact ysf_ne (by decide)
                    have h213 : S173.f 43 0 = 0 := by rw [← hS175]; exact ysf_eq
                    have h214 := hI206.f tf43_33
                    have h215 := hI206.m2
                    have h216 : S205.f 43 33 = S180.f 43 33 := by rw [← hS207]; exact ysf_ne (by decide)
                    have h217 : S180.f 43 33 = w0 := by rw [← hS182]; exact ysf_eq
                    have h218 := hI206.m2
                    have h219 : S205.f 43 36 = yland v 1 := by rw [← hS207]; exact ysf_eq
                    exact r_ret0 (i := 70) rfl ⟨rfl, (by first | (exfalso; omega) | (intro hf9; have sg9 : ysg v = v := (by omega); have w9 := um145 hf9 (by omega) (by omega) (by omega); rw [sg9] at w9; first | exact Or.inl ⟨by omega, by omega, fun _ => ⟨by omega, by omega⟩, fun _ => w9.mp (by omega)⟩ | exact Or.inr ⟨by omega, fun hc => absurd (w9.mpr (hc.2.2 (by omega))) (by omega)⟩)), (by omega), (by omega), (by omega), hI206, hF208, hR209⟩
                · refine r_load (i := 57) (u := 2) (w := 1) rfl rfl rfl ?_
                  refine r_l2i (i := 58) rfl ?_
                  rw [vi_sg v]
                  have h220 := ysg_fact v
                  refine r_i2l (i := 59) rfl ⟨by omega, by omega⟩ ?_
                  refine r_goto (i := 60) (v := 69) rfl ?_
                  refine r_putL (i := 69) (v := 36) (w := 11) rfl ly43 rfl ⟨by omega, by omega⟩ ?_
                  have hI222 := hI174.set43 (z := w0) (y := ysg v) (by omega) (by omega) (by omega)
                  rw [hS182] at hI222
                  have hF224 := hF183.setf (b := 43) (w := 36) (z := ysg v) rfl
                  have hR225 := hR184.setf (b := 43) (w := 36) (z := ysg v)
                  refine yT_gen (fun S221 hS223 => ?_)
                  rw [hS223] at hI222 hF224 hR225 
                  have h226 := hI222.f tf43_0
                  have h227 : S221.f 43 0 = S180.f 43 0 := by rw [← hS223]; exact ysf_ne (by decide)
                  have h228 : S180.f 43 0 = S173.f 43 0 := by rw [← hS182]; exact ysf_ne (by decide)
                  have h229 : S173.f 43 0 = 0 := by rw [← hS175]; exact ysf_eq
                  have h230 := hI222.f tf43_33
                  have h231 := hI222.m2
                  have h232 : S221.f 43 33 = S180.f 43 33 := by rw [← hS223]; exact ysf_ne (by decide)
                  have h233 : S180.f 43 33 = w0 := by rw [← hS182]; exact ysf_eq
                  have h234 := hI222.m2
                  have h235 : S221.f 43 36 = ysg v := by rw [← hS223]; exact ysf_eq
                  exact r_ret0 (i := 70) rfl ⟨rfl, (by first | (exfalso; omega) | (intro hf9; have sg9 : ysg v = v := (by omega); have w9 := um145 hf9 (by omega) (by omega) (by omega); rw [sg9] at w9; first | exact Or.inl ⟨by omega, by omega, fun _ => ⟨by omega, by omega⟩, fun _ => w9.mp (by omega)⟩ | exact Or.inr ⟨by omega, fun hc => absurd (w9.mpr (hc.2.2 (by omega))) (by omega)⟩)), (by omega), (by omega), (by omega), hI222, hF224, hR225⟩
          · refine z_ge (i := 26) (v := 38) rfl ⟨by omega, by omega⟩ (fun h236 => ?_) (fun h237 => absurd h237 (by omega))
            refine r_const (i := 38) (u := 0) (z := 0) rfl rfl ?_
            refine r_store (i := 39) (u := 5) (w := 0) (L1 := [some ((2, 43)), some (vi w0), some (vl v), none, some (vi 1), some (vi 0)]) rfl rfl rfl rfl ?_
            refine r_load (i := 40) (u := 0) (w := 2) rfl rfl rfl ?_
            refine r_load (i := 41) (u := 5) (w := 0) rfl rfl rfl ?_
            refine z_eq (i := 42) (v := 45) rfl ⟨by omega, by omega⟩ (fun h238 => ?_) (fun h239 => absurd h239 (by omega))
            refine r_const (i := 45) (u := 1) (z := 1) rfl rfl ?_
            refine r_putI (i := 46) (v := 0) (w := 11) rfl ly43 rfl ⟨by omega, by omega⟩ ?_
            have hI241 := hI.setf (b := 43) (w := 0) (z := 1) tf43_0 rfl (by omega) (by omega)
            have hF243 := hF.setf (b := 43) (w := 0) (z := 1) rfl
            have hR244 := hR.setf (b := 43) (w := 0) (z := 1)
            refine yT_gen (fun S240 hS242 => ?_)
            rw [hS242] at hI241 hF243 hR244 
            refine r_load (i := 47) (u := 5) (w := 0) rfl rfl rfl ?_
            refine z_ne (i := 48) (v := 50) rfl ⟨by omega, by omega⟩ (fun h245 => absurd h245 (by omega)) (fun h246 => ?_)
            have h247 := hI241.f tf43_0
            have h248 : S240.f 43 0 = 1 := by rw [← hS242]; exact ysf_eq
            have h249 := hI241.f tf43_33
            have h250 := hI241.m2
            have h251 : S240.f 43 33 = S.f 43 33 := by rw [← hS242]; exact ysf_ne (by decide)
            have h252 := hI241.m2
            have h253 : S240.f 43 36 = S.f 43 36 := by rw [← hS242]; exact ysf_ne (by decide)
            exact r_ret0 (i := 49) rfl ⟨rfl, (by first | (exfalso; omega) | exact fun hf9 => Or.inl ⟨by omega, by omega, fun q9 => ⟨by omega, by omega⟩, fun q9 => absurd q9 (by omega)⟩ | exact fun hf9 => Or.inr ⟨by omega, fun hc => by obtain ⟨c1, c2, -⟩ := hc; omega⟩), (by omega), (by omega), (by omega), hI241, hF243, hR244⟩
          · refine z_ge (i := 26) (v := 38) rfl ⟨by omega, by omega⟩ (fun h254 => ?_) (fun h255 => absurd h255 (by omega))
            refine r_const (i := 38) (u := 0) (z := 0) rfl rfl ?_
            refine r_store (i := 39) (u := 5) (w := 0) (L1 := [some ((2, 43)), some (vi w0), some (vl v), none, some (vi 1), some (vi 0)]) rfl rfl rfl rfl ?_
            refine r_load (i := 40) (u := 0) (w := 2) rfl rfl rfl ?_
            refine r_load (i := 41) (u := 5) (w := 0) rfl rfl rfl ?_
            refine z_eq (i := 42) (v := 45) rfl ⟨by omega, by omega⟩ (fun h256 => ?_) (fun h257 => absurd h257 (by omega))
            refine r_const (i := 45) (u := 1) (z := 1) rfl rfl ?_
            refine r_putI (i := 46) (v := 0) (w := 11) rfl ly43 rfl ⟨by omega, by omega⟩ ?_
            have hI259 := hI.setf (b := 43) (w := 0) (z := 1) tf43_0 rfl (by omega) (by omega)
            have hF261 := hF.setf (b := 43) (w := 0) (z := 1) rfl
            have hR262 := hR.setf (b := 43) (w := 0) (z := 1)
            refine yT_gen (fun S258 hS260 => ?_)
            rw [hS260] at hI259 hF261 hR262 
            refine r_load (i := 47) (u := 5) (w := 0) rfl rfl rfl ?_
            refine z_ne (i := 48) (v := 50) rfl ⟨by omega, by omega⟩ (fun h263 => absurd h263 (by omega)) (fun h264 => ?_)
            have h265 := hI259.f tf43_0
            have h266 : S258.f 43 0 = 1 := by rw [← hS260]; exact ysf_eq
            have h267 := hI259.f tf43_33
            have h268 := hI259.m2
            have h269 : S258.f 43 33 = S.f 43 33 := by rw [← hS260]; exact ysf_ne (by decide)
            have h270 := hI259.m2
            have h271 : S258.f 43 36 = S.f 43 36 := by rw [← hS260]; exact ysf_ne (by decide)
            exact r_ret0 (i := 49) rfl ⟨rfl, (by first | (exfalso; omega) | exact fun hf9 => Or.inl ⟨by omega, by omega, fun q9 => ⟨by omega, by omega⟩, fun q9 => absurd q9 (by omega)⟩ | exact fun hf9 => Or.inr ⟨by omega, fun hc => by obtain ⟨c1, c2, -⟩ := hc; omega⟩), (by omega), (by omega), (by omega), hI259, hF261, hR262⟩
        · refine z_lt (i := 20) (v := 38) rfl ⟨by omega, by omega⟩ (fun h272 => absurd h272 (by omega)) (fun h273 => ?_)
          refine r_load (i := 21) (u := 2) (w := 1) rfl rfl rfl ?_
          refine r_load (i := 22) (u := 0) (w := 2) rfl rfl rfl ?_
          have h274 := hI.f tf43_1
          refine r_getf (i := 23) (v := 1) (w := 11) (x := vi (S.f 43 1)) rfl ly43 rfl rfl fun h275 => ?_
          have h275 : Rg (S.f 43 1) := h275
          refine r_i2l (i := 24) rfl ⟨by omega, by omega⟩ ?_
          refine r_lcmp (i := 25) rfl ⟨by omega, by omega⟩ ⟨by omega, by omega⟩ (fun h276 => ?_) (fun h277 => ?_) (fun h278 => ?_)
          · refine z_ge (i := 26) (v := 38) rfl ⟨by omega, by omega⟩ (fun h279 => absurd h279 (by omega)) (fun h280 => ?_)
            refine r_load (i := 27) (u := 1) (w := 0) rfl rfl rfl ?_
            refine r_const (i := 28) (u := 4) (z := 4) rfl rfl ?_
            refine c_eq (i := 29) (v := 36) rfl ⟨by omega, by omega⟩ ⟨by omega, by omega⟩ (fun h281 => ?_) (fun h282 => ?_)
            · refine r_const (i := 36) (u := 1) (z := 1) rfl rfl ?_
              refine r_goto (i := 37) (v := 39) rfl ?_
              refine r_store (i := 39) (u := 5) (w := 0) (L1 := [some ((2, 43)), some (vi w0), some (vl v), none, some (vi 1), some (vi 1)]) rfl rfl rfl rfl ?_
              refine r_load (i := 40) (u := 0) (w := 2) rfl rfl rfl ?_
              refine r_load (i := 41) (u := 5) (w := 0) rfl rfl rfl ?_
              refine z_eq (i := 42) (v := 45) rfl ⟨by omega, by omega⟩ (fun h283 => absurd h283 (by omega)) (fun h284 => ?_)
              refine r_const (i := 43) (u := 0) (z := 0) rfl rfl ?_
              refine r_goto (i := 44) (v := 46) rfl ?_
              refine r_putI (i := 46) (v := 0) (w := 11) rfl ly43 rfl ⟨by omega, by omega⟩ ?_
              have hI286 := hI.setf (b := 43) (w := 0) (z := 0) tf43_0 rfl (by omega) (by omega)
              have hF288 := hF.setf (b := 43) (w := 0) (z := 0) rfl
              have hR289 := hR.setf (b := 43) (w := 0) (z := 0)
              refine yT_gen (fun S285 hS287 => ?_)
              rw [hS287] at hI286 hF288 hR289 
              refine r_load (i := 47) (u := 5) (w := 0) rfl rfl rfl ?_
              refine z_ne (i := 48) (v := 50) rfl ⟨by omega, by omega⟩ (fun h290 => ?_) (fun h291 => absurd h291 (by omega))
              refine r_load (i := 50) (u := 0) (w := 2) rfl rfl rfl ?_
              refine r_load (i := 51) (u := 1) (w := 0) rfl rfl rfl ?_
              refine r_putI (i := 52) (v := 33) (w := 11) rfl ly43 rfl ⟨by omega, by omega⟩ ?_
              have hF295 := hF288.setf (b := 43) (w := 33) (z := w0) rfl
              have hR296 := hR289.setf (b := 43) (w := 33) (z := w0)
              refine yT_gen (fun S292 hS294 => ?_)
              rw [hS294] at hF295 hR296 
              refine r_load (i := 53) (u := 0) (w := 2) rfl rfl rfl ?_
              refine r_load (i := 54) (u := 1) (w := 0) rfl rfl rfl ?_
              refine r_const (i := 55) (u := 1) (z := 1) rfl rfl ?_
              refine c_ne (i := 56) (v := 61) rfl ⟨by omega, by omega⟩ ⟨by omega, by omega⟩ (fun h297 => ?_) (fun h298 => ?_)
              · refine r_load (i := 61) (u := 1) (w := 0) rfl rfl rfl ?_
                refine r_const (i := 62) (u := 3) (z := 3) rfl rfl ?_
                refine c_ne (i := 63) (v := 68) rfl ⟨by omega, by omega⟩ ⟨by omega, by omega⟩ (fun h299 => ?_) (fun h300 => ?_)
                · refine r_load (i := 68) (u := 2) (w := 1) rfl rfl rfl ?_
                  refine r_putL (i := 69) (v := 36) (w := 11) rfl ly43 rfl ⟨by omega, by omega⟩ ?_
                  have hI302 := hI286.set43 (z := w0) (y := v) (by omega) (by omega) (by omega)
                  rw [hS294] at hI302
                  have hF304 := hF295.setf (b := 43) (w := 36) (z := v) rfl
                  have hR305 := hR296.setf (b := 43) (w := 36) (z := v)
                  refine yT_gen (fun S301 hS303 => ?_)
                  rw [hS303] at hI302 hF304 hR305 
                  have h306 := hI302.f tf43_0
                  have h307 : S301.f 43 0 = S292.f 43 0 := by rw [← hS303]; exact ysf_ne (by decide)
                  have h308 : S292.f 43 0 = S285.f 43 0 := by rw [← hS294]; exact ysf_ne (by decide)
                  have h309 : S285.f 43 0 = 0 := by rw [← hS287]; exact ysf_eq
                  have h310 := hI302.f tf43_33
                  have h311 := hI302.m2
                  have h312 : S301.f 43 33 = S292.f 43 33 := by rw [← hS303]; exact ysf_ne (by decide)
                  have h313 : S292.f 43 33 = w0 := by rw [← hS294]; exact ysf_eq
                  have h314 := hI302.m2
                  have h315 : S301.f 43 36 = v := by rw [← hS303]; exact ysf_eq
                  exact r_ret0 (i := 70) rfl ⟨rfl, (by first | (exfalso; omega) | exact fun hf9 => Or.inl ⟨by omega, by omega, fun q9 => ⟨by omega, by omega⟩, fun q9 => absurd q9 (by omega)⟩ | exact fun hf9 => Or.inr ⟨by omega, fun hc => by obtain ⟨c1, c2, -⟩ := hc; omega⟩), (by omega), (by omega), (by omega), hI302, hF304, hR305⟩
                · refine r_load (i := 64) (u := 2) (w := 1) rfl rfl rfl ?_
                  refine r_lconst (i := 65) (u := 1) (z := 1) rfl rfl ?_
                  refine r_land (i := 66) rfl ?_
                  have h316 := @yland_c v 1 (by decide) (by decide)
                  refine r_goto (i := 67) (v := 69) rfl ?_
                  refine r_putL (i := 69) (v := 36) (w := 11) rfl ly43 rfl ⟨by omega, by omega⟩ ?_
                  have hI318 := hI286.set43 (z := w0) (y := yland v 1) (by omega) (by omega) (by omega)
                  rw [hS294] at hI318
                  have hF320 := hF295.setf (b := 43) (w := 36) (z := yland v 1) rfl
                  have hR321 := hR296.setf (b := 43) (w := 36) (z := yland v 1)
                  refine yT_gen (fun S317 hS319 => ?_)
                  rw [hS319] at hI318 hF320 hR321 
                  have h322 := hI318.f tf43_0
                  have h323 : S317.f 43 0 = S292.f 43 0 := by rw [← hS319]; exact ysf_ne (by decide)
                  have h324 : S292.f 43 0 = S285.f 43 0 := by rw [← hS294]; exact ysf_ne (by decide)
                  have h325 : S285.f 43 0 = 0 := by rw [← hS287]; exact ysf_eq
                  have h326 := hI318.f tf43_33
                  have h327 := hI318.m2
                  have h328 : S317.f 43 33 = S292.f 43 33 := by rw [← hS319]; exact ysf_ne (by decide)
                  have h329 : S292.f 43 33 = w0 := by rw [← hS294]; exact ysf_eq
                  have h330 := hI318.m2
                  have h331 : S317.f 43 36 = yland v 1 := by rw [← hS319]; exact ysf_eq
                  exact r_ret0 (i := 70) rfl ⟨rfl, (by first | (exfalso; omega) | exact fun hf9 => Or.inl ⟨by omega, by omega, fun q9 => ⟨by omega, by omega⟩, fun q9 => absurd q9 (by omega)⟩ | exact fun hf9 => Or.inr ⟨by omega, fun hc => by obtain ⟨c1, c2, -⟩ := hc; omega⟩), (by omega), (by omega), (by omega), hI318, hF320, hR321⟩
              · refine r_load (i := 57) (u := 2) (w := 1) rfl rfl rfl ?_
                refine r_l2i (i := 58) rfl ?_
                rw [vi_sg v]
                have h332 := ysg_fact v
                refine r_i2l (i := 59) rfl ⟨by omega, by omega⟩ ?_
                refine r_goto (i := 60) (v := 69) rfl ?_
                refine r_putL (i := 69) (v := 36) (w := 11) rfl ly43 rfl ⟨by omega, by omega⟩ ?_
                have hI334 := hI286.set43 (z := w0) (y := ysg v) (by omega) (by omega) (by omega)
                rw [hS294] at hI334
                have hF336 := hF295.setf (b := 43) (w := 36) (z := ysg v) rfl
                have hR337 := hR296.setf (b := 43) (w := 36) (z := ysg v)
                refine yT_gen (fun S333 hS335 => ?_)
                rw [hS335] at hI334 hF336 hR337 
                have h338 := hI334.f tf43_0
                have h339 : S333.f 43 0 = S292.f 43 0 := by rw [← hS335]; exact ysf_ne (by decide)
                have h340 : S292.f 43 0 = S285.f 43 0 := by rw [← hS294]; exact ysf_ne (by decide)
                have h341 : S285.f 43 0 = 0 := by rw [← hS287]; exact ysf_eq
                have h342 := hI334.f tf43_33
                have h343 := hI334.m2
                have h344 : S333.f 43 33 = S292.f 43 33 := by rw [← hS335]; exact ysf_ne (by decide)
                have h345 : S292.f 43 33 = w0 := by rw [← hS294]; exact ysf_eq
                have h346 := hI334.m2
                have h347 : S333.f 43 36 = ysg v := by rw [← hS335]; exact ysf_eq
                exact r_ret0 (i := 70) rfl ⟨rfl, (by first | (exfalso; omega) | exact fun hf9 => Or.inl ⟨by omega, by omega, fun q9 => ⟨by omega, by omega⟩, fun q9 => absurd q9 (by omega)⟩ | exact fun hf9 => Or.inr ⟨by omega, fun hc => by obtain ⟨c1, c2, -⟩ := hc; omega⟩), (by omega), (by omega), (by omega), hI334, hF336, hR337⟩
            · refine r_load (i := 30) (u := 0) (w := 2) rfl rfl rfl ?_
              refine r_load (i := 31) (u := 2) (w := 1) rfl rfl rfl ?_
              refine r_l2i (i := 32) rfl ?_
              rw [vi_sg v]
              have h348 := ysg_fact v
              refine r_const (i := 33) (u := 1) (z := 1) rfl rfl ?_
              refine r_call (i := 34) (u := 11) (v := 262) (w := 0) (b := 0) (na := 1795) (C2 := xC262) (as := [(2, 43), vi (ysg v), vi 1]) (s := []) rfl rfl rfl rfl rfl rfl rfl (sp262 (t := ysg v) (o := 1) hI ⟨by omega, by omega⟩ ⟨by omega, by omega⟩   (by omega)) (fun r349 S350 hq351 => ?_)
              obtain ⟨z352, rfl, h353, h354, um355, hI356, hF357, hR358⟩ := hq351
              have hF359 := hF.trans hF357 rfl rfl
              have hR360 := hR.trans hR358 rfl
              refine Or.inr (Or.inl ⟨rfl, ?_⟩)
              refine z_eq (i := 35) (v := 38) rfl ⟨by omega, by omega⟩ (fun h361 => ?_) (fun h362 => ?_)
              · refine r_const (i := 38) (u := 0) (z := 0) rfl rfl ?_
                refine r_store (i := 39) (u := 5) (w := 0) (L1 := [some ((2, 43)), some (vi w0), some (vl v), none, some (vi 1), some (vi 0)]) rfl rfl rfl rfl ?_
                refine r_load (i := 40) (u := 0) (w := 2) rfl rfl rfl ?_
                refine r_load (i := 41) (u := 5) (w := 0) rfl rfl rfl ?_
                refine z_eq (i := 42) (v := 45) rfl ⟨by omega, by omega⟩ (fun h363 => ?_) (fun h364 => absurd h364 (by omega))
                refine r_const (i := 45) (u := 1) (z := 1) rfl rfl ?_
                refine r_putI (i := 46) (v := 0) (w := 11) rfl ly43 rfl ⟨by omega, by omega⟩ ?_
                have hI366 := hI356.setf (b := 43) (w := 0) (z := 1) tf43_0 rfl (by omega) (by omega)
                have hF368 := hF359.setf (b := 43) (w := 0) (z := 1) rfl
                have hR369 := hR360.setf (b := 43) (w := 0) (z := 1)
                refine yT_gen (fun S365 hS367 => ?_)
                rw [hS367] at hI366 hF368 hR369 
                refine r_load (i := 47) (u := 5) (w := 0) rfl rfl rfl ?_
                refine z_ne (i := 48) (v := 50) rfl ⟨by omega, by omega⟩ (fun h370 => absurd h370 (by omega)) (fun h371 => ?_)
                have h372 := hI366.f tf43_0
                have h373 : S365.f 43 0 = 1 := by rw [← hS367]; exact ysf_eq
                have h374 := hI366.f tf43_33
                have h375 := hI366.m2
                have h376 : S365.f 43 33 = S350.f 43 33 := by rw [← hS367]; exact ysf_ne (by decide)
                have h377 : S350.f 43 33 = S.f 43 33 := hF357.f rfl
                have h378 := hI366.m2
                have h379 : S365.f 43 36 = S350.f 43 36 := by rw [← hS367]; exact ysf_ne (by decide)
                have h380 : S350.f 43 36 = S.f 43 36 := hF357.f rfl
                exact r_ret0 (i := 49) rfl ⟨rfl, (by first | (exfalso; omega) | (intro hf9; have sg9 : ysg v = v := (by omega); have w9 := um355 hf9 (by omega) (by omega) (by omega); rw [sg9] at w9; first | exact Or.inl ⟨by omega, by omega, fun _ => ⟨by omega, by omega⟩, fun _ => w9.mp (by omega)⟩ | exact Or.inr ⟨by omega, fun hc => absurd (w9.mpr (hc.2.2 (by omega))) (by omega)⟩)), (by omega), (by omega), (by omega), hI366, hF368, hR369⟩
              · refine r_const (i := 36) (u := 1) (z := 1) rfl rfl ?_
                refine r_goto (i := 37) (v := 39) rfl ?_
                refine r_store (i := 39) (u := 5) (w := 0) (L1 := [some ((2, 43)), some (vi w0), some (vl v), none, some (vi 1), some (vi 1)]) rfl rfl rfl rfl ?_
                refine r_load (i := 40) (u := 0) (w := 2) rfl rfl rfl ?_
                refine r_load (i := 41) (u := 5) (w := 0) rfl rfl rfl ?_
                refine z_eq (i := 42) (v := 45) rfl ⟨by omega, by omega⟩ (fun h381 => absurd h381 (by omega)) (fun h382 => ?_)
                refine r_const (i := 43) (u := 0) (z := 0) rfl rfl ?_
                refine r_goto (i := 44) (v := 46) rfl ?_
                refine r_putI (i := 46) (v := 0) (w := 11) rfl ly43 rfl ⟨by omega, by omega⟩ ?_
                have hI384 := hI356.setf (b := 43) (w := 0) (z := 0) tf43_0 rfl (by omega) (by omega)
                have hF386 := hF359.setf (b := 43) (w := 0) (z := 0) rfl
                have hR387 := hR360.setf (b := 43) (w := 0) (z := 0)
                refine yT_gen (fun S383 hS385 => ?_)
                rw [hS385] at hI384 hF386 hR387 
                refine r_load (i := 47) (u := 5) (w := 0) rfl rfl rfl ?_
                refine z_ne (i := 48) (v := 50) rfl ⟨by omega, by omega⟩ (fun h388 => ?_) (fun h389 => absurd h389 (by omega))
                refine r_load (i := 50) (u := 0) (w := 2) rfl rfl rfl ?_
                refine r_load (i := 51) (u := 1) (w := 0) rfl rfl rfl ?_
                refine r_putI (i := 52) (v := 33) (w := 11) rfl ly43 rfl ⟨by omega, by omega⟩ ?_
                have hF393 := hF386.setf (b := 43) (w := 33) (z := w0) rfl
                have hR394 := hR387.setf (b := 43) (w := 33) (z := w0)
                refine yT_gen (fun S390 hS392 => ?_)
                rw [hS392] at hF393 hR394 
                refine r_load (i := 53) (u := 0) (w := 2) rfl rfl rfl ?_
                refine r_load (i := 54) (u := 1) (w := 0) rfl rfl rfl ?_
                refine r_const (i := 55) (u := 1) (z := 1) rfl rfl ?_
                refine c_ne (i := 56) (v := 61) rfl ⟨by omega, by omega⟩ ⟨by omega, by omega⟩ (fun h395 => ?_) (fun h396 => ?_)
                · refine r_load (i := 61) (u := 1) (w := 0) rfl rfl rfl ?_
                  refine r_const (i := 62) (u := 3) (z := 3) rfl rfl ?_
                  refine c_ne (i := 63) (v := 68) rfl ⟨by omega, by omega⟩ ⟨by omega, by omega⟩ (fun h397 => ?_) (fun h398 => ?_)
                  · refine r_load (i := 68) (u := 2) (w := 1) rfl rfl rfl ?_
                    refine r_putL (i := 69) (v := 36) (w := 11) rfl ly43 rfl ⟨by omega, by omega⟩ ?_
                    have hI400 := hI384.set43 (z := w0) (y := v) (by omega) (by omega) (by omega)
                    rw [hS392] at hI400
                    have hF402 := hF393.setf (b := 43) (w := 36) (z := v) rfl
                    have hR403 := hR394.setf (b := 43) (w := 36) (z := v)
                    refine yT_gen (fun S399 hS401 => ?_)
                    rw [hS401] at hI400 hF402 hR403 
                    have h404 := hI400.f tf43_0
                    have h405 : S399.f 43 0 = S390.f 43 0 := by rw [← hS401]; exact ysf_ne (by decide)
                    have h406 : S390.f 43 0 = S383.f 43 0 := by rw [← hS392]; exact ysf_ne (by decide)
                    have h407 : S383.f 43 0 = 0 := by rw [← hS385]; exact ysf_eq
                    have h408 := hI400.f tf43_33
                    have h409 := hI400.m2
                    have h410 : S399.f 43 33 = S390.f 43 33 := by rw [← hS401]; exact ysf_ne (by decide)
                    have h411 : S390.f 43 33 = w0 := by rw [← hS392]; exact ysf_eq
                    have h412 := hI400.m2
                    have h413 : S399.f 43 36 = v := by rw [← hS401]; exact ysf_eq
                    exact r_ret0 (i := 70) rfl ⟨rfl, (by first | (exfalso; omega) | (intro hf9; have sg9 : ysg v = v := (by omega); have w9 := um355 hf9 (by omega) (by omega) (by omega); rw [sg9] at w9; first | exact Or.inl ⟨by omega, by omega, fun _ => ⟨by omega, by omega⟩, fun _ => w9.mp (by omega)⟩ | exact Or.inr ⟨by omega, fun hc => absurd (w9.mpr (hc.2.2 (by omega))) (by omega)⟩)), (by omega), (by omega), (by omega), hI400, hF402, hR403⟩
                  · refine r_load (i := 64) (u := 2) (w := 1) rfl rfl rfl ?_
                    refine r_lconst (i := 65) (u := 1) (z := 1) rfl rfl ?_
                    refine r_land (i := 66) rfl ?_
                    have h414 := @yland_c v 1 (by decide) (by decide)
                    refine r_goto (i := 67) (v := 69) rfl ?_
                    refine r_putL (i := 69) (v := 36) (w := 11) rfl ly43 rfl ⟨by omega, by omega⟩ ?_
                    have hI416 := hI384.set43 (z := w0) (y := yland v 1) (by omega) (by omega) (by omega)
                    rw [hS392] at hI416
                    have hF418 := hF393.setf (b := 43) (w := 36) (z := yland v 1) rfl
                    have hR419 := hR394.setf (b := 43) (w := 36) (z := yland v 1)
                    refine yT_gen (fun S415 hS417 => ?_)
                    rw [hS417] at hI416 hF418 hR419 
                    have h420 := hI416.f tf43_0
                    have h421 : S415.f 43 0 = S390.f 43 0 := by rw [← hS417]; exact ysf_ne (by decide)
                    have h422 : S390.f 43 0 = S383.f 43 0 := by rw [← hS392]; exact ysf_ne (by decide)
                    have h423 : S383.f 43 0 = 0 := by rw [← hS385]; exact ysf_eq
                    have h424 := hI416.f tf43_33
                    have h425 := hI416.m2
                    have h426 : S415.f 43 33 = S390.f 43 33 := by rw [← hS417]; exact ysf_ne (by decide)
                    have h427 : S390.f 43 33 = w0 := by rw [← hS392]; exact ysf_eq
                    have h428 := hI416.m2
                    have h429 : S415.f 43 36 = yland v 1 := by rw [← hS417]; exact ysf_eq
                    exact r_ret0 (i := 70) rfl ⟨rfl, (by first | (exfalso; omega) | (intro hf9; have sg9 : ysg v = v := (by omega); have w9 := um355 hf9 (by omega) (by omega) (by omega); rw [sg9] at w9; first | exact Or.inl ⟨by omega, by omega, fun _ => ⟨by omega, by omega⟩, fun _ => w9.mp (by omega)⟩ | exact Or.inr ⟨by omega, fun hc => absurd (w9.mpr (hc.2.2 (by omega))) (by omega)⟩)), (by omega), (by omega), (by omega), hI416, hF418, hR419⟩
                · refine r_load (i := 57) (u := 2) (w := 1) rfl rfl rfl ?_
                  refine r_l2i (i := 58) rfl ?_
                  rw [vi_sg v]
                  have h430 := ysg_fact v
                  refine r_i2l (i := 59) rfl ⟨by omega, by omega⟩ ?_
                  refine r_goto (i := 60) (v := 69) rfl ?_
                  refine r_putL (i := 69) (v := 36) (w := 11) rfl ly43 rfl ⟨by omega, by omega⟩ ?_
                  have hI432 := hI384.set43 (z := w0) (y := ysg v) (by omega) (by omega) (by omega)
                  rw [hS392] at hI432
                  have hF434 := hF393.setf (b := 43) (w := 36) (z := ysg v) rfl
                  have hR435 := hR394.setf (b := 43) (w := 36) (z := ysg v)
                  refine yT_gen (fun S431 hS433 => ?_)
                  rw [hS433] at hI432 hF434 hR435 
                  have h436 := hI432.f tf43_0
                  have h437 : S431.f 43 0 = S390.f 43 0 := by rw [← hS433]; exact ysf_ne (by decide)
                  have h438 : S390.f 43 0 = S383.f 43 0 := by rw [← hS392]; exact ysf_ne (by decide)
                  have h439 : S383.f 43 0 = 0 := by rw [← hS385]; exact ysf_eq
                  have h440 := hI432.f tf43_33
                  have h441 := hI432.m2
                  have h442 : S431.f 43 33 = S390.f 43 33 := by rw [← hS433]; exact ysf_ne (by decide)
                  have h443 : S390.f 43 33 = w0 := by rw [← hS392]; exact ysf_eq
                  have h444 := hI432.m2
                  have h445 : S431.f 43 36 = ysg v := by rw [← hS433]; exact ysf_eq
                  exact r_ret0 (i := 70) rfl ⟨rfl, (by first | (exfalso; omega) | (intro hf9; have sg9 : ysg v = v := (by omega); have w9 := um355 hf9 (by omega) (by omega) (by omega); rw [sg9] at w9; first | exact Or.inl ⟨by omega, by omega, fun _ => ⟨by omega, by omega⟩, fun _ => w9.mp (by omega)⟩ | exact Or.inr ⟨by omega, fun hc => absurd (w9.mpr (hc.2.2 (by omega))) (by omega)⟩)), (by omega), (by omega), (by omega), hI432, hF434, hR435⟩
          · refine z_ge (i := 26) (v := 38) rfl ⟨by omega, by omega⟩ (fun h446 => ?_) (fun h447 => absurd h447 (by omega))
            refine r_const (i := 38) (u := 0) (z := 0) rfl rfl ?_
            refine r_store (i := 39) (u := 5) (w := 0) (L1 := [some ((2, 43)), some (vi w0), some (vl v), none, some (vi 1), some (vi 0)]) rfl rfl rfl rfl ?_
            refine r_load (i := 40) (u := 0) (w := 2) rfl rfl rfl ?_
            refine r_load (i := 41) (u := 5) (w := 0) rfl rfl rfl ?_
            refine z_eq (i := 42) (v := 45) rfl ⟨by omega, by omega⟩ (fun h448 => ?_) (fun h449 => absurd h449 (by omega))
            refine r_const (i := 45) (u := 1) (z := 1) rfl rfl ?_
            refine r_putI (i := 46) (v := 0) (w := 11) rfl ly43 rfl ⟨by omega, by omega⟩ ?_
            have hI451 := hI.setf (b := 43) (w := 0) (z := 1) tf43_0 rfl (by omega) (by omega)
            have hF453 := hF.setf (b := 43) (w := 0) (z := 1) rfl
            have hR454 := hR.setf (b := 43) (w := 0) (z := 1)
            refine yT_gen (fun S450 hS452 => ?_)
            rw [hS452] at hI451 hF453 hR454 
            refine r_load (i := 47) (u := 5) (w := 0) rfl rfl rfl ?_
            refine z_ne (i := 48) (v := 50) rfl ⟨by omega, by omega⟩ (fun h455 => absurd h455 (by omega)) (fun h456 => ?_)
            have h457 := hI451.f tf43_0
            have h458 : S450.f 43 0 = 1 := by rw [← hS452]; exact ysf_eq
            have h459 := hI451.f tf43_33
            have h460 := hI451.m2
            have h461 : S450.f 43 33 = S.f 43 33 := by rw [← hS452]; exact ysf_ne (by decide)
            have h462 := hI451.m2
            have h463 : S450.f 43 36 = S.f 43 36 := by rw [← hS452]; exact ysf_ne (by decide)
            exact r_ret0 (i := 49) rfl ⟨rfl, (by first | (exfalso; omega) | exact fun hf9 => Or.inl ⟨by omega, by omega, fun q9 => ⟨by omega, by omega⟩, fun q9 => absurd q9 (by omega)⟩ | exact fun hf9 => Or.inr ⟨by omega, fun hc => by obtain ⟨c1, c2, -⟩ := hc; omega⟩), (by omega), (by omega), (by omega), hI451, hF453, hR454⟩
          · refine z_ge (i := 26) (v := 38) rfl ⟨by omega, by omega⟩ (fun h464 => ?_) (fun h465 => absurd h465 (by omega))
            refine r_const (i := 38) (u := 0) (z := 0) rfl rfl ?_
            refine r_store (i := 39) (u := 5) (w := 0) (L1 := [some ((2, 43)), some (vi w0), some (vl v), none, some (vi 1), some (vi 0)]) rfl rfl rfl rfl ?_
            refine r_load (i := 40) (u := 0) (w := 2) rfl rfl rfl ?_
            refine r_load (i := 41) (u := 5) (w := 0) rfl rfl rfl ?_
            refine z_eq (i := 42) (v := 45) rfl ⟨by omega, by omega⟩ (fun h466 => ?_) (fun h467 => absurd h467 (by omega))
            refine r_const (i := 45) (u := 1) (z := 1) rfl rfl ?_
            refine r_putI (i := 46) (v := 0) (w := 11) rfl ly43 rfl ⟨by omega, by omega⟩ ?_
            have hI469 := hI.setf (b := 43) (w := 0) (z := 1) tf43_0 rfl (by omega) (by omega)
            have hF471 := hF.setf (b := 43) (w := 0) (z := 1) rfl
            have hR472 := hR.setf (b := 43) (w := 0) (z := 1)
            refine yT_gen (fun S468 hS470 => ?_)
            rw [hS470] at hI469 hF471 hR472 
            refine r_load (i := 47) (u := 5) (w := 0) rfl rfl rfl ?_
            refine z_ne (i := 48) (v := 50) rfl ⟨by omega, by omega⟩ (fun h473 => absurd h473 (by omega)) (fun h474 => ?_)
            have h475 := hI469.f tf43_0
            have h476 : S468.f 43 0 = 1 := by rw [← hS470]; exact ysf_eq
            have h477 := hI469.f tf43_33
            have h478 := hI469.m2
            have h479 : S468.f 43 33 = S.f 43 33 := by rw [← hS470]; exact ysf_ne (by decide)
            have h480 := hI469.m2
            have h481 : S468.f 43 36 = S.f 43 36 := by rw [← hS470]; exact ysf_ne (by decide)
            exact r_ret0 (i := 49) rfl ⟨rfl, (by first | (exfalso; omega) | exact fun hf9 => Or.inl ⟨by omega, by omega, fun q9 => ⟨by omega, by omega⟩, fun q9 => absurd q9 (by omega)⟩ | exact fun hf9 => Or.inr ⟨by omega, fun hc => by obtain ⟨c1, c2, -⟩ := hc; omega⟩), (by omega), (by omega), (by omega), hI469, hF471, hR472⟩
  · refine r_load (i := 3) (u := 1) (w := 0) rfl rfl rfl ?_
    refine r_const (i := 4) (u := 5) (z := 5) rfl rfl ?_
    refine c_ne (i := 5) (v := 8) rfl ⟨by omega, by omega⟩ ⟨by omega, by omega⟩ (fun h482 => ?_) (fun h483 => ?_)
    · refine r_const (i := 8) (u := 0) (z := 0) rfl rfl ?_
      refine r_store (i := 9) (u := 4) (w := 0) (L1 := [some ((2, 43)), some (vi w0), some (vl v), none, some (vi 0), none]) rfl rfl rfl rfl ?_
      refine r_load (i := 10) (u := 1) (w := 0) rfl rfl rfl ?_
      refine z_lt (i := 11) (v := 38) rfl ⟨by omega, by omega⟩ (fun h484 => ?_) (fun h485 => ?_)
      · refine r_const (i := 38) (u := 0) (z := 0) rfl rfl ?_
        refine r_store (i := 39) (u := 5) (w := 0) (L1 := [some ((2, 43)), some (vi w0), some (vl v), none, some (vi 0), some (vi 0)]) rfl rfl rfl rfl ?_
        refine r_load (i := 40) (u := 0) (w := 2) rfl rfl rfl ?_
        refine r_load (i := 41) (u := 5) (w := 0) rfl rfl rfl ?_
        refine z_eq (i := 42) (v := 45) rfl ⟨by omega, by omega⟩ (fun h486 => ?_) (fun h487 => absurd h487 (by omega))
        refine r_const (i := 45) (u := 1) (z := 1) rfl rfl ?_
        refine r_putI (i := 46) (v := 0) (w := 11) rfl ly43 rfl ⟨by omega, by omega⟩ ?_
        have hI489 := hI.setf (b := 43) (w := 0) (z := 1) tf43_0 rfl (by omega) (by omega)
        have hF491 := hF.setf (b := 43) (w := 0) (z := 1) rfl
        have hR492 := hR.setf (b := 43) (w := 0) (z := 1)
        refine yT_gen (fun S488 hS490 => ?_)
        rw [hS490] at hI489 hF491 hR492 
        refine r_load (i := 47) (u := 5) (w := 0) rfl rfl rfl ?_
        refine z_ne (i := 48) (v := 50) rfl ⟨by omega, by omega⟩ (fun h493 => absurd h493 (by omega)) (fun h494 => ?_)
        have h495 := hI489.f tf43_0
        have h496 : S488.f 43 0 = 1 := by rw [← hS490]; exact ysf_eq
        have h497 := hI489.f tf43_33
        have h498 := hI489.m2
        have h499 : S488.f 43 33 = S.f 43 33 := by rw [← hS490]; exact ysf_ne (by decide)
        have h500 := hI489.m2
        have h501 : S488.f 43 36 = S.f 43 36 := by rw [← hS490]; exact ysf_ne (by decide)
        exact r_ret0 (i := 49) rfl ⟨rfl, (by first | (exfalso; omega) | exact fun hf9 => Or.inl ⟨by omega, by omega, fun q9 => ⟨by omega, by omega⟩, fun q9 => absurd q9 (by omega)⟩ | exact fun hf9 => Or.inr ⟨by omega, fun hc => by obtain ⟨c1, c2, -⟩ := hc; omega⟩), (by omega), (by omega), (by omega), hI489, hF491, hR492⟩
      · refine r_load (i := 12) (u := 1) (w := 0) rfl rfl rfl ?_
        refine r_const (i := 13) (u := 6) (z := 6) rfl rfl ?_
        refine c_ge (i := 14) (v := 38) rfl ⟨by omega, by omega⟩ ⟨by omega, by omega⟩ (fun h502 => ?_) (fun h503 => ?_)
        · refine r_const (i := 38) (u := 0) (z := 0) rfl rfl ?_
          refine r_store (i := 39) (u := 5) (w := 0) (L1 := [some ((2, 43)), some (vi w0), some (vl v), none, some (vi 0), some (vi 0)]) rfl rfl rfl rfl ?_
          refine r_load (i := 40) (u := 0) (w := 2) rfl rfl rfl ?_
          refine r_load (i := 41) (u := 5) (w := 0) rfl rfl rfl ?_
          refine z_eq (i := 42) (v := 45) rfl ⟨by omega, by omega⟩ (fun h504 => ?_) (fun h505 => absurd h505 (by omega))
          refine r_const (i := 45) (u := 1) (z := 1) rfl rfl ?_
          refine r_putI (i := 46) (v := 0) (w := 11) rfl ly43 rfl ⟨by omega, by omega⟩ ?_
          have hI507 := hI.setf (b := 43) (w := 0) (z := 1) tf43_0 rfl (by omega) (by omega)
          have hF509 := hF.setf (b := 43) (w := 0) (z := 1) rfl
          have hR510 := hR.setf (b := 43) (w := 0) (z := 1)
          refine yT_gen (fun S506 hS508 => ?_)
          rw [hS508] at hI507 hF509 hR510 
          refine r_load (i := 47) (u := 5) (w := 0) rfl rfl rfl ?_
          refine z_ne (i := 48) (v := 50) rfl ⟨by omega, by omega⟩ (fun h511 => absurd h511 (by omega)) (fun h512 => ?_)
          have h513 := hI507.f tf43_0
          have h514 : S506.f 43 0 = 1 := by rw [← hS508]; exact ysf_eq
          have h515 := hI507.f tf43_33
          have h516 := hI507.m2
          have h517 : S506.f 43 33 = S.f 43 33 := by rw [← hS508]; exact ysf_ne (by decide)
          have h518 := hI507.m2
          have h519 : S506.f 43 36 = S.f 43 36 := by rw [← hS508]; exact ysf_ne (by decide)
          exact r_ret0 (i := 49) rfl ⟨rfl, (by first | (exfalso; omega) | exact fun hf9 => Or.inl ⟨by omega, by omega, fun q9 => ⟨by omega, by omega⟩, fun q9 => absurd q9 (by omega)⟩ | exact fun hf9 => Or.inr ⟨by omega, fun hc => by obtain ⟨c1, c2, -⟩ := hc; omega⟩), (by omega), (by omega), (by omega), hI507, hF509, hR510⟩
        · refine r_load (i := 15) (u := 4) (w := 0) rfl rfl rfl ?_
          refine z_eq (i := 16) (v := 36) rfl ⟨by omega, by omega⟩ (fun h520 => ?_) (fun h521 => absurd h521 (by omega))
          refine r_const (i := 36) (u := 1) (z := 1) rfl rfl ?_
          refine r_goto (i := 37) (v := 39) rfl ?_
          refine r_store (i := 39) (u := 5) (w := 0) (L1 := [some ((2, 43)), some (vi w0), some (vl v), none, some (vi 0), some (vi 1)]) rfl rfl rfl rfl ?_
          refine r_load (i := 40) (u := 0) (w := 2) rfl rfl rfl ?_
          refine r_load (i := 41) (u := 5) (w := 0) rfl rfl rfl ?_
          refine z_eq (i := 42) (v := 45) rfl ⟨by omega, by omega⟩ (fun h522 => absurd h522 (by omega)) (fun h523 => ?_)
          refine r_const (i := 43) (u := 0) (z := 0) rfl rfl ?_
          refine r_goto (i := 44) (v := 46) rfl ?_
          refine r_putI (i := 46) (v := 0) (w := 11) rfl ly43 rfl ⟨by omega, by omega⟩ ?_
          have hI525 := hI.setf (b := 43) (w := 0) (z := 0) tf43_0 rfl (by omega) (by omega)
          have hF527 := hF.setf (b := 43) (w := 0) (z := 0) rfl
          have hR528 := hR.setf (b := 43) (w := 0) (z := 0)
          refine yT_gen (fun S524 hS526 => ?_)
          rw [hS526] at hI525 hF527 hR528 
          refine r_load (i := 47) (u := 5) (w := 0) rfl rfl rfl ?_
          refine z_ne (i := 48) (v := 50) rfl ⟨by omega, by omega⟩ (fun h529 => ?_) (fun h530 => absurd h530 (by omega))
          refine r_load (i := 50) (u := 0) (w := 2) rfl rfl rfl ?_
          refine r_load (i := 51) (u := 1) (w := 0) rfl rfl rfl ?_
          refine r_putI (i := 52) (v := 33) (w := 11) rfl ly43 rfl ⟨by omega, by omega⟩ ?_
          have hF534 := hF527.setf (b := 43) (w := 33) (z := w0) rfl
          have hR535 := hR528.setf (b := 43) (w := 33) (z := w0)
          refine yT_gen (fun S531 hS533 => ?_)
          rw [hS533] at hF534 hR535 
          refine r_load (i := 53) (u := 0) (w := 2) rfl rfl rfl ?_
          refine r_load (i := 54) (u := 1) (w := 0) rfl rfl rfl ?_
          refine r_const (i := 55) (u := 1) (z := 1) rfl rfl ?_
          refine c_ne (i := 56) (v := 61) rfl ⟨by omega, by omega⟩ ⟨by omega, by omega⟩ (fun h536 => ?_) (fun h537 => ?_)
          · refine r_load (i := 61) (u := 1) (w := 0) rfl rfl rfl ?_
            refine r_const (i := 62) (u := 3) (z := 3) rfl rfl ?_
            refine c_ne (i := 63) (v := 68) rfl ⟨by omega, by omega⟩ ⟨by omega, by omega⟩ (fun h538 => ?_) (fun h539 => ?_)
            · refine r_load (i := 68) (u := 2) (w := 1) rfl rfl rfl ?_
              refine r_putL (i := 69) (v := 36) (w := 11) rfl ly43 rfl ⟨by omega, by omega⟩ ?_
              have hI541 := hI525.set43 (z := w0) (y := v) (by omega) (by omega) (by omega)
              rw [hS533] at hI541
              have hF543 := hF534.setf (b := 43) (w := 36) (z := v) rfl
              have hR544 := hR535.setf (b := 43) (w := 36) (z := v)
              refine yT_gen (fun S540 hS542 => ?_)
              rw [hS542] at hI541 hF543 hR544 
              have h545 := hI541.f tf43_0
              have h546 : S540.f 43 0 = S531.f 43 0 := by rw [← hS542]; exact ysf_ne (by decide)
              have h547 : S531.f 43 0 = S524.f 43 0 := by rw [← hS533]; exact ysf_ne (by decide)
              have h548 : S524.f 43 0 = 0 := by rw [← hS526]; exact ysf_eq
              have h549 := hI541.f tf43_33
              have h550 := hI541.m2
              have h551 : S540.f 43 33 = S531.f 43 33 := by rw [← hS542]; exact ysf_ne (by decide)
              have h552 : S531.f 43 33 = w0 := by rw [← hS533]; exact ysf_eq
              have h553 := hI541.m2
              have h554 : S540.f 43 36 = v := by rw [← hS542]; exact ysf_eq
              exact r_ret0 (i := 70) rfl ⟨rfl, (by first | (exfalso; omega) | exact fun hf9 => Or.inl ⟨by omega, by omega, fun q9 => ⟨by omega, by omega⟩, fun q9 => absurd q9 (by omega)⟩ | exact fun hf9 => Or.inr ⟨by omega, fun hc => by obtain ⟨c1, c2, -⟩ := hc; omega⟩), (by omega), (by omega), (by omega), hI541, hF543, hR544⟩
            · refine r_load (i := 64) (u := 2) (w := 1) rfl rfl rfl ?_
              refine r_lconst (i := 65) (u := 1) (z := 1) rfl rfl ?_
              refine r_land (i := 66) rfl ?_
              have h555 := @yland_c v 1 (by decide) (by decide)
              refine r_goto (i := 67) (v := 69) rfl ?_
              refine r_putL (i := 69) (v := 36) (w := 11) rfl ly43 rfl ⟨by omega, by omega⟩ ?_
              have hI557 := hI525.set43 (z := w0) (y := yland v 1) (by omega) (by omega) (by omega)
              rw [hS533] at hI557
              have hF559 := hF534.setf (b := 43) (w := 36) (z := yland v 1) rfl
              have hR560 := hR535.setf (b := 43) (w := 36) (z := yland v 1)
              refine yT_gen (fun S556 hS558 => ?_)
              rw [hS558] at hI557 hF559 hR560 
              have h561 := hI557.f tf43_0
              have h562 : S556.f 43 0 = S531.f 43 0 := by rw [← hS558]; exact ysf_ne (by decide)
              have h563 : S531.f 43 0 = S524.f 43 0 := by rw [← hS533]; exact ysf_ne (by decide)
              have h564 : S524.f 43 0 = 0 := by rw [← hS526]; exact ysf_eq
              have h565 := hI557.f tf43_33
              have h566 := hI557.m2
              have h567 : S556.f 43 33 = S531.f 43 33 := by rw [← hS558]; exact ysf_ne (by decide)
              have h568 : S531.f 43 33 = w0 := by rw [← hS533]; exact ysf_eq
              have h569 := hI557.m2
              have h570 : S556.f 43 36 = yland v 1 := by rw [← hS558]; exact ysf_eq
              exact r_ret0 (i := 70) rfl ⟨rfl, (by first | (exfalso; omega) | exact fun hf9 => Or.inl ⟨by omega, by omega, fun q9 => ⟨by omega, by omega⟩, fun q9 => absurd q9 (by omega)⟩ | exact fun hf9 => Or.inr ⟨by omega, fun hc => by obtain ⟨c1, c2, -⟩ := hc; omega⟩), (by omega), (by omega), (by omega), hI557, hF559, hR560⟩
          · refine r_load (i := 57) (u := 2) (w := 1) rfl rfl rfl ?_
            refine r_l2i (i := 58) rfl ?_
            rw [vi_sg v]
            have h571 := ysg_fact v
            refine r_i2l (i := 59) rfl ⟨by omega, by omega⟩ ?_
            refine r_goto (i := 60) (v := 69) rfl ?_
            refine r_putL (i := 69) (v := 36) (w := 11) rfl ly43 rfl ⟨by omega, by omega⟩ ?_
            have hI573 := hI525.set43 (z := w0) (y := ysg v) (by omega) (by omega) (by omega)
            rw [hS533] at hI573
            have hF575 := hF534.setf (b := 43) (w := 36) (z := ysg v) rfl
            have hR576 := hR535.setf (b := 43) (w := 36) (z := ysg v)
            refine yT_gen (fun S572 hS574 => ?_)
            rw [hS574] at hI573 hF575 hR576 
            have h577 := hI573.f tf43_0
            have h578 : S572.f 43 0 = S531.f 43 0 := by rw [← hS574]; exact ysf_ne (by decide)
            have h579 : S531.f 43 0 = S524.f 43 0 := by rw [← hS533]; exact ysf_ne (by decide)
            have h580 : S524.f 43 0 = 0 := by rw [← hS526]; exact ysf_eq
            have h581 := hI573.f tf43_33
            have h582 := hI573.m2
            have h583 : S572.f 43 33 = S531.f 43 33 := by rw [← hS574]; exact ysf_ne (by decide)
            have h584 : S531.f 43 33 = w0 := by rw [← hS533]; exact ysf_eq
            have h585 := hI573.m2
            have h586 : S572.f 43 36 = ysg v := by rw [← hS574]; exact ysf_eq
            exact r_ret0 (i := 70) rfl ⟨rfl, (by first | (exfalso; omega) | exact fun hf9 => Or.inl ⟨by omega, by omega, fun q9 => ⟨by omega, by omega⟩, fun q9 => absurd q9 (by omega)⟩ | exact fun hf9 => Or.inr ⟨by omega, fun hc => by obtain ⟨c1, c2, -⟩ := hc; omega⟩), (by omega), (by omega), (by omega), hI573, hF575, hR576⟩
    · refine r_const (i := 6) (u := 1) (z := 1) rfl rfl ?_
      refine r_goto (i := 7) (v := 9) rfl ?_
      refine r_store (i := 9) (u := 4) (w := 0) (L1 := [some ((2, 43)), some (vi w0), some (vl v), none, some (vi 1), none]) rfl rfl rfl rfl ?_
      refine r_load (i := 10) (u := 1) (w := 0) rfl rfl rfl ?_
      refine z_lt (i := 11) (v := 38) rfl ⟨by omega, by omega⟩ (fun h587 => ?_) (fun h588 => ?_)
      · refine r_const (i := 38) (u := 0) (z := 0) rfl rfl ?_
        refine r_store (i := 39) (u := 5) (w := 0) (L1 := [some ((2, 43)), some (vi w0), some (vl v), none, some (vi 1), some (vi 0)]) rfl rfl rfl rfl ?_
        refine r_load (i := 40) (u := 0) (w := 2) rfl rfl rfl ?_
        refine r_load (i := 41) (u := 5) (w := 0) rfl rfl rfl ?_
        refine z_eq (i := 42) (v := 45) rfl ⟨by omega, by omega⟩ (fun h589 => ?_) (fun h590 => absurd h590 (by omega))
        refine r_const (i := 45) (u := 1) (z := 1) rfl rfl ?_
        refine r_putI (i := 46) (v := 0) (w := 11) rfl ly43 rfl ⟨by omega, by omega⟩ ?_
        have hI592 := hI.setf (b := 43) (w := 0) (z := 1) tf43_0 rfl (by omega) (by omega)
        have hF594 := hF.setf (b := 43) (w := 0) (z := 1) rfl
        have hR595 := hR.setf (b := 43) (w := 0) (z := 1)
        refine yT_gen (fun S591 hS593 => ?_)
        rw [hS593] at hI592 hF594 hR595 
        refine r_load (i := 47) (u := 5) (w := 0) rfl rfl rfl ?_
        refine z_ne (i := 48) (v := 50) rfl ⟨by omega, by omega⟩ (fun h596 => absurd h596 (by omega)) (fun h597 => ?_)
        have h598 := hI592.f tf43_0
        have h599 : S591.f 43 0 = 1 := by rw [← hS593]; exact ysf_eq
        have h600 := hI592.f tf43_33
        have h601 := hI592.m2
        have h602 : S591.f 43 33 = S.f 43 33 := by rw [← hS593]; exact ysf_ne (by decide)
        have h603 := hI592.m2
        have h604 : S591.f 43 36 = S.f 43 36 := by rw [← hS593]; exact ysf_ne (by decide)
        exact r_ret0 (i := 49) rfl ⟨rfl, (by first | (exfalso; omega) | exact fun hf9 => Or.inl ⟨by omega, by omega, fun q9 => ⟨by omega, by omega⟩, fun q9 => absurd q9 (by omega)⟩ | exact fun hf9 => Or.inr ⟨by omega, fun hc => by obtain ⟨c1, c2, -⟩ := hc; omega⟩), (by omega), (by omega), (by omega), hI592, hF594, hR595⟩
      · refine r_load (i := 12) (u := 1) (w := 0) rfl rfl rfl ?_
        refine r_const (i := 13) (u := 6) (z := 6) rfl rfl ?_
        refine c_ge (i := 14) (v := 38) rfl ⟨by omega, by omega⟩ ⟨by omega, by omega⟩ (fun h605 => ?_) (fun h606 => ?_)
        · refine r_const (i := 38) (u := 0) (z := 0) rfl rfl ?_
          refine r_store (i := 39) (u := 5) (w := 0) (L1 := [some ((2, 43)), some (vi w0), some (vl v), none, some (vi 1), some (vi 0)]) rfl rfl rfl rfl ?_
          refine r_load (i := 40) (u := 0) (w := 2) rfl rfl rfl ?_
          refine r_load (i := 41) (u := 5) (w := 0) rfl rfl rfl ?_
          refine z_eq (i := 42) (v := 45) rfl ⟨by omega, by omega⟩ (fun h607 => ?_) (fun h608 => absurd h608 (by omega))
          refine r_const (i := 45) (u := 1) (z := 1) rfl rfl ?_
          refine r_putI (i := 46) (v := 0) (w := 11) rfl ly43 rfl ⟨by omega, by omega⟩ ?_
          have hI610 := hI.setf (b := 43) (w := 0) (z := 1) tf43_0 rfl (by omega) (by omega)
          have hF612 := hF.setf (b := 43) (w := 0) (z := 1) rfl
          have hR613 := hR.setf (b := 43) (w := 0) (z := 1)
          refine yT_gen (fun S609 hS611 => ?_)
          rw [hS611] at hI610 hF612 hR613 
          refine r_load (i := 47) (u := 5) (w := 0) rfl rfl rfl ?_
          refine z_ne (i := 48) (v := 50) rfl ⟨by omega, by omega⟩ (fun h614 => absurd h614 (by omega)) (fun h615 => ?_)
          have h616 := hI610.f tf43_0
          have h617 : S609.f 43 0 = 1 := by rw [← hS611]; exact ysf_eq
          have h618 := hI610.f tf43_33
          have h619 := hI610.m2
          have h620 : S609.f 43 33 = S.f 43 33 := by rw [← hS611]; exact ysf_ne (by decide)
          have h621 := hI610.m2
          have h622 : S609.f 43 36 = S.f 43 36 := by rw [← hS611]; exact ysf_ne (by decide)
          exact r_ret0 (i := 49) rfl ⟨rfl, (by first | (exfalso; omega) | exact fun hf9 => Or.inl ⟨by omega, by omega, fun q9 => ⟨by omega, by omega⟩, fun q9 => absurd q9 (by omega)⟩ | exact fun hf9 => Or.inr ⟨by omega, fun hc => by obtain ⟨c1, c2, -⟩ := hc; omega⟩), (by omega), (by omega), (by omega), hI610, hF612, hR613⟩
        · refine r_load (i := 15) (u := 4) (w := 0) rfl rfl rfl ?_
          refine z_eq (i := 16) (v := 36) rfl ⟨by omega, by omega⟩ (fun h623 => absurd h623 (by omega)) (fun h624 => ?_)
          refine r_load (i := 17) (u := 2) (w := 1) rfl rfl rfl ?_
          refine r_lconst (i := 18) (u := 0) (z := 0) rfl rfl ?_
          refine r_lcmp (i := 19) rfl ⟨by omega, by omega⟩ ⟨by omega, by omega⟩ (fun h625 => ?_) (fun h626 => ?_) (fun h627 => ?_)
          · refine z_lt (i := 20) (v := 38) rfl ⟨by omega, by omega⟩ (fun h628 => ?_) (fun h629 => absurd h629 (by omega))
            refine r_const (i := 38) (u := 0) (z := 0) rfl rfl ?_
            refine r_store (i := 39) (u := 5) (w := 0) (L1 := [some ((2, 43)), some (vi w0), some (vl v), none, some (vi 1), some (vi 0)]) rfl rfl rfl rfl ?_
            refine r_load (i := 40) (u := 0) (w := 2) rfl rfl rfl ?_
            refine r_load (i := 41) (u := 5) (w := 0) rfl rfl rfl ?_
            refine z_eq (i := 42) (v := 45) rfl ⟨by omega, by omega⟩ (fun h630 => ?_) (fun h631 => absurd h631 (by omega))
            refine r_const (i := 45) (u := 1) (z := 1) rfl rfl ?_
            refine r_putI (i := 46) (v := 0) (w := 11) rfl ly43 rfl ⟨by omega, by omega⟩ ?_
            have hI633 := hI.setf (b := 43) (w := 0) (z := 1) tf43_0 rfl (by omega) (by omega)
            have hF635 := hF.setf (b := 43) (w := 0) (z := 1) rfl
            have hR636 := hR.setf (b := 43) (w := 0) (z := 1)
            refine yT_gen (fun S632 hS634 => ?_)
            rw [hS634] at hI633 hF635 hR636 
            refine r_load (i := 47) (u := 5) (w := 0) rfl rfl rfl ?_
            refine z_ne (i := 48) (v := 50) rfl ⟨by omega, by omega⟩ (fun h637 => absurd h637 (by omega)) (fun h638 => ?_)
            have h639 := hI633.f tf43_0
            have h640 : S632.f 43 0 = 1 := by rw [← hS634]; exact ysf_eq
            have h641 := hI633.f tf43_33
            have h642 := hI633.m2
            have h643 : S632.f 43 33 = S.f 43 33 := by rw [← hS634]; exact ysf_ne (by decide)
            have h644 := hI633.m2
            have h645 : S632.f 43 36 = S.f 43 36 := by rw [← hS634]; exact ysf_ne (by decide)
            exact r_ret0 (i := 49) rfl ⟨rfl, (by first | (exfalso; omega) | exact fun hf9 => Or.inl ⟨by omega, by omega, fun q9 => ⟨by omega, by omega⟩, fun q9 => absurd q9 (by omega)⟩ | exact fun hf9 => Or.inr ⟨by omega, fun hc => by obtain ⟨c1, c2, -⟩ := hc; omega⟩), (by omega), (by omega), (by omega), hI633, hF635, hR636⟩
          · refine z_lt (i := 20) (v := 38) rfl ⟨by omega, by omega⟩ (fun h646 => absurd h646 (by omega)) (fun h647 => ?_)
            refine r_load (i := 21) (u := 2) (w := 1) rfl rfl rfl ?_
            refine r_load (i := 22) (u := 0) (w := 2) rfl rfl rfl ?_
            have h648 := hI.f tf43_1
            refine r_getf (i := 23) (v := 1) (w := 11) (x := vi (S.f 43 1)) rfl ly43 rfl rfl fun h649 => ?_
            have h649 : Rg (S.f 43 1) := h649
            refine r_i2l (i := 24) rfl ⟨by omega, by omega⟩ ?_
            refine r_lcmp (i := 25) rfl ⟨by omega, by omega⟩ ⟨by omega, by omega⟩ (fun h650 => ?_) (fun h651 => ?_) (fun h652 => ?_)
            · refine z_ge (i := 26) (v := 38) rfl ⟨by omega, by omega⟩ (fun h653 => absurd h653 (by omega)) (fun h654 => ?_)
              refine r_load (i := 27) (u := 1) (w := 0) rfl rfl rfl ?_
              refine r_const (i := 28) (u := 4) (z := 4) rfl rfl ?_
              refine c_eq (i := 29) (v := 36) rfl ⟨by omega, by omega⟩ ⟨by omega, by omega⟩ (fun h655 => ?_) (fun h656 => ?_)
              · refine r_const (i := 36) (u := 1) (z := 1) rfl rfl ?_
                refine r_goto (i := 37) (v := 39) rfl ?_
                refine r_store (i := 39) (u := 5) (w := 0) (L1 := [some ((2, 43)), some (vi w0), some (vl v), none, some (vi 1), some (vi 1)]) rfl rfl rfl rfl ?_
                refine r_load (i := 40) (u := 0) (w := 2) rfl rfl rfl ?_
                refine r_load (i := 41) (u := 5) (w := 0) rfl rfl rfl ?_
                refine z_eq (i := 42) (v := 45) rfl ⟨by omega, by omega⟩ (fun h657 => absurd h657 (by omega)) (fun h658 => ?_)
                refine r_const (i := 43) (u := 0) (z := 0) rfl rfl ?_
                refine r_goto (i := 44) (v := 46) rfl ?_
                refine r_putI (i := 46) (v := 0) (w := 11) rfl ly43 rfl ⟨by omega, by omega⟩ ?_
                have hI660 := hI.setf (b := 43) (w := 0) (z := 0) tf43_0 rfl (by omega) (by omega)
                have hF662 := hF.setf (b := 43) (w := 0) (z := 0) rfl
                have hR663 := hR.setf (b := 43) (w := 0) (z := 0)
                refine yT_gen (fun S659 hS661 => ?_)
                rw [hS661] at hI660 hF662 hR663 
                refine r_load (i := 47) (u := 5) (w := 0) rfl rfl rfl ?_
                refine z_ne (i := 48) (v := 50) rfl ⟨by omega, by omega⟩ (fun h664 => ?_) (fun h665 => absurd h665 (by omega))
                refine r_load (i := 50) (u := 0) (w := 2) rfl rfl rfl ?_
                refine r_load (i := 51) (u := 1) (w := 0) rfl rfl rfl ?_
                refine r_putI (i := 52) (v := 33) (w := 11) rfl ly43 rfl ⟨by omega, by omega⟩ ?_
                have hF669 := hF662.setf (b := 43) (w := 33) (z := w0) rfl
                have hR670 := hR663.setf (b := 43) (w := 33) (z := w0)
                refine yT_gen (fun S666 hS668 => ?_)
                rw [hS668] at hF669 hR670 
                refine r_load (i := 53) (u := 0) (w := 2) rfl rfl rfl ?_
                refine r_load (i := 54) (u := 1) (w := 0) rfl rfl rfl ?_
                refine r_const (i := 55) (u := 1) (z := 1) rfl rfl ?_
                refine c_ne (i := 56) (v := 61) rfl ⟨by omega, by omega⟩ ⟨by omega, by omega⟩ (fun h671 => ?_) (fun h672 => ?_)
                · refine r_load (i := 61) (u := 1) (w := 0) rfl rfl rfl ?_
                  refine r_const (i := 62) (u := 3) (z := 3) rfl rfl ?_
                  refine c_ne (i := 63) (v := 68) rfl ⟨by omega, by omega⟩ ⟨by omega, by omega⟩ (fun h673 => ?_) (fun h674 => ?_)
                  · refine r_load (i := 68) (u := 2) (w := 1) rfl rfl rfl ?_
                    refine r_putL (i := 69) (v := 36) (w := 11) rfl ly43 rfl ⟨by omega, by omega⟩ ?_
                    have hI676 := hI660.set43 (z := w0) (y := v) (by omega) (by omega) (by omega)
                    rw [hS668] at hI676
                    have hF678 := hF669.setf (b := 43) (w := 36) (z := v) rfl
                    have hR679 := hR670.setf (b := 43) (w := 36) (z := v)
                    refine yT_gen (fun S675 hS677 => ?_)
                    rw [hS677] at hI676 hF678 hR679 
                    have h680 := hI676.f tf43_0
                    have h681 : S675.f 43 0 = S666.f 43 0 := by rw [← hS677]; exact ysf_ne (by decide)
                    have h682 : S666.f 43 0 = S659.f 43 0 := by rw [← hS668]; exact ysf_ne (by decide)
                    have h683 : S659.f 43 0 = 0 := by rw [← hS661]; exact ysf_eq
                    have h684 := hI676.f tf43_33
                    have h685 := hI676.m2
                    have h686 : S675.f 43 33 = S666.f 43 33 := by rw [← hS677]; exact ysf_ne (by decide)
                    have h687 : S666.f 43 33 = w0 := by rw [← hS668]; exact ysf_eq
                    have h688 := hI676.m2
                    have h689 : S675.f 43 36 = v := by rw [← hS677]; exact ysf_eq
                    exact r_ret0 (i := 70) rfl ⟨rfl, (by first | (exfalso; omega) | exact fun hf9 => Or.inl ⟨by omega, by omega, fun q9 => ⟨by omega, by omega⟩, fun q9 => absurd q9 (by omega)⟩ | exact fun hf9 => Or.inr ⟨by omega, fun hc => by obtain ⟨c1, c2, -⟩ := hc; omega⟩), (by omega), (by omega), (by omega), hI676, hF678, hR679⟩
                  · refine r_load (i := 64) (u := 2) (w := 1) rfl rfl rfl ?_
                    refine r_lconst (i := 65) (u := 1) (z := 1) rfl rfl ?_
                    refine r_land (i := 66) rfl ?_
                    have h690 := @yland_c v 1 (by decide) (by decide)
                    refine r_goto (i := 67) (v := 69) rfl ?_
                    refine r_putL (i := 69) (v := 36) (w := 11) rfl ly43 rfl ⟨by omega, by omega⟩ ?_
                    have hI692 := hI660.set43 (z := w0) (y := yland v 1) (by omega) (by omega) (by omega)
                    rw [hS668] at hI692
                    have hF694 := hF669.setf (b := 43) (w := 36) (z := yland v 1) rfl
                    have hR695 := hR670.setf (b := 43) (w := 36) (z := yland v 1)
                    refine yT_gen (fun S691 hS693 => ?_)
                    rw [hS693] at hI692 hF694 hR695 
                    have h696 := hI692.f tf43_0
                    have h697 : S691.f 43 0 = S666.f 43 0 := by rw [← hS693]; exact ysf_ne (by decide)
                    have h698 : S666.f 43 0 = S659.f 43 0 := by rw [← hS668]; exact ysf_ne (by decide)
                    have h699 : S659.f 43 0 = 0 := by rw [← hS661]; exact ysf_eq
                    have h700 := hI692.f tf43_33
                    have h701 := hI692.m2
                    have h702 : S691.f 43 33 = S666.f 43 33 := by rw [← hS693]; exact ysf_ne (by decide)
                    have h703 : S666.f 43 33 = w0 := by rw [← hS668]; exact ysf_eq
                    have h704 := hI692.m2
                    have h705 : S691.f 43 36 = yland v 1 := by rw [← hS693]; exact ysf_eq
                    exact r_ret0 (i := 70) rfl ⟨rfl, (by first | (exfalso; omega) | exact fun hf9 => Or.inl ⟨by omega, by omega, fun q9 => ⟨by omega, by omega⟩, fun q9 => absurd q9 (by omega)⟩ | exact fun hf9 => Or.inr ⟨by omega, fun hc => by obtain ⟨c1, c2, -⟩ := hc; omega⟩), (by omega), (by omega), (by omega), hI692, hF694, hR695⟩
                · refine r_load (i := 57) (u := 2) (w := 1) rfl rfl rfl ?_
                  refine r_l2i (i := 58) rfl ?_
                  rw [vi_sg v]
                  have h706 := ysg_fact v
                  refine r_i2l (i := 59) rfl ⟨by omega, by omega⟩ ?_
                  refine r_goto (i := 60) (v := 69) rfl ?_
                  refine r_putL (i := 69) (v := 36) (w := 11) rfl ly43 rfl ⟨by omega, by omega⟩ ?_
                  have hI708 := hI660.set43 (z := w0) (y := ysg v) (by omega) (by omega) (by omega)
                  rw [hS668] at hI708
                  have hF710 := hF669.setf (b := 43) (w := 36) (z := ysg v) rfl
                  have hR711 := hR670.setf (b := 43) (w := 36) (z := ysg v)
                  refine yT_gen (fun S707 hS709 => ?_)
                  rw [hS709] at hI708 hF710 hR711 
                  have h712 := hI708.f tf43_0
                  have h713 : S707.f 43 0 = S666.f 43 0 := by rw [← hS709]; exact ysf_ne (by decide)
                  have h714 : S666.f 43 0 = S659.f 43 0 := by rw [← hS668]; exact ysf_ne (by decide)
                  have h715 : S659.f 43 0 = 0 := by rw [← hS661]; exact ysf_eq
                  have h716 := hI708.f tf43_33
                  have h717 := hI708.m2
                  have h718 : S707.f 43 33 = S666.f 43 33 := by rw [← hS709]; exact ysf_ne (by decide)
                  have h719 : S666.f 43 33 = w0 := by rw [← hS668]; exact ysf_eq
                  have h720 := hI708.m2
                  have h721 : S707.f 43 36 = ysg v := by rw [← hS709]; exact ysf_eq
                  exact r_ret0 (i := 70) rfl ⟨rfl, (by first | (exfalso; omega) | exact fun hf9 => Or.inl ⟨by omega, by omega, fun q9 => ⟨by omega, by omega⟩, fun q9 => absurd q9 (by omega)⟩ | exact fun hf9 => Or.inr ⟨by omega, fun hc => by obtain ⟨c1, c2, -⟩ := hc; omega⟩), (by omega), (by omega), (by omega), hI708, hF710, hR711⟩
              · refine r_load (i := 30) (u := 0) (w := 2) rfl rfl rfl ?_
                refine r_load (i := 31) (u := 2) (w := 1) rfl rfl rfl ?_
                refine r_l2i (i := 32) rfl ?_
                rw [vi_sg v]
                have h722 := ysg_fact v
                refine r_const (i := 33) (u := 1) (z := 1) rfl rfl ?_
                refine r_call (i := 34) (u := 11) (v := 262) (w := 0) (b := 0) (na := 1795) (C2 := xC262) (as := [(2, 43), vi (ysg v), vi 1]) (s := []) rfl rfl rfl rfl rfl rfl rfl (sp262 (t := ysg v) (o := 1) hI ⟨by omega, by omega⟩ ⟨by omega, by omega⟩   (by omega)) (fun r723 S724 hq725 => ?_)
                obtain ⟨z726, rfl, h727, h728, um729, hI730, hF731, hR732⟩ := hq725
                have hF733 := hF.trans hF731 rfl rfl
                have hR734 := hR.trans hR732 rfl
                refine Or.inr (Or.inl ⟨rfl, ?_⟩)
                refine z_eq (i := 35) (v := 38) rfl ⟨by omega, by omega⟩ (fun h735 => ?_) (fun h736 => ?_)
                · refine r_const (i := 38) (u := 0) (z := 0) rfl rfl ?_
                  refine r_store (i := 39) (u := 5) (w := 0) (L1 := [some ((2, 43)), some (vi w0), some (vl v), none, some (vi 1), some (vi 0)]) rfl rfl rfl rfl ?_
                  refine r_load (i := 40) (u := 0) (w := 2) rfl rfl rfl ?_
                  refine r_load (i := 41) (u := 5) (w := 0) rfl rfl rfl ?_
                  refine z_eq (i := 42) (v := 45) rfl ⟨by omega, by omega⟩ (fun h737 => ?_) (fun h738 => absurd h738 (by omega))
                  refine r_const (i := 45) (u := 1) (z := 1) rfl rfl ?_
                  refine r_putI (i := 46) (v := 0) (w := 11) rfl ly43 rfl ⟨by omega, by omega⟩ ?_
                  have hI740 := hI730.setf (b := 43) (w := 0) (z := 1) tf43_0 rfl (by omega) (by omega)
                  have hF742 := hF733.setf (b := 43) (w := 0) (z := 1) rfl
                  have hR743 := hR734.setf (b := 43) (w := 0) (z := 1)
                  refine yT_gen (fun S739 hS741 => ?_)
                  rw [hS741] at hI740 hF742 hR743 
                  refine r_load (i := 47) (u := 5) (w := 0) rfl rfl rfl ?_
                  refine z_ne (i := 48) (v := 50) rfl ⟨by omega, by omega⟩ (fun h744 => absurd h744 (by omega)) (fun h745 => ?_)
                  have h746 := hI740.f tf43_0
                  have h747 : S739.f 43 0 = 1 := by rw [← hS741]; exact ysf_eq
                  have h748 := hI740.f tf43_33
                  have h749 := hI740.m2
                  have h750 : S739.f 43 33 = S724.f 43 33 := by rw [← hS741]; exact ysf_ne (by decide)
                  have h751 : S724.f 43 33 = S.f 43 33 := hF731.f rfl
                  have h752 := hI740.m2
                  have h753 : S739.f 43 36 = S724.f 43 36 := by rw [← hS741]; exact ysf_ne (by decide)
                  have h754 : S724.f 43 36 = S.f 43 36 := hF731.f rfl
                  exact r_ret0 (i := 49) rfl ⟨rfl, (by first | (exfalso; omega) | (intro hf9; have sg9 : ysg v = v := (by omega); have w9 := um729 hf9 (by omega) (by omega) (by omega); rw [sg9] at w9; first | exact Or.inl ⟨by omega, by omega, fun _ => ⟨by omega, by omega⟩, fun _ => w9.mp (by omega)⟩ | exact Or.inr ⟨by omega, fun hc => absurd (w9.mpr (hc.2.2 (by omega))) (by omega)⟩)), (by omega), (by omega), (by omega), hI740, hF742, hR743⟩
                · refine r_const (i := 36) (u := 1) (z := 1) rfl rfl ?_
                  refine r_goto (i := 37) (v := 39) rfl ?_
                  refine r_store (i := 39) (u := 5) (w := 0) (L1 := [some ((2, 43)), some (vi w0), some (vl v), none, some (vi 1), some (vi 1)]) rfl rfl rfl rfl ?_
                  refine r_load (i := 40) (u := 0) (w := 2) rfl rfl rfl ?_
                  refine r_load (i := 41) (u := 5) (w := 0) rfl rfl rfl ?_
                  refine z_eq (i := 42) (v := 45) rfl ⟨by omega, by omega⟩ (fun h755 => absurd h755 (by omega)) (fun h756 => ?_)
                  refine r_const (i := 43) (u := 0) (z := 0) rfl rfl ?_
                  refine r_goto (i := 44) (v := 46) rfl ?_
                  refine r_putI (i := 46) (v := 0) (w := 11) rfl ly43 rfl ⟨by omega, by omega⟩ ?_
                  have hI758 := hI730.setf (b := 43) (w := 0) (z := 0) tf43_0 rfl (by omega) (by omega)
                  have hF760 := hF733.setf (b := 43) (w := 0) (z := 0) rfl
                  have hR761 := hR734.setf (b := 43) (w := 0) (z := 0)
                  refine yT_gen (fun S757 hS759 => ?_)
                  rw [hS759] at hI758 hF760 hR761 
                  refine r_load (i := 47) (u := 5) (w := 0) rfl rfl rfl ?_
                  refine z_ne (i := 48) (v := 50) rfl ⟨by omega, by omega⟩ (fun h762 => ?_) (fun h763 => absurd h763 (by omega))
                  refine r_load (i := 50) (u := 0) (w := 2) rfl rfl rfl ?_
                  refine r_load (i := 51) (u := 1) (w := 0) rfl rfl rfl ?_
                  refine r_putI (i := 52) (v := 33) (w := 11) rfl ly43 rfl ⟨by omega, by omega⟩ ?_
                  have hF767 := hF760.setf (b := 43) (w := 33) (z := w0) rfl
                  have hR768 := hR761.setf (b := 43) (w := 33) (z := w0)
                  refine yT_gen (fun S764 hS766 => ?_)
                  rw [hS766] at hF767 hR768 
                  refine r_load (i := 53) (u := 0) (w := 2) rfl rfl rfl ?_
                  refine r_load (i := 54) (u := 1) (w := 0) rfl rfl rfl ?_
                  refine r_const (i := 55) (u := 1) (z := 1) rfl rfl ?_
                  refine c_ne (i := 56) (v := 61) rfl ⟨by omega, by omega⟩ ⟨by omega, by omega⟩ (fun h769 => ?_) (fun h770 => ?_)
                  · refine r_load (i := 61) (u := 1) (w := 0) rfl rfl rfl ?_
                    refine r_const (i := 62) (u := 3) (z := 3) rfl rfl ?_
                    refine c_ne (i := 63) (v := 68) rfl ⟨by omega, by omega⟩ ⟨by omega, by omega⟩ (fun h771 => ?_) (fun h772 => ?_)
                    · refine r_load (i := 68) (u := 2) (w := 1) rfl rfl rfl ?_
                      refine r_putL (i := 69) (v := 36) (w := 11) rfl ly43 rfl ⟨by omega, by omega⟩ ?_
                      have hI774 := hI758.set43 (z := w0) (y := v) (by omega) (by omega) (by omega)
                      rw [hS766] at hI774
                      have hF776 := hF767.setf (b := 43) (w := 36) (z := v) rfl
                      have hR777 := hR768.setf (b := 43) (w := 36) (z := v)
                      refine yT_gen (fun S773 hS775 => ?_)
                      rw [hS775] at hI774 hF776 hR777 
                      have h778 := hI774.f tf43_0
                      have h779 : S773.f 43 0 = S764.f 43 0 := by rw [← hS775]; exact ysf_ne (by decide)
                      have h780 : S764.f 43 0 = S757.f 43 0 := by rw [← hS766]; exact ysf_ne (by decide)
                      have h781 : S757.f 43 0 = 0 := by rw [← hS759]; exact ysf_eq
                      have h782 := hI774.f tf43_33
                      have h783 := hI774.m2
                      have h784 : S773.f 43 33 = S764.f 43 33 := by rw [← hS775]; exact ysf_ne (by decide)
                      have h785 : S764.f 43 33 = w0 := by rw [← hS766]; exact ysf_eq
                      have h786 := hI774.m2
                      have h787 : S773.f 43 36 = v := by rw [← hS775]; exact ysf_eq
                      exact r_ret0 (i := 70) rfl ⟨rfl, (by first | (exfalso; omega) | (intro hf9; have sg9 : ysg v = v := (by omega); have w9 := um729 hf9 (by omega) (by omega) (by omega); rw [sg9] at w9; first | exact Or.inl ⟨by omega, by omega, fun _ => ⟨by omega, by omega⟩, fun _ => w9.mp (by omega)⟩ | exact Or.inr ⟨by omega, fun hc => absurd (w9.mpr (hc.2.2 (by omega))) (by omega)⟩)), (by omega), (by omega), (by omega), hI774, hF776, hR777⟩
                    · refine r_load (i := 64) (u := 2) (w := 1) rfl rfl rfl ?_
                      refine r_lconst (i := 65) (u := 1) (z := 1) rfl rfl ?_
                      refine r_land (i := 66) rfl ?_
                      have h788 := @yland_c v 1 (by decide) (by decide)
                      refine r_goto (i := 67) (v := 69) rfl ?_
                      refine r_putL (i := 69) (v := 36) (w := 11) rfl ly43 rfl ⟨by omega, by omega⟩ ?_
                      have hI790 := hI758.set43 (z := w0) (y := yland v 1) (by omega) (by omega) (by omega)
                      rw [hS766] at hI790
                      have hF792 := hF767.setf (b := 43) (w := 36) (z := yland v 1) rfl
                      have hR793 := hR768.setf (b := 43) (w := 36) (z := yland v 1)
                      refine yT_gen (fun S789 hS791 => ?_)
                      rw [hS791] at hI790 hF792 hR793 
                      have h794 := hI790.f tf43_0
                      have h795 : S789.f 43 0 = S764.f 43 0 := by rw [← hS791]; exact ysf_ne (by decide)
                      have h796 : S764.f 43 0 = S757.f 43 0 := by rw [← hS766]; exact ysf_ne (by decide)
                      have h797 : S757.f 43 0 = 0 := by rw [← hS759]; exact ysf_eq
                      have h798 := hI790.f tf43_33
                      have h799 := hI790.m2
                      have h800 : S789.f 43 33 = S764.f 43 33 := by rw [← hS791]; exact ysf_ne (by decide)
                      have h801 : S764.f 43 33 = w0 := by rw [← hS766]; exact ysf_eq
                      have h802 := hI790.m2
                      have h803 : S789.f 43 36 = yland v 1 := by rw [← hS791]; exact ysf_eq
                      exact r_ret0 (i := 70) rfl ⟨rfl, (by first | (exfalso; omega) | (intro hf9; have sg9 : ysg v = v := (by omega); have w9 := um729 hf9 (by omega) (by omega) (by omega); rw [sg9] at w9; first | exact Or.inl ⟨by omega, by omega, fun _ => ⟨by omega, by omega⟩, fun _ => w9.mp (by omega)⟩ | exact Or.inr ⟨by omega, fun hc => absurd (w9.mpr (hc.2.2 (by omega))) (by omega)⟩)), (by omega), (by omega), (by omega), hI790, hF792, hR793⟩
                  · refine r_load (i := 57) (u := 2) (w := 1) rfl rfl rfl ?_
                    refine r_l2i (i := 58) rfl ?_
                    rw [vi_sg v]
                    have h804 := ysg_fact v
                    refine r_i2l (i := 59) rfl ⟨by omega, by omega⟩ ?_
                    refine r_goto (i := 60) (v := 69) rfl ?_
                    refine r_putL (i := 69) (v := 36) (w := 11) rfl ly43 rfl ⟨by omega, by omega⟩ ?_
                    have hI806 := hI758.set43 (z := w0) (y := ysg v) (by omega) (by omega) (by omega)
                    rw [hS766] at hI806
                    have hF808 := hF767.setf (b := 43) (w := 36) (z := ysg v) rfl
                    have hR809 := hR768.setf (b := 43) (w := 36) (z := ysg v)
                    refine yT_gen (fun S805 hS807 => ?_)
                    rw [hS807] at hI806 hF808 hR809 
                    have h810 := hI806.f tf43_0
                    have h811 : S805.f 43 0 = S764.f 43 0 := by rw [← hS807]; exact ysf_ne (by decide)
                    have h812 : S764.f 43 0 = S757.f 43 0 := by rw [← hS766]; exact ysf_ne (by decide)
                    have h813 : S757.f 43 0 = 0 := by rw [← hS759]; exact ysf_eq
                    have h814 := hI806.f tf43_33
                    have h815 := hI806.m2
                    have h816 : S805.f 43 33 = S764.f 43 33 := by rw [← hS807]; exact ysf_ne (by decide)
                    have h817 : S764.f 43 33 = w0 := by rw [← hS766]; exact ysf_eq
                    have h818 := hI806.m2
                    have h819 : S805.f 43 36 = ysg v := by rw [← hS807]; exact ysf_eq
                    exact r_ret0 (i := 70) rfl ⟨rfl, (by first | (exfalso; omega) | (intro hf9; have sg9 : ysg v = v := (by omega); have w9 := um729 hf9 (by omega) (by omega) (by omega); rw [sg9] at w9; first | exact Or.inl ⟨by omega, by omega, fun _ => ⟨by omega, by omega⟩, fun _ => w9.mp (by omega)⟩ | exact Or.inr ⟨by omega, fun hc => absurd (w9.mpr (hc.2.2 (by omega))) (by omega)⟩)), (by omega), (by omega), (by omega), hI806, hF808, hR809⟩
            · refine z_ge (i := 26) (v := 38) rfl ⟨by omega, by omega⟩ (fun h820 => ?_) (fun h821 => absurd h821 (by omega))
              refine r_const (i := 38) (u := 0) (z := 0) rfl rfl ?_
              refine r_store (i := 39) (u := 5) (w := 0) (L1 := [some ((2, 43)), some (vi w0), some (vl v), none, some (vi 1), some (vi 0)]) rfl rfl rfl rfl ?_
              refine r_load (i := 40) (u := 0) (w := 2) rfl rfl rfl ?_
              refine r_load (i := 41) (u := 5) (w := 0) rfl rfl rfl ?_
              refine z_eq (i := 42) (v := 45) rfl ⟨by omega, by omega⟩ (fun h822 => ?_) (fun h823 => absurd h823 (by omega))
              refine r_const (i := 45) (u := 1) (z := 1) rfl rfl ?_
              refine r_putI (i := 46) (v := 0) (w := 11) rfl ly43 rfl ⟨by omega, by omega⟩ ?_
              have hI825 := hI.setf (b := 43) (w := 0) (z := 1) tf43_0 rfl (by omega) (by omega)
              have hF827 := hF.setf (b := 43) (w := 0) (z := 1) rfl
              have hR828 := hR.setf (b := 43) (w := 0) (z := 1)
              refine yT_gen (fun S824 hS826 => ?_)
              rw [hS826] at hI825 hF827 hR828 
              refine r_load (i := 47) (u := 5) (w := 0) rfl rfl rfl ?_
              refine z_ne (i := 48) (v := 50) rfl ⟨by omega, by omega⟩ (fun h829 => absurd h829 (by omega)) (fun h830 => ?_)
              have h831 := hI825.f tf43_0
              have h832 : S824.f 43 0 = 1 := by rw [← hS826]; exact ysf_eq
              have h833 := hI825.f tf43_33
              have h834 := hI825.m2
              have h835 : S824.f 43 33 = S.f 43 33 := by rw [← hS826]; exact ysf_ne (by decide)
              have h836 := hI825.m2
              have h837 : S824.f 43 36 = S.f 43 36 := by rw [← hS826]; exact ysf_ne (by decide)
              exact r_ret0 (i := 49) rfl ⟨rfl, (by first | (exfalso; omega) | exact fun hf9 => Or.inl ⟨by omega, by omega, fun q9 => ⟨by omega, by omega⟩, fun q9 => absurd q9 (by omega)⟩ | exact fun hf9 => Or.inr ⟨by omega, fun hc => by obtain ⟨c1, c2, -⟩ := hc; omega⟩), (by omega), (by omega), (by omega), hI825, hF827, hR828⟩
            · refine z_ge (i := 26) (v := 38) rfl ⟨by omega, by omega⟩ (fun h838 => ?_) (fun h839 => absurd h839 (by omega))
              refine r_const (i := 38) (u := 0) (z := 0) rfl rfl ?_
              refine r_store (i := 39) (u := 5) (w := 0) (L1 := [some ((2, 43)), some (vi w0), some (vl v), none, some (vi 1), some (vi 0)]) rfl rfl rfl rfl ?_
              refine r_load (i := 40) (u := 0) (w := 2) rfl rfl rfl ?_
              refine r_load (i := 41) (u := 5) (w := 0) rfl rfl rfl ?_
              refine z_eq (i := 42) (v := 45) rfl ⟨by omega, by omega⟩ (fun h840 => ?_) (fun h841 => absurd h841 (by omega))
              refine r_const (i := 45) (u := 1) (z := 1) rfl rfl ?_
              refine r_putI (i := 46) (v := 0) (w := 11) rfl ly43 rfl ⟨by omega, by omega⟩ ?_
              have hI843 := hI.setf (b := 43) (w := 0) (z := 1) tf43_0 rfl (by omega) (by omega)
              have hF845 := hF.setf (b := 43) (w := 0) (z := 1) rfl
              have hR846 := hR.setf (b := 43) (w := 0) (z := 1)
              refine yT_gen (fun S842 hS844 => ?_)
              rw [hS844] at hI843 hF845 hR846 
              refine r_load (i := 47) (u := 5) (w := 0) rfl rfl rfl ?_
              refine z_ne (i := 48) (v := 50) rfl ⟨by omega, by omega⟩ (fun h847 => absurd h847 (by omega)) (fun h848 => ?_)
              have h849 := hI843.f tf43_0
              have h850 : S842.f 43 0 = 1 := by rw [← hS844]; exact ysf_eq
              have h851 := hI843.f tf43_33
              have h852 := hI843.m2
              have h853 : S842.f 43 33 = S.f 43 33 := by rw [← hS844]; exact ysf_ne (by decide)
              have h854 := hI843.m2
              have h855 : S842.f 43 36 = S.f 43 36 := by rw [← hS844]; exact ysf_ne (by decide)
              exact r_ret0 (i := 49) rfl ⟨rfl, (by first | (exfalso; omega) | exact fun hf9 => Or.inl ⟨by omega, by omega, fun q9 => ⟨by omega, by omega⟩, fun q9 => absurd q9 (by omega)⟩ | exact fun hf9 => Or.inr ⟨by omega, fun hc => by obtain ⟨c1, c2, -⟩ := hc; omega⟩), (by omega), (by omega), (by omega), hI843, hF845, hR846⟩
          · refine z_lt (i := 20) (v := 38) rfl ⟨by omega, by omega⟩ (fun h856 => absurd h856 (by omega)) (fun h857 => ?_)
            refine r_load (i := 21) (u := 2) (w := 1) rfl rfl rfl ?_
            refine r_load (i := 22) (u := 0) (w := 2) rfl rfl rfl ?_
            have h858 := hI.f tf43_1
            refine r_getf (i := 23) (v := 1) (w := 11) (x := vi (S.f 43 1)) rfl ly43 rfl rfl fun h859 => ?_
            have h859 : Rg (S.f 43 1) := h859
            refine r_i2l (i := 24) rfl ⟨by omega, by omega⟩ ?_
            refine r_lcmp (i := 25) rfl ⟨by omega, by omega⟩ ⟨by omega, by omega⟩ (fun h860 => ?_) (fun h861 => ?_) (fun h862 => ?_)
            · refine z_ge (i := 26) (v := 38) rfl ⟨by omega, by omega⟩ (fun h863 => absurd h863 (by omega)) (fun h864 => ?_)
              refine r_load (i := 27) (u := 1) (w := 0) rfl rfl rfl ?_
              refine r_const (i := 28) (u := 4) (z := 4) rfl rfl ?_
              refine c_eq (i := 29) (v := 36) rfl ⟨by omega, by omega⟩ ⟨by omega, by omega⟩ (fun h865 => ?_) (fun h866 => ?_)
              · refine r_const (i := 36) (u := 1) (z := 1) rfl rfl ?_
                refine r_goto (i := 37) (v := 39) rfl ?_
                refine r_store (i := 39) (u := 5) (w := 0) (L1 := [some ((2, 43)), some (vi w0), some (vl v), none, some (vi 1), some (vi 1)]) rfl rfl rfl rfl ?_
                refine r_load (i := 40) (u := 0) (w := 2) rfl rfl rfl ?_
                refine r_load (i := 41) (u := 5) (w := 0) rfl rfl rfl ?_
                refine z_eq (i := 42) (v := 45) rfl ⟨by omega, by omega⟩ (fun h867 => absurd h867 (by omega)) (fun h868 => ?_)
                refine r_const (i := 43) (u := 0) (z := 0) rfl rfl ?_
                refine r_goto (i := 44) (v := 46) rfl ?_
                refine r_putI (i := 46) (v := 0) (w := 11) rfl ly43 rfl ⟨by omega, by omega⟩ ?_
                have hI870 := hI.setf (b := 43) (w := 0) (z := 0) tf43_0 rfl (by omega) (by omega)
                have hF872 := hF.setf (b := 43) (w := 0) (z := 0) rfl
                have hR873 := hR.setf (b := 43) (w := 0) (z := 0)
                refine yT_gen (fun S869 hS871 => ?_)
                rw [hS871] at hI870 hF872 hR873 
                refine r_load (i := 47) (u := 5) (w := 0) rfl rfl rfl ?_
                refine z_ne (i := 48) (v := 50) rfl ⟨by omega, by omega⟩ (fun h874 => ?_) (fun h875 => absurd h875 (by omega))
                refine r_load (i := 50) (u := 0) (w := 2) rfl rfl rfl ?_
                refine r_load (i := 51) (u := 1) (w := 0) rfl rfl rfl ?_
                refine r_putI (i := 52) (v := 33) (w := 11) rfl ly43 rfl ⟨by omega, by omega⟩ ?_
                have hF879 := hF872.setf (b := 43) (w := 33) (z := w0) rfl
                have hR880 := hR873.setf (b := 43) (w := 33) (z := w0)
                refine yT_gen (fun S876 hS878 => ?_)
                rw [hS878] at hF879 hR880 
                refine r_load (i := 53) (u := 0) (w := 2) rfl rfl rfl ?_
                refine r_load (i := 54) (u := 1) (w := 0) rfl rfl rfl ?_
                refine r_const (i := 55) (u := 1) (z := 1) rfl rfl ?_
                refine c_ne (i := 56) (v := 61) rfl ⟨by omega, by omega⟩ ⟨by omega, by omega⟩ (fun h881 => ?_) (fun h882 => ?_)
                · refine r_load (i := 61) (u := 1) (w := 0) rfl rfl rfl ?_
                  refine r_const (i := 62) (u := 3) (z := 3) rfl rfl ?_
                  refine c_ne (i := 63) (v := 68) rfl ⟨by omega, by omega⟩ ⟨by omega, by omega⟩ (fun h883 => ?_) (fun h884 => ?_)
                  · refine r_load (i := 68) (u := 2) (w := 1) rfl rfl rfl ?_
                    refine r_putL (i := 69) (v := 36) (w := 11) rfl ly43 rfl ⟨by omega, by omega⟩ ?_
                    have hI886 := hI870.set43 (z := w0) (y := v) (by omega) (by omega) (by omega)
                    rw [hS878] at hI886
                    have hF888 := hF879.setf (b := 43) (w := 36) (z := v) rfl
                    have hR889 := hR880.setf (b := 43) (w := 36) (z := v)
                    refine yT_gen (fun S885 hS887 => ?_)
                    rw [hS887] at hI886 hF888 hR889 
                    have h890 := hI886.f tf43_0
                    have h891 : S885.f 43 0 = S876.f 43 0 := by rw [← hS887]; exact ysf_ne (by decide)
                    have h892 : S876.f 43 0 = S869.f 43 0 := by rw [← hS878]; exact ysf_ne (by decide)
                    have h893 : S869.f 43 0 = 0 := by rw [← hS871]; exact ysf_eq
                    have h894 := hI886.f tf43_33
                    have h895 := hI886.m2
                    have h896 : S885.f 43 33 = S876.f 43 33 := by rw [← hS887]; exact ysf_ne (by decide)
                    have h897 : S876.f 43 33 = w0 := by rw [← hS878]; exact ysf_eq
                    have h898 := hI886.m2
                    have h899 : S885.f 43 36 = v := by rw [← hS887]; exact ysf_eq
                    exact r_ret0 (i := 70) rfl ⟨rfl, (by first | (exfalso; omega) | exact fun hf9 => Or.inl ⟨by omega, by omega, fun q9 => ⟨by omega, by omega⟩, fun q9 => absurd q9 (by omega)⟩ | exact fun hf9 => Or.inr ⟨by omega, fun hc => by obtain ⟨c1, c2, -⟩ := hc; omega⟩), (by omega), (by omega), (by omega), hI886, hF888, hR889⟩
                  · refine r_load (i := 64) (u := 2) (w := 1) rfl rfl rfl ?_
                    refine r_lconst (i := 65) (u := 1) (z := 1) rfl rfl ?_
                    refine r_land (i := 66) rfl ?_
                    have h900 := @yland_c v 1 (by decide) (by decide)
                    refine r_goto (i := 67) (v := 69) rfl ?_
                    refine r_putL (i := 69) (v := 36) (w := 11) rfl ly43 rfl ⟨by omega, by omega⟩ ?_
                    have hI902 := hI870.set43 (z := w0) (y := yland v 1) (by omega) (by omega) (by omega)
                    rw [hS878] at hI902
                    have hF904 := hF879.setf (b := 43) (w := 36) (z := yland v 1) rfl
                    have hR905 := hR880.setf (b := 43) (w := 36) (z := yland v 1)
                    refine yT_gen (fun S901 hS903 => ?_)
                    rw [hS903] at hI902 hF904 hR905 
                    have h906 := hI902.f tf43_0
                    have h907 : S901.f 43 0 = S876.f 43 0 := by rw [← hS903]; exact ysf_ne (by decide)
                    have h908 : S876.f 43 0 = S869.f 43 0 := by rw [← hS878]; exact ysf_ne (by decide)
                    have h909 : S869.f 43 0 = 0 := by rw [← hS871]; exact ysf_eq
                    have h910 := hI902.f tf43_33
                    have h911 := hI902.m2
                    have h912 : S901.f 43 33 = S876.f 43 33 := by rw [← hS903]; exact ysf_ne (by decide)
                    have h913 : S876.f 43 33 = w0 := by rw [← hS878]; exact ysf_eq
                    have h914 := hI902.m2
                    have h915 : S901.f 43 36 = yland v 1 := by rw [← hS903]; exact ysf_eq
                    exact r_ret0 (i := 70) rfl ⟨rfl, (by first | (exfalso; omega) | exact fun hf9 => Or.inl ⟨by omega, by omega, fun q9 => ⟨by omega, by omega⟩, fun q9 => absurd q9 (by omega)⟩ | exact fun hf9 => Or.inr ⟨by omega, fun hc => by obtain ⟨c1, c2, -⟩ := hc; omega⟩), (by omega), (by omega), (by omega), hI902, hF904, hR905⟩
                · refine r_load (i := 57) (u := 2) (w := 1) rfl rfl rfl ?_
                  refine r_l2i (i := 58) rfl ?_
                  rw [vi_sg v]
                  have h916 := ysg_fact v
                  refine r_i2l (i := 59) rfl ⟨by omega, by omega⟩ ?_
                  refine r_goto (i := 60) (v := 69) rfl ?_
                  refine r_putL (i := 69) (v := 36) (w := 11) rfl ly43 rfl ⟨by omega, by omega⟩ ?_
                  have hI918 := hI870.set43 (z := w0) (y := ysg v) (by omega) (by omega) (by omega)
                  rw [hS878] at hI918
                  have hF920 := hF879.setf (b := 43) (w := 36) (z := ysg v) rfl
                  have hR921 := hR880.setf (b := 43) (w := 36) (z := ysg v)
                  refine yT_gen (fun S917 hS919 => ?_)
                  rw [hS919] at hI918 hF920 hR921 
                  have h922 := hI918.f tf43_0
                  have h923 : S917.f 43 0 = S876.f 43 0 := by rw [← hS919]; exact ysf_ne (by decide)
                  have h924 : S876.f 43 0 = S869.f 43 0 := by rw [← hS878]; exact ysf_ne (by decide)
                  have h925 : S869.f 43 0 = 0 := by rw [← hS871]; exact ysf_eq
                  have h926 := hI918.f tf43_33
                  have h927 := hI918.m2
                  have h928 : S917.f 43 33 = S876.f 43 33 := by rw [← hS919]; exact ysf_ne (by decide)
                  have h929 : S876.f 43 33 = w0 := by rw [← hS878]; exact ysf_eq
                  have h930 := hI918.m2
                  have h931 : S917.f 43 36 = ysg v := by rw [← hS919]; exact ysf_eq
                  exact r_ret0 (i := 70) rfl ⟨rfl, (by first | (exfalso; omega) | exact fun hf9 => Or.inl ⟨by omega, by omega, fun q9 => ⟨by omega, by omega⟩, fun q9 => absurd q9 (by omega)⟩ | exact fun hf9 => Or.inr ⟨by omega, fun hc => by obtain ⟨c1, c2, -⟩ := hc; omega⟩), (by omega), (by omega), (by omega), hI918, hF920, hR921⟩
              · refine r_load (i := 30) (u := 0) (w := 2) rfl rfl rfl ?_
                refine r_load (i := 31) (u := 2) (w := 1) rfl rfl rfl ?_
                refine r_l2i (i := 32) rfl ?_
                rw [vi_sg v]
                have h932 := ysg_fact v
                refine r_const (i := 33) (u := 1) (z := 1) rfl rfl ?_
                refine r_call (i := 34) (u := 11) (v := 262) (w := 0) (b := 0) (na := 1795) (C2 := xC262) (as := [(2, 43), vi (ysg v), vi 1]) (s := []) rfl rfl rfl rfl rfl rfl rfl (sp262 (t := ysg v) (o := 1) hI ⟨by omega, by omega⟩ ⟨by omega, by omega⟩   (by omega)) (fun r933 S934 hq935 => ?_)
                obtain ⟨z936, rfl, h937, h938, um939, hI940, hF941, hR942⟩ := hq935
                have hF943 := hF.trans hF941 rfl rfl
                have hR944 := hR.trans hR942 rfl
                refine Or.inr (Or.inl ⟨rfl, ?_⟩)
                refine z_eq (i := 35) (v := 38) rfl ⟨by omega, by omega⟩ (fun h945 => ?_) (fun h946 => ?_)
                · refine r_const (i := 38) (u := 0) (z := 0) rfl rfl ?_
                  refine r_store (i := 39) (u := 5) (w := 0) (L1 := [some ((2, 43)), some (vi w0), some (vl v), none, some (vi 1), some (vi 0)]) rfl rfl rfl rfl ?_
                  refine r_load (i := 40) (u := 0) (w := 2) rfl rfl rfl ?_
                  refine r_load (i := 41) (u := 5) (w := 0) rfl rfl rfl ?_
                  refine z_eq (i := 42) (v := 45) rfl ⟨by omega, by omega⟩ (fun h947 => ?_) (fun h948 => absurd h948 (by omega))
                  refine r_const (i := 45) (u := 1) (z := 1) rfl rfl ?_
                  refine r_putI (i := 46) (v := 0) (w := 11) rfl ly43 rfl ⟨by omega, by omega⟩ ?_
                  have hI950 := hI940.setf (b := 43) (w := 0) (z := 1) tf43_0 rfl (by omega) (by omega)
                  have hF952 := hF943.setf (b := 43) (w := 0) (z := 1) rfl
                  have hR953 := hR944.setf (b := 43) (w := 0) (z := 1)
                  refine yT_gen (fun S949 hS951 => ?_)
                  rw [hS951] at hI950 hF952 hR953 
                  refine r_load (i := 47) (u := 5) (w := 0) rfl rfl rfl ?_
                  refine z_ne (i := 48) (v := 50) rfl ⟨by omega, by omega⟩ (fun h954 => absurd h954 (by omega)) (fun h955 => ?_)
                  have h956 := hI950.f tf43_0
                  have h957 : S949.f 43 0 = 1 := by rw [← hS951]; exact ysf_eq
                  have h958 := hI950.f tf43_33
                  have h959 := hI950.m2
                  have h960 : S949.f 43 33 = S934.f 43 33 := by rw [← hS951]; exact ysf_ne (by decide)
                  have h961 : S934.f 43 33 = S.f 43 33 := hF941.f rfl
                  have h962 := hI950.m2
                  have h963 : S949.f 43 36 = S934.f 43 36 := by rw [← hS951]; exact ysf_ne (by decide)
                  have h964 : S934.f 43 36 = S.f 43 36 := hF941.f rfl
                  exact r_ret0 (i := 49) rfl ⟨rfl, (by first | (exfalso; omega) | (intro hf9; have sg9 : ysg v = v := (by omega); have w9 := um939 hf9 (by omega) (by omega) (by omega); rw [sg9] at w9; first | exact Or.inl ⟨by omega, by omega, fun _ => ⟨by omega, by omega⟩, fun _ => w9.mp (by omega)⟩ | exact Or.inr ⟨by omega, fun hc => absurd (w9.mpr (hc.2.2 (by omega))) (by omega)⟩)), (by omega), (by omega), (by omega), hI950, hF952, hR953⟩
                · refine r_const (i := 36) (u := 1) (z := 1) rfl rfl ?_
                  refine r_goto (i := 37) (v := 39) rfl ?_
                  refine r_store (i := 39) (u := 5) (w := 0) (L1 := [some ((2, 43)), some (vi w0), some (vl v), none, some (vi 1), some (vi 1)]) rfl rfl rfl rfl ?_
                  refine r_load (i := 40) (u := 0) (w := 2) rfl rfl rfl ?_
                  refine r_load (i := 41) (u := 5) (w := 0) rfl rfl rfl ?_
                  refine z_eq (i := 42) (v := 45) rfl ⟨by omega, by omega⟩ (fun h965 => absurd h965 (by omega)) (fun h966 => ?_)
                  refine r_const (i := 43) (u := 0) (z := 0) rfl rfl ?_
                  refine r_goto (i := 44) (v := 46) rfl ?_
                  refine r_putI (i := 46) (v := 0) (w := 11) rfl ly43 rfl ⟨by omega, by omega⟩ ?_
                  have hI968 := hI940.setf (b := 43) (w := 0) (z := 0) tf43_0 rfl (by omega) (by omega)
                  have hF970 := hF943.setf (b := 43) (w := 0) (z := 0) rfl
                  have hR971 := hR944.setf (b := 43) (w := 0) (z := 0)
                  refine yT_gen (fun S967 hS969 => ?_)
                  rw [hS969] at hI968 hF970 hR971 
                  refine r_load (i := 47) (u := 5) (w := 0) rfl rfl rfl ?_
                  refine z_ne (i := 48) (v := 50) rfl ⟨by omega, by omega⟩ (fun h972 => ?_) (fun h973 => absurd h973 (by omega))
                  refine r_load (i := 50) (u := 0) (w := 2) rfl rfl rfl ?_
                  refine r_load (i := 51) (u := 1) (w := 0) rfl rfl rfl ?_
                  refine r_putI (i := 52) (v := 33) (w := 11) rfl ly43 rfl ⟨by omega, by omega⟩ ?_
                  have hF977 := hF970.setf (b := 43) (w := 33) (z := w0) rfl
                  have hR978 := hR971.setf (b := 43) (w := 33) (z := w0)
                  refine yT_gen (fun S974 hS976 => ?_)
                  rw [hS976] at hF977 hR978 
                  refine r_load (i := 53) (u := 0) (w := 2) rfl rfl rfl ?_
                  refine r_load (i := 54) (u := 1) (w := 0) rfl rfl rfl ?_
                  refine r_const (i := 55) (u := 1) (z := 1) rfl rfl ?_
                  refine c_ne (i := 56) (v := 61) rfl ⟨by omega, by omega⟩ ⟨by omega, by omega⟩ (fun h979 => ?_) (fun h980 => ?_)
                  · refine r_load (i := 61) (u := 1) (w := 0) rfl rfl rfl ?_
                    refine r_const (i := 62) (u := 3) (z := 3) rfl rfl ?_
                    refine c_ne (i := 63) (v := 68) rfl ⟨by omega, by omega⟩ ⟨by omega, by omega⟩ (fun h981 => ?_) (fun h982 => ?_)
                    · refine r_load (i := 68) (u := 2) (w := 1) rfl rfl rfl ?_
                      refine r_putL (i := 69) (v := 36) (w := 11) rfl ly43 rfl ⟨by omega, by omega⟩ ?_
                      have hI984 := hI968.set43 (z := w0) (y := v) (by omega) (by omega) (by omega)
                      rw [hS976] at hI984
                      have hF986 := hF977.setf (b := 43) (w := 36) (z := v) rfl
                      have hR987 := hR978.setf (b := 43) (w := 36) (z := v)
                      refine yT_gen (fun S983 hS985 => ?_)
                      rw [hS985] at hI984 hF986 hR987 
                      have h988 := hI984.f tf43_0
                      have h989 : S983.f 43 0 = S974.f 43 0 := by rw [← hS985]; exact ysf_ne (by decide)
                      have h990 : S974.f 43 0 = S967.f 43 0 := by rw [← hS976]; exact ysf_ne (by decide)
                      have h991 : S967.f 43 0 = 0 := by rw [← hS969]; exact ysf_eq
                      have h992 := hI984.f tf43_33
                      have h993 := hI984.m2
                      have h994 : S983.f 43 33 = S974.f 43 33 := by rw [← hS985]; exact ysf_ne (by decide)
                      have h995 : S974.f 43 33 = w0 := by rw [← hS976]; exact ysf_eq
                      have h996 := hI984.m2
                      have h997 : S983.f 43 36 = v := by rw [← hS985]; exact ysf_eq
                      exact r_ret0 (i := 70) rfl ⟨rfl, (by first | (exfalso; omega) | (intro hf9; have sg9 : ysg v = v := (by omega); have w9 := um939 hf9 (by omega) (by omega) (by omega); rw [sg9] at w9; first | exact Or.inl ⟨by omega, by omega, fun _ => ⟨by omega, by omega⟩, fun _ => w9.mp (by omega)⟩ | exact Or.inr ⟨by omega, fun hc => absurd (w9.mpr (hc.2.2 (by omega))) (by omega)⟩)), (by omega), (by omega), (by omega), hI984, hF986, hR987⟩
                    · refine r_load (i := 64) (u := 2) (w := 1) rfl rfl rfl ?_
                      refine r_lconst (i := 65) (u := 1) (z := 1) rfl rfl ?_
                      refine r_land (i := 66) rfl ?_
                      have h998 := @yland_c v 1 (by decide) (by decide)
                      refine r_goto (i := 67) (v := 69) rfl ?_
                      refine r_putL (i := 69) (v := 36) (w := 11) rfl ly43 rfl ⟨by omega, by omega⟩ ?_
                      have hI1000 := hI968.set43 (z := w0) (y := yland v 1) (by omega) (by omega) (by omega)
                      rw [hS976] at hI1000
                      have hF1002 := hF977.setf (b := 43) (w := 36) (z := yland v 1) rfl
                      have hR1003 := hR978.setf (b := 43) (w := 36) (z := yland v 1)
                      refine yT_gen (fun S999 hS1001 => ?_)
                      rw [hS1001] at hI1000 hF1002 hR1003 
                      have h1004 := hI1000.f tf43_0
                      have h1005 : S999.f 43 0 = S974.f 43 0 := by rw [← hS1001]; exact ysf_ne (by decide)
                      have h1006 : S974.f 43 0 = S967.f 43 0 := by rw [← hS976]; exact ysf_ne (by decide)
                      have h1007 : S967.f 43 0 = 0 := by rw [← hS969]; exact ysf_eq
                      have h1008 := hI1000.f tf43_33
                      have h1009 := hI1000.m2
                      have h1010 : S999.f 43 33 = S974.f 43 33 := by rw [← hS1001]; exact ysf_ne (by decide)
                      have h1011 : S974.f 43 33 = w0 := by rw [← hS976]; exact ysf_eq
                      have h1012 := hI1000.m2
                      have h1013 : S999.f 43 36 = yland v 1 := by rw [← hS1001]; exact ysf_eq
                      exact r_ret0 (i := 70) rfl ⟨rfl, (by first | (exfalso; omega) | (intro hf9; have sg9 : ysg v = v := (by omega); have w9 := um939 hf9 (by omega) (by omega) (by omega); rw [sg9] at w9; first | exact Or.inl ⟨by omega, by omega, fun _ => ⟨by omega, by omega⟩, fun _ => w9.mp (by omega)⟩ | exact Or.inr ⟨by omega, fun hc => absurd (w9.mpr (hc.2.2 (by omega))) (by omega)⟩)), (by omega), (by omega), (by omega), hI1000, hF1002, hR1003⟩
                  · refine r_load (i := 57) (u := 2) (w := 1) rfl rfl rfl ?_
                    refine r_l2i (i := 58) rfl ?_
                    rw [vi_sg v]
                    have h1014 := ysg_fact v
                    refine r_i2l (i := 59) rfl ⟨by omega, by omega⟩ ?_
                    refine r_goto (i := 60) (v := 69) rfl ?_
                    refine r_putL (i := 69) (v := 36) (w := 11) rfl ly43 rfl ⟨by omega, by omega⟩ ?_
                    have hI1016 := hI968.set43 (z := w0) (y := ysg v) (by omega) (by omega) (by omega)
                    rw [hS976] at hI1016
                    have hF1018 := hF977.setf (b := 43) (w := 36) (z := ysg v) rfl
                    have hR1019 := hR978.setf (b := 43) (w := 36) (z := ysg v)
                    refine yT_gen (fun S1015 hS1017 => ?_)
                    rw [hS1017] at hI1016 hF1018 hR1019 
                    have h1020 := hI1016.f tf43_0
                    have h1021 : S1015.f 43 0 = S974.f 43 0 := by rw [← hS1017]; exact ysf_ne (by decide)
                    have h1022 : S974.f 43 0 = S967.f 43 0 := by rw [← hS976]; exact ysf_ne (by decide)
                    have h1023 : S967.f 43 0 = 0 := by rw [← hS969]; exact ysf_eq
                    have h1024 := hI1016.f tf43_33
                    have h1025 := hI1016.m2
                    have h1026 : S1015.f 43 33 = S974.f 43 33 := by rw [← hS1017]; exact ysf_ne (by decide)
                    have h1027 : S974.f 43 33 = w0 := by rw [← hS976]; exact ysf_eq
                    have h1028 := hI1016.m2
                    have h1029 : S1015.f 43 36 = ysg v := by rw [← hS1017]; exact ysf_eq
                    exact r_ret0 (i := 70) rfl ⟨rfl, (by first | (exfalso; omega) | (intro hf9; have sg9 : ysg v = v := (by omega); have w9 := um939 hf9 (by omega) (by omega) (by omega); rw [sg9] at w9; first | exact Or.inl ⟨by omega, by omega, fun _ => ⟨by omega, by omega⟩, fun _ => w9.mp (by omega)⟩ | exact Or.inr ⟨by omega, fun hc => absurd (w9.mpr (hc.2.2 (by omega))) (by omega)⟩)), (by omega), (by omega), (by omega), hI1016, hF1018, hR1019⟩
            · refine z_ge (i := 26) (v := 38) rfl ⟨by omega, by omega⟩ (fun h1030 => ?_) (fun h1031 => absurd h1031 (by omega))
              refine r_const (i := 38) (u := 0) (z := 0) rfl rfl ?_
              refine r_store (i := 39) (u := 5) (w := 0) (L1 := [some ((2, 43)), some (vi w0), some (vl v), none, some (vi 1), some (vi 0)]) rfl rfl rfl rfl ?_
              refine r_load (i := 40) (u := 0) (w := 2) rfl rfl rfl ?_
              refine r_load (i := 41) (u := 5) (w := 0) rfl rfl rfl ?_
              refine z_eq (i := 42) (v := 45) rfl ⟨by omega, by omega⟩ (fun h1032 => ?_) (fun h1033 => absurd h1033 (by omega))
              refine r_const (i := 45) (u := 1) (z := 1) rfl rfl ?_
              refine r_putI (i := 46) (v := 0) (w := 11) rfl ly43 rfl ⟨by omega, by omega⟩ ?_
              have hI1035 := hI.setf (b := 43) (w := 0) (z := 1) tf43_0 rfl (by omega) (by omega)
              have hF1037 := hF.setf (b := 43) (w := 0) (z := 1) rfl
              have hR1038 := hR.setf (b := 43) (w := 0) (z := 1)
              refine yT_gen (fun S1034 hS1036 => ?_)
              rw [hS1036] at hI1035 hF1037 hR1038 
              refine r_load (i := 47) (u := 5) (w := 0) rfl rfl rfl ?_
              refine z_ne (i := 48) (v := 50) rfl ⟨by omega, by omega⟩ (fun h1039 => absurd h1039 (by omega)) (fun h1040 => ?_)
              have h1041 := hI1035.f tf43_0
              have h1042 : S1034.f 43 0 = 1 := by rw [← hS1036]; exact ysf_eq
              have h1043 := hI1035.f tf43_33
              have h1044 := hI1035.m2
              have h1045 : S1034.f 43 33 = S.f 43 33 := by rw [← hS1036]; exact ysf_ne (by decide)
              have h1046 := hI1035.m2
              have h1047 : S1034.f 43 36 = S.f 43 36 := by rw [← hS1036]; exact ysf_ne (by decide)
              exact r_ret0 (i := 49) rfl ⟨rfl, (by first | (exfalso; omega) | exact fun hf9 => Or.inl ⟨by omega, by omega, fun q9 => ⟨by omega, by omega⟩, fun q9 => absurd q9 (by omega)⟩ | exact fun hf9 => Or.inr ⟨by omega, fun hc => by obtain ⟨c1, c2, -⟩ := hc; omega⟩), (by omega), (by omega), (by omega), hI1035, hF1037, hR1038⟩
            · refine z_ge (i := 26) (v := 38) rfl ⟨by omega, by omega⟩ (fun h1048 => ?_) (fun h1049 => absurd h1049 (by omega))
              refine r_const (i := 38) (u := 0) (z := 0) rfl rfl ?_
              refine r_store (i := 39) (u := 5) (w := 0) (L1 := [some ((2, 43)), some (vi w0), some (vl v), none, some (vi 1), some (vi 0)]) rfl rfl rfl rfl ?_
              refine r_load (i := 40) (u := 0) (w := 2) rfl rfl rfl ?_
              refine r_load (i := 41) (u := 5) (w := 0) rfl rfl rfl ?_
              refine z_eq (i := 42) (v := 45) rfl ⟨by omega, by omega⟩ (fun h1050 => ?_) (fun h1051 => absurd h1051 (by omega))
              refine r_const (i := 45) (u := 1) (z := 1) rfl rfl ?_
              refine r_putI (i := 46) (v := 0) (w := 11) rfl ly43 rfl ⟨by omega, by omega⟩ ?_
              have hI1053 := hI.setf (b := 43) (w := 0) (z := 1) tf43_0 rfl (by omega) (by omega)
              have hF1055 := hF.setf (b := 43) (w := 0) (z := 1) rfl
              have hR1056 := hR.setf (b := 43) (w := 0) (z := 1)
              refine yT_gen (fun S1052 hS1054 => ?_)
              rw [hS1054] at hI1053 hF1055 hR1056 
              refine r_load (i := 47) (u := 5) (w := 0) rfl rfl rfl ?_
              refine z_ne (i := 48) (v := 50) rfl ⟨by omega, by omega⟩ (fun h1057 => absurd h1057 (by omega)) (fun h1058 => ?_)
              have h1059 := hI1053.f tf43_0
              have h1060 : S1052.f 43 0 = 1 := by rw [← hS1054]; exact ysf_eq
              have h1061 := hI1053.f tf43_33
              have h1062 := hI1053.m2
              have h1063 : S1052.f 43 33 = S.f 43 33 := by rw [← hS1054]; exact ysf_ne (by decide)
              have h1064 := hI1053.m2
              have h1065 : S1052.f 43 36 = S.f 43 36 := by rw [← hS1054]; exact ysf_ne (by decide)
              exact r_ret0 (i := 49) rfl ⟨rfl, (by first | (exfalso; omega) | exact fun hf9 => Or.inl ⟨by omega, by omega, fun q9 => ⟨by omega, by omega⟩, fun q9 => absurd q9 (by omega)⟩ | exact fun hf9 => Or.inr ⟨by omega, fun hc => by obtain ⟨c1, c2, -⟩ := hc; omega⟩), (by omega), (by omega), (by omega), hI1053, hF1055, hR1056⟩
theorem lp264_4 {G : xk} {d : Nat} {S : yS} (hI : yI S) {m : Int} (h_m : 0 ≤ m ∧ m ≤ 59) (hd : 2 ≤ d + 1) : ∀ (n : Nat), ∀ (n0 k : Int) (h_n0 : 0 ≤ n0 ∧ n0 ≤ 8) (h_k : 0 ≤ k ∧ k ≤ 4) (q_0 : n0 ≤ 2 * k) (hn : 4 - k < (n : Nat)), yT xPr G LY xC264 4 [some ((2, 43)), some (vi m), some (vi n0), some (vi k)] [] S (d + 1) (fun r S' => ∃ z : Int, r = (1, vi z) ∧ 0 ≤ z ∧ z ≤ 8 ∧ S = S') := by
  intro n
  induction n with
  | zero => intro n0 k h_n0 h_k q_0 hn; exact absurd hn (by omega)
  | succ n ih =>
    intro n0 k h_n0 h_k q_0 hn
    refine r_load (i := 4) (u := 3) (w := 0) rfl rfl rfl ?_
    refine r_load (i := 5) (u := 0) (w := 2) rfl rfl rfl ?_
    refine r_getf (i := 6) (v := 14) (w := 11) (x := (2, 55)) rfl ly43 rfl rfl fun _ => ?_
    refine r_load (i := 7) (u := 1) (w := 0) rfl rfl rfl ?_
    refine a_int (i := 8) rfl ly55 rfl (by omega) (by omega) fun h2 => ?_
    have h3 := hI.a ta55 m.toNat
    have kp4 := hI.k55 m.toNat
    refine r_call (i := 9) (u := 65535) (v := 216) (w := 0) (b := 2) (na := 513) (C2 := xC216) (as := [vi (S.a 55 m.toNat)]) (s := [vi k]) rfl rfl rfl rfl rfl rfl rfl (sp216 (a := S.a 55 m.toNat) hI ⟨by omega, by omega⟩   (by omega)) (fun r5 S6 hq7 => ?_)
    obtain ⟨z8, rfl, h9, h10, hmn11, rfl⟩ := hq7
    refine Or.inr (Or.inl ⟨rfl, ?_⟩)
    refine c_ge (i := 10) (v := 23) rfl ⟨by omega, by omega⟩ ⟨by omega, by omega⟩ (fun h12 => ?_) (fun h13 => ?_)
    · refine r_load (i := 23) (u := 2) (w := 0) rfl rfl rfl ?_
      exact r_retI (i := 24) rfl ⟨n0, rfl, by omega, by omega, rfl⟩
    · refine r_load (i := 11) (u := 2) (w := 0) rfl rfl rfl ?_
      refine r_load (i := 12) (u := 0) (w := 2) rfl rfl rfl ?_
      refine r_getf (i := 13) (v := 14) (w := 11) (x := (2, 55)) rfl ly43 rfl rfl fun _ => ?_
      refine r_load (i := 14) (u := 1) (w := 0) rfl rfl rfl ?_
      refine a_int (i := 15) rfl ly55 rfl (by omega) (by omega) fun h15 => ?_
      have h16 := hI.a ta55 m.toNat
      have kp17 := hI.k55 m.toNat
      refine r_load (i := 16) (u := 3) (w := 0) rfl rfl rfl ?_
      refine r_call (i := 17) (u := 65535) (v := 229) (w := 0) (b := 2) (na := 514) (C2 := xC229) (as := [vi (S.a 55 m.toNat), vi k]) (s := [vi n0]) rfl rfl rfl rfl rfl rfl rfl (sp229 (a := S.a 55 m.toNat) (k := k) hI ⟨by omega, by omega⟩ ⟨by omega, by omega⟩   (by omega)) (fun r18 S19 hq20 => ?_)
      obtain ⟨z21, rfl, h22, h23, h24, rfl⟩ := hq20
      refine Or.inr (Or.inl ⟨rfl, ?_⟩)
      refine r_call (i := 18) (u := 65535) (v := 263) (w := 0) (b := 2) (na := 257) (C2 := xC263) (as := [vi z21]) (s := [vi n0]) rfl rfl rfl rfl rfl rfl rfl (sp263 (k := z21) hI ⟨by omega, by omega⟩   (by omega)) (fun r25 S26 hq27 => ?_)
      obtain ⟨z28, rfl, h29, h30, rfl⟩ := hq27
      refine Or.inr (Or.inl ⟨rfl, ?_⟩)
      refine r_iadd (i := 19) rfl ?_
      refine r_store (i := 20) (u := 2) (w := 0) (L1 := [some ((2, 43)), some (vi m), some (vi (n0 + z28)), some (vi k)]) rfl rfl rfl rfl ?_
      refine r_iinc (i := 21) (u := 1) (v := 3) (s := 1) (L1 := [some ((2, 43)), some (vi m), some (vi (n0 + z28)), some (vi (k + 1))]) rfl rfl rfl rfl rfl ?_
      refine r_goto (i := 22) (v := 4) rfl ?_
      exact ih (n0 + z28) (k + 1) ⟨by omega, by omega⟩ ⟨by omega, by omega⟩ (by omega) (by omega)
/-- ProxyForgeModel.wideAll -/
theorem sp264 {G : xk} {S : yS} {d : Nat} (hI : yI S) {m : Int} (h_m : 0 ≤ m ∧ m ≤ 59) (hd : 2 ≤ d) : yT xPr G LY xC264 0 [some ((2, 43)), some (vi m)] [] S d (fun r S' => ∃ z : Int, r = (1, vi z) ∧ 0 ≤ z ∧ z ≤ 8 ∧ S = S') := by
  refine yT_pad 2 ?_
  show yT xPr G LY xC264 0 [some ((2, 43)), some (vi m), none, none] [] S d _
  obtain ⟨d, rfl⟩ : ∃ q, d = q + 1 := ⟨d - 1, by omega⟩
  refine r_const (i := 0) (u := 0) (z := 0) rfl rfl ?_
  refine r_store (i := 1) (u := 2) (w := 0) (L1 := [some ((2, 43)), some (vi m), some (vi 0), none]) rfl rfl rfl rfl ?_
  refine r_const (i := 2) (u := 0) (z := 0) rfl rfl ?_
  refine r_store (i := 3) (u := 3) (w := 0) (L1 := [some ((2, 43)), some (vi m), some (vi 0), some (vi 0)]) rfl rfl rfl rfl ?_
  exact lp264_4 hI h_m   hd _ 0 0 ⟨by omega, by omega⟩ ⟨by omega, by omega⟩ (by omega) (Int.lt_succ_toNat _)
theorem lp257_4 {G : xk} {d : Nat} {S : yS} (hI : yI S) {k : Int} (h_k : 0 ≤ k ∧ k ≤ 23) (hd : 0 ≤ d) : ∀ (n : Nat), ∀ (g0 j : Int) (h_g0 : 0 ≤ g0 ∧ g0 ≤ 1) (h_j : 0 ≤ j ∧ j ≤ 3) (hn : 3 - j < (n : Nat)), yT xPr G LY xC257 4 [some ((2, 43)), some (vi k), some (vi g0), some (vi j)] [] S d (fun r S' => ∃ z : Int, r = (1, vi z) ∧ 0 ≤ z ∧ z ≤ 1 ∧ S = S') := by
  intro n
  induction n with
  | zero => intro g0 j h_g0 h_j hn; exact absurd hn (by omega)
  | succ n ih =>
    intro g0 j h_g0 h_j hn
    refine r_load (i := 4) (u := 3) (w := 0) rfl rfl rfl ?_
    refine r_load (i := 5) (u := 0) (w := 2) rfl rfl rfl ?_
    refine r_getf (i := 6) (v := 26) (w := 11) (x := (2, 63)) rfl ly43 rfl rfl fun _ => ?_
    refine r_load (i := 7) (u := 1) (w := 0) rfl rfl rfl ?_
    refine a_int (i := 8) rfl ly63 rfl (by omega) (by omega) fun h2 => ?_
    have h3 := hI.a ta63 k.toNat
    refine c_ge (i := 9) (v := 28) rfl ⟨by omega, by omega⟩ ⟨by omega, by omega⟩ (fun h4 => ?_) (fun h5 => ?_)
    · refine r_load (i := 28) (u := 2) (w := 0) rfl rfl rfl ?_
      exact r_retZ (i := 29) rfl (by omega) (by omega) ⟨g0, rfl, by omega, by omega, rfl⟩
    · refine r_load (i := 10) (u := 2) (w := 0) rfl rfl rfl ?_
      refine z_ne (i := 11) (v := 22) rfl ⟨by omega, by omega⟩ (fun h6 => ?_) (fun h7 => ?_)
      · refine r_const (i := 22) (u := 1) (z := 1) rfl rfl ?_
        refine r_goto (i := 23) (v := 25) rfl ?_
        refine r_store (i := 25) (u := 2) (w := 0) (L1 := [some ((2, 43)), some (vi k), some (vi 1), some (vi j)]) rfl rfl rfl rfl ?_
        refine r_iinc (i := 26) (u := 1) (v := 3) (s := 1) (L1 := [some ((2, 43)), some (vi k), some (vi 1), some (vi (j + 1))]) rfl rfl rfl rfl rfl ?_
        refine r_goto (i := 27) (v := 4) rfl ?_
        exact ih 1 (j + 1) ⟨by omega, by omega⟩ ⟨by omega, by omega⟩  (by omega)
      · refine r_load (i := 12) (u := 0) (w := 2) rfl rfl rfl ?_
        refine r_getf (i := 13) (v := 25) (w := 11) (x := (2, 62)) rfl ly43 rfl rfl fun _ => ?_
        refine r_const (i := 14) (u := 3) (z := 3) rfl rfl ?_
        refine r_load (i := 15) (u := 1) (w := 0) rfl rfl rfl ?_
        refine r_imul (i := 16) rfl ?_
        refine r_load (i := 17) (u := 3) (w := 0) rfl rfl rfl ?_
        refine r_iadd (i := 18) rfl ?_
        refine a_int (i := 19) rfl ly62 rfl (by omega) (by omega) fun h9 => ?_
        have h10 := hI.a ta62 ((3 * k) + j).toNat
        refine r_const (i := 20) (u := 1) (z := 1) rfl rfl ?_
        refine c_ne (i := 21) (v := 24) rfl ⟨by omega, by omega⟩ ⟨by omega, by omega⟩ (fun h11 => ?_) (fun h12 => ?_)
        · refine r_const (i := 24) (u := 0) (z := 0) rfl rfl ?_
          refine r_store (i := 25) (u := 2) (w := 0) (L1 := [some ((2, 43)), some (vi k), some (vi 0), some (vi j)]) rfl rfl rfl rfl ?_
          refine r_iinc (i := 26) (u := 1) (v := 3) (s := 1) (L1 := [some ((2, 43)), some (vi k), some (vi 0), some (vi (j + 1))]) rfl rfl rfl rfl rfl ?_
          refine r_goto (i := 27) (v := 4) rfl ?_
          exact ih 0 (j + 1) ⟨by omega, by omega⟩ ⟨by omega, by omega⟩  (by omega)
        · refine r_const (i := 22) (u := 1) (z := 1) rfl rfl ?_
          refine r_goto (i := 23) (v := 25) rfl ?_
          refine r_store (i := 25) (u := 2) (w := 0) (L1 := [some ((2, 43)), some (vi k), some (vi 1), some (vi j)]) rfl rfl rfl rfl ?_
          refine r_iinc (i := 26) (u := 1) (v := 3) (s := 1) (L1 := [some ((2, 43)), some (vi k), some (vi 1), some (vi (j + 1))]) rfl rfl rfl rfl rfl ?_
          refine r_goto (i := 27) (v := 4) rfl ?_
          exact ih 1 (j + 1) ⟨by omega, by omega⟩ ⟨by omega, by omega⟩  (by omega)
/-- ProxyForgeModel.throwsAll -/
theorem sp257 {G : xk} {S : yS} {d : Nat} (hI : yI S) {k : Int} (h_k : 0 ≤ k ∧ k ≤ 23) (hd : 0 ≤ d) : yT xPr G LY xC257 0 [some ((2, 43)), some (vi k)] [] S d (fun r S' => ∃ z : Int, r = (1, vi z) ∧ 0 ≤ z ∧ z ≤ 1 ∧ S = S') := by
  refine yT_pad 2 ?_
  show yT xPr G LY xC257 0 [some ((2, 43)), some (vi k), none, none] [] S d _
  refine r_const (i := 0) (u := 0) (z := 0) rfl rfl ?_
  refine r_store (i := 1) (u := 2) (w := 0) (L1 := [some ((2, 43)), some (vi k), some (vi 0), none]) rfl rfl rfl rfl ?_
  refine r_const (i := 2) (u := 0) (z := 0) rfl rfl ?_
  refine r_store (i := 3) (u := 3) (w := 0) (L1 := [some ((2, 43)), some (vi k), some (vi 0), some (vi 0)]) rfl rfl rfl rfl ?_
  exact lp257_4 hI h_k   hd _ 0 0 ⟨by omega, by omega⟩ ⟨by omega, by omega⟩  (Int.lt_succ_toNat _)
theorem lp206_33 {G : xk} {d : Nat} {S0 : yS} {t : Int} (h_t : -2147483648 ≤ t ∧ t ≤ 2147483647) {f : Int} (h_f : -2147483648 ≤ f ∧ f ≤ 2147483647) (hd : 1 ≤ d + 1) : ∀ (n : Nat), ∀ (S : yS) (hI : yI S) (hF : yFr [(43, 0)] [50, 51, 68] S0 S) (hR : yRm [] S0 S) (g0 j : Int) (h_g0 : 0 ≤ g0 ∧ g0 ≤ 1) (h_j : 0 ≤ j ∧ j ≤ 4) (q_0 : g0 = 1 → 3 < t ∧ t < S.f 43 1 ∧ 0 ≤ f ∧ f < S.f 43 1 ∧ S.a 51 t.toNat ≤ 3) (q_1 : sIm S0 S) (q_2 : FM S0 → (g0 = 1 → imP S0 t f j) ∧ (g0 = 0 → ¬ imM S0 t f)) (q_3 : g0 = 1 → j ≤ 4) (hn : 4 - j < (n : Nat)), yT xPr G LY xC206 33 [some ((2, 43)), some (vi t), some (vi f), some (vi g0), some (vi j)] [] S (d + 1) (fun r S' => r = (0, (0, 0)) ∧ mImQ S0 S' t f ∧ yI S' ∧ yFr [(43, 0)] [50, 51, 68] S0 S' ∧ yRm [] S0 S') := by
  intro n
  induction n with
  | zero => intro S hI hF hR g0 j h_g0 h_j q_0 q_1 q_2 q_3 hn; exact absurd hn (by omega)
  | succ n ih =>
    intro S hI hF hR g0 j h_g0 h_j q_0 q_1 q_2 q_3 hn
    have h1 := hI.f tf43_1
    have h2 : S.f 43 1 = S0.f 43 1 := hF.f rfl
    have h3 := hI.a ta51 t.toNat
    refine r_load (i := 33) (u := 3) (w := 0) rfl rfl rfl ?_
    refine z_eq (i := 34) (v := 57) rfl ⟨by omega, by omega⟩ (fun h4 => ?_) (fun h5 => ?_)
    · refine r_load (i := 57) (u := 0) (w := 2) rfl rfl rfl ?_
      refine r_load (i := 58) (u := 3) (w := 0) rfl rfl rfl ?_
      refine z_eq (i := 59) (v := 62) rfl ⟨by omega, by omega⟩ (fun h6 => ?_) (fun h7 => ?_)
      · refine r_const (i := 62) (u := 1) (z := 1) rfl rfl ?_
        refine r_putI (i := 63) (v := 0) (w := 11) rfl ly43 rfl ⟨by omega, by omega⟩ ?_
        have hI9 := hI.setf (b := 43) (w := 0) (z := 1) tf43_0 rfl (by omega) (by omega)
        have hF11 := hF.setf (b := 43) (w := 0) (z := 1) rfl
        have hR12 := hR.setf (b := 43) (w := 0) (z := 1)
        refine yT_gen (fun S8 hS10 => ?_)
        rw [hS10] at hI9 hF11 hR12 
        refine r_load (i := 64) (u := 3) (w := 0) rfl rfl rfl ?_
        refine z_ne (i := 65) (v := 67) rfl ⟨by omega, by omega⟩ (fun h13 => ?_) (fun h14 => ?_)
        · refine r_load (i := 67) (u := 0) (w := 2) rfl rfl rfl ?_
          refine r_getf (i := 68) (v := 8) (w := 11) (x := (2, 50)) rfl ly43 rfl rfl fun _ => ?_
          refine r_const (i := 69) (u := 4) (z := 4) rfl rfl ?_
          refine r_load (i := 70) (u := 1) (w := 0) rfl rfl rfl ?_
          refine r_imul (i := 71) rfl ?_
          refine r_load (i := 72) (u := 0) (w := 2) rfl rfl rfl ?_
          refine r_getf (i := 73) (v := 9) (w := 11) (x := (2, 51)) rfl ly43 rfl rfl fun _ => ?_
          refine r_load (i := 74) (u := 1) (w := 0) rfl rfl rfl ?_
          refine a_int (i := 75) rfl ly51 rfl (by omega) (by omega) fun h17 => ?_
          have h18 := hI9.a ta51 t.toNat
          have h19 : S8.a 51 t.toNat = S.a 51 t.toNat := by rw [← hS10]; rfl
          refine r_iadd (i := 76) rfl ?_
          refine r_load (i := 77) (u := 2) (w := 0) rfl rfl rfl ?_
          refine s_int (i := 78) rfl ly50 rfl (by omega) (by omega) ⟨by omega, by omega⟩ ?_
          have hI21 := hI9.seta (b := 50) (j := ((4 * t) + (S8.a 51 t.toNat)).toNat) (z := f) ta50 rfl (by omega) (by omega)
          have hF23 := hF11.seta (b := 50) (j := ((4 * t) + (S8.a 51 t.toNat)).toNat) (z := f) rfl
          have hR24 := hR12.seta (b := 50) (j := ((4 * t) + (S8.a 51 t.toNat)).toNat) (z := f)
          refine yT_gen (fun S20 hS22 => ?_)
          rw [hS22] at hI21 hF23 hR24 
          refine r_load (i := 79) (u := 0) (w := 2) rfl rfl rfl ?_
          refine r_getf (i := 80) (v := 9) (w := 11) (x := (2, 51)) rfl ly43 rfl rfl fun _ => ?_
          refine r_load (i := 81) (u := 1) (w := 0) rfl rfl rfl ?_
          refine r_dup2 (i := 82) rfl rfl rfl ?_
          refine a_int (i := 83) rfl ly51 rfl (by omega) (by omega) fun h26 => ?_
          have h27 := hI21.a ta51 t.toNat
          have h28 : S20.a 51 t.toNat = S8.a 51 t.toNat := by rw [← hS22]; rfl
          have h29 : S8.a 51 t.toNat = S.a 51 t.toNat := by rw [← hS10]; rfl
          refine r_const (i := 84) (u := 1) (z := 1) rfl rfl ?_
          refine r_iadd (i := 85) rfl ?_
          refine s_int (i := 86) rfl ly51 rfl (by omega) (by omega) ⟨by omega, by omega⟩ ?_
          have hI31 := hI21.seta (b := 51) (j := t.toNat) (z := (S20.a 51 t.toNat) + 1) ta51 rfl (by omega) (by omega)
          have hF33 := hF23.seta (b := 51) (j := t.toNat) (z := (S20.a 51 t.toNat) + 1) rfl
          have hR34 := hR24.seta (b := 51) (j := t.toNat) (z := (S20.a 51 t.toNat) + 1)
          refine yT_gen (fun S30 hS32 => ?_)
          rw [hS32] at hI31 hF33 hR34 
          have h35 := hI31.f tf43_0
          have h36 : S30.f 43 0 = S20.f 43 0 := by rw [← hS32]; rfl
          have h37 : S20.f 43 0 = S8.f 43 0 := by rw [← hS22]; rfl
          have h38 : S8.f 43 0 = 1 := by rw [← hS10]; exact ysf_eq
          exact r_ret0 (i := 87) rfl ⟨rfl, (by first | (exfalso; omega) | exact fun hf9 => Or.inl ⟨by omega, imP_end ((q_2 hf9).1 (by omega)) (by have w8 := (q_1 t.toNat).1; omega), by subst hS10 hS22 hS32; exact mIm_of q_1⟩), hI31, hF33, hR34⟩
        · have h39 := hI9.f tf43_0
          have h40 : S8.f 43 0 = 1 := by rw [← hS10]; exact ysf_eq
          exact r_ret0 (i := 66) rfl ⟨rfl, (by first | (exfalso; omega) | exact fun hf9 => Or.inr ⟨by omega, (q_2 hf9).2 (by omega), by subst hS10; exact q_1⟩), hI9, hF11, hR12⟩
      · refine r_const (i := 60) (u := 0) (z := 0) rfl rfl ?_
        refine r_goto (i := 61) (v := 63) rfl ?_
        refine r_putI (i := 63) (v := 0) (w := 11) rfl ly43 rfl ⟨by omega, by omega⟩ ?_
        have hI42 := hI.setf (b := 43) (w := 0) (z := 0) tf43_0 rfl (by omega) (by omega)
        have hF44 := hF.setf (b := 43) (w := 0) (z := 0) rfl
        have hR45 := hR.setf (b := 43) (w := 0) (z := 0)
        refine yT_gen (fun S41 hS43 => ?_)
        rw [hS43] at hI42 hF44 hR45 
        refine r_load (i := 64) (u := 3) (w := 0) rfl rfl rfl ?_
        refine z_ne (i := 65) (v := 67) rfl ⟨by omega, by omega⟩ (fun h46 => ?_) (fun h47 => ?_)
        · refine r_load (i := 67) (u := 0) (w := 2) rfl rfl rfl ?_
          refine r_getf (i := 68) (v := 8) (w := 11) (x := (2, 50)) rfl ly43 rfl rfl fun _ => ?_
          refine r_const (i := 69) (u := 4) (z := 4) rfl rfl ?_
          refine r_load (i := 70) (u := 1) (w := 0) rfl rfl rfl ?_
          refine r_imul (i := 71) rfl ?_
          refine r_load (i := 72) (u := 0) (w := 2) rfl rfl rfl ?_
          refine r_getf (i := 73) (v := 9) (w := 11) (x := (2, 51)) rfl ly43 rfl rfl fun _ => ?_
          refine r_load (i := 74) (u := 1) (w := 0) rfl rfl rfl ?_
          refine a_int (i := 75) rfl ly51 rfl (by omega) (by omega) fun h50 => ?_
          have h51 := hI42.a ta51 t.toNat
          have h52 : S41.a 51 t.toNat = S.a 51 t.toNat := by rw [← hS43]; rfl
          refine r_iadd (i := 76) rfl ?_
          refine r_load (i := 77) (u := 2) (w := 0) rfl rfl rfl ?_
          refine s_int (i := 78) rfl ly50 rfl (by omega) (by omega) ⟨by omega, by omega⟩ ?_
          have hI54 := hI42.seta (b := 50) (j := ((4 * t) + (S41.a 51 t.toNat)).toNat) (z := f) ta50 rfl (by omega) (by omega)
          have hF56 := hF44.seta (b := 50) (j := ((4 * t) + (S41.a 51 t.toNat)).toNat) (z := f) rfl
          have hR57 := hR45.seta (b := 50) (j := ((4 * t) + (S41.a 51 t.toNat)).toNat) (z := f)
          refine yT_gen (fun S53 hS55 => ?_)
          rw [hS55] at hI54 hF56 hR57 
          refine r_load (i := 79) (u := 0) (w := 2) rfl rfl rfl ?_
          refine r_getf (i := 80) (v := 9) (w := 11) (x := (2, 51)) rfl ly43 rfl rfl fun _ => ?_
          refine r_load (i := 81) (u := 1) (w := 0) rfl rfl rfl ?_
          refine r_dup2 (i := 82) rfl rfl rfl ?_
          refine a_int (i := 83) rfl ly51 rfl (by omega) (by omega) fun h59 => ?_
          have h60 := hI54.a ta51 t.toNat
          have h61 : S53.a 51 t.toNat = S41.a 51 t.toNat := by rw [← hS55]; rfl
          have h62 : S41.a 51 t.toNat = S.a 51 t.toNat := by rw [← hS43]; rfl
          refine r_const (i := 84) (u := 1) (z := 1) rfl rfl ?_
          refine r_iadd (i := 85) rfl ?_
          refine s_int (i := 86) rfl ly51 rfl (by omega) (by omega) ⟨by omega, by omega⟩ ?_
          have hI64 := hI54.seta (b := 51) (j := t.toNat) (z := (S53.a 51 t.toNat) + 1) ta51 rfl (by omega) (by omega)
          have hF66 := hF56.seta (b := 51) (j := t.toNat) (z := (S53.a 51 t.toNat) + 1) rfl
          have hR67 := hR57.seta (b := 51) (j := t.toNat) (z := (S53.a 51 t.toNat) + 1)
          refine yT_gen (fun S63 hS65 => ?_)
          rw [hS65] at hI64 hF66 hR67 
          have h68 := hI64.f tf43_0
          have h69 : S63.f 43 0 = S53.f 43 0 := by rw [← hS65]; rfl
          have h70 : S53.f 43 0 = S41.f 43 0 := by rw [← hS55]; rfl
          have h71 : S41.f 43 0 = 0 := by rw [← hS43]; exact ysf_eq
          exact r_ret0 (i := 87) rfl ⟨rfl, (by first | (exfalso; omega) | exact fun hf9 => Or.inl ⟨by omega, imP_end ((q_2 hf9).1 (by omega)) (by have w8 := (q_1 t.toNat).1; omega), by subst hS43 hS55 hS65; exact mIm_of q_1⟩), hI64, hF66, hR67⟩
        · have h72 := hI42.f tf43_0
          have h73 : S41.f 43 0 = 0 := by rw [← hS43]; exact ysf_eq
          exact r_ret0 (i := 66) rfl ⟨rfl, (by first | (exfalso; omega) | exact fun hf9 => Or.inr ⟨by omega, (q_2 hf9).2 (by omega), by subst hS43; exact q_1⟩), hI42, hF44, hR45⟩
    · refine r_load (i := 35) (u := 4) (w := 0) rfl rfl rfl ?_
      refine r_load (i := 36) (u := 0) (w := 2) rfl rfl rfl ?_
      refine r_getf (i := 37) (v := 9) (w := 11) (x := (2, 51)) rfl ly43 rfl rfl fun _ => ?_
      refine r_load (i := 38) (u := 1) (w := 0) rfl rfl rfl ?_
      refine a_int (i := 39) rfl ly51 rfl (by omega) (by omega) fun h75 => ?_
      have h76 := hI.a ta51 t.toNat
      refine c_ge (i := 40) (v := 57) rfl ⟨by omega, by omega⟩ ⟨by omega, by omega⟩ (fun h77 => ?_) (fun h78 => ?_)
      · refine r_load (i := 57) (u := 0) (w := 2) rfl rfl rfl ?_
        refine r_load (i := 58) (u := 3) (w := 0) rfl rfl rfl ?_
        refine z_eq (i := 59) (v := 62) rfl ⟨by omega, by omega⟩ (fun h79 => ?_) (fun h80 => ?_)
        · refine r_const (i := 62) (u := 1) (z := 1) rfl rfl ?_
          refine r_putI (i := 63) (v := 0) (w := 11) rfl ly43 rfl ⟨by omega, by omega⟩ ?_
          have hI82 := hI.setf (b := 43) (w := 0) (z := 1) tf43_0 rfl (by omega) (by omega)
          have hF84 := hF.setf (b := 43) (w := 0) (z := 1) rfl
          have hR85 := hR.setf (b := 43) (w := 0) (z := 1)
          refine yT_gen (fun S81 hS83 => ?_)
          rw [hS83] at hI82 hF84 hR85 
          refine r_load (i := 64) (u := 3) (w := 0) rfl rfl rfl ?_
          refine z_ne (i := 65) (v := 67) rfl ⟨by omega, by omega⟩ (fun h86 => ?_) (fun h87 => ?_)
          · refine r_load (i := 67) (u := 0) (w := 2) rfl rfl rfl ?_
            refine r_getf (i := 68) (v := 8) (w := 11) (x := (2, 50)) rfl ly43 rfl rfl fun _ => ?_
            refine r_const (i := 69) (u := 4) (z := 4) rfl rfl ?_
            refine r_load (i := 70) (u := 1) (w := 0) rfl rfl rfl ?_
            refine r_imul (i := 71) rfl ?_
            refine r_load (i := 72) (u := 0) (w := 2) rfl rfl rfl ?_
            refine r_getf (i := 73) (v := 9) (w := 11) (x := (2, 51)) rfl ly43 rfl rfl fun _ => ?_
            refine r_load (i := 74) (u := 1) (w := 0) rfl rfl rfl ?_
            refine a_int (i := 75) rfl ly51 rfl (by omega) (by omega) fun h90 => ?_
            have h91 := hI82.a ta51 t.toNat
            have h92 : S81.a 51 t.toNat = S.a 51 t.toNat := by rw [← hS83]; rfl
            refine r_iadd (i := 76) rfl ?_
            refine r_load (i := 77) (u := 2) (w := 0) rfl rfl rfl ?_
            refine s_int (i := 78) rfl ly50 rfl (by omega) (by omega) ⟨by omega, by omega⟩ ?_
            have hI94 := hI82.seta (b := 50) (j := ((4 * t) + (S81.a 51 t.toNat)).toNat) (z := f) ta50 rfl (by omega) (by omega)
            have hF96 := hF84.seta (b := 50) (j := ((4 * t) + (S81.a 51 t.toNat)).toNat) (z := f) rfl
            have hR97 := hR85.seta (b := 50) (j := ((4 * t) + (S81.a 51 t.toNat)).toNat) (z := f)
            refine yT_gen (fun S93 hS95 => ?_)
            rw [hS95] at hI94 hF96 hR97 
            refine r_load (i := 79) (u := 0) (w := 2) rfl rfl rfl ?_
            refine r_getf (i := 80) (v := 9) (w := 11) (x := (2, 51)) rfl ly43 rfl rfl fun _ => ?_
            refine r_load (i := 81) (u := 1) (w := 0) rfl rfl rfl ?_
            refine r_dup2 (i := 82) rfl rfl rfl ?_
            refine a_int (i := 83) rfl ly51 rfl (by omega) (by omega) fun h99 => ?_
            have h100 := hI94.a ta51 t.toNat
            have h101 : S93.a 51 t.toNat = S81.a 51 t.toNat := by rw [← hS95]; rfl
            have h102 : S81.a 51 t.toNat = S.a 51 t.toNat := by rw [← hS83]; rfl
            refine r_const (i := 84) (u := 1) (z := 1) rfl rfl ?_
            refine r_iadd (i := 85) rfl ?_
            refine s_int (i := 86) rfl ly51 rfl (by omega) (by omega) ⟨by omega, by omega⟩ ?_
            have hI104 := hI94.seta (b := 51) (j := t.toNat) (z := (S93.a 51 t.toNat) + 1) ta51 rfl (by omega) (by omega)
            have hF106 := hF96.seta (b := 51) (j := t.toNat) (z := (S93.a 51 t.toNat) + 1) rfl
            have hR107 := hR97.seta (b := 51) (j := t.toNat) (z := (S93.a 51 t.toNat) + 1)
            refine yT_gen (fun S103 hS105 => ?_)
            rw [hS105] at hI104 hF106 hR107 
            have h108 := hI104.f tf43_0
            have h109 : S103.f 43 0 = S93.f 43 0 := by rw [← hS105]; rfl
            have h110 : S93.f 43 0 = S81.f 43 0 := by rw [← hS95]; rfl
            have h111 : S81.f 43 0 = 1 := by rw [← hS83]; exact ysf_eq
            exact r_ret0 (i := 87) rfl ⟨rfl, (by first | (exfalso; omega) | exact fun hf9 => Or.inl ⟨by omega, imP_end ((q_2 hf9).1 (by omega)) (by have w8 := (q_1 t.toNat).1; omega), by subst hS83 hS95 hS105; exact mIm_of q_1⟩), hI104, hF106, hR107⟩
          · have h112 := hI82.f tf43_0
            have h113 : S81.f 43 0 = 1 := by rw [← hS83]; exact ysf_eq
            exact r_ret0 (i := 66) rfl ⟨rfl, (by first | (exfalso; omega) | exact fun hf9 => Or.inr ⟨by omega, (q_2 hf9).2 (by omega), by subst hS83; exact q_1⟩), hI82, hF84, hR85⟩
        · refine r_const (i := 60) (u := 0) (z := 0) rfl rfl ?_
          refine r_goto (i := 61) (v := 63) rfl ?_
          refine r_putI (i := 63) (v := 0) (w := 11) rfl ly43 rfl ⟨by omega, by omega⟩ ?_
          have hI115 := hI.setf (b := 43) (w := 0) (z := 0) tf43_0 rfl (by omega) (by omega)
          have hF117 := hF.setf (b := 43) (w := 0) (z := 0) rfl
          have hR118 := hR.setf (b := 43) (w := 0) (z := 0)
          refine yT_gen (fun S114 hS116 => ?_)
          rw [hS116] at hI115 hF117 hR118 
          refine r_load (i := 64) (u := 3) (w := 0) rfl rfl rfl ?_
          refine z_ne (i := 65) (v := 67) rfl ⟨by omega, by omega⟩ (fun h119 => ?_) (fun h120 => ?_)
          · refine r_load (i := 67) (u := 0) (w := 2) rfl rfl rfl ?_
            refine r_getf (i := 68) (v := 8) (w := 11) (x := (2, 50)) rfl ly43 rfl rfl fun _ => ?_
            refine r_const (i := 69) (u := 4) (z := 4) rfl rfl ?_
            refine r_load (i := 70) (u := 1) (w := 0) rfl rfl rfl ?_
            refine r_imul (i := 71) rfl ?_
            refine r_load (i := 72) (u := 0) (w := 2) rfl rfl rfl ?_
            refine r_getf (i := 73) (v := 9) (w := 11) (x := (2, 51)) rfl ly43 rfl rfl fun _ => ?_
            refine r_load (i := 74) (u := 1) (w := 0) rfl rfl rfl ?_
            refine a_int (i := 75) rfl ly51 rfl (by omega) (by omega) fun h123 => ?_
            have h124 := hI115.a ta51 t.toNat
            have h125 : S114.a 51 t.toNat = S.a 51 t.toNat := by rw [← hS116]; rfl
            refine r_iadd (i := 76) rfl ?_
            refine r_load (i := 77) (u := 2) (w := 0) rfl rfl rfl ?_
            refine s_int (i := 78) rfl ly50 rfl (by omega) (by omega) ⟨by omega, by omega⟩ ?_
            have hI127 := hI115.seta (b := 50) (j := ((4 * t) + (S114.a 51 t.toNat)).toNat) (z := f) ta50 rfl (by omega) (by omega)
            have hF129 := hF117.seta (b := 50) (j := ((4 * t) + (S114.a 51 t.toNat)).toNat) (z := f) rfl
            have hR130 := hR118.seta (b := 50) (j := ((4 * t) + (S114.a 51 t.toNat)).toNat) (z := f)
            refine yT_gen (fun S126 hS128 => ?_)
            rw [hS128] at hI127 hF129 hR130 
            refine r_load (i := 79) (u := 0) (w := 2) rfl rfl rfl ?_
            refine r_getf (i := 80) (v := 9) (w := 11) (x := (2, 51)) rfl ly43 rfl rfl fun _ => ?_
            refine r_load (i := 81) (u := 1) (w := 0) rfl rfl rfl ?_
            refine r_dup2 (i := 82) rfl rfl rfl ?_
            refine a_int (i := 83) rfl ly51 rfl (by omega) (by omega) fun h132 => ?_
            have h133 := hI127.a ta51 t.toNat
            have h134 : S126.a 51 t.toNat = S114.a 51 t.toNat := by rw [← hS128]; rfl
            have h135 : S114.a 51 t.toNat = S.a 51 t.toNat := by rw [← hS116]; rfl
            refine r_const (i := 84) (u := 1) (z := 1) rfl rfl ?_
            refine r_iadd (i := 85) rfl ?_
            refine s_int (i := 86) rfl ly51 rfl (by omega) (by omega) ⟨by omega, by omega⟩ ?_
            have hI137 := hI127.seta (b := 51) (j := t.toNat) (z := (S126.a 51 t.toNat) + 1) ta51 rfl (by omega) (by omega)
            have hF139 := hF129.seta (b := 51) (j := t.toNat) (z := (S126.a 51 t.toNat) + 1) rfl
            have hR140 := hR130.seta (b := 51) (j := t.toNat) (z := (S126.a 51 t.toNat) + 1)
            refine yT_gen (fun S136 hS138 => ?_)
            rw [hS138] at hI137 hF139 hR140 
            have h141 := hI137.f tf43_0
            have h142 : S136.f 43 0 = S126.f 43 0 := by rw [← hS138]; rfl
            have h143 : S126.f 43 0 = S114.f 43 0 := by rw [← hS128]; rfl
            have h144 : S114.f 43 0 = 0 := by rw [← hS116]; exact ysf_eq
            exact r_ret0 (i := 87) rfl ⟨rfl, (by first | (exfalso; omega) | exact fun hf9 => Or.inl ⟨by omega, imP_end ((q_2 hf9).1 (by omega)) (by have w8 := (q_1 t.toNat).1; omega), by subst hS116 hS128 hS138; exact mIm_of q_1⟩), hI137, hF139, hR140⟩
          · have h145 := hI115.f tf43_0
            have h146 : S114.f 43 0 = 0 := by rw [← hS116]; exact ysf_eq
            exact r_ret0 (i := 66) rfl ⟨rfl, (by first | (exfalso; omega) | exact fun hf9 => Or.inr ⟨by omega, (q_2 hf9).2 (by omega), by subst hS116; exact q_1⟩), hI115, hF117, hR118⟩
      · refine r_load (i := 41) (u := 0) (w := 2) rfl rfl rfl ?_
        refine r_getf (i := 42) (v := 8) (w := 11) (x := (2, 50)) rfl ly43 rfl rfl fun _ => ?_
        refine r_const (i := 43) (u := 4) (z := 4) rfl rfl ?_
        refine r_load (i := 44) (u := 1) (w := 0) rfl rfl rfl ?_
        refine r_imul (i := 45) rfl ?_
        refine r_load (i := 46) (u := 4) (w := 0) rfl rfl rfl ?_
        refine r_iadd (i := 47) rfl ?_
        refine a_int (i := 48) rfl ly50 rfl (by omega) (by omega) fun h148 => ?_
        have h149 := hI.a ta50 ((4 * t) + j).toNat
        refine r_load (i := 49) (u := 2) (w := 0) rfl rfl rfl ?_
        refine c_eq (i := 50) (v := 53) rfl ⟨by omega, by omega⟩ ⟨by omega, by omega⟩ (fun h150 => ?_) (fun h151 => ?_)
        · refine r_const (i := 53) (u := 0) (z := 0) rfl rfl ?_
          refine r_store (i := 54) (u := 3) (w := 0) (L1 := [some ((2, 43)), some (vi t), some (vi f), some (vi 0), some (vi j)]) rfl rfl rfl rfl ?_
          refine r_iinc (i := 55) (u := 1) (v := 4) (s := 1) (L1 := [some ((2, 43)), some (vi t), some (vi f), some (vi 0), some (vi (j + 1))]) rfl rfl rfl rfl rfl ?_
          refine r_goto (i := 56) (v := 33) rfl ?_
          have h152 := hI.a ta51 t.toNat
          exact ih S hI hF hR 0 (j + 1) ⟨by omega, by omega⟩ ⟨by omega, by omega⟩ (by omega) (by exact q_1) (by first | exact fun hf9 => ⟨fun _ => imP_s ((q_2 hf9).1 (by omega)) (by have w9 := (q_1 (4 * t + j).toNat).2; have w8 := (q_1 t.toNat).1; omega), fun h9 => absurd h9 (by omega)⟩ | exact fun hf9 => ⟨fun h9 => absurd h9 (by omega), fun _ hc => hc.2.2.2.2.2 j (by omega) (by have w9 := (q_1 (4 * t + j).toNat).2; have w8 := (q_1 t.toNat).1; omega) (by have w9 := (q_1 (4 * t + j).toNat).2; have w8 := (q_1 t.toNat).1; omega)⟩) (by omega) (by omega)
        · refine r_const (i := 51) (u := 1) (z := 1) rfl rfl ?_
          refine r_goto (i := 52) (v := 54) rfl ?_
          refine r_store (i := 54) (u := 3) (w := 0) (L1 := [some ((2, 43)), some (vi t), some (vi f), some (vi 1), some (vi j)]) rfl rfl rfl rfl ?_
          refine r_iinc (i := 55) (u := 1) (v := 4) (s := 1) (L1 := [some ((2, 43)), some (vi t), some (vi f), some (vi 1), some (vi (j + 1))]) rfl rfl rfl rfl rfl ?_
          refine r_goto (i := 56) (v := 33) rfl ?_
          have h153 := hI.a ta51 t.toNat
          exact ih S hI hF hR 1 (j + 1) ⟨by omega, by omega⟩ ⟨by omega, by omega⟩ (by omega) (by exact q_1) (by first | exact fun hf9 => ⟨fun _ => imP_s ((q_2 hf9).1 (by omega)) (by have w9 := (q_1 (4 * t + j).toNat).2; have w8 := (q_1 t.toNat).1; omega), fun h9 => absurd h9 (by omega)⟩ | exact fun hf9 => ⟨fun h9 => absurd h9 (by omega), fun _ hc => hc.2.2.2.2.2 j (by omega) (by have w9 := (q_1 (4 * t + j).toNat).2; have w8 := (q_1 t.toNat).1; omega) (by have w9 := (q_1 (4 * t + j).toNat).2; have w8 := (q_1 t.toNat).1; omega)⟩) (by omega) (by omega)
/-- ProxyForgeModel.implement -/
theorem sp206 {G : xk} {S : yS} {d : Nat} (hI : yI S) {t : Int} (h_t : -2147483648 ≤ t ∧ t ≤ 2147483647) {f : Int} (h_f : -2147483648 ≤ f ∧ f ≤ 2147483647) (hd : 1 ≤ d) : yT xPr G LY xC206 0 [some ((2, 43)), some (vi t), some (vi f)] [] S d (fun r S' => r = (0, (0, 0)) ∧ mImQ S S' t f ∧ yI S' ∧ yFr [(43, 0)] [50, 51, 68] S S' ∧ yRm [] S S') := by
  refine yT_pad 2 ?_
  show yT xPr G LY xC206 0 [some ((2, 43)), some (vi t), some (vi f), none, none] [] S d _
  obtain ⟨d, rfl⟩ : ∃ q, d = q + 1 := ⟨d - 1, by omega⟩
  have hF : yFr [(43, 0)] [50, 51, 68] S S := yFr.refl S
  have hR : yRm [] S S := yRm.refl S
  refine r_load (i := 0) (u := 1) (w := 0) rfl rfl rfl ?_
  refine r_const (i := 1) (u := 3) (z := 3) rfl rfl ?_
  refine c_le (i := 2) (v := 29) rfl ⟨by omega, by omega⟩ ⟨by omega, by omega⟩ (fun h1 => ?_) (fun h2 => ?_)
  · refine r_const (i := 29) (u := 0) (z := 0) rfl rfl ?_
    refine r_store (i := 30) (u := 3) (w := 0) (L1 := [some ((2, 43)), some (vi t), some (vi f), some (vi 0), none]) rfl rfl rfl rfl ?_
    refine r_const (i := 31) (u := 0) (z := 0) rfl rfl ?_
    refine r_store (i := 32) (u := 4) (w := 0) (L1 := [some ((2, 43)), some (vi t), some (vi f), some (vi 0), some (vi 0)]) rfl rfl rfl rfl ?_
    have h3 := hI.f tf43_1
    have h4 := hI.a ta51 t.toNat
    exact lp206_33 h_t h_f  hd _ S hI hF hR 0 0 ⟨by omega, by omega⟩ ⟨by omega, by omega⟩ (by omega) (by exact fun j9 => ⟨rfl, rfl⟩) (by exact fun hf9 => ⟨fun h9 => absurd h9 (by omega), fun _ hc => by obtain ⟨c1, c2, c3, c4, -⟩ := hc; omega⟩) (by omega) (Int.lt_succ_toNat _)
  · refine r_load (i := 3) (u := 1) (w := 0) rfl rfl rfl ?_
    refine r_load (i := 4) (u := 0) (w := 2) rfl rfl rfl ?_
    have h5 := hI.f tf43_1
    refine r_getf (i := 5) (v := 1) (w := 11) (x := vi (S.f 43 1)) rfl ly43 rfl rfl fun h6 => ?_
    have h6 : Rg (S.f 43 1) := h6
    refine c_ge (i := 6) (v := 29) rfl ⟨by omega, by omega⟩ ⟨by omega, by omega⟩ (fun h7 => ?_) (fun h8 => ?_)
    · refine r_const (i := 29) (u := 0) (z := 0) rfl rfl ?_
      refine r_store (i := 30) (u := 3) (w := 0) (L1 := [some ((2, 43)), some (vi t), some (vi f), some (vi 0), none]) rfl rfl rfl rfl ?_
      refine r_const (i := 31) (u := 0) (z := 0) rfl rfl ?_
      refine r_store (i := 32) (u := 4) (w := 0) (L1 := [some ((2, 43)), some (vi t), some (vi f), some (vi 0), some (vi 0)]) rfl rfl rfl rfl ?_
      have h9 := hI.a ta51 t.toNat
      exact lp206_33 h_t h_f  hd _ S hI hF hR 0 0 ⟨by omega, by omega⟩ ⟨by omega, by omega⟩ (by omega) (by exact fun j9 => ⟨rfl, rfl⟩) (by exact fun hf9 => ⟨fun h9 => absurd h9 (by omega), fun _ hc => by obtain ⟨c1, c2, c3, c4, -⟩ := hc; omega⟩) (by omega) (Int.lt_succ_toNat _)
    · refine r_load (i := 7) (u := 0) (w := 2) rfl rfl rfl ?_
      refine r_load (i := 8) (u := 2) (w := 0) rfl rfl rfl ?_
      refine r_call (i := 9) (u := 11) (v := 213) (w := 0) (b := 0) (na := 514) (C2 := xC213) (as := [(2, 43), vi f]) (s := []) rfl rfl rfl rfl rfl rfl rfl (sp213 (t := f) hI ⟨by omega, by omega⟩   (by omega)) (fun r10 S11 hq12 => ?_)
      obtain ⟨z13, rfl, h14, h15, h16, h17, rfl⟩ := hq12
      refine Or.inr (Or.inl ⟨rfl, ?_⟩)
      refine z_eq (i := 10) (v := 29) rfl ⟨by omega, by omega⟩ (fun h18 => ?_) (fun h19 => ?_)
      · refine r_const (i := 29) (u := 0) (z := 0) rfl rfl ?_
        refine r_store (i := 30) (u := 3) (w := 0) (L1 := [some ((2, 43)), some (vi t), some (vi f), some (vi 0), none]) rfl rfl rfl rfl ?_
        refine r_const (i := 31) (u := 0) (z := 0) rfl rfl ?_
        refine r_store (i := 32) (u := 4) (w := 0) (L1 := [some ((2, 43)), some (vi t), some (vi f), some (vi 0), some (vi 0)]) rfl rfl rfl rfl ?_
        have h20 := hI.a ta51 t.toNat
        exact lp206_33 h_t h_f  hd _ S hI hF hR 0 0 ⟨by omega, by omega⟩ ⟨by omega, by omega⟩ (by omega) (by exact fun j9 => ⟨rfl, rfl⟩) (by exact fun hf9 => ⟨fun h9 => absurd h9 (by omega), fun _ hc => by obtain ⟨c1, c2, c3, c4, -⟩ := hc; omega⟩) (by omega) (Int.lt_succ_toNat _)
      · refine r_load (i := 11) (u := 0) (w := 2) rfl rfl rfl ?_
        refine r_getf (i := 12) (v := 2) (w := 11) (x := (2, 44)) rfl ly43 rfl rfl fun _ => ?_
        refine r_load (i := 13) (u := 2) (w := 0) rfl rfl rfl ?_
        refine a_bool (i := 14) rfl ly44 rfl (by omega) (by omega) fun h22 => ?_
        refine z_eq (i := 15) (v := 29) rfl ⟨by omega, by omega⟩ (fun h23 => ?_) (fun h24 => ?_)
        · refine r_const (i := 29) (u := 0) (z := 0) rfl rfl ?_
          refine r_store (i := 30) (u := 3) (w := 0) (L1 := [some ((2, 43)), some (vi t), some (vi f), some (vi 0), none]) rfl rfl rfl rfl ?_
          refine r_const (i := 31) (u := 0) (z := 0) rfl rfl ?_
          refine r_store (i := 32) (u := 4) (w := 0) (L1 := [some ((2, 43)), some (vi t), some (vi f), some (vi 0), some (vi 0)]) rfl rfl rfl rfl ?_
          have h25 := hI.a ta51 t.toNat
          exact lp206_33 h_t h_f  hd _ S hI hF hR 0 0 ⟨by omega, by omega⟩ ⟨by omega, by omega⟩ (by omega) (by exact fun j9 => ⟨rfl, rfl⟩) (by exact fun hf9 => ⟨fun h9 => absurd h9 (by omega), fun _ hc => by obtain ⟨c1, c2, c3, c4, -⟩ := hc; omega⟩) (by omega) (Int.lt_succ_toNat _)
        · refine r_load (i := 16) (u := 0) (w := 2) rfl rfl rfl ?_
          refine r_getf (i := 17) (v := 9) (w := 11) (x := (2, 51)) rfl ly43 rfl rfl fun _ => ?_
          refine r_load (i := 18) (u := 1) (w := 0) rfl rfl rfl ?_
          refine a_int (i := 19) rfl ly51 rfl (by omega) (by omega) fun h27 => ?_
          have h28 := hI.a ta51 t.toNat
          refine r_const (i := 20) (u := 4) (z := 4) rfl rfl ?_
          refine c_ge (i := 21) (v := 29) rfl ⟨by omega, by omega⟩ ⟨by omega, by omega⟩ (fun h29 => ?_) (fun h30 => ?_)
          · refine r_const (i := 29) (u := 0) (z := 0) rfl rfl ?_
            refine r_store (i := 30) (u := 3) (w := 0) (L1 := [some ((2, 43)), some (vi t), some (vi f), some (vi 0), none]) rfl rfl rfl rfl ?_
            refine r_const (i := 31) (u := 0) (z := 0) rfl rfl ?_
            refine r_store (i := 32) (u := 4) (w := 0) (L1 := [some ((2, 43)), some (vi t), some (vi f), some (vi 0), some (vi 0)]) rfl rfl rfl rfl ?_
            have h31 := hI.a ta51 t.toNat
            exact lp206_33 h_t h_f  hd _ S hI hF hR 0 0 ⟨by omega, by omega⟩ ⟨by omega, by omega⟩ (by omega) (by exact fun j9 => ⟨rfl, rfl⟩) (by exact fun hf9 => ⟨fun h9 => absurd h9 (by omega), fun _ hc => by obtain ⟨c1, c2, c3, c4, -⟩ := hc; omega⟩) (by omega) (Int.lt_succ_toNat _)
          · refine r_load (i := 22) (u := 0) (w := 2) rfl rfl rfl ?_
            refine r_load (i := 23) (u := 2) (w := 0) rfl rfl rfl ?_
            refine r_load (i := 24) (u := 1) (w := 0) rfl rfl rfl ?_
            refine r_call (i := 25) (u := 11) (v := 262) (w := 0) (b := 0) (na := 1795) (C2 := xC262) (as := [(2, 43), vi f, vi t]) (s := []) rfl rfl rfl rfl rfl rfl rfl (sp262 (t := f) (o := t) hI ⟨by omega, by omega⟩ ⟨by omega, by omega⟩   (by omega)) (fun r32 S33 hq34 => ?_)
            obtain ⟨z35, rfl, h36, h37, um38, hI39, hF40, hR41⟩ := hq34
            have hF42 := hF.trans hF40 rfl rfl
            have hR43 := hR.trans hR41 rfl
            refine Or.inr (Or.inl ⟨rfl, ?_⟩)
            refine z_ne (i := 26) (v := 29) rfl ⟨by omega, by omega⟩ (fun h44 => ?_) (fun h45 => ?_)
            · refine r_const (i := 29) (u := 0) (z := 0) rfl rfl ?_
              refine r_store (i := 30) (u := 3) (w := 0) (L1 := [some ((2, 43)), some (vi t), some (vi f), some (vi 0), none]) rfl rfl rfl rfl ?_
              refine r_const (i := 31) (u := 0) (z := 0) rfl rfl ?_
              refine r_store (i := 32) (u := 4) (w := 0) (L1 := [some ((2, 43)), some (vi t), some (vi f), some (vi 0), some (vi 0)]) rfl rfl rfl rfl ?_
              have h46 := hI39.f tf43_1
              have h47 : S33.f 43 1 = S.f 43 1 := hF40.f rfl
              have h48 := hI39.a ta51 t.toNat
              have h49 : S33.a 51 t.toNat = S.a 51 t.toNat := hF40.a rfl _
              exact lp206_33 h_t h_f  hd _ S33 hI39 hF42 hR43 0 0 ⟨by omega, by omega⟩ ⟨by omega, by omega⟩ (by omega) (by exact fun j9 => ⟨hF40.a rfl j9, hF40.a rfl j9⟩) (by first | exact fun hf9 => ⟨fun _ => ⟨by omega, by omega, by omega, by omega, fun q9 => absurd ((um38 hf9 (by omega) (by omega) (by omega)).mpr q9) (by omega), nf_0⟩, fun h9 => absurd h9 (by omega)⟩ | exact fun hf9 => ⟨fun h9 => absurd h9 (by omega), fun _ hc => hc.2.2.2.2.1 ((um38 hf9 (by omega) (by omega) (by omega)).mp (by omega))⟩) (by omega) (Int.lt_succ_toNat _)
            · refine r_const (i := 27) (u := 1) (z := 1) rfl rfl ?_
              refine r_goto (i := 28) (v := 30) rfl ?_
              refine r_store (i := 30) (u := 3) (w := 0) (L1 := [some ((2, 43)), some (vi t), some (vi f), some (vi 1), none]) rfl rfl rfl rfl ?_
              refine r_const (i := 31) (u := 0) (z := 0) rfl rfl ?_
              refine r_store (i := 32) (u := 4) (w := 0) (L1 := [some ((2, 43)), some (vi t), some (vi f), some (vi 1), some (vi 0)]) rfl rfl rfl rfl ?_
              have h50 := hI39.f tf43_1
              have h51 : S33.f 43 1 = S.f 43 1 := hF40.f rfl
              have h52 := hI39.a ta51 t.toNat
              have h53 : S33.a 51 t.toNat = S.a 51 t.toNat := hF40.a rfl _
              exact lp206_33 h_t h_f  hd _ S33 hI39 hF42 hR43 1 0 ⟨by omega, by omega⟩ ⟨by omega, by omega⟩ (by omega) (by exact fun j9 => ⟨hF40.a rfl j9, hF40.a rfl j9⟩) (by first | exact fun hf9 => ⟨fun _ => ⟨by omega, by omega, by omega, by omega, fun q9 => absurd ((um38 hf9 (by omega) (by omega) (by omega)).mpr q9) (by omega), nf_0⟩, fun h9 => absurd h9 (by omega)⟩ | exact fun hf9 => ⟨fun h9 => absurd h9 (by omega), fun _ hc => hc.2.2.2.2.1 ((um38 hf9 (by omega) (by omega) (by omega)).mp (by omega))⟩) (by omega) (Int.lt_succ_toNat _)
theorem lp255_28 {G : xk} {d : Nat} {S0 : yS} {m : Int} (h_m : -2147483648 ≤ m ∧ m ≤ 2147483647) {t : Int} (h_t : -2147483648 ≤ t ∧ t ≤ 2147483647) (hd : 1 ≤ d + 1) : ∀ (n : Nat), ∀ (S : yS) (hI : yI S) (hF : yFr [(43, 0)] [57, 58, 68] S0 S) (hR : yRm [] S0 S) (g0 j : Int) (h_g0 : 0 ≤ g0 ∧ g0 ≤ 1) (h_j : 0 ≤ j ∧ j ≤ 3) (q_0 : g0 = 1 → 3 < m ∧ m < S.f 43 10 ∧ 0 ≤ t ∧ t < S.f 43 1 ∧ S.a 58 m.toNat ≤ 2) (q_1 : sTh S0 S) (q_2 : FM S0 → (g0 = 1 → thP S0 m t j) ∧ (g0 = 0 → ¬ thM S0 m t)) (hn : 3 - j < (n : Nat)), yT xPr G LY xC255 28 [some ((2, 43)), some (vi m), some (vi t), some (vi g0), some (vi j)] [] S (d + 1) (fun r S' => r = (0, (0, 0)) ∧ mThQ S0 S' m t ∧ yI S' ∧ yFr [(43, 0)] [57, 58, 68] S0 S' ∧ yRm [] S0 S') := by
  intro n
  induction n with
  | zero => intro S hI hF hR g0 j h_g0 h_j q_0 q_1 q_2 hn; exact absurd hn (by omega)
  | succ n ih =>
    intro S hI hF hR g0 j h_g0 h_j q_0 q_1 q_2 hn
    have h1 := hI.f tf43_10
    have h2 : S.f 43 10 = S0.f 43 10 := hF.f rfl
    have h3 := hI.f tf43_1
    have h4 : S.f 43 1 = S0.f 43 1 := hF.f rfl
    have h5 := hI.a ta58 m.toNat
    refine r_load (i := 28) (u := 3) (w := 0) rfl rfl rfl ?_
    refine z_eq (i := 29) (v := 52) rfl ⟨by omega, by omega⟩ (fun h6 => ?_) (fun h7 => ?_)
    · refine r_load (i := 52) (u := 0) (w := 2) rfl rfl rfl ?_
      refine r_load (i := 53) (u := 3) (w := 0) rfl rfl rfl ?_
      refine z_eq (i := 54) (v := 57) rfl ⟨by omega, by omega⟩ (fun h8 => ?_) (fun h9 => ?_)
      · refine r_const (i := 57) (u := 1) (z := 1) rfl rfl ?_
        refine r_putI (i := 58) (v := 0) (w := 11) rfl ly43 rfl ⟨by omega, by omega⟩ ?_
        have hI11 := hI.setf (b := 43) (w := 0) (z := 1) tf43_0 rfl (by omega) (by omega)
        have hF13 := hF.setf (b := 43) (w := 0) (z := 1) rfl
        have hR14 := hR.setf (b := 43) (w := 0) (z := 1)
        refine yT_gen (fun S10 hS12 => ?_)
        rw [hS12] at hI11 hF13 hR14 
        refine r_load (i := 59) (u := 3) (w := 0) rfl rfl rfl ?_
        refine z_ne (i := 60) (v := 62) rfl ⟨by omega, by omega⟩ (fun h15 => ?_) (fun h16 => ?_)
        · refine r_load (i := 62) (u := 0) (w := 2) rfl rfl rfl ?_
          refine r_getf (i := 63) (v := 16) (w := 11) (x := (2, 57)) rfl ly43 rfl rfl fun _ => ?_
          refine r_const (i := 64) (u := 3) (z := 3) rfl rfl ?_
          refine r_load (i := 65) (u := 1) (w := 0) rfl rfl rfl ?_
          refine r_imul (i := 66) rfl ?_
          refine r_load (i := 67) (u := 0) (w := 2) rfl rfl rfl ?_
          refine r_getf (i := 68) (v := 17) (w := 11) (x := (2, 58)) rfl ly43 rfl rfl fun _ => ?_
          refine r_load (i := 69) (u := 1) (w := 0) rfl rfl rfl ?_
          refine a_int (i := 70) rfl ly58 rfl (by omega) (by omega) fun h19 => ?_
          have h20 := hI11.a ta58 m.toNat
          have h21 : S10.a 58 m.toNat = S.a 58 m.toNat := by rw [← hS12]; rfl
          refine r_iadd (i := 71) rfl ?_
          refine r_load (i := 72) (u := 2) (w := 0) rfl rfl rfl ?_
          refine s_int (i := 73) rfl ly57 rfl (by omega) (by omega) ⟨by omega, by omega⟩ ?_
          have hI23 := hI11.seta (b := 57) (j := ((3 * m) + (S10.a 58 m.toNat)).toNat) (z := t) ta57 rfl (by omega) (by omega)
          have hF25 := hF13.seta (b := 57) (j := ((3 * m) + (S10.a 58 m.toNat)).toNat) (z := t) rfl
          have hR26 := hR14.seta (b := 57) (j := ((3 * m) + (S10.a 58 m.toNat)).toNat) (z := t)
          refine yT_gen (fun S22 hS24 => ?_)
          rw [hS24] at hI23 hF25 hR26 
          refine r_load (i := 74) (u := 0) (w := 2) rfl rfl rfl ?_
          refine r_getf (i := 75) (v := 17) (w := 11) (x := (2, 58)) rfl ly43 rfl rfl fun _ => ?_
          refine r_load (i := 76) (u := 1) (w := 0) rfl rfl rfl ?_
          refine r_dup2 (i := 77) rfl rfl rfl ?_
          refine a_int (i := 78) rfl ly58 rfl (by omega) (by omega) fun h28 => ?_
          have h29 := hI23.a ta58 m.toNat
          have h30 : S22.a 58 m.toNat = S10.a 58 m.toNat := by rw [← hS24]; rfl
          have h31 : S10.a 58 m.toNat = S.a 58 m.toNat := by rw [← hS12]; rfl
          refine r_const (i := 79) (u := 1) (z := 1) rfl rfl ?_
          refine r_iadd (i := 80) rfl ?_
          refine s_int (i := 81) rfl ly58 rfl (by omega) (by omega) ⟨by omega, by omega⟩ ?_
          have hI33 := hI23.seta (b := 58) (j := m.toNat) (z := (S22.a 58 m.toNat) + 1) ta58 rfl (by omega) (by omega)
          have hF35 := hF25.seta (b := 58) (j := m.toNat) (z := (S22.a 58 m.toNat) + 1) rfl
          have hR36 := hR26.seta (b := 58) (j := m.toNat) (z := (S22.a 58 m.toNat) + 1)
          refine yT_gen (fun S32 hS34 => ?_)
          rw [hS34] at hI33 hF35 hR36 
          have h37 := hI33.f tf43_0
          have h38 : S32.f 43 0 = S22.f 43 0 := by rw [← hS34]; rfl
          have h39 : S22.f 43 0 = S10.f 43 0 := by rw [← hS24]; rfl
          have h40 : S10.f 43 0 = 1 := by rw [← hS12]; exact ysf_eq
          exact r_ret0 (i := 82) rfl ⟨rfl, (by first | (exfalso; omega) | exact fun hf9 => Or.inl ⟨by omega, thP_end ((q_2 hf9).1 (by omega)) (by have w8 := (q_1 m.toNat).1; omega), by subst hS12 hS24 hS34; exact mTh_of q_1⟩), hI33, hF35, hR36⟩
        · have h41 := hI11.f tf43_0
          have h42 : S10.f 43 0 = 1 := by rw [← hS12]; exact ysf_eq
          exact r_ret0 (i := 61) rfl ⟨rfl, (by first | (exfalso; omega) | exact fun hf9 => Or.inr ⟨by omega, (q_2 hf9).2 (by omega), by subst hS12; exact q_1⟩), hI11, hF13, hR14⟩
      · refine r_const (i := 55) (u := 0) (z := 0) rfl rfl ?_
        refine r_goto (i := 56) (v := 58) rfl ?_
        refine r_putI (i := 58) (v := 0) (w := 11) rfl ly43 rfl ⟨by omega, by omega⟩ ?_
        have hI44 := hI.setf (b := 43) (w := 0) (z := 0) tf43_0 rfl (by omega) (by omega)
        have hF46 := hF.setf (b := 43) (w := 0) (z := 0) rfl
        have hR47 := hR.setf (b := 43) (w := 0) (z := 0)
        refine yT_gen (fun S43 hS45 => ?_)
        rw [hS45] at hI44 hF46 hR47 
        refine r_load (i := 59) (u := 3) (w := 0) rfl rfl rfl ?_
        refine z_ne (i := 60) (v := 62) rfl ⟨by omega, by omega⟩ (fun h48 => ?_) (fun h49 => ?_)
        · refine r_load (i := 62) (u := 0) (w := 2) rfl rfl rfl ?_
          refine r_getf (i := 63) (v := 16) (w := 11) (x := (2, 57)) rfl ly43 rfl rfl fun _ => ?_
          refine r_const (i := 64) (u := 3) (z := 3) rfl rfl ?_
          refine r_load (i := 65) (u := 1) (w := 0) rfl rfl rfl ?_
          refine r_imul (i := 66) rfl ?_
          refine r_load (i := 67) (u := 0) (w := 2) rfl rfl rfl ?_
          refine r_getf (i := 68) (v := 17) (w := 11) (x := (2, 58)) rfl ly43 rfl rfl fun _ => ?_
          refine r_load (i := 69) (u := 1) (w := 0) rfl rfl rfl ?_
          refine a_int (i := 70) rfl ly58 rfl (by omega) (by omega) fun h52 => ?_
          have h53 := hI44.a ta58 m.toNat
          have h54 : S43.a 58 m.toNat = S.a 58 m.toNat := by rw [← hS45]; rfl
          refine r_iadd (i := 71) rfl ?_
          refine r_load (i := 72) (u := 2) (w := 0) rfl rfl rfl ?_
          refine s_int (i := 73) rfl ly57 rfl (by omega) (by omega) ⟨by omega, by omega⟩ ?_
          have hI56 := hI44.seta (b := 57) (j := ((3 * m) + (S43.a 58 m.toNat)).toNat) (z := t) ta57 rfl (by omega) (by omega)
          have hF58 := hF46.seta (b := 57) (j := ((3 * m) + (S43.a 58 m.toNat)).toNat) (z := t) rfl
          have hR59 := hR47.seta (b := 57) (j := ((3 * m) + (S43.a 58 m.toNat)).toNat) (z := t)
          refine yT_gen (fun S55 hS57 => ?_)
          rw [hS57] at hI56 hF58 hR59 
          refine r_load (i := 74) (u := 0) (w := 2) rfl rfl rfl ?_
          refine r_getf (i := 75) (v := 17) (w := 11) (x := (2, 58)) rfl ly43 rfl rfl fun _ => ?_
          refine r_load (i := 76) (u := 1) (w := 0) rfl rfl rfl ?_
          refine r_dup2 (i := 77) rfl rfl rfl ?_
          refine a_int (i := 78) rfl ly58 rfl (by omega) (by omega) fun h61 => ?_
          have h62 := hI56.a ta58 m.toNat
          have h63 : S55.a 58 m.toNat = S43.a 58 m.toNat := by rw [← hS57]; rfl
          have h64 : S43.a 58 m.toNat = S.a 58 m.toNat := by rw [← hS45]; rfl
          refine r_const (i := 79) (u := 1) (z := 1) rfl rfl ?_
          refine r_iadd (i := 80) rfl ?_
          refine s_int (i := 81) rfl ly58 rfl (by omega) (by omega) ⟨by omega, by omega⟩ ?_
          have hI66 := hI56.seta (b := 58) (j := m.toNat) (z := (S55.a 58 m.toNat) + 1) ta58 rfl (by omega) (by omega)
          have hF68 := hF58.seta (b := 58) (j := m.toNat) (z := (S55.a 58 m.toNat) + 1) rfl
          have hR69 := hR59.seta (b := 58) (j := m.toNat) (z := (S55.a 58 m.toNat) + 1)
          refine yT_gen (fun S65 hS67 => ?_)
          rw [hS67] at hI66 hF68 hR69 
          have h70 := hI66.f tf43_0
          have h71 : S65.f 43 0 = S55.f 43 0 := by rw [← hS67]; rfl
          have h72 : S55.f 43 0 = S43.f 43 0 := by rw [← hS57]; rfl
          have h73 : S43.f 43 0 = 0 := by rw [← hS45]; exact ysf_eq
          exact r_ret0 (i := 82) rfl ⟨rfl, (by first | (exfalso; omega) | exact fun hf9 => Or.inl ⟨by omega, thP_end ((q_2 hf9).1 (by omega)) (by have w8 := (q_1 m.toNat).1; omega), by subst hS45 hS57 hS67; exact mTh_of q_1⟩), hI66, hF68, hR69⟩
        · have h74 := hI44.f tf43_0
          have h75 : S43.f 43 0 = 0 := by rw [← hS45]; exact ysf_eq
          exact r_ret0 (i := 61) rfl ⟨rfl, (by first | (exfalso; omega) | exact fun hf9 => Or.inr ⟨by omega, (q_2 hf9).2 (by omega), by subst hS45; exact q_1⟩), hI44, hF46, hR47⟩
    · refine r_load (i := 30) (u := 4) (w := 0) rfl rfl rfl ?_
      refine r_load (i := 31) (u := 0) (w := 2) rfl rfl rfl ?_
      refine r_getf (i := 32) (v := 17) (w := 11) (x := (2, 58)) rfl ly43 rfl rfl fun _ => ?_
      refine r_load (i := 33) (u := 1) (w := 0) rfl rfl rfl ?_
      refine a_int (i := 34) rfl ly58 rfl (by omega) (by omega) fun h77 => ?_
      have h78 := hI.a ta58 m.toNat
      refine c_ge (i := 35) (v := 52) rfl ⟨by omega, by omega⟩ ⟨by omega, by omega⟩ (fun h79 => ?_) (fun h80 => ?_)
      · refine r_load (i := 52) (u := 0) (w := 2) rfl rfl rfl ?_
        refine r_load (i := 53) (u := 3) (w := 0) rfl rfl rfl ?_
        refine z_eq (i := 54) (v := 57) rfl ⟨by omega, by omega⟩ (fun h81 => ?_) (fun h82 => ?_)
        · refine r_const (i := 57) (u := 1) (z := 1) rfl rfl ?_
          refine r_putI (i := 58) (v := 0) (w := 11) rfl ly43 rfl ⟨by omega, by omega⟩ ?_
          have hI84 := hI.setf (b := 43) (w := 0) (z := 1) tf43_0 rfl (by omega) (by omega)
          have hF86 := hF.setf (b := 43) (w := 0) (z := 1) rfl
          have hR87 := hR.setf (b := 43) (w := 0) (z := 1)
          refine yT_gen (fun S83 hS85 => ?_)
          rw [hS85] at hI84 hF86 hR87 
          refine r_load (i := 59) (u := 3) (w := 0) rfl rfl rfl ?_
          refine z_ne (i := 60) (v := 62) rfl ⟨by omega, by omega⟩ (fun h88 => ?_) (fun h89 => ?_)
          · refine r_load (i := 62) (u := 0) (w := 2) rfl rfl rfl ?_
            refine r_getf (i := 63) (v := 16) (w := 11) (x := (2, 57)) rfl ly43 rfl rfl fun _ => ?_
            refine r_const (i := 64) (u := 3) (z := 3) rfl rfl ?_
            refine r_load (i := 65) (u := 1) (w := 0) rfl rfl rfl ?_
            refine r_imul (i := 66) rfl ?_
            refine r_load (i := 67) (u := 0) (w := 2) rfl rfl rfl ?_
            refine r_getf (i := 68) (v := 17) (w := 11) (x := (2, 58)) rfl ly43 rfl rfl fun _ => ?_
            refine r_load (i := 69) (u := 1) (w := 0) rfl rfl rfl ?_
            refine a_int (i := 70) rfl ly58 rfl (by omega) (by omega) fun h92 => ?_
            have h93 := hI84.a ta58 m.toNat
            have h94 : S83.a 58 m.toNat = S.a 58 m.toNat := by rw [← hS85]; rfl
            refine r_iadd (i := 71) rfl ?_
            refine r_load (i := 72) (u := 2) (w := 0) rfl rfl rfl ?_
            refine s_int (i := 73) rfl ly57 rfl (by omega) (by omega) ⟨by omega, by omega⟩ ?_
            have hI96 := hI84.seta (b := 57) (j := ((3 * m) + (S83.a 58 m.toNat)).toNat) (z := t) ta57 rfl (by omega) (by omega)
            have hF98 := hF86.seta (b := 57) (j := ((3 * m) + (S83.a 58 m.toNat)).toNat) (z := t) rfl
            have hR99 := hR87.seta (b := 57) (j := ((3 * m) + (S83.a 58 m.toNat)).toNat) (z := t)
            refine yT_gen (fun S95 hS97 => ?_)
            rw [hS97] at hI96 hF98 hR99 
            refine r_load (i := 74) (u := 0) (w := 2) rfl rfl rfl ?_
            refine r_getf (i := 75) (v := 17) (w := 11) (x := (2, 58)) rfl ly43 rfl rfl fun _ => ?_
            refine r_load (i := 76) (u := 1) (w := 0) rfl rfl rfl ?_
            refine r_dup2 (i := 77) rfl rfl rfl ?_
            refine a_int (i := 78) rfl ly58 rfl (by omega) (by omega) fun h101 => ?_
            have h102 := hI96.a ta58 m.toNat
            have h103 : S95.a 58 m.toNat = S83.a 58 m.toNat := by rw [← hS97]; rfl
            have h104 : S83.a 58 m.toNat = S.a 58 m.toNat := by rw [← hS85]; rfl
            refine r_const (i := 79) (u := 1) (z := 1) rfl rfl ?_
            refine r_iadd (i := 80) rfl ?_
            refine s_int (i := 81) rfl ly58 rfl (by omega) (by omega) ⟨by omega, by omega⟩ ?_
            have hI106 := hI96.seta (b := 58) (j := m.toNat) (z := (S95.a 58 m.toNat) + 1) ta58 rfl (by omega) (by omega)
            have hF108 := hF98.seta (b := 58) (j := m.toNat) (z := (S95.a 58 m.toNat) + 1) rfl
            have hR109 := hR99.seta (b := 58) (j := m.toNat) (z := (S95.a 58 m.toNat) + 1)
            refine yT_gen (fun S105 hS107 => ?_)
            rw [hS107] at hI106 hF108 hR109 
            have h110 := hI106.f tf43_0
            have h111 : S105.f 43 0 = S95.f 43 0 := by rw [← hS107]; rfl
            have h112 : S95.f 43 0 = S83.f 43 0 := by rw [← hS97]; rfl
            have h113 : S83.f 43 0 = 1 := by rw [← hS85]; exact ysf_eq
            exact r_ret0 (i := 82) rfl ⟨rfl, (by first | (exfalso; omega) | exact fun hf9 => Or.inl ⟨by omega, thP_end ((q_2 hf9).1 (by omega)) (by have w8 := (q_1 m.toNat).1; omega), by subst hS85 hS97 hS107; exact mTh_of q_1⟩), hI106, hF108, hR109⟩
          · have h114 := hI84.f tf43_0
            have h115 : S83.f 43 0 = 1 := by rw [← hS85]; exact ysf_eq
            exact r_ret0 (i := 61) rfl ⟨rfl, (by first | (exfalso; omega) | exact fun hf9 => Or.inr ⟨by omega, (q_2 hf9).2 (by omega), by subst hS85; exact q_1⟩), hI84, hF86, hR87⟩
        · refine r_const (i := 55) (u := 0) (z := 0) rfl rfl ?_
          refine r_goto (i := 56) (v := 58) rfl ?_
          refine r_putI (i := 58) (v := 0) (w := 11) rfl ly43 rfl ⟨by omega, by omega⟩ ?_
          have hI117 := hI.setf (b := 43) (w := 0) (z := 0) tf43_0 rfl (by omega) (by omega)
          have hF119 := hF.setf (b := 43) (w := 0) (z := 0) rfl
          have hR120 := hR.setf (b := 43) (w := 0) (z := 0)
          refine yT_gen (fun S116 hS118 => ?_)
          rw [hS118] at hI117 hF119 hR120 
          refine r_load (i := 59) (u := 3) (w := 0) rfl rfl rfl ?_
          refine z_ne (i := 60) (v := 62) rfl ⟨by omega, by omega⟩ (fun h121 => ?_) (fun h122 => ?_)
          · refine r_load (i := 62) (u := 0) (w := 2) rfl rfl rfl ?_
            refine r_getf (i := 63) (v := 16) (w := 11) (x := (2, 57)) rfl ly43 rfl rfl fun _ => ?_
            refine r_const (i := 64) (u := 3) (z := 3) rfl rfl ?_
            refine r_load (i := 65) (u := 1) (w := 0) rfl rfl rfl ?_
            refine r_imul (i := 66) rfl ?_
            refine r_load (i := 67) (u := 0) (w := 2) rfl rfl rfl ?_
            refine r_getf (i := 68) (v := 17) (w := 11) (x := (2, 58)) rfl ly43 rfl rfl fun _ => ?_
            refine r_load (i := 69) (u := 1) (w := 0) rfl rfl rfl ?_
            refine a_int (i := 70) rfl ly58 rfl (by omega) (by omega) fun h125 => ?_
            have h126 := hI117.a ta58 m.toNat
            have h127 : S116.a 58 m.toNat = S.a 58 m.toNat := by rw [← hS118]; rfl
            refine r_iadd (i := 71) rfl ?_
            refine r_load (i := 72) (u := 2) (w := 0) rfl rfl rfl ?_
            refine s_int (i := 73) rfl ly57 rfl (by omega) (by omega) ⟨by omega, by omega⟩ ?_
            have hI129 := hI117.seta (b := 57) (j := ((3 * m) + (S116.a 58 m.toNat)).toNat) (z := t) ta57 rfl (by omega) (by omega)
            have hF131 := hF119.seta (b := 57) (j := ((3 * m) + (S116.a 58 m.toNat)).toNat) (z := t) rfl
            have hR132 := hR120.seta (b := 57) (j := ((3 * m) + (S116.a 58 m.toNat)).toNat) (z := t)
            refine yT_gen (fun S128 hS130 => ?_)
            rw [hS130] at hI129 hF131 hR132 
            refine r_load (i := 74) (u := 0) (w := 2) rfl rfl rfl ?_
            refine r_getf (i := 75) (v := 17) (w := 11) (x := (2, 58)) rfl ly43 rfl rfl fun _ => ?_
            refine r_load (i := 76) (u := 1) (w := 0) rfl rfl rfl ?_
            refine r_dup2 (i := 77) rfl rfl rfl ?_
            refine a_int (i := 78) rfl ly58 rfl (by omega) (by omega) fun h134 => ?_
            have h135 := hI129.a ta58 m.toNat
            have h136 : S128.a 58 m.toNat = S116.a 58 m.toNat := by rw [← hS130]; rfl
            have h137 : S116.a 58 m.toNat = S.a 58 m.toNat := by rw [← hS118]; rfl
            refine r_const (i := 79) (u := 1) (z := 1) rfl rfl ?_
            refine r_iadd (i := 80) rfl ?_
            refine s_int (i := 81) rfl ly58 rfl (by omega) (by omega) ⟨by omega, by omega⟩ ?_
            have hI139 := hI129.seta (b := 58) (j := m.toNat) (z := (S128.a 58 m.toNat) + 1) ta58 rfl (by omega) (by omega)
            have hF141 := hF131.seta (b := 58) (j := m.toNat) (z := (S128.a 58 m.toNat) + 1) rfl
            have hR142 := hR132.seta (b := 58) (j := m.toNat) (z := (S128.a 58 m.toNat) + 1)
            refine yT_gen (fun S138 hS140 => ?_)
            rw [hS140] at hI139 hF141 hR142 
            have h143 := hI139.f tf43_0
            have h144 : S138.f 43 0 = S128.f 43 0 := by rw [← hS140]; rfl
            have h145 : S128.f 43 0 = S116.f 43 0 := by rw [← hS130]; rfl
            have h146 : S116.f 43 0 = 0 := by rw [← hS118]; exact ysf_eq
            exact r_ret0 (i := 82) rfl ⟨rfl, (by first | (exfalso; omega) | exact fun hf9 => Or.inl ⟨by omega, thP_end ((q_2 hf9).1 (by omega)) (by have w8 := (q_1 m.toNat).1; omega), by subst hS118 hS130 hS140; exact mTh_of q_1⟩), hI139, hF141, hR142⟩
          · have h147 := hI117.f tf43_0
            have h148 : S116.f 43 0 = 0 := by rw [← hS118]; exact ysf_eq
            exact r_ret0 (i := 61) rfl ⟨rfl, (by first | (exfalso; omega) | exact fun hf9 => Or.inr ⟨by omega, (q_2 hf9).2 (by omega), by subst hS118; exact q_1⟩), hI117, hF119, hR120⟩
      · refine r_load (i := 36) (u := 0) (w := 2) rfl rfl rfl ?_
        refine r_getf (i := 37) (v := 16) (w := 11) (x := (2, 57)) rfl ly43 rfl rfl fun _ => ?_
        refine r_const (i := 38) (u := 3) (z := 3) rfl rfl ?_
        refine r_load (i := 39) (u := 1) (w := 0) rfl rfl rfl ?_
        refine r_imul (i := 40) rfl ?_
        refine r_load (i := 41) (u := 4) (w := 0) rfl rfl rfl ?_
        refine r_iadd (i := 42) rfl ?_
        refine a_int (i := 43) rfl ly57 rfl (by omega) (by omega) fun h150 => ?_
        have h151 := hI.a ta57 ((3 * m) + j).toNat
        refine r_load (i := 44) (u := 2) (w := 0) rfl rfl rfl ?_
        refine c_eq (i := 45) (v := 48) rfl ⟨by omega, by omega⟩ ⟨by omega, by omega⟩ (fun h152 => ?_) (fun h153 => ?_)
        · refine r_const (i := 48) (u := 0) (z := 0) rfl rfl ?_
          refine r_store (i := 49) (u := 3) (w := 0) (L1 := [some ((2, 43)), some (vi m), some (vi t), some (vi 0), some (vi j)]) rfl rfl rfl rfl ?_
          refine r_iinc (i := 50) (u := 1) (v := 4) (s := 1) (L1 := [some ((2, 43)), some (vi m), some (vi t), some (vi 0), some (vi (j + 1))]) rfl rfl rfl rfl rfl ?_
          refine r_goto (i := 51) (v := 28) rfl ?_
          have h154 := hI.a ta58 m.toNat
          exact ih S hI hF hR 0 (j + 1) ⟨by omega, by omega⟩ ⟨by omega, by omega⟩ (by omega) (by exact q_1) (by first | exact fun hf9 => ⟨fun _ => thP_s ((q_2 hf9).1 (by omega)) (by have w9 := (q_1 (3 * m + j).toNat).2; have w8 := (q_1 m.toNat).1; omega), fun h9 => absurd h9 (by omega)⟩ | exact fun hf9 => ⟨fun h9 => absurd h9 (by omega), fun _ hc => hc.2.2.2.2 j (by omega) (by have w9 := (q_1 (3 * m + j).toNat).2; have w8 := (q_1 m.toNat).1; omega) (by have w9 := (q_1 (3 * m + j).toNat).2; have w8 := (q_1 m.toNat).1; omega)⟩) (by omega)
        · refine r_const (i := 46) (u := 1) (z := 1) rfl rfl ?_
          refine r_goto (i := 47) (v := 49) rfl ?_
          refine r_store (i := 49) (u := 3) (w := 0) (L1 := [some ((2, 43)), some (vi m), some (vi t), some (vi 1), some (vi j)]) rfl rfl rfl rfl ?_
          refine r_iinc (i := 50) (u := 1) (v := 4) (s := 1) (L1 := [some ((2, 43)), some (vi m), some (vi t), some (vi 1), some (vi (j + 1))]) rfl rfl rfl rfl rfl ?_
          refine r_goto (i := 51) (v := 28) rfl ?_
          have h155 := hI.a ta58 m.toNat
          exact ih S hI hF hR 1 (j + 1) ⟨by omega, by omega⟩ ⟨by omega, by omega⟩ (by omega) (by exact q_1) (by first | exact fun hf9 => ⟨fun _ => thP_s ((q_2 hf9).1 (by omega)) (by have w9 := (q_1 (3 * m + j).toNat).2; have w8 := (q_1 m.toNat).1; omega), fun h9 => absurd h9 (by omega)⟩ | exact fun hf9 => ⟨fun h9 => absurd h9 (by omega), fun _ hc => hc.2.2.2.2 j (by omega) (by have w9 := (q_1 (3 * m + j).toNat).2; have w8 := (q_1 m.toNat).1; omega) (by have w9 := (q_1 (3 * m + j).toNat).2; have w8 := (q_1 m.toNat).1; omega)⟩) (by omega)
/-- ProxyForgeModel.throwing -/
theorem sp255 {G : xk} {S : yS} {d : Nat} (hI : yI S) {m : Int} (h_m : -2147483648 ≤ m ∧ m ≤ 2147483647) {t : Int} (h_t : -2147483648 ≤ t ∧ t ≤ 2147483647) (hd : 1 ≤ d) : yT xPr G LY xC255 0 [some ((2, 43)), some (vi m), some (vi t)] [] S d (fun r S' => r = (0, (0, 0)) ∧ mThQ S S' m t ∧ yI S' ∧ yFr [(43, 0)] [57, 58, 68] S S' ∧ yRm [] S S') := by
  refine yT_pad 2 ?_
  show yT xPr G LY xC255 0 [some ((2, 43)), some (vi m), some (vi t), none, none] [] S d _
  obtain ⟨d, rfl⟩ : ∃ q, d = q + 1 := ⟨d - 1, by omega⟩
  have hF : yFr [(43, 0)] [57, 58, 68] S S := yFr.refl S
  have hR : yRm [] S S := yRm.refl S
  refine r_load (i := 0) (u := 1) (w := 0) rfl rfl rfl ?_
  refine r_const (i := 1) (u := 3) (z := 3) rfl rfl ?_
  refine c_le (i := 2) (v := 24) rfl ⟨by omega, by omega⟩ ⟨by omega, by omega⟩ (fun h1 => ?_) (fun h2 => ?_)
  · refine r_const (i := 24) (u := 0) (z := 0) rfl rfl ?_
    refine r_store (i := 25) (u := 3) (w := 0) (L1 := [some ((2, 43)), some (vi m), some (vi t), some (vi 0), none]) rfl rfl rfl rfl ?_
    refine r_const (i := 26) (u := 0) (z := 0) rfl rfl ?_
    refine r_store (i := 27) (u := 4) (w := 0) (L1 := [some ((2, 43)), some (vi m), some (vi t), some (vi 0), some (vi 0)]) rfl rfl rfl rfl ?_
    have h3 := hI.f tf43_10
    have h4 := hI.f tf43_1
    have h5 := hI.a ta58 m.toNat
    exact lp255_28 h_m h_t  hd _ S hI hF hR 0 0 ⟨by omega, by omega⟩ ⟨by omega, by omega⟩ (by omega) (by exact fun j9 => ⟨rfl, rfl⟩) (by exact fun hf9 => ⟨fun h9 => absurd h9 (by omega), fun _ hc => by obtain ⟨c1, c2, c3, c4, -⟩ := hc; omega⟩) (Int.lt_succ_toNat _)
  · refine r_load (i := 3) (u := 1) (w := 0) rfl rfl rfl ?_
    refine r_load (i := 4) (u := 0) (w := 2) rfl rfl rfl ?_
    have h6 := hI.f tf43_10
    refine r_getf (i := 5) (v := 10) (w := 11) (x := vi (S.f 43 10)) rfl ly43 rfl rfl fun h7 => ?_
    have h7 : Rg (S.f 43 10) := h7
    refine c_ge (i := 6) (v := 24) rfl ⟨by omega, by omega⟩ ⟨by omega, by omega⟩ (fun h8 => ?_) (fun h9 => ?_)
    · refine r_const (i := 24) (u := 0) (z := 0) rfl rfl ?_
      refine r_store (i := 25) (u := 3) (w := 0) (L1 := [some ((2, 43)), some (vi m), some (vi t), some (vi 0), none]) rfl rfl rfl rfl ?_
      refine r_const (i := 26) (u := 0) (z := 0) rfl rfl ?_
      refine r_store (i := 27) (u := 4) (w := 0) (L1 := [some ((2, 43)), some (vi m), some (vi t), some (vi 0), some (vi 0)]) rfl rfl rfl rfl ?_
      have h10 := hI.f tf43_1
      have h11 := hI.a ta58 m.toNat
      exact lp255_28 h_m h_t  hd _ S hI hF hR 0 0 ⟨by omega, by omega⟩ ⟨by omega, by omega⟩ (by omega) (by exact fun j9 => ⟨rfl, rfl⟩) (by exact fun hf9 => ⟨fun h9 => absurd h9 (by omega), fun _ hc => by obtain ⟨c1, c2, c3, c4, -⟩ := hc; omega⟩) (Int.lt_succ_toNat _)
    · refine r_load (i := 7) (u := 0) (w := 2) rfl rfl rfl ?_
      refine r_load (i := 8) (u := 2) (w := 0) rfl rfl rfl ?_
      have h12 := hI.f tf43_1
      refine r_call (i := 9) (u := 11) (v := 213) (w := 0) (b := 0) (na := 514) (C2 := xC213) (as := [(2, 43), vi t]) (s := []) rfl rfl rfl rfl rfl rfl rfl (sp213 (t := t) hI ⟨by omega, by omega⟩   (by omega)) (fun r13 S14 hq15 => ?_)
      obtain ⟨z16, rfl, h17, h18, h19, h20, rfl⟩ := hq15
      refine Or.inr (Or.inl ⟨rfl, ?_⟩)
      refine z_eq (i := 10) (v := 24) rfl ⟨by omega, by omega⟩ (fun h21 => ?_) (fun h22 => ?_)
      · refine r_const (i := 24) (u := 0) (z := 0) rfl rfl ?_
        refine r_store (i := 25) (u := 3) (w := 0) (L1 := [some ((2, 43)), some (vi m), some (vi t), some (vi 0), none]) rfl rfl rfl rfl ?_
        refine r_const (i := 26) (u := 0) (z := 0) rfl rfl ?_
        refine r_store (i := 27) (u := 4) (w := 0) (L1 := [some ((2, 43)), some (vi m), some (vi t), some (vi 0), some (vi 0)]) rfl rfl rfl rfl ?_
        have h23 := hI.a ta58 m.toNat
        exact lp255_28 h_m h_t  hd _ S hI hF hR 0 0 ⟨by omega, by omega⟩ ⟨by omega, by omega⟩ (by omega) (by exact fun j9 => ⟨rfl, rfl⟩) (by exact fun hf9 => ⟨fun h9 => absurd h9 (by omega), fun _ hc => by obtain ⟨c1, c2, c3, c4, -⟩ := hc; omega⟩) (Int.lt_succ_toNat _)
      · refine r_load (i := 11) (u := 0) (w := 2) rfl rfl rfl ?_
        refine r_load (i := 12) (u := 2) (w := 0) rfl rfl rfl ?_
        refine r_const (i := 13) (u := 1) (z := 1) rfl rfl ?_
        refine r_call (i := 14) (u := 11) (v := 262) (w := 0) (b := 0) (na := 1795) (C2 := xC262) (as := [(2, 43), vi t, vi 1]) (s := []) rfl rfl rfl rfl rfl rfl rfl (sp262 (t := t) (o := 1) hI ⟨by omega, by omega⟩ ⟨by omega, by omega⟩   (by omega)) (fun r24 S25 hq26 => ?_)
        obtain ⟨z27, rfl, h28, h29, um30, hI31, hF32, hR33⟩ := hq26
        have hF34 := hF.trans hF32 rfl rfl
        have hR35 := hR.trans hR33 rfl
        refine Or.inr (Or.inl ⟨rfl, ?_⟩)
        refine z_eq (i := 15) (v := 24) rfl ⟨by omega, by omega⟩ (fun h36 => ?_) (fun h37 => ?_)
        · refine r_const (i := 24) (u := 0) (z := 0) rfl rfl ?_
          refine r_store (i := 25) (u := 3) (w := 0) (L1 := [some ((2, 43)), some (vi m), some (vi t), some (vi 0), none]) rfl rfl rfl rfl ?_
          refine r_const (i := 26) (u := 0) (z := 0) rfl rfl ?_
          refine r_store (i := 27) (u := 4) (w := 0) (L1 := [some ((2, 43)), some (vi m), some (vi t), some (vi 0), some (vi 0)]) rfl rfl rfl rfl ?_
          have h38 := hI31.f tf43_10
          have h39 : S25.f 43 10 = S.f 43 10 := hF32.f rfl
          have h40 := hI31.f tf43_1
          have h41 : S25.f 43 1 = S.f 43 1 := hF32.f rfl
          have h42 := hI31.a ta58 m.toNat
          have h43 : S25.a 58 m.toNat = S.a 58 m.toNat := hF32.a rfl _
          exact lp255_28 h_m h_t  hd _ S25 hI31 hF34 hR35 0 0 ⟨by omega, by omega⟩ ⟨by omega, by omega⟩ (by omega) (by exact fun j9 => ⟨hF32.a rfl j9, hF32.a rfl j9⟩) (by first | exact fun hf9 => ⟨fun _ => ⟨by omega, by omega, (um30 hf9 (by omega) (by omega) (by omega)).mp (by omega), by omega, n3_0⟩, fun h9 => absurd h9 (by omega)⟩ | exact fun hf9 => ⟨fun h9 => absurd h9 (by omega), fun _ hc => absurd ((um30 hf9 (by omega) (by omega) (by omega)).mpr hc.2.2.1) (by omega)⟩ | exact fun hf9 => ⟨fun h9 => absurd h9 (by omega), fun _ hc => by obtain ⟨c1, c2, c3, c4, -⟩ := hc; omega⟩) (Int.lt_succ_toNat _)
        · refine r_load (i := 16) (u := 0) (w := 2) rfl rfl rfl ?_
          refine r_getf (i := 17) (v := 17) (w := 11) (x := (2, 58)) rfl ly43 rfl rfl fun _ => ?_
          refine r_load (i := 18) (u := 1) (w := 0) rfl rfl rfl ?_
          refine a_int (i := 19) rfl ly58 rfl (by omega) (by omega) fun h45 => ?_
          have h46 := hI31.a ta58 m.toNat
          have h47 : S25.a 58 m.toNat = S.a 58 m.toNat := hF32.a rfl _
          refine r_const (i := 20) (u := 3) (z := 3) rfl rfl ?_
          refine c_ge (i := 21) (v := 24) rfl ⟨by omega, by omega⟩ ⟨by omega, by omega⟩ (fun h48 => ?_) (fun h49 => ?_)
          · refine r_const (i := 24) (u := 0) (z := 0) rfl rfl ?_
            refine r_store (i := 25) (u := 3) (w := 0) (L1 := [some ((2, 43)), some (vi m), some (vi t), some (vi 0), none]) rfl rfl rfl rfl ?_
            refine r_const (i := 26) (u := 0) (z := 0) rfl rfl ?_
            refine r_store (i := 27) (u := 4) (w := 0) (L1 := [some ((2, 43)), some (vi m), some (vi t), some (vi 0), some (vi 0)]) rfl rfl rfl rfl ?_
            have h50 := hI31.f tf43_10
            have h51 : S25.f 43 10 = S.f 43 10 := hF32.f rfl
            have h52 := hI31.f tf43_1
            have h53 : S25.f 43 1 = S.f 43 1 := hF32.f rfl
            have h54 := hI31.a ta58 m.toNat
            exact lp255_28 h_m h_t  hd _ S25 hI31 hF34 hR35 0 0 ⟨by omega, by omega⟩ ⟨by omega, by omega⟩ (by omega) (by exact fun j9 => ⟨hF32.a rfl j9, hF32.a rfl j9⟩) (by first | exact fun hf9 => ⟨fun _ => ⟨by omega, by omega, (um30 hf9 (by omega) (by omega) (by omega)).mp (by omega), by omega, n3_0⟩, fun h9 => absurd h9 (by omega)⟩ | exact fun hf9 => ⟨fun h9 => absurd h9 (by omega), fun _ hc => absurd ((um30 hf9 (by omega) (by omega) (by omega)).mpr hc.2.2.1) (by omega)⟩ | exact fun hf9 => ⟨fun h9 => absurd h9 (by omega), fun _ hc => by obtain ⟨c1, c2, c3, c4, -⟩ := hc; omega⟩) (Int.lt_succ_toNat _)
          · refine r_const (i := 22) (u := 1) (z := 1) rfl rfl ?_
            refine r_goto (i := 23) (v := 25) rfl ?_
            refine r_store (i := 25) (u := 3) (w := 0) (L1 := [some ((2, 43)), some (vi m), some (vi t), some (vi 1), none]) rfl rfl rfl rfl ?_
            refine r_const (i := 26) (u := 0) (z := 0) rfl rfl ?_
            refine r_store (i := 27) (u := 4) (w := 0) (L1 := [some ((2, 43)), some (vi m), some (vi t), some (vi 1), some (vi 0)]) rfl rfl rfl rfl ?_
            have h55 := hI31.f tf43_10
            have h56 : S25.f 43 10 = S.f 43 10 := hF32.f rfl
            have h57 := hI31.f tf43_1
            have h58 : S25.f 43 1 = S.f 43 1 := hF32.f rfl
            have h59 := hI31.a ta58 m.toNat
            exact lp255_28 h_m h_t  hd _ S25 hI31 hF34 hR35 1 0 ⟨by omega, by omega⟩ ⟨by omega, by omega⟩ (by omega) (by exact fun j9 => ⟨hF32.a rfl j9, hF32.a rfl j9⟩) (by first | exact fun hf9 => ⟨fun _ => ⟨by omega, by omega, (um30 hf9 (by omega) (by omega) (by omega)).mp (by omega), by omega, n3_0⟩, fun h9 => absurd h9 (by omega)⟩ | exact fun hf9 => ⟨fun h9 => absurd h9 (by omega), fun _ hc => absurd ((um30 hf9 (by omega) (by omega) (by omega)).mpr hc.2.2.1) (by omega)⟩ | exact fun hf9 => ⟨fun h9 => absurd h9 (by omega), fun _ hc => by obtain ⟨c1, c2, c3, c4, -⟩ := hc; omega⟩) (Int.lt_succ_toNat _)
theorem lp182_14 {G : xk} {d : Nat} {S : yS} (hI : yI S) {a : Int} (h_a : -2147483648 ≤ a ∧ a ≤ 2147483647) (hd : 2 ≤ d + 1) : ∀ (n : Nat), ∀ (n1 g0 k : Int) (h_n1 : 0 ≤ n1 ∧ n1 ≤ 4) (h_g0 : 0 ≤ g0 ∧ g0 ≤ 1) (h_k : 0 ≤ k ∧ k ≤ 4) (q_0 : 0 ≤ a ∧ a < 1048576) (q_1 : g0 = 1 → (1 ≤ k → yand (yshr a (5 * 0)) 31 ≤ 23) ∧ (2 ≤ k → yand (yshr a (5 * 1)) 31 ≤ 23) ∧ (3 ≤ k → yand (yshr a (5 * 2)) 31 ≤ 23) ∧ (4 ≤ k → yand (yshr a (5 * 3)) 31 ≤ 23)) (q_2 : hMn a n1) (q_3 : g0 = 1 → pkM a n1 (S.f 43 1) k) (q_4 : g0 = 0 → ¬ pkC (S.f 43 1) a) (hn : 4 - k < (n : Nat)), yT xPr G LY xC182 14 [some ((2, 43)), some (vi a), some (vi n1), some (vi g0), some (vi k)] [] S (d + 1) (fun r S' => ∃ z : Int, r = (1, vi z) ∧ 0 ≤ z ∧ z ≤ 1 ∧ (z = 1 → 0 ≤ a ∧ a < 1048576) ∧ (z = 1 → KP a) ∧ (z = 1 → pkC (S.f 43 1) a) ∧ (z = 0 → ¬ pkC (S.f 43 1) a) ∧ S = S') := by
  intro n
  induction n with
  | zero => intro n1 g0 k h_n1 h_g0 h_k q_0 q_1 q_2 q_3 q_4 hn; exact absurd hn (by omega)
  | succ n ih =>
    intro n1 g0 k h_n1 h_g0 h_k q_0 q_1 q_2 q_3 q_4 hn
    have h1 := hI.f tf43_1
    refine r_load (i := 14) (u := 4) (w := 0) rfl rfl rfl ?_
    refine r_const (i := 15) (u := 4) (z := 4) rfl rfl ?_
    refine c_ge (i := 16) (v := 39) rfl ⟨by omega, by omega⟩ ⟨by omega, by omega⟩ (fun h2 => ?_) (fun h3 => ?_)
    · refine r_load (i := 39) (u := 3) (w := 0) rfl rfl rfl ?_
      exact r_retZ (i := 40) rfl (by omega) (by omega) ⟨g0, rfl, by omega, by omega, (by omega), (by intro hz; first | exact absurd hz (by omega) | exact KP_of4 (by omega) (by omega) (by omega) (by omega)), (by intro hz; first | exact absurd hz (by omega) | exact pkM_y (n := n1) (by omega) (by omega) (by omega) (by omega) (fun q q0 q1 => q_3 (by omega) q q0 (by omega))), (by intro hz; first | exact absurd hz (by omega) | exact q_4 (by omega)), rfl⟩
    · refine r_load (i := 17) (u := 3) (w := 0) rfl rfl rfl ?_
      refine z_eq (i := 18) (v := 35) rfl ⟨by omega, by omega⟩ (fun h4 => ?_) (fun h5 => ?_)
      · refine r_const (i := 35) (u := 0) (z := 0) rfl rfl ?_
        refine r_store (i := 36) (u := 3) (w := 0) (L1 := [some ((2, 43)), some (vi a), some (vi n1), some (vi 0), some (vi k)]) rfl rfl rfl rfl ?_
        refine r_iinc (i := 37) (u := 1) (v := 4) (s := 1) (L1 := [some ((2, 43)), some (vi a), some (vi n1), some (vi 0), some (vi (k + 1))]) rfl rfl rfl rfl rfl ?_
        refine r_goto (i := 38) (v := 14) rfl ?_
        exact ih n1 0 (k + 1) ⟨by omega, by omega⟩ ⟨by omega, by omega⟩ ⟨by omega, by omega⟩ (by omega) (by first | omega | (rcases (show k = 0 ∨ k = 1 ∨ k = 2 ∨ k = 3 by omega) with rfl | rfl | rfl | rfl <;> omega)) (by exact q_2) (by intro hg; first | exact absurd hg (by omega) | exact pkM_s (q_3 (by omega)) (fun _ => by unfold kdC dg; omega) (fun _ => by unfold dg; omega)) (by intro hg; first | exact absurd hg (by omega) | exact q_4 (by omega) | exact pk_nk (k := k) q_2 (by omega) (by omega) (by omega) (by omega) (by unfold kdC dg; omega) | exact pk_nz (k := k) q_2 (by omega) (by omega) (by omega) (by omega) (by unfold dg; omega)) (by omega)
      · refine r_load (i := 19) (u := 4) (w := 0) rfl rfl rfl ?_
        refine r_load (i := 20) (u := 2) (w := 0) rfl rfl rfl ?_
        refine c_ge (i := 21) (v := 29) rfl ⟨by omega, by omega⟩ ⟨by omega, by omega⟩ (fun h6 => ?_) (fun h7 => ?_)
        · refine r_load (i := 29) (u := 1) (w := 0) rfl rfl rfl ?_
          refine r_load (i := 30) (u := 4) (w := 0) rfl rfl rfl ?_
          refine r_call (i := 31) (u := 65535) (v := 229) (w := 0) (b := 2) (na := 514) (C2 := xC229) (as := [vi a, vi k]) (s := []) rfl rfl rfl rfl rfl rfl rfl (sp229 (a := a) (k := k) hI ⟨by omega, by omega⟩ ⟨by omega, by omega⟩   (by omega)) (fun r8 S9 hq10 => ?_)
          obtain ⟨z11, rfl, h12, h13, h14, rfl⟩ := hq10
          refine Or.inr (Or.inl ⟨rfl, ?_⟩)
          refine z_ne (i := 32) (v := 35) rfl ⟨by omega, by omega⟩ (fun h15 => ?_) (fun h16 => ?_)
          · refine r_const (i := 35) (u := 0) (z := 0) rfl rfl ?_
            refine r_store (i := 36) (u := 3) (w := 0) (L1 := [some ((2, 43)), some (vi a), some (vi n1), some (vi 0), some (vi k)]) rfl rfl rfl rfl ?_
            refine r_iinc (i := 37) (u := 1) (v := 4) (s := 1) (L1 := [some ((2, 43)), some (vi a), some (vi n1), some (vi 0), some (vi (k + 1))]) rfl rfl rfl rfl rfl ?_
            refine r_goto (i := 38) (v := 14) rfl ?_
            exact ih n1 0 (k + 1) ⟨by omega, by omega⟩ ⟨by omega, by omega⟩ ⟨by omega, by omega⟩ (by omega) (by first | omega | (rcases (show k = 0 ∨ k = 1 ∨ k = 2 ∨ k = 3 by omega) with rfl | rfl | rfl | rfl <;> omega)) (by exact q_2) (by intro hg; first | exact absurd hg (by omega) | exact pkM_s (q_3 (by omega)) (fun _ => by unfold kdC dg; omega) (fun _ => by unfold dg; omega)) (by intro hg; first | exact absurd hg (by omega) | exact q_4 (by omega) | exact pk_nk (k := k) q_2 (by omega) (by omega) (by omega) (by omega) (by unfold kdC dg; omega) | exact pk_nz (k := k) q_2 (by omega) (by omega) (by omega) (by omega) (by unfold dg; omega)) (by omega)
          · refine r_const (i := 33) (u := 1) (z := 1) rfl rfl ?_
            refine r_goto (i := 34) (v := 36) rfl ?_
            refine r_store (i := 36) (u := 3) (w := 0) (L1 := [some ((2, 43)), some (vi a), some (vi n1), some (vi 1), some (vi k)]) rfl rfl rfl rfl ?_
            refine r_iinc (i := 37) (u := 1) (v := 4) (s := 1) (L1 := [some ((2, 43)), some (vi a), some (vi n1), some (vi 1), some (vi (k + 1))]) rfl rfl rfl rfl rfl ?_
            refine r_goto (i := 38) (v := 14) rfl ?_
            exact ih n1 1 (k + 1) ⟨by omega, by omega⟩ ⟨by omega, by omega⟩ ⟨by omega, by omega⟩ (by omega) (by first | omega | (rcases (show k = 0 ∨ k = 1 ∨ k = 2 ∨ k = 3 by omega) with rfl | rfl | rfl | rfl <;> omega)) (by exact q_2) (by intro hg; first | exact absurd hg (by omega) | exact pkM_s (q_3 (by omega)) (fun _ => by unfold kdC dg; omega) (fun _ => by unfold dg; omega)) (by intro hg; first | exact absurd hg (by omega) | exact q_4 (by omega) | exact pk_nk (k := k) q_2 (by omega) (by omega) (by omega) (by omega) (by unfold kdC dg; omega) | exact pk_nz (k := k) q_2 (by omega) (by omega) (by omega) (by omega) (by unfold dg; omega)) (by omega)
        · refine r_load (i := 22) (u := 0) (w := 2) rfl rfl rfl ?_
          refine r_load (i := 23) (u := 1) (w := 0) rfl rfl rfl ?_
          refine r_load (i := 24) (u := 4) (w := 0) rfl rfl rfl ?_
          refine r_call (i := 25) (u := 65535) (v := 229) (w := 0) (b := 2) (na := 514) (C2 := xC229) (as := [vi a, vi k]) (s := [(2, 43)]) rfl rfl rfl rfl rfl rfl rfl (sp229 (a := a) (k := k) hI ⟨by omega, by omega⟩ ⟨by omega, by omega⟩   (by omega)) (fun r17 S18 hq19 => ?_)
          obtain ⟨z20, rfl, h21, h22, h23, rfl⟩ := hq19
          refine Or.inr (Or.inl ⟨rfl, ?_⟩)
          refine r_call (i := 26) (u := 11) (v := 210) (w := 0) (b := 0) (na := 514) (C2 := xC210) (as := [(2, 43), vi z20]) (s := []) rfl rfl rfl rfl rfl rfl rfl (sp210 (k := z20) hI ⟨by omega, by omega⟩   (by omega)) (fun r24 S25 hq26 => ?_)
          obtain ⟨z27, rfl, h28, h29, h30, h31, rfl⟩ := hq26
          refine Or.inr (Or.inl ⟨rfl, ?_⟩)
          refine z_eq (i := 27) (v := 35) rfl ⟨by omega, by omega⟩ (fun h32 => ?_) (fun h33 => ?_)
          · refine r_const (i := 35) (u := 0) (z := 0) rfl rfl ?_
            refine r_store (i := 36) (u := 3) (w := 0) (L1 := [some ((2, 43)), some (vi a), some (vi n1), some (vi 0), some (vi k)]) rfl rfl rfl rfl ?_
            refine r_iinc (i := 37) (u := 1) (v := 4) (s := 1) (L1 := [some ((2, 43)), some (vi a), some (vi n1), some (vi 0), some (vi (k + 1))]) rfl rfl rfl rfl rfl ?_
            refine r_goto (i := 38) (v := 14) rfl ?_
            exact ih n1 0 (k + 1) ⟨by omega, by omega⟩ ⟨by omega, by omega⟩ ⟨by omega, by omega⟩ (by omega) (by first | omega | (rcases (show k = 0 ∨ k = 1 ∨ k = 2 ∨ k = 3 by omega) with rfl | rfl | rfl | rfl <;> omega)) (by exact q_2) (by intro hg; first | exact absurd hg (by omega) | exact pkM_s (q_3 (by omega)) (fun _ => by unfold kdC dg; omega) (fun _ => by unfold dg; omega)) (by intro hg; first | exact absurd hg (by omega) | exact q_4 (by omega) | exact pk_nk (k := k) q_2 (by omega) (by omega) (by omega) (by omega) (by unfold kdC dg; omega) | exact pk_nz (k := k) q_2 (by omega) (by omega) (by omega) (by omega) (by unfold dg; omega)) (by omega)
          · refine r_goto (i := 28) (v := 33) rfl ?_
            refine r_const (i := 33) (u := 1) (z := 1) rfl rfl ?_
            refine r_goto (i := 34) (v := 36) rfl ?_
            refine r_store (i := 36) (u := 3) (w := 0) (L1 := [some ((2, 43)), some (vi a), some (vi n1), some (vi 1), some (vi k)]) rfl rfl rfl rfl ?_
            refine r_iinc (i := 37) (u := 1) (v := 4) (s := 1) (L1 := [some ((2, 43)), some (vi a), some (vi n1), some (vi 1), some (vi (k + 1))]) rfl rfl rfl rfl rfl ?_
            refine r_goto (i := 38) (v := 14) rfl ?_
            exact ih n1 1 (k + 1) ⟨by omega, by omega⟩ ⟨by omega, by omega⟩ ⟨by omega, by omega⟩ (by omega) (by first | omega | (rcases (show k = 0 ∨ k = 1 ∨ k = 2 ∨ k = 3 by omega) with rfl | rfl | rfl | rfl <;> omega)) (by exact q_2) (by intro hg; first | exact absurd hg (by omega) | exact pkM_s (q_3 (by omega)) (fun _ => by unfold kdC dg; omega) (fun _ => by unfold dg; omega)) (by intro hg; first | exact absurd hg (by omega) | exact q_4 (by omega) | exact pk_nk (k := k) q_2 (by omega) (by omega) (by omega) (by omega) (by unfold kdC dg; omega) | exact pk_nz (k := k) q_2 (by omega) (by omega) (by omega) (by omega) (by unfold dg; omega)) (by omega)
/-- ProxyForgeModel.areKinds -/
theorem sp182 {G : xk} {S : yS} {d : Nat} (hI : yI S) {a : Int} (h_a : -2147483648 ≤ a ∧ a ≤ 2147483647) (hd : 2 ≤ d) : yT xPr G LY xC182 0 [some ((2, 43)), some (vi a)] [] S d (fun r S' => ∃ z : Int, r = (1, vi z) ∧ 0 ≤ z ∧ z ≤ 1 ∧ (z = 1 → 0 ≤ a ∧ a < 1048576) ∧ (z = 1 → KP a) ∧ (z = 1 → pkC (S.f 43 1) a) ∧ (z = 0 → ¬ pkC (S.f 43 1) a) ∧ S = S') := by
  refine yT_pad 3 ?_
  show yT xPr G LY xC182 0 [some ((2, 43)), some (vi a), none, none, none] [] S d _
  obtain ⟨d, rfl⟩ : ∃ q, d = q + 1 := ⟨d - 1, by omega⟩
  refine r_load (i := 0) (u := 1) (w := 0) rfl rfl rfl ?_
  refine z_lt (i := 1) (v := 5) rfl ⟨by omega, by omega⟩ (fun h1 => ?_) (fun h2 => ?_)
  · refine r_const (i := 5) (u := 0) (z := 0) rfl rfl ?_
    have h3 := hI.f tf43_1
    exact r_retZ (i := 6) rfl (by omega) (by omega) ⟨0, rfl, by omega, by omega, (by omega), (by intro hz; first | exact absurd hz (by omega) | exact KP_of4 (by omega) (by omega) (by omega) (by omega)), (by intro hz; first | exact absurd hz (by omega) | exact pkM_y (n := n1) (by omega) (by omega) (by omega) (by omega) (fun q q0 q1 => q_3 (by omega) q q0 (by omega))), (by intro hz; exact fun hp => by have w1 := hp.1; have w2 := hp.2.1; omega), rfl⟩
  · refine r_load (i := 2) (u := 1) (w := 0) rfl rfl rfl ?_
    refine r_const (i := 3) (u := 1048576) (z := 1048576) rfl rfl ?_
    refine c_lt (i := 4) (v := 7) rfl ⟨by omega, by omega⟩ ⟨by omega, by omega⟩ (fun h4 => ?_) (fun h5 => ?_)
    · refine r_load (i := 7) (u := 1) (w := 0) rfl rfl rfl ?_
      refine r_call (i := 8) (u := 65535) (v := 216) (w := 0) (b := 2) (na := 513) (C2 := xC216) (as := [vi a]) (s := []) rfl rfl rfl rfl rfl rfl rfl (sp216 (a := a) hI ⟨by omega, by omega⟩   (by omega)) (fun r6 S7 hq8 => ?_)
      obtain ⟨z9, rfl, h10, h11, hmn12, rfl⟩ := hq8
      refine Or.inr (Or.inl ⟨rfl, ?_⟩)
      refine r_store (i := 9) (u := 2) (w := 0) (L1 := [some ((2, 43)), some (vi a), some (vi z9), none, none]) rfl rfl rfl rfl ?_
      refine r_const (i := 10) (u := 1) (z := 1) rfl rfl ?_
      refine r_store (i := 11) (u := 3) (w := 0) (L1 := [some ((2, 43)), some (vi a), some (vi z9), some (vi 1), none]) rfl rfl rfl rfl ?_
      refine r_const (i := 12) (u := 0) (z := 0) rfl rfl ?_
      refine r_store (i := 13) (u := 4) (w := 0) (L1 := [some ((2, 43)), some (vi a), some (vi z9), some (vi 1), some (vi 0)]) rfl rfl rfl rfl ?_
      have h13 := hI.f tf43_1
      exact lp182_14 hI h_a   hd _ z9 1 0 ⟨by omega, by omega⟩ ⟨by omega, by omega⟩ ⟨by omega, by omega⟩ (by omega) (by first | omega | (rcases (show k = 0 ∨ k = 1 ∨ k = 2 ∨ k = 3 by omega) with rfl | rfl | rfl | rfl <;> omega)) (by exact hmn12) (by exact fun _ => pkM_0) (by intro hg; exact absurd hg (by omega)) (Int.lt_succ_toNat _)
    · refine r_const (i := 5) (u := 0) (z := 0) rfl rfl ?_
      have h14 := hI.f tf43_1
      exact r_retZ (i := 6) rfl (by omega) (by omega) ⟨0, rfl, by omega, by omega, (by omega), (by intro hz; first | exact absurd hz (by omega) | exact KP_of4 (by omega) (by omega) (by omega) (by omega)), (by intro hz; first | exact absurd hz (by omega) | exact pkM_y (n := n1) (by omega) (by omega) (by omega) (by omega) (fun q q0 q1 => q_3 (by omega) q q0 (by omega))), (by intro hz; exact fun hp => by have w1 := hp.1; have w2 := hp.2.1; omega), rfl⟩
theorem lp217_98 {G : xk} {d : Nat} {S : yS} (hI : yI S) {t : Int} (h_t : -2147483648 ≤ t ∧ t ≤ 2147483647) {w0 : Int} (h_w0 : -2147483648 ≤ w0 ∧ w0 ≤ 2147483647) {bits : Int} (h_bits : -2147483648 ≤ bits ∧ bits ≤ 2147483647) {al : Int} (h_al : -2147483648 ≤ al ∧ al ≤ 2147483647) {back : Int} (h_back : -2147483648 ≤ back ∧ back ≤ 2147483647) (hd : 3 ≤ d + 1) : ∀ (n : Nat), ∀ (ac m0 : Int) (h_ac : 0 ≤ ac ∧ ac ≤ 7) (h_m0 : 0 ≤ m0 ∧ m0 ≤ 60) (q_0 : 4 ≤ t ∧ t < S.f 43 1) (q_1 : 0 ≤ w0 ∧ w0 ≤ 10) (q_2 : 0 ≤ bits ∧ bits ≤ 63) (q_3 : 0 ≤ al ∧ al < 1048576) (q_4 : KP al) (q_5 : 0 ≤ back ∧ back ≤ 23) (q_6 : w0 = 10 → back = 0) (q_7 : pkC (S.f 43 1) al) (q_8 : 0 < back → kdC (S.f 43 1) back) (q_9 : fmM S t w0 bits back) (q_10 : nsM S m0 t w0 al back) (hn : 60 - m0 < (n : Nat)), yT xPr G LY xC217 98 [some ((2, 43)), some (vi t), some (vi w0), some (vi bits), some (vi al), some (vi back), some (vi ac), some (vi m0)] [] S (d + 1) (fun r S' => ∃ z : Int, r = (1, vi z) ∧ 0 ≤ z ∧ z ≤ 1 ∧ (z = 1 → 4 ≤ t ∧ t < S.f 43 1) ∧ (z = 1 → 0 ≤ w0 ∧ w0 ≤ 10) ∧ (z = 1 → 0 ≤ bits ∧ bits ≤ 63) ∧ (z = 1 → 0 ≤ al ∧ al < 1048576) ∧ (z = 1 → KP al) ∧ (z = 1 → 0 ≤ back ∧ back ≤ 23) ∧ (z = 1 → w0 = 10 → back = 0) ∧ (z = 1 → mbM S t w0 bits al back) ∧ (z = 0 → ¬ mbM S t w0 bits al back) ∧ S = S') := by
  intro n
  induction n with
  | zero => intro ac m0 h_ac h_m0 q_0 q_1 q_2 q_3 q_4 q_5 q_6 q_7 q_8 q_9 q_10 hn; exact absurd hn (by omega)
  | succ n ih =>
    intro ac m0 h_ac h_m0 q_0 q_1 q_2 q_3 q_4 q_5 q_6 q_7 q_8 q_9 q_10 hn
    have h1 := hI.f tf43_1
    refine r_load (i := 98) (u := 7) (w := 0) rfl rfl rfl ?_
    refine r_load (i := 99) (u := 0) (w := 2) rfl rfl rfl ?_
    have h2 := hI.f tf43_10
    refine r_getf (i := 100) (v := 10) (w := 11) (x := vi (S.f 43 10)) rfl ly43 rfl rfl fun h3 => ?_
    have h3 : Rg (S.f 43 10) := h3
    refine c_ge (i := 101) (v := 130) rfl ⟨by omega, by omega⟩ ⟨by omega, by omega⟩ (fun h4 => ?_) (fun h5 => ?_)
    · refine r_const (i := 130) (u := 1) (z := 1) rfl rfl ?_
      exact r_retZ (i := 131) rfl (by omega) (by omega) ⟨1, rfl, by omega, by omega, (by omega), (by omega), (by omega), (by omega), (by intro hz; first | exact absurd hz (by omega) | assumption | grind), (by omega), (by omega), (by intro hz; first | exact absurd hz (by omega) | exact ⟨q_0, q_1, q_2, q_7, ⟨by omega, q_8⟩, q_9, fun j hj => q_10 j (by omega)⟩), (by intro hz; first | exact absurd hz (by omega) | (intro hc; obtain ⟨c1, c2, c3, c4, c5, c6, c7⟩ := hc; unfold kdC at c5; unfold fmM at c6; first | (exfalso; omega) | exact c7 m0.toNat (by omega) ⟨by omega, by omega, by omega, by omega⟩)), rfl⟩
    · refine r_load (i := 102) (u := 0) (w := 2) rfl rfl rfl ?_
      refine r_getf (i := 103) (v := 11) (w := 11) (x := (2, 52)) rfl ly43 rfl rfl fun _ => ?_
      refine r_load (i := 104) (u := 7) (w := 0) rfl rfl rfl ?_
      refine a_int (i := 105) rfl ly52 rfl (by omega) (by omega) fun h7 => ?_
      have h8 := hI.a ta52 m0.toNat
      refine r_load (i := 106) (u := 1) (w := 0) rfl rfl rfl ?_
      refine c_ne (i := 107) (v := 128) rfl ⟨by omega, by omega⟩ ⟨by omega, by omega⟩ (fun h9 => ?_) (fun h10 => ?_)
      · refine r_iinc (i := 128) (u := 1) (v := 7) (s := 1) (L1 := [some ((2, 43)), some (vi t), some (vi w0), some (vi bits), some (vi al), some (vi back), some (vi ac), some (vi (m0 + 1))]) rfl rfl rfl rfl rfl ?_
        refine r_goto (i := 129) (v := 98) rfl ?_
        exact ih ac (m0 + 1) ⟨by omega, by omega⟩ ⟨by omega, by omega⟩ (by omega) (by omega) (by omega) (by omega) (by first | assumption | grind) (by omega) (by omega) (by exact q_7) (by exact q_8) (by exact q_9) (by exact nsM_s q_10 (by omega) (by omega)) (by omega)
      · refine r_load (i := 108) (u := 0) (w := 2) rfl rfl rfl ?_
        refine r_getf (i := 109) (v := 12) (w := 11) (x := (2, 53)) rfl ly43 rfl rfl fun _ => ?_
        refine r_load (i := 110) (u := 7) (w := 0) rfl rfl rfl ?_
        refine a_int (i := 111) rfl ly53 rfl (by omega) (by omega) fun h12 => ?_
        have h13 := hI.a ta53 m0.toNat
        refine r_load (i := 112) (u := 2) (w := 0) rfl rfl rfl ?_
        refine c_ne (i := 113) (v := 128) rfl ⟨by omega, by omega⟩ ⟨by omega, by omega⟩ (fun h14 => ?_) (fun h15 => ?_)
        · refine r_iinc (i := 128) (u := 1) (v := 7) (s := 1) (L1 := [some ((2, 43)), some (vi t), some (vi w0), some (vi bits), some (vi al), some (vi back), some (vi ac), some (vi (m0 + 1))]) rfl rfl rfl rfl rfl ?_
          refine r_goto (i := 129) (v := 98) rfl ?_
          exact ih ac (m0 + 1) ⟨by omega, by omega⟩ ⟨by omega, by omega⟩ (by omega) (by omega) (by omega) (by omega) (by first | assumption | grind) (by omega) (by omega) (by exact q_7) (by exact q_8) (by exact q_9) (by exact nsM_s q_10 (by omega) (by omega)) (by omega)
        · refine r_load (i := 114) (u := 0) (w := 2) rfl rfl rfl ?_
          refine r_getf (i := 115) (v := 14) (w := 11) (x := (2, 55)) rfl ly43 rfl rfl fun _ => ?_
          refine r_load (i := 116) (u := 7) (w := 0) rfl rfl rfl ?_
          refine a_int (i := 117) rfl ly55 rfl (by omega) (by omega) fun h17 => ?_
          have h18 := hI.a ta55 m0.toNat
          have kp19 := hI.k55 m0.toNat
          refine r_load (i := 118) (u := 4) (w := 0) rfl rfl rfl ?_
          refine c_ne (i := 119) (v := 128) rfl ⟨by omega, by omega⟩ ⟨by omega, by omega⟩ (fun h20 => ?_) (fun h21 => ?_)
          · refine r_iinc (i := 128) (u := 1) (v := 7) (s := 1) (L1 := [some ((2, 43)), some (vi t), some (vi w0), some (vi bits), some (vi al), some (vi back), some (vi ac), some (vi (m0 + 1))]) rfl rfl rfl rfl rfl ?_
            refine r_goto (i := 129) (v := 98) rfl ?_
            exact ih ac (m0 + 1) ⟨by omega, by omega⟩ ⟨by omega, by omega⟩ (by omega) (by omega) (by omega) (by omega) (by first | assumption | grind) (by omega) (by omega) (by exact q_7) (by exact q_8) (by exact q_9) (by exact nsM_s q_10 (by omega) (by omega)) (by omega)
          · refine r_load (i := 120) (u := 0) (w := 2) rfl rfl rfl ?_
            refine r_getf (i := 121) (v := 15) (w := 11) (x := (2, 56)) rfl ly43 rfl rfl fun _ => ?_
            refine r_load (i := 122) (u := 7) (w := 0) rfl rfl rfl ?_
            refine a_int (i := 123) rfl ly56 rfl (by omega) (by omega) fun h23 => ?_
            have h24 := hI.a ta56 m0.toNat
            refine r_load (i := 124) (u := 5) (w := 0) rfl rfl rfl ?_
            refine c_ne (i := 125) (v := 128) rfl ⟨by omega, by omega⟩ ⟨by omega, by omega⟩ (fun h25 => ?_) (fun h26 => ?_)
            · refine r_iinc (i := 128) (u := 1) (v := 7) (s := 1) (L1 := [some ((2, 43)), some (vi t), some (vi w0), some (vi bits), some (vi al), some (vi back), some (vi ac), some (vi (m0 + 1))]) rfl rfl rfl rfl rfl ?_
              refine r_goto (i := 129) (v := 98) rfl ?_
              exact ih ac (m0 + 1) ⟨by omega, by omega⟩ ⟨by omega, by omega⟩ (by omega) (by omega) (by omega) (by omega) (by first | assumption | grind) (by omega) (by omega) (by exact q_7) (by exact q_8) (by exact q_9) (by exact nsM_s q_10 (by omega) (by omega)) (by omega)
            · refine r_const (i := 126) (u := 0) (z := 0) rfl rfl ?_
              exact r_retZ (i := 127) rfl (by omega) (by omega) ⟨0, rfl, by omega, by omega, (by omega), (by omega), (by omega), (by omega), (by intro hz; first | exact absurd hz (by omega) | assumption | grind), (by omega), (by omega), (by intro hz; first | exact absurd hz (by omega) | exact ⟨q_0, q_1, q_2, q_7, ⟨by omega, q_8⟩, q_9, fun j hj => q_10 j (by omega)⟩), (by intro hz; first | exact absurd hz (by omega) | (intro hc; obtain ⟨c1, c2, c3, c4, c5, c6, c7⟩ := hc; unfold kdC at c5; unfold fmM at c6; first | (exfalso; omega) | exact c7 m0.toNat (by omega) ⟨by omega, by omega, by omega, by omega⟩)), rfl⟩
theorem lp217_63 {G : xk} {d : Nat} {S : yS} (hI : yI S) {t : Int} (h_t : -2147483648 ≤ t ∧ t ≤ 2147483647) {w0 : Int} (h_w0 : -2147483648 ≤ w0 ∧ w0 ≤ 2147483647) {bits : Int} (h_bits : -2147483648 ≤ bits ∧ bits ≤ 2147483647) {al : Int} (h_al : -2147483648 ≤ al ∧ al ≤ 2147483647) {back : Int} (h_back : -2147483648 ≤ back ∧ back ≤ 2147483647) (hd : 3 ≤ d + 1) : ∀ (ac : Int) (h_ac : 0 ≤ ac ∧ ac ≤ 7) (q_0 : 4 ≤ t ∧ t < S.f 43 1) (q_1 : 0 ≤ w0 ∧ w0 ≤ 10) (q_2 : 0 ≤ bits ∧ bits ≤ 63) (q_3 : 0 ≤ al ∧ al < 1048576) (q_4 : KP al) (q_5 : 0 ≤ back ∧ back ≤ 23) (q_6 : w0 = 10 → back = 0) (q_7 : pkC (S.f 43 1) al) (q_8 : 0 < back → kdC (S.f 43 1) back) (q_9 : ac = yand bits 7 ∧ (ac = 0 ∨ ac = 1 ∨ ac = 2 ∨ ac = 4)) (q_10 : w0 = 10 → S.a 44 t.toNat = 0 ∧ bits ≤ 7 ∧ back = 0), yT xPr G LY xC217 63 [some ((2, 43)), some (vi t), some (vi w0), some (vi bits), some (vi al), some (vi back), some (vi ac), none] [] S (d + 1) (fun r S' => ∃ z : Int, r = (1, vi z) ∧ 0 ≤ z ∧ z ≤ 1 ∧ (z = 1 → 4 ≤ t ∧ t < S.f 43 1) ∧ (z = 1 → 0 ≤ w0 ∧ w0 ≤ 10) ∧ (z = 1 → 0 ≤ bits ∧ bits ≤ 63) ∧ (z = 1 → 0 ≤ al ∧ al < 1048576) ∧ (z = 1 → KP al) ∧ (z = 1 → 0 ≤ back ∧ back ≤ 23) ∧ (z = 1 → w0 = 10 → back = 0) ∧ (z = 1 → mbM S t w0 bits al back) ∧ (z = 0 → ¬ mbM S t w0 bits al back) ∧ S = S') := by
  intro ac h_ac q_0 q_1 q_2 q_3 q_4 q_5 q_6 q_7 q_8 q_9 q_10
  have h1 := hI.f tf43_1
  refine r_load (i := 63) (u := 3) (w := 0) rfl rfl rfl ?_
  refine r_const (i := 64) (u := 32) (z := 32) rfl rfl ?_
  refine r_iand (i := 65) rfl ?_
  have h2 := @yand_c bits 32 (by decide) (by decide)
  refine z_le (i := 66) (v := 83) rfl ⟨by omega, by omega⟩ (fun h3 => ?_) (fun h4 => ?_)
  · refine r_load (i := 83) (u := 0) (w := 2) rfl rfl rfl ?_
    refine r_getf (i := 84) (v := 2) (w := 11) (x := (2, 44)) rfl ly43 rfl rfl fun _ => ?_
    refine r_load (i := 85) (u := 1) (w := 0) rfl rfl rfl ?_
    refine a_bool (i := 86) rfl ly44 rfl (by omega) (by omega) fun h6 => ?_
    refine z_eq (i := 87) (v := 96) rfl ⟨by omega, by omega⟩ (fun h7 => ?_) (fun h8 => ?_)
    · refine r_const (i := 96) (u := 0) (z := 0) rfl rfl ?_
      refine r_store (i := 97) (u := 7) (w := 0) (L1 := [some ((2, 43)), some (vi t), some (vi w0), some (vi bits), some (vi al), some (vi back), some (vi ac), some (vi 0)]) rfl rfl rfl rfl ?_
      exact lp217_98 hI h_t h_w0 h_bits h_al h_back   hd _ ac 0 ⟨by omega, by omega⟩ ⟨by omega, by omega⟩ (by omega) (by omega) (by omega) (by omega) (by first | assumption | grind) (by omega) (by omega) (by exact q_7) (by exact q_8) (by unfold fmM; omega) (by exact nsM_0) (Int.lt_succ_toNat _)
    · refine r_load (i := 88) (u := 3) (w := 0) rfl rfl rfl ?_
      refine r_const (i := 89) (u := 1) (z := 1) rfl rfl ?_
      refine c_eq (i := 90) (v := 96) rfl ⟨by omega, by omega⟩ ⟨by omega, by omega⟩ (fun h9 => ?_) (fun h10 => ?_)
      · refine r_const (i := 96) (u := 0) (z := 0) rfl rfl ?_
        refine r_store (i := 97) (u := 7) (w := 0) (L1 := [some ((2, 43)), some (vi t), some (vi w0), some (vi bits), some (vi al), some (vi back), some (vi ac), some (vi 0)]) rfl rfl rfl rfl ?_
        exact lp217_98 hI h_t h_w0 h_bits h_al h_back   hd _ ac 0 ⟨by omega, by omega⟩ ⟨by omega, by omega⟩ (by omega) (by omega) (by omega) (by omega) (by first | assumption | grind) (by omega) (by omega) (by exact q_7) (by exact q_8) (by unfold fmM; omega) (by exact nsM_0) (Int.lt_succ_toNat _)
      · refine r_load (i := 91) (u := 3) (w := 0) rfl rfl rfl ?_
        refine r_const (i := 92) (u := 33) (z := 33) rfl rfl ?_
        refine c_eq (i := 93) (v := 96) rfl ⟨by omega, by omega⟩ ⟨by omega, by omega⟩ (fun h11 => ?_) (fun h12 => ?_)
        · refine r_const (i := 96) (u := 0) (z := 0) rfl rfl ?_
          refine r_store (i := 97) (u := 7) (w := 0) (L1 := [some ((2, 43)), some (vi t), some (vi w0), some (vi bits), some (vi al), some (vi back), some (vi ac), some (vi 0)]) rfl rfl rfl rfl ?_
          exact lp217_98 hI h_t h_w0 h_bits h_al h_back   hd _ ac 0 ⟨by omega, by omega⟩ ⟨by omega, by omega⟩ (by omega) (by omega) (by omega) (by omega) (by first | assumption | grind) (by omega) (by omega) (by exact q_7) (by exact q_8) (by unfold fmM; omega) (by exact nsM_0) (Int.lt_succ_toNat _)
        · refine r_const (i := 94) (u := 0) (z := 0) rfl rfl ?_
          exact r_retZ (i := 95) rfl (by omega) (by omega) ⟨0, rfl, by omega, by omega, (by omega), (by omega), (by omega), (by omega), (by intro hz; first | exact absurd hz (by omega) | assumption | grind), (by omega), (by omega), (by intro hz; first | exact absurd hz (by omega) | exact ⟨q_0, q_1, q_2, q_7, ⟨by omega, q_8⟩, q_9, fun j hj => q_10 j (by omega)⟩), (by intro hz; first | exact absurd hz (by omega) | (intro hc; obtain ⟨c1, c2, c3, c4, c5, c6, c7⟩ := hc; unfold kdC at c5; unfold fmM at c6; first | (exfalso; omega))), rfl⟩
  · refine r_load (i := 67) (u := 3) (w := 0) rfl rfl rfl ?_
    refine r_const (i := 68) (u := 28) (z := 28) rfl rfl ?_
    refine r_iand (i := 69) rfl ?_
    have h13 := @yand_c bits 28 (by decide) (by decide)
    refine z_gt (i := 70) (v := 81) rfl ⟨by omega, by omega⟩ (fun h14 => ?_) (fun h15 => ?_)
    · refine r_const (i := 81) (u := 0) (z := 0) rfl rfl ?_
      exact r_retZ (i := 82) rfl (by omega) (by omega) ⟨0, rfl, by omega, by omega, (by omega), (by omega), (by omega), (by omega), (by intro hz; first | exact absurd hz (by omega) | assumption | grind), (by omega), (by omega), (by intro hz; first | exact absurd hz (by omega) | exact ⟨q_0, q_1, q_2, q_7, ⟨by omega, q_8⟩, q_9, fun j hj => q_10 j (by omega)⟩), (by intro hz; first | exact absurd hz (by omega) | (intro hc; obtain ⟨c1, c2, c3, c4, c5, c6, c7⟩ := hc; unfold kdC at c5; unfold fmM at c6; first | (exfalso; omega))), rfl⟩
    · refine r_load (i := 71) (u := 0) (w := 2) rfl rfl rfl ?_
      refine r_getf (i := 72) (v := 2) (w := 11) (x := (2, 44)) rfl ly43 rfl rfl fun _ => ?_
      refine r_load (i := 73) (u := 1) (w := 0) rfl rfl rfl ?_
      refine a_bool (i := 74) rfl ly44 rfl (by omega) (by omega) fun h17 => ?_
      refine z_ne (i := 75) (v := 83) rfl ⟨by omega, by omega⟩ (fun h18 => ?_) (fun h19 => ?_)
      · refine r_load (i := 83) (u := 0) (w := 2) rfl rfl rfl ?_
        refine r_getf (i := 84) (v := 2) (w := 11) (x := (2, 44)) rfl ly43 rfl rfl fun _ => ?_
        refine r_load (i := 85) (u := 1) (w := 0) rfl rfl rfl ?_
        refine a_bool (i := 86) rfl ly44 rfl (by omega) (by omega) fun h21 => ?_
        refine z_eq (i := 87) (v := 96) rfl ⟨by omega, by omega⟩ (fun h22 => ?_) (fun h23 => ?_)
        · refine r_const (i := 96) (u := 0) (z := 0) rfl rfl ?_
          refine r_store (i := 97) (u := 7) (w := 0) (L1 := [some ((2, 43)), some (vi t), some (vi w0), some (vi bits), some (vi al), some (vi back), some (vi ac), some (vi 0)]) rfl rfl rfl rfl ?_
          exact lp217_98 hI h_t h_w0 h_bits h_al h_back   hd _ ac 0 ⟨by omega, by omega⟩ ⟨by omega, by omega⟩ (by omega) (by omega) (by omega) (by omega) (by first | assumption | grind) (by omega) (by omega) (by exact q_7) (by exact q_8) (by unfold fmM; omega) (by exact nsM_0) (Int.lt_succ_toNat _)
        · refine r_load (i := 88) (u := 3) (w := 0) rfl rfl rfl ?_
          refine r_const (i := 89) (u := 1) (z := 1) rfl rfl ?_
          refine c_eq (i := 90) (v := 96) rfl ⟨by omega, by omega⟩ ⟨by omega, by omega⟩ (fun h24 => ?_) (fun h25 => ?_)
          · refine r_const (i := 96) (u := 0) (z := 0) rfl rfl ?_
            refine r_store (i := 97) (u := 7) (w := 0) (L1 := [some ((2, 43)), some (vi t), some (vi w0), some (vi bits), some (vi al), some (vi back), some (vi ac), some (vi 0)]) rfl rfl rfl rfl ?_
            exact lp217_98 hI h_t h_w0 h_bits h_al h_back   hd _ ac 0 ⟨by omega, by omega⟩ ⟨by omega, by omega⟩ (by omega) (by omega) (by omega) (by omega) (by first | assumption | grind) (by omega) (by omega) (by exact q_7) (by exact q_8) (by unfold fmM; omega) (by exact nsM_0) (Int.lt_succ_toNat _)
          · refine r_load (i := 91) (u := 3) (w := 0) rfl rfl rfl ?_
            refine r_const (i := 92) (u := 33) (z := 33) rfl rfl ?_
            refine c_eq (i := 93) (v := 96) rfl ⟨by omega, by omega⟩ ⟨by omega, by omega⟩ (fun h26 => ?_) (fun h27 => ?_)
            · refine r_const (i := 96) (u := 0) (z := 0) rfl rfl ?_
              refine r_store (i := 97) (u := 7) (w := 0) (L1 := [some ((2, 43)), some (vi t), some (vi w0), some (vi bits), some (vi al), some (vi back), some (vi ac), some (vi 0)]) rfl rfl rfl rfl ?_
              exact lp217_98 hI h_t h_w0 h_bits h_al h_back   hd _ ac 0 ⟨by omega, by omega⟩ ⟨by omega, by omega⟩ (by omega) (by omega) (by omega) (by omega) (by first | assumption | grind) (by omega) (by omega) (by exact q_7) (by exact q_8) (by unfold fmM; omega) (by exact nsM_0) (Int.lt_succ_toNat _)
            · refine r_const (i := 94) (u := 0) (z := 0) rfl rfl ?_
              exact r_retZ (i := 95) rfl (by omega) (by omega) ⟨0, rfl, by omega, by omega, (by omega), (by omega), (by omega), (by omega), (by intro hz; first | exact absurd hz (by omega) | assumption | grind), (by omega), (by omega), (by intro hz; first | exact absurd hz (by omega) | exact ⟨q_0, q_1, q_2, q_7, ⟨by omega, q_8⟩, q_9, fun j hj => q_10 j (by omega)⟩), (by intro hz; first | exact absurd hz (by omega) | (intro hc; obtain ⟨c1, c2, c3, c4, c5, c6, c7⟩ := hc; unfold kdC at c5; unfold fmM at c6; first | (exfalso; omega))), rfl⟩
      · refine r_load (i := 76) (u := 0) (w := 2) rfl rfl rfl ?_
        refine r_getf (i := 77) (v := 5) (w := 11) (x := (2, 47)) rfl ly43 rfl rfl fun _ => ?_
        refine r_load (i := 78) (u := 1) (w := 0) rfl rfl rfl ?_
        refine a_bool (i := 79) rfl ly47 rfl (by omega) (by omega) fun h29 => ?_
        refine z_ne (i := 80) (v := 83) rfl ⟨by omega, by omega⟩ (fun h30 => ?_) (fun h31 => ?_)
        · refine r_load (i := 83) (u := 0) (w := 2) rfl rfl rfl ?_
          refine r_getf (i := 84) (v := 2) (w := 11) (x := (2, 44)) rfl ly43 rfl rfl fun _ => ?_
          refine r_load (i := 85) (u := 1) (w := 0) rfl rfl rfl ?_
          refine a_bool (i := 86) rfl ly44 rfl (by omega) (by omega) fun h33 => ?_
          refine z_eq (i := 87) (v := 96) rfl ⟨by omega, by omega⟩ (fun h34 => ?_) (fun h35 => ?_)
          · refine r_const (i := 96) (u := 0) (z := 0) rfl rfl ?_
            refine r_store (i := 97) (u := 7) (w := 0) (L1 := [some ((2, 43)), some (vi t), some (vi w0), some (vi bits), some (vi al), some (vi back), some (vi ac), some (vi 0)]) rfl rfl rfl rfl ?_
            exact lp217_98 hI h_t h_w0 h_bits h_al h_back   hd _ ac 0 ⟨by omega, by omega⟩ ⟨by omega, by omega⟩ (by omega) (by omega) (by omega) (by omega) (by first | assumption | grind) (by omega) (by omega) (by exact q_7) (by exact q_8) (by unfold fmM; omega) (by exact nsM_0) (Int.lt_succ_toNat _)
          · refine r_load (i := 88) (u := 3) (w := 0) rfl rfl rfl ?_
            refine r_const (i := 89) (u := 1) (z := 1) rfl rfl ?_
            refine c_eq (i := 90) (v := 96) rfl ⟨by omega, by omega⟩ ⟨by omega, by omega⟩ (fun h36 => ?_) (fun h37 => ?_)
            · refine r_const (i := 96) (u := 0) (z := 0) rfl rfl ?_
              refine r_store (i := 97) (u := 7) (w := 0) (L1 := [some ((2, 43)), some (vi t), some (vi w0), some (vi bits), some (vi al), some (vi back), some (vi ac), some (vi 0)]) rfl rfl rfl rfl ?_
              exact lp217_98 hI h_t h_w0 h_bits h_al h_back   hd _ ac 0 ⟨by omega, by omega⟩ ⟨by omega, by omega⟩ (by omega) (by omega) (by omega) (by omega) (by first | assumption | grind) (by omega) (by omega) (by exact q_7) (by exact q_8) (by unfold fmM; omega) (by exact nsM_0) (Int.lt_succ_toNat _)
            · refine r_load (i := 91) (u := 3) (w := 0) rfl rfl rfl ?_
              refine r_const (i := 92) (u := 33) (z := 33) rfl rfl ?_
              refine c_eq (i := 93) (v := 96) rfl ⟨by omega, by omega⟩ ⟨by omega, by omega⟩ (fun h38 => ?_) (fun h39 => ?_)
              · refine r_const (i := 96) (u := 0) (z := 0) rfl rfl ?_
                refine r_store (i := 97) (u := 7) (w := 0) (L1 := [some ((2, 43)), some (vi t), some (vi w0), some (vi bits), some (vi al), some (vi back), some (vi ac), some (vi 0)]) rfl rfl rfl rfl ?_
                exact lp217_98 hI h_t h_w0 h_bits h_al h_back   hd _ ac 0 ⟨by omega, by omega⟩ ⟨by omega, by omega⟩ (by omega) (by omega) (by omega) (by omega) (by first | assumption | grind) (by omega) (by omega) (by exact q_7) (by exact q_8) (by unfold fmM; omega) (by exact nsM_0) (Int.lt_succ_toNat _)
              · refine r_const (i := 94) (u := 0) (z := 0) rfl rfl ?_
                exact r_retZ (i := 95) rfl (by omega) (by omega) ⟨0, rfl, by omega, by omega, (by omega), (by omega), (by omega), (by omega), (by intro hz; first | exact absurd hz (by omega) | assumption | grind), (by omega), (by omega), (by intro hz; first | exact absurd hz (by omega) | exact ⟨q_0, q_1, q_2, q_7, ⟨by omega, q_8⟩, q_9, fun j hj => q_10 j (by omega)⟩), (by intro hz; first | exact absurd hz (by omega) | (intro hc; obtain ⟨c1, c2, c3, c4, c5, c6, c7⟩ := hc; unfold kdC at c5; unfold fmM at c6; first | (exfalso; omega))), rfl⟩
        · refine r_const (i := 81) (u := 0) (z := 0) rfl rfl ?_
          exact r_retZ (i := 82) rfl (by omega) (by omega) ⟨0, rfl, by omega, by omega, (by omega), (by omega), (by omega), (by omega), (by intro hz; first | exact absurd hz (by omega) | assumption | grind), (by omega), (by omega), (by intro hz; first | exact absurd hz (by omega) | exact ⟨q_0, q_1, q_2, q_7, ⟨by omega, q_8⟩, q_9, fun j hj => q_10 j (by omega)⟩), (by intro hz; first | exact absurd hz (by omega) | (intro hc; obtain ⟨c1, c2, c3, c4, c5, c6, c7⟩ := hc; unfold kdC at c5; unfold fmM at c6; first | (exfalso; omega))), rfl⟩
/-- ProxyForgeModel.mayBe -/
theorem sp217 {G : xk} {S : yS} {d : Nat} (hI : yI S) {t : Int} (h_t : -2147483648 ≤ t ∧ t ≤ 2147483647) {w0 : Int} (h_w0 : -2147483648 ≤ w0 ∧ w0 ≤ 2147483647) {bits : Int} (h_bits : -2147483648 ≤ bits ∧ bits ≤ 2147483647) {al : Int} (h_al : -2147483648 ≤ al ∧ al ≤ 2147483647) {back : Int} (h_back : -2147483648 ≤ back ∧ back ≤ 2147483647) (hd : 3 ≤ d) : yT xPr G LY xC217 0 [some ((2, 43)), some (vi t), some (vi w0), some (vi bits), some (vi al), some (vi back)] [] S d (fun r S' => ∃ z : Int, r = (1, vi z) ∧ 0 ≤ z ∧ z ≤ 1 ∧ (z = 1 → 4 ≤ t ∧ t < S.f 43 1) ∧ (z = 1 → 0 ≤ w0 ∧ w0 ≤ 10) ∧ (z = 1 → 0 ≤ bits ∧ bits ≤ 63) ∧ (z = 1 → 0 ≤ al ∧ al < 1048576) ∧ (z = 1 → KP al) ∧ (z = 1 → 0 ≤ back ∧ back ≤ 23) ∧ (z = 1 → w0 = 10 → back = 0) ∧ (z = 1 → mbM S t w0 bits al back) ∧ (z = 0 → ¬ mbM S t w0 bits al back) ∧ S = S') := by
  refine yT_pad 2 ?_
  show yT xPr G LY xC217 0 [some ((2, 43)), some (vi t), some (vi w0), some (vi bits), some (vi al), some (vi back), none, none] [] S d _
  obtain ⟨d, rfl⟩ : ∃ q, d = q + 1 := ⟨d - 1, by omega⟩
  refine r_load (i := 0) (u := 1) (w := 0) rfl rfl rfl ?_
  refine r_const (i := 1) (u := 4) (z := 4) rfl rfl ?_
  refine c_lt (i := 2) (v := 29) rfl ⟨by omega, by omega⟩ ⟨by omega, by omega⟩ (fun h1 => ?_) (fun h2 => ?_)
  · refine r_const (i := 29) (u := 0) (z := 0) rfl rfl ?_
    have h3 := hI.f tf43_1
    exact r_retZ (i := 30) rfl (by omega) (by omega) ⟨0, rfl, by omega, by omega, (by omega), (by omega), (by omega), (by omega), (by intro hz; first | exact absurd hz (by omega) | assumption | grind), (by omega), (by omega), (by intro hz; exact absurd hz (by omega)), (by intro hz; first | exact absurd hz (by omega) | (intro hc; obtain ⟨c1, c2, c3, c4, c5, c6, c7⟩ := hc; unfold kdC at c5; unfold fmM at c6; first | (exfalso; omega))), rfl⟩
  · refine r_load (i := 3) (u := 1) (w := 0) rfl rfl rfl ?_
    refine r_load (i := 4) (u := 0) (w := 2) rfl rfl rfl ?_
    have h4 := hI.f tf43_1
    refine r_getf (i := 5) (v := 1) (w := 11) (x := vi (S.f 43 1)) rfl ly43 rfl rfl fun h5 => ?_
    have h5 : Rg (S.f 43 1) := h5
    refine c_ge (i := 6) (v := 29) rfl ⟨by omega, by omega⟩ ⟨by omega, by omega⟩ (fun h6 => ?_) (fun h7 => ?_)
    · refine r_const (i := 29) (u := 0) (z := 0) rfl rfl ?_
      exact r_retZ (i := 30) rfl (by omega) (by omega) ⟨0, rfl, by omega, by omega, (by omega), (by omega), (by omega), (by omega), (by intro hz; first | exact absurd hz (by omega) | assumption | grind), (by omega), (by omega), (by intro hz; exact absurd hz (by omega)), (by intro hz; first | exact absurd hz (by omega) | (intro hc; obtain ⟨c1, c2, c3, c4, c5, c6, c7⟩ := hc; unfold kdC at c5; unfold fmM at c6; first | (exfalso; omega))), rfl⟩
    · refine r_load (i := 7) (u := 2) (w := 0) rfl rfl rfl ?_
      refine z_lt (i := 8) (v := 29) rfl ⟨by omega, by omega⟩ (fun h8 => ?_) (fun h9 => ?_)
      · refine r_const (i := 29) (u := 0) (z := 0) rfl rfl ?_
        exact r_retZ (i := 30) rfl (by omega) (by omega) ⟨0, rfl, by omega, by omega, (by omega), (by omega), (by omega), (by omega), (by intro hz; first | exact absurd hz (by omega) | assumption | grind), (by omega), (by omega), (by intro hz; exact absurd hz (by omega)), (by intro hz; first | exact absurd hz (by omega) | (intro hc; obtain ⟨c1, c2, c3, c4, c5, c6, c7⟩ := hc; unfold kdC at c5; unfold fmM at c6; first | (exfalso; omega))), rfl⟩
      · refine r_load (i := 9) (u := 2) (w := 0) rfl rfl rfl ?_
        refine r_const (i := 10) (u := 10) (z := 10) rfl rfl ?_
        refine c_gt (i := 11) (v := 29) rfl ⟨by omega, by omega⟩ ⟨by omega, by omega⟩ (fun h10 => ?_) (fun h11 => ?_)
        · refine r_const (i := 29) (u := 0) (z := 0) rfl rfl ?_
          exact r_retZ (i := 30) rfl (by omega) (by omega) ⟨0, rfl, by omega, by omega, (by omega), (by omega), (by omega), (by omega), (by intro hz; first | exact absurd hz (by omega) | assumption | grind), (by omega), (by omega), (by intro hz; exact absurd hz (by omega)), (by intro hz; first | exact absurd hz (by omega) | (intro hc; obtain ⟨c1, c2, c3, c4, c5, c6, c7⟩ := hc; unfold kdC at c5; unfold fmM at c6; first | (exfalso; omega))), rfl⟩
        · refine r_load (i := 12) (u := 3) (w := 0) rfl rfl rfl ?_
          refine z_lt (i := 13) (v := 29) rfl ⟨by omega, by omega⟩ (fun h12 => ?_) (fun h13 => ?_)
          · refine r_const (i := 29) (u := 0) (z := 0) rfl rfl ?_
            exact r_retZ (i := 30) rfl (by omega) (by omega) ⟨0, rfl, by omega, by omega, (by omega), (by omega), (by omega), (by omega), (by intro hz; first | exact absurd hz (by omega) | assumption | grind), (by omega), (by omega), (by intro hz; exact absurd hz (by omega)), (by intro hz; first | exact absurd hz (by omega) | (intro hc; obtain ⟨c1, c2, c3, c4, c5, c6, c7⟩ := hc; unfold kdC at c5; unfold fmM at c6; first | (exfalso; omega))), rfl⟩
          · refine r_load (i := 14) (u := 3) (w := 0) rfl rfl rfl ?_
            refine r_const (i := 15) (u := 63) (z := 63) rfl rfl ?_
            refine c_gt (i := 16) (v := 29) rfl ⟨by omega, by omega⟩ ⟨by omega, by omega⟩ (fun h14 => ?_) (fun h15 => ?_)
            · refine r_const (i := 29) (u := 0) (z := 0) rfl rfl ?_
              exact r_retZ (i := 30) rfl (by omega) (by omega) ⟨0, rfl, by omega, by omega, (by omega), (by omega), (by omega), (by omega), (by intro hz; first | exact absurd hz (by omega) | assumption | grind), (by omega), (by omega), (by intro hz; exact absurd hz (by omega)), (by intro hz; first | exact absurd hz (by omega) | (intro hc; obtain ⟨c1, c2, c3, c4, c5, c6, c7⟩ := hc; unfold kdC at c5; unfold fmM at c6; first | (exfalso; omega))), rfl⟩
            · refine r_load (i := 17) (u := 0) (w := 2) rfl rfl rfl ?_
              refine r_load (i := 18) (u := 4) (w := 0) rfl rfl rfl ?_
              refine r_call (i := 19) (u := 11) (v := 182) (w := 0) (b := 0) (na := 1282) (C2 := xC182) (as := [(2, 43), vi al]) (s := []) rfl rfl rfl rfl rfl rfl rfl (sp182 (a := al) hI ⟨by omega, by omega⟩   (by omega)) (fun r16 S17 hq18 => ?_)
              obtain ⟨z19, rfl, h20, h21, h22, h23, yp24, np25, rfl⟩ := hq18
              refine Or.inr (Or.inl ⟨rfl, ?_⟩)
              refine z_eq (i := 20) (v := 29) rfl ⟨by omega, by omega⟩ (fun h26 => ?_) (fun h27 => ?_)
              · refine r_const (i := 29) (u := 0) (z := 0) rfl rfl ?_
                exact r_retZ (i := 30) rfl (by omega) (by omega) ⟨0, rfl, by omega, by omega, (by omega), (by omega), (by omega), (by omega), (by intro hz; first | exact absurd hz (by omega) | assumption | grind), (by omega), (by omega), (by intro hz; exact absurd hz (by omega)), (by intro hz; first | exact absurd hz (by omega) | (intro hc; obtain ⟨c1, c2, c3, c4, c5, c6, c7⟩ := hc; unfold kdC at c5; unfold fmM at c6; first | (exfalso; omega) | exact absurd c4 (np25 (by omega)))), rfl⟩
              · refine r_load (i := 21) (u := 5) (w := 0) rfl rfl rfl ?_
                refine z_lt (i := 22) (v := 29) rfl ⟨by omega, by omega⟩ (fun h28 => ?_) (fun h29 => ?_)
                · refine r_const (i := 29) (u := 0) (z := 0) rfl rfl ?_
                  exact r_retZ (i := 30) rfl (by omega) (by omega) ⟨0, rfl, by omega, by omega, (by omega), (by omega), (by omega), (by omega), (by intro hz; first | exact absurd hz (by omega) | assumption | grind), (by omega), (by omega), (by intro hz; exact absurd hz (by omega)), (by intro hz; first | exact absurd hz (by omega) | (intro hc; obtain ⟨c1, c2, c3, c4, c5, c6, c7⟩ := hc; unfold kdC at c5; unfold fmM at c6; first | (exfalso; omega) | exact absurd c4 (np25 (by omega)))), rfl⟩
                · refine r_load (i := 23) (u := 5) (w := 0) rfl rfl rfl ?_
                  refine z_le (i := 24) (v := 31) rfl ⟨by omega, by omega⟩ (fun h30 => ?_) (fun h31 => ?_)
                  · refine r_load (i := 31) (u := 3) (w := 0) rfl rfl rfl ?_
                    refine r_const (i := 32) (u := 7) (z := 7) rfl rfl ?_
                    refine r_iand (i := 33) rfl ?_
                    have h32 := @yand_c bits 7 (by decide) (by decide)
                    refine r_store (i := 34) (u := 6) (w := 0) (L1 := [some ((2, 43)), some (vi t), some (vi w0), some (vi bits), some (vi al), some (vi back), some (vi (yand bits 7)), none]) rfl rfl rfl rfl ?_
                    refine r_load (i := 35) (u := 6) (w := 0) rfl rfl rfl ?_
                    refine z_eq (i := 36) (v := 48) rfl ⟨by omega, by omega⟩ (fun h33 => ?_) (fun h34 => ?_)
                    · refine r_load (i := 48) (u := 2) (w := 0) rfl rfl rfl ?_
                      refine r_const (i := 49) (u := 10) (z := 10) rfl rfl ?_
                      refine c_ne (i := 50) (v := 63) rfl ⟨by omega, by omega⟩ ⟨by omega, by omega⟩ (fun h35 => ?_) (fun h36 => ?_)
                      · exact lp217_63 hI h_t h_w0 h_bits h_al h_back   hd (yand bits 7) ⟨by omega, by omega⟩ (by omega) (by omega) (by omega) (by omega) (by first | assumption | grind) (by omega) (by omega) (by exact yp24 (by omega)) (by unfold kdC; omega) (by omega) (by omega) 
                      · refine r_load (i := 51) (u := 0) (w := 2) rfl rfl rfl ?_
                        refine r_getf (i := 52) (v := 2) (w := 11) (x := (2, 44)) rfl ly43 rfl rfl fun _ => ?_
                        refine r_load (i := 53) (u := 1) (w := 0) rfl rfl rfl ?_
                        refine a_bool (i := 54) rfl ly44 rfl (by omega) (by omega) fun h38 => ?_
                        refine z_ne (i := 55) (v := 61) rfl ⟨by omega, by omega⟩ (fun h39 => ?_) (fun h40 => ?_)
                        · refine r_const (i := 61) (u := 0) (z := 0) rfl rfl ?_
                          exact r_retZ (i := 62) rfl (by omega) (by omega) ⟨0, rfl, by omega, by omega, (by omega), (by omega), (by omega), (by omega), (by intro hz; first | exact absurd hz (by omega) | assumption | grind), (by omega), (by omega), (by intro hz; exact absurd hz (by omega)), (by intro hz; first | exact absurd hz (by omega) | (intro hc; obtain ⟨c1, c2, c3, c4, c5, c6, c7⟩ := hc; unfold kdC at c5; unfold fmM at c6; first | (exfalso; omega) | exact absurd c4 (np25 (by omega)))), rfl⟩
                        · refine r_load (i := 56) (u := 3) (w := 0) rfl rfl rfl ?_
                          refine r_const (i := 57) (u := 7) (z := 7) rfl rfl ?_
                          refine c_gt (i := 58) (v := 61) rfl ⟨by omega, by omega⟩ ⟨by omega, by omega⟩ (fun h41 => ?_) (fun h42 => ?_)
                          · refine r_const (i := 61) (u := 0) (z := 0) rfl rfl ?_
                            exact r_retZ (i := 62) rfl (by omega) (by omega) ⟨0, rfl, by omega, by omega, (by omega), (by omega), (by omega), (by omega), (by intro hz; first | exact absurd hz (by omega) | assumption | grind), (by omega), (by omega), (by intro hz; exact absurd hz (by omega)), (by intro hz; first | exact absurd hz (by omega) | (intro hc; obtain ⟨c1, c2, c3, c4, c5, c6, c7⟩ := hc; unfold kdC at c5; unfold fmM at c6; first | (exfalso; omega) | exact absurd c4 (np25 (by omega)))), rfl⟩
                          · refine r_load (i := 59) (u := 5) (w := 0) rfl rfl rfl ?_
                            refine z_eq (i := 60) (v := 63) rfl ⟨by omega, by omega⟩ (fun h43 => ?_) (fun h44 => ?_)
                            · exact lp217_63 hI h_t h_w0 h_bits h_al h_back   hd (yand bits 7) ⟨by omega, by omega⟩ (by omega) (by omega) (by omega) (by omega) (by first | assumption | grind) (by omega) (by omega) (by exact yp24 (by omega)) (by unfold kdC; omega) (by omega) (by omega) 
                            · refine r_const (i := 61) (u := 0) (z := 0) rfl rfl ?_
                              exact r_retZ (i := 62) rfl (by omega) (by omega) ⟨0, rfl, by omega, by omega, (by omega), (by omega), (by omega), (by omega), (by intro hz; first | exact absurd hz (by omega) | assumption | grind), (by omega), (by omega), (by intro hz; exact absurd hz (by omega)), (by intro hz; first | exact absurd hz (by omega) | (intro hc; obtain ⟨c1, c2, c3, c4, c5, c6, c7⟩ := hc; unfold kdC at c5; unfold fmM at c6; first | (exfalso; omega) | exact absurd c4 (np25 (by omega)))), rfl⟩
                    · refine r_load (i := 37) (u := 6) (w := 0) rfl rfl rfl ?_
                      refine r_const (i := 38) (u := 1) (z := 1) rfl rfl ?_
                      refine c_eq (i := 39) (v := 48) rfl ⟨by omega, by omega⟩ ⟨by omega, by omega⟩ (fun h45 => ?_) (fun h46 => ?_)
                      · refine r_load (i := 48) (u := 2) (w := 0) rfl rfl rfl ?_
                        refine r_const (i := 49) (u := 10) (z := 10) rfl rfl ?_
                        refine c_ne (i := 50) (v := 63) rfl ⟨by omega, by omega⟩ ⟨by omega, by omega⟩ (fun h47 => ?_) (fun h48 => ?_)
                        · exact lp217_63 hI h_t h_w0 h_bits h_al h_back   hd (yand bits 7) ⟨by omega, by omega⟩ (by omega) (by omega) (by omega) (by omega) (by first | assumption | grind) (by omega) (by omega) (by exact yp24 (by omega)) (by unfold kdC; omega) (by omega) (by omega) 
                        · refine r_load (i := 51) (u := 0) (w := 2) rfl rfl rfl ?_
                          refine r_getf (i := 52) (v := 2) (w := 11) (x := (2, 44)) rfl ly43 rfl rfl fun _ => ?_
                          refine r_load (i := 53) (u := 1) (w := 0) rfl rfl rfl ?_
                          refine a_bool (i := 54) rfl ly44 rfl (by omega) (by omega) fun h50 => ?_
                          refine z_ne (i := 55) (v := 61) rfl ⟨by omega, by omega⟩ (fun h51 => ?_) (fun h52 => ?_)
                          · refine r_const (i := 61) (u := 0) (z := 0) rfl rfl ?_
                            exact r_retZ (i := 62) rfl (by omega) (by omega) ⟨0, rfl, by omega, by omega, (by omega), (by omega), (by omega), (by omega), (by intro hz; first | exact absurd hz (by omega) | assumption | grind), (by omega), (by omega), (by intro hz; exact absurd hz (by omega)), (by intro hz; first | exact absurd hz (by omega) | (intro hc; obtain ⟨c1, c2, c3, c4, c5, c6, c7⟩ := hc; unfold kdC at c5; unfold fmM at c6; first | (exfalso; omega) | exact absurd c4 (np25 (by omega)))), rfl⟩
                          · refine r_load (i := 56) (u := 3) (w := 0) rfl rfl rfl ?_
                            refine r_const (i := 57) (u := 7) (z := 7) rfl rfl ?_
                            refine c_gt (i := 58) (v := 61) rfl ⟨by omega, by omega⟩ ⟨by omega, by omega⟩ (fun h53 => ?_) (fun h54 => ?_)
                            · refine r_const (i := 61) (u := 0) (z := 0) rfl rfl ?_
                              exact r_retZ (i := 62) rfl (by omega) (by omega) ⟨0, rfl, by omega, by omega, (by omega), (by omega), (by omega), (by omega), (by intro hz; first | exact absurd hz (by omega) | assumption | grind), (by omega), (by omega), (by intro hz; exact absurd hz (by omega)), (by intro hz; first | exact absurd hz (by omega) | (intro hc; obtain ⟨c1, c2, c3, c4, c5, c6, c7⟩ := hc; unfold kdC at c5; unfold fmM at c6; first | (exfalso; omega) | exact absurd c4 (np25 (by omega)))), rfl⟩
                            · refine r_load (i := 59) (u := 5) (w := 0) rfl rfl rfl ?_
                              refine z_eq (i := 60) (v := 63) rfl ⟨by omega, by omega⟩ (fun h55 => ?_) (fun h56 => ?_)
                              · exact lp217_63 hI h_t h_w0 h_bits h_al h_back   hd (yand bits 7) ⟨by omega, by omega⟩ (by omega) (by omega) (by omega) (by omega) (by first | assumption | grind) (by omega) (by omega) (by exact yp24 (by omega)) (by unfold kdC; omega) (by omega) (by omega) 
                              · refine r_const (i := 61) (u := 0) (z := 0) rfl rfl ?_
                                exact r_retZ (i := 62) rfl (by omega) (by omega) ⟨0, rfl, by omega, by omega, (by omega), (by omega), (by omega), (by omega), (by intro hz; first | exact absurd hz (by omega) | assumption | grind), (by omega), (by omega), (by intro hz; exact absurd hz (by omega)), (by intro hz; first | exact absurd hz (by omega) | (intro hc; obtain ⟨c1, c2, c3, c4, c5, c6, c7⟩ := hc; unfold kdC at c5; unfold fmM at c6; first | (exfalso; omega) | exact absurd c4 (np25 (by omega)))), rfl⟩
                      · refine r_load (i := 40) (u := 6) (w := 0) rfl rfl rfl ?_
                        refine r_const (i := 41) (u := 2) (z := 2) rfl rfl ?_
                        refine c_eq (i := 42) (v := 48) rfl ⟨by omega, by omega⟩ ⟨by omega, by omega⟩ (fun h57 => ?_) (fun h58 => ?_)
                        · refine r_load (i := 48) (u := 2) (w := 0) rfl rfl rfl ?_
                          refine r_const (i := 49) (u := 10) (z := 10) rfl rfl ?_
                          refine c_ne (i := 50) (v := 63) rfl ⟨by omega, by omega⟩ ⟨by omega, by omega⟩ (fun h59 => ?_) (fun h60 => ?_)
                          · exact lp217_63 hI h_t h_w0 h_bits h_al h_back   hd (yand bits 7) ⟨by omega, by omega⟩ (by omega) (by omega) (by omega) (by omega) (by first | assumption | grind) (by omega) (by omega) (by exact yp24 (by omega)) (by unfold kdC; omega) (by omega) (by omega) 
                          · refine r_load (i := 51) (u := 0) (w := 2) rfl rfl rfl ?_
                            refine r_getf (i := 52) (v := 2) (w := 11) (x := (2, 44)) rfl ly43 rfl rfl fun _ => ?_
                            refine r_load (i := 53) (u := 1) (w := 0) rfl rfl rfl ?_
                            refine a_bool (i := 54) rfl ly44 rfl (by omega) (by omega) fun h62 => ?_
                            refine z_ne (i := 55) (v := 61) rfl ⟨by omega, by omega⟩ (fun h63 => ?_) (fun h64 => ?_)
                            · refine r_const (i := 61) (u := 0) (z := 0) rfl rfl ?_
                              exact r_retZ (i := 62) rfl (by omega) (by omega) ⟨0, rfl, by omega, by omega, (by omega), (by omega), (by omega), (by omega), (by intro hz; first | exact absurd hz (by omega) | assumption | grind), (by omega), (by omega), (by intro hz; exact absurd hz (by omega)), (by intro hz; first | exact absurd hz (by omega) | (intro hc; obtain ⟨c1, c2, c3, c4, c5, c6, c7⟩ := hc; unfold kdC at c5; unfold fmM at c6; first | (exfalso; omega) | exact absurd c4 (np25 (by omega)))), rfl⟩
                            · refine r_load (i := 56) (u := 3) (w := 0) rfl rfl rfl ?_
                              refine r_const (i := 57) (u := 7) (z := 7) rfl rfl ?_
                              refine c_gt (i := 58) (v := 61) rfl ⟨by omega, by omega⟩ ⟨by omega, by omega⟩ (fun h65 => ?_) (fun h66 => ?_)
                              · refine r_const (i := 61) (u := 0) (z := 0) rfl rfl ?_
                                exact r_retZ (i := 62) rfl (by omega) (by omega) ⟨0, rfl, by omega, by omega, (by omega), (by omega), (by omega), (by omega), (by intro hz; first | exact absurd hz (by omega) | assumption | grind), (by omega), (by omega), (by intro hz; exact absurd hz (by omega)), (by intro hz; first | exact absurd hz (by omega) | (intro hc; obtain ⟨c1, c2, c3, c4, c5, c6, c7⟩ := hc; unfold kdC at c5; unfold fmM at c6; first | (exfalso; omega) | exact absurd c4 (np25 (by omega)))), rfl⟩
                              · refine r_load (i := 59) (u := 5) (w := 0) rfl rfl rfl ?_
                                refine z_eq (i := 60) (v := 63) rfl ⟨by omega, by omega⟩ (fun h67 => ?_) (fun h68 => ?_)
                                · exact lp217_63 hI h_t h_w0 h_bits h_al h_back   hd (yand bits 7) ⟨by omega, by omega⟩ (by omega) (by omega) (by omega) (by omega) (by first | assumption | grind) (by omega) (by omega) (by exact yp24 (by omega)) (by unfold kdC; omega) (by omega) (by omega) 
                                · refine r_const (i := 61) (u := 0) (z := 0) rfl rfl ?_
                                  exact r_retZ (i := 62) rfl (by omega) (by omega) ⟨0, rfl, by omega, by omega, (by omega), (by omega), (by omega), (by omega), (by intro hz; first | exact absurd hz (by omega) | assumption | grind), (by omega), (by omega), (by intro hz; exact absurd hz (by omega)), (by intro hz; first | exact absurd hz (by omega) | (intro hc; obtain ⟨c1, c2, c3, c4, c5, c6, c7⟩ := hc; unfold kdC at c5; unfold fmM at c6; first | (exfalso; omega) | exact absurd c4 (np25 (by omega)))), rfl⟩
                        · refine r_load (i := 43) (u := 6) (w := 0) rfl rfl rfl ?_
                          refine r_const (i := 44) (u := 4) (z := 4) rfl rfl ?_
                          refine c_eq (i := 45) (v := 48) rfl ⟨by omega, by omega⟩ ⟨by omega, by omega⟩ (fun h69 => ?_) (fun h70 => ?_)
                          · refine r_load (i := 48) (u := 2) (w := 0) rfl rfl rfl ?_
                            refine r_const (i := 49) (u := 10) (z := 10) rfl rfl ?_
                            refine c_ne (i := 50) (v := 63) rfl ⟨by omega, by omega⟩ ⟨by omega, by omega⟩ (fun h71 => ?_) (fun h72 => ?_)
                            · exact lp217_63 hI h_t h_w0 h_bits h_al h_back   hd (yand bits 7) ⟨by omega, by omega⟩ (by omega) (by omega) (by omega) (by omega) (by first | assumption | grind) (by omega) (by omega) (by exact yp24 (by omega)) (by unfold kdC; omega) (by omega) (by omega) 
                            · refine r_load (i := 51) (u := 0) (w := 2) rfl rfl rfl ?_
                              refine r_getf (i := 52) (v := 2) (w := 11) (x := (2, 44)) rfl ly43 rfl rfl fun _ => ?_
                              refine r_load (i := 53) (u := 1) (w := 0) rfl rfl rfl ?_
                              refine a_bool (i := 54) rfl ly44 rfl (by omega) (by omega) fun h74 => ?_
                              refine z_ne (i := 55) (v := 61) rfl ⟨by omega, by omega⟩ (fun h75 => ?_) (fun h76 => ?_)
                              · refine r_const (i := 61) (u := 0) (z := 0) rfl rfl ?_
                                exact r_retZ (i := 62) rfl (by omega) (by omega) ⟨0, rfl, by omega, by omega, (by omega), (by omega), (by omega), (by omega), (by intro hz; first | exact absurd hz (by omega) | assumption | grind), (by omega), (by omega), (by intro hz; exact absurd hz (by omega)), (by intro hz; first | exact absurd hz (by omega) | (intro hc; obtain ⟨c1, c2, c3, c4, c5, c6, c7⟩ := hc; unfold kdC at c5; unfold fmM at c6; first | (exfalso; omega) | exact absurd c4 (np25 (by omega)))), rfl⟩
                              · refine r_load (i := 56) (u := 3) (w := 0) rfl rfl rfl ?_
                                refine r_const (i := 57) (u := 7) (z := 7) rfl rfl ?_
                                refine c_gt (i := 58) (v := 61) rfl ⟨by omega, by omega⟩ ⟨by omega, by omega⟩ (fun h77 => ?_) (fun h78 => ?_)
                                · refine r_const (i := 61) (u := 0) (z := 0) rfl rfl ?_
                                  exact r_retZ (i := 62) rfl (by omega) (by omega) ⟨0, rfl, by omega, by omega, (by omega), (by omega), (by omega), (by omega), (by intro hz; first | exact absurd hz (by omega) | assumption | grind), (by omega), (by omega), (by intro hz; exact absurd hz (by omega)), (by intro hz; first | exact absurd hz (by omega) | (intro hc; obtain ⟨c1, c2, c3, c4, c5, c6, c7⟩ := hc; unfold kdC at c5; unfold fmM at c6; first | (exfalso; omega) | exact absurd c4 (np25 (by omega)))), rfl⟩
                                · refine r_load (i := 59) (u := 5) (w := 0) rfl rfl rfl ?_
                                  refine z_eq (i := 60) (v := 63) rfl ⟨by omega, by omega⟩ (fun h79 => ?_) (fun h80 => ?_)
                                  · exact lp217_63 hI h_t h_w0 h_bits h_al h_back   hd (yand bits 7) ⟨by omega, by omega⟩ (by omega) (by omega) (by omega) (by omega) (by first | assumption | grind) (by omega) (by omega) (by exact yp24 (by omega)) (by unfold kdC; omega) (by omega) (by omega) 
                                  · refine r_const (i := 61) (u := 0) (z := 0) rfl rfl ?_
                                    exact r_retZ (i := 62) rfl (by omega) (by omega) ⟨0, rfl, by omega, by omega, (by omega), (by omega), (by omega), (by omega), (by intro hz; first | exact absurd hz (by omega) | assumption | grind), (by omega), (by omega), (by intro hz; exact absurd hz (by omega)), (by intro hz; first | exact absurd hz (by omega) | (intro hc; obtain ⟨c1, c2, c3, c4, c5, c6, c7⟩ := hc; unfold kdC at c5; unfold fmM at c6; first | (exfalso; omega) | exact absurd c4 (np25 (by omega)))), rfl⟩
                          · refine r_const (i := 46) (u := 0) (z := 0) rfl rfl ?_
                            exact r_retZ (i := 47) rfl (by omega) (by omega) ⟨0, rfl, by omega, by omega, (by omega), (by omega), (by omega), (by omega), (by intro hz; first | exact absurd hz (by omega) | assumption | grind), (by omega), (by omega), (by intro hz; exact absurd hz (by omega)), (by intro hz; first | exact absurd hz (by omega) | (intro hc; obtain ⟨c1, c2, c3, c4, c5, c6, c7⟩ := hc; unfold kdC at c5; unfold fmM at c6; first | (exfalso; omega) | exact absurd c4 (np25 (by omega)))), rfl⟩
                  · refine r_load (i := 25) (u := 0) (w := 2) rfl rfl rfl ?_
                    refine r_load (i := 26) (u := 5) (w := 0) rfl rfl rfl ?_
                    refine r_call (i := 27) (u := 11) (v := 210) (w := 0) (b := 0) (na := 514) (C2 := xC210) (as := [(2, 43), vi back]) (s := []) rfl rfl rfl rfl rfl rfl rfl (sp210 (k := back) hI ⟨by omega, by omega⟩   (by omega)) (fun r81 S82 hq83 => ?_)
                    obtain ⟨z84, rfl, h85, h86, h87, h88, rfl⟩ := hq83
                    refine Or.inr (Or.inl ⟨rfl, ?_⟩)
                    refine z_ne (i := 28) (v := 31) rfl ⟨by omega, by omega⟩ (fun h89 => ?_) (fun h90 => ?_)
                    · refine r_load (i := 31) (u := 3) (w := 0) rfl rfl rfl ?_
                      refine r_const (i := 32) (u := 7) (z := 7) rfl rfl ?_
                      refine r_iand (i := 33) rfl ?_
                      have h91 := @yand_c bits 7 (by decide) (by decide)
                      refine r_store (i := 34) (u := 6) (w := 0) (L1 := [some ((2, 43)), some (vi t), some (vi w0), some (vi bits), some (vi al), some (vi back), some (vi (yand bits 7)), none]) rfl rfl rfl rfl ?_
                      refine r_load (i := 35) (u := 6) (w := 0) rfl rfl rfl ?_
                      refine z_eq (i := 36) (v := 48) rfl ⟨by omega, by omega⟩ (fun h92 => ?_) (fun h93 => ?_)
                      · refine r_load (i := 48) (u := 2) (w := 0) rfl rfl rfl ?_
                        refine r_const (i := 49) (u := 10) (z := 10) rfl rfl ?_
                        refine c_ne (i := 50) (v := 63) rfl ⟨by omega, by omega⟩ ⟨by omega, by omega⟩ (fun h94 => ?_) (fun h95 => ?_)
                        · exact lp217_63 hI h_t h_w0 h_bits h_al h_back   hd (yand bits 7) ⟨by omega, by omega⟩ (by omega) (by omega) (by omega) (by omega) (by first | assumption | grind) (by omega) (by omega) (by exact yp24 (by omega)) (by unfold kdC; omega) (by omega) (by omega) 
                        · refine r_load (i := 51) (u := 0) (w := 2) rfl rfl rfl ?_
                          refine r_getf (i := 52) (v := 2) (w := 11) (x := (2, 44)) rfl ly43 rfl rfl fun _ => ?_
                          refine r_load (i := 53) (u := 1) (w := 0) rfl rfl rfl ?_
                          refine a_bool (i := 54) rfl ly44 rfl (by omega) (by omega) fun h97 => ?_
                          refine z_ne (i := 55) (v := 61) rfl ⟨by omega, by omega⟩ (fun h98 => ?_) (fun h99 => ?_)
                          · refine r_const (i := 61) (u := 0) (z := 0) rfl rfl ?_
                            exact r_retZ (i := 62) rfl (by omega) (by omega) ⟨0, rfl, by omega, by omega, (by omega), (by omega), (by omega), (by omega), (by intro hz; first | exact absurd hz (by omega) | assumption | grind), (by omega), (by omega), (by intro hz; exact absurd hz (by omega)), (by intro hz; first | exact absurd hz (by omega) | (intro hc; obtain ⟨c1, c2, c3, c4, c5, c6, c7⟩ := hc; unfold kdC at c5; unfold fmM at c6; first | (exfalso; omega) | exact absurd c4 (np25 (by omega)))), rfl⟩
                          · refine r_load (i := 56) (u := 3) (w := 0) rfl rfl rfl ?_
                            refine r_const (i := 57) (u := 7) (z := 7) rfl rfl ?_
                            refine c_gt (i := 58) (v := 61) rfl ⟨by omega, by omega⟩ ⟨by omega, by omega⟩ (fun h100 => ?_) (fun h101 => ?_)
                            · refine r_const (i := 61) (u := 0) (z := 0) rfl rfl ?_
                              exact r_retZ (i := 62) rfl (by omega) (by omega) ⟨0, rfl, by omega, by omega, (by omega), (by omega), (by omega), (by omega), (by intro hz; first | exact absurd hz (by omega) | assumption | grind), (by omega), (by omega), (by intro hz; exact absurd hz (by omega)), (by intro hz; first | exact absurd hz (by omega) | (intro hc; obtain ⟨c1, c2, c3, c4, c5, c6, c7⟩ := hc; unfold kdC at c5; unfold fmM at c6; first | (exfalso; omega) | exact absurd c4 (np25 (by omega)))), rfl⟩
                            · refine r_load (i := 59) (u := 5) (w := 0) rfl rfl rfl ?_
                              refine z_eq (i := 60) (v := 63) rfl ⟨by omega, by omega⟩ (fun h102 => ?_) (fun h103 => ?_)
                              · exact lp217_63 hI h_t h_w0 h_bits h_al h_back   hd (yand bits 7) ⟨by omega, by omega⟩ (by omega) (by omega) (by omega) (by omega) (by first | assumption | grind) (by omega) (by omega) (by exact yp24 (by omega)) (by unfold kdC; omega) (by omega) (by omega) 
                              · refine r_const (i := 61) (u := 0) (z := 0) rfl rfl ?_
                                exact r_retZ (i := 62) rfl (by omega) (by omega) ⟨0, rfl, by omega, by omega, (by omega), (by omega), (by omega), (by omega), (by intro hz; first | exact absurd hz (by omega) | assumption | grind), (by omega), (by omega), (by intro hz; exact absurd hz (by omega)), (by intro hz; first | exact absurd hz (by omega) | (intro hc; obtain ⟨c1, c2, c3, c4, c5, c6, c7⟩ := hc; unfold kdC at c5; unfold fmM at c6; first | (exfalso; omega) | exact absurd c4 (np25 (by omega)))), rfl⟩
                      · refine r_load (i := 37) (u := 6) (w := 0) rfl rfl rfl ?_
                        refine r_const (i := 38) (u := 1) (z := 1) rfl rfl ?_
                        refine c_eq (i := 39) (v := 48) rfl ⟨by omega, by omega⟩ ⟨by omega, by omega⟩ (fun h104 => ?_) (fun h105 => ?_)
                        · refine r_load (i := 48) (u := 2) (w := 0) rfl rfl rfl ?_
                          refine r_const (i := 49) (u := 10) (z := 10) rfl rfl ?_
                          refine c_ne (i := 50) (v := 63) rfl ⟨by omega, by omega⟩ ⟨by omega, by omega⟩ (fun h106 => ?_) (fun h107 => ?_)
                          · exact lp217_63 hI h_t h_w0 h_bits h_al h_back   hd (yand bits 7) ⟨by omega, by omega⟩ (by omega) (by omega) (by omega) (by omega) (by first | assumption | grind) (by omega) (by omega) (by exact yp24 (by omega)) (by unfold kdC; omega) (by omega) (by omega) 
                          · refine r_load (i := 51) (u := 0) (w := 2) rfl rfl rfl ?_
                            refine r_getf (i := 52) (v := 2) (w := 11) (x := (2, 44)) rfl ly43 rfl rfl fun _ => ?_
                            refine r_load (i := 53) (u := 1) (w := 0) rfl rfl rfl ?_
                            refine a_bool (i := 54) rfl ly44 rfl (by omega) (by omega) fun h109 => ?_
                            refine z_ne (i := 55) (v := 61) rfl ⟨by omega, by omega⟩ (fun h110 => ?_) (fun h111 => ?_)
                            · refine r_const (i := 61) (u := 0) (z := 0) rfl rfl ?_
                              exact r_retZ (i := 62) rfl (by omega) (by omega) ⟨0, rfl, by omega, by omega, (by omega), (by omega), (by omega), (by omega), (by intro hz; first | exact absurd hz (by omega) | assumption | grind), (by omega), (by omega), (by intro hz; exact absurd hz (by omega)), (by intro hz; first | exact absurd hz (by omega) | (intro hc; obtain ⟨c1, c2, c3, c4, c5, c6, c7⟩ := hc; unfold kdC at c5; unfold fmM at c6; first | (exfalso; omega) | exact absurd c4 (np25 (by omega)))), rfl⟩
                            · refine r_load (i := 56) (u := 3) (w := 0) rfl rfl rfl ?_
                              refine r_const (i := 57) (u := 7) (z := 7) rfl rfl ?_
                              refine c_gt (i := 58) (v := 61) rfl ⟨by omega, by omega⟩ ⟨by omega, by omega⟩ (fun h112 => ?_) (fun h113 => ?_)
                              · refine r_const (i := 61) (u := 0) (z := 0) rfl rfl ?_
                                exact r_retZ (i := 62) rfl (by omega) (by omega) ⟨0, rfl, by omega, by omega, (by omega), (by omega), (by omega), (by omega), (by intro hz; first | exact absurd hz (by omega) | assumption | grind), (by omega), (by omega), (by intro hz; exact absurd hz (by omega)), (by intro hz; first | exact absurd hz (by omega) | (intro hc; obtain ⟨c1, c2, c3, c4, c5, c6, c7⟩ := hc; unfold kdC at c5; unfold fmM at c6; first | (exfalso; omega) | exact absurd c4 (np25 (by omega)))), rfl⟩
                              · refine r_load (i := 59) (u := 5) (w := 0) rfl rfl rfl ?_
                                refine z_eq (i := 60) (v := 63) rfl ⟨by omega, by omega⟩ (fun h114 => ?_) (fun h115 => ?_)
                                · exact lp217_63 hI h_t h_w0 h_bits h_al h_back   hd (yand bits 7) ⟨by omega, by omega⟩ (by omega) (by omega) (by omega) (by omega) (by first | assumption | grind) (by omega) (by omega) (by exact yp24 (by omega)) (by unfold kdC; omega) (by omega) (by omega) 
                                · refine r_const (i := 61) (u := 0) (z := 0) rfl rfl ?_
                                  exact r_retZ (i := 62) rfl (by omega) (by omega) ⟨0, rfl, by omega, by omega, (by omega), (by omega), (by omega), (by omega), (by intro hz; first | exact absurd hz (by omega) | assumption | grind), (by omega), (by omega), (by intro hz; exact absurd hz (by omega)), (by intro hz; first | exact absurd hz (by omega) | (intro hc; obtain ⟨c1, c2, c3, c4, c5, c6, c7⟩ := hc; unfold kdC at c5; unfold fmM at c6; first | (exfalso; omega) | exact absurd c4 (np25 (by omega)))), rfl⟩
                        · refine r_load (i := 40) (u := 6) (w := 0) rfl rfl rfl ?_
                          refine r_const (i := 41) (u := 2) (z := 2) rfl rfl ?_
                          refine c_eq (i := 42) (v := 48) rfl ⟨by omega, by omega⟩ ⟨by omega, by omega⟩ (fun h116 => ?_) (fun h117 => ?_)
                          · refine r_load (i := 48) (u := 2) (w := 0) rfl rfl rfl ?_
                            refine r_const (i := 49) (u := 10) (z := 10) rfl rfl ?_
                            refine c_ne (i := 50) (v := 63) rfl ⟨by omega, by omega⟩ ⟨by omega, by omega⟩ (fun h118 => ?_) (fun h119 => ?_)
                            · exact lp217_63 hI h_t h_w0 h_bits h_al h_back   hd (yand bits 7) ⟨by omega, by omega⟩ (by omega) (by omega) (by omega) (by omega) (by first | assumption | grind) (by omega) (by omega) (by exact yp24 (by omega)) (by unfold kdC; omega) (by omega) (by omega) 
                            · refine r_load (i := 51) (u := 0) (w := 2) rfl rfl rfl ?_
                              refine r_getf (i := 52) (v := 2) (w := 11) (x := (2, 44)) rfl ly43 rfl rfl fun _ => ?_
                              refine r_load (i := 53) (u := 1) (w := 0) rfl rfl rfl ?_
                              refine a_bool (i := 54) rfl ly44 rfl (by omega) (by omega) fun h121 => ?_
                              refine z_ne (i := 55) (v := 61) rfl ⟨by omega, by omega⟩ (fun h122 => ?_) (fun h123 => ?_)
                              · refine r_const (i := 61) (u := 0) (z := 0) rfl rfl ?_
                                exact r_retZ (i := 62) rfl (by omega) (by omega) ⟨0, rfl, by omega, by omega, (by omega), (by omega), (by omega), (by omega), (by intro hz; first | exact absurd hz (by omega) | assumption | grind), (by omega), (by omega), (by intro hz; exact absurd hz (by omega)), (by intro hz; first | exact absurd hz (by omega) | (intro hc; obtain ⟨c1, c2, c3, c4, c5, c6, c7⟩ := hc; unfold kdC at c5; unfold fmM at c6; first | (exfalso; omega) | exact absurd c4 (np25 (by omega)))), rfl⟩
                              · refine r_load (i := 56) (u := 3) (w := 0) rfl rfl rfl ?_
                                refine r_const (i := 57) (u := 7) (z := 7) rfl rfl ?_
                                refine c_gt (i := 58) (v := 61) rfl ⟨by omega, by omega⟩ ⟨by omega, by omega⟩ (fun h124 => ?_) (fun h125 => ?_)
                                · refine r_const (i := 61) (u := 0) (z := 0) rfl rfl ?_
                                  exact r_retZ (i := 62) rfl (by omega) (by omega) ⟨0, rfl, by omega, by omega, (by omega), (by omega), (by omega), (by omega), (by intro hz; first | exact absurd hz (by omega) | assumption | grind), (by omega), (by omega), (by intro hz; exact absurd hz (by omega)), (by intro hz; first | exact absurd hz (by omega) | (intro hc; obtain ⟨c1, c2, c3, c4, c5, c6, c7⟩ := hc; unfold kdC at c5; unfold fmM at c6; first | (exfalso; omega) | exact absurd c4 (np25 (by omega)))), rfl⟩
                                · refine r_load (i := 59) (u := 5) (w := 0) rfl rfl rfl ?_
                                  refine z_eq (i := 60) (v := 63) rfl ⟨by omega, by omega⟩ (fun h126 => ?_) (fun h127 => ?_)
                                  · exact lp217_63 hI h_t h_w0 h_bits h_al h_back   hd (yand bits 7) ⟨by omega, by omega⟩ (by omega) (by omega) (by omega) (by omega) (by first | assumption | grind) (by omega) (by omega) (by exact yp24 (by omega)) (by unfold kdC; omega) (by omega) (by omega) 
                                  · refine r_const (i := 61) (u := 0) (z := 0) rfl rfl ?_
                                    exact r_retZ (i := 62) rfl (by omega) (by omega) ⟨0, rfl, by omega, by omega, (by omega), (by omega), (by omega), (by omega), (by intro hz; first | exact absurd hz (by omega) | assumption | grind), (by omega), (by omega), (by intro hz; exact absurd hz (by omega)), (by intro hz; first | exact absurd hz (by omega) | (intro hc; obtain ⟨c1, c2, c3, c4, c5, c6, c7⟩ := hc; unfold kdC at c5; unfold fmM at c6; first | (exfalso; omega) | exact absurd c4 (np25 (by omega)))), rfl⟩
                          · refine r_load (i := 43) (u := 6) (w := 0) rfl rfl rfl ?_
                            refine r_const (i := 44) (u := 4) (z := 4) rfl rfl ?_
                            refine c_eq (i := 45) (v := 48) rfl ⟨by omega, by omega⟩ ⟨by omega, by omega⟩ (fun h128 => ?_) (fun h129 => ?_)
                            · refine r_load (i := 48) (u := 2) (w := 0) rfl rfl rfl ?_
                              refine r_const (i := 49) (u := 10) (z := 10) rfl rfl ?_
                              refine c_ne (i := 50) (v := 63) rfl ⟨by omega, by omega⟩ ⟨by omega, by omega⟩ (fun h130 => ?_) (fun h131 => ?_)
                              · exact lp217_63 hI h_t h_w0 h_bits h_al h_back   hd (yand bits 7) ⟨by omega, by omega⟩ (by omega) (by omega) (by omega) (by omega) (by first | assumption | grind) (by omega) (by omega) (by exact yp24 (by omega)) (by unfold kdC; omega) (by omega) (by omega) 
                              · refine r_load (i := 51) (u := 0) (w := 2) rfl rfl rfl ?_
                                refine r_getf (i := 52) (v := 2) (w := 11) (x := (2, 44)) rfl ly43 rfl rfl fun _ => ?_
                                refine r_load (i := 53) (u := 1) (w := 0) rfl rfl rfl ?_
                                refine a_bool (i := 54) rfl ly44 rfl (by omega) (by omega) fun h133 => ?_
                                refine z_ne (i := 55) (v := 61) rfl ⟨by omega, by omega⟩ (fun h134 => ?_) (fun h135 => ?_)
                                · refine r_const (i := 61) (u := 0) (z := 0) rfl rfl ?_
                                  exact r_retZ (i := 62) rfl (by omega) (by omega) ⟨0, rfl, by omega, by omega, (by omega), (by omega), (by omega), (by omega), (by intro hz; first | exact absurd hz (by omega) | assumption | grind), (by omega), (by omega), (by intro hz; exact absurd hz (by omega)), (by intro hz; first | exact absurd hz (by omega) | (intro hc; obtain ⟨c1, c2, c3, c4, c5, c6, c7⟩ := hc; unfold kdC at c5; unfold fmM at c6; first | (exfalso; omega) | exact absurd c4 (np25 (by omega)))), rfl⟩
                                · refine r_load (i := 56) (u := 3) (w := 0) rfl rfl rfl ?_
                                  refine r_const (i := 57) (u := 7) (z := 7) rfl rfl ?_
                                  refine c_gt (i := 58) (v := 61) rfl ⟨by omega, by omega⟩ ⟨by omega, by omega⟩ (fun h136 => ?_) (fun h137 => ?_)
                                  · refine r_const (i := 61) (u := 0) (z := 0) rfl rfl ?_
                                    exact r_retZ (i := 62) rfl (by omega) (by omega) ⟨0, rfl, by omega, by omega, (by omega), (by omega), (by omega), (by omega), (by intro hz; first | exact absurd hz (by omega) | assumption | grind), (by omega), (by omega), (by intro hz; exact absurd hz (by omega)), (by intro hz; first | exact absurd hz (by omega) | (intro hc; obtain ⟨c1, c2, c3, c4, c5, c6, c7⟩ := hc; unfold kdC at c5; unfold fmM at c6; first | (exfalso; omega) | exact absurd c4 (np25 (by omega)))), rfl⟩
                                  · refine r_load (i := 59) (u := 5) (w := 0) rfl rfl rfl ?_
                                    refine z_eq (i := 60) (v := 63) rfl ⟨by omega, by omega⟩ (fun h138 => ?_) (fun h139 => ?_)
                                    · exact lp217_63 hI h_t h_w0 h_bits h_al h_back   hd (yand bits 7) ⟨by omega, by omega⟩ (by omega) (by omega) (by omega) (by omega) (by first | assumption | grind) (by omega) (by omega) (by exact yp24 (by omega)) (by unfold kdC; omega) (by omega) (by omega) 
                                    · refine r_const (i := 61) (u := 0) (z := 0) rfl rfl ?_
                                      exact r_retZ (i := 62) rfl (by omega) (by omega) ⟨0, rfl, by omega, by omega, (by omega), (by omega), (by omega), (by omega), (by intro hz; first | exact absurd hz (by omega) | assumption | grind), (by omega), (by omega), (by intro hz; exact absurd hz (by omega)), (by intro hz; first | exact absurd hz (by omega) | (intro hc; obtain ⟨c1, c2, c3, c4, c5, c6, c7⟩ := hc; unfold kdC at c5; unfold fmM at c6; first | (exfalso; omega) | exact absurd c4 (np25 (by omega)))), rfl⟩
                            · refine r_const (i := 46) (u := 0) (z := 0) rfl rfl ?_
                              exact r_retZ (i := 47) rfl (by omega) (by omega) ⟨0, rfl, by omega, by omega, (by omega), (by omega), (by omega), (by omega), (by intro hz; first | exact absurd hz (by omega) | assumption | grind), (by omega), (by omega), (by intro hz; exact absurd hz (by omega)), (by intro hz; first | exact absurd hz (by omega) | (intro hc; obtain ⟨c1, c2, c3, c4, c5, c6, c7⟩ := hc; unfold kdC at c5; unfold fmM at c6; first | (exfalso; omega) | exact absurd c4 (np25 (by omega)))), rfl⟩
                    · refine r_const (i := 29) (u := 0) (z := 0) rfl rfl ?_
                      exact r_retZ (i := 30) rfl (by omega) (by omega) ⟨0, rfl, by omega, by omega, (by omega), (by omega), (by omega), (by omega), (by intro hz; first | exact absurd hz (by omega) | assumption | grind), (by omega), (by omega), (by intro hz; exact absurd hz (by omega)), (by intro hz; first | exact absurd hz (by omega) | (intro hc; obtain ⟨c1, c2, c3, c4, c5, c6, c7⟩ := hc; unfold kdC at c5; unfold fmM at c6; first | (exfalso; omega) | exact absurd c4 (np25 (by omega)))), rfl⟩
/-- ProxyForgeModel.method -/
theorem sp220 {G : xk} {S : yS} {d : Nat} (hI : yI S) {t : Int} (h_t : -2147483648 ≤ t ∧ t ≤ 2147483647) {w0 : Int} (h_w0 : -2147483648 ≤ w0 ∧ w0 ≤ 2147483647) {bits : Int} (h_bits : -2147483648 ≤ bits ∧ bits ≤ 2147483647) {al : Int} (h_al : -2147483648 ≤ al ∧ al ≤ 2147483647) {back : Int} (h_back : -2147483648 ≤ back ∧ back ≤ 2147483647) (e_CR : CR S) (hd : 4 ≤ d) : yT xPr G LY xC220 0 [some ((2, 43)), some (vi t), some (vi w0), some (vi bits), some (vi al), some (vi back)] [] S d (fun r S' => ∃ z : Int, r = (1, vi z) ∧ 0 ≤ z ∧ z ≤ 60 ∧ mMeQ S S' t w0 bits al back z ∧ CR S' ∧ yI S' ∧ yFr [(43, 0), (43, 10)] [52, 53, 54, 55, 56] S S' ∧ yRm [] S S') := by
  refine yT_pad 0 ?_
  show yT xPr G LY xC220 0 [some ((2, 43)), some (vi t), some (vi w0), some (vi bits), some (vi al), some (vi back)] [] S d _
  obtain ⟨d, rfl⟩ : ∃ q, d = q + 1 := ⟨d - 1, by omega⟩
  have hF : yFr [(43, 0), (43, 10)] [52, 53, 54, 55, 56] S S := yFr.refl S
  have hR : yRm [] S S := yRm.refl S
  refine r_load (i := 0) (u := 0) (w := 2) rfl rfl rfl ?_
  refine r_load (i := 1) (u := 0) (w := 2) rfl rfl rfl ?_
  refine r_load (i := 2) (u := 1) (w := 0) rfl rfl rfl ?_
  refine r_load (i := 3) (u := 2) (w := 0) rfl rfl rfl ?_
  refine r_load (i := 4) (u := 3) (w := 0) rfl rfl rfl ?_
  refine r_load (i := 5) (u := 4) (w := 0) rfl rfl rfl ?_
  refine r_load (i := 6) (u := 5) (w := 0) rfl rfl rfl ?_
  have h1 := hI.f tf43_1
  refine r_call (i := 7) (u := 11) (v := 217) (w := 0) (b := 0) (na := 2054) (C2 := xC217) (as := [(2, 43), vi t, vi w0, vi bits, vi al, vi back]) (s := [(2, 43)]) rfl rfl rfl rfl rfl rfl rfl (sp217 (t := t) (w0 := w0) (bits := bits) (al := al) (back := back) hI ⟨by omega, by omega⟩ ⟨by omega, by omega⟩ ⟨by omega, by omega⟩ ⟨by omega, by omega⟩ ⟨by omega, by omega⟩   (by omega)) (fun r2 S3 hq4 => ?_)
  obtain ⟨z5, rfl, h6, h7, h8, h9, h10, h11, h12, h13, h14, yb15, nb16, rfl⟩ := hq4
  refine Or.inr (Or.inl ⟨rfl, ?_⟩)
  refine z_ne (i := 8) (v := 11) rfl ⟨by omega, by omega⟩ (fun h17 => ?_) (fun h18 => ?_)
  · refine r_load (i := 11) (u := 0) (w := 2) rfl rfl rfl ?_
    have h19 := hI.f tf43_10
    refine r_getf (i := 12) (v := 10) (w := 11) (x := vi (S.f 43 10)) rfl ly43 rfl rfl fun h20 => ?_
    have h20 : Rg (S.f 43 10) := h20
    refine r_const (i := 13) (u := 60) (z := 60) rfl rfl ?_
    refine c_ne (i := 14) (v := 17) rfl ⟨by omega, by omega⟩ ⟨by omega, by omega⟩ (fun h21 => ?_) (fun h22 => ?_)
    · refine r_const (i := 17) (u := 0) (z := 0) rfl rfl ?_
      refine r_putI (i := 18) (v := 0) (w := 11) rfl ly43 rfl ⟨by omega, by omega⟩ ?_
      have hI24 := hI.setf (b := 43) (w := 0) (z := 0) tf43_0 rfl (by omega) (by omega)
      have hF26 := hF.setf (b := 43) (w := 0) (z := 0) rfl
      have hR27 := hR.setf (b := 43) (w := 0) (z := 0)
      have e28 := CRx.setf e_CR (b := 43) (w := 0) (z := 0) rfl
      refine yT_gen (fun S23 hS25 => ?_)
      rw [hS25] at hI24 hF26 hR27 e28
      refine r_load (i := 19) (u := 0) (w := 2) rfl rfl rfl ?_
      have h29 := hI24.f tf43_0
      have h30 : S23.f 43 0 = 0 := by rw [← hS25]; exact ysf_eq
      refine r_getf (i := 20) (v := 0) (w := 11) (x := vi (S23.f 43 0)) rfl ly43 rfl rfl fun h31 => ?_
      have h31 : Rg (S23.f 43 0) := h31
      refine z_le (i := 21) (v := 24) rfl ⟨by omega, by omega⟩ (fun h32 => ?_) (fun h33 => ?_)
      · refine r_load (i := 24) (u := 0) (w := 2) rfl rfl rfl ?_
        refine r_getf (i := 25) (v := 11) (w := 11) (x := (2, 52)) rfl ly43 rfl rfl fun _ => ?_
        refine r_load (i := 26) (u := 0) (w := 2) rfl rfl rfl ?_
        have h35 := hI24.f tf43_10
        have h36 : S23.f 43 10 = S.f 43 10 := by rw [← hS25]; exact ysf_ne (by decide)
        refine r_getf (i := 27) (v := 10) (w := 11) (x := vi (S23.f 43 10)) rfl ly43 rfl rfl fun h37 => ?_
        have h37 : Rg (S23.f 43 10) := h37
        refine r_load (i := 28) (u := 1) (w := 0) rfl rfl rfl ?_
        refine s_int (i := 29) rfl ly52 rfl (by omega) (by omega) ⟨by omega, by omega⟩ ?_
        have hI39 := hI24.seta (b := 52) (j := (S23.f 43 10).toNat) (z := t) ta52 rfl (by omega) (by omega)
        have hF41 := hF26.seta (b := 52) (j := (S23.f 43 10).toNat) (z := t) rfl
        have hR42 := hR27.seta (b := 52) (j := (S23.f 43 10).toNat) (z := t)
        have e43 := CRx.seta e28 (b := 52) (j := (S23.f 43 10).toNat) (z := t) rfl
        refine yT_gen (fun S38 hS40 => ?_)
        rw [hS40] at hI39 hF41 hR42 e43
        refine r_load (i := 30) (u := 0) (w := 2) rfl rfl rfl ?_
        refine r_getf (i := 31) (v := 12) (w := 11) (x := (2, 53)) rfl ly43 rfl rfl fun _ => ?_
        refine r_load (i := 32) (u := 0) (w := 2) rfl rfl rfl ?_
        have h45 := hI39.f tf43_10
        have h46 : S38.f 43 10 = S23.f 43 10 := by rw [← hS40]; rfl
        have h47 : S23.f 43 10 = S.f 43 10 := by rw [← hS25]; exact ysf_ne (by decide)
        refine r_getf (i := 33) (v := 10) (w := 11) (x := vi (S38.f 43 10)) rfl ly43 rfl rfl fun h48 => ?_
        have h48 : Rg (S38.f 43 10) := h48
        refine r_load (i := 34) (u := 2) (w := 0) rfl rfl rfl ?_
        refine s_int (i := 35) rfl ly53 rfl (by omega) (by omega) ⟨by omega, by omega⟩ ?_
        have hI50 := hI39.seta (b := 53) (j := (S38.f 43 10).toNat) (z := w0) ta53 rfl (by omega) (by omega)
        have hF52 := hF41.seta (b := 53) (j := (S38.f 43 10).toNat) (z := w0) rfl
        have hR53 := hR42.seta (b := 53) (j := (S38.f 43 10).toNat) (z := w0)
        refine yT_gen (fun S49 hS51 => ?_)
        rw [hS51] at hI50 hF52 hR53 
        refine r_load (i := 36) (u := 0) (w := 2) rfl rfl rfl ?_
        refine r_getf (i := 37) (v := 13) (w := 11) (x := (2, 54)) rfl ly43 rfl rfl fun _ => ?_
        refine r_load (i := 38) (u := 0) (w := 2) rfl rfl rfl ?_
        have h55 := hI50.f tf43_10
        have h56 : S49.f 43 10 = S38.f 43 10 := by rw [← hS51]; rfl
        have h57 : S38.f 43 10 = S23.f 43 10 := by rw [← hS40]; rfl
        have h58 : S23.f 43 10 = S.f 43 10 := by rw [← hS25]; exact ysf_ne (by decide)
        refine r_getf (i := 39) (v := 10) (w := 11) (x := vi (S49.f 43 10)) rfl ly43 rfl rfl fun h59 => ?_
        have h59 : Rg (S49.f 43 10) := h59
        refine r_load (i := 40) (u := 3) (w := 0) rfl rfl rfl ?_
        refine s_int (i := 41) rfl ly54 rfl (by omega) (by omega) ⟨by omega, by omega⟩ ?_
        have hI61 := hI50.seta (b := 54) (j := (S49.f 43 10).toNat) (z := bits) ta54 rfl (by omega) (by omega)
        have hF63 := hF52.seta (b := 54) (j := (S49.f 43 10).toNat) (z := bits) rfl
        have hR64 := hR53.seta (b := 54) (j := (S49.f 43 10).toNat) (z := bits)
        refine yT_gen (fun S60 hS62 => ?_)
        rw [hS62] at hI61 hF63 hR64 
        refine r_load (i := 42) (u := 0) (w := 2) rfl rfl rfl ?_
        refine r_getf (i := 43) (v := 14) (w := 11) (x := (2, 55)) rfl ly43 rfl rfl fun _ => ?_
        refine r_load (i := 44) (u := 0) (w := 2) rfl rfl rfl ?_
        have h66 := hI61.f tf43_10
        have h67 : S60.f 43 10 = S49.f 43 10 := by rw [← hS62]; rfl
        have h68 : S49.f 43 10 = S38.f 43 10 := by rw [← hS51]; rfl
        have h69 : S38.f 43 10 = S23.f 43 10 := by rw [← hS40]; rfl
        have h70 : S23.f 43 10 = S.f 43 10 := by rw [← hS25]; exact ysf_ne (by decide)
        refine r_getf (i := 45) (v := 10) (w := 11) (x := vi (S60.f 43 10)) rfl ly43 rfl rfl fun h71 => ?_
        have h71 : Rg (S60.f 43 10) := h71
        refine r_load (i := 46) (u := 4) (w := 0) rfl rfl rfl ?_
        refine s_int (i := 47) rfl ly55 rfl (by omega) (by omega) ⟨by omega, by omega⟩ ?_
        have hI73 := hI61.seta55 (j := (S60.f 43 10).toNat) (z := al) (by omega) (by omega) (by first | assumption | grind)
        have hF75 := hF63.seta (b := 55) (j := (S60.f 43 10).toNat) (z := al) rfl
        have hR76 := hR64.seta (b := 55) (j := (S60.f 43 10).toNat) (z := al)
        refine yT_gen (fun S72 hS74 => ?_)
        rw [hS74] at hI73 hF75 hR76 
        refine r_load (i := 48) (u := 0) (w := 2) rfl rfl rfl ?_
        refine r_getf (i := 49) (v := 15) (w := 11) (x := (2, 56)) rfl ly43 rfl rfl fun _ => ?_
        refine r_load (i := 50) (u := 0) (w := 2) rfl rfl rfl ?_
        have h78 := hI73.f tf43_10
        have h79 : S72.f 43 10 = S60.f 43 10 := by rw [← hS74]; rfl
        have h80 : S60.f 43 10 = S49.f 43 10 := by rw [← hS62]; rfl
        have h81 : S49.f 43 10 = S38.f 43 10 := by rw [← hS51]; rfl
        have h82 : S38.f 43 10 = S23.f 43 10 := by rw [← hS40]; rfl
        have h83 : S23.f 43 10 = S.f 43 10 := by rw [← hS25]; exact ysf_ne (by decide)
        refine r_getf (i := 51) (v := 10) (w := 11) (x := vi (S72.f 43 10)) rfl ly43 rfl rfl fun h84 => ?_
        have h84 : Rg (S72.f 43 10) := h84
        refine r_load (i := 52) (u := 5) (w := 0) rfl rfl rfl ?_
        refine s_int (i := 53) rfl ly56 rfl (by omega) (by omega) ⟨by omega, by omega⟩ ?_
        have hI86 := hI73.seta (b := 56) (j := (S72.f 43 10).toNat) (z := back) ta56 rfl (by omega) (by omega)
        have hF88 := hF75.seta (b := 56) (j := (S72.f 43 10).toNat) (z := back) rfl
        have hR89 := hR76.seta (b := 56) (j := (S72.f 43 10).toNat) (z := back)
        refine yT_gen (fun S85 hS87 => ?_)
        rw [hS87] at hI86 hF88 hR89 
        refine r_load (i := 54) (u := 0) (w := 2) rfl rfl rfl ?_
        refine r_dup (i := 55) rfl rfl ?_
        have h90 := hI86.f tf43_10
        have h91 : S85.f 43 10 = S72.f 43 10 := by rw [← hS87]; rfl
        have h92 : S72.f 43 10 = S60.f 43 10 := by rw [← hS74]; rfl
        have h93 : S60.f 43 10 = S49.f 43 10 := by rw [← hS62]; rfl
        have h94 : S49.f 43 10 = S38.f 43 10 := by rw [← hS51]; rfl
        have h95 : S38.f 43 10 = S23.f 43 10 := by rw [← hS40]; rfl
        have h96 : S23.f 43 10 = S.f 43 10 := by rw [← hS25]; exact ysf_ne (by decide)
        refine r_getf (i := 56) (v := 10) (w := 11) (x := vi (S85.f 43 10)) rfl ly43 rfl rfl fun h97 => ?_
        have h97 : Rg (S85.f 43 10) := h97
        refine r_const (i := 57) (u := 1) (z := 1) rfl rfl ?_
        refine r_iadd (i := 58) rfl ?_
        refine r_putI (i := 59) (v := 10) (w := 11) rfl ly43 rfl ⟨by omega, by omega⟩ ?_
        have hI99 := hI86.setf (b := 43) (w := 10) (z := (S85.f 43 10) + 1) tf43_10 rfl (by omega) (by omega)
        have hF101 := hF88.setf (b := 43) (w := 10) (z := (S85.f 43 10) + 1) rfl
        have hR102 := hR89.setf (b := 43) (w := 10) (z := (S85.f 43 10) + 1)
        refine yT_gen (fun S98 hS100 => ?_)
        rw [hS100] at hI99 hF101 hR102 
        refine r_load (i := 60) (u := 0) (w := 2) rfl rfl rfl ?_
        have h103 := hI99.f tf43_10
        have h104 : S98.f 43 10 = (S85.f 43 10) + 1 := by rw [← hS100]; exact ysf_eq
        refine r_getf (i := 61) (v := 10) (w := 11) (x := vi (S98.f 43 10)) rfl ly43 rfl rfl fun h105 => ?_
        have h105 : Rg (S98.f 43 10) := h105
        refine r_const (i := 62) (u := 1) (z := 1) rfl rfl ?_
        refine r_isub (i := 63) rfl ?_
        have h106 := hI99.f tf43_0
        have h107 : S98.f 43 0 = S85.f 43 0 := by rw [← hS100]; exact ysf_ne (by decide)
        have h108 : S85.f 43 0 = S72.f 43 0 := by rw [← hS87]; rfl
        have h109 : S72.f 43 0 = S60.f 43 0 := by rw [← hS74]; rfl
        have h110 : S60.f 43 0 = S49.f 43 0 := by rw [← hS62]; rfl
        have h111 : S49.f 43 0 = S38.f 43 0 := by rw [← hS51]; rfl
        have h112 : S38.f 43 0 = S23.f 43 0 := by rw [← hS40]; rfl
        have h113 : S23.f 43 0 = 0 := by rw [← hS25]; exact ysf_eq
        exact r_retI (i := 64) rfl ⟨(S98.f 43 10) - 1, rfl, by omega, by omega, (by first | (exfalso; omega) | exact Or.inl ⟨by omega, yb15 (by omega), by omega, by omega, ⟨by omega, fun j => by subst hS25 hS40 hS51 hS62 hS74 hS87 hS100; rfl, fun j => by subst hS25 hS40 hS51 hS62 hS74 hS87 hS100; rfl, fun j => by subst hS25 hS40 hS51 hS62 hS74 hS87 hS100; rfl, fun j => by subst hS25 hS40 hS51 hS62 hS74 hS87 hS100; rfl, fun j => by subst hS25 hS40 hS51 hS62 hS74 hS87 hS100; rfl⟩⟩), (by exact CR_push (w := w0) (b := back) e_CR (by omega) (fun j => by subst_vars; rfl) (fun j => by subst_vars; rfl)), hI99, hF101, hR102⟩
      · refine r_const (i := 22) (u := 0) (z := 0) rfl rfl ?_
        have h114 := hI24.f tf43_10
        have h115 : S23.f 43 10 = S.f 43 10 := by rw [← hS25]; exact ysf_ne (by decide)
        exact r_retI (i := 23) rfl ⟨0, rfl, by omega, by omega, (by first | (exfalso; omega) | exact Or.inr (Or.inl ⟨by omega, nb16 (by omega), ⟨by subst hS25; rfl, fun j => by subst hS25; exact ⟨rfl, rfl, rfl, rfl, rfl⟩⟩⟩) | exact Or.inr (Or.inr ⟨by omega, yb15 (by omega), by omega, ⟨by subst hS25; rfl, fun j => by subst hS25; exact ⟨rfl, rfl, rfl, rfl, rfl⟩⟩⟩)), e28, hI24, hF26, hR27⟩
    · refine r_const (i := 15) (u := 2) (z := 2) rfl rfl ?_
      refine r_goto (i := 16) (v := 18) rfl ?_
      refine r_putI (i := 18) (v := 0) (w := 11) rfl ly43 rfl ⟨by omega, by omega⟩ ?_
      have hI117 := hI.setf (b := 43) (w := 0) (z := 2) tf43_0 rfl (by omega) (by omega)
      have hF119 := hF.setf (b := 43) (w := 0) (z := 2) rfl
      have hR120 := hR.setf (b := 43) (w := 0) (z := 2)
      have e121 := CRx.setf e_CR (b := 43) (w := 0) (z := 2) rfl
      refine yT_gen (fun S116 hS118 => ?_)
      rw [hS118] at hI117 hF119 hR120 e121
      refine r_load (i := 19) (u := 0) (w := 2) rfl rfl rfl ?_
      have h122 := hI117.f tf43_0
      have h123 : S116.f 43 0 = 2 := by rw [← hS118]; exact ysf_eq
      refine r_getf (i := 20) (v := 0) (w := 11) (x := vi (S116.f 43 0)) rfl ly43 rfl rfl fun h124 => ?_
      have h124 : Rg (S116.f 43 0) := h124
      refine z_le (i := 21) (v := 24) rfl ⟨by omega, by omega⟩ (fun h125 => ?_) (fun h126 => ?_)
      · refine r_load (i := 24) (u := 0) (w := 2) rfl rfl rfl ?_
        refine r_getf (i := 25) (v := 11) (w := 11) (x := (2, 52)) rfl ly43 rfl rfl fun _ => ?_
        refine r_load (i := 26) (u := 0) (w := 2) rfl rfl rfl ?_
        have h128 := hI117.f tf43_10
        have h129 : S116.f 43 10 = S.f 43 10 := by rw [← hS118]; exact ysf_ne (by decide)
        refine r_getf (i := 27) (v := 10) (w := 11) (x := vi (S116.f 43 10)) rfl ly43 rfl rfl fun h130 => ?_
        have h130 : Rg (S116.f 43 10) := h130
        refine r_load (i := 28) (u := 1) (w := 0) rfl rfl rfl ?_
        refine s_int (i := 29) rfl ly52 rfl (by omega) (by omega) ⟨by omega, by omega⟩ ?_
        have hI132 := hI117.seta (b := 52) (j := (S116.f 43 10).toNat) (z := t) ta52 rfl (by omega) (by omega)
        have hF134 := hF119.seta (b := 52) (j := (S116.f 43 10).toNat) (z := t) rfl
        have hR135 := hR120.seta (b := 52) (j := (S116.f 43 10).toNat) (z := t)
        have e136 := CRx.seta e121 (b := 52) (j := (S116.f 43 10).toNat) (z := t) rfl
        refine yT_gen (fun S131 hS133 => ?_)
        rw [hS133] at hI132 hF134 hR135 e136
        refine r_load (i := 30) (u := 0) (w := 2) rfl rfl rfl ?_
        refine r_getf (i := 31) (v := 12) (w := 11) (x := (2, 53)) rfl ly43 rfl rfl fun _ => ?_
        refine r_load (i := 32) (u := 0) (w := 2) rfl rfl rfl ?_
        have h138 := hI132.f tf43_10
        have h139 : S131.f 43 10 = S116.f 43 10 := by rw [← hS133]; rfl
        have h140 : S116.f 43 10 = S.f 43 10 := by rw [← hS118]; exact ysf_ne (by decide)
        refine r_getf (i := 33) (v := 10) (w := 11) (x := vi (S131.f 43 10)) rfl ly43 rfl rfl fun h141 => ?_
        have h141 : Rg (S131.f 43 10) := h141
        refine r_load (i := 34) (u := 2) (w := 0) rfl rfl rfl ?_
        refine s_int (i := 35) rfl ly53 rfl (by omega) (by omega) ⟨by omega, by omega⟩ ?_
        have hI143 := hI132.seta (b := 53) (j := (S131.f 43 10).toNat) (z := w0) ta53 rfl (by omega) (by omega)
        have hF145 := hF134.seta (b := 53) (j := (S131.f 43 10).toNat) (z := w0) rfl
        have hR146 := hR135.seta (b := 53) (j := (S131.f 43 10).toNat) (z := w0)
        refine yT_gen (fun S142 hS144 => ?_)
        rw [hS144] at hI143 hF145 hR146 
        refine r_load (i := 36) (u := 0) (w := 2) rfl rfl rfl ?_
        refine r_getf (i := 37) (v := 13) (w := 11) (x := (2, 54)) rfl ly43 rfl rfl fun _ => ?_
        refine r_load (i := 38) (u := 0) (w := 2) rfl rfl rfl ?_
        have h148 := hI143.f tf43_10
        have h149 : S142.f 43 10 = S131.f 43 10 := by rw [← hS144]; rfl
        have h150 : S131.f 43 10 = S116.f 43 10 := by rw [← hS133]; rfl
        have h151 : S116.f 43 10 = S.f 43 10 := by rw [← hS118]; exact ysf_ne (by decide)
        refine r_getf (i := 39) (v := 10) (w := 11) (x := vi (S142.f 43 10)) rfl ly43 rfl rfl fun h152 => ?_
        have h152 : Rg (S142.f 43 10) := h152
        refine r_load (i := 40) (u := 3) (w := 0) rfl rfl rfl ?_
        refine s_int (i := 41) rfl ly54 rfl (by omega) (by omega) ⟨by omega, by omega⟩ ?_
        have hI154 := hI143.seta (b := 54) (j := (S142.f 43 10).toNat) (z := bits) ta54 rfl (by omega) (by omega)
        have hF156 := hF145.seta (b := 54) (j := (S142.f 43 10).toNat) (z := bits) rfl
        have hR157 := hR146.seta (b := 54) (j := (S142.f 43 10).toNat) (z := bits)
        refine yT_gen (fun S153 hS155 => ?_)
        rw [hS155] at hI154 hF156 hR157 
        refine r_load (i := 42) (u := 0) (w := 2) rfl rfl rfl ?_
        refine r_getf (i := 43) (v := 14) (w := 11) (x := (2, 55)) rfl ly43 rfl rfl fun _ => ?_
        refine r_load (i := 44) (u := 0) (w := 2) rfl rfl rfl ?_
        have h159 := hI154.f tf43_10
        have h160 : S153.f 43 10 = S142.f 43 10 := by rw [← hS155]; rfl
        have h161 : S142.f 43 10 = S131.f 43 10 := by rw [← hS144]; rfl
        have h162 : S131.f 43 10 = S116.f 43 10 := by rw [← hS133]; rfl
        have h163 : S116.f 43 10 = S.f 43 10 := by rw [← hS118]; exact ysf_ne (by decide)
        refine r_getf (i := 45) (v := 10) (w := 11) (x := vi (S153.f 43 10)) rfl ly43 rfl rfl fun h164 => ?_
        have h164 : Rg (S153.f 43 10) := h164
        refine r_load (i := 46) (u := 4) (w := 0) rfl rfl rfl ?_
        refine s_int (i := 47) rfl ly55 rfl (by omega) (by omega) ⟨by omega, by omega⟩ ?_
        have hI166 := hI154.seta55 (j := (S153.f 43 10).toNat) (z := al) (by omega) (by omega) (by first | assumption | grind)
        have hF168 := hF156.seta (b := 55) (j := (S153.f 43 10).toNat) (z := al) rfl
        have hR169 := hR157.seta (b := 55) (j := (S153.f 43 10).toNat) (z := al)
        refine yT_gen (fun S165 hS167 => ?_)
        rw [hS167] at hI166 hF168 hR169 
        refine r_load (i := 48) (u := 0) (w := 2) rfl rfl rfl ?_
        refine r_getf (i := 49) (v := 15) (w := 11) (x := (2, 56)) rfl ly43 rfl rfl fun _ => ?_
        refine r_load (i := 50) (u := 0) (w := 2) rfl rfl rfl ?_
        have h171 := hI166.f tf43_10
        have h172 : S165.f 43 10 = S153.f 43 10 := by rw [← hS167]; rfl
        have h173 : S153.f 43 10 = S142.f 43 10 := by rw [← hS155]; rfl
        have h174 : S142.f 43 10 = S131.f 43 10 := by rw [← hS144]; rfl
        have h175 : S131.f 43 10 = S116.f 43 10 := by rw [← hS133]; rfl
        have h176 : S116.f 43 10 = S.f 43 10 := by rw [← hS118]; exact ysf_ne (by decide)
        refine r_getf (i := 51) (v := 10) (w := 11) (x := vi (S165.f 43 10)) rfl ly43 rfl rfl fun h177 => ?_
        have h177 : Rg (S165.f 43 10) := h177
        refine r_load (i := 52) (u := 5) (w := 0) rfl rfl rfl ?_
        refine s_int (i := 53) rfl ly56 rfl (by omega) (by omega) ⟨by omega, by omega⟩ ?_
        have hI179 := hI166.seta (b := 56) (j := (S165.f 43 10).toNat) (z := back) ta56 rfl (by omega) (by omega)
        have hF181 := hF168.seta (b := 56) (j := (S165.f 43 10).toNat) (z := back) rfl
        have hR182 := hR169.seta (b := 56) (j := (S165.f 43 10).toNat) (z := back)
        refine yT_gen (fun S178 hS180 => ?_)
        rw [hS180] at hI179 hF181 hR182 
        refine r_load (i := 54) (u := 0) (w := 2) rfl rfl rfl ?_
        refine r_dup (i := 55) rfl rfl ?_
        have h183 := hI179.f tf43_10
        have h184 : S178.f 43 10 = S165.f 43 10 := by rw [← hS180]; rfl
        have h185 : S165.f 43 10 = S153.f 43 10 := by rw [← hS167]; rfl
        have h186 : S153.f 43 10 = S142.f 43 10 := by rw [← hS155]; rfl
        have h187 : S142.f 43 10 = S131.f 43 10 := by rw [← hS144]; rfl
        have h188 : S131.f 43 10 = S116.f 43 10 := by rw [← hS133]; rfl
        have h189 : S116.f 43 10 = S.f 43 10 := by rw [← hS118]; exact ysf_ne (by decide)
        refine r_getf (i := 56) (v := 10) (w := 11) (x := vi (S178.f 43 10)) rfl ly43 rfl rfl fun h190 => ?_
        have h190 : Rg (S178.f 43 10) := h190
        refine r_const (i := 57) (u := 1) (z := 1) rfl rfl ?_
        refine r_iadd (i := 58) rfl ?_
        refine r_putI (i := 59) (v := 10) (w := 11) rfl ly43 rfl ⟨by omega, by omega⟩ ?_
        have hI192 := hI179.setf (b := 43) (w := 10) (z := (S178.f 43 10) + 1) tf43_10 rfl (by omega) (by omega)
        have hF194 := hF181.setf (b := 43) (w := 10) (z := (S178.f 43 10) + 1) rfl
        have hR195 := hR182.setf (b := 43) (w := 10) (z := (S178.f 43 10) + 1)
        refine yT_gen (fun S191 hS193 => ?_)
        rw [hS193] at hI192 hF194 hR195 
        refine r_load (i := 60) (u := 0) (w := 2) rfl rfl rfl ?_
        have h196 := hI192.f tf43_10
        have h197 : S191.f 43 10 = (S178.f 43 10) + 1 := by rw [← hS193]; exact ysf_eq
        refine r_getf (i := 61) (v := 10) (w := 11) (x := vi (S191.f 43 10)) rfl ly43 rfl rfl fun h198 => ?_
        have h198 : Rg (S191.f 43 10) := h198
        refine r_const (i := 62) (u := 1) (z := 1) rfl rfl ?_
        refine r_isub (i := 63) rfl ?_
        have h199 := hI192.f tf43_0
        have h200 : S191.f 43 0 = S178.f 43 0 := by rw [← hS193]; exact ysf_ne (by decide)
        have h201 : S178.f 43 0 = S165.f 43 0 := by rw [← hS180]; rfl
        have h202 : S165.f 43 0 = S153.f 43 0 := by rw [← hS167]; rfl
        have h203 : S153.f 43 0 = S142.f 43 0 := by rw [← hS155]; rfl
        have h204 : S142.f 43 0 = S131.f 43 0 := by rw [← hS144]; rfl
        have h205 : S131.f 43 0 = S116.f 43 0 := by rw [← hS133]; rfl
        have h206 : S116.f 43 0 = 2 := by rw [← hS118]; exact ysf_eq
        exact r_retI (i := 64) rfl ⟨(S191.f 43 10) - 1, rfl, by omega, by omega, (by first | (exfalso; omega) | exact Or.inl ⟨by omega, yb15 (by omega), by omega, by omega, ⟨by omega, fun j => by subst hS118 hS133 hS144 hS155 hS167 hS180 hS193; rfl, fun j => by subst hS118 hS133 hS144 hS155 hS167 hS180 hS193; rfl, fun j => by subst hS118 hS133 hS144 hS155 hS167 hS180 hS193; rfl, fun j => by subst hS118 hS133 hS144 hS155 hS167 hS180 hS193; rfl, fun j => by subst hS118 hS133 hS144 hS155 hS167 hS180 hS193; rfl⟩⟩), (by exact CR_push (w := w0) (b := back) e_CR (by omega) (fun j => by subst_vars; rfl) (fun j => by subst_vars; rfl)), hI192, hF194, hR195⟩
      · refine r_const (i := 22) (u := 0) (z := 0) rfl rfl ?_
        have h207 := hI117.f tf43_10
        have h208 : S116.f 43 10 = S.f 43 10 := by rw [← hS118]; exact ysf_ne (by decide)
        exact r_retI (i := 23) rfl ⟨0, rfl, by omega, by omega, (by first | (exfalso; omega) | exact Or.inr (Or.inl ⟨by omega, nb16 (by omega), ⟨by subst hS118; rfl, fun j => by subst hS118; exact ⟨rfl, rfl, rfl, rfl, rfl⟩⟩⟩) | exact Or.inr (Or.inr ⟨by omega, yb15 (by omega), by omega, ⟨by subst hS118; rfl, fun j => by subst hS118; exact ⟨rfl, rfl, rfl, rfl, rfl⟩⟩⟩)), e121, hI117, hF119, hR120⟩
  · refine r_const (i := 9) (u := 1) (z := 1) rfl rfl ?_
    refine r_goto (i := 10) (v := 18) rfl ?_
    refine r_putI (i := 18) (v := 0) (w := 11) rfl ly43 rfl ⟨by omega, by omega⟩ ?_
    have hI210 := hI.setf (b := 43) (w := 0) (z := 1) tf43_0 rfl (by omega) (by omega)
    have hF212 := hF.setf (b := 43) (w := 0) (z := 1) rfl
    have hR213 := hR.setf (b := 43) (w := 0) (z := 1)
    have e214 := CRx.setf e_CR (b := 43) (w := 0) (z := 1) rfl
    refine yT_gen (fun S209 hS211 => ?_)
    rw [hS211] at hI210 hF212 hR213 e214
    refine r_load (i := 19) (u := 0) (w := 2) rfl rfl rfl ?_
    have h215 := hI210.f tf43_0
    have h216 : S209.f 43 0 = 1 := by rw [← hS211]; exact ysf_eq
    refine r_getf (i := 20) (v := 0) (w := 11) (x := vi (S209.f 43 0)) rfl ly43 rfl rfl fun h217 => ?_
    have h217 : Rg (S209.f 43 0) := h217
    refine z_le (i := 21) (v := 24) rfl ⟨by omega, by omega⟩ (fun h218 => ?_) (fun h219 => ?_)
    · refine r_load (i := 24) (u := 0) (w := 2) rfl rfl rfl ?_
      refine r_getf (i := 25) (v := 11) (w := 11) (x := (2, 52)) rfl ly43 rfl rfl fun _ => ?_
      refine r_load (i := 26) (u := 0) (w := 2) rfl rfl rfl ?_
      have h221 := hI210.f tf43_10
      have h222 : S209.f 43 10 = S.f 43 10 := by rw [← hS211]; exact ysf_ne (by decide)
      refine r_getf (i := 27) (v := 10) (w := 11) (x := vi (S209.f 43 10)) rfl ly43 rfl rfl fun h223 => ?_
      have h223 : Rg (S209.f 43 10) := h223
      refine r_load (i := 28) (u := 1) (w := 0) rfl rfl rfl ?_
      refine s_int (i := 29) rfl ly52 rfl (by omega) (by omega) ⟨by omega, by omega⟩ ?_
      have hI225 := hI210.seta (b := 52) (j := (S209.f 43 10).toNat) (z := t) ta52 rfl (by omega) (by omega)
      have hF227 := hF212.seta (b := 52) (j := (S209.f 43 10).toNat) (z := t) rfl
      have hR228 := hR213.seta (b := 52) (j := (S209.f 43 10).toNat) (z := t)
      have e229 := CRx.seta e214 (b := 52) (j := (S209.f 43 10).toNat) (z := t) rfl
      refine yT_gen (fun S224 hS226 => ?_)
      rw [hS226] at hI225 hF227 hR228 e229
      refine r_load (i := 30) (u := 0) (w := 2) rfl rfl rfl ?_
      refine r_getf (i := 31) (v := 12) (w := 11) (x := (2, 53)) rfl ly43 rfl rfl fun _ => ?_
      refine r_load (i := 32) (u := 0) (w := 2) rfl rfl rfl ?_
      have h231 := hI225.f tf43_10
      have h232 : S224.f 43 10 = S209.f 43 10 := by rw [← hS226]; rfl
      have h233 : S209.f 43 10 = S.f 43 10 := by rw [← hS211]; exact ysf_ne (by decide)
      refine r_getf (i := 33) (v := 10) (w := 11) (x := vi (S224.f 43 10)) rfl ly43 rfl rfl fun h234 => ?_
      have h234 : Rg (S224.f 43 10) := h234
      refine r_load (i := 34) (u := 2) (w := 0) rfl rfl rfl ?_
      refine s_int (i := 35) rfl ly53 rfl (by omega) (by omega) ⟨by omega, by omega⟩ ?_
      have hI236 := hI225.seta (b := 53) (j := (S224.f 43 10).toNat) (z := w0) ta53 rfl (by omega) (by omega)
      have hF238 := hF227.seta (b := 53) (j := (S224.f 43 10).toNat) (z := w0) rfl
      have hR239 := hR228.seta (b := 53) (j := (S224.f 43 10).toNat) (z := w0)
      refine yT_gen (fun S235 hS237 => ?_)
      rw [hS237] at hI236 hF238 hR239 
      refine r_load (i := 36) (u := 0) (w := 2) rfl rfl rfl ?_
      refine r_getf (i := 37) (v := 13) (w := 11) (x := (2, 54)) rfl ly43 rfl rfl fun _ => ?_
      refine r_load (i := 38) (u := 0) (w := 2) rfl rfl rfl ?_
      have h241 := hI236.f tf43_10
      have h242 : S235.f 43 10 = S224.f 43 10 := by rw [← hS237]; rfl
      have h243 : S224.f 43 10 = S209.f 43 10 := by rw [← hS226]; rfl
      have h244 : S209.f 43 10 = S.f 43 10 := by rw [← hS211]; exact ysf_ne (by decide)
      refine r_getf (i := 39) (v := 10) (w := 11) (x := vi (S235.f 43 10)) rfl ly43 rfl rfl fun h245 => ?_
      have h245 : Rg (S235.f 43 10) := h245
      refine r_load (i := 40) (u := 3) (w := 0) rfl rfl rfl ?_
      refine s_int (i := 41) rfl ly54 rfl (by omega) (by omega) ⟨by omega, by omega⟩ ?_
      have hI247 := hI236.seta (b := 54) (j := (S235.f 43 10).toNat) (z := bits) ta54 rfl (by omega) (by omega)
      have hF249 := hF238.seta (b := 54) (j := (S235.f 43 10).toNat) (z := bits) rfl
      have hR250 := hR239.seta (b := 54) (j := (S235.f 43 10).toNat) (z := bits)
      refine yT_gen (fun S246 hS248 => ?_)
      rw [hS248] at hI247 hF249 hR250 
      refine r_load (i := 42) (u := 0) (w := 2) rfl rfl rfl ?_
      refine r_getf (i := 43) (v := 14) (w := 11) (x := (2, 55)) rfl ly43 rfl rfl fun _ => ?_
      refine r_load (i := 44) (u := 0) (w := 2) rfl rfl rfl ?_
      have h252 := hI247.f tf43_10
      have h253 : S246.f 43 10 = S235.f 43 10 := by rw [← hS248]; rfl
      have h254 : S235.f 43 10 = S224.f 43 10 := by rw [← hS237]; rfl
      have h255 : S224.f 43 10 = S209.f 43 10 := by rw [← hS226]; rfl
      have h256 : S209.f 43 10 = S.f 43 10 := by rw [← hS211]; exact ysf_ne (by decide)
      refine r_getf (i := 45) (v := 10) (w := 11) (x := vi (S246.f 43 10)) rfl ly43 rfl rfl fun h257 => ?_
      have h257 : Rg (S246.f 43 10) := h257
      refine r_load (i := 46) (u := 4) (w := 0) rfl rfl rfl ?_
      refine s_int (i := 47) rfl ly55 rfl (by omega) (by omega) ⟨by omega, by omega⟩ ?_
      have hI259 := hI247.seta55 (j := (S246.f 43 10).toNat) (z := al) (by omega) (by omega) (by first | assumption | grind)
      have hF261 := hF249.seta (b := 55) (j := (S246.f 43 10).toNat) (z := al) rfl
      have hR262 := hR250.seta (b := 55) (j := (S246.f 43 10).toNat) (z := al)
      refine yT_gen (fun S258 hS260 => ?_)
      rw [hS260] at hI259 hF261 hR262 
      refine r_load (i := 48) (u := 0) (w := 2) rfl rfl rfl ?_
      refine r_getf (i := 49) (v := 15) (w := 11) (x := (2, 56)) rfl ly43 rfl rfl fun _ => ?_
      refine r_load (i := 50) (u := 0) (w := 2) rfl rfl rfl ?_
      have h264 := hI259.f tf43_10
      have h265 : S258.f 43 10 = S246.f 43 10 := by rw [← hS260]; rfl
      have h266 : S246.f 43 10 = S235.f 43 10 := by rw [← hS248]; rfl
      have h267 : S235.f 43 10 = S224.f 43 10 := by rw [← hS237]; rfl
      have h268 : S224.f 43 10 = S209.f 43 10 := by rw [← hS226]; rfl
      have h269 : S209.f 43 10 = S.f 43 10 := by rw [← hS211]; exact ysf_ne (by decide)
      refine r_getf (i := 51) (v := 10) (w := 11) (x := vi (S258.f 43 10)) rfl ly43 rfl rfl fun h270 => ?_
      have h270 : Rg (S258.f 43 10) := h270
      refine r_load (i := 52) (u := 5) (w := 0) rfl rfl rfl ?_
      refine s_int (i := 53) rfl ly56 rfl (by omega) (by omega) ⟨by omega, by omega⟩ ?_
      have hI272 := hI259.seta (b := 56) (j := (S258.f 43 10).toNat) (z := back) ta56 rfl (by omega) (by omega)
      have hF274 := hF261.seta (b := 56) (j := (S258.f 43 10).toNat) (z := back) rfl
      have hR275 := hR262.seta (b := 56) (j := (S258.f 43 10).toNat) (z := back)
      refine yT_gen (fun S271 hS273 => ?_)
      rw [hS273] at hI272 hF274 hR275 
      refine r_load (i := 54) (u := 0) (w := 2) rfl rfl rfl ?_
      refine r_dup (i := 55) rfl rfl ?_
      have h276 := hI272.f tf43_10
      have h277 : S271.f 43 10 = S258.f 43 10 := by rw [← hS273]; rfl
      have h278 : S258.f 43 10 = S246.f 43 10 := by rw [← hS260]; rfl
      have h279 : S246.f 43 10 = S235.f 43 10 := by rw [← hS248]; rfl
      have h280 : S235.f 43 10 = S224.f 43 10 := by rw [← hS237]; rfl
      have h281 : S224.f 43 10 = S209.f 43 10 := by rw [← hS226]; rfl
      have h282 : S209.f 43 10 = S.f 43 10 := by rw [← hS211]; exact ysf_ne (by decide)
      refine r_getf (i := 56) (v := 10) (w := 11) (x := vi (S271.f 43 10)) rfl ly43 rfl rfl fun h283 => ?_
      have h283 : Rg (S271.f 43 10) := h283
      refine r_const (i := 57) (u := 1) (z := 1) rfl rfl ?_
      refine r_iadd (i := 58) rfl ?_
      refine r_putI (i := 59) (v := 10) (w := 11) rfl ly43 rfl ⟨by omega, by omega⟩ ?_
      have hI285 := hI272.setf (b := 43) (w := 10) (z := (S271.f 43 10) + 1) tf43_10 rfl (by omega) (by omega)
      have hF287 := hF274.setf (b := 43) (w := 10) (z := (S271.f 43 10) + 1) rfl
      have hR288 := hR275.setf (b := 43) (w := 10) (z := (S271.f 43 10) + 1)
      refine yT_gen (fun S284 hS286 => ?_)
      rw [hS286] at hI285 hF287 hR288 
      refine r_load (i := 60) (u := 0) (w := 2) rfl rfl rfl ?_
      have h289 := hI285.f tf43_10
      have h290 : S284.f 43 10 = (S271.f 43 10) + 1 := by rw [← hS286]; exact ysf_eq
      refine r_getf (i := 61) (v := 10) (w := 11) (x := vi (S284.f 43 10)) rfl ly43 rfl rfl fun h291 => ?_
      have h291 : Rg (S284.f 43 10) := h291
      refine r_const (i := 62) (u := 1) (z := 1) rfl rfl ?_
      refine r_isub (i := 63) rfl ?_
      have h292 := hI285.f tf43_0
      have h293 : S284.f 43 0 = S271.f 43 0 := by rw [← hS286]; exact ysf_ne (by decide)
      have h294 : S271.f 43 0 = S258.f 43 0 := by rw [← hS273]; rfl
      have h295 : S258.f 43 0 = S246.f 43 0 := by rw [← hS260]; rfl
      have h296 : S246.f 43 0 = S235.f 43 0 := by rw [← hS248]; rfl
      have h297 : S235.f 43 0 = S224.f 43 0 := by rw [← hS237]; rfl
      have h298 : S224.f 43 0 = S209.f 43 0 := by rw [← hS226]; rfl
      have h299 : S209.f 43 0 = 1 := by rw [← hS211]; exact ysf_eq
      exact r_retI (i := 64) rfl ⟨(S284.f 43 10) - 1, rfl, by omega, by omega, (by first | (exfalso; omega) | exact Or.inl ⟨by omega, yb15 (by omega), by omega, by omega, ⟨by omega, fun j => by subst hS211 hS226 hS237 hS248 hS260 hS273 hS286; rfl, fun j => by subst hS211 hS226 hS237 hS248 hS260 hS273 hS286; rfl, fun j => by subst hS211 hS226 hS237 hS248 hS260 hS273 hS286; rfl, fun j => by subst hS211 hS226 hS237 hS248 hS260 hS273 hS286; rfl, fun j => by subst hS211 hS226 hS237 hS248 hS260 hS273 hS286; rfl⟩⟩), (by exact CR_push (w := w0) (b := back) e_CR (by omega) (fun j => by subst_vars; rfl) (fun j => by subst_vars; rfl)), hI285, hF287, hR288⟩
    · refine r_const (i := 22) (u := 0) (z := 0) rfl rfl ?_
      have h300 := hI210.f tf43_10
      have h301 : S209.f 43 10 = S.f 43 10 := by rw [← hS211]; exact ysf_ne (by decide)
      exact r_retI (i := 23) rfl ⟨0, rfl, by omega, by omega, (by first | (exfalso; omega) | exact Or.inr (Or.inl ⟨by omega, nb16 (by omega), ⟨by subst hS211; rfl, fun j => by subst hS211; exact ⟨rfl, rfl, rfl, rfl, rfl⟩⟩⟩) | exact Or.inr (Or.inr ⟨by omega, yb15 (by omega), by omega, ⟨by subst hS211; rfl, fun j => by subst hS211; exact ⟨rfl, rfl, rfl, rfl, rfl⟩⟩⟩)), e214, hI210, hF212, hR213⟩
end XNC
