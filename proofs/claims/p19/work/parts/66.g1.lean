set_option linter.unusedVariables false
set_option maxRecDepth 4000
noncomputable section XNC
/-- ProxyForgeModel.parameter -/
theorem sp229 {G : xk} {S : yS} {d : Nat} (hI : yI S) {a : Int} (h_a : 0 ≤ a ∧ a ≤ 1048575) {k : Int} (h_k : 0 ≤ k ∧ k ≤ 3) (hd : 0 ≤ d) : yT xPr G LY xC229 0 [some (vi a), some (vi k)] [] S d (fun r S' => ∃ z : Int, r = (1, vi z) ∧ 0 ≤ z ∧ z ≤ 31 ∧ z = yand (yshr a (5 * k)) 31 ∧ S = S') := by
  refine yT_pad 0 ?_
  show yT xPr G LY xC229 0 [some (vi a), some (vi k)] [] S d _
  refine r_load (i := 0) (u := 0) (w := 0) rfl rfl rfl ?_
  refine r_const (i := 1) (u := 5) (z := 5) rfl rfl ?_
  refine r_load (i := 2) (u := 1) (w := 0) rfl rfl rfl ?_
  refine r_imul (i := 3) rfl ?_
  refine r_ishr (i := 4) rfl (by omega) (by omega) (by omega) (by omega) ?_
  have h1 := @yshr_c a (5 * k) (by omega) (by omega)
  refine r_const (i := 5) (u := 31) (z := 31) rfl rfl ?_
  refine r_iand (i := 6) rfl ?_
  have h2 := @yand_c (yshr a (5 * k)) 31 (by decide) (by decide)
  exact r_retI (i := 7) rfl ⟨yand (yshr a (5 * k)) 31, rfl, by omega, by omega, (by omega), rfl⟩
theorem lp216_2 {G : xk} {d : Nat} {S : yS} (hI : yI S) {a : Int} (h_a : 0 ≤ a ∧ a ≤ 1048575) (hd : 1 ≤ d + 1) : ∀ (n : Nat), ∀ (n0 : Int) (h_n0 : 0 ≤ n0 ∧ n0 ≤ 4) (q_0 : ∀ k : Int, 0 ≤ k → k < n0 → dg a k ≠ 0) (hn : 4 - n0 < (n : Nat)), yT xPr G LY xC216 2 [some (vi a), some (vi n0)] [] S (d + 1) (fun r S' => ∃ z : Int, r = (1, vi z) ∧ 0 ≤ z ∧ z ≤ 4 ∧ hMn a z ∧ S = S') := by
  intro n
  induction n with
  | zero => intro n0 h_n0 q_0 hn; exact absurd hn (by omega)
  | succ n ih =>
    intro n0 h_n0 q_0 hn
    refine r_load (i := 2) (u := 1) (w := 0) rfl rfl rfl ?_
    refine r_const (i := 3) (u := 4) (z := 4) rfl rfl ?_
    refine c_ge (i := 4) (v := 11) rfl ⟨by omega, by omega⟩ ⟨by omega, by omega⟩ (fun h1 => ?_) (fun h2 => ?_)
    · refine r_load (i := 11) (u := 1) (w := 0) rfl rfl rfl ?_
      exact r_retI (i := 12) rfl ⟨n0, rfl, by omega, by omega, (by exact ⟨q_0, fun h9 => by unfold dg; omega⟩), rfl⟩
    · refine r_load (i := 5) (u := 0) (w := 0) rfl rfl rfl ?_
      refine r_load (i := 6) (u := 1) (w := 0) rfl rfl rfl ?_
      refine r_call (i := 7) (u := 65535) (v := 229) (w := 0) (b := 2) (na := 514) (C2 := xC229) (as := [vi a, vi n0]) (s := []) rfl rfl rfl rfl rfl rfl rfl (sp229 (a := a) (k := n0) hI ⟨by omega, by omega⟩ ⟨by omega, by omega⟩   (by omega)) (fun r3 S4 hq5 => ?_)
      obtain ⟨z6, rfl, h7, h8, h9, rfl⟩ := hq5
      refine Or.inr (Or.inl ⟨rfl, ?_⟩)
      refine z_le (i := 8) (v := 11) rfl ⟨by omega, by omega⟩ (fun h10 => ?_) (fun h11 => ?_)
      · refine r_load (i := 11) (u := 1) (w := 0) rfl rfl rfl ?_
        exact r_retI (i := 12) rfl ⟨n0, rfl, by omega, by omega, (by exact ⟨q_0, fun h9 => by unfold dg; omega⟩), rfl⟩
      · refine r_iinc (i := 9) (u := 1) (v := 1) (s := 1) (L1 := [some (vi a), some (vi (n0 + 1))]) rfl rfl rfl rfl rfl ?_
        refine r_goto (i := 10) (v := 2) rfl ?_
        exact ih (n0 + 1) ⟨by omega, by omega⟩ (by first | exact hm_0 | exact hm_s q_0 (by unfold dg; omega)) (by omega)
/-- ProxyForgeModel.many -/
theorem sp216 {G : xk} {S : yS} {d : Nat} (hI : yI S) {a : Int} (h_a : 0 ≤ a ∧ a ≤ 1048575) (hd : 1 ≤ d) : yT xPr G LY xC216 0 [some (vi a)] [] S d (fun r S' => ∃ z : Int, r = (1, vi z) ∧ 0 ≤ z ∧ z ≤ 4 ∧ hMn a z ∧ S = S') := by
  refine yT_pad 1 ?_
  show yT xPr G LY xC216 0 [some (vi a), none] [] S d _
  obtain ⟨d, rfl⟩ : ∃ q, d = q + 1 := ⟨d - 1, by omega⟩
  refine r_const (i := 0) (u := 0) (z := 0) rfl rfl ?_
  refine r_store (i := 1) (u := 1) (w := 0) (L1 := [some (vi a), some (vi 0)]) rfl rfl rfl rfl ?_
  exact lp216_2 hI h_a   hd _ 0 ⟨by omega, by omega⟩ (by first | exact hm_0 | exact hm_s q_0 (by unfold dg; omega)) (Int.lt_succ_toNat _)
/-- ProxyForgeModel.isType -/
theorem sp213 {G : xk} {S : yS} {d : Nat} (hI : yI S) {t : Int} (h_t : -2147483648 ≤ t ∧ t ≤ 2147483647) (hd : 0 ≤ d) : yT xPr G LY xC213 0 [some ((2, 43)), some (vi t)] [] S d (fun r S' => ∃ z : Int, r = (1, vi z) ∧ 0 ≤ z ∧ z ≤ 1 ∧ (z = 1 → 0 ≤ t ∧ t < S.f 43 1) ∧ (z = 0 → t < 0 ∨ S.f 43 1 ≤ t) ∧ S = S') := by
  refine yT_pad 0 ?_
  show yT xPr G LY xC213 0 [some ((2, 43)), some (vi t)] [] S d _
  refine r_load (i := 0) (u := 1) (w := 0) rfl rfl rfl ?_
  refine z_lt (i := 1) (v := 8) rfl ⟨by omega, by omega⟩ (fun h1 => ?_) (fun h2 => ?_)
  · refine r_const (i := 8) (u := 0) (z := 0) rfl rfl ?_
    have h3 := hI.f tf43_1
    exact r_retZ (i := 9) rfl (by omega) (by omega) ⟨0, rfl, by omega, by omega, (by omega), (by omega), rfl⟩
  · refine r_load (i := 2) (u := 1) (w := 0) rfl rfl rfl ?_
    refine r_load (i := 3) (u := 0) (w := 2) rfl rfl rfl ?_
    have h4 := hI.f tf43_1
    refine r_getf (i := 4) (v := 1) (w := 11) (x := vi (S.f 43 1)) rfl ly43 rfl rfl fun h5 => ?_
    have h5 : Rg (S.f 43 1) := h5
    refine c_ge (i := 5) (v := 8) rfl ⟨by omega, by omega⟩ ⟨by omega, by omega⟩ (fun h6 => ?_) (fun h7 => ?_)
    · refine r_const (i := 8) (u := 0) (z := 0) rfl rfl ?_
      exact r_retZ (i := 9) rfl (by omega) (by omega) ⟨0, rfl, by omega, by omega, (by omega), (by omega), rfl⟩
    · refine r_const (i := 6) (u := 1) (z := 1) rfl rfl ?_
      refine r_goto (i := 7) (v := 9) rfl ?_
      exact r_retZ (i := 9) rfl (by omega) (by omega) ⟨1, rfl, by omega, by omega, (by omega), (by omega), rfl⟩
/-- ProxyForgeModel.isKind -/
theorem sp210 {G : xk} {S : yS} {d : Nat} (hI : yI S) {k : Int} (h_k : -2147483648 ≤ k ∧ k ≤ 2147483647) (hd : 0 ≤ d) : yT xPr G LY xC210 0 [some ((2, 43)), some (vi k)] [] S d (fun r S' => ∃ z : Int, r = (1, vi z) ∧ 0 ≤ z ∧ z ≤ 1 ∧ (z = 1 → 0 < k ∧ k < 4 + S.f 43 1) ∧ (z = 0 → k ≤ 0 ∨ 4 + S.f 43 1 ≤ k) ∧ S = S') := by
  refine yT_pad 0 ?_
  show yT xPr G LY xC210 0 [some ((2, 43)), some (vi k)] [] S d _
  refine r_load (i := 0) (u := 1) (w := 0) rfl rfl rfl ?_
  refine z_le (i := 1) (v := 10) rfl ⟨by omega, by omega⟩ (fun h1 => ?_) (fun h2 => ?_)
  · refine r_const (i := 10) (u := 0) (z := 0) rfl rfl ?_
    have h3 := hI.f tf43_1
    exact r_retZ (i := 11) rfl (by omega) (by omega) ⟨0, rfl, by omega, by omega, (by omega), (by omega), rfl⟩
  · refine r_load (i := 2) (u := 1) (w := 0) rfl rfl rfl ?_
    refine r_const (i := 3) (u := 4) (z := 4) rfl rfl ?_
    refine r_load (i := 4) (u := 0) (w := 2) rfl rfl rfl ?_
    have h4 := hI.f tf43_1
    refine r_getf (i := 5) (v := 1) (w := 11) (x := vi (S.f 43 1)) rfl ly43 rfl rfl fun h5 => ?_
    have h5 : Rg (S.f 43 1) := h5
    refine r_iadd (i := 6) rfl ?_
    refine c_ge (i := 7) (v := 10) rfl ⟨by omega, by omega⟩ ⟨by omega, by omega⟩ (fun h6 => ?_) (fun h7 => ?_)
    · refine r_const (i := 10) (u := 0) (z := 0) rfl rfl ?_
      exact r_retZ (i := 11) rfl (by omega) (by omega) ⟨0, rfl, by omega, by omega, (by omega), (by omega), rfl⟩
    · refine r_const (i := 8) (u := 1) (z := 1) rfl rfl ?_
      refine r_goto (i := 9) (v := 11) rfl ?_
      exact r_retZ (i := 11) rfl (by omega) (by omega) ⟨1, rfl, by omega, by omega, (by omega), (by omega), rfl⟩
/-- ProxyForgeModel.wide -/
theorem sp262 {G : xk} {S : yS} {d : Nat} (hI : yI S) {k : Int} (h_k : -2147483648 ≤ k ∧ k ≤ 2147483647) (hd : 0 ≤ d) : yT xPr G LY xC262 0 [some (vi k)] [] S d (fun r S' => ∃ z : Int, r = (1, vi z) ∧ 0 ≤ z ∧ z ≤ 2 ∧ z = wid k ∧ S = S') := by
  refine yT_pad 0 ?_
  show yT xPr G LY xC262 0 [some (vi k)] [] S d _
  refine r_load (i := 0) (u := 0) (w := 0) rfl rfl rfl ?_
  refine r_const (i := 1) (u := 2) (z := 2) rfl rfl ?_
  refine c_ne (i := 2) (v := 5) rfl ⟨by omega, by omega⟩ ⟨by omega, by omega⟩ (fun h1 => ?_) (fun h2 => ?_)
  · refine r_load (i := 5) (u := 0) (w := 0) rfl rfl rfl ?_
    refine z_ne (i := 6) (v := 9) rfl ⟨by omega, by omega⟩ (fun h3 => ?_) (fun h4 => ?_)
    · refine r_const (i := 9) (u := 1) (z := 1) rfl rfl ?_
      exact r_retI (i := 10) rfl ⟨1, rfl, by omega, by omega, (by first | exact (if_pos (by omega)).symm | exact ((if_neg (by omega)).trans (if_pos (by omega))).symm | exact ((if_neg (by omega)).trans (if_neg (by omega))).symm), rfl⟩
    · refine r_const (i := 7) (u := 0) (z := 0) rfl rfl ?_
      refine r_goto (i := 8) (v := 10) rfl ?_
      exact r_retI (i := 10) rfl ⟨0, rfl, by omega, by omega, (by first | exact (if_pos (by omega)).symm | exact ((if_neg (by omega)).trans (if_pos (by omega))).symm | exact ((if_neg (by omega)).trans (if_neg (by omega))).symm), rfl⟩
  · refine r_const (i := 3) (u := 2) (z := 2) rfl rfl ?_
    refine r_goto (i := 4) (v := 10) rfl ?_
    exact r_retI (i := 10) rfl ⟨2, rfl, by omega, by omega, (by first | exact (if_pos (by omega)).symm | exact ((if_neg (by omega)).trans (if_pos (by omega))).symm | exact ((if_neg (by omega)).trans (if_neg (by omega))).symm), rfl⟩
theorem lp261_55 {G : xk} {d : Nat} {S0 : yS} {t : Int} (h_t : -2147483648 ≤ t ∧ t ≤ 2147483647) {o : Int} (h_o : 0 ≤ o ∧ o ≤ 19) (hd : 0 ≤ d) {r0 : Int} (h_r0 : 0 ≤ r0 ∧ r0 ≤ 19) {k : Int} (h_k : 0 ≤ k ∧ k ≤ 19) (no : Nat) (K : ∀ (S : yS) (hI : yI S) (hF : yFr [] [68] S0 S) (hR : yRm [] S0 S) (k : Int) (h_k : 0 ≤ k ∧ k ≤ 20) (q_0 : I32 S S0 t r0 k) (hn : 20 - k < (no : Nat)), yT xPr G LY xC261 32 [some ((2, 43)), some (vi t), some (vi o), some ((2, 68)), some (vi r0), some (vi k), none] [] S d (fun r S' => ∃ z : Int, r = (1, vi z) ∧ 0 ≤ z ∧ z ≤ 1 ∧ (FM S0 → 0 ≤ t → t < S0.f 43 1 → o < S0.f 43 1 → (z = 1 ↔ rcM S0 t o)) ∧ yI S' ∧ yFr [] [68] S0 S' ∧ yRm [] S0 S')) (hm : 20 - k < ((no + 1 : Nat) : Int)) : ∀ (n : Nat), ∀ (S : yS) (hI : yI S) (hF : yFr [] [68] S0 S) (hR : yRm [] S0 S) (j : Int) (h_j : 0 ≤ j ∧ j ≤ 4) (q_0 : I55 S S0 t r0 k j) (q_1 : k < S.f 43 1) (hn : 4 - j < (n : Nat)), yT xPr G LY xC261 55 [some ((2, 43)), some (vi t), some (vi o), some ((2, 68)), some (vi r0), some (vi k), some (vi j)] [] S d (fun r S' => ∃ z : Int, r = (1, vi z) ∧ 0 ≤ z ∧ z ≤ 1 ∧ (FM S0 → 0 ≤ t → t < S0.f 43 1 → o < S0.f 43 1 → (z = 1 ↔ rcM S0 t o)) ∧ yI S' ∧ yFr [] [68] S0 S' ∧ yRm [] S0 S') := by
  intro n
  induction n with
  | zero => intro S hI hF hR j h_j q_0 q_1 hn; exact absurd hn (by omega)
  | succ n ih =>
    intro S hI hF hR j h_j q_0 q_1 hn
    have h1 := hI.f tf43_1
    have h2 : S.f 43 1 = S0.f 43 1 := hF.f rfl
    refine r_load (i := 55) (u := 6) (w := 0) rfl rfl rfl ?_
    refine r_load (i := 56) (u := 0) (w := 2) rfl rfl rfl ?_
    refine r_getf (i := 57) (v := 9) (w := 11) (x := (2, 51)) rfl ly43 rfl rfl fun _ => ?_
    refine r_load (i := 58) (u := 5) (w := 0) rfl rfl rfl ?_
    refine a_int (i := 59) rfl ly51 rfl (by omega) (by omega) fun h4 => ?_
    have h5 := hI.a ta51 k.toNat
    have h6 : S.a 51 k.toNat = S0.a 51 k.toNat := hF.a rfl _
    refine c_ge (i := 60) (v := 74) rfl ⟨by omega, by omega⟩ ⟨by omega, by omega⟩ (fun h7 => ?_) (fun h8 => ?_)
    · refine r_iinc (i := 74) (u := 1) (v := 5) (s := 1) (L1 := [some ((2, 43)), some (vi t), some (vi o), some ((2, 68)), some (vi r0), some (vi (k + 1)), some (vi j)]) rfl rfl rfl rfl rfl ?_
      refine r_goto (i := 75) (v := 32) rfl ?_
      refine yT_drop (L1 := [some ((2, 43)), some (vi t), some (vi o), some ((2, 68)), some (vi r0), some (vi (k + 1)), none]) rfl ?_
      exact K S hI hF hR (k + 1) ⟨by omega, by omega⟩ (by exact I32_s q_0 (by omega)) (by omega)
    · refine r_load (i := 61) (u := 3) (w := 2) rfl rfl rfl ?_
      refine r_load (i := 62) (u := 0) (w := 2) rfl rfl rfl ?_
      refine r_getf (i := 63) (v := 8) (w := 11) (x := (2, 50)) rfl ly43 rfl rfl fun _ => ?_
      refine r_const (i := 64) (u := 4) (z := 4) rfl rfl ?_
      refine r_load (i := 65) (u := 5) (w := 0) rfl rfl rfl ?_
      refine r_imul (i := 66) rfl ?_
      refine r_load (i := 67) (u := 6) (w := 0) rfl rfl rfl ?_
      refine r_iadd (i := 68) rfl ?_
      refine a_int (i := 69) rfl ly50 rfl (by omega) (by omega) fun h10 => ?_
      have h11 := hI.a ta50 ((4 * k) + j).toNat
      have h12 : S.a 50 ((4 * k) + j).toNat = S0.a 50 ((4 * k) + j).toNat := hF.a rfl _
      refine r_const (i := 70) (u := 1) (z := 1) rfl rfl ?_
      refine s_bool (i := 71) rfl ly68 rfl (by omega) (by omega) (by omega) (by omega) ?_
      have hI14 := hI.seta0 (b := 68) (j := (S.a 50 ((4 * k) + j).toNat).toNat) (z := 1) rfl rfl
      have hF16 := hF.seta (b := 68) (j := (S.a 50 ((4 * k) + j).toNat).toNat) (z := 1) rfl
      have hR17 := hR.seta (b := 68) (j := (S.a 50 ((4 * k) + j).toNat).toNat) (z := 1)
      refine yT_gen (fun S13 hS15 => ?_)
      rw [hS15] at hI14 hF16 hR17 
      refine r_iinc (i := 72) (u := 1) (v := 6) (s := 1) (L1 := [some ((2, 43)), some (vi t), some (vi o), some ((2, 68)), some (vi r0), some (vi k), some (vi (j + 1))]) rfl rfl rfl rfl rfl ?_
      refine r_goto (i := 73) (v := 55) rfl ?_
      have h18 := hI14.f tf43_1
      have h19 : S13.f 43 1 = S.f 43 1 := by rw [← hS15]; rfl
      have h20 : S.f 43 1 = S0.f 43 1 := hF.f rfl
      exact ih S13 hI14 hF16 hR17 (j + 1) ⟨by omega, by omega⟩ (by rw [← hS15]; exact I55_s q_0 (by omega) (by omega) (by omega) (by omega) (by omega)) (by omega) (by omega)
theorem lp261_32 {G : xk} {d : Nat} {S0 : yS} {t : Int} (h_t : -2147483648 ≤ t ∧ t ≤ 2147483647) {o : Int} (h_o : 0 ≤ o ∧ o ≤ 19) (hd : 0 ≤ d) {r0 : Int} (h_r0 : 0 ≤ r0 ∧ r0 ≤ 19) (no : Nat) (K : ∀ (S : yS) (hI : yI S) (hF : yFr [] [68] S0 S) (hR : yRm [] S0 S) (r0 : Int) (h_r0 : 0 ≤ r0 ∧ r0 ≤ 20) (q_0 : I26 S S0 t r0) (hn : 20 - r0 < (no : Nat)), yT xPr G LY xC261 26 [some ((2, 43)), some (vi t), some (vi o), some ((2, 68)), some (vi r0), none, none] [] S d (fun r S' => ∃ z : Int, r = (1, vi z) ∧ 0 ≤ z ∧ z ≤ 1 ∧ (FM S0 → 0 ≤ t → t < S0.f 43 1 → o < S0.f 43 1 → (z = 1 ↔ rcM S0 t o)) ∧ yI S' ∧ yFr [] [68] S0 S' ∧ yRm [] S0 S')) (hm : 20 - r0 < ((no + 1 : Nat) : Int)) : ∀ (n : Nat), ∀ (S : yS) (hI : yI S) (hF : yFr [] [68] S0 S) (hR : yRm [] S0 S) (k : Int) (h_k : 0 ≤ k ∧ k ≤ 20) (q_0 : I32 S S0 t r0 k) (hn : 20 - k < (n : Nat)), yT xPr G LY xC261 32 [some ((2, 43)), some (vi t), some (vi o), some ((2, 68)), some (vi r0), some (vi k), none] [] S d (fun r S' => ∃ z : Int, r = (1, vi z) ∧ 0 ≤ z ∧ z ≤ 1 ∧ (FM S0 → 0 ≤ t → t < S0.f 43 1 → o < S0.f 43 1 → (z = 1 ↔ rcM S0 t o)) ∧ yI S' ∧ yFr [] [68] S0 S' ∧ yRm [] S0 S') := by
  intro n
  induction n with
  | zero => intro S hI hF hR k h_k q_0 hn; exact absurd hn (by omega)
  | succ n ih =>
    intro S hI hF hR k h_k q_0 hn
    refine r_load (i := 32) (u := 5) (w := 0) rfl rfl rfl ?_
    refine r_load (i := 33) (u := 0) (w := 2) rfl rfl rfl ?_
    have h1 := hI.f tf43_1
    have h2 : S.f 43 1 = S0.f 43 1 := hF.f rfl
    refine r_getf (i := 34) (v := 1) (w := 11) (x := vi (S.f 43 1)) rfl ly43 rfl rfl fun h3 => ?_
    have h3 : Rg (S.f 43 1) := h3
    refine c_ge (i := 35) (v := 76) rfl ⟨by omega, by omega⟩ ⟨by omega, by omega⟩ (fun h4 => ?_) (fun h5 => ?_)
    · refine r_iinc (i := 76) (u := 1) (v := 4) (s := 1) (L1 := [some ((2, 43)), some (vi t), some (vi o), some ((2, 68)), some (vi (r0 + 1)), some (vi k), none]) rfl rfl rfl rfl rfl ?_
      refine r_goto (i := 77) (v := 26) rfl ?_
      refine yT_drop (L1 := [some ((2, 43)), some (vi t), some (vi o), some ((2, 68)), some (vi (r0 + 1)), none, none]) rfl ?_
      exact K S hI hF hR (r0 + 1) ⟨by omega, by omega⟩ (by exact I26_s q_0 (by omega)) (by omega)
    · refine r_load (i := 36) (u := 3) (w := 2) rfl rfl rfl ?_
      refine r_load (i := 37) (u := 5) (w := 0) rfl rfl rfl ?_
      refine a_bool (i := 38) rfl ly68 rfl (by omega) (by omega) fun h6 => ?_
      refine z_ne (i := 39) (v := 41) rfl ⟨by omega, by omega⟩ (fun h7 => ?_) (fun h8 => ?_)
      · refine r_load (i := 41) (u := 0) (w := 2) rfl rfl rfl ?_
        refine r_getf (i := 42) (v := 7) (w := 11) (x := (2, 49)) rfl ly43 rfl rfl fun _ => ?_
        refine r_load (i := 43) (u := 5) (w := 0) rfl rfl rfl ?_
        refine a_int (i := 44) rfl ly49 rfl (by omega) (by omega) fun h10 => ?_
        have h11 := hI.a ta49 k.toNat
        have h12 := hI.m3 k.toNat
        have h13 : S.a 49 k.toNat = S0.a 49 k.toNat := hF.a rfl _
        refine z_lt (i := 45) (v := 53) rfl ⟨by omega, by omega⟩ (fun h14 => ?_) (fun h15 => ?_)
        · refine r_const (i := 53) (u := 0) (z := 0) rfl rfl ?_
          refine r_store (i := 54) (u := 6) (w := 0) (L1 := [some ((2, 43)), some (vi t), some (vi o), some ((2, 68)), some (vi r0), some (vi k), some (vi 0)]) rfl rfl rfl rfl ?_
          exact lp261_55 h_t h_o  hd (r0 := r0) (k := k) ⟨by omega, by omega⟩ ⟨by omega, by omega⟩ n ih (by omega) _ S hI hF hR 0 ⟨by omega, by omega⟩ (by exact I55_0 q_0 (by omega) (by omega)) (by omega) (Int.lt_succ_toNat _)
        · refine r_load (i := 46) (u := 3) (w := 2) rfl rfl rfl ?_
          refine r_load (i := 47) (u := 0) (w := 2) rfl rfl rfl ?_
          refine r_getf (i := 48) (v := 7) (w := 11) (x := (2, 49)) rfl ly43 rfl rfl fun _ => ?_
          refine r_load (i := 49) (u := 5) (w := 0) rfl rfl rfl ?_
          refine a_int (i := 50) rfl ly49 rfl (by omega) (by omega) fun h17 => ?_
          have h18 := hI.a ta49 k.toNat
          have h19 := hI.m3 k.toNat
          refine r_const (i := 51) (u := 1) (z := 1) rfl rfl ?_
          refine s_bool (i := 52) rfl ly68 rfl (by omega) (by omega) (by omega) (by omega) ?_
          have hI21 := hI.seta0 (b := 68) (j := (S.a 49 k.toNat).toNat) (z := 1) rfl rfl
          have hF23 := hF.seta (b := 68) (j := (S.a 49 k.toNat).toNat) (z := 1) rfl
          have hR24 := hR.seta (b := 68) (j := (S.a 49 k.toNat).toNat) (z := 1)
          refine yT_gen (fun S20 hS22 => ?_)
          rw [hS22] at hI21 hF23 hR24 
          refine r_const (i := 53) (u := 0) (z := 0) rfl rfl ?_
          refine r_store (i := 54) (u := 6) (w := 0) (L1 := [some ((2, 43)), some (vi t), some (vi o), some ((2, 68)), some (vi r0), some (vi k), some (vi 0)]) rfl rfl rfl rfl ?_
          have h25 := hI21.f tf43_1
          have h26 : S20.f 43 1 = S.f 43 1 := by rw [← hS22]; rfl
          have h27 : S.f 43 1 = S0.f 43 1 := hF.f rfl
          exact lp261_55 h_t h_o  hd (r0 := r0) (k := k) ⟨by omega, by omega⟩ ⟨by omega, by omega⟩ n ih (by omega) _ S20 hI21 hF23 hR24 0 ⟨by omega, by omega⟩ (by rw [← hS22]; exact I55_p q_0 (by omega) (by omega) (by omega) (by omega) (by omega)) (by omega) (Int.lt_succ_toNat _)
      · refine r_goto (i := 40) (v := 74) rfl ?_
        refine r_iinc (i := 74) (u := 1) (v := 5) (s := 1) (L1 := [some ((2, 43)), some (vi t), some (vi o), some ((2, 68)), some (vi r0), some (vi (k + 1)), none]) rfl rfl rfl rfl rfl ?_
        refine r_goto (i := 75) (v := 32) rfl ?_
        exact ih S hI hF hR (k + 1) ⟨by omega, by omega⟩ (by exact I32_n q_0 (by omega)) (by omega)
theorem lp261_26 {G : xk} {d : Nat} {S0 : yS} {t : Int} (h_t : -2147483648 ≤ t ∧ t ≤ 2147483647) {o : Int} (h_o : 0 ≤ o ∧ o ≤ 19) (hd : 0 ≤ d) : ∀ (n : Nat), ∀ (S : yS) (hI : yI S) (hF : yFr [] [68] S0 S) (hR : yRm [] S0 S) (r0 : Int) (h_r0 : 0 ≤ r0 ∧ r0 ≤ 20) (q_0 : I26 S S0 t r0) (hn : 20 - r0 < (n : Nat)), yT xPr G LY xC261 26 [some ((2, 43)), some (vi t), some (vi o), some ((2, 68)), some (vi r0), none, none] [] S d (fun r S' => ∃ z : Int, r = (1, vi z) ∧ 0 ≤ z ∧ z ≤ 1 ∧ (FM S0 → 0 ≤ t → t < S0.f 43 1 → o < S0.f 43 1 → (z = 1 ↔ rcM S0 t o)) ∧ yI S' ∧ yFr [] [68] S0 S' ∧ yRm [] S0 S') := by
  intro n
  induction n with
  | zero => intro S hI hF hR r0 h_r0 q_0 hn; exact absurd hn (by omega)
  | succ n ih =>
    intro S hI hF hR r0 h_r0 q_0 hn
    refine r_load (i := 26) (u := 4) (w := 0) rfl rfl rfl ?_
    refine r_load (i := 27) (u := 0) (w := 2) rfl rfl rfl ?_
    have h1 := hI.f tf43_1
    have h2 : S.f 43 1 = S0.f 43 1 := hF.f rfl
    refine r_getf (i := 28) (v := 1) (w := 11) (x := vi (S.f 43 1)) rfl ly43 rfl rfl fun h3 => ?_
    have h3 : Rg (S.f 43 1) := h3
    refine c_ge (i := 29) (v := 78) rfl ⟨by omega, by omega⟩ ⟨by omega, by omega⟩ (fun h4 => ?_) (fun h5 => ?_)
    · refine r_load (i := 78) (u := 3) (w := 2) rfl rfl rfl ?_
      refine r_load (i := 79) (u := 2) (w := 0) rfl rfl rfl ?_
      refine a_bool (i := 80) rfl ly68 rfl (by omega) (by omega) fun h6 => ?_
      exact r_retZ (i := 81) rfl (by omega) (by omega) ⟨S.a 68 o.toNat, rfl, by omega, by omega, (by exact fun hf9 t0 t1 o1 => ⟨fun h9 => (I26_end q_0 (by omega) hf9 t0 t1 (by omega) o1).mp (by omega), fun h9 => by have w9 := (I26_end q_0 (by omega) hf9 t0 t1 (by omega) o1).mpr h9; omega⟩), hI, hF, hR⟩
    · refine r_const (i := 30) (u := 0) (z := 0) rfl rfl ?_
      refine r_store (i := 31) (u := 5) (w := 0) (L1 := [some ((2, 43)), some (vi t), some (vi o), some ((2, 68)), some (vi r0), some (vi 0), none]) rfl rfl rfl rfl ?_
      exact lp261_32 h_t h_o  hd (r0 := r0) ⟨by omega, by omega⟩ n ih (by omega) _ S hI hF hR 0 ⟨by omega, by omega⟩ (by exact I32_0 q_0) (Int.lt_succ_toNat _)
theorem lp261_5 {G : xk} {d : Nat} {S0 : yS} {t : Int} (h_t : -2147483648 ≤ t ∧ t ≤ 2147483647) {o : Int} (h_o : 0 ≤ o ∧ o ≤ 19) (hd : 0 ≤ d) : ∀ (n : Nat), ∀ (S : yS) (hI : yI S) (hF : yFr [] [68] S0 S) (hR : yRm [] S0 S) (k : Int) (h_k : 0 ≤ k ∧ k ≤ 20) (q_0 : uIn S k t) (hn : 20 - k < (n : Nat)), yT xPr G LY xC261 5 [some ((2, 43)), some (vi t), some (vi o), some ((2, 68)), some (vi k), none, none] [] S d (fun r S' => ∃ z : Int, r = (1, vi z) ∧ 0 ≤ z ∧ z ≤ 1 ∧ (FM S0 → 0 ≤ t → t < S0.f 43 1 → o < S0.f 43 1 → (z = 1 ↔ rcM S0 t o)) ∧ yI S' ∧ yFr [] [68] S0 S' ∧ yRm [] S0 S') := by
  intro n
  induction n with
  | zero => intro S hI hF hR k h_k q_0 hn; exact absurd hn (by omega)
  | succ n ih =>
    intro S hI hF hR k h_k q_0 hn
    refine r_load (i := 5) (u := 4) (w := 0) rfl rfl rfl ?_
    refine r_load (i := 6) (u := 0) (w := 2) rfl rfl rfl ?_
    have h1 := hI.f tf43_1
    have h2 : S.f 43 1 = S0.f 43 1 := hF.f rfl
    refine r_getf (i := 7) (v := 1) (w := 11) (x := vi (S.f 43 1)) rfl ly43 rfl rfl fun h3 => ?_
    have h3 : Rg (S.f 43 1) := h3
    refine c_ge (i := 8) (v := 20) rfl ⟨by omega, by omega⟩ ⟨by omega, by omega⟩ (fun h4 => ?_) (fun h5 => ?_)
    · refine r_load (i := 20) (u := 3) (w := 2) rfl rfl rfl ?_
      refine r_const (i := 21) (u := 0) (z := 0) rfl rfl ?_
      refine r_const (i := 22) (u := 1) (z := 1) rfl rfl ?_
      refine s_bool (i := 23) rfl ly68 rfl (by omega) (by omega) (by omega) (by omega) ?_
      have hI7 := hI.seta0 (b := 68) (j := (0 : Int).toNat) (z := 1) rfl rfl
      have hF9 := hF.seta (b := 68) (j := (0 : Int).toNat) (z := 1) rfl
      have hR10 := hR.seta (b := 68) (j := (0 : Int).toNat) (z := 1)
      refine yT_gen (fun S6 hS8 => ?_)
      rw [hS8] at hI7 hF9 hR10 
      refine r_const (i := 24) (u := 0) (z := 0) rfl rfl ?_
      refine r_store (i := 25) (u := 4) (w := 0) (L1 := [some ((2, 43)), some (vi t), some (vi o), some ((2, 68)), some (vi 0), none, none]) rfl rfl rfl rfl ?_
      exact lp261_26 h_t h_o  hd _ S6 hI7 hF9 hR10 0 ⟨by omega, by omega⟩ (by rw [← hS8]; exact I26_0 q_0 (by omega)) (Int.lt_succ_toNat _)
    · refine r_load (i := 9) (u := 3) (w := 2) rfl rfl rfl ?_
      refine r_load (i := 10) (u := 4) (w := 0) rfl rfl rfl ?_
      refine r_load (i := 11) (u := 4) (w := 0) rfl rfl rfl ?_
      refine r_load (i := 12) (u := 1) (w := 0) rfl rfl rfl ?_
      refine c_ne (i := 13) (v := 16) rfl ⟨by omega, by omega⟩ ⟨by omega, by omega⟩ (fun h11 => ?_) (fun h12 => ?_)
      · refine r_const (i := 16) (u := 0) (z := 0) rfl rfl ?_
        refine s_bool (i := 17) rfl ly68 rfl (by omega) (by omega) (by omega) (by omega) ?_
        have hI14 := hI.seta0 (b := 68) (j := k.toNat) (z := 0) rfl rfl
        have hF16 := hF.seta (b := 68) (j := k.toNat) (z := 0) rfl
        have hR17 := hR.seta (b := 68) (j := k.toNat) (z := 0)
        refine yT_gen (fun S13 hS15 => ?_)
        rw [hS15] at hI14 hF16 hR17 
        refine r_iinc (i := 18) (u := 1) (v := 4) (s := 1) (L1 := [some ((2, 43)), some (vi t), some (vi o), some ((2, 68)), some (vi (k + 1)), none, none]) rfl rfl rfl rfl rfl ?_
        refine r_goto (i := 19) (v := 5) rfl ?_
        exact ih S13 hI14 hF16 hR17 (k + 1) ⟨by omega, by omega⟩ (by rw [← hS15]; exact uIn_s q_0 (by omega) (by omega)) (by omega)
      · refine r_const (i := 14) (u := 1) (z := 1) rfl rfl ?_
        refine r_goto (i := 15) (v := 17) rfl ?_
        refine s_bool (i := 17) rfl ly68 rfl (by omega) (by omega) (by omega) (by omega) ?_
        have hI19 := hI.seta0 (b := 68) (j := k.toNat) (z := 1) rfl rfl
        have hF21 := hF.seta (b := 68) (j := k.toNat) (z := 1) rfl
        have hR22 := hR.seta (b := 68) (j := k.toNat) (z := 1)
        refine yT_gen (fun S18 hS20 => ?_)
        rw [hS20] at hI19 hF21 hR22 
        refine r_iinc (i := 18) (u := 1) (v := 4) (s := 1) (L1 := [some ((2, 43)), some (vi t), some (vi o), some ((2, 68)), some (vi (k + 1)), none, none]) rfl rfl rfl rfl rfl ?_
        refine r_goto (i := 19) (v := 5) rfl ?_
        exact ih S18 hI19 hF21 hR22 (k + 1) ⟨by omega, by omega⟩ (by rw [← hS20]; exact uIn_s q_0 (by omega) (by omega)) (by omega)
/-- ProxyForgeModel.under -/
theorem sp261 {G : xk} {S : yS} {d : Nat} (hI : yI S) {t : Int} (h_t : -2147483648 ≤ t ∧ t ≤ 2147483647) {o : Int} (h_o : 0 ≤ o ∧ o ≤ 19) (hd : 0 ≤ d) : yT xPr G LY xC261 0 [some ((2, 43)), some (vi t), some (vi o)] [] S d (fun r S' => ∃ z : Int, r = (1, vi z) ∧ 0 ≤ z ∧ z ≤ 1 ∧ (FM S → 0 ≤ t → t < S.f 43 1 → o < S.f 43 1 → (z = 1 ↔ rcM S t o)) ∧ yI S' ∧ yFr [] [68] S S' ∧ yRm [] S S') := by
  refine yT_pad 4 ?_
  show yT xPr G LY xC261 0 [some ((2, 43)), some (vi t), some (vi o), none, none, none, none] [] S d _
  have hF : yFr [] [68] S S := yFr.refl S
  have hR : yRm [] S S := yRm.refl S
  refine r_load (i := 0) (u := 0) (w := 2) rfl rfl rfl ?_
  refine r_getf (i := 1) (v := 32) (w := 11) (x := (2, 68)) rfl ly43 rfl rfl fun _ => ?_
  refine r_store (i := 2) (u := 3) (w := 2) (L1 := [some ((2, 43)), some (vi t), some (vi o), some ((2, 68)), none, none, none]) rfl rfl rfl rfl ?_
  refine r_const (i := 3) (u := 0) (z := 0) rfl rfl ?_
  refine r_store (i := 4) (u := 4) (w := 0) (L1 := [some ((2, 43)), some (vi t), some (vi o), some ((2, 68)), some (vi 0), none, none]) rfl rfl rfl rfl ?_
  exact lp261_5 h_t h_o  hd _ S hI hF hR 0 ⟨by omega, by omega⟩ (by exact uIn_0) (Int.lt_succ_toNat _)
/-- ProxyForgeModel.isHidden -/
theorem sp209 {G : xk} {S : yS} {d : Nat} (hI : yI S) {f : Int} (h_f : -1 ≤ f ∧ f ≤ 19) {c : Int} (h_c : 0 ≤ c ∧ c ≤ 19) (hd : 0 ≤ d) : yT xPr G LY xC209 0 [some ((2, 43)), some (vi f), some (vi c)] [] S d (fun r S' => ∃ z : Int, r = (1, vi z) ∧ 0 ≤ z ∧ z ≤ 1 ∧ (z = 1 → hdM S f c) ∧ (z = 0 → ¬ hdM S f c) ∧ S = S') := by
  refine yT_pad 0 ?_
  show yT xPr G LY xC209 0 [some ((2, 43)), some (vi f), some (vi c)] [] S d _
  refine r_load (i := 0) (u := 1) (w := 0) rfl rfl rfl ?_
  refine z_lt (i := 1) (v := 18) rfl ⟨by omega, by omega⟩ (fun h1 => ?_) (fun h2 => ?_)
  · refine r_const (i := 18) (u := 0) (z := 0) rfl rfl ?_
    exact r_retZ (i := 19) rfl (by omega) (by omega) ⟨0, rfl, by omega, by omega, (by unfold hdM; omega), (by unfold hdM; omega), rfl⟩
  · refine r_load (i := 2) (u := 0) (w := 2) rfl rfl rfl ?_
    refine r_getf (i := 3) (v := 3) (w := 11) (x := (2, 45)) rfl ly43 rfl rfl fun _ => ?_
    refine r_load (i := 4) (u := 1) (w := 0) rfl rfl rfl ?_
    refine a_bool (i := 5) rfl ly45 rfl (by omega) (by omega) fun h4 => ?_
    refine z_ne (i := 6) (v := 18) rfl ⟨by omega, by omega⟩ (fun h5 => ?_) (fun h6 => ?_)
    · refine r_const (i := 18) (u := 0) (z := 0) rfl rfl ?_
      exact r_retZ (i := 19) rfl (by omega) (by omega) ⟨0, rfl, by omega, by omega, (by unfold hdM; omega), (by unfold hdM; omega), rfl⟩
    · refine r_load (i := 7) (u := 0) (w := 2) rfl rfl rfl ?_
      refine r_getf (i := 8) (v := 6) (w := 11) (x := (2, 48)) rfl ly43 rfl rfl fun _ => ?_
      refine r_load (i := 9) (u := 1) (w := 0) rfl rfl rfl ?_
      refine a_int (i := 10) rfl ly48 rfl (by omega) (by omega) fun h8 => ?_
      have h9 := hI.a ta48 f.toNat
      refine r_load (i := 11) (u := 0) (w := 2) rfl rfl rfl ?_
      refine r_getf (i := 12) (v := 6) (w := 11) (x := (2, 48)) rfl ly43 rfl rfl fun _ => ?_
      refine r_load (i := 13) (u := 2) (w := 0) rfl rfl rfl ?_
      refine a_int (i := 14) rfl ly48 rfl (by omega) (by omega) fun h11 => ?_
      have h12 := hI.a ta48 c.toNat
      refine c_eq (i := 15) (v := 18) rfl ⟨by omega, by omega⟩ ⟨by omega, by omega⟩ (fun h13 => ?_) (fun h14 => ?_)
      · refine r_const (i := 18) (u := 0) (z := 0) rfl rfl ?_
        exact r_retZ (i := 19) rfl (by omega) (by omega) ⟨0, rfl, by omega, by omega, (by unfold hdM; omega), (by unfold hdM; omega), rfl⟩
      · refine r_const (i := 16) (u := 1) (z := 1) rfl rfl ?_
        refine r_goto (i := 17) (v := 19) rfl ?_
        exact r_retZ (i := 19) rfl (by omega) (by omega) ⟨1, rfl, by omega, by omega, (by unfold hdM; omega), (by unfold hdM; omega), rfl⟩
/-- ProxyForgeModel.isSubtype -/
theorem sp211 {G : xk} {S : yS} {d : Nat} (hI : yI S) {t : Int} (h_t : -2147483648 ≤ t ∧ t ≤ 2147483647) {o : Int} (h_o : -2147483648 ≤ o ∧ o ≤ 2147483647) (hd : 1 ≤ d) : yT xPr G LY xC211 0 [some ((2, 43)), some (vi t), some (vi o)] [] S d (fun r S' => ∃ z : Int, r = (1, vi z) ∧ 0 ≤ z ∧ z ≤ 1 ∧ (FM S → (z = 1 ↔ (0 ≤ t ∧ t < S.f 43 1 ∧ 0 ≤ o ∧ o < S.f 43 1 ∧ rcM S t o))) ∧ yI S' ∧ yFr [(43, 0)] [68] S S' ∧ yRm [] S S') := by
  refine yT_pad 0 ?_
  show yT xPr G LY xC211 0 [some ((2, 43)), some (vi t), some (vi o)] [] S d _
  obtain ⟨d, rfl⟩ : ∃ q, d = q + 1 := ⟨d - 1, by omega⟩
  have hF : yFr [(43, 0)] [68] S S := yFr.refl S
  have hR : yRm [] S S := yRm.refl S
  refine r_load (i := 0) (u := 0) (w := 2) rfl rfl rfl ?_
  refine r_const (i := 1) (u := 0) (z := 0) rfl rfl ?_
  refine r_putI (i := 2) (v := 0) (w := 11) rfl ly43 rfl ⟨by omega, by omega⟩ ?_
  have hI2 := hI.setf (b := 43) (w := 0) (z := 0) tf43_0 rfl (by omega) (by omega)
  have hF4 := hF.setf (b := 43) (w := 0) (z := 0) rfl
  have hR5 := hR.setf (b := 43) (w := 0) (z := 0)
  refine yT_gen (fun S1 hS3 => ?_)
  rw [hS3] at hI2 hF4 hR5 
  refine r_load (i := 3) (u := 0) (w := 2) rfl rfl rfl ?_
  refine r_load (i := 4) (u := 1) (w := 0) rfl rfl rfl ?_
  have h6 := hI2.f tf43_1
  have h7 : S1.f 43 1 = S.f 43 1 := by rw [← hS3]; exact ysf_ne (by decide)
  refine r_call (i := 5) (u := 11) (v := 213) (w := 0) (b := 0) (na := 514) (C2 := xC213) (as := [(2, 43), vi t]) (s := []) rfl rfl rfl rfl rfl rfl rfl (sp213 (t := t) hI2 ⟨by omega, by omega⟩   (by omega)) (fun r8 S9 hq10 => ?_)
  obtain ⟨z11, rfl, h12, h13, h14, h15, rfl⟩ := hq10
  refine Or.inr (Or.inl ⟨rfl, ?_⟩)
  refine z_eq (i := 6) (v := 18) rfl ⟨by omega, by omega⟩ (fun h16 => ?_) (fun h17 => ?_)
  · refine r_const (i := 18) (u := 0) (z := 0) rfl rfl ?_
    exact r_retZ (i := 19) rfl (by omega) (by omega) ⟨0, rfl, by omega, by omega, (by exact fun hf9 => ⟨fun h9 => by exfalso; omega, fun h9 => by obtain ⟨a1, a2, a3, a4, -⟩ := h9; exfalso; omega⟩), hI2, hF4, hR5⟩
  · refine r_load (i := 7) (u := 0) (w := 2) rfl rfl rfl ?_
    refine r_load (i := 8) (u := 2) (w := 0) rfl rfl rfl ?_
    refine r_call (i := 9) (u := 11) (v := 213) (w := 0) (b := 0) (na := 514) (C2 := xC213) (as := [(2, 43), vi o]) (s := []) rfl rfl rfl rfl rfl rfl rfl (sp213 (t := o) hI2 ⟨by omega, by omega⟩   (by omega)) (fun r18 S19 hq20 => ?_)
    obtain ⟨z21, rfl, h22, h23, h24, h25, rfl⟩ := hq20
    refine Or.inr (Or.inl ⟨rfl, ?_⟩)
    refine z_eq (i := 10) (v := 18) rfl ⟨by omega, by omega⟩ (fun h26 => ?_) (fun h27 => ?_)
    · refine r_const (i := 18) (u := 0) (z := 0) rfl rfl ?_
      exact r_retZ (i := 19) rfl (by omega) (by omega) ⟨0, rfl, by omega, by omega, (by exact fun hf9 => ⟨fun h9 => by exfalso; omega, fun h9 => by obtain ⟨a1, a2, a3, a4, -⟩ := h9; exfalso; omega⟩), hI2, hF4, hR5⟩
    · refine r_load (i := 11) (u := 0) (w := 2) rfl rfl rfl ?_
      refine r_load (i := 12) (u := 1) (w := 0) rfl rfl rfl ?_
      refine r_load (i := 13) (u := 2) (w := 0) rfl rfl rfl ?_
      refine r_call (i := 14) (u := 11) (v := 261) (w := 0) (b := 0) (na := 1795) (C2 := xC261) (as := [(2, 43), vi t, vi o]) (s := []) rfl rfl rfl rfl rfl rfl rfl (sp261 (t := t) (o := o) hI2 ⟨by omega, by omega⟩ ⟨by omega, by omega⟩   (by omega)) (fun r28 S29 hq30 => ?_)
      obtain ⟨z31, rfl, h32, h33, um34, hI35, hF36, hR37⟩ := hq30
      have hF38 := hF4.trans hF36 rfl rfl
      have hR39 := hR5.trans hR37 rfl
      refine Or.inr (Or.inl ⟨rfl, ?_⟩)
      refine z_eq (i := 15) (v := 18) rfl ⟨by omega, by omega⟩ (fun h40 => ?_) (fun h41 => ?_)
      · refine r_const (i := 18) (u := 0) (z := 0) rfl rfl ?_
        exact r_retZ (i := 19) rfl (by omega) (by omega) ⟨0, rfl, by omega, by omega, (by intro hf9; subst hS3; have w9 := um34 hf9 (by omega) (by omega) (by omega); exact ⟨fun h9 => ⟨by omega, by omega, by omega, by omega, w9.mp (by omega)⟩, fun h9 => by have w8 := w9.mpr h9.2.2.2.2; omega⟩), hI35, hF38, hR39⟩
      · refine r_const (i := 16) (u := 1) (z := 1) rfl rfl ?_
        refine r_goto (i := 17) (v := 19) rfl ?_
        exact r_retZ (i := 19) rfl (by omega) (by omega) ⟨1, rfl, by omega, by omega, (by intro hf9; subst hS3; have w9 := um34 hf9 (by omega) (by omega) (by omega); exact ⟨fun h9 => ⟨by omega, by omega, by omega, by omega, w9.mp (by omega)⟩, fun h9 => by have w8 := w9.mpr h9.2.2.2.2; omega⟩), hI35, hF38, hR39⟩
/-- ProxyForgeModel.policy -/
theorem sp232 {G : xk} {S : yS} {d : Nat} (hI : yI S) {w0 : Int} (h_w0 : -2147483648 ≤ w0 ∧ w0 ≤ 2147483647) {k : Int} (h_k : -2147483648 ≤ k ∧ k ≤ 2147483647) (hd : 0 ≤ d) : yT xPr G LY xC232 0 [some ((2, 43)), some (vi w0), some (vi k)] [] S d (fun r S' => ∃ z : Int, r = (1, vi z) ∧ 0 ≤ z ∧ z ≤ 1 ∧ (z = 1 ∧ 0 ≤ w0 ∧ w0 ≤ 9 ∧ 0 ≤ k ∧ k ≤ 3 ∨ z = 0 ∧ (w0 < 0 ∨ 9 < w0 ∨ k < 0 ∨ 3 < k)) ∧ plQ 59 S S' w0 k z ∧ yI S' ∧ yFr [(43, 0)] [59] S S' ∧ yRm [] S S') := by
  refine yT_pad 0 ?_
  show yT xPr G LY xC232 0 [some ((2, 43)), some (vi w0), some (vi k)] [] S d _
  have hF : yFr [(43, 0)] [59] S S := yFr.refl S
  have hR : yRm [] S S := yRm.refl S
  refine r_load (i := 0) (u := 0) (w := 2) rfl rfl rfl ?_
  refine r_const (i := 1) (u := 0) (z := 0) rfl rfl ?_
  refine r_putI (i := 2) (v := 0) (w := 11) rfl ly43 rfl ⟨by omega, by omega⟩ ?_
  have hI2 := hI.setf (b := 43) (w := 0) (z := 0) tf43_0 rfl (by omega) (by omega)
  have hF4 := hF.setf (b := 43) (w := 0) (z := 0) rfl
  have hR5 := hR.setf (b := 43) (w := 0) (z := 0)
  refine yT_gen (fun S1 hS3 => ?_)
  rw [hS3] at hI2 hF4 hR5 
  refine r_load (i := 3) (u := 1) (w := 0) rfl rfl rfl ?_
  refine z_lt (i := 4) (v := 13) rfl ⟨by omega, by omega⟩ (fun h6 => ?_) (fun h7 => ?_)
  · refine r_const (i := 13) (u := 0) (z := 0) rfl rfl ?_
    exact r_retZ (i := 14) rfl (by omega) (by omega) ⟨0, rfl, by omega, by omega, (by omega), (by exact ⟨fun h9 => by first | exact absurd h9 (by omega) | exact fun j => by subst hS3; rfl, fun h9 => by first | exact absurd h9 (by omega) | exact fun j => by subst hS3; rfl⟩), hI2, hF4, hR5⟩
  · refine r_load (i := 5) (u := 1) (w := 0) rfl rfl rfl ?_
    refine r_const (i := 6) (u := 9) (z := 9) rfl rfl ?_
    refine c_gt (i := 7) (v := 13) rfl ⟨by omega, by omega⟩ ⟨by omega, by omega⟩ (fun h8 => ?_) (fun h9 => ?_)
    · refine r_const (i := 13) (u := 0) (z := 0) rfl rfl ?_
      exact r_retZ (i := 14) rfl (by omega) (by omega) ⟨0, rfl, by omega, by omega, (by omega), (by exact ⟨fun h9 => by first | exact absurd h9 (by omega) | exact fun j => by subst hS3; rfl, fun h9 => by first | exact absurd h9 (by omega) | exact fun j => by subst hS3; rfl⟩), hI2, hF4, hR5⟩
    · refine r_load (i := 8) (u := 2) (w := 0) rfl rfl rfl ?_
      refine z_lt (i := 9) (v := 13) rfl ⟨by omega, by omega⟩ (fun h10 => ?_) (fun h11 => ?_)
      · refine r_const (i := 13) (u := 0) (z := 0) rfl rfl ?_
        exact r_retZ (i := 14) rfl (by omega) (by omega) ⟨0, rfl, by omega, by omega, (by omega), (by exact ⟨fun h9 => by first | exact absurd h9 (by omega) | exact fun j => by subst hS3; rfl, fun h9 => by first | exact absurd h9 (by omega) | exact fun j => by subst hS3; rfl⟩), hI2, hF4, hR5⟩
      · refine r_load (i := 10) (u := 2) (w := 0) rfl rfl rfl ?_
        refine r_const (i := 11) (u := 3) (z := 3) rfl rfl ?_
        refine c_le (i := 12) (v := 15) rfl ⟨by omega, by omega⟩ ⟨by omega, by omega⟩ (fun h12 => ?_) (fun h13 => ?_)
        · refine r_load (i := 15) (u := 0) (w := 2) rfl rfl rfl ?_
          refine r_getf (i := 16) (v := 18) (w := 11) (x := (2, 59)) rfl ly43 rfl rfl fun _ => ?_
          refine r_load (i := 17) (u := 1) (w := 0) rfl rfl rfl ?_
          refine r_load (i := 18) (u := 2) (w := 0) rfl rfl rfl ?_
          refine s_int (i := 19) rfl ly59 rfl (by omega) (by omega) ⟨by omega, by omega⟩ ?_
          have hI16 := hI2.seta (b := 59) (j := w0.toNat) (z := k) ta59 rfl (by omega) (by omega)
          have hF18 := hF4.seta (b := 59) (j := w0.toNat) (z := k) rfl
          have hR19 := hR5.seta (b := 59) (j := w0.toNat) (z := k)
          refine yT_gen (fun S15 hS17 => ?_)
          rw [hS17] at hI16 hF18 hR19 
          refine r_const (i := 20) (u := 1) (z := 1) rfl rfl ?_
          exact r_retZ (i := 21) rfl (by omega) (by omega) ⟨1, rfl, by omega, by omega, (by omega), (by exact ⟨fun h9 => by first | exact absurd h9 (by omega) | exact fun j => by subst hS3 hS17; rfl, fun h9 => by first | exact absurd h9 (by omega) | exact fun j => by subst hS3 hS17; rfl⟩), hI16, hF18, hR19⟩
        · refine r_const (i := 13) (u := 0) (z := 0) rfl rfl ?_
          exact r_retZ (i := 14) rfl (by omega) (by omega) ⟨0, rfl, by omega, by omega, (by omega), (by exact ⟨fun h9 => by first | exact absurd h9 (by omega) | exact fun j => by subst hS3; rfl, fun h9 => by first | exact absurd h9 (by omega) | exact fun j => by subst hS3; rfl⟩), hI2, hF4, hR5⟩
theorem lp258_64 {G : xk} {d : Nat} {S0 : yS} {b : Int} (h_b : 0 ≤ b ∧ b ≤ 1) {bits : Int} (h_bits : -2147483648 ≤ bits ∧ bits ≤ 2147483647) {p : Int} (h_p : -2147483648 ≤ p ∧ p ≤ 2147483647) {up : Int} (h_up : -2147483648 ≤ up ∧ up ≤ 2147483647) (hd : 0 ≤ d) : ∀ (S : yS) (hI : yI S) (hF : yFr [(43, 0), (43, 1)] [44, 45, 46, 47, 48, 49] S0 S) (hR : yRm [] S0 S) (g0 c0 : Int) (h_g0 : 0 ≤ g0 ∧ g0 ≤ 1) (h_c0 : 0 ≤ c0 ∧ c0 ≤ 2) (q_0 : c0 = 0 → (0 ≤ bits ∧ bits < 8 ∧ yand bits 6 ≠ 6 ∧ (b ≠ 0 → yand bits 6 = 0) ∧ 0 ≤ p ∧ p < 4 ∧ 0 ≤ up ∧ up < S.f 43 1 ∧ (b ≠ 0 → up = 0) ∧ (b = 0 → S.a 44 up.toNat = 0 ∧ S.a 46 up.toNat = 0)) ∧ S.f 43 1 < 20) (q_1 : c0 = 1 → ¬ (0 ≤ bits ∧ bits < 8 ∧ yand bits 6 ≠ 6 ∧ (b ≠ 0 → yand bits 6 = 0) ∧ 0 ≤ p ∧ p < 4 ∧ 0 ≤ up ∧ up < S.f 43 1 ∧ (b ≠ 0 → up = 0) ∧ (b = 0 → S.a 44 up.toNat = 0 ∧ S.a 46 up.toNat = 0))) (q_2 : c0 = 2 → (0 ≤ bits ∧ bits < 8 ∧ yand bits 6 ≠ 6 ∧ (b ≠ 0 → yand bits 6 = 0) ∧ 0 ≤ p ∧ p < 4 ∧ 0 ≤ up ∧ up < S.f 43 1 ∧ (b ≠ 0 → up = 0) ∧ (b = 0 → S.a 44 up.toNat = 0 ∧ S.a 46 up.toNat = 0)) ∧ S.f 43 1 = 20) (q_3 : S = S0), yT xPr G LY xC258 64 [some ((2, 43)), some (vi b), some (vi bits), some (vi p), some (vi up), some (vi g0)] [vi c0, (2, 43)] S d (fun r S' => ∃ z : Int, r = (1, vi z) ∧ 0 ≤ z ∧ z ≤ 20 ∧ mTyQ S0 S' b bits p up z ∧ yI S' ∧ yFr [(43, 0), (43, 1)] [44, 45, 46, 47, 48, 49] S0 S' ∧ yRm [] S0 S') := by
  intro S hI hF hR g0 c0 h_g0 h_c0 q_0 q_1 q_2 q_3
  have h1 := hI.f tf43_1
  refine r_putI (i := 64) (v := 0) (w := 11) rfl ly43 rfl ⟨by omega, by omega⟩ ?_
  have hI3 := hI.setf (b := 43) (w := 0) (z := c0) tf43_0 rfl (by omega) (by omega)
  have hF5 := hF.setf (b := 43) (w := 0) (z := c0) rfl
  have hR6 := hR.setf (b := 43) (w := 0) (z := c0)
  refine yT_gen (fun S2 hS4 => ?_)
  rw [hS4] at hI3 hF5 hR6 
  refine r_load (i := 65) (u := 0) (w := 2) rfl rfl rfl ?_
  have h7 := hI3.f tf43_0
  have h8 : S2.f 43 0 = c0 := by rw [← hS4]; exact ysf_eq
  refine r_getf (i := 66) (v := 0) (w := 11) (x := vi (S2.f 43 0)) rfl ly43 rfl rfl fun h9 => ?_
  have h9 : Rg (S2.f 43 0) := h9
  refine z_le (i := 67) (v := 70) rfl ⟨by omega, by omega⟩ (fun h10 => ?_) (fun h11 => ?_)
  · refine r_load (i := 70) (u := 0) (w := 2) rfl rfl rfl ?_
    refine r_getf (i := 71) (v := 2) (w := 11) (x := (2, 44)) rfl ly43 rfl rfl fun _ => ?_
    refine r_load (i := 72) (u := 0) (w := 2) rfl rfl rfl ?_
    have h13 := hI3.f tf43_1
    have h14 : S2.f 43 1 = S.f 43 1 := by rw [← hS4]; exact ysf_ne (by decide)
    refine r_getf (i := 73) (v := 1) (w := 11) (x := vi (S2.f 43 1)) rfl ly43 rfl rfl fun h15 => ?_
    have h15 : Rg (S2.f 43 1) := h15
    refine r_load (i := 74) (u := 1) (w := 0) rfl rfl rfl ?_
    refine s_bool (i := 75) rfl ly44 rfl (by omega) (by omega) (by omega) (by omega) ?_
    have hI17 := hI3.seta0 (b := 44) (j := (S2.f 43 1).toNat) (z := b) rfl rfl
    have hF19 := hF5.seta (b := 44) (j := (S2.f 43 1).toNat) (z := b) rfl
    have hR20 := hR6.seta (b := 44) (j := (S2.f 43 1).toNat) (z := b)
    refine yT_gen (fun S16 hS18 => ?_)
    rw [hS18] at hI17 hF19 hR20 
    refine r_load (i := 76) (u := 0) (w := 2) rfl rfl rfl ?_
    refine r_getf (i := 77) (v := 3) (w := 11) (x := (2, 45)) rfl ly43 rfl rfl fun _ => ?_
    refine r_load (i := 78) (u := 0) (w := 2) rfl rfl rfl ?_
    have h22 := hI17.f tf43_1
    have h23 : S16.f 43 1 = S2.f 43 1 := by rw [← hS18]; rfl
    have h24 : S2.f 43 1 = S.f 43 1 := by rw [← hS4]; exact ysf_ne (by decide)
    refine r_getf (i := 79) (v := 1) (w := 11) (x := vi (S16.f 43 1)) rfl ly43 rfl rfl fun h25 => ?_
    have h25 : Rg (S16.f 43 1) := h25
    refine r_load (i := 80) (u := 2) (w := 0) rfl rfl rfl ?_
    refine r_const (i := 81) (u := 1) (z := 1) rfl rfl ?_
    refine r_iand (i := 82) rfl ?_
    have h26 := @yand_c bits 1 (by decide) (by decide)
    have h27 := yand_p1 bits
    refine r_const (i := 83) (u := 1) (z := 1) rfl rfl ?_
    refine c_ne (i := 84) (v := 87) rfl ⟨by omega, by omega⟩ ⟨by omega, by omega⟩ (fun h28 => ?_) (fun h29 => ?_)
    · refine r_const (i := 87) (u := 0) (z := 0) rfl rfl ?_
      refine s_bool (i := 88) rfl ly45 rfl (by omega) (by omega) (by omega) (by omega) ?_
      have hI31 := hI17.seta0 (b := 45) (j := (S16.f 43 1).toNat) (z := 0) rfl rfl
      have hF33 := hF19.seta (b := 45) (j := (S16.f 43 1).toNat) (z := 0) rfl
      have hR34 := hR20.seta (b := 45) (j := (S16.f 43 1).toNat) (z := 0)
      refine yT_gen (fun S30 hS32 => ?_)
      rw [hS32] at hI31 hF33 hR34 
      refine r_load (i := 89) (u := 0) (w := 2) rfl rfl rfl ?_
      refine r_getf (i := 90) (v := 4) (w := 11) (x := (2, 46)) rfl ly43 rfl rfl fun _ => ?_
      refine r_load (i := 91) (u := 0) (w := 2) rfl rfl rfl ?_
      have h36 := hI31.f tf43_1
      have h37 : S30.f 43 1 = S16.f 43 1 := by rw [← hS32]; rfl
      have h38 : S16.f 43 1 = S2.f 43 1 := by rw [← hS18]; rfl
      have h39 : S2.f 43 1 = S.f 43 1 := by rw [← hS4]; exact ysf_ne (by decide)
      refine r_getf (i := 92) (v := 1) (w := 11) (x := vi (S30.f 43 1)) rfl ly43 rfl rfl fun h40 => ?_
      have h40 : Rg (S30.f 43 1) := h40
      refine r_load (i := 93) (u := 2) (w := 0) rfl rfl rfl ?_
      refine r_const (i := 94) (u := 2) (z := 2) rfl rfl ?_
      refine r_iand (i := 95) rfl ?_
      have h41 := @yand_c bits 2 (by decide) (by decide)
      have h42 := yand_p2 bits
      refine r_const (i := 96) (u := 2) (z := 2) rfl rfl ?_
      refine c_ne (i := 97) (v := 100) rfl ⟨by omega, by omega⟩ ⟨by omega, by omega⟩ (fun h43 => ?_) (fun h44 => ?_)
      · refine r_const (i := 100) (u := 0) (z := 0) rfl rfl ?_
        refine s_bool (i := 101) rfl ly46 rfl (by omega) (by omega) (by omega) (by omega) ?_
        have hI46 := hI31.seta0 (b := 46) (j := (S30.f 43 1).toNat) (z := 0) rfl rfl
        have hF48 := hF33.seta (b := 46) (j := (S30.f 43 1).toNat) (z := 0) rfl
        have hR49 := hR34.seta (b := 46) (j := (S30.f 43 1).toNat) (z := 0)
        refine yT_gen (fun S45 hS47 => ?_)
        rw [hS47] at hI46 hF48 hR49 
        refine r_load (i := 102) (u := 0) (w := 2) rfl rfl rfl ?_
        refine r_getf (i := 103) (v := 5) (w := 11) (x := (2, 47)) rfl ly43 rfl rfl fun _ => ?_
        refine r_load (i := 104) (u := 0) (w := 2) rfl rfl rfl ?_
        have h51 := hI46.f tf43_1
        have h52 : S45.f 43 1 = S30.f 43 1 := by rw [← hS47]; rfl
        have h53 : S30.f 43 1 = S16.f 43 1 := by rw [← hS32]; rfl
        have h54 : S16.f 43 1 = S2.f 43 1 := by rw [← hS18]; rfl
        have h55 : S2.f 43 1 = S.f 43 1 := by rw [← hS4]; exact ysf_ne (by decide)
        refine r_getf (i := 105) (v := 1) (w := 11) (x := vi (S45.f 43 1)) rfl ly43 rfl rfl fun h56 => ?_
        have h56 : Rg (S45.f 43 1) := h56
        refine r_load (i := 106) (u := 2) (w := 0) rfl rfl rfl ?_
        refine r_const (i := 107) (u := 4) (z := 4) rfl rfl ?_
        refine r_iand (i := 108) rfl ?_
        have h57 := @yand_c bits 4 (by decide) (by decide)
        have h58 := yand_p4 bits
        refine r_const (i := 109) (u := 4) (z := 4) rfl rfl ?_
        refine c_ne (i := 110) (v := 113) rfl ⟨by omega, by omega⟩ ⟨by omega, by omega⟩ (fun h59 => ?_) (fun h60 => ?_)
        · refine r_const (i := 113) (u := 0) (z := 0) rfl rfl ?_
          refine s_bool (i := 114) rfl ly47 rfl (by omega) (by omega) (by omega) (by omega) ?_
          have hI62 := hI46.seta0 (b := 47) (j := (S45.f 43 1).toNat) (z := 0) rfl rfl
          have hF64 := hF48.seta (b := 47) (j := (S45.f 43 1).toNat) (z := 0) rfl
          have hR65 := hR49.seta (b := 47) (j := (S45.f 43 1).toNat) (z := 0)
          refine yT_gen (fun S61 hS63 => ?_)
          rw [hS63] at hI62 hF64 hR65 
          refine r_load (i := 115) (u := 0) (w := 2) rfl rfl rfl ?_
          refine r_getf (i := 116) (v := 6) (w := 11) (x := (2, 48)) rfl ly43 rfl rfl fun _ => ?_
          refine r_load (i := 117) (u := 0) (w := 2) rfl rfl rfl ?_
          have h67 := hI62.f tf43_1
          have h68 : S61.f 43 1 = S45.f 43 1 := by rw [← hS63]; rfl
          have h69 : S45.f 43 1 = S30.f 43 1 := by rw [← hS47]; rfl
          have h70 : S30.f 43 1 = S16.f 43 1 := by rw [← hS32]; rfl
          have h71 : S16.f 43 1 = S2.f 43 1 := by rw [← hS18]; rfl
          have h72 : S2.f 43 1 = S.f 43 1 := by rw [← hS4]; exact ysf_ne (by decide)
          refine r_getf (i := 118) (v := 1) (w := 11) (x := vi (S61.f 43 1)) rfl ly43 rfl rfl fun h73 => ?_
          have h73 : Rg (S61.f 43 1) := h73
          refine r_load (i := 119) (u := 3) (w := 0) rfl rfl rfl ?_
          refine s_int (i := 120) rfl ly48 rfl (by omega) (by omega) ⟨by omega, by omega⟩ ?_
          have hI75 := hI62.seta (b := 48) (j := (S61.f 43 1).toNat) (z := p) ta48 rfl (by omega) (by omega)
          have hF77 := hF64.seta (b := 48) (j := (S61.f 43 1).toNat) (z := p) rfl
          have hR78 := hR65.seta (b := 48) (j := (S61.f 43 1).toNat) (z := p)
          refine yT_gen (fun S74 hS76 => ?_)
          rw [hS76] at hI75 hF77 hR78 
          refine r_load (i := 121) (u := 0) (w := 2) rfl rfl rfl ?_
          refine r_getf (i := 122) (v := 7) (w := 11) (x := (2, 49)) rfl ly43 rfl rfl fun _ => ?_
          refine r_load (i := 123) (u := 0) (w := 2) rfl rfl rfl ?_
          have h80 := hI75.f tf43_1
          have h81 : S74.f 43 1 = S61.f 43 1 := by rw [← hS76]; rfl
          have h82 : S61.f 43 1 = S45.f 43 1 := by rw [← hS63]; rfl
          have h83 : S45.f 43 1 = S30.f 43 1 := by rw [← hS47]; rfl
          have h84 : S30.f 43 1 = S16.f 43 1 := by rw [← hS32]; rfl
          have h85 : S16.f 43 1 = S2.f 43 1 := by rw [← hS18]; rfl
          have h86 : S2.f 43 1 = S.f 43 1 := by rw [← hS4]; exact ysf_ne (by decide)
          refine r_getf (i := 124) (v := 1) (w := 11) (x := vi (S74.f 43 1)) rfl ly43 rfl rfl fun h87 => ?_
          have h87 : Rg (S74.f 43 1) := h87
          refine r_load (i := 125) (u := 1) (w := 0) rfl rfl rfl ?_
          refine z_eq (i := 126) (v := 129) rfl ⟨by omega, by omega⟩ (fun h88 => ?_) (fun h89 => ?_)
          · refine r_load (i := 129) (u := 4) (w := 0) rfl rfl rfl ?_
            refine s_int (i := 130) rfl ly49 rfl (by omega) (by omega) ⟨by omega, by omega⟩ ?_
            have hI91 := hI75.seta49 (j := (S74.f 43 1).toNat) (z := up) (by omega) (by omega) (by omega)
            have hF93 := hF77.seta (b := 49) (j := (S74.f 43 1).toNat) (z := up) rfl
            have hR94 := hR78.seta (b := 49) (j := (S74.f 43 1).toNat) (z := up)
            refine yT_gen (fun S90 hS92 => ?_)
            rw [hS92] at hI91 hF93 hR94 
            refine r_load (i := 131) (u := 0) (w := 2) rfl rfl rfl ?_
            refine r_dup (i := 132) rfl rfl ?_
            have h95 := hI91.f tf43_1
            have h96 : S90.f 43 1 = S74.f 43 1 := by rw [← hS92]; rfl
            have h97 : S74.f 43 1 = S61.f 43 1 := by rw [← hS76]; rfl
            have h98 : S61.f 43 1 = S45.f 43 1 := by rw [← hS63]; rfl
            have h99 : S45.f 43 1 = S30.f 43 1 := by rw [← hS47]; rfl
            have h100 : S30.f 43 1 = S16.f 43 1 := by rw [← hS32]; rfl
            have h101 : S16.f 43 1 = S2.f 43 1 := by rw [← hS18]; rfl
            have h102 : S2.f 43 1 = S.f 43 1 := by rw [← hS4]; exact ysf_ne (by decide)
            refine r_getf (i := 133) (v := 1) (w := 11) (x := vi (S90.f 43 1)) rfl ly43 rfl rfl fun h103 => ?_
            have h103 : Rg (S90.f 43 1) := h103
            refine r_const (i := 134) (u := 1) (z := 1) rfl rfl ?_
            refine r_iadd (i := 135) rfl ?_
            refine r_putI (i := 136) (v := 1) (w := 11) rfl ly43 rfl ⟨by omega, by omega⟩ ?_
            have hI105 := hI91.setf (b := 43) (w := 1) (z := (S90.f 43 1) + 1) tf43_1 rfl (by omega) (by omega)
            have hF107 := hF93.setf (b := 43) (w := 1) (z := (S90.f 43 1) + 1) rfl
            have hR108 := hR94.setf (b := 43) (w := 1) (z := (S90.f 43 1) + 1)
            refine yT_gen (fun S104 hS106 => ?_)
            rw [hS106] at hI105 hF107 hR108 
            have h109 := hI105.f tf43_0
            have h110 : S104.f 43 0 = S90.f 43 0 := by rw [← hS106]; exact ysf_ne (by decide)
            have h111 : S90.f 43 0 = S74.f 43 0 := by rw [← hS92]; rfl
            have h112 : S74.f 43 0 = S61.f 43 0 := by rw [← hS76]; rfl
            have h113 : S61.f 43 0 = S45.f 43 0 := by rw [← hS63]; rfl
            have h114 : S45.f 43 0 = S30.f 43 0 := by rw [← hS47]; rfl
            have h115 : S30.f 43 0 = S16.f 43 0 := by rw [← hS32]; rfl
            have h116 : S16.f 43 0 = S2.f 43 0 := by rw [← hS18]; rfl
            have h117 : S2.f 43 0 = c0 := by rw [← hS4]; exact ysf_eq
            have h118 := hI105.f tf43_1
            have h119 : S104.f 43 1 = (S90.f 43 1) + 1 := by rw [← hS106]; exact ysf_eq
            refine r_load (i := 137) (u := 0) (w := 2) rfl rfl rfl ?_
            refine r_getf (i := 138) (v := 1) (w := 11) (x := vi (S104.f 43 1)) rfl ly43 rfl rfl fun h120 => ?_
            have h120 : Rg (S104.f 43 1) := h120
            refine r_const (i := 139) (u := 1) (z := 1) rfl rfl ?_
            refine r_isub (i := 140) rfl ?_
            exact r_retI (i := 141) rfl ⟨(S104.f 43 1) - 1, rfl, by omega, by omega, (by rw [← q_3]; exact Or.inl ⟨by omega, by unfold tyM; omega, by omega, by omega, 0, 0, 0, up, ⟨by omega, by omega, by omega, by omega, by omega⟩, by subst hS4 hS18 hS32 hS47 hS63 hS76 hS92 hS106; rfl, fun j => by subst hS4 hS18 hS32 hS47 hS63 hS76 hS92 hS106; rfl, fun j => by subst hS4 hS18 hS32 hS47 hS63 hS76 hS92 hS106; rfl, fun j => by subst hS4 hS18 hS32 hS47 hS63 hS76 hS92 hS106; rfl, fun j => by subst hS4 hS18 hS32 hS47 hS63 hS76 hS92 hS106; rfl, fun j => by subst hS4 hS18 hS32 hS47 hS63 hS76 hS92 hS106; rfl, fun j => by subst hS4 hS18 hS32 hS47 hS63 hS76 hS92 hS106; rfl⟩), hI105, hF107, hR108⟩
          · refine r_const (i := 127) (u := 4294967295) (z := -1) rfl rfl ?_
            refine r_goto (i := 128) (v := 130) rfl ?_
            refine s_int (i := 130) rfl ly49 rfl (by omega) (by omega) ⟨by omega, by omega⟩ ?_
            have hI122 := hI75.seta49 (j := (S74.f 43 1).toNat) (z := -1) (by omega) (by omega) (by omega)
            have hF124 := hF77.seta (b := 49) (j := (S74.f 43 1).toNat) (z := -1) rfl
            have hR125 := hR78.seta (b := 49) (j := (S74.f 43 1).toNat) (z := -1)
            refine yT_gen (fun S121 hS123 => ?_)
            rw [hS123] at hI122 hF124 hR125 
            refine r_load (i := 131) (u := 0) (w := 2) rfl rfl rfl ?_
            refine r_dup (i := 132) rfl rfl ?_
            have h126 := hI122.f tf43_1
            have h127 : S121.f 43 1 = S74.f 43 1 := by rw [← hS123]; rfl
            have h128 : S74.f 43 1 = S61.f 43 1 := by rw [← hS76]; rfl
            have h129 : S61.f 43 1 = S45.f 43 1 := by rw [← hS63]; rfl
            have h130 : S45.f 43 1 = S30.f 43 1 := by rw [← hS47]; rfl
            have h131 : S30.f 43 1 = S16.f 43 1 := by rw [← hS32]; rfl
            have h132 : S16.f 43 1 = S2.f 43 1 := by rw [← hS18]; rfl
            have h133 : S2.f 43 1 = S.f 43 1 := by rw [← hS4]; exact ysf_ne (by decide)
            refine r_getf (i := 133) (v := 1) (w := 11) (x := vi (S121.f 43 1)) rfl ly43 rfl rfl fun h134 => ?_
            have h134 : Rg (S121.f 43 1) := h134
            refine r_const (i := 134) (u := 1) (z := 1) rfl rfl ?_
            refine r_iadd (i := 135) rfl ?_
            refine r_putI (i := 136) (v := 1) (w := 11) rfl ly43 rfl ⟨by omega, by omega⟩ ?_
            have hI136 := hI122.setf (b := 43) (w := 1) (z := (S121.f 43 1) + 1) tf43_1 rfl (by omega) (by omega)
            have hF138 := hF124.setf (b := 43) (w := 1) (z := (S121.f 43 1) + 1) rfl
            have hR139 := hR125.setf (b := 43) (w := 1) (z := (S121.f 43 1) + 1)
            refine yT_gen (fun S135 hS137 => ?_)
            rw [hS137] at hI136 hF138 hR139 
            have h140 := hI136.f tf43_0
            have h141 : S135.f 43 0 = S121.f 43 0 := by rw [← hS137]; exact ysf_ne (by decide)
            have h142 : S121.f 43 0 = S74.f 43 0 := by rw [← hS123]; rfl
            have h143 : S74.f 43 0 = S61.f 43 0 := by rw [← hS76]; rfl
            have h144 : S61.f 43 0 = S45.f 43 0 := by rw [← hS63]; rfl
            have h145 : S45.f 43 0 = S30.f 43 0 := by rw [← hS47]; rfl
            have h146 : S30.f 43 0 = S16.f 43 0 := by rw [← hS32]; rfl
            have h147 : S16.f 43 0 = S2.f 43 0 := by rw [← hS18]; rfl
            have h148 : S2.f 43 0 = c0 := by rw [← hS4]; exact ysf_eq
            have h149 := hI136.f tf43_1
            have h150 : S135.f 43 1 = (S121.f 43 1) + 1 := by rw [← hS137]; exact ysf_eq
            refine r_load (i := 137) (u := 0) (w := 2) rfl rfl rfl ?_
            refine r_getf (i := 138) (v := 1) (w := 11) (x := vi (S135.f 43 1)) rfl ly43 rfl rfl fun h151 => ?_
            have h151 : Rg (S135.f 43 1) := h151
            refine r_const (i := 139) (u := 1) (z := 1) rfl rfl ?_
            refine r_isub (i := 140) rfl ?_
            exact r_retI (i := 141) rfl ⟨(S135.f 43 1) - 1, rfl, by omega, by omega, (by rw [← q_3]; exact Or.inl ⟨by omega, by unfold tyM; omega, by omega, by omega, 0, 0, 0, -1, ⟨by omega, by omega, by omega, by omega, by omega⟩, by subst hS4 hS18 hS32 hS47 hS63 hS76 hS123 hS137; rfl, fun j => by subst hS4 hS18 hS32 hS47 hS63 hS76 hS123 hS137; rfl, fun j => by subst hS4 hS18 hS32 hS47 hS63 hS76 hS123 hS137; rfl, fun j => by subst hS4 hS18 hS32 hS47 hS63 hS76 hS123 hS137; rfl, fun j => by subst hS4 hS18 hS32 hS47 hS63 hS76 hS123 hS137; rfl, fun j => by subst hS4 hS18 hS32 hS47 hS63 hS76 hS123 hS137; rfl, fun j => by subst hS4 hS18 hS32 hS47 hS63 hS76 hS123 hS137; rfl⟩), hI136, hF138, hR139⟩
        · refine r_const (i := 111) (u := 1) (z := 1) rfl rfl ?_
          refine r_goto (i := 112) (v := 114) rfl ?_
          refine s_bool (i := 114) rfl ly47 rfl (by omega) (by omega) (by omega) (by omega) ?_
          have hI153 := hI46.seta0 (b := 47) (j := (S45.f 43 1).toNat) (z := 1) rfl rfl
          have hF155 := hF48.seta (b := 47) (j := (S45.f 43 1).toNat) (z := 1) rfl
          have hR156 := hR49.seta (b := 47) (j := (S45.f 43 1).toNat) (z := 1)
          refine yT_gen (fun S152 hS154 => ?_)
          rw [hS154] at hI153 hF155 hR156 
          refine r_load (i := 115) (u := 0) (w := 2) rfl rfl rfl ?_
          refine r_getf (i := 116) (v := 6) (w := 11) (x := (2, 48)) rfl ly43 rfl rfl fun _ => ?_
          refine r_load (i := 117) (u := 0) (w := 2) rfl rfl rfl ?_
          have h158 := hI153.f tf43_1
          have h159 : S152.f 43 1 = S45.f 43 1 := by rw [← hS154]; rfl
          have h160 : S45.f 43 1 = S30.f 43 1 := by rw [← hS47]; rfl
          have h161 : S30.f 43 1 = S16.f 43 1 := by rw [← hS32]; rfl
          have h162 : S16.f 43 1 = S2.f 43 1 := by rw [← hS18]; rfl
          have h163 : S2.f 43 1 = S.f 43 1 := by rw [← hS4]; exact ysf_ne (by decide)
          refine r_getf (i := 118) (v := 1) (w := 11) (x := vi (S152.f 43 1)) rfl ly43 rfl rfl fun h164 => ?_
          have h164 : Rg (S152.f 43 1) := h164
          refine r_load (i := 119) (u := 3) (w := 0) rfl rfl rfl ?_
          refine s_int (i := 120) rfl ly48 rfl (by omega) (by omega) ⟨by omega, by omega⟩ ?_
          have hI166 := hI153.seta (b := 48) (j := (S152.f 43 1).toNat) (z := p) ta48 rfl (by omega) (by omega)
          have hF168 := hF155.seta (b := 48) (j := (S152.f 43 1).toNat) (z := p) rfl
          have hR169 := hR156.seta (b := 48) (j := (S152.f 43 1).toNat) (z := p)
          refine yT_gen (fun S165 hS167 => ?_)
          rw [hS167] at hI166 hF168 hR169 
          refine r_load (i := 121) (u := 0) (w := 2) rfl rfl rfl ?_
          refine r_getf (i := 122) (v := 7) (w := 11) (x := (2, 49)) rfl ly43 rfl rfl fun _ => ?_
          refine r_load (i := 123) (u := 0) (w := 2) rfl rfl rfl ?_
          have h171 := hI166.f tf43_1
          have h172 : S165.f 43 1 = S152.f 43 1 := by rw [← hS167]; rfl
          have h173 : S152.f 43 1 = S45.f 43 1 := by rw [← hS154]; rfl
          have h174 : S45.f 43 1 = S30.f 43 1 := by rw [← hS47]; rfl
          have h175 : S30.f 43 1 = S16.f 43 1 := by rw [← hS32]; rfl
          have h176 : S16.f 43 1 = S2.f 43 1 := by rw [← hS18]; rfl
          have h177 : S2.f 43 1 = S.f 43 1 := by rw [← hS4]; exact ysf_ne (by decide)
          refine r_getf (i := 124) (v := 1) (w := 11) (x := vi (S165.f 43 1)) rfl ly43 rfl rfl fun h178 => ?_
          have h178 : Rg (S165.f 43 1) := h178
          refine r_load (i := 125) (u := 1) (w := 0) rfl rfl rfl ?_
          refine z_eq (i := 126) (v := 129) rfl ⟨by omega, by omega⟩ (fun h179 => ?_) (fun h180 => ?_)
          · refine r_load (i := 129) (u := 4) (w := 0) rfl rfl rfl ?_
            refine s_int (i := 130) rfl ly49 rfl (by omega) (by omega) ⟨by omega, by omega⟩ ?_
            have hI182 := hI166.seta49 (j := (S165.f 43 1).toNat) (z := up) (by omega) (by omega) (by omega)
            have hF184 := hF168.seta (b := 49) (j := (S165.f 43 1).toNat) (z := up) rfl
            have hR185 := hR169.seta (b := 49) (j := (S165.f 43 1).toNat) (z := up)
            refine yT_gen (fun S181 hS183 => ?_)
            rw [hS183] at hI182 hF184 hR185 
            refine r_load (i := 131) (u := 0) (w := 2) rfl rfl rfl ?_
            refine r_dup (i := 132) rfl rfl ?_
            have h186 := hI182.f tf43_1
            have h187 : S181.f 43 1 = S165.f 43 1 := by rw [← hS183]; rfl
            have h188 : S165.f 43 1 = S152.f 43 1 := by rw [← hS167]; rfl
            have h189 : S152.f 43 1 = S45.f 43 1 := by rw [← hS154]; rfl
            have h190 : S45.f 43 1 = S30.f 43 1 := by rw [← hS47]; rfl
            have h191 : S30.f 43 1 = S16.f 43 1 := by rw [← hS32]; rfl
            have h192 : S16.f 43 1 = S2.f 43 1 := by rw [← hS18]; rfl
            have h193 : S2.f 43 1 = S.f 43 1 := by rw [← hS4]; exact ysf_ne (by decide)
            refine r_getf (i := 133) (v := 1) (w := 11) (x := vi (S181.f 43 1)) rfl ly43 rfl rfl fun h194 => ?_
            have h194 : Rg (S181.f 43 1) := h194
            refine r_const (i := 134) (u := 1) (z := 1) rfl rfl ?_
            refine r_iadd (i := 135) rfl ?_
            refine r_putI (i := 136) (v := 1) (w := 11) rfl ly43 rfl ⟨by omega, by omega⟩ ?_
            have hI196 := hI182.setf (b := 43) (w := 1) (z := (S181.f 43 1) + 1) tf43_1 rfl (by omega) (by omega)
            have hF198 := hF184.setf (b := 43) (w := 1) (z := (S181.f 43 1) + 1) rfl
            have hR199 := hR185.setf (b := 43) (w := 1) (z := (S181.f 43 1) + 1)
            refine yT_gen (fun S195 hS197 => ?_)
            rw [hS197] at hI196 hF198 hR199 
            have h200 := hI196.f tf43_0
            have h201 : S195.f 43 0 = S181.f 43 0 := by rw [← hS197]; exact ysf_ne (by decide)
            have h202 : S181.f 43 0 = S165.f 43 0 := by rw [← hS183]; rfl
            have h203 : S165.f 43 0 = S152.f 43 0 := by rw [← hS167]; rfl
            have h204 : S152.f 43 0 = S45.f 43 0 := by rw [← hS154]; rfl
            have h205 : S45.f 43 0 = S30.f 43 0 := by rw [← hS47]; rfl
            have h206 : S30.f 43 0 = S16.f 43 0 := by rw [← hS32]; rfl
            have h207 : S16.f 43 0 = S2.f 43 0 := by rw [← hS18]; rfl
            have h208 : S2.f 43 0 = c0 := by rw [← hS4]; exact ysf_eq
            have h209 := hI196.f tf43_1
            have h210 : S195.f 43 1 = (S181.f 43 1) + 1 := by rw [← hS197]; exact ysf_eq
            refine r_load (i := 137) (u := 0) (w := 2) rfl rfl rfl ?_
            refine r_getf (i := 138) (v := 1) (w := 11) (x := vi (S195.f 43 1)) rfl ly43 rfl rfl fun h211 => ?_
            have h211 : Rg (S195.f 43 1) := h211
            refine r_const (i := 139) (u := 1) (z := 1) rfl rfl ?_
            refine r_isub (i := 140) rfl ?_
            exact r_retI (i := 141) rfl ⟨(S195.f 43 1) - 1, rfl, by omega, by omega, (by rw [← q_3]; exact Or.inl ⟨by omega, by unfold tyM; omega, by omega, by omega, 0, 0, 1, up, ⟨by omega, by omega, by omega, by omega, by omega⟩, by subst hS4 hS18 hS32 hS47 hS154 hS167 hS183 hS197; rfl, fun j => by subst hS4 hS18 hS32 hS47 hS154 hS167 hS183 hS197; rfl, fun j => by subst hS4 hS18 hS32 hS47 hS154 hS167 hS183 hS197; rfl, fun j => by subst hS4 hS18 hS32 hS47 hS154 hS167 hS183 hS197; rfl, fun j => by subst hS4 hS18 hS32 hS47 hS154 hS167 hS183 hS197; rfl, fun j => by subst hS4 hS18 hS32 hS47 hS154 hS167 hS183 hS197; rfl, fun j => by subst hS4 hS18 hS32 hS47 hS154 hS167 hS183 hS197; rfl⟩), hI196, hF198, hR199⟩
          · refine r_const (i := 127) (u := 4294967295) (z := -1) rfl rfl ?_
            refine r_goto (i := 128) (v := 130) rfl ?_
            refine s_int (i := 130) rfl ly49 rfl (by omega) (by omega) ⟨by omega, by omega⟩ ?_
            have hI213 := hI166.seta49 (j := (S165.f 43 1).toNat) (z := -1) (by omega) (by omega) (by omega)
            have hF215 := hF168.seta (b := 49) (j := (S165.f 43 1).toNat) (z := -1) rfl
            have hR216 := hR169.seta (b := 49) (j := (S165.f 43 1).toNat) (z := -1)
            refine yT_gen (fun S212 hS214 => ?_)
            rw [hS214] at hI213 hF215 hR216 
            refine r_load (i := 131) (u := 0) (w := 2) rfl rfl rfl ?_
            refine r_dup (i := 132) rfl rfl ?_
            have h217 := hI213.f tf43_1
            have h218 : S212.f 43 1 = S165.f 43 1 := by rw [← hS214]; rfl
            have h219 : S165.f 43 1 = S152.f 43 1 := by rw [← hS167]; rfl
            have h220 : S152.f 43 1 = S45.f 43 1 := by rw [← hS154]; rfl
            have h221 : S45.f 43 1 = S30.f 43 1 := by rw [← hS47]; rfl
            have h222 : S30.f 43 1 = S16.f 43 1 := by rw [← hS32]; rfl
            have h223 : S16.f 43 1 = S2.f 43 1 := by rw [← hS18]; rfl
            have h224 : S2.f 43 1 = S.f 43 1 := by rw [← hS4]; exact ysf_ne (by decide)
            refine r_getf (i := 133) (v := 1) (w := 11) (x := vi (S212.f 43 1)) rfl ly43 rfl rfl fun h225 => ?_
            have h225 : Rg (S212.f 43 1) := h225
            refine r_const (i := 134) (u := 1) (z := 1) rfl rfl ?_
            refine r_iadd (i := 135) rfl ?_
            refine r_putI (i := 136) (v := 1) (w := 11) rfl ly43 rfl ⟨by omega, by omega⟩ ?_
            have hI227 := hI213.setf (b := 43) (w := 1) (z := (S212.f 43 1) + 1) tf43_1 rfl (by omega) (by omega)
            have hF229 := hF215.setf (b := 43) (w := 1) (z := (S212.f 43 1) + 1) rfl
            have hR230 := hR216.setf (b := 43) (w := 1) (z := (S212.f 43 1) + 1)
            refine yT_gen (fun S226 hS228 => ?_)
            rw [hS228] at hI227 hF229 hR230 
            have h231 := hI227.f tf43_0
            have h232 : S226.f 43 0 = S212.f 43 0 := by rw [← hS228]; exact ysf_ne (by decide)
            have h233 : S212.f 43 0 = S165.f 43 0 := by rw [← hS214]; rfl
            have h234 : S165.f 43 0 = S152.f 43 0 := by rw [← hS167]; rfl
            have h235 : S152.f 43 0 = S45.f 43 0 := by rw [← hS154]; rfl
            have h236 : S45.f 43 0 = S30.f 43 0 := by rw [← hS47]; rfl
            have h237 : S30.f 43 0 = S16.f 43 0 := by rw [← hS32]; rfl
            have h238 : S16.f 43 0 = S2.f 43 0 := by rw [← hS18]; rfl
            have h239 : S2.f 43 0 = c0 := by rw [← hS4]; exact ysf_eq
            have h240 := hI227.f tf43_1
            have h241 : S226.f 43 1 = (S212.f 43 1) + 1 := by rw [← hS228]; exact ysf_eq
            refine r_load (i := 137) (u := 0) (w := 2) rfl rfl rfl ?_
            refine r_getf (i := 138) (v := 1) (w := 11) (x := vi (S226.f 43 1)) rfl ly43 rfl rfl fun h242 => ?_
            have h242 : Rg (S226.f 43 1) := h242
            refine r_const (i := 139) (u := 1) (z := 1) rfl rfl ?_
            refine r_isub (i := 140) rfl ?_
            exact r_retI (i := 141) rfl ⟨(S226.f 43 1) - 1, rfl, by omega, by omega, (by rw [← q_3]; exact Or.inl ⟨by omega, by unfold tyM; omega, by omega, by omega, 0, 0, 1, -1, ⟨by omega, by omega, by omega, by omega, by omega⟩, by subst hS4 hS18 hS32 hS47 hS154 hS167 hS214 hS228; rfl, fun j => by subst hS4 hS18 hS32 hS47 hS154 hS167 hS214 hS228; rfl, fun j => by subst hS4 hS18 hS32 hS47 hS154 hS167 hS214 hS228; rfl, fun j => by subst hS4 hS18 hS32 hS47 hS154 hS167 hS214 hS228; rfl, fun j => by subst hS4 hS18 hS32 hS47 hS154 hS167 hS214 hS228; rfl, fun j => by subst hS4 hS18 hS32 hS47 hS154 hS167 hS214 hS228; rfl, fun j => by subst hS4 hS18 hS32 hS47 hS154 hS167 hS214 hS228; rfl⟩), hI227, hF229, hR230⟩
      · refine r_const (i := 98) (u := 1) (z := 1) rfl rfl ?_
        refine r_goto (i := 99) (v := 101) rfl ?_
        refine s_bool (i := 101) rfl ly46 rfl (by omega) (by omega) (by omega) (by omega) ?_
        have hI244 := hI31.seta0 (b := 46) (j := (S30.f 43 1).toNat) (z := 1) rfl rfl
        have hF246 := hF33.seta (b := 46) (j := (S30.f 43 1).toNat) (z := 1) rfl
        have hR247 := hR34.seta (b := 46) (j := (S30.f 43 1).toNat) (z := 1)
        refine yT_gen (fun S243 hS245 => ?_)
        rw [hS245] at hI244 hF246 hR247 
        refine r_load (i := 102) (u := 0) (w := 2) rfl rfl rfl ?_
        refine r_getf (i := 103) (v := 5) (w := 11) (x := (2, 47)) rfl ly43 rfl rfl fun _ => ?_
        refine r_load (i := 104) (u := 0) (w := 2) rfl rfl rfl ?_
        have h249 := hI244.f tf43_1
        have h250 : S243.f 43 1 = S30.f 43 1 := by rw [← hS245]; rfl
        have h251 : S30.f 43 1 = S16.f 43 1 := by rw [← hS32]; rfl
        have h252 : S16.f 43 1 = S2.f 43 1 := by rw [← hS18]; rfl
        have h253 : S2.f 43 1 = S.f 43 1 := by rw [← hS4]; exact ysf_ne (by decide)
        refine r_getf (i := 105) (v := 1) (w := 11) (x := vi (S243.f 43 1)) rfl ly43 rfl rfl fun h254 => ?_
        have h254 : Rg (S243.f 43 1) := h254
        refine r_load (i := 106) (u := 2) (w := 0) rfl rfl rfl ?_
        refine r_const (i := 107) (u := 4) (z := 4) rfl rfl ?_
        refine r_iand (i := 108) rfl ?_
        have h255 := @yand_c bits 4 (by decide) (by decide)
        have h256 := yand_p4 bits
        refine r_const (i := 109) (u := 4) (z := 4) rfl rfl ?_
        refine c_ne (i := 110) (v := 113) rfl ⟨by omega, by omega⟩ ⟨by omega, by omega⟩ (fun h257 => ?_) (fun h258 => ?_)
        · refine r_const (i := 113) (u := 0) (z := 0) rfl rfl ?_
          refine s_bool (i := 114) rfl ly47 rfl (by omega) (by omega) (by omega) (by omega) ?_
          have hI260 := hI244.seta0 (b := 47) (j := (S243.f 43 1).toNat) (z := 0) rfl rfl
          have hF262 := hF246.seta (b := 47) (j := (S243.f 43 1).toNat) (z := 0) rfl
          have hR263 := hR247.seta (b := 47) (j := (S243.f 43 1).toNat) (z := 0)
          refine yT_gen (fun S259 hS261 => ?_)
          rw [hS261] at hI260 hF262 hR263 
          refine r_load (i := 115) (u := 0) (w := 2) rfl rfl rfl ?_
          refine r_getf (i := 116) (v := 6) (w := 11) (x := (2, 48)) rfl ly43 rfl rfl fun _ => ?_
          refine r_load (i := 117) (u := 0) (w := 2) rfl rfl rfl ?_
          have h265 := hI260.f tf43_1
          have h266 : S259.f 43 1 = S243.f 43 1 := by rw [← hS261]; rfl
          have h267 : S243.f 43 1 = S30.f 43 1 := by rw [← hS245]; rfl
          have h268 : S30.f 43 1 = S16.f 43 1 := by rw [← hS32]; rfl
          have h269 : S16.f 43 1 = S2.f 43 1 := by rw [← hS18]; rfl
          have h270 : S2.f 43 1 = S.f 43 1 := by rw [← hS4]; exact ysf_ne (by decide)
          refine r_getf (i := 118) (v := 1) (w := 11) (x := vi (S259.f 43 1)) rfl ly43 rfl rfl fun h271 => ?_
          have h271 : Rg (S259.f 43 1) := h271
          refine r_load (i := 119) (u := 3) (w := 0) rfl rfl rfl ?_
          refine s_int (i := 120) rfl ly48 rfl (by omega) (by omega) ⟨by omega, by omega⟩ ?_
          have hI273 := hI260.seta (b := 48) (j := (S259.f 43 1).toNat) (z := p) ta48 rfl (by omega) (by omega)
          have hF275 := hF262.seta (b := 48) (j := (S259.f 43 1).toNat) (z := p) rfl
          have hR276 := hR263.seta (b := 48) (j := (S259.f 43 1).toNat) (z := p)
          refine yT_gen (fun S272 hS274 => ?_)
          rw [hS274] at hI273 hF275 hR276 
          refine r_load (i := 121) (u := 0) (w := 2) rfl rfl rfl ?_
          refine r_getf (i := 122) (v := 7) (w := 11) (x := (2, 49)) rfl ly43 rfl rfl fun _ => ?_
          refine r_load (i := 123) (u := 0) (w := 2) rfl rfl rfl ?_
          have h278 := hI273.f tf43_1
          have h279 : S272.f 43 1 = S259.f 43 1 := by rw [← hS274]; rfl
          have h280 : S259.f 43 1 = S243.f 43 1 := by rw [← hS261]; rfl
          have h281 : S243.f 43 1 = S30.f 43 1 := by rw [← hS245]; rfl
          have h282 : S30.f 43 1 = S16.f 43 1 := by rw [← hS32]; rfl
          have h283 : S16.f 43 1 = S2.f 43 1 := by rw [← hS18]; rfl
          have h284 : S2.f 43 1 = S.f 43 1 := by rw [← hS4]; exact ysf_ne (by decide)
          refine r_getf (i := 124) (v := 1) (w := 11) (x := vi (S272.f 43 1)) rfl ly43 rfl rfl fun h285 => ?_
          have h285 : Rg (S272.f 43 1) := h285
          refine r_load (i := 125) (u := 1) (w := 0) rfl rfl rfl ?_
          refine z_eq (i := 126) (v := 129) rfl ⟨by omega, by omega⟩ (fun h286 => ?_) (fun h287 => ?_)
          · refine r_load (i := 129) (u := 4) (w := 0) rfl rfl rfl ?_
            refine s_int (i := 130) rfl ly49 rfl (by omega) (by omega) ⟨by omega, by omega⟩ ?_
            have hI289 := hI273.seta49 (j := (S272.f 43 1).toNat) (z := up) (by omega) (by omega) (by omega)
            have hF291 := hF275.seta (b := 49) (j := (S272.f 43 1).toNat) (z := up) rfl
            have hR292 := hR276.seta (b := 49) (j := (S272.f 43 1).toNat) (z := up)
            refine yT_gen (fun S288 hS290 => ?_)
            rw [hS290] at hI289 hF291 hR292 
            refine r_load (i := 131) (u := 0) (w := 2) rfl rfl rfl ?_
            refine r_dup (i := 132) rfl rfl ?_
            have h293 := hI289.f tf43_1
            have h294 : S288.f 43 1 = S272.f 43 1 := by rw [← hS290]; rfl
            have h295 : S272.f 43 1 = S259.f 43 1 := by rw [← hS274]; rfl
            have h296 : S259.f 43 1 = S243.f 43 1 := by rw [← hS261]; rfl
            have h297 : S243.f 43 1 = S30.f 43 1 := by rw [← hS245]; rfl
            have h298 : S30.f 43 1 = S16.f 43 1 := by rw [← hS32]; rfl
            have h299 : S16.f 43 1 = S2.f 43 1 := by rw [← hS18]; rfl
            have h300 : S2.f 43 1 = S.f 43 1 := by rw [← hS4]; exact ysf_ne (by decide)
            refine r_getf (i := 133) (v := 1) (w := 11) (x := vi (S288.f 43 1)) rfl ly43 rfl rfl fun h301 => ?_
            have h301 : Rg (S288.f 43 1) := h301
            refine r_const (i := 134) (u := 1) (z := 1) rfl rfl ?_
            refine r_iadd (i := 135) rfl ?_
            refine r_putI (i := 136) (v := 1) (w := 11) rfl ly43 rfl ⟨by omega, by omega⟩ ?_
            have hI303 := hI289.setf (b := 43) (w := 1) (z := (S288.f 43 1) + 1) tf43_1 rfl (by omega) (by omega)
            have hF305 := hF291.setf (b := 43) (w := 1) (z := (S288.f 43 1) + 1) rfl
            have hR306 := hR292.setf (b := 43) (w := 1) (z := (S288.f 43 1) + 1)
            refine yT_gen (fun S302 hS304 => ?_)
            rw [hS304] at hI303 hF305 hR306 
            have h307 := hI303.f tf43_0
            have h308 : S302.f 43 0 = S288.f 43 0 := by rw [← hS304]; exact ysf_ne (by decide)
            have h309 : S288.f 43 0 = S272.f 43 0 := by rw [← hS290]; rfl
            have h310 : S272.f 43 0 = S259.f 43 0 := by rw [← hS274]; rfl
            have h311 : S259.f 43 0 = S243.f 43 0 := by rw [← hS261]; rfl
            have h312 : S243.f 43 0 = S30.f 43 0 := by rw [← hS245]; rfl
            have h313 : S30.f 43 0 = S16.f 43 0 := by rw [← hS32]; rfl
            have h314 : S16.f 43 0 = S2.f 43 0 := by rw [← hS18]; rfl
            have h315 : S2.f 43 0 = c0 := by rw [← hS4]; exact ysf_eq
            have h316 := hI303.f tf43_1
            have h317 : S302.f 43 1 = (S288.f 43 1) + 1 := by rw [← hS304]; exact ysf_eq
            refine r_load (i := 137) (u := 0) (w := 2) rfl rfl rfl ?_
            refine r_getf (i := 138) (v := 1) (w := 11) (x := vi (S302.f 43 1)) rfl ly43 rfl rfl fun h318 => ?_
            have h318 : Rg (S302.f 43 1) := h318
            refine r_const (i := 139) (u := 1) (z := 1) rfl rfl ?_
            refine r_isub (i := 140) rfl ?_
            exact r_retI (i := 141) rfl ⟨(S302.f 43 1) - 1, rfl, by omega, by omega, (by rw [← q_3]; exact Or.inl ⟨by omega, by unfold tyM; omega, by omega, by omega, 0, 1, 0, up, ⟨by omega, by omega, by omega, by omega, by omega⟩, by subst hS4 hS18 hS32 hS245 hS261 hS274 hS290 hS304; rfl, fun j => by subst hS4 hS18 hS32 hS245 hS261 hS274 hS290 hS304; rfl, fun j => by subst hS4 hS18 hS32 hS245 hS261 hS274 hS290 hS304; rfl, fun j => by subst hS4 hS18 hS32 hS245 hS261 hS274 hS290 hS304; rfl, fun j => by subst hS4 hS18 hS32 hS245 hS261 hS274 hS290 hS304; rfl, fun j => by subst hS4 hS18 hS32 hS245 hS261 hS274 hS290 hS304; rfl, fun j => by subst hS4 hS18 hS32 hS245 hS261 hS274 hS290 hS304; rfl⟩), hI303, hF305, hR306⟩
          · refine r_const (i := 127) (u := 4294967295) (z := -1) rfl rfl ?_
            refine r_goto (i := 128) (v := 130) rfl ?_
            refine s_int (i := 130) rfl ly49 rfl (by omega) (by omega) ⟨by omega, by omega⟩ ?_
            have hI320 := hI273.seta49 (j := (S272.f 43 1).toNat) (z := -1) (by omega) (by omega) (by omega)
            have hF322 := hF275.seta (b := 49) (j := (S272.f 43 1).toNat) (z := -1) rfl
            have hR323 := hR276.seta (b := 49) (j := (S272.f 43 1).toNat) (z := -1)
            refine yT_gen (fun S319 hS321 => ?_)
            rw [hS321] at hI320 hF322 hR323 
            refine r_load (i := 131) (u := 0) (w := 2) rfl rfl rfl ?_
            refine r_dup (i := 132) rfl rfl ?_
            have h324 := hI320.f tf43_1
            have h325 : S319.f 43 1 = S272.f 43 1 := by rw [← hS321]; rfl
            have h326 : S272.f 43 1 = S259.f 43 1 := by rw [← hS274]; rfl
            have h327 : S259.f 43 1 = S243.f 43 1 := by rw [← hS261]; rfl
            have h328 : S243.f 43 1 = S30.f 43 1 := by rw [← hS245]; rfl
            have h329 : S30.f 43 1 = S16.f 43 1 := by rw [← hS32]; rfl
            have h330 : S16.f 43 1 = S2.f 43 1 := by rw [← hS18]; rfl
            have h331 : S2.f 43 1 = S.f 43 1 := by rw [← hS4]; exact ysf_ne (by decide)
            refine r_getf (i := 133) (v := 1) (w := 11) (x := vi (S319.f 43 1)) rfl ly43 rfl rfl fun h332 => ?_
            have h332 : Rg (S319.f 43 1) := h332
            refine r_const (i := 134) (u := 1) (z := 1) rfl rfl ?_
            refine r_iadd (i := 135) rfl ?_
            refine r_putI (i := 136) (v := 1) (w := 11) rfl ly43 rfl ⟨by omega, by omega⟩ ?_
            have hI334 := hI320.setf (b := 43) (w := 1) (z := (S319.f 43 1) + 1) tf43_1 rfl (by omega) (by omega)
            have hF336 := hF322.setf (b := 43) (w := 1) (z := (S319.f 43 1) + 1) rfl
            have hR337 := hR323.setf (b := 43) (w := 1) (z := (S319.f 43 1) + 1)
            refine yT_gen (fun S333 hS335 => ?_)
            rw [hS335] at hI334 hF336 hR337 
            have h338 := hI334.f tf43_0
            have h339 : S333.f 43 0 = S319.f 43 0 := by rw [← hS335]; exact ysf_ne (by decide)
            have h340 : S319.f 43 0 = S272.f 43 0 := by rw [← hS321]; rfl
            have h341 : S272.f 43 0 = S259.f 43 0 := by rw [← hS274]; rfl
            have h342 : S259.f 43 0 = S243.f 43 0 := by rw [← hS261]; rfl
            have h343 : S243.f 43 0 = S30.f 43 0 := by rw [← hS245]; rfl
            have h344 : S30.f 43 0 = S16.f 43 0 := by rw [← hS32]; rfl
            have h345 : S16.f 43 0 = S2.f 43 0 := by rw [← hS18]; rfl
            have h346 : S2.f 43 0 = c0 := by rw [← hS4]; exact ysf_eq
            have h347 := hI334.f tf43_1
            have h348 : S333.f 43 1 = (S319.f 43 1) + 1 := by rw [← hS335]; exact ysf_eq
            refine r_load (i := 137) (u := 0) (w := 2) rfl rfl rfl ?_
            refine r_getf (i := 138) (v := 1) (w := 11) (x := vi (S333.f 43 1)) rfl ly43 rfl rfl fun h349 => ?_
            have h349 : Rg (S333.f 43 1) := h349
            refine r_const (i := 139) (u := 1) (z := 1) rfl rfl ?_
            refine r_isub (i := 140) rfl ?_
            exact r_retI (i := 141) rfl ⟨(S333.f 43 1) - 1, rfl, by omega, by omega, (by rw [← q_3]; exact Or.inl ⟨by omega, by unfold tyM; omega, by omega, by omega, 0, 1, 0, -1, ⟨by omega, by omega, by omega, by omega, by omega⟩, by subst hS4 hS18 hS32 hS245 hS261 hS274 hS321 hS335; rfl, fun j => by subst hS4 hS18 hS32 hS245 hS261 hS274 hS321 hS335; rfl, fun j => by subst hS4 hS18 hS32 hS245 hS261 hS274 hS321 hS335; rfl, fun j => by subst hS4 hS18 hS32 hS245 hS261 hS274 hS321 hS335; rfl, fun j => by subst hS4 hS18 hS32 hS245 hS261 hS274 hS321 hS335; rfl, fun j => by subst hS4 hS18 hS32 hS245 hS261 hS274 hS321 hS335; rfl, fun j => by subst hS4 hS18 hS32 hS245 hS261 hS274 hS321 hS335; rfl⟩), hI334, hF336, hR337⟩
        · refine r_const (i := 111) (u := 1) (z := 1) rfl rfl ?_
          refine r_goto (i := 112) (v := 114) rfl ?_
          refine s_bool (i := 114) rfl ly47 rfl (by omega) (by omega) (by omega) (by omega) ?_
          have hI351 := hI244.seta0 (b := 47) (j := (S243.f 43 1).toNat) (z := 1) rfl rfl
          have hF353 := hF246.seta (b := 47) (j := (S243.f 43 1).toNat) (z := 1) rfl
          have hR354 := hR247.seta (b := 47) (j := (S243.f 43 1).toNat) (z := 1)
          refine yT_gen (fun S350 hS352 => ?_)
          rw [hS352] at hI351 hF353 hR354 
          refine r_load (i := 115) (u := 0) (w := 2) rfl rfl rfl ?_
          refine r_getf (i := 116) (v := 6) (w := 11) (x := (2, 48)) rfl ly43 rfl rfl fun _ => ?_
          refine r_load (i := 117) (u := 0) (w := 2) rfl rfl rfl ?_
          have h356 := hI351.f tf43_1
          have h357 : S350.f 43 1 = S243.f 43 1 := by rw [← hS352]; rfl
          have h358 : S243.f 43 1 = S30.f 43 1 := by rw [← hS245]; rfl
          have h359 : S30.f 43 1 = S16.f 43 1 := by rw [← hS32]; rfl
          have h360 : S16.f 43 1 = S2.f 43 1 := by rw [← hS18]; rfl
          have h361 : S2.f 43 1 = S.f 43 1 := by rw [← hS4]; exact ysf_ne (by decide)
          refine r_getf (i := 118) (v := 1) (w := 11) (x := vi (S350.f 43 1)) rfl ly43 rfl rfl fun h362 => ?_
          have h362 : Rg (S350.f 43 1) := h362
          refine r_load (i := 119) (u := 3) (w := 0) rfl rfl rfl ?_
          refine s_int (i := 120) rfl ly48 rfl (by omega) (by omega) ⟨by omega, by omega⟩ ?_
          have hI364 := hI351.seta (b := 48) (j := (S350.f 43 1).toNat) (z := p) ta48 rfl (by omega) (by omega)
          have hF366 := hF353.seta (b := 48) (j := (S350.f 43 1).toNat) (z := p) rfl
          have hR367 := hR354.seta (b := 48) (j := (S350.f 43 1).toNat) (z := p)
          refine yT_gen (fun S363 hS365 => ?_)
          rw [hS365] at hI364 hF366 hR367 
          refine r_load (i := 121) (u := 0) (w := 2) rfl rfl rfl ?_
          refine r_getf (i := 122) (v := 7) (w := 11) (x := (2, 49)) rfl ly43 rfl rfl fun _ => ?_
          refine r_load (i := 123) (u := 0) (w := 2) rfl rfl rfl ?_
          have h369 := hI364.f tf43_1
          have h370 : S363.f 43 1 = S350.f 43 1 := by rw [← hS365]; rfl
          have h371 : S350.f 43 1 = S243.f 43 1 := by rw [← hS352]; rfl
          have h372 : S243.f 43 1 = S30.f 43 1 := by rw [← hS245]; rfl
          have h373 : S30.f 43 1 = S16.f 43 1 := by rw [← hS32]; rfl
          have h374 : S16.f 43 1 = S2.f 43 1 := by rw [← hS18]; rfl
          have h375 : S2.f 43 1 = S.f 43 1 := by rw [← hS4]; exact ysf_ne (by decide)
          refine r_getf (i := 124) (v := 1) (w := 11) (x := vi (S363.f 43 1)) rfl ly43 rfl rfl fun h376 => ?_
          have h376 : Rg (S363.f 43 1) := h376
          refine r_load (i := 125) (u := 1) (w := 0) rfl rfl rfl ?_
          refine z_eq (i := 126) (v := 129) rfl ⟨by omega, by omega⟩ (fun h377 => ?_) (fun h378 => ?_)
          · refine r_load (i := 129) (u := 4) (w := 0) rfl rfl rfl ?_
            refine s_int (i := 130) rfl ly49 rfl (by omega) (by omega) ⟨by omega, by omega⟩ ?_
            have hI380 := hI364.seta49 (j := (S363.f 43 1).toNat) (z := up) (by omega) (by omega) (by omega)
            have hF382 := hF366.seta (b := 49) (j := (S363.f 43 1).toNat) (z := up) rfl
            have hR383 := hR367.seta (b := 49) (j := (S363.f 43 1).toNat) (z := up)
            refine yT_gen (fun S379 hS381 => ?_)
            rw [hS381] at hI380 hF382 hR383 
            refine r_load (i := 131) (u := 0) (w := 2) rfl rfl rfl ?_
            refine r_dup (i := 132) rfl rfl ?_
            have h384 := hI380.f tf43_1
            have h385 : S379.f 43 1 = S363.f 43 1 := by rw [← hS381]; rfl
            have h386 : S363.f 43 1 = S350.f 43 1 := by rw [← hS365]; rfl
            have h387 : S350.f 43 1 = S243.f 43 1 := by rw [← hS352]; rfl
            have h388 : S243.f 43 1 = S30.f 43 1 := by rw [← hS245]; rfl
            have h389 : S30.f 43 1 = S16.f 43 1 := by rw [← hS32]; rfl
            have h390 : S16.f 43 1 = S2.f 43 1 := by rw [← hS18]; rfl
            have h391 : S2.f 43 1 = S.f 43 1 := by rw [← hS4]; exact ysf_ne (by decide)
            refine r_getf (i := 133) (v := 1) (w := 11) (x := vi (S379.f 43 1)) rfl ly43 rfl rfl fun h392 => ?_
            have h392 : Rg (S379.f 43 1) := h392
            refine r_const (i := 134) (u := 1) (z := 1) rfl rfl ?_
            refine r_iadd (i := 135) rfl ?_
            refine r_putI (i := 136) (v := 1) (w := 11) rfl ly43 rfl ⟨by omega, by omega⟩ ?_
            have hI394 := hI380.setf (b := 43) (w := 1) (z := (S379.f 43 1) + 1) tf43_1 rfl (by omega) (by omega)
            have hF396 := hF382.setf (b := 43) (w := 1) (z := (S379.f 43 1) + 1) rfl
            have hR397 := hR383.setf (b := 43) (w := 1) (z := (S379.f 43 1) + 1)
            refine yT_gen (fun S393 hS395 => ?_)
            rw [hS395] at hI394 hF396 hR397 
            have h398 := hI394.f tf43_0
            have h399 : S393.f 43 0 = S379.f 43 0 := by rw [← hS395]; exact ysf_ne (by decide)
            have h400 : S379.f 43 0 = S363.f 43 0 := by rw [← hS381]; rfl
            have h401 : S363.f 43 0 = S350.f 43 0 := by rw [← hS365]; rfl
            have h402 : S350.f 43 0 = S243.f 43 0 := by rw [← hS352]; rfl
            have h403 : S243.f 43 0 = S30.f 43 0 := by rw [← hS245]; rfl
            have h404 : S30.f 43 0 = S16.f 43 0 := by rw [← hS32]; rfl
            have h405 : S16.f 43 0 = S2.f 43 0 := by rw [← hS18]; rfl
            have h406 : S2.f 43 0 = c0 := by rw [← hS4]; exact ysf_eq
            have h407 := hI394.f tf43_1
            have h408 : S393.f 43 1 = (S379.f 43 1) + 1 := by rw [← hS395]; exact ysf_eq
            refine r_load (i := 137) (u := 0) (w := 2) rfl rfl rfl ?_
            refine r_getf (i := 138) (v := 1) (w := 11) (x := vi (S393.f 43 1)) rfl ly43 rfl rfl fun h409 => ?_
            have h409 : Rg (S393.f 43 1) := h409
            refine r_const (i := 139) (u := 1) (z := 1) rfl rfl ?_
            refine r_isub (i := 140) rfl ?_
            exact r_retI (i := 141) rfl ⟨(S393.f 43 1) - 1, rfl, by omega, by omega, (by rw [← q_3]; exact Or.inl ⟨by omega, by unfold tyM; omega, by omega, by omega, 0, 1, 1, up, ⟨by omega, by omega, by omega, by omega, by omega⟩, by subst hS4 hS18 hS32 hS245 hS352 hS365 hS381 hS395; rfl, fun j => by subst hS4 hS18 hS32 hS245 hS352 hS365 hS381 hS395; rfl, fun j => by subst hS4 hS18 hS32 hS245 hS352 hS365 hS381 hS395; rfl, fun j => by subst hS4 hS18 hS32 hS245 hS352 hS365 hS381 hS395; rfl, fun j => by subst hS4 hS18 hS32 hS245 hS352 hS365 hS381 hS395; rfl, fun j => by subst hS4 hS18 hS32 hS245 hS352 hS365 hS381 hS395; rfl, fun j => by subst hS4 hS18 hS32 hS245 hS352 hS365 hS381 hS395; rfl⟩), hI394, hF396, hR397⟩
          · refine r_const (i := 127) (u := 4294967295) (z := -1) rfl rfl ?_
            refine r_goto (i := 128) (v := 130) rfl ?_
            refine s_int (i := 130) rfl ly49 rfl (by omega) (by omega) ⟨by omega, by omega⟩ ?_
            have hI411 := hI364.seta49 (j := (S363.f 43 1).toNat) (z := -1) (by omega) (by omega) (by omega)
            have hF413 := hF366.seta (b := 49) (j := (S363.f 43 1).toNat) (z := -1) rfl
            have hR414 := hR367.seta (b := 49) (j := (S363.f 43 1).toNat) (z := -1)
            refine yT_gen (fun S410 hS412 => ?_)
            rw [hS412] at hI411 hF413 hR414 
            refine r_load (i := 131) (u := 0) (w := 2) rfl rfl rfl ?_
            refine r_dup (i := 132) rfl rfl ?_
            have h415 := hI411.f tf43_1
            have h416 : S410.f 43 1 = S363.f 43 1 := by rw [← hS412]; rfl
            have h417 : S363.f 43 1 = S350.f 43 1 := by rw [← hS365]; rfl
            have h418 : S350.f 43 1 = S243.f 43 1 := by rw [← hS352]; rfl
            have h419 : S243.f 43 1 = S30.f 43 1 := by rw [← hS245]; rfl
            have h420 : S30.f 43 1 = S16.f 43 1 := by rw [← hS32]; rfl
            have h421 : S16.f 43 1 = S2.f 43 1 := by rw [← hS18]; rfl
            have h422 : S2.f 43 1 = S.f 43 1 := by rw [← hS4]; exact ysf_ne (by decide)
            refine r_getf (i := 133) (v := 1) (w := 11) (x := vi (S410.f 43 1)) rfl ly43 rfl rfl fun h423 => ?_
            have h423 : Rg (S410.f 43 1) := h423
            refine r_const (i := 134) (u := 1) (z := 1) rfl rfl ?_
            refine r_iadd (i := 135) rfl ?_
            refine r_putI (i := 136) (v := 1) (w := 11) rfl ly43 rfl ⟨by omega, by omega⟩ ?_
            have hI425 := hI411.setf (b := 43) (w := 1) (z := (S410.f 43 1) + 1) tf43_1 rfl (by omega) (by omega)
            have hF427 := hF413.setf (b := 43) (w := 1) (z := (S410.f 43 1) + 1) rfl
            have hR428 := hR414.setf (b := 43) (w := 1) (z := (S410.f 43 1) + 1)
            refine yT_gen (fun S424 hS426 => ?_)
            rw [hS426] at hI425 hF427 hR428 
            have h429 := hI425.f tf43_0
            have h430 : S424.f 43 0 = S410.f 43 0 := by rw [← hS426]; exact ysf_ne (by decide)
            have h431 : S410.f 43 0 = S363.f 43 0 := by rw [← hS412]; rfl
            have h432 : S363.f 43 0 = S350.f 43 0 := by rw [← hS365]; rfl
            have h433 : S350.f 43 0 = S243.f 43 0 := by rw [← hS352]; rfl
            have h434 : S243.f 43 0 = S30.f 43 0 := by rw [← hS245]; rfl
            have h435 : S30.f 43 0 = S16.f 43 0 := by rw [← hS32]; rfl
            have h436 : S16.f 43 0 = S2.f 43 0 := by rw [← hS18]; rfl
            have h437 : S2.f 43 0 = c0 := by rw [← hS4]; exact ysf_eq
            have h438 := hI425.f tf43_1
            have h439 : S424.f 43 1 = (S410.f 43 1) + 1 := by rw [← hS426]; exact ysf_eq
            refine r_load (i := 137) (u := 0) (w := 2) rfl rfl rfl ?_
            refine r_getf (i := 138) (v := 1) (w := 11) (x := vi (S424.f 43 1)) rfl ly43 rfl rfl fun h440 => ?_
            have h440 : Rg (S424.f 43 1) := h440
            refine r_const (i := 139) (u := 1) (z := 1) rfl rfl ?_
            refine r_isub (i := 140) rfl ?_
            exact r_retI (i := 141) rfl ⟨(S424.f 43 1) - 1, rfl, by omega, by omega, (by rw [← q_3]; exact Or.inl ⟨by omega, by unfold tyM; omega, by omega, by omega, 0, 1, 1, -1, ⟨by omega, by omega, by omega, by omega, by omega⟩, by subst hS4 hS18 hS32 hS245 hS352 hS365 hS412 hS426; rfl, fun j => by subst hS4 hS18 hS32 hS245 hS352 hS365 hS412 hS426; rfl, fun j => by subst hS4 hS18 hS32 hS245 hS352 hS365 hS412 hS426; rfl, fun j => by subst hS4 hS18 hS32 hS245 hS352 hS365 hS412 hS426; rfl, fun j => by subst hS4 hS18 hS32 hS245 hS352 hS365 hS412 hS426; rfl, fun j => by subst hS4 hS18 hS32 hS245 hS352 hS365 hS412 hS426; rfl, fun j => by subst hS4 hS18 hS32 hS245 hS352 hS365 hS412 hS426; rfl⟩), hI425, hF427, hR428⟩
    · refine r_const (i := 85) (u := 1) (z := 1) rfl rfl ?_
      refine r_goto (i := 86) (v := 88) rfl ?_
      refine s_bool (i := 88) rfl ly45 rfl (by omega) (by omega) (by omega) (by omega) ?_
      have hI442 := hI17.seta0 (b := 45) (j := (S16.f 43 1).toNat) (z := 1) rfl rfl
      have hF444 := hF19.seta (b := 45) (j := (S16.f 43 1).toNat) (z := 1) rfl
      have hR445 := hR20.seta (b := 45) (j := (S16.f 43 1).toNat) (z := 1)
      refine yT_gen (fun S441 hS443 => ?_)
      rw [hS443] at hI442 hF444 hR445 
      refine r_load (i := 89) (u := 0) (w := 2) rfl rfl rfl ?_
      refine r_getf (i := 90) (v := 4) (w := 11) (x := (2, 46)) rfl ly43 rfl rfl fun _ => ?_
      refine r_load (i := 91) (u := 0) (w := 2) rfl rfl rfl ?_
      have h447 := hI442.f tf43_1
      have h448 : S441.f 43 1 = S16.f 43 1 := by rw [← hS443]; rfl
      have h449 : S16.f 43 1 = S2.f 43 1 := by rw [← hS18]; rfl
      have h450 : S2.f 43 1 = S.f 43 1 := by rw [← hS4]; exact ysf_ne (by decide)
      refine r_getf (i := 92) (v := 1) (w := 11) (x := vi (S441.f 43 1)) rfl ly43 rfl rfl fun h451 => ?_
      have h451 : Rg (S441.f 43 1) := h451
      refine r_load (i := 93) (u := 2) (w := 0) rfl rfl rfl ?_
      refine r_const (i := 94) (u := 2) (z := 2) rfl rfl ?_
      refine r_iand (i := 95) rfl ?_
      have h452 := @yand_c bits 2 (by decide) (by decide)
      have h453 := yand_p2 bits
      refine r_const (i := 96) (u := 2) (z := 2) rfl rfl ?_
      refine c_ne (i := 97) (v := 100) rfl ⟨by omega, by omega⟩ ⟨by omega, by omega⟩ (fun h454 => ?_) (fun h455 => ?_)
      · refine r_const (i := 100) (u := 0) (z := 0) rfl rfl ?_
        refine s_bool (i := 101) rfl ly46 rfl (by omega) (by omega) (by omega) (by omega) ?_
        have hI457 := hI442.seta0 (b := 46) (j := (S441.f 43 1).toNat) (z := 0) rfl rfl
        have hF459 := hF444.seta (b := 46) (j := (S441.f 43 1).toNat) (z := 0) rfl
        have hR460 := hR445.seta (b := 46) (j := (S441.f 43 1).toNat) (z := 0)
        refine yT_gen (fun S456 hS458 => ?_)
        rw [hS458] at hI457 hF459 hR460 
        refine r_load (i := 102) (u := 0) (w := 2) rfl rfl rfl ?_
        refine r_getf (i := 103) (v := 5) (w := 11) (x := (2, 47)) rfl ly43 rfl rfl fun _ => ?_
        refine r_load (i := 104) (u := 0) (w := 2) rfl rfl rfl ?_
        have h462 := hI457.f tf43_1
        have h463 : S456.f 43 1 = S441.f 43 1 := by rw [← hS458]; rfl
        have h464 : S441.f 43 1 = S16.f 43 1 := by rw [← hS443]; rfl
        have h465 : S16.f 43 1 = S2.f 43 1 := by rw [← hS18]; rfl
        have h466 : S2.f 43 1 = S.f 43 1 := by rw [← hS4]; exact ysf_ne (by decide)
        refine r_getf (i := 105) (v := 1) (w := 11) (x := vi (S456.f 43 1)) rfl ly43 rfl rfl fun h467 => ?_
        have h467 : Rg (S456.f 43 1) := h467
        refine r_load (i := 106) (u := 2) (w := 0) rfl rfl rfl ?_
        refine r_const (i := 107) (u := 4) (z := 4) rfl rfl ?_
        refine r_iand (i := 108) rfl ?_
        have h468 := @yand_c bits 4 (by decide) (by decide)
        have h469 := yand_p4 bits
        refine r_const (i := 109) (u := 4) (z := 4) rfl rfl ?_
        refine c_ne (i := 110) (v := 113) rfl ⟨by omega, by omega⟩ ⟨by omega, by omega⟩ (fun h470 => ?_) (fun h471 => ?_)
        · refine r_const (i := 113) (u := 0) (z := 0) rfl rfl ?_
          refine s_bool (i := 114) rfl ly47 rfl (by omega) (by omega) (by omega) (by omega) ?_
          have hI473 := hI457.seta0 (b := 47) (j := (S456.f 43 1).toNat) (z := 0) rfl rfl
          have hF475 := hF459.seta (b := 47) (j := (S456.f 43 1).toNat) (z := 0) rfl
          have hR476 := hR460.seta (b := 47) (j := (S456.f 43 1).toNat) (z := 0)
          refine yT_gen (fun S472 hS474 => ?_)
          rw [hS474] at hI473 hF475 hR476 
          refine r_load (i := 115) (u := 0) (w := 2) rfl rfl rfl ?_
          refine r_getf (i := 116) (v := 6) (w := 11) (x := (2, 48)) rfl ly43 rfl rfl fun _ => ?_
          refine r_load (i := 117) (u := 0) (w := 2) rfl rfl rfl ?_
          have h478 := hI473.f tf43_1
          have h479 : S472.f 43 1 = S456.f 43 1 := by rw [← hS474]; rfl
          have h480 : S456.f 43 1 = S441.f 43 1 := by rw [← hS458]; rfl
          have h481 : S441.f 43 1 = S16.f 43 1 := by rw [← hS443]; rfl
          have h482 : S16.f 43 1 = S2.f 43 1 := by rw [← hS18]; rfl
          have h483 : S2.f 43 1 = S.f 43 1 := by rw [← hS4]; exact ysf_ne (by decide)
          refine r_getf (i := 118) (v := 1) (w := 11) (x := vi (S472.f 43 1)) rfl ly43 rfl rfl fun h484 => ?_
          have h484 : Rg (S472.f 43 1) := h484
          refine r_load (i := 119) (u := 3) (w := 0) rfl rfl rfl ?_
          refine s_int (i := 120) rfl ly48 rfl (by omega) (by omega) ⟨by omega, by omega⟩ ?_
          have hI486 := hI473.seta (b := 48) (j := (S472.f 43 1).toNat) (z := p) ta48 rfl (by omega) (by omega)
          have hF488 := hF475.seta (b := 48) (j := (S472.f 43 1).toNat) (z := p) rfl
          have hR489 := hR476.seta (b := 48) (j := (S472.f 43 1).toNat) (z := p)
          refine yT_gen (fun S485 hS487 => ?_)
          rw [hS487] at hI486 hF488 hR489 
          refine r_load (i := 121) (u := 0) (w := 2) rfl rfl rfl ?_
          refine r_getf (i := 122) (v := 7) (w := 11) (x := (2, 49)) rfl ly43 rfl rfl fun _ => ?_
          refine r_load (i := 123) (u := 0) (w := 2) rfl rfl rfl ?_
          have h491 := hI486.f tf43_1
          have h492 : S485.f 43 1 = S472.f 43 1 := by rw [← hS487]; rfl
          have h493 : S472.f 43 1 = S456.f 43 1 := by rw [← hS474]; rfl
          have h494 : S456.f 43 1 = S441.f 43 1 := by rw [← hS458]; rfl
          have h495 : S441.f 43 1 = S16.f 43 1 := by rw [← hS443]; rfl
          have h496 : S16.f 43 1 = S2.f 43 1 := by rw [← hS18]; rfl
          have h497 : S2.f 43 1 = S.f 43 1 := by rw [← hS4]; exact ysf_ne (by decide)
          refine r_getf (i := 124) (v := 1) (w := 11) (x := vi (S485.f 43 1)) rfl ly43 rfl rfl fun h498 => ?_
          have h498 : Rg (S485.f 43 1) := h498
          refine r_load (i := 125) (u := 1) (w := 0) rfl rfl rfl ?_
          refine z_eq (i := 126) (v := 129) rfl ⟨by omega, by omega⟩ (fun h499 => ?_) (fun h500 => ?_)
          · refine r_load (i := 129) (u := 4) (w := 0) rfl rfl rfl ?_
            refine s_int (i := 130) rfl ly49 rfl (by omega) (by omega) ⟨by omega, by omega⟩ ?_
            have hI502 := hI486.seta49 (j := (S485.f 43 1).toNat) (z := up) (by omega) (by omega) (by omega)
            have hF504 := hF488.seta (b := 49) (j := (S485.f 43 1).toNat) (z := up) rfl
            have hR505 := hR489.seta (b := 49) (j := (S485.f 43 1).toNat) (z := up)
            refine yT_gen (fun S501 hS503 => ?_)
            rw [hS503] at hI502 hF504 hR505 
            refine r_load (i := 131) (u := 0) (w := 2) rfl rfl rfl ?_
            refine r_dup (i := 132) rfl rfl ?_
            have h506 := hI502.f tf43_1
            have h507 : S501.f 43 1 = S485.f 43 1 := by rw [← hS503]; rfl
            have h508 : S485.f 43 1 = S472.f 43 1 := by rw [← hS487]; rfl
            have h509 : S472.f 43 1 = S456.f 43 1 := by rw [← hS474]; rfl
            have h510 : S456.f 43 1 = S441.f 43 1 := by rw [← hS458]; rfl
            have h511 : S441.f 43 1 = S16.f 43 1 := by rw [← hS443]; rfl
            have h512 : S16.f 43 1 = S2.f 43 1 := by rw [← hS18]; rfl
            have h513 : S2.f 43 1 = S.f 43 1 := by rw [← hS4]; exact ysf_ne (by decide)
            refine r_getf (i := 133) (v := 1) (w := 11) (x := vi (S501.f 43 1)) rfl ly43 rfl rfl fun h514 => ?_
            have h514 : Rg (S501.f 43 1) := h514
            refine r_const (i := 134) (u := 1) (z := 1) rfl rfl ?_
            refine r_iadd (i := 135) rfl ?_
            refine r_putI (i := 136) (v := 1) (w := 11) rfl ly43 rfl ⟨by omega, by omega⟩ ?_
            have hI516 := hI502.setf (b := 43) (w := 1) (z := (S501.f 43 1) + 1) tf43_1 rfl (by omega) (by omega)
            have hF518 := hF504.setf (b := 43) (w := 1) (z := (S501.f 43 1) + 1) rfl
            have hR519 := hR505.setf (b := 43) (w := 1) (z := (S501.f 43 1) + 1)
            refine yT_gen (fun S515 hS517 => ?_)
            rw [hS517] at hI516 hF518 hR519 
            have h520 := hI516.f tf43_0
            have h521 : S515.f 43 0 = S501.f 43 0 := by rw [← hS517]; exact ysf_ne (by decide)
            have h522 : S501.f 43 0 = S485.f 43 0 := by rw [← hS503]; rfl
            have h523 : S485.f 43 0 = S472.f 43 0 := by rw [← hS487]; rfl
            have h524 : S472.f 43 0 = S456.f 43 0 := by rw [← hS474]; rfl
            have h525 : S456.f 43 0 = S441.f 43 0 := by rw [← hS458]; rfl
            have h526 : S441.f 43 0 = S16.f 43 0 := by rw [← hS443]; rfl
            have h527 : S16.f 43 0 = S2.f 43 0 := by rw [← hS18]; rfl
            have h528 : S2.f 43 0 = c0 := by rw [← hS4]; exact ysf_eq
            have h529 := hI516.f tf43_1
            have h530 : S515.f 43 1 = (S501.f 43 1) + 1 := by rw [← hS517]; exact ysf_eq
            refine r_load (i := 137) (u := 0) (w := 2) rfl rfl rfl ?_
            refine r_getf (i := 138) (v := 1) (w := 11) (x := vi (S515.f 43 1)) rfl ly43 rfl rfl fun h531 => ?_
            have h531 : Rg (S515.f 43 1) := h531
            refine r_const (i := 139) (u := 1) (z := 1) rfl rfl ?_
            refine r_isub (i := 140) rfl ?_
            exact r_retI (i := 141) rfl ⟨(S515.f 43 1) - 1, rfl, by omega, by omega, (by rw [← q_3]; exact Or.inl ⟨by omega, by unfold tyM; omega, by omega, by omega, 1, 0, 0, up, ⟨by omega, by omega, by omega, by omega, by omega⟩, by subst hS4 hS18 hS443 hS458 hS474 hS487 hS503 hS517; rfl, fun j => by subst hS4 hS18 hS443 hS458 hS474 hS487 hS503 hS517; rfl, fun j => by subst hS4 hS18 hS443 hS458 hS474 hS487 hS503 hS517; rfl, fun j => by subst hS4 hS18 hS443 hS458 hS474 hS487 hS503 hS517; rfl, fun j => by subst hS4 hS18 hS443 hS458 hS474 hS487 hS503 hS517; rfl, fun j => by subst hS4 hS18 hS443 hS458 hS474 hS487 hS503 hS517; rfl, fun j => by subst hS4 hS18 hS443 hS458 hS474 hS487 hS503 hS517; rfl⟩), hI516, hF518, hR519⟩
          · refine r_const (i := 127) (u := 4294967295) (z := -1) rfl rfl ?_
            refine r_goto (i := 128) (v := 130) rfl ?_
            refine s_int (i := 130) rfl ly49 rfl (by omega) (by omega) ⟨by omega, by omega⟩ ?_
            have hI533 := hI486.seta49 (j := (S485.f 43 1).toNat) (z := -1) (by omega) (by omega) (by omega)
            have hF535 := hF488.seta (b := 49) (j := (S485.f 43 1).toNat) (z := -1) rfl
            have hR536 := hR489.seta (b := 49) (j := (S485.f 43 1).toNat) (z := -1)
            refine yT_gen (fun S532 hS534 => ?_)
            rw [hS534] at hI533 hF535 hR536 
            refine r_load (i := 131) (u := 0) (w := 2) rfl rfl rfl ?_
            refine r_dup (i := 132) rfl rfl ?_
            have h537 := hI533.f tf43_1
            have h538 : S532.f 43 1 = S485.f 43 1 := by rw [← hS534]; rfl
            have h539 : S485.f 43 1 = S472.f 43 1 := by rw [← hS487]; rfl
            have h540 : S472.f 43 1 = S456.f 43 1 := by rw [← hS474]; rfl
            have h541 : S456.f 43 1 = S441.f 43 1 := by rw [← hS458]; rfl
            have h542 : S441.f 43 1 = S16.f 43 1 := by rw [← hS443]; rfl
            have h543 : S16.f 43 1 = S2.f 43 1 := by rw [← hS18]; rfl
            have h544 : S2.f 43 1 = S.f 43 1 := by rw [← hS4]; exact ysf_ne (by decide)
            refine r_getf (i := 133) (v := 1) (w := 11) (x := vi (S532.f 43 1)) rfl ly43 rfl rfl fun h545 => ?_
            have h545 : Rg (S532.f 43 1) := h545
            refine r_const (i := 134) (u := 1) (z := 1) rfl rfl ?_
            refine r_iadd (i := 135) rfl ?_
            refine r_putI (i := 136) (v := 1) (w := 11) rfl ly43 rfl ⟨by omega, by omega⟩ ?_
            have hI547 := hI533.setf (b := 43) (w := 1) (z := (S532.f 43 1) + 1) tf43_1 rfl (by omega) (by omega)
            have hF549 := hF535.setf (b := 43) (w := 1) (z := (S532.f 43 1) + 1) rfl
            have hR550 := hR536.setf (b := 43) (w := 1) (z := (S532.f 43 1) + 1)
            refine yT_gen (fun S546 hS548 => ?_)
            rw [hS548] at hI547 hF549 hR550 
            have h551 := hI547.f tf43_0
            have h552 : S546.f 43 0 = S532.f 43 0 := by rw [← hS548]; exact ysf_ne (by decide)
            have h553 : S532.f 43 0 = S485.f 43 0 := by rw [← hS534]; rfl
            have h554 : S485.f 43 0 = S472.f 43 0 := by rw [← hS487]; rfl
            have h555 : S472.f 43 0 = S456.f 43 0 := by rw [← hS474]; rfl
            have h556 : S456.f 43 0 = S441.f 43 0 := by rw [← hS458]; rfl
            have h557 : S441.f 43 0 = S16.f 43 0 := by rw [← hS443]; rfl
            have h558 : S16.f 43 0 = S2.f 43 0 := by rw [← hS18]; rfl
            have h559 : S2.f 43 0 = c0 := by rw [← hS4]; exact ysf_eq
            have h560 := hI547.f tf43_1
            have h561 : S546.f 43 1 = (S532.f 43 1) + 1 := by rw [← hS548]; exact ysf_eq
            refine r_load (i := 137) (u := 0) (w := 2) rfl rfl rfl ?_
            refine r_getf (i := 138) (v := 1) (w := 11) (x := vi (S546.f 43 1)) rfl ly43 rfl rfl fun h562 => ?_
            have h562 : Rg (S546.f 43 1) := h562
            refine r_const (i := 139) (u := 1) (z := 1) rfl rfl ?_
            refine r_isub (i := 140) rfl ?_
            exact r_retI (i := 141) rfl ⟨(S546.f 43 1) - 1, rfl, by omega, by omega, (by rw [← q_3]; exact Or.inl ⟨by omega, by unfold tyM; omega, by omega, by omega, 1, 0, 0, -1, ⟨by omega, by omega, by omega, by omega, by omega⟩, by subst hS4 hS18 hS443 hS458 hS474 hS487 hS534 hS548; rfl, fun j => by subst hS4 hS18 hS443 hS458 hS474 hS487 hS534 hS548; rfl, fun j => by subst hS4 hS18 hS443 hS458 hS474 hS487 hS534 hS548; rfl, fun j => by subst hS4 hS18 hS443 hS458 hS474 hS487 hS534 hS548; rfl, fun j => by subst hS4 hS18 hS443 hS458 hS474 hS487 hS534 hS548; rfl, fun j => by subst hS4 hS18 hS443 hS458 hS474 hS487 hS534 hS548; rfl, fun j => by subst hS4 hS18 hS443 hS458 hS474 hS487 hS534 hS548; rfl⟩), hI547, hF549, hR550⟩
        · refine r_const (i := 111) (u := 1) (z := 1) rfl rfl ?_
          refine r_goto (i := 112) (v := 114) rfl ?_
          refine s_bool (i := 114) rfl ly47 rfl (by omega) (by omega) (by omega) (by omega) ?_
          have hI564 := hI457.seta0 (b := 47) (j := (S456.f 43 1).toNat) (z := 1) rfl rfl
          have hF566 := hF459.seta (b := 47) (j := (S456.f 43 1).toNat) (z := 1) rfl
          have hR567 := hR460.seta (b := 47) (j := (S456.f 43 1).toNat) (z := 1)
          refine yT_gen (fun S563 hS565 => ?_)
          rw [hS565] at hI564 hF566 hR567 
          refine r_load (i := 115) (u := 0) (w := 2) rfl rfl rfl ?_
          refine r_getf (i := 116) (v := 6) (w := 11) (x := (2, 48)) rfl ly43 rfl rfl fun _ => ?_
          refine r_load (i := 117) (u := 0) (w := 2) rfl rfl rfl ?_
          have h569 := hI564.f tf43_1
          have h570 : S563.f 43 1 = S456.f 43 1 := by rw [← hS565]; rfl
          have h571 : S456.f 43 1 = S441.f 43 1 := by rw [← hS458]; rfl
          have h572 : S441.f 43 1 = S16.f 43 1 := by rw [← hS443]; rfl
          have h573 : S16.f 43 1 = S2.f 43 1 := by rw [← hS18]; rfl
          have h574 : S2.f 43 1 = S.f 43 1 := by rw [← hS4]; exact ysf_ne (by decide)
          refine r_getf (i := 118) (v := 1) (w := 11) (x := vi (S563.f 43 1)) rfl ly43 rfl rfl fun h575 => ?_
          have h575 : Rg (S563.f 43 1) := h575
          refine r_load (i := 119) (u := 3) (w := 0) rfl rfl rfl ?_
          refine s_int (i := 120) rfl ly48 rfl (by omega) (by omega) ⟨by omega, by omega⟩ ?_
          have hI577 := hI564.seta (b := 48) (j := (S563.f 43 1).toNat) (z := p) ta48 rfl (by omega) (by omega)
          have hF579 := hF566.seta (b := 48) (j := (S563.f 43 1).toNat) (z := p) rfl
          have hR580 := hR567.seta (b := 48) (j := (S563.f 43 1).toNat) (z := p)
          refine yT_gen (fun S576 hS578 => ?_)
          rw [hS578] at hI577 hF579 hR580 
          refine r_load (i := 121) (u := 0) (w := 2) rfl rfl rfl ?_
          refine r_getf (i := 122) (v := 7) (w := 11) (x := (2, 49)) rfl ly43 rfl rfl fun _ => ?_
          refine r_load (i := 123) (u := 0) (w := 2) rfl rfl rfl ?_
          have h582 := hI577.f tf43_1
          have h583 : S576.f 43 1 = S563.f 43 1 := by rw [← hS578]; rfl
          have h584 : S563.f 43 1 = S456.f 43 1 := by rw [← hS565]; rfl
          have h585 : S456.f 43 1 = S441.f 43 1 := by rw [← hS458]; rfl
          have h586 : S441.f 43 1 = S16.f 43 1 := by rw [← hS443]; rfl
          have h587 : S16.f 43 1 = S2.f 43 1 := by rw [← hS18]; rfl
          have h588 : S2.f 43 1 = S.f 43 1 := by rw [← hS4]; exact ysf_ne (by decide)
          refine r_getf (i := 124) (v := 1) (w := 11) (x := vi (S576.f 43 1)) rfl ly43 rfl rfl fun h589 => ?_
          have h589 : Rg (S576.f 43 1) := h589
          refine r_load (i := 125) (u := 1) (w := 0) rfl rfl rfl ?_
          refine z_eq (i := 126) (v := 129) rfl ⟨by omega, by omega⟩ (fun h590 => ?_) (fun h591 => ?_)
          · refine r_load (i := 129) (u := 4) (w := 0) rfl rfl rfl ?_
            refine s_int (i := 130) rfl ly49 rfl (by omega) (by omega) ⟨by omega, by omega⟩ ?_
            have hI593 := hI577.seta49 (j := (S576.f 43 1).toNat) (z := up) (by omega) (by omega) (by omega)
            have hF595 := hF579.seta (b := 49) (j := (S576.f 43 1).toNat) (z := up) rfl
            have hR596 := hR580.seta (b := 49) (j := (S576.f 43 1).toNat) (z := up)
            refine yT_gen (fun S592 hS594 => ?_)
            rw [hS594] at hI593 hF595 hR596 
            refine r_load (i := 131) (u := 0) (w := 2) rfl rfl rfl ?_
            refine r_dup (i := 132) rfl rfl ?_
            have h597 := hI593.f tf43_1
            have h598 : S592.f 43 1 = S576.f 43 1 := by rw [← hS594]; rfl
            have h599 : S576.f 43 1 = S563.f 43 1 := by rw [← hS578]; rfl
            have h600 : S563.f 43 1 = S456.f 43 1 := by rw [← hS565]; rfl
            have h601 : S456.f 43 1 = S441.f 43 1 := by rw [← hS458]; rfl
            have h602 : S441.f 43 1 = S16.f 43 1 := by rw [← hS443]; rfl
            have h603 : S16.f 43 1 = S2.f 43 1 := by rw [← hS18]; rfl
            have h604 : S2.f 43 1 = S.f 43 1 := by rw [← hS4]; exact ysf_ne (by decide)
            refine r_getf (i := 133) (v := 1) (w := 11) (x := vi (S592.f 43 1)) rfl ly43 rfl rfl fun h605 => ?_
            have h605 : Rg (S592.f 43 1) := h605
            refine r_const (i := 134) (u := 1) (z := 1) rfl rfl ?_
            refine r_iadd (i := 135) rfl ?_
            refine r_putI (i := 136) (v := 1) (w := 11) rfl ly43 rfl ⟨by omega, by omega⟩ ?_
            have hI607 := hI593.setf (b := 43) (w := 1) (z := (S592.f 43 1) + 1) tf43_1 rfl (by omega) (by omega)
            have hF609 := hF595.setf (b := 43) (w := 1) (z := (S592.f 43 1) + 1) rfl
            have hR610 := hR596.setf (b := 43) (w := 1) (z := (S592.f 43 1) + 1)
            refine yT_gen (fun S606 hS608 => ?_)
            rw [hS608] at hI607 hF609 hR610 
            have h611 := hI607.f tf43_0
            have h612 : S606.f 43 0 = S592.f 43 0 := by rw [← hS608]; exact ysf_ne (by decide)
            have h613 : S592.f 43 0 = S576.f 43 0 := by rw [← hS594]; rfl
            have h614 : S576.f 43 0 = S563.f 43 0 := by rw [← hS578]; rfl
            have h615 : S563.f 43 0 = S456.f 43 0 := by rw [← hS565]; rfl
            have h616 : S456.f 43 0 = S441.f 43 0 := by rw [← hS458]; rfl
            have h617 : S441.f 43 0 = S16.f 43 0 := by rw [← hS443]; rfl
            have h618 : S16.f 43 0 = S2.f 43 0 := by rw [← hS18]; rfl
            have h619 : S2.f 43 0 = c0 := by rw [← hS4]; exact ysf_eq
            have h620 := hI607.f tf43_1
            have h621 : S606.f 43 1 = (S592.f 43 1) + 1 := by rw [← hS608]; exact ysf_eq
            refine r_load (i := 137) (u := 0) (w := 2) rfl rfl rfl ?_
            refine r_getf (i := 138) (v := 1) (w := 11) (x := vi (S606.f 43 1)) rfl ly43 rfl rfl fun h622 => ?_
            have h622 : Rg (S606.f 43 1) := h622
            refine r_const (i := 139) (u := 1) (z := 1) rfl rfl ?_
            refine r_isub (i := 140) rfl ?_
            exact r_retI (i := 141) rfl ⟨(S606.f 43 1) - 1, rfl, by omega, by omega, (by rw [← q_3]; exact Or.inl ⟨by omega, by unfold tyM; omega, by omega, by omega, 1, 0, 1, up, ⟨by omega, by omega, by omega, by omega, by omega⟩, by subst hS4 hS18 hS443 hS458 hS565 hS578 hS594 hS608; rfl, fun j => by subst hS4 hS18 hS443 hS458 hS565 hS578 hS594 hS608; rfl, fun j => by subst hS4 hS18 hS443 hS458 hS565 hS578 hS594 hS608; rfl, fun j => by subst hS4 hS18 hS443 hS458 hS565 hS578 hS594 hS608; rfl, fun j => by subst hS4 hS18 hS443 hS458 hS565 hS578 hS594 hS608; rfl, fun j => by subst hS4 hS18 hS443 hS458 hS565 hS578 hS594 hS608; rfl, fun j => by subst hS4 hS18 hS443 hS458 hS565 hS578 hS594 hS608; rfl⟩), hI607, hF609, hR610⟩
          · refine r_const (i := 127) (u := 4294967295) (z := -1) rfl rfl ?_
            refine r_goto (i := 128) (v := 130) rfl ?_
            refine s_int (i := 130) rfl ly49 rfl (by omega) (by omega) ⟨by omega, by omega⟩ ?_
            have hI624 := hI577.seta49 (j := (S576.f 43 1).toNat) (z := -1) (by omega) (by omega) (by omega)
            have hF626 := hF579.seta (b := 49) (j := (S576.f 43 1).toNat) (z := -1) rfl
            have hR627 := hR580.seta (b := 49) (j := (S576.f 43 1).toNat) (z := -1)
            refine yT_gen (fun S623 hS625 => ?_)
            rw [hS625] at hI624 hF626 hR627 
            refine r_load (i := 131) (u := 0) (w := 2) rfl rfl rfl ?_
            refine r_dup (i := 132) rfl rfl ?_
            have h628 := hI624.f tf43_1
            have h629 : S623.f 43 1 = S576.f 43 1 := by rw [← hS625]; rfl
            have h630 : S576.f 43 1 = S563.f 43 1 := by rw [← hS578]; rfl
            have h631 : S563.f 43 1 = S456.f 43 1 := by rw [← hS565]; rfl
            have h632 : S456.f 43 1 = S441.f 43 1 := by rw [← hS458]; rfl
            have h633 : S441.f 43 1 = S16.f 43 1 := by rw [← hS443]; rfl
            have h634 : S16.f 43 1 = S2.f 43 1 := by rw [← hS18]; rfl
            have h635 : S2.f 43 1 = S.f 43 1 := by rw [← hS4]; exact ysf_ne (by decide)
            refine r_getf (i := 133) (v := 1) (w := 11) (x := vi (S623.f 43 1)) rfl ly43 rfl rfl fun h636 => ?_
            have h636 : Rg (S623.f 43 1) := h636
            refine r_const (i := 134) (u := 1) (z := 1) rfl rfl ?_
            refine r_iadd (i := 135) rfl ?_
            refine r_putI (i := 136) (v := 1) (w := 11) rfl ly43 rfl ⟨by omega, by omega⟩ ?_
            have hI638 := hI624.setf (b := 43) (w := 1) (z := (S623.f 43 1) + 1) tf43_1 rfl (by omega) (by omega)
            have hF640 := hF626.setf (b := 43) (w := 1) (z := (S623.f 43 1) + 1) rfl
            have hR641 := hR627.setf (b := 43) (w := 1) (z := (S623.f 43 1) + 1)
            refine yT_gen (fun S637 hS639 => ?_)
            rw [hS639] at hI638 hF640 hR641 
            have h642 := hI638.f tf43_0
            have h643 : S637.f 43 0 = S623.f 43 0 := by rw [← hS639]; exact ysf_ne (by decide)
            have h644 : S623.f 43 0 = S576.f 43 0 := by rw [← hS625]; rfl
            have h645 : S576.f 43 0 = S563.f 43 0 := by rw [← hS578]; rfl
            have h646 : S563.f 43 0 = S456.f 43 0 := by rw [← hS565]; rfl
            have h647 : S456.f 43 0 = S441.f 43 0 := by rw [← hS458]; rfl
            have h648 : S441.f 43 0 = S16.f 43 0 := by rw [← hS443]; rfl
            have h649 : S16.f 43 0 = S2.f 43 0 := by rw [← hS18]; rfl
            have h650 : S2.f 43 0 = c0 := by rw [← hS4]; exact ysf_eq
            have h651 := hI638.f tf43_1
            have h652 : S637.f 43 1 = (S623.f 43 1) + 1 := by rw [← hS639]; exact ysf_eq
            refine r_load (i := 137) (u := 0) (w := 2) rfl rfl rfl ?_
            refine r_getf (i := 138) (v := 1) (w := 11) (x := vi (S637.f 43 1)) rfl ly43 rfl rfl fun h653 => ?_
            have h653 : Rg (S637.f 43 1) := h653
            refine r_const (i := 139) (u := 1) (z := 1) rfl rfl ?_
            refine r_isub (i := 140) rfl ?_
            exact r_retI (i := 141) rfl ⟨(S637.f 43 1) - 1, rfl, by omega, by omega, (by rw [← q_3]; exact Or.inl ⟨by omega, by unfold tyM; omega, by omega, by omega, 1, 0, 1, -1, ⟨by omega, by omega, by omega, by omega, by omega⟩, by subst hS4 hS18 hS443 hS458 hS565 hS578 hS625 hS639; rfl, fun j => by subst hS4 hS18 hS443 hS458 hS565 hS578 hS625 hS639; rfl, fun j => by subst hS4 hS18 hS443 hS458 hS565 hS578 hS625 hS639; rfl, fun j => by subst hS4 hS18 hS443 hS458 hS565 hS578 hS625 hS639; rfl, fun j => by subst hS4 hS18 hS443 hS458 hS565 hS578 hS625 hS639; rfl, fun j => by subst hS4 hS18 hS443 hS458 hS565 hS578 hS625 hS639; rfl, fun j => by subst hS4 hS18 hS443 hS458 hS565 hS578 hS625 hS639; rfl⟩), hI638, hF640, hR641⟩
      · refine r_const (i := 98) (u := 1) (z := 1) rfl rfl ?_
        refine r_goto (i := 99) (v := 101) rfl ?_
        refine s_bool (i := 101) rfl ly46 rfl (by omega) (by omega) (by omega) (by omega) ?_
        have hI655 := hI442.seta0 (b := 46) (j := (S441.f 43 1).toNat) (z := 1) rfl rfl
        have hF657 := hF444.seta (b := 46) (j := (S441.f 43 1).toNat) (z := 1) rfl
        have hR658 := hR445.seta (b := 46) (j := (S441.f 43 1).toNat) (z := 1)
        refine yT_gen (fun S654 hS656 => ?_)
        rw [hS656] at hI655 hF657 hR658 
        refine r_load (i := 102) (u := 0) (w := 2) rfl rfl rfl ?_
        refine r_getf (i := 103) (v := 5) (w := 11) (x := (2, 47)) rfl ly43 rfl rfl fun _ => ?_
        refine r_load (i := 104) (u := 0) (w := 2) rfl rfl rfl ?_
        have h660 := hI655.f tf43_1
        have h661 : S654.f 43 1 = S441.f 43 1 := by rw [← hS656]; rfl
        have h662 : S441.f 43 1 = S16.f 43 1 := by rw [← hS443]; rfl
        have h663 : S16.f 43 1 = S2.f 43 1 := by rw [← hS18]; rfl
        have h664 : S2.f 43 1 = S.f 43 1 := by rw [← hS4]; exact ysf_ne (by decide)
        refine r_getf (i := 105) (v := 1) (w := 11) (x := vi (S654.f 43 1)) rfl ly43 rfl rfl fun h665 => ?_
        have h665 : Rg (S654.f 43 1) := h665
        refine r_load (i := 106) (u := 2) (w := 0) rfl rfl rfl ?_
        refine r_const (i := 107) (u := 4) (z := 4) rfl rfl ?_
        refine r_iand (i := 108) rfl ?_
        have h666 := @yand_c bits 4 (by decide) (by decide)
        have h667 := yand_p4 bits
        refine r_const (i := 109) (u := 4) (z := 4) rfl rfl ?_
        refine c_ne (i := 110) (v := 113) rfl ⟨by omega, by omega⟩ ⟨by omega, by omega⟩ (fun h668 => ?_) (fun h669 => ?_)
        · refine r_const (i := 113) (u := 0) (z := 0) rfl rfl ?_
          refine s_bool (i := 114) rfl ly47 rfl (by omega) (by omega) (by omega) (by omega) ?_
          have hI671 := hI655.seta0 (b := 47) (j := (S654.f 43 1).toNat) (z := 0) rfl rfl
          have hF673 := hF657.seta (b := 47) (j := (S654.f 43 1).toNat) (z := 0) rfl
          have hR674 := hR658.seta (b := 47) (j := (S654.f 43 1).toNat) (z := 0)
          refine yT_gen (fun S670 hS672 => ?_)
          rw [hS672] at hI671 hF673 hR674 
          refine r_load (i := 115) (u := 0) (w := 2) rfl rfl rfl ?_
          refine r_getf (i := 116) (v := 6) (w := 11) (x := (2, 48)) rfl ly43 rfl rfl fun _ => ?_
          refine r_load (i := 117) (u := 0) (w := 2) rfl rfl rfl ?_
          have h676 := hI671.f tf43_1
          have h677 : S670.f 43 1 = S654.f 43 1 := by rw [← hS672]; rfl
          have h678 : S654.f 43 1 = S441.f 43 1 := by rw [← hS656]; rfl
          have h679 : S441.f 43 1 = S16.f 43 1 := by rw [← hS443]; rfl
          have h680 : S16.f 43 1 = S2.f 43 1 := by rw [← hS18]; rfl
          have h681 : S2.f 43 1 = S.f 43 1 := by rw [← hS4]; exact ysf_ne (by decide)
          refine r_getf (i := 118) (v := 1) (w := 11) (x := vi (S670.f 43 1)) rfl ly43 rfl rfl fun h682 => ?_
          have h682 : Rg (S670.f 43 1) := h682
          refine r_load (i := 119) (u := 3) (w := 0) rfl rfl rfl ?_
          refine s_int (i := 120) rfl ly48 rfl (by omega) (by omega) ⟨by omega, by omega⟩ ?_
          have hI684 := hI671.seta (b := 48) (j := (S670.f 43 1).toNat) (z := p) ta48 rfl (by omega) (by omega)
          have hF686 := hF673.seta (b := 48) (j := (S670.f 43 1).toNat) (z := p) rfl
          have hR687 := hR674.seta (b := 48) (j := (S670.f 43 1).toNat) (z := p)
          refine yT_gen (fun S683 hS685 => ?_)
          rw [hS685] at hI684 hF686 hR687 
          refine r_load (i := 121) (u := 0) (w := 2) rfl rfl rfl ?_
          refine r_getf (i := 122) (v := 7) (w := 11) (x := (2, 49)) rfl ly43 rfl rfl fun _ => ?_
          refine r_load (i := 123) (u := 0) (w := 2) rfl rfl rfl ?_
          have h689 := hI684.f tf43_1
          have h690 : S683.f 43 1 = S670.f 43 1 := by rw [← hS685]; rfl
          have h691 : S670.f 43 1 = S654.f 43 1 := by rw [← hS672]; rfl
          have h692 : S654.f 43 1 = S441.f 43 1 := by rw [← hS656]; rfl
          have h693 : S441.f 43 1 = S16.f 43 1 := by rw [← hS443]; rfl
          have h694 : S16.f 43 1 = S2.f 43 1 := by rw [← hS18]; rfl
          have h695 : S2.f 43 1 = S.f 43 1 := by rw [← hS4]; exact ysf_ne (by decide)
          refine r_getf (i := 124) (v := 1) (w := 11) (x := vi (S683.f 43 1)) rfl ly43 rfl rfl fun h696 => ?_
          have h696 : Rg (S683.f 43 1) := h696
          refine r_load (i := 125) (u := 1) (w := 0) rfl rfl rfl ?_
          refine z_eq (i := 126) (v := 129) rfl ⟨by omega, by omega⟩ (fun h697 => ?_) (fun h698 => ?_)
          · refine r_load (i := 129) (u := 4) (w := 0) rfl rfl rfl ?_
            refine s_int (i := 130) rfl ly49 rfl (by omega) (by omega) ⟨by omega, by omega⟩ ?_
            have hI700 := hI684.seta49 (j := (S683.f 43 1).toNat) (z := up) (by omega) (by omega) (by omega)
            have hF702 := hF686.seta (b := 49) (j := (S683.f 43 1).toNat) (z := up) rfl
            have hR703 := hR687.seta (b := 49) (j := (S683.f 43 1).toNat) (z := up)
            refine yT_gen (fun S699 hS701 => ?_)
            rw [hS701] at hI700 hF702 hR703 
            refine r_load (i := 131) (u := 0) (w := 2) rfl rfl rfl ?_
            refine r_dup (i := 132) rfl rfl ?_
            have h704 := hI700.f tf43_1
            have h705 : S699.f 43 1 = S683.f 43 1 := by rw [← hS701]; rfl
            have h706 : S683.f 43 1 = S670.f 43 1 := by rw [← hS685]; rfl
            have h707 : S670.f 43 1 = S654.f 43 1 := by rw [← hS672]; rfl
            have h708 : S654.f 43 1 = S441.f 43 1 := by rw [← hS656]; rfl
            have h709 : S441.f 43 1 = S16.f 43 1 := by rw [← hS443]; rfl
            have h710 : S16.f 43 1 = S2.f 43 1 := by rw [← hS18]; rfl
            have h711 : S2.f 43 1 = S.f 43 1 := by rw [← hS4]; exact ysf_ne (by decide)
            refine r_getf (i := 133) (v := 1) (w := 11) (x := vi (S699.f 43 1)) rfl ly43 rfl rfl fun h712 => ?_
            have h712 : Rg (S699.f 43 1) := h712
            refine r_const (i := 134) (u := 1) (z := 1) rfl rfl ?_
            refine r_iadd (i := 135) rfl ?_
            refine r_putI (i := 136) (v := 1) (w := 11) rfl ly43 rfl ⟨by omega, by omega⟩ ?_
            have hI714 := hI700.setf (b := 43) (w := 1) (z := (S699.f 43 1) + 1) tf43_1 rfl (by omega) (by omega)
            have hF716 := hF702.setf (b := 43) (w := 1) (z := (S699.f 43 1) + 1) rfl
            have hR717 := hR703.setf (b := 43) (w := 1) (z := (S699.f 43 1) + 1)
            refine yT_gen (fun S713 hS715 => ?_)
            rw [hS715] at hI714 hF716 hR717 
            have h718 := hI714.f tf43_0
            have h719 : S713.f 43 0 = S699.f 43 0 := by rw [← hS715]; exact ysf_ne (by decide)
            have h720 : S699.f 43 0 = S683.f 43 0 := by rw [← hS701]; rfl
            have h721 : S683.f 43 0 = S670.f 43 0 := by rw [← hS685]; rfl
            have h722 : S670.f 43 0 = S654.f 43 0 := by rw [← hS672]; rfl
            have h723 : S654.f 43 0 = S441.f 43 0 := by rw [← hS656]; rfl
            have h724 : S441.f 43 0 = S16.f 43 0 := by rw [← hS443]; rfl
            have h725 : S16.f 43 0 = S2.f 43 0 := by rw [← hS18]; rfl
            have h726 : S2.f 43 0 = c0 := by rw [← hS4]; exact ysf_eq
            have h727 := hI714.f tf43_1
            have h728 : S713.f 43 1 = (S699.f 43 1) + 1 := by rw [← hS715]; exact ysf_eq
            refine r_load (i := 137) (u := 0) (w := 2) rfl rfl rfl ?_
            refine r_getf (i := 138) (v := 1) (w := 11) (x := vi (S713.f 43 1)) rfl ly43 rfl rfl fun h729 => ?_
            have h729 : Rg (S713.f 43 1) := h729
            refine r_const (i := 139) (u := 1) (z := 1) rfl rfl ?_
            refine r_isub (i := 140) rfl ?_
            exact r_retI (i := 141) rfl ⟨(S713.f 43 1) - 1, rfl, by omega, by omega, (by rw [← q_3]; exact Or.inl ⟨by omega, by unfold tyM; omega, by omega, by omega, 1, 1, 0, up, ⟨by omega, by omega, by omega, by omega, by omega⟩, by subst hS4 hS18 hS443 hS656 hS672 hS685 hS701 hS715; rfl, fun j => by subst hS4 hS18 hS443 hS656 hS672 hS685 hS701 hS715; rfl, fun j => by subst hS4 hS18 hS443 hS656 hS672 hS685 hS701 hS715; rfl, fun j => by subst hS4 hS18 hS443 hS656 hS672 hS685 hS701 hS715; rfl, fun j => by subst hS4 hS18 hS443 hS656 hS672 hS685 hS701 hS715; rfl, fun j => by subst hS4 hS18 hS443 hS656 hS672 hS685 hS701 hS715; rfl, fun j => by subst hS4 hS18 hS443 hS656 hS672 hS685 hS701 hS715; rfl⟩), hI714, hF716, hR717⟩
          · refine r_const (i := 127) (u := 4294967295) (z := -1) rfl rfl ?_
            refine r_goto (i := 128) (v := 130) rfl ?_
            refine s_int (i := 130) rfl ly49 rfl (by omega) (by omega) ⟨by omega, by omega⟩ ?_
            have hI731 := hI684.seta49 (j := (S683.f 43 1).toNat) (z := -1) (by omega) (by omega) (by omega)
            have hF733 := hF686.seta (b := 49) (j := (S683.f 43 1).toNat) (z := -1) rfl
            have hR734 := hR687.seta (b := 49) (j := (S683.f 43 1).toNat) (z := -1)
            refine yT_gen (fun S730 hS732 => ?_)
            rw [hS732] at hI731 hF733 hR734 
            refine r_load (i := 131) (u := 0) (w := 2) rfl rfl rfl ?_
            refine r_dup (i := 132) rfl rfl ?_
            have h735 := hI731.f tf43_1
            have h736 : S730.f 43 1 = S683.f 43 1 := by rw [← hS732]; rfl
            have h737 : S683.f 43 1 = S670.f 43 1 := by rw [← hS685]; rfl
            have h738 : S670.f 43 1 = S654.f 43 1 := by rw [← hS672]; rfl
            have h739 : S654.f 43 1 = S441.f 43 1 := by rw [← hS656]; rfl
            have h740 : S441.f 43 1 = S16.f 43 1 := by rw [← hS443]; rfl
            have h741 : S16.f 43 1 = S2.f 43 1 := by rw [← hS18]; rfl
            have h742 : S2.f 43 1 = S.f 43 1 := by rw [← hS4]; exact ysf_ne (by decide)
            refine r_getf (i := 133) (v := 1) (w := 11) (x := vi (S730.f 43 1)) rfl ly43 rfl rfl fun h743 => ?_
            have h743 : Rg (S730.f 43 1) := h743
            refine r_const (i := 134) (u := 1) (z := 1) rfl rfl ?_
            refine r_iadd (i := 135) rfl ?_
            refine r_putI (i := 136) (v := 1) (w := 11) rfl ly43 rfl ⟨by omega, by omega⟩ ?_
            have hI745 := hI731.setf (b := 43) (w := 1) (z := (S730.f 43 1) + 1) tf43_1 rfl (by omega) (by omega)
            have hF747 := hF733.setf (b := 43) (w := 1) (z := (S730.f 43 1) + 1) rfl
            have hR748 := hR734.setf (b := 43) (w := 1) (z := (S730.f 43 1) + 1)
            refine yT_gen (fun S744 hS746 => ?_)
            rw [hS746] at hI745 hF747 hR748 
            have h749 := hI745.f tf43_0
            have h750 : S744.f 43 0 = S730.f 43 0 := by rw [← hS746]; exact ysf_ne (by decide)
            have h751 : S730.f 43 0 = S683.f 43 0 := by rw [← hS732]; rfl
            have h752 : S683.f 43 0 = S670.f 43 0 := by rw [← hS685]; rfl
            have h753 : S670.f 43 0 = S654.f 43 0 := by rw [← hS672]; rfl
            have h754 : S654.f 43 0 = S441.f 43 0 := by rw [← hS656]; rfl
            have h755 : S441.f 43 0 = S16.f 43 0 := by rw [← hS443]; rfl
            have h756 : S16.f 43 0 = S2.f 43 0 := by rw [← hS18]; rfl
            have h757 : S2.f 43 0 = c0 := by rw [← hS4]; exact ysf_eq
            have h758 := hI745.f tf43_1
            have h759 : S744.f 43 1 = (S730.f 43 1) + 1 := by rw [← hS746]; exact ysf_eq
            refine r_load (i := 137) (u := 0) (w := 2) rfl rfl rfl ?_
            refine r_getf (i := 138) (v := 1) (w := 11) (x := vi (S744.f 43 1)) rfl ly43 rfl rfl fun h760 => ?_
            have h760 : Rg (S744.f 43 1) := h760
            refine r_const (i := 139) (u := 1) (z := 1) rfl rfl ?_
            refine r_isub (i := 140) rfl ?_
            exact r_retI (i := 141) rfl ⟨(S744.f 43 1) - 1, rfl, by omega, by omega, (by rw [← q_3]; exact Or.inl ⟨by omega, by unfold tyM; omega, by omega, by omega, 1, 1, 0, -1, ⟨by omega, by omega, by omega, by omega, by omega⟩, by subst hS4 hS18 hS443 hS656 hS672 hS685 hS732 hS746; rfl, fun j => by subst hS4 hS18 hS443 hS656 hS672 hS685 hS732 hS746; rfl, fun j => by subst hS4 hS18 hS443 hS656 hS672 hS685 hS732 hS746; rfl, fun j => by subst hS4 hS18 hS443 hS656 hS672 hS685 hS732 hS746; rfl, fun j => by subst hS4 hS18 hS443 hS656 hS672 hS685 hS732 hS746; rfl, fun j => by subst hS4 hS18 hS443 hS656 hS672 hS685 hS732 hS746; rfl, fun j => by subst hS4 hS18 hS443 hS656 hS672 hS685 hS732 hS746; rfl⟩), hI745, hF747, hR748⟩
        · refine r_const (i := 111) (u := 1) (z := 1) rfl rfl ?_
          refine r_goto (i := 112) (v := 114) rfl ?_
          refine s_bool (i := 114) rfl ly47 rfl (by omega) (by omega) (by omega) (by omega) ?_
          have hI762 := hI655.seta0 (b := 47) (j := (S654.f 43 1).toNat) (z := 1) rfl rfl
          have hF764 := hF657.seta (b := 47) (j := (S654.f 43 1).toNat) (z := 1) rfl
          have hR765 := hR658.seta (b := 47) (j := (S654.f 43 1).toNat) (z := 1)
          refine yT_gen (fun S761 hS763 => ?_)
          rw [hS763] at hI762 hF764 hR765 
          refine r_load (i := 115) (u := 0) (w := 2) rfl rfl rfl ?_
          refine r_getf (i := 116) (v := 6) (w := 11) (x := (2, 48)) rfl ly43 rfl rfl fun _ => ?_
          refine r_load (i := 117) (u := 0) (w := 2) rfl rfl rfl ?_
          have h767 := hI762.f tf43_1
          have h768 : S761.f 43 1 = S654.f 43 1 := by rw [← hS763]; rfl
          have h769 : S654.f 43 1 = S441.f 43 1 := by rw [← hS656]; rfl
          have h770 : S441.f 43 1 = S16.f 43 1 := by rw [← hS443]; rfl
          have h771 : S16.f 43 1 = S2.f 43 1 := by rw [← hS18]; rfl
          have h772 : S2.f 43 1 = S.f 43 1 := by rw [← hS4]; exact ysf_ne (by decide)
          refine r_getf (i := 118) (v := 1) (w := 11) (x := vi (S761.f 43 1)) rfl ly43 rfl rfl fun h773 => ?_
          have h773 : Rg (S761.f 43 1) := h773
          refine r_load (i := 119) (u := 3) (w := 0) rfl rfl rfl ?_
          refine s_int (i := 120) rfl ly48 rfl (by omega) (by omega) ⟨by omega, by omega⟩ ?_
          have hI775 := hI762.seta (b := 48) (j := (S761.f 43 1).toNat) (z := p) ta48 rfl (by omega) (by omega)
          have hF777 := hF764.seta (b := 48) (j := (S761.f 43 1).toNat) (z := p) rfl
          have hR778 := hR765.seta (b := 48) (j := (S761.f 43 1).toNat) (z := p)
          refine yT_gen (fun S774 hS776 => ?_)
          rw [hS776] at hI775 hF777 hR778 
          refine r_load (i := 121) (u := 0) (w := 2) rfl rfl rfl ?_
          refine r_getf (i := 122) (v := 7) (w := 11) (x := (2, 49)) rfl ly43 rfl rfl fun _ => ?_
          refine r_load (i := 123) (u := 0) (w := 2) rfl rfl rfl ?_
          have h780 := hI775.f tf43_1
          have h781 : S774.f 43 1 = S761.f 43 1 := by rw [← hS776]; rfl
          have h782 : S761.f 43 1 = S654.f 43 1 := by rw [← hS763]; rfl
          have h783 : S654.f 43 1 = S441.f 43 1 := by rw [← hS656]; rfl
          have h784 : S441.f 43 1 = S16.f 43 1 := by rw [← hS443]; rfl
          have h785 : S16.f 43 1 = S2.f 43 1 := by rw [← hS18]; rfl
          have h786 : S2.f 43 1 = S.f 43 1 := by rw [← hS4]; exact ysf_ne (by decide)
          refine r_getf (i := 124) (v := 1) (w := 11) (x := vi (S774.f 43 1)) rfl ly43 rfl rfl fun h787 => ?_
          have h787 : Rg (S774.f 43 1) := h787
          refine r_load (i := 125) (u := 1) (w := 0) rfl rfl rfl ?_
          refine z_eq (i := 126) (v := 129) rfl ⟨by omega, by omega⟩ (fun h788 => ?_) (fun h789 => ?_)
          · refine r_load (i := 129) (u := 4) (w := 0) rfl rfl rfl ?_
            refine s_int (i := 130) rfl ly49 rfl (by omega) (by omega) ⟨by omega, by omega⟩ ?_
            have hI791 := hI775.seta49 (j := (S774.f 43 1).toNat) (z := up) (by omega) (by omega) (by omega)
            have hF793 := hF777.seta (b := 49) (j := (S774.f 43 1).toNat) (z := up) rfl
            have hR794 := hR778.seta (b := 49) (j := (S774.f 43 1).toNat) (z := up)
            refine yT_gen (fun S790 hS792 => ?_)
            rw [hS792] at hI791 hF793 hR794 
            refine r_load (i := 131) (u := 0) (w := 2) rfl rfl rfl ?_
            refine r_dup (i := 132) rfl rfl ?_
            have h795 := hI791.f tf43_1
            have h796 : S790.f 43 1 = S774.f 43 1 := by rw [← hS792]; rfl
            have h797 : S774.f 43 1 = S761.f 43 1 := by rw [← hS776]; rfl
            have h798 : S761.f 43 1 = S654.f 43 1 := by rw [← hS763]; rfl
            have h799 : S654.f 43 1 = S441.f 43 1 := by rw [← hS656]; rfl
            have h800 : S441.f 43 1 = S16.f 43 1 := by rw [← hS443]; rfl
            have h801 : S16.f 43 1 = S2.f 43 1 := by rw [← hS18]; rfl
            have h802 : S2.f 43 1 = S.f 43 1 := by rw [← hS4]; exact ysf_ne (by decide)
            refine r_getf (i := 133) (v := 1) (w := 11) (x := vi (S790.f 43 1)) rfl ly43 rfl rfl fun h803 => ?_
            have h803 : Rg (S790.f 43 1) := h803
            refine r_const (i := 134) (u := 1) (z := 1) rfl rfl ?_
            refine r_iadd (i := 135) rfl ?_
            refine r_putI (i := 136) (v := 1) (w := 11) rfl ly43 rfl ⟨by omega, by omega⟩ ?_
            have hI805 := hI791.setf (b := 43) (w := 1) (z := (S790.f 43 1) + 1) tf43_1 rfl (by omega) (by omega)
            have hF807 := hF793.setf (b := 43) (w := 1) (z := (S790.f 43 1) + 1) rfl
            have hR808 := hR794.setf (b := 43) (w := 1) (z := (S790.f 43 1) + 1)
            refine yT_gen (fun S804 hS806 => ?_)
            rw [hS806] at hI805 hF807 hR808 
            have h809 := hI805.f tf43_0
            have h810 : S804.f 43 0 = S790.f 43 0 := by rw [← hS806]; exact ysf_ne (by decide)
            have h811 : S790.f 43 0 = S774.f 43 0 := by rw [← hS792]; rfl
            have h812 : S774.f 43 0 = S761.f 43 0 := by rw [← hS776]; rfl
            have h813 : S761.f 43 0 = S654.f 43 0 := by rw [← hS763]; rfl
            have h814 : S654.f 43 0 = S441.f 43 0 := by rw [← hS656]; rfl
            have h815 : S441.f 43 0 = S16.f 43 0 := by rw [← hS443]; rfl
            have h816 : S16.f 43 0 = S2.f 43 0 := by rw [← hS18]; rfl
            have h817 : S2.f 43 0 = c0 := by rw [← hS4]; exact ysf_eq
            have h818 := hI805.f tf43_1
            have h819 : S804.f 43 1 = (S790.f 43 1) + 1 := by rw [← hS806]; exact ysf_eq
            refine r_load (i := 137) (u := 0) (w := 2) rfl rfl rfl ?_
            refine r_getf (i := 138) (v := 1) (w := 11) (x := vi (S804.f 43 1)) rfl ly43 rfl rfl fun h820 => ?_
            have h820 : Rg (S804.f 43 1) := h820
            refine r_const (i := 139) (u := 1) (z := 1) rfl rfl ?_
            refine r_isub (i := 140) rfl ?_
            exact r_retI (i := 141) rfl ⟨(S804.f 43 1) - 1, rfl, by omega, by omega, (by rw [← q_3]; exact Or.inl ⟨by omega, by unfold tyM; omega, by omega, by omega, 1, 1, 1, up, ⟨by omega, by omega, by omega, by omega, by omega⟩, by subst hS4 hS18 hS443 hS656 hS763 hS776 hS792 hS806; rfl, fun j => by subst hS4 hS18 hS443 hS656 hS763 hS776 hS792 hS806; rfl, fun j => by subst hS4 hS18 hS443 hS656 hS763 hS776 hS792 hS806; rfl, fun j => by subst hS4 hS18 hS443 hS656 hS763 hS776 hS792 hS806; rfl, fun j => by subst hS4 hS18 hS443 hS656 hS763 hS776 hS792 hS806; rfl, fun j => by subst hS4 hS18 hS443 hS656 hS763 hS776 hS792 hS806; rfl, fun j => by subst hS4 hS18 hS443 hS656 hS763 hS776 hS792 hS806; rfl⟩), hI805, hF807, hR808⟩
          · refine r_const (i := 127) (u := 4294967295) (z := -1) rfl rfl ?_
            refine r_goto (i := 128) (v := 130) rfl ?_
            refine s_int (i := 130) rfl ly49 rfl (by omega) (by omega) ⟨by omega, by omega⟩ ?_
            have hI822 := hI775.seta49 (j := (S774.f 43 1).toNat) (z := -1) (by omega) (by omega) (by omega)
            have hF824 := hF777.seta (b := 49) (j := (S774.f 43 1).toNat) (z := -1) rfl
            have hR825 := hR778.seta (b := 49) (j := (S774.f 43 1).toNat) (z := -1)
            refine yT_gen (fun S821 hS823 => ?_)
            rw [hS823] at hI822 hF824 hR825 
            refine r_load (i := 131) (u := 0) (w := 2) rfl rfl rfl ?_
            refine r_dup (i := 132) rfl rfl ?_
            have h826 := hI822.f tf43_1
            have h827 : S821.f 43 1 = S774.f 43 1 := by rw [← hS823]; rfl
            have h828 : S774.f 43 1 = S761.f 43 1 := by rw [← hS776]; rfl
            have h829 : S761.f 43 1 = S654.f 43 1 := by rw [← hS763]; rfl
            have h830 : S654.f 43 1 = S441.f 43 1 := by rw [← hS656]; rfl
            have h831 : S441.f 43 1 = S16.f 43 1 := by rw [← hS443]; rfl
            have h832 : S16.f 43 1 = S2.f 43 1 := by rw [← hS18]; rfl
            have h833 : S2.f 43 1 = S.f 43 1 := by rw [← hS4]; exact ysf_ne (by decide)
            refine r_getf (i := 133) (v := 1) (w := 11) (x := vi (S821.f 43 1)) rfl ly43 rfl rfl fun h834 => ?_
            have h834 : Rg (S821.f 43 1) := h834
            refine r_const (i := 134) (u := 1) (z := 1) rfl rfl ?_
            refine r_iadd (i := 135) rfl ?_
            refine r_putI (i := 136) (v := 1) (w := 11) rfl ly43 rfl ⟨by omega, by omega⟩ ?_
            have hI836 := hI822.setf (b := 43) (w := 1) (z := (S821.f 43 1) + 1) tf43_1 rfl (by omega) (by omega)
            have hF838 := hF824.setf (b := 43) (w := 1) (z := (S821.f 43 1) + 1) rfl
            have hR839 := hR825.setf (b := 43) (w := 1) (z := (S821.f 43 1) + 1)
            refine yT_gen (fun S835 hS837 => ?_)
            rw [hS837] at hI836 hF838 hR839 
            have h840 := hI836.f tf43_0
            have h841 : S835.f 43 0 = S821.f 43 0 := by rw [← hS837]; exact ysf_ne (by decide)
            have h842 : S821.f 43 0 = S774.f 43 0 := by rw [← hS823]; rfl
            have h843 : S774.f 43 0 = S761.f 43 0 := by rw [← hS776]; rfl
            have h844 : S761.f 43 0 = S654.f 43 0 := by rw [← hS763]; rfl
            have h845 : S654.f 43 0 = S441.f 43 0 := by rw [← hS656]; rfl
            have h846 : S441.f 43 0 = S16.f 43 0 := by rw [← hS443]; rfl
            have h847 : S16.f 43 0 = S2.f 43 0 := by rw [← hS18]; rfl
            have h848 : S2.f 43 0 = c0 := by rw [← hS4]; exact ysf_eq
            have h849 := hI836.f tf43_1
            have h850 : S835.f 43 1 = (S821.f 43 1) + 1 := by rw [← hS837]; exact ysf_eq
            refine r_load (i := 137) (u := 0) (w := 2) rfl rfl rfl ?_
            refine r_getf (i := 138) (v := 1) (w := 11) (x := vi (S835.f 43 1)) rfl ly43 rfl rfl fun h851 => ?_
            have h851 : Rg (S835.f 43 1) := h851
            refine r_const (i := 139) (u := 1) (z := 1) rfl rfl ?_
            refine r_isub (i := 140) rfl ?_
            exact r_retI (i := 141) rfl ⟨(S835.f 43 1) - 1, rfl, by omega, by omega, (by rw [← q_3]; exact Or.inl ⟨by omega, by unfold tyM; omega, by omega, by omega, 1, 1, 1, -1, ⟨by omega, by omega, by omega, by omega, by omega⟩, by subst hS4 hS18 hS443 hS656 hS763 hS776 hS823 hS837; rfl, fun j => by subst hS4 hS18 hS443 hS656 hS763 hS776 hS823 hS837; rfl, fun j => by subst hS4 hS18 hS443 hS656 hS763 hS776 hS823 hS837; rfl, fun j => by subst hS4 hS18 hS443 hS656 hS763 hS776 hS823 hS837; rfl, fun j => by subst hS4 hS18 hS443 hS656 hS763 hS776 hS823 hS837; rfl, fun j => by subst hS4 hS18 hS443 hS656 hS763 hS776 hS823 hS837; rfl, fun j => by subst hS4 hS18 hS443 hS656 hS763 hS776 hS823 hS837; rfl⟩), hI836, hF838, hR839⟩
  · have h852 := hI3.f tf43_1
    have h853 : S2.f 43 1 = S.f 43 1 := by rw [← hS4]; exact ysf_ne (by decide)
    refine r_const (i := 68) (u := 0) (z := 0) rfl rfl ?_
    exact r_retI (i := 69) rfl ⟨0, rfl, by omega, by omega, (by rw [← q_3]; rcases (show c0 = 1 ∨ c0 = 2 by omega) with e9 | e9 <;> first | exact Or.inr (Or.inl ⟨by omega, by unfold tyM; omega, by subst hS4; rfl, fun j => by subst hS4; exact ⟨rfl, rfl, rfl, rfl, rfl, rfl⟩⟩) | exact Or.inr (Or.inr ⟨by omega, by unfold tyM; omega, by omega, by subst hS4; rfl, fun j => by subst hS4; exact ⟨rfl, rfl, rfl, rfl, rfl, rfl⟩⟩)), hI3, hF5, hR6⟩
theorem lp258_30 {G : xk} {d : Nat} {S0 : yS} {b : Int} (h_b : 0 ≤ b ∧ b ≤ 1) {bits : Int} (h_bits : -2147483648 ≤ bits ∧ bits ≤ 2147483647) {p : Int} (h_p : -2147483648 ≤ p ∧ p ≤ 2147483647) {up : Int} (h_up : -2147483648 ≤ up ∧ up ≤ 2147483647) (hd : 0 ≤ d) : ∀ (S : yS) (hI : yI S) (hF : yFr [(43, 0), (43, 1)] [44, 45, 46, 47, 48, 49] S0 S) (hR : yRm [] S0 S) (g0 : Int) (h_g0 : 0 ≤ g0 ∧ g0 ≤ 1) (q_0 : g0 = 1 → 0 ≤ bits ∧ bits < 8 ∧ yand bits 6 ≠ 6 ∧ (b ≠ 0 → yand bits 6 = 0) ∧ 0 ≤ p ∧ p < 4 ∧ 0 ≤ up ∧ up < S.f 43 1) (q_1 : g0 = 0 → ¬ (0 ≤ bits ∧ bits < 8 ∧ yand bits 6 ≠ 6 ∧ (b ≠ 0 → yand bits 6 = 0) ∧ 0 ≤ p ∧ p < 4 ∧ 0 ≤ up ∧ up < S.f 43 1)) (q_2 : S = S0), yT xPr G LY xC258 30 [some ((2, 43)), some (vi b), some (vi bits), some (vi p), some (vi up), none] [vi g0] S d (fun r S' => ∃ z : Int, r = (1, vi z) ∧ 0 ≤ z ∧ z ≤ 20 ∧ mTyQ S0 S' b bits p up z ∧ yI S' ∧ yFr [(43, 0), (43, 1)] [44, 45, 46, 47, 48, 49] S0 S' ∧ yRm [] S0 S') := by
  intro S hI hF hR g0 h_g0 q_0 q_1 q_2
  have h1 := hI.f tf43_1
  refine r_store (i := 30) (u := 5) (w := 0) (L1 := [some ((2, 43)), some (vi b), some (vi bits), some (vi p), some (vi up), some (vi g0)]) rfl rfl rfl rfl ?_
  refine r_load (i := 31) (u := 5) (w := 0) rfl rfl rfl ?_
  refine z_eq (i := 32) (v := 50) rfl ⟨by omega, by omega⟩ (fun h2 => ?_) (fun h3 => ?_)
  · refine r_const (i := 50) (u := 0) (z := 0) rfl rfl ?_
    refine r_store (i := 51) (u := 5) (w := 0) (L1 := [some ((2, 43)), some (vi b), some (vi bits), some (vi p), some (vi up), some (vi 0)]) rfl rfl rfl rfl ?_
    refine r_load (i := 52) (u := 0) (w := 2) rfl rfl rfl ?_
    refine r_load (i := 53) (u := 5) (w := 0) rfl rfl rfl ?_
    refine z_ne (i := 54) (v := 57) rfl ⟨by omega, by omega⟩ (fun h4 => absurd h4 (by omega)) (fun h5 => ?_)
    refine r_const (i := 55) (u := 1) (z := 1) rfl rfl ?_
    refine r_goto (i := 56) (v := 64) rfl ?_
    exact lp258_64 h_b h_bits h_p h_up  hd S hI hF hR 0 1 ⟨by omega, by omega⟩ ⟨by omega, by omega⟩ (by omega) (by omega) (by omega) (by first | rfl | assumption) 
  · refine r_load (i := 33) (u := 1) (w := 0) rfl rfl rfl ?_
    refine z_eq (i := 34) (v := 38) rfl ⟨by omega, by omega⟩ (fun h6 => ?_) (fun h7 => ?_)
    · refine r_load (i := 38) (u := 0) (w := 2) rfl rfl rfl ?_
      refine r_getf (i := 39) (v := 2) (w := 11) (x := (2, 44)) rfl ly43 rfl rfl fun _ => ?_
      refine r_load (i := 40) (u := 4) (w := 0) rfl rfl rfl ?_
      refine a_bool (i := 41) rfl ly44 rfl (by omega) (by omega) fun h9 => ?_
      refine z_ne (i := 42) (v := 50) rfl ⟨by omega, by omega⟩ (fun h10 => ?_) (fun h11 => ?_)
      · refine r_const (i := 50) (u := 0) (z := 0) rfl rfl ?_
        refine r_store (i := 51) (u := 5) (w := 0) (L1 := [some ((2, 43)), some (vi b), some (vi bits), some (vi p), some (vi up), some (vi 0)]) rfl rfl rfl rfl ?_
        refine r_load (i := 52) (u := 0) (w := 2) rfl rfl rfl ?_
        refine r_load (i := 53) (u := 5) (w := 0) rfl rfl rfl ?_
        refine z_ne (i := 54) (v := 57) rfl ⟨by omega, by omega⟩ (fun h12 => absurd h12 (by omega)) (fun h13 => ?_)
        refine r_const (i := 55) (u := 1) (z := 1) rfl rfl ?_
        refine r_goto (i := 56) (v := 64) rfl ?_
        exact lp258_64 h_b h_bits h_p h_up  hd S hI hF hR 0 1 ⟨by omega, by omega⟩ ⟨by omega, by omega⟩ (by omega) (by omega) (by omega) (by first | rfl | assumption) 
      · refine r_load (i := 43) (u := 0) (w := 2) rfl rfl rfl ?_
        refine r_getf (i := 44) (v := 4) (w := 11) (x := (2, 46)) rfl ly43 rfl rfl fun _ => ?_
        refine r_load (i := 45) (u := 4) (w := 0) rfl rfl rfl ?_
        refine a_bool (i := 46) rfl ly46 rfl (by omega) (by omega) fun h15 => ?_
        refine z_ne (i := 47) (v := 50) rfl ⟨by omega, by omega⟩ (fun h16 => ?_) (fun h17 => ?_)
        · refine r_const (i := 50) (u := 0) (z := 0) rfl rfl ?_
          refine r_store (i := 51) (u := 5) (w := 0) (L1 := [some ((2, 43)), some (vi b), some (vi bits), some (vi p), some (vi up), some (vi 0)]) rfl rfl rfl rfl ?_
          refine r_load (i := 52) (u := 0) (w := 2) rfl rfl rfl ?_
          refine r_load (i := 53) (u := 5) (w := 0) rfl rfl rfl ?_
          refine z_ne (i := 54) (v := 57) rfl ⟨by omega, by omega⟩ (fun h18 => absurd h18 (by omega)) (fun h19 => ?_)
          refine r_const (i := 55) (u := 1) (z := 1) rfl rfl ?_
          refine r_goto (i := 56) (v := 64) rfl ?_
          exact lp258_64 h_b h_bits h_p h_up  hd S hI hF hR 0 1 ⟨by omega, by omega⟩ ⟨by omega, by omega⟩ (by omega) (by omega) (by omega) (by first | rfl | assumption) 
        · refine r_const (i := 48) (u := 1) (z := 1) rfl rfl ?_
          refine r_goto (i := 49) (v := 51) rfl ?_
          refine r_store (i := 51) (u := 5) (w := 0) (L1 := [some ((2, 43)), some (vi b), some (vi bits), some (vi p), some (vi up), some (vi 1)]) rfl rfl rfl rfl ?_
          refine r_load (i := 52) (u := 0) (w := 2) rfl rfl rfl ?_
          refine r_load (i := 53) (u := 5) (w := 0) rfl rfl rfl ?_
          refine z_ne (i := 54) (v := 57) rfl ⟨by omega, by omega⟩ (fun h20 => ?_) (fun h21 => absurd h21 (by omega))
          refine r_load (i := 57) (u := 0) (w := 2) rfl rfl rfl ?_
          refine r_getf (i := 58) (v := 1) (w := 11) (x := vi (S.f 43 1)) rfl ly43 rfl rfl fun h22 => ?_
          have h22 : Rg (S.f 43 1) := h22
          refine r_const (i := 59) (u := 20) (z := 20) rfl rfl ?_
          refine c_ne (i := 60) (v := 63) rfl ⟨by omega, by omega⟩ ⟨by omega, by omega⟩ (fun h23 => ?_) (fun h24 => ?_)
          · refine r_const (i := 63) (u := 0) (z := 0) rfl rfl ?_
            exact lp258_64 h_b h_bits h_p h_up  hd S hI hF hR 1 0 ⟨by omega, by omega⟩ ⟨by omega, by omega⟩ (by omega) (by omega) (by omega) (by first | rfl | assumption) 
          · refine r_const (i := 61) (u := 2) (z := 2) rfl rfl ?_
            refine r_goto (i := 62) (v := 64) rfl ?_
            exact lp258_64 h_b h_bits h_p h_up  hd S hI hF hR 1 2 ⟨by omega, by omega⟩ ⟨by omega, by omega⟩ (by omega) (by omega) (by omega) (by first | rfl | assumption) 
    · refine r_load (i := 35) (u := 4) (w := 0) rfl rfl rfl ?_
      refine z_ne (i := 36) (v := 50) rfl ⟨by omega, by omega⟩ (fun h25 => ?_) (fun h26 => ?_)
      · refine r_const (i := 50) (u := 0) (z := 0) rfl rfl ?_
        refine r_store (i := 51) (u := 5) (w := 0) (L1 := [some ((2, 43)), some (vi b), some (vi bits), some (vi p), some (vi up), some (vi 0)]) rfl rfl rfl rfl ?_
        refine r_load (i := 52) (u := 0) (w := 2) rfl rfl rfl ?_
        refine r_load (i := 53) (u := 5) (w := 0) rfl rfl rfl ?_
        refine z_ne (i := 54) (v := 57) rfl ⟨by omega, by omega⟩ (fun h27 => absurd h27 (by omega)) (fun h28 => ?_)
        refine r_const (i := 55) (u := 1) (z := 1) rfl rfl ?_
        refine r_goto (i := 56) (v := 64) rfl ?_
        exact lp258_64 h_b h_bits h_p h_up  hd S hI hF hR 0 1 ⟨by omega, by omega⟩ ⟨by omega, by omega⟩ (by omega) (by omega) (by omega) (by first | rfl | assumption) 
      · refine r_goto (i := 37) (v := 48) rfl ?_
        refine r_const (i := 48) (u := 1) (z := 1) rfl rfl ?_
        refine r_goto (i := 49) (v := 51) rfl ?_
        refine r_store (i := 51) (u := 5) (w := 0) (L1 := [some ((2, 43)), some (vi b), some (vi bits), some (vi p), some (vi up), some (vi 1)]) rfl rfl rfl rfl ?_
        refine r_load (i := 52) (u := 0) (w := 2) rfl rfl rfl ?_
        refine r_load (i := 53) (u := 5) (w := 0) rfl rfl rfl ?_
        refine z_ne (i := 54) (v := 57) rfl ⟨by omega, by omega⟩ (fun h29 => ?_) (fun h30 => absurd h30 (by omega))
        refine r_load (i := 57) (u := 0) (w := 2) rfl rfl rfl ?_
        refine r_getf (i := 58) (v := 1) (w := 11) (x := vi (S.f 43 1)) rfl ly43 rfl rfl fun h31 => ?_
        have h31 : Rg (S.f 43 1) := h31
        refine r_const (i := 59) (u := 20) (z := 20) rfl rfl ?_
        refine c_ne (i := 60) (v := 63) rfl ⟨by omega, by omega⟩ ⟨by omega, by omega⟩ (fun h32 => ?_) (fun h33 => ?_)
        · refine r_const (i := 63) (u := 0) (z := 0) rfl rfl ?_
          exact lp258_64 h_b h_bits h_p h_up  hd S hI hF hR 1 0 ⟨by omega, by omega⟩ ⟨by omega, by omega⟩ (by omega) (by omega) (by omega) (by first | rfl | assumption) 
        · refine r_const (i := 61) (u := 2) (z := 2) rfl rfl ?_
          refine r_goto (i := 62) (v := 64) rfl ?_
          exact lp258_64 h_b h_bits h_p h_up  hd S hI hF hR 1 2 ⟨by omega, by omega⟩ ⟨by omega, by omega⟩ (by omega) (by omega) (by omega) (by first | rfl | assumption) 
/-- ProxyForgeModel.type -/
theorem sp258 {G : xk} {S : yS} {d : Nat} (hI : yI S) {b : Int} (h_b : 0 ≤ b ∧ b ≤ 1) {bits : Int} (h_bits : -2147483648 ≤ bits ∧ bits ≤ 2147483647) {p : Int} (h_p : -2147483648 ≤ p ∧ p ≤ 2147483647) {up : Int} (h_up : -2147483648 ≤ up ∧ up ≤ 2147483647) (hd : 0 ≤ d) : yT xPr G LY xC258 0 [some ((2, 43)), some (vi b), some (vi bits), some (vi p), some (vi up)] [] S d (fun r S' => ∃ z : Int, r = (1, vi z) ∧ 0 ≤ z ∧ z ≤ 20 ∧ mTyQ S S' b bits p up z ∧ yI S' ∧ yFr [(43, 0), (43, 1)] [44, 45, 46, 47, 48, 49] S S' ∧ yRm [] S S') := by
  refine yT_pad 1 ?_
  show yT xPr G LY xC258 0 [some ((2, 43)), some (vi b), some (vi bits), some (vi p), some (vi up), none] [] S d _
  have hF : yFr [(43, 0), (43, 1)] [44, 45, 46, 47, 48, 49] S S := yFr.refl S
  have hR : yRm [] S S := yRm.refl S
  refine r_load (i := 0) (u := 2) (w := 0) rfl rfl rfl ?_
  refine z_lt (i := 1) (v := 29) rfl ⟨by omega, by omega⟩ (fun h1 => ?_) (fun h2 => ?_)
  · refine r_const (i := 29) (u := 0) (z := 0) rfl rfl ?_
    have h3 := hI.f tf43_1
    exact lp258_30 h_b h_bits h_p h_up  hd S hI hF hR 0 ⟨by omega, by omega⟩ (by omega) (by omega) (by first | rfl | assumption) 
  · refine r_load (i := 2) (u := 2) (w := 0) rfl rfl rfl ?_
    refine r_const (i := 3) (u := 8) (z := 8) rfl rfl ?_
    refine c_ge (i := 4) (v := 29) rfl ⟨by omega, by omega⟩ ⟨by omega, by omega⟩ (fun h4 => ?_) (fun h5 => ?_)
    · refine r_const (i := 29) (u := 0) (z := 0) rfl rfl ?_
      have h6 := hI.f tf43_1
      exact lp258_30 h_b h_bits h_p h_up  hd S hI hF hR 0 ⟨by omega, by omega⟩ (by omega) (by omega) (by first | rfl | assumption) 
    · refine r_load (i := 5) (u := 2) (w := 0) rfl rfl rfl ?_
      refine r_const (i := 6) (u := 6) (z := 6) rfl rfl ?_
      refine r_iand (i := 7) rfl ?_
      have h7 := @yand_c bits 6 (by decide) (by decide)
      refine r_const (i := 8) (u := 6) (z := 6) rfl rfl ?_
      refine c_eq (i := 9) (v := 29) rfl ⟨by omega, by omega⟩ ⟨by omega, by omega⟩ (fun h8 => ?_) (fun h9 => ?_)
      · refine r_const (i := 29) (u := 0) (z := 0) rfl rfl ?_
        have h10 := hI.f tf43_1
        exact lp258_30 h_b h_bits h_p h_up  hd S hI hF hR 0 ⟨by omega, by omega⟩ (by omega) (by omega) (by first | rfl | assumption) 
      · refine r_load (i := 10) (u := 1) (w := 0) rfl rfl rfl ?_
        refine z_eq (i := 11) (v := 16) rfl ⟨by omega, by omega⟩ (fun h11 => ?_) (fun h12 => ?_)
        · refine r_load (i := 16) (u := 3) (w := 0) rfl rfl rfl ?_
          refine z_lt (i := 17) (v := 29) rfl ⟨by omega, by omega⟩ (fun h13 => ?_) (fun h14 => ?_)
          · refine r_const (i := 29) (u := 0) (z := 0) rfl rfl ?_
            have h15 := hI.f tf43_1
            exact lp258_30 h_b h_bits h_p h_up  hd S hI hF hR 0 ⟨by omega, by omega⟩ (by omega) (by omega) (by first | rfl | assumption) 
          · refine r_load (i := 18) (u := 3) (w := 0) rfl rfl rfl ?_
            refine r_const (i := 19) (u := 4) (z := 4) rfl rfl ?_
            refine c_ge (i := 20) (v := 29) rfl ⟨by omega, by omega⟩ ⟨by omega, by omega⟩ (fun h16 => ?_) (fun h17 => ?_)
            · refine r_const (i := 29) (u := 0) (z := 0) rfl rfl ?_
              have h18 := hI.f tf43_1
              exact lp258_30 h_b h_bits h_p h_up  hd S hI hF hR 0 ⟨by omega, by omega⟩ (by omega) (by omega) (by first | rfl | assumption) 
            · refine r_load (i := 21) (u := 4) (w := 0) rfl rfl rfl ?_
              refine z_lt (i := 22) (v := 29) rfl ⟨by omega, by omega⟩ (fun h19 => ?_) (fun h20 => ?_)
              · refine r_const (i := 29) (u := 0) (z := 0) rfl rfl ?_
                have h21 := hI.f tf43_1
                exact lp258_30 h_b h_bits h_p h_up  hd S hI hF hR 0 ⟨by omega, by omega⟩ (by omega) (by omega) (by first | rfl | assumption) 
              · refine r_load (i := 23) (u := 4) (w := 0) rfl rfl rfl ?_
                refine r_load (i := 24) (u := 0) (w := 2) rfl rfl rfl ?_
                have h22 := hI.f tf43_1
                refine r_getf (i := 25) (v := 1) (w := 11) (x := vi (S.f 43 1)) rfl ly43 rfl rfl fun h23 => ?_
                have h23 : Rg (S.f 43 1) := h23
                refine c_ge (i := 26) (v := 29) rfl ⟨by omega, by omega⟩ ⟨by omega, by omega⟩ (fun h24 => ?_) (fun h25 => ?_)
                · refine r_const (i := 29) (u := 0) (z := 0) rfl rfl ?_
                  exact lp258_30 h_b h_bits h_p h_up  hd S hI hF hR 0 ⟨by omega, by omega⟩ (by omega) (by omega) (by first | rfl | assumption) 
                · refine r_const (i := 27) (u := 1) (z := 1) rfl rfl ?_
                  refine r_goto (i := 28) (v := 30) rfl ?_
                  exact lp258_30 h_b h_bits h_p h_up  hd S hI hF hR 1 ⟨by omega, by omega⟩ (by omega) (by omega) (by first | rfl | assumption) 
        · refine r_load (i := 12) (u := 2) (w := 0) rfl rfl rfl ?_
          refine r_const (i := 13) (u := 6) (z := 6) rfl rfl ?_
          refine r_iand (i := 14) rfl ?_
          have h26 := @yand_c bits 6 (by decide) (by decide)
          refine z_ne (i := 15) (v := 29) rfl ⟨by omega, by omega⟩ (fun h27 => ?_) (fun h28 => ?_)
          · refine r_const (i := 29) (u := 0) (z := 0) rfl rfl ?_
            have h29 := hI.f tf43_1
            exact lp258_30 h_b h_bits h_p h_up  hd S hI hF hR 0 ⟨by omega, by omega⟩ (by omega) (by omega) (by first | rfl | assumption) 
          · refine r_load (i := 16) (u := 3) (w := 0) rfl rfl rfl ?_
            refine z_lt (i := 17) (v := 29) rfl ⟨by omega, by omega⟩ (fun h30 => ?_) (fun h31 => ?_)
            · refine r_const (i := 29) (u := 0) (z := 0) rfl rfl ?_
              have h32 := hI.f tf43_1
              exact lp258_30 h_b h_bits h_p h_up  hd S hI hF hR 0 ⟨by omega, by omega⟩ (by omega) (by omega) (by first | rfl | assumption) 
            · refine r_load (i := 18) (u := 3) (w := 0) rfl rfl rfl ?_
              refine r_const (i := 19) (u := 4) (z := 4) rfl rfl ?_
              refine c_ge (i := 20) (v := 29) rfl ⟨by omega, by omega⟩ ⟨by omega, by omega⟩ (fun h33 => ?_) (fun h34 => ?_)
              · refine r_const (i := 29) (u := 0) (z := 0) rfl rfl ?_
                have h35 := hI.f tf43_1
                exact lp258_30 h_b h_bits h_p h_up  hd S hI hF hR 0 ⟨by omega, by omega⟩ (by omega) (by omega) (by first | rfl | assumption) 
              · refine r_load (i := 21) (u := 4) (w := 0) rfl rfl rfl ?_
                refine z_lt (i := 22) (v := 29) rfl ⟨by omega, by omega⟩ (fun h36 => ?_) (fun h37 => ?_)
                · refine r_const (i := 29) (u := 0) (z := 0) rfl rfl ?_
                  have h38 := hI.f tf43_1
                  exact lp258_30 h_b h_bits h_p h_up  hd S hI hF hR 0 ⟨by omega, by omega⟩ (by omega) (by omega) (by first | rfl | assumption) 
                · refine r_load (i := 23) (u := 4) (w := 0) rfl rfl rfl ?_
                  refine r_load (i := 24) (u := 0) (w := 2) rfl rfl rfl ?_
                  have h39 := hI.f tf43_1
                  refine r_getf (i := 25) (v := 1) (w := 11) (x := vi (S.f 43 1)) rfl ly43 rfl rfl fun h40 => ?_
                  have h40 : Rg (S.f 43 1) := h40
                  refine c_ge (i := 26) (v := 29) rfl ⟨by omega, by omega⟩ ⟨by omega, by omega⟩ (fun h41 => ?_) (fun h42 => ?_)
                  · refine r_const (i := 29) (u := 0) (z := 0) rfl rfl ?_
                    exact lp258_30 h_b h_bits h_p h_up  hd S hI hF hR 0 ⟨by omega, by omega⟩ (by omega) (by omega) (by first | rfl | assumption) 
                  · refine r_const (i := 27) (u := 1) (z := 1) rfl rfl ?_
                    refine r_goto (i := 28) (v := 30) rfl ?_
                    exact lp258_30 h_b h_bits h_p h_up  hd S hI hF hR 1 ⟨by omega, by omega⟩ (by omega) (by omega) (by first | rfl | assumption) 
/-- ProxyForgeModel.slots -/
theorem sp244 {G : xk} {S : yS} {d : Nat} (hI : yI S)  (hd : 0 ≤ d) : yT xPr G LY xC244 0 [some ((2, 43))] [] S d (fun r S' => ∃ z : Int, r = (1, vi z) ∧ 0 ≤ z ∧ z ≤ 24 ∧ z = S.f 43 20 ∧ yI S' ∧ yFr [(43, 0)] [] S S' ∧ yRm [] S S') := by
  refine yT_pad 0 ?_
  show yT xPr G LY xC244 0 [some ((2, 43))] [] S d _
  have hF : yFr [(43, 0)] [] S S := yFr.refl S
  have hR : yRm [] S S := yRm.refl S
  refine r_load (i := 0) (u := 0) (w := 2) rfl rfl rfl ?_
  refine r_const (i := 1) (u := 0) (z := 0) rfl rfl ?_
  refine r_putI (i := 2) (v := 0) (w := 11) rfl ly43 rfl ⟨by omega, by omega⟩ ?_
  have hI2 := hI.setf (b := 43) (w := 0) (z := 0) tf43_0 rfl (by omega) (by omega)
  have hF4 := hF.setf (b := 43) (w := 0) (z := 0) rfl
  have hR5 := hR.setf (b := 43) (w := 0) (z := 0)
  refine yT_gen (fun S1 hS3 => ?_)
  rw [hS3] at hI2 hF4 hR5 
  refine r_load (i := 3) (u := 0) (w := 2) rfl rfl rfl ?_
  have h6 := hI2.f tf43_20
  have h7 : S1.f 43 20 = S.f 43 20 := by rw [← hS3]; exact ysf_ne (by decide)
  refine r_getf (i := 4) (v := 20) (w := 11) (x := vi (S1.f 43 20)) rfl ly43 rfl rfl fun h8 => ?_
  have h8 : Rg (S1.f 43 20) := h8
  exact r_retI (i := 5) rfl ⟨S1.f 43 20, rfl, by omega, by omega, (by omega), hI2, hF4, hR5⟩
/-- ProxyForgeModel.slot -/
theorem sp243 {G : xk} {S : yS} {d : Nat} (hI : yI S) {k : Int} (h_k : -2147483648 ≤ k ∧ k ≤ 2147483647) (hd : 0 ≤ d) : yT xPr G LY xC243 0 [some ((2, 43)), some (vi k)] [] S d (fun r S' => ∃ z : Int, r = (1, vi z) ∧ -1 ≤ z ∧ z ≤ 59 ∧ ((z = -1 ∧ ¬ (0 ≤ k ∧ k < S.f 43 20)) ∨ ((0 ≤ k ∧ k < S.f 43 20) ∧ z = S.a 60 k.toNat)) ∧ yI S' ∧ yFr [(43, 0)] [] S S' ∧ yRm [] S S') := by
  refine yT_pad 0 ?_
  show yT xPr G LY xC243 0 [some ((2, 43)), some (vi k)] [] S d _
  have hF : yFr [(43, 0)] [] S S := yFr.refl S
  have hR : yRm [] S S := yRm.refl S
  refine r_load (i := 0) (u := 0) (w := 2) rfl rfl rfl ?_
  refine r_const (i := 1) (u := 0) (z := 0) rfl rfl ?_
  refine r_putI (i := 2) (v := 0) (w := 11) rfl ly43 rfl ⟨by omega, by omega⟩ ?_
  have hI2 := hI.setf (b := 43) (w := 0) (z := 0) tf43_0 rfl (by omega) (by omega)
  have hF4 := hF.setf (b := 43) (w := 0) (z := 0) rfl
  have hR5 := hR.setf (b := 43) (w := 0) (z := 0)
  refine yT_gen (fun S1 hS3 => ?_)
  rw [hS3] at hI2 hF4 hR5 
  refine r_load (i := 3) (u := 1) (w := 0) rfl rfl rfl ?_
  refine z_lt (i := 4) (v := 9) rfl ⟨by omega, by omega⟩ (fun h6 => ?_) (fun h7 => ?_)
  · refine r_const (i := 9) (u := 4294967295) (z := -1) rfl rfl ?_
    refine r_goto (i := 10) (v := 15) rfl ?_
    exact r_retI (i := 15) rfl ⟨-1, rfl, by omega, by omega, (by omega), hI2, hF4, hR5⟩
  · refine r_load (i := 5) (u := 1) (w := 0) rfl rfl rfl ?_
    refine r_load (i := 6) (u := 0) (w := 2) rfl rfl rfl ?_
    have h8 := hI2.f tf43_20
    have h9 : S1.f 43 20 = S.f 43 20 := by rw [← hS3]; exact ysf_ne (by decide)
    refine r_getf (i := 7) (v := 20) (w := 11) (x := vi (S1.f 43 20)) rfl ly43 rfl rfl fun h10 => ?_
    have h10 : Rg (S1.f 43 20) := h10
    refine c_lt (i := 8) (v := 11) rfl ⟨by omega, by omega⟩ ⟨by omega, by omega⟩ (fun h11 => ?_) (fun h12 => ?_)
    · refine r_load (i := 11) (u := 0) (w := 2) rfl rfl rfl ?_
      refine r_getf (i := 12) (v := 23) (w := 11) (x := (2, 60)) rfl ly43 rfl rfl fun _ => ?_
      refine r_load (i := 13) (u := 1) (w := 0) rfl rfl rfl ?_
      refine a_int (i := 14) rfl ly60 rfl (by omega) (by omega) fun h14 => ?_
      have h15 := hI2.a ta60 k.toNat
      have h16 : S1.a 60 k.toNat = S.a 60 k.toNat := by rw [← hS3]; rfl
      exact r_retI (i := 15) rfl ⟨S1.a 60 k.toNat, rfl, by omega, by omega, (by omega), hI2, hF4, hR5⟩
    · refine r_const (i := 9) (u := 4294967295) (z := -1) rfl rfl ?_
      refine r_goto (i := 10) (v := 15) rfl ?_
      exact r_retI (i := 15) rfl ⟨-1, rfl, by omega, by omega, (by omega), hI2, hF4, hR5⟩
/-- ProxyForgeModel.asked -/
theorem sp184 {G : xk} {S : yS} {d : Nat} (hI : yI S)  (hd : 0 ≤ d) : yT xPr G LY xC184 0 [some ((2, 43))] [] S d (fun r S' => ∃ z : Int, r = (1, vi z) ∧ -1 ≤ z ∧ z ≤ 23 ∧ yI S' ∧ yFr [(43, 0)] [] S S' ∧ yRm [] S S') := by
  refine yT_pad 0 ?_
  show yT xPr G LY xC184 0 [some ((2, 43))] [] S d _
  have hF : yFr [(43, 0)] [] S S := yFr.refl S
  have hR : yRm [] S S := yRm.refl S
  refine r_load (i := 0) (u := 0) (w := 2) rfl rfl rfl ?_
  refine r_const (i := 1) (u := 0) (z := 0) rfl rfl ?_
  refine r_putI (i := 2) (v := 0) (w := 11) rfl ly43 rfl ⟨by omega, by omega⟩ ?_
  have hI2 := hI.setf (b := 43) (w := 0) (z := 0) tf43_0 rfl (by omega) (by omega)
  have hF4 := hF.setf (b := 43) (w := 0) (z := 0) rfl
  have hR5 := hR.setf (b := 43) (w := 0) (z := 0)
  refine yT_gen (fun S1 hS3 => ?_)
  rw [hS3] at hI2 hF4 hR5 
  refine r_load (i := 3) (u := 0) (w := 2) rfl rfl rfl ?_
  have h6 := hI2.f tf43_34
  have h7 : S1.f 43 34 = S.f 43 34 := by rw [← hS3]; exact ysf_ne (by decide)
  refine r_getf (i := 4) (v := 34) (w := 11) (x := vi (S1.f 43 34)) rfl ly43 rfl rfl fun h8 => ?_
  have h8 : Rg (S1.f 43 34) := h8
  exact r_retI (i := 5) rfl ⟨S1.f 43 34, rfl, by omega, by omega, hI2, hF4, hR5⟩
/-- ProxyForgeModel.result -/
theorem sp239 {G : xk} {S : yS} {d : Nat} (hI : yI S)  (hd : 0 ≤ d) : yT xPr G LY xC239 0 [some ((2, 43))] [] S d (fun r S' => ∃ z : Int, r = (1, vl z) ∧ Rl z ∧ yI S' ∧ yFr [(43, 0)] [] S S' ∧ yRm [] S S') := by
  refine yT_pad 0 ?_
  show yT xPr G LY xC239 0 [some ((2, 43))] [] S d _
  have hF : yFr [(43, 0)] [] S S := yFr.refl S
  have hR : yRm [] S S := yRm.refl S
  refine r_load (i := 0) (u := 0) (w := 2) rfl rfl rfl ?_
  refine r_const (i := 1) (u := 0) (z := 0) rfl rfl ?_
  refine r_putI (i := 2) (v := 0) (w := 11) rfl ly43 rfl ⟨by omega, by omega⟩ ?_
  have hI2 := hI.setf (b := 43) (w := 0) (z := 0) tf43_0 rfl (by omega) (by omega)
  have hF4 := hF.setf (b := 43) (w := 0) (z := 0) rfl
  have hR5 := hR.setf (b := 43) (w := 0) (z := 0)
  refine yT_gen (fun S1 hS3 => ?_)
  rw [hS3] at hI2 hF4 hR5 
  refine r_load (i := 3) (u := 0) (w := 2) rfl rfl rfl ?_
  have h6 : S1.f 43 37 = S.f 43 37 := by rw [← hS3]; exact ysf_ne (by decide)
  refine r_getf (i := 4) (v := 37) (w := 11) (x := vl (S1.f 43 37)) rfl ly43 rfl rfl fun h7 => ?_
  have h7 : Rl (S1.f 43 37) := h7
  exact r_retL (i := 5) rfl ⟨S1.f 43 37, rfl, ⟨by omega, by omega⟩, hI2, hF4, hR5⟩
/-- ProxyForgeModel.given -/
theorem sp205 {G : xk} {S : yS} {d : Nat} (hI : yI S) {i0 : Int} (h_i0 : -2147483648 ≤ i0 ∧ i0 ≤ 2147483647) {w0 : Int} (h_w0 : -2147483648 ≤ w0 ∧ w0 ≤ 2147483647) (hd : 0 ≤ d) : yT xPr G LY xC205 0 [some ((2, 43)), some (vi i0), some (vi w0)] [] S d (fun r S' => ∃ z : Int, r = (1, vl z) ∧ Rl z ∧ yI S' ∧ yFr [(43, 0)] [] S S' ∧ yRm [] S S') := by
  refine yT_pad 0 ?_
  show yT xPr G LY xC205 0 [some ((2, 43)), some (vi i0), some (vi w0)] [] S d _
  have hF : yFr [(43, 0)] [] S S := yFr.refl S
  have hR : yRm [] S S := yRm.refl S
  refine r_load (i := 0) (u := 0) (w := 2) rfl rfl rfl ?_
  refine r_const (i := 1) (u := 0) (z := 0) rfl rfl ?_
  refine r_putI (i := 2) (v := 0) (w := 11) rfl ly43 rfl ⟨by omega, by omega⟩ ?_
  have hI2 := hI.setf (b := 43) (w := 0) (z := 0) tf43_0 rfl (by omega) (by omega)
  have hF4 := hF.setf (b := 43) (w := 0) (z := 0) rfl
  have hR5 := hR.setf (b := 43) (w := 0) (z := 0)
  refine yT_gen (fun S1 hS3 => ?_)
  rw [hS3] at hI2 hF4 hR5 
  refine r_load (i := 3) (u := 1) (w := 0) rfl rfl rfl ?_
  refine z_lt (i := 4) (v := 9) rfl ⟨by omega, by omega⟩ (fun h6 => ?_) (fun h7 => ?_)
  · refine r_lconst (i := 9) (u := 18446744073709551615) (z := -1) rfl rfl ?_
    exact r_retL (i := 10) rfl ⟨-1, rfl, ⟨by omega, by omega⟩, hI2, hF4, hR5⟩
  · refine r_load (i := 5) (u := 1) (w := 0) rfl rfl rfl ?_
    refine r_load (i := 6) (u := 0) (w := 2) rfl rfl rfl ?_
    have h8 := hI2.f tf43_35
    have h9 : S1.f 43 35 = S.f 43 35 := by rw [← hS3]; exact ysf_ne (by decide)
    refine r_getf (i := 7) (v := 35) (w := 11) (x := vi (S1.f 43 35)) rfl ly43 rfl rfl fun h10 => ?_
    have h10 : Rg (S1.f 43 35) := h10
    refine c_lt (i := 8) (v := 11) rfl ⟨by omega, by omega⟩ ⟨by omega, by omega⟩ (fun h11 => ?_) (fun h12 => ?_)
    · refine r_load (i := 11) (u := 2) (w := 0) rfl rfl rfl ?_
      refine z_ne (i := 12) (v := 19) rfl ⟨by omega, by omega⟩ (fun h13 => ?_) (fun h14 => ?_)
      · refine r_load (i := 19) (u := 2) (w := 0) rfl rfl rfl ?_
        refine r_const (i := 20) (u := 1) (z := 1) rfl rfl ?_
        refine c_ne (i := 21) (v := 27) rfl ⟨by omega, by omega⟩ ⟨by omega, by omega⟩ (fun h15 => ?_) (fun h16 => ?_)
        · refine r_lconst (i := 27) (u := 18446744073709551615) (z := -1) rfl rfl ?_
          exact r_retL (i := 28) rfl ⟨-1, rfl, ⟨by omega, by omega⟩, hI2, hF4, hR5⟩
        · refine r_load (i := 22) (u := 0) (w := 2) rfl rfl rfl ?_
          refine r_getf (i := 23) (v := 39) (w := 11) (x := (2, 70)) rfl ly43 rfl rfl fun _ => ?_
          refine r_load (i := 24) (u := 1) (w := 0) rfl rfl rfl ?_
          refine r_laload (i := 25) rfl ly70 (by decide) (by omega) (by omega) fun h18 => ?_
          have h19 : S1.a 70 i0.toNat = S.a 70 i0.toNat := by rw [← hS3]; rfl
          refine r_goto (i := 26) (v := 28) rfl ?_
          exact r_retL (i := 28) rfl ⟨S1.a 70 i0.toNat, rfl, ⟨by omega, by omega⟩, hI2, hF4, hR5⟩
      · refine r_load (i := 13) (u := 0) (w := 2) rfl rfl rfl ?_
        refine r_getf (i := 14) (v := 38) (w := 11) (x := (2, 69)) rfl ly43 rfl rfl fun _ => ?_
        refine r_load (i := 15) (u := 1) (w := 0) rfl rfl rfl ?_
        refine a_int (i := 16) rfl ly69 rfl (by omega) (by omega) fun h21 => ?_
        have h22 := hI2.a ta69 i0.toNat
        have h23 : S1.a 69 i0.toNat = S.a 69 i0.toNat := by rw [← hS3]; rfl
        refine r_i2l (i := 17) rfl ⟨by omega, by omega⟩ ?_
        refine r_goto (i := 18) (v := 28) rfl ?_
        exact r_retL (i := 28) rfl ⟨S1.a 69 i0.toNat, rfl, ⟨by omega, by omega⟩, hI2, hF4, hR5⟩
    · refine r_lconst (i := 9) (u := 18446744073709551615) (z := -1) rfl rfl ?_
      exact r_retL (i := 10) rfl ⟨-1, rfl, ⟨by omega, by omega⟩, hI2, hF4, hR5⟩
/-- ProxyForgeModel.size -/
theorem sp242 {G : xk} {S : yS} {d : Nat} (hI : yI S)  (hd : 0 ≤ d) : yT xPr G LY xC242 0 [some ((2, 43))] [] S d (fun r S' => ∃ z : Int, r = (1, vi z) ∧ 0 ≤ z ∧ z ≤ 23500 ∧ z = S.f 43 42 ∧ yI S' ∧ yFr [(43, 0)] [] S S' ∧ yRm [] S S') := by
  refine yT_pad 0 ?_
  show yT xPr G LY xC242 0 [some ((2, 43))] [] S d _
  have hF : yFr [(43, 0)] [] S S := yFr.refl S
  have hR : yRm [] S S := yRm.refl S
  refine r_load (i := 0) (u := 0) (w := 2) rfl rfl rfl ?_
  refine r_const (i := 1) (u := 0) (z := 0) rfl rfl ?_
  refine r_putI (i := 2) (v := 0) (w := 11) rfl ly43 rfl ⟨by omega, by omega⟩ ?_
  have hI2 := hI.setf (b := 43) (w := 0) (z := 0) tf43_0 rfl (by omega) (by omega)
  have hF4 := hF.setf (b := 43) (w := 0) (z := 0) rfl
  have hR5 := hR.setf (b := 43) (w := 0) (z := 0)
  refine yT_gen (fun S1 hS3 => ?_)
  rw [hS3] at hI2 hF4 hR5 
  refine r_load (i := 3) (u := 0) (w := 2) rfl rfl rfl ?_
  have h6 := hI2.f tf43_42
  have h7 : S1.f 43 42 = S.f 43 42 := by rw [← hS3]; exact ysf_ne (by decide)
  refine r_getf (i := 4) (v := 42) (w := 11) (x := vi (S1.f 43 42)) rfl ly43 rfl rfl fun h8 => ?_
  have h8 : Rg (S1.f 43 42) := h8
  exact r_retI (i := 5) rfl ⟨S1.f 43 42, rfl, by omega, by omega, (by omega), hI2, hF4, hR5⟩
/-- ProxyForgeModel.byteAt -/
theorem sp187 {G : xk} {S : yS} {d : Nat} (hI : yI S) {k : Int} (h_k : -2147483648 ≤ k ∧ k ≤ 2147483647) (hd : 0 ≤ d) : yT xPr G LY xC187 0 [some ((2, 43)), some (vi k)] [] S d (fun r S' => ∃ z : Int, r = (1, vi z) ∧ -1 ≤ z ∧ z ≤ 255 ∧ byM S k z ∧ yI S' ∧ yFr [(43, 0)] [] S S' ∧ yRm [] S S') := by
  refine yT_pad 0 ?_
  show yT xPr G LY xC187 0 [some ((2, 43)), some (vi k)] [] S d _
  have hF : yFr [(43, 0)] [] S S := yFr.refl S
  have hR : yRm [] S S := yRm.refl S
  refine r_load (i := 0) (u := 0) (w := 2) rfl rfl rfl ?_
  refine r_const (i := 1) (u := 0) (z := 0) rfl rfl ?_
  refine r_putI (i := 2) (v := 0) (w := 11) rfl ly43 rfl ⟨by omega, by omega⟩ ?_
  have hI2 := hI.setf (b := 43) (w := 0) (z := 0) tf43_0 rfl (by omega) (by omega)
  have hF4 := hF.setf (b := 43) (w := 0) (z := 0) rfl
  have hR5 := hR.setf (b := 43) (w := 0) (z := 0)
  refine yT_gen (fun S1 hS3 => ?_)
  rw [hS3] at hI2 hF4 hR5 
  refine r_load (i := 3) (u := 1) (w := 0) rfl rfl rfl ?_
  refine z_lt (i := 4) (v := 9) rfl ⟨by omega, by omega⟩ (fun h6 => ?_) (fun h7 => ?_)
  · refine r_const (i := 9) (u := 4294967295) (z := -1) rfl rfl ?_
    refine r_goto (i := 10) (v := 15) rfl ?_
    exact r_retI (i := 15) rfl ⟨-1, rfl, by omega, by omega, (by first | exact Or.inl ⟨by omega, by omega⟩ | exact Or.inr ⟨by omega, by omega⟩), hI2, hF4, hR5⟩
  · refine r_load (i := 5) (u := 1) (w := 0) rfl rfl rfl ?_
    refine r_load (i := 6) (u := 0) (w := 2) rfl rfl rfl ?_
    have h8 := hI2.f tf43_42
    have h9 : S1.f 43 42 = S.f 43 42 := by rw [← hS3]; exact ysf_ne (by decide)
    refine r_getf (i := 7) (v := 42) (w := 11) (x := vi (S1.f 43 42)) rfl ly43 rfl rfl fun h10 => ?_
    have h10 : Rg (S1.f 43 42) := h10
    refine c_lt (i := 8) (v := 11) rfl ⟨by omega, by omega⟩ ⟨by omega, by omega⟩ (fun h11 => ?_) (fun h12 => ?_)
    · refine r_load (i := 11) (u := 0) (w := 2) rfl rfl rfl ?_
      refine r_getf (i := 12) (v := 40) (w := 11) (x := (2, 71)) rfl ly43 rfl rfl fun _ => ?_
      refine r_load (i := 13) (u := 1) (w := 0) rfl rfl rfl ?_
      refine a_int (i := 14) rfl ly71 rfl (by omega) (by omega) fun h14 => ?_
      have h15 := hI2.a ta71 k.toNat
      have h16 : S1.a 71 k.toNat = S.a 71 k.toNat := by rw [← hS3]; rfl
      exact r_retI (i := 15) rfl ⟨S1.a 71 k.toNat, rfl, by omega, by omega, (by first | exact Or.inl ⟨by omega, by omega⟩ | exact Or.inr ⟨by omega, by omega⟩), hI2, hF4, hR5⟩
    · refine r_const (i := 9) (u := 4294967295) (z := -1) rfl rfl ?_
      refine r_goto (i := 10) (v := 15) rfl ?_
      exact r_retI (i := 15) rfl ⟨-1, rfl, by omega, by omega, (by first | exact Or.inl ⟨by omega, by omega⟩ | exact Or.inr ⟨by omega, by omega⟩), hI2, hF4, hR5⟩
/-- ProxyForgeModel.change -/
theorem sp191 {G : xk} {S : yS} {d : Nat} (hI : yI S) {k : Int} (h_k : -2147483648 ≤ k ∧ k ≤ 2147483647) {b : Int} (h_b : -2147483648 ≤ b ∧ b ≤ 2147483647) (hd : 0 ≤ d) : yT xPr G LY xC191 0 [some ((2, 43)), some (vi k), some (vi b)] [] S d (fun r S' => ∃ z : Int, r = (1, vi z) ∧ 0 ≤ z ∧ z ≤ 1 ∧ chM6 S S' k b z ∧ yI S' ∧ yFr [(43, 0)] [71] S S' ∧ yRm [] S S') := by
  refine yT_pad 0 ?_
  show yT xPr G LY xC191 0 [some ((2, 43)), some (vi k), some (vi b)] [] S d _
  have hF : yFr [(43, 0)] [71] S S := yFr.refl S
  have hR : yRm [] S S := yRm.refl S
  refine r_load (i := 0) (u := 0) (w := 2) rfl rfl rfl ?_
  refine r_const (i := 1) (u := 0) (z := 0) rfl rfl ?_
  refine r_putI (i := 2) (v := 0) (w := 11) rfl ly43 rfl ⟨by omega, by omega⟩ ?_
  have hI2 := hI.setf (b := 43) (w := 0) (z := 0) tf43_0 rfl (by omega) (by omega)
  have hF4 := hF.setf (b := 43) (w := 0) (z := 0) rfl
  have hR5 := hR.setf (b := 43) (w := 0) (z := 0)
  refine yT_gen (fun S1 hS3 => ?_)
  rw [hS3] at hI2 hF4 hR5 
  refine r_load (i := 3) (u := 1) (w := 0) rfl rfl rfl ?_
  refine z_lt (i := 4) (v := 9) rfl ⟨by omega, by omega⟩ (fun h6 => ?_) (fun h7 => ?_)
  · refine r_const (i := 9) (u := 0) (z := 0) rfl rfl ?_
    exact r_retZ (i := 10) rfl (by omega) (by omega) ⟨0, rfl, by omega, by omega, (by exact Or.inl ⟨by omega, by omega, ⟨by subst hS3; rfl, fun j => by subst hS3; rfl⟩⟩), hI2, hF4, hR5⟩
  · refine r_load (i := 5) (u := 1) (w := 0) rfl rfl rfl ?_
    refine r_load (i := 6) (u := 0) (w := 2) rfl rfl rfl ?_
    have h8 := hI2.f tf43_42
    have h9 : S1.f 43 42 = S.f 43 42 := by rw [← hS3]; exact ysf_ne (by decide)
    refine r_getf (i := 7) (v := 42) (w := 11) (x := vi (S1.f 43 42)) rfl ly43 rfl rfl fun h10 => ?_
    have h10 : Rg (S1.f 43 42) := h10
    refine c_lt (i := 8) (v := 11) rfl ⟨by omega, by omega⟩ ⟨by omega, by omega⟩ (fun h11 => ?_) (fun h12 => ?_)
    · refine r_load (i := 11) (u := 0) (w := 2) rfl rfl rfl ?_
      refine r_getf (i := 12) (v := 40) (w := 11) (x := (2, 71)) rfl ly43 rfl rfl fun _ => ?_
      refine r_load (i := 13) (u := 1) (w := 0) rfl rfl rfl ?_
      refine r_load (i := 14) (u := 2) (w := 0) rfl rfl rfl ?_
      refine r_const (i := 15) (u := 255) (z := 255) rfl rfl ?_
      refine r_iand (i := 16) rfl ?_
      have h14 := @yand_c b 255 (by decide) (by decide)
      have h15 := yand_255 b
      refine s_int (i := 17) rfl ly71 rfl (by omega) (by omega) ⟨by omega, by omega⟩ ?_
      have hI17 := hI2.seta (b := 71) (j := k.toNat) (z := yand b 255) ta71 rfl (by omega) (by omega)
      have hF19 := hF4.seta (b := 71) (j := k.toNat) (z := yand b 255) rfl
      have hR20 := hR5.seta (b := 71) (j := k.toNat) (z := yand b 255)
      refine yT_gen (fun S16 hS18 => ?_)
      rw [hS18] at hI17 hF19 hR20 
      refine r_const (i := 18) (u := 1) (z := 1) rfl rfl ?_
      exact r_retZ (i := 19) rfl (by omega) (by omega) ⟨1, rfl, by omega, by omega, (by exact Or.inr ⟨by omega, by omega, by subst hS3 hS18; rfl, fun j => by subst hS3 hS18; rfl⟩), hI17, hF19, hR20⟩
    · refine r_const (i := 9) (u := 0) (z := 0) rfl rfl ?_
      exact r_retZ (i := 10) rfl (by omega) (by omega) ⟨0, rfl, by omega, by omega, (by exact Or.inl ⟨by omega, by omega, ⟨by subst hS3; rfl, fun j => by subst hS3; rfl⟩⟩), hI2, hF4, hR5⟩
/-- ProxyForgeModel.cut -/
theorem sp197 {G : xk} {S : yS} {d : Nat} (hI : yI S) {k : Int} (h_k : -2147483648 ≤ k ∧ k ≤ 2147483647) (hd : 0 ≤ d) : yT xPr G LY xC197 0 [some ((2, 43)), some (vi k)] [] S d (fun r S' => ∃ z : Int, r = (1, vi z) ∧ 0 ≤ z ∧ z ≤ 1 ∧ cuM S S' k z ∧ yI S' ∧ yFr [(43, 0), (43, 42)] [] S S' ∧ yRm [] S S') := by
  refine yT_pad 0 ?_
  show yT xPr G LY xC197 0 [some ((2, 43)), some (vi k)] [] S d _
  have hF : yFr [(43, 0), (43, 42)] [] S S := yFr.refl S
  have hR : yRm [] S S := yRm.refl S
  refine r_load (i := 0) (u := 0) (w := 2) rfl rfl rfl ?_
  refine r_const (i := 1) (u := 0) (z := 0) rfl rfl ?_
  refine r_putI (i := 2) (v := 0) (w := 11) rfl ly43 rfl ⟨by omega, by omega⟩ ?_
  have hI2 := hI.setf (b := 43) (w := 0) (z := 0) tf43_0 rfl (by omega) (by omega)
  have hF4 := hF.setf (b := 43) (w := 0) (z := 0) rfl
  have hR5 := hR.setf (b := 43) (w := 0) (z := 0)
  refine yT_gen (fun S1 hS3 => ?_)
  rw [hS3] at hI2 hF4 hR5 
  refine r_load (i := 3) (u := 1) (w := 0) rfl rfl rfl ?_
  refine z_lt (i := 4) (v := 9) rfl ⟨by omega, by omega⟩ (fun h6 => ?_) (fun h7 => ?_)
  · refine r_const (i := 9) (u := 0) (z := 0) rfl rfl ?_
    exact r_retZ (i := 10) rfl (by omega) (by omega) ⟨0, rfl, by omega, by omega, (by exact Or.inl ⟨by omega, by omega, ⟨by subst hS3; rfl, fun j => by subst hS3; rfl⟩⟩), hI2, hF4, hR5⟩
  · refine r_load (i := 5) (u := 1) (w := 0) rfl rfl rfl ?_
    refine r_load (i := 6) (u := 0) (w := 2) rfl rfl rfl ?_
    have h8 := hI2.f tf43_42
    have h9 : S1.f 43 42 = S.f 43 42 := by rw [← hS3]; exact ysf_ne (by decide)
    refine r_getf (i := 7) (v := 42) (w := 11) (x := vi (S1.f 43 42)) rfl ly43 rfl rfl fun h10 => ?_
    have h10 : Rg (S1.f 43 42) := h10
    refine c_le (i := 8) (v := 11) rfl ⟨by omega, by omega⟩ ⟨by omega, by omega⟩ (fun h11 => ?_) (fun h12 => ?_)
    · refine r_load (i := 11) (u := 0) (w := 2) rfl rfl rfl ?_
      refine r_load (i := 12) (u := 1) (w := 0) rfl rfl rfl ?_
      refine r_putI (i := 13) (v := 42) (w := 11) rfl ly43 rfl ⟨by omega, by omega⟩ ?_
      have hI14 := hI2.setf (b := 43) (w := 42) (z := k) tf43_42 rfl (by omega) (by omega)
      have hF16 := hF4.setf (b := 43) (w := 42) (z := k) rfl
      have hR17 := hR5.setf (b := 43) (w := 42) (z := k)
      refine yT_gen (fun S13 hS15 => ?_)
      rw [hS15] at hI14 hF16 hR17 
      refine r_const (i := 14) (u := 1) (z := 1) rfl rfl ?_
      exact r_retZ (i := 15) rfl (by omega) (by omega) ⟨1, rfl, by omega, by omega, (by exact Or.inr ⟨by omega, by omega, by subst hS3 hS15; exact ysf_eq, fun j => by subst hS3 hS15; rfl⟩), hI14, hF16, hR17⟩
    · refine r_const (i := 9) (u := 0) (z := 0) rfl rfl ?_
      exact r_retZ (i := 10) rfl (by omega) (by omega) ⟨0, rfl, by omega, by omega, (by exact Or.inl ⟨by omega, by omega, ⟨by subst hS3; rfl, fun j => by subst hS3; rfl⟩⟩), hI2, hF4, hR5⟩
/-- ProxyForgeModel.outcome -/
theorem sp228 {G : xk} {S : yS} {d : Nat} (hI : yI S) {w0 : Int} (h_w0 : -2147483648 ≤ w0 ∧ w0 ≤ 2147483647) {v : Int} (h_v : Rl v) (hd : 0 ≤ d) : yT xPr G LY xC228 0 [some ((2, 43)), some (vi w0), some (vl v), none] [] S d (fun r S' => ∃ z : Int, r = (1, vi z) ∧ -2147483648 ≤ z ∧ z ≤ 2147483647 ∧ z = w0 ∧ yI S' ∧ yFr [(43, 37)] [] S S' ∧ yRm [] S S') := by
  refine yT_pad 0 ?_
  show yT xPr G LY xC228 0 [some ((2, 43)), some (vi w0), some (vl v), none] [] S d _
  have hF : yFr [(43, 37)] [] S S := yFr.refl S
  have hR : yRm [] S S := yRm.refl S
  refine r_load (i := 0) (u := 0) (w := 2) rfl rfl rfl ?_
  refine r_load (i := 1) (u := 2) (w := 1) rfl rfl rfl ?_
  refine r_putL (i := 2) (v := 37) (w := 11) rfl ly43 rfl ⟨by omega, by omega⟩ ?_
  have hI2 := hI.setf0 (b := 43) (w := 37) (z := v) rfl rfl
  have hF4 := hF.setf (b := 43) (w := 37) (z := v) rfl
  have hR5 := hR.setf (b := 43) (w := 37) (z := v)
  refine yT_gen (fun S1 hS3 => ?_)
  rw [hS3] at hI2 hF4 hR5 
  refine r_load (i := 3) (u := 1) (w := 0) rfl rfl rfl ?_
  exact r_retI (i := 4) rfl ⟨w0, rfl, by omega, by omega, (by omega), hI2, hF4, hR5⟩
/-- ProxyForgeModel.original -/
theorem sp225 {G : xk} {S : yS} {d : Nat} (hI : yI S) {m : Int} (h_m : 0 ≤ m ∧ m ≤ 59) (hd : 1 ≤ d) : yT xPr G LY xC225 0 [some ((2, 43)), some (vi m)] [] S d (fun r S' => ∃ z : Int, r = (1, vi z) ∧ 0 ≤ z ∧ z ≤ 5 ∧ yI S' ∧ yFr [(43, 37)] [] S S' ∧ yRm [] S S') := by
  refine yT_pad 0 ?_
  show yT xPr G LY xC225 0 [some ((2, 43)), some (vi m)] [] S d _
  obtain ⟨d, rfl⟩ : ∃ q, d = q + 1 := ⟨d - 1, by omega⟩
  have hF : yFr [(43, 37)] [] S S := yFr.refl S
  have hR : yRm [] S S := yRm.refl S
  refine r_load (i := 0) (u := 0) (w := 2) rfl rfl rfl ?_
  refine r_getf (i := 1) (v := 13) (w := 11) (x := (2, 54)) rfl ly43 rfl rfl fun _ => ?_
  refine r_load (i := 2) (u := 1) (w := 0) rfl rfl rfl ?_
  refine a_int (i := 3) rfl ly54 rfl (by omega) (by omega) fun h2 => ?_
  have h3 := hI.a ta54 m.toNat
  refine r_const (i := 4) (u := 32) (z := 32) rfl rfl ?_
  refine r_iand (i := 5) rfl ?_
  have h4 := @yand_c (S.a 54 m.toNat) 32 (by decide) (by decide)
  refine z_le (i := 6) (v := 12) rfl ⟨by omega, by omega⟩ (fun h5 => ?_) (fun h6 => ?_)
  · refine r_load (i := 12) (u := 0) (w := 2) rfl rfl rfl ?_
    refine r_const (i := 13) (u := 0) (z := 0) rfl rfl ?_
    refine r_load (i := 14) (u := 0) (w := 2) rfl rfl rfl ?_
    refine r_getf (i := 15) (v := 15) (w := 11) (x := (2, 56)) rfl ly43 rfl rfl fun _ => ?_
    refine r_load (i := 16) (u := 1) (w := 0) rfl rfl rfl ?_
    refine a_int (i := 17) rfl ly56 rfl (by omega) (by omega) fun h8 => ?_
    have h9 := hI.a ta56 m.toNat
    refine r_const (i := 18) (u := 3) (z := 3) rfl rfl ?_
    refine c_le (i := 19) (v := 22) rfl ⟨by omega, by omega⟩ ⟨by omega, by omega⟩ (fun h10 => ?_) (fun h11 => ?_)
    · refine r_lconst (i := 22) (u := 0) (z := 0) rfl rfl ?_
      refine r_call (i := 23) (u := 11) (v := 228) (w := 0) (b := 0) (na := 1027) (C2 := xC228) (as := [(2, 43), vi 0, vl 0]) (s := []) rfl rfl rfl rfl rfl rfl rfl (sp228 (w0 := 0) (v := 0) hI ⟨by omega, by omega⟩ ⟨by omega, by omega⟩   (by omega)) (fun r12 S13 hq14 => ?_)
      obtain ⟨z15, rfl, h16, h17, h18, hI19, hF20, hR21⟩ := hq14
      have hF22 := hF.trans hF20 rfl rfl
      have hR23 := hR.trans hR21 rfl
      refine Or.inr (Or.inl ⟨rfl, ?_⟩)
      exact r_retI (i := 24) rfl ⟨z15, rfl, by omega, by omega, hI19, hF22, hR23⟩
    · refine r_lconst (i := 20) (u := 18446744073709551615) (z := -1) rfl rfl ?_
      refine r_goto (i := 21) (v := 23) rfl ?_
      refine r_call (i := 23) (u := 11) (v := 228) (w := 0) (b := 0) (na := 1027) (C2 := xC228) (as := [(2, 43), vi 0, vl (-1)]) (s := []) rfl rfl rfl rfl rfl rfl rfl (sp228 (w0 := 0) (v := -1) hI ⟨by omega, by omega⟩ ⟨by omega, by omega⟩   (by omega)) (fun r24 S25 hq26 => ?_)
      obtain ⟨z27, rfl, h28, h29, h30, hI31, hF32, hR33⟩ := hq26
      have hF34 := hF.trans hF32 rfl rfl
      have hR35 := hR.trans hR33 rfl
      refine Or.inr (Or.inl ⟨rfl, ?_⟩)
      exact r_retI (i := 24) rfl ⟨z27, rfl, by omega, by omega, hI31, hF34, hR35⟩
  · refine r_load (i := 7) (u := 0) (w := 2) rfl rfl rfl ?_
    refine r_const (i := 8) (u := 5) (z := 5) rfl rfl ?_
    refine r_lconst (i := 9) (u := 0) (z := 0) rfl rfl ?_
    refine r_call (i := 10) (u := 11) (v := 228) (w := 0) (b := 0) (na := 1027) (C2 := xC228) (as := [(2, 43), vi 5, vl 0]) (s := []) rfl rfl rfl rfl rfl rfl rfl (sp228 (w0 := 5) (v := 0) hI ⟨by omega, by omega⟩ ⟨by omega, by omega⟩   (by omega)) (fun r36 S37 hq38 => ?_)
    obtain ⟨z39, rfl, h40, h41, h42, hI43, hF44, hR45⟩ := hq38
    have hF46 := hF.trans hF44 rfl rfl
    have hR47 := hR.trans hR45 rfl
    refine Or.inr (Or.inl ⟨rfl, ?_⟩)
    exact r_retI (i := 11) rfl ⟨z39, rfl, by omega, by omega, hI43, hF46, hR47⟩
/-- ProxyForgeModel.unboxed -/
theorem sp260 {G : xk} {S : yS} {d : Nat} (hI : yI S) {b : Int} (h_b : 0 ≤ b ∧ b ≤ 23) (hd : 1 ≤ d) : yT xPr G LY xC260 0 [some ((2, 43)), some (vi b)] [] S d (fun r S' => ∃ z : Int, r = (1, vi z) ∧ 0 ≤ z ∧ z ≤ 5 ∧ yI S' ∧ yFr [(43, 37)] [68] S S' ∧ yRm [] S S') := by
  refine yT_pad 0 ?_
  show yT xPr G LY xC260 0 [some ((2, 43)), some (vi b)] [] S d _
  obtain ⟨d, rfl⟩ : ∃ q, d = q + 1 := ⟨d - 1, by omega⟩
  have hF : yFr [(43, 37)] [68] S S := yFr.refl S
  have hR : yRm [] S S := yRm.refl S
  refine r_load (i := 0) (u := 1) (w := 0) rfl rfl rfl ?_
  refine z_ne (i := 1) (v := 7) rfl ⟨by omega, by omega⟩ (fun h1 => ?_) (fun h2 => ?_)
  · refine r_load (i := 7) (u := 1) (w := 0) rfl rfl rfl ?_
    refine r_const (i := 8) (u := 4) (z := 4) rfl rfl ?_
    refine c_ge (i := 9) (v := 33) rfl ⟨by omega, by omega⟩ ⟨by omega, by omega⟩ (fun h3 => ?_) (fun h4 => ?_)
    · refine r_load (i := 33) (u := 0) (w := 2) rfl rfl rfl ?_
      have h5 := hI.f tf43_33
      have h6 := hI.m2
      refine r_getf (i := 34) (v := 33) (w := 11) (x := vi (S.f 43 33)) rfl ly43 rfl rfl fun h7 => ?_
      have h7 : Rg (S.f 43 33) := h7
      refine z_ne (i := 35) (v := 41) rfl ⟨by omega, by omega⟩ (fun h8 => ?_) (fun h9 => ?_)
      · refine r_load (i := 41) (u := 0) (w := 2) rfl rfl rfl ?_
        refine r_getf (i := 42) (v := 33) (w := 11) (x := vi (S.f 43 33)) rfl ly43 rfl rfl fun h10 => ?_
        have h10 : Rg (S.f 43 33) := h10
        refine r_const (i := 43) (u := 4) (z := 4) rfl rfl ?_
        refine c_ge (i := 44) (v := 62) rfl ⟨by omega, by omega⟩ ⟨by omega, by omega⟩ (fun h11 => ?_) (fun h12 => ?_)
        · refine r_load (i := 62) (u := 0) (w := 2) rfl rfl rfl ?_
          refine r_load (i := 63) (u := 0) (w := 2) rfl rfl rfl ?_
          have h13 := hI.m2
          refine r_getf (i := 64) (v := 36) (w := 11) (x := vl (S.f 43 36)) rfl ly43 rfl rfl fun h14 => ?_
          have h14 : Rl (S.f 43 36) := h14
          refine r_l2i (i := 65) rfl ?_
          rw [vi_sg (S.f 43 36)]
          have h15 := ysg_fact (S.f 43 36)
          refine r_load (i := 66) (u := 1) (w := 0) rfl rfl rfl ?_
          refine r_const (i := 67) (u := 4) (z := 4) rfl rfl ?_
          refine r_isub (i := 68) rfl ?_
          have h16 := hI.f tf43_1
          refine r_call (i := 69) (u := 11) (v := 261) (w := 0) (b := 0) (na := 1795) (C2 := xC261) (as := [(2, 43), vi (ysg (S.f 43 36)), vi (b - 4)]) (s := []) rfl rfl rfl rfl rfl rfl rfl (sp261 (t := ysg (S.f 43 36)) (o := b - 4) hI ⟨by omega, by omega⟩ ⟨by omega, by omega⟩   (by omega)) (fun r17 S18 hq19 => ?_)
          obtain ⟨z20, rfl, h21, h22, um23, hI24, hF25, hR26⟩ := hq19
          have hF27 := hF.trans hF25 rfl rfl
          have hR28 := hR.trans hR26 rfl
          refine Or.inr (Or.inl ⟨rfl, ?_⟩)
          refine z_eq (i := 70) (v := 77) rfl ⟨by omega, by omega⟩ (fun h29 => ?_) (fun h30 => ?_)
          · refine r_load (i := 77) (u := 0) (w := 2) rfl rfl rfl ?_
            refine r_const (i := 78) (u := 3) (z := 3) rfl rfl ?_
            refine r_lconst (i := 79) (u := 0) (z := 0) rfl rfl ?_
            refine r_call (i := 80) (u := 11) (v := 228) (w := 0) (b := 0) (na := 1027) (C2 := xC228) (as := [(2, 43), vi 3, vl 0]) (s := []) rfl rfl rfl rfl rfl rfl rfl (sp228 (w0 := 3) (v := 0) hI24 ⟨by omega, by omega⟩ ⟨by omega, by omega⟩   (by omega)) (fun r31 S32 hq33 => ?_)
            obtain ⟨z34, rfl, h35, h36, h37, hI38, hF39, hR40⟩ := hq33
            have hF41 := hF27.trans hF39 rfl rfl
            have hR42 := hR28.trans hR40 rfl
            refine Or.inr (Or.inl ⟨rfl, ?_⟩)
            exact r_retI (i := 81) rfl ⟨z34, rfl, by omega, by omega, hI38, hF41, hR42⟩
          · refine r_load (i := 71) (u := 0) (w := 2) rfl rfl rfl ?_
            refine r_const (i := 72) (u := 0) (z := 0) rfl rfl ?_
            refine r_load (i := 73) (u := 0) (w := 2) rfl rfl rfl ?_
            have h43 := hI24.m2
            have h44 : S18.f 43 36 = S.f 43 36 := hF25.f rfl
            refine r_getf (i := 74) (v := 36) (w := 11) (x := vl (S18.f 43 36)) rfl ly43 rfl rfl fun h45 => ?_
            have h45 : Rl (S18.f 43 36) := h45
            refine r_call (i := 75) (u := 11) (v := 228) (w := 0) (b := 0) (na := 1027) (C2 := xC228) (as := [(2, 43), vi 0, vl (S18.f 43 36)]) (s := []) rfl rfl rfl rfl rfl rfl rfl (sp228 (w0 := 0) (v := S18.f 43 36) hI24 ⟨by omega, by omega⟩ ⟨by omega, by omega⟩   (by omega)) (fun r46 S47 hq48 => ?_)
            obtain ⟨z49, rfl, h50, h51, h52, hI53, hF54, hR55⟩ := hq48
            have hF56 := hF27.trans hF54 rfl rfl
            have hR57 := hR28.trans hR55 rfl
            refine Or.inr (Or.inl ⟨rfl, ?_⟩)
            refine r_goto (i := 76) (v := 81) rfl ?_
            exact r_retI (i := 81) rfl ⟨z49, rfl, by omega, by omega, hI53, hF56, hR57⟩
        · refine r_load (i := 45) (u := 1) (w := 0) rfl rfl rfl ?_
          refine r_const (i := 46) (u := 4) (z := 4) rfl rfl ?_
          refine c_ne (i := 47) (v := 57) rfl ⟨by omega, by omega⟩ ⟨by omega, by omega⟩ (fun h58 => ?_) (fun h59 => ?_)
          · refine r_load (i := 57) (u := 0) (w := 2) rfl rfl rfl ?_
            refine r_const (i := 58) (u := 3) (z := 3) rfl rfl ?_
            refine r_lconst (i := 59) (u := 0) (z := 0) rfl rfl ?_
            refine r_call (i := 60) (u := 11) (v := 228) (w := 0) (b := 0) (na := 1027) (C2 := xC228) (as := [(2, 43), vi 3, vl 0]) (s := []) rfl rfl rfl rfl rfl rfl rfl (sp228 (w0 := 3) (v := 0) hI ⟨by omega, by omega⟩ ⟨by omega, by omega⟩   (by omega)) (fun r60 S61 hq62 => ?_)
            obtain ⟨z63, rfl, h64, h65, h66, hI67, hF68, hR69⟩ := hq62
            have hF70 := hF.trans hF68 rfl rfl
            have hR71 := hR.trans hR69 rfl
            refine Or.inr (Or.inl ⟨rfl, ?_⟩)
            exact r_retI (i := 61) rfl ⟨z63, rfl, by omega, by omega, hI67, hF70, hR71⟩
          · refine r_load (i := 48) (u := 0) (w := 2) rfl rfl rfl ?_
            refine r_const (i := 49) (u := 0) (z := 0) rfl rfl ?_
            refine r_lconst (i := 50) (u := 18446744073709551615) (z := -1) rfl rfl ?_
            refine r_load (i := 51) (u := 0) (w := 2) rfl rfl rfl ?_
            refine r_getf (i := 52) (v := 33) (w := 11) (x := vi (S.f 43 33)) rfl ly43 rfl rfl fun h72 => ?_
            have h72 : Rg (S.f 43 33) := h72
            refine r_i2l (i := 53) rfl ⟨by omega, by omega⟩ ?_
            refine r_lsub (i := 54) rfl ?_
            refine r_call (i := 55) (u := 11) (v := 228) (w := 0) (b := 0) (na := 1027) (C2 := xC228) (as := [(2, 43), vi 0, vl ((-1) - (S.f 43 33))]) (s := []) rfl rfl rfl rfl rfl rfl rfl (sp228 (w0 := 0) (v := (-1) - (S.f 43 33)) hI ⟨by omega, by omega⟩ ⟨by omega, by omega⟩   (by omega)) (fun r73 S74 hq75 => ?_)
            obtain ⟨z76, rfl, h77, h78, h79, hI80, hF81, hR82⟩ := hq75
            have hF83 := hF.trans hF81 rfl rfl
            have hR84 := hR.trans hR82 rfl
            refine Or.inr (Or.inl ⟨rfl, ?_⟩)
            refine r_goto (i := 56) (v := 61) rfl ?_
            exact r_retI (i := 61) rfl ⟨z76, rfl, by omega, by omega, hI80, hF83, hR84⟩
      · refine r_load (i := 36) (u := 0) (w := 2) rfl rfl rfl ?_
        refine r_const (i := 37) (u := 0) (z := 0) rfl rfl ?_
        refine r_lconst (i := 38) (u := 18446744073709551615) (z := -1) rfl rfl ?_
        refine r_call (i := 39) (u := 11) (v := 228) (w := 0) (b := 0) (na := 1027) (C2 := xC228) (as := [(2, 43), vi 0, vl (-1)]) (s := []) rfl rfl rfl rfl rfl rfl rfl (sp228 (w0 := 0) (v := -1) hI ⟨by omega, by omega⟩ ⟨by omega, by omega⟩   (by omega)) (fun r85 S86 hq87 => ?_)
        obtain ⟨z88, rfl, h89, h90, h91, hI92, hF93, hR94⟩ := hq87
        have hF95 := hF.trans hF93 rfl rfl
        have hR96 := hR.trans hR94 rfl
        refine Or.inr (Or.inl ⟨rfl, ?_⟩)
        exact r_retI (i := 40) rfl ⟨z88, rfl, by omega, by omega, hI92, hF95, hR96⟩
    · refine r_load (i := 10) (u := 0) (w := 2) rfl rfl rfl ?_
      have h97 := hI.f tf43_33
      have h98 := hI.m2
      refine r_getf (i := 11) (v := 33) (w := 11) (x := vi (S.f 43 33)) rfl ly43 rfl rfl fun h99 => ?_
      have h99 : Rg (S.f 43 33) := h99
      refine z_ne (i := 12) (v := 18) rfl ⟨by omega, by omega⟩ (fun h100 => ?_) (fun h101 => ?_)
      · refine r_load (i := 18) (u := 0) (w := 2) rfl rfl rfl ?_
        refine r_getf (i := 19) (v := 33) (w := 11) (x := vi (S.f 43 33)) rfl ly43 rfl rfl fun h102 => ?_
        have h102 : Rg (S.f 43 33) := h102
        refine r_load (i := 20) (u := 1) (w := 0) rfl rfl rfl ?_
        refine c_ne (i := 21) (v := 28) rfl ⟨by omega, by omega⟩ ⟨by omega, by omega⟩ (fun h103 => ?_) (fun h104 => ?_)
        · refine r_load (i := 28) (u := 0) (w := 2) rfl rfl rfl ?_
          refine r_const (i := 29) (u := 3) (z := 3) rfl rfl ?_
          refine r_lconst (i := 30) (u := 0) (z := 0) rfl rfl ?_
          refine r_call (i := 31) (u := 11) (v := 228) (w := 0) (b := 0) (na := 1027) (C2 := xC228) (as := [(2, 43), vi 3, vl 0]) (s := []) rfl rfl rfl rfl rfl rfl rfl (sp228 (w0 := 3) (v := 0) hI ⟨by omega, by omega⟩ ⟨by omega, by omega⟩   (by omega)) (fun r105 S106 hq107 => ?_)
          obtain ⟨z108, rfl, h109, h110, h111, hI112, hF113, hR114⟩ := hq107
          have hF115 := hF.trans hF113 rfl rfl
          have hR116 := hR.trans hR114 rfl
          refine Or.inr (Or.inl ⟨rfl, ?_⟩)
          exact r_retI (i := 32) rfl ⟨z108, rfl, by omega, by omega, hI112, hF115, hR116⟩
        · refine r_load (i := 22) (u := 0) (w := 2) rfl rfl rfl ?_
          refine r_const (i := 23) (u := 0) (z := 0) rfl rfl ?_
          refine r_load (i := 24) (u := 0) (w := 2) rfl rfl rfl ?_
          have h117 := hI.m2
          refine r_getf (i := 25) (v := 36) (w := 11) (x := vl (S.f 43 36)) rfl ly43 rfl rfl fun h118 => ?_
          have h118 : Rl (S.f 43 36) := h118
          refine r_call (i := 26) (u := 11) (v := 228) (w := 0) (b := 0) (na := 1027) (C2 := xC228) (as := [(2, 43), vi 0, vl (S.f 43 36)]) (s := []) rfl rfl rfl rfl rfl rfl rfl (sp228 (w0 := 0) (v := S.f 43 36) hI ⟨by omega, by omega⟩ ⟨by omega, by omega⟩   (by omega)) (fun r119 S120 hq121 => ?_)
          obtain ⟨z122, rfl, h123, h124, h125, hI126, hF127, hR128⟩ := hq121
          have hF129 := hF.trans hF127 rfl rfl
          have hR130 := hR.trans hR128 rfl
          refine Or.inr (Or.inl ⟨rfl, ?_⟩)
          refine r_goto (i := 27) (v := 32) rfl ?_
          exact r_retI (i := 32) rfl ⟨z122, rfl, by omega, by omega, hI126, hF129, hR130⟩
      · refine r_load (i := 13) (u := 0) (w := 2) rfl rfl rfl ?_
        refine r_const (i := 14) (u := 2) (z := 2) rfl rfl ?_
        refine r_lconst (i := 15) (u := 0) (z := 0) rfl rfl ?_
        refine r_call (i := 16) (u := 11) (v := 228) (w := 0) (b := 0) (na := 1027) (C2 := xC228) (as := [(2, 43), vi 2, vl 0]) (s := []) rfl rfl rfl rfl rfl rfl rfl (sp228 (w0 := 2) (v := 0) hI ⟨by omega, by omega⟩ ⟨by omega, by omega⟩   (by omega)) (fun r131 S132 hq133 => ?_)
        obtain ⟨z134, rfl, h135, h136, h137, hI138, hF139, hR140⟩ := hq133
        have hF141 := hF.trans hF139 rfl rfl
        have hR142 := hR.trans hR140 rfl
        refine Or.inr (Or.inl ⟨rfl, ?_⟩)
        refine r_goto (i := 17) (v := 32) rfl ?_
        exact r_retI (i := 32) rfl ⟨z134, rfl, by omega, by omega, hI138, hF141, hR142⟩
  · refine r_load (i := 2) (u := 0) (w := 2) rfl rfl rfl ?_
    refine r_const (i := 3) (u := 0) (z := 0) rfl rfl ?_
    refine r_lconst (i := 4) (u := 0) (z := 0) rfl rfl ?_
    refine r_call (i := 5) (u := 11) (v := 228) (w := 0) (b := 0) (na := 1027) (C2 := xC228) (as := [(2, 43), vi 0, vl 0]) (s := []) rfl rfl rfl rfl rfl rfl rfl (sp228 (w0 := 0) (v := 0) hI ⟨by omega, by omega⟩ ⟨by omega, by omega⟩   (by omega)) (fun r143 S144 hq145 => ?_)
    obtain ⟨z146, rfl, h147, h148, h149, hI150, hF151, hR152⟩ := hq145
    have hF153 := hF.trans hF151 rfl rfl
    have hR154 := hR.trans hR152 rfl
    refine Or.inr (Or.inl ⟨rfl, ?_⟩)
    exact r_retI (i := 6) rfl ⟨z146, rfl, by omega, by omega, hI150, hF153, hR154⟩
theorem lp212_16 {G : xk} {d : Nat} {S0 : yS} {k : Int} (h_k : 0 ≤ k ∧ k ≤ 23) {t : Int} (h_t : 0 ≤ t ∧ t ≤ 19) (hd : 1 ≤ d + 1) : ∀ (n : Nat), ∀ (S : yS) (hI : yI S) (hF : yFr [] [68] S0 S) (hR : yRm [] S0 S) (g0 j : Int) (h_g0 : 0 ≤ g0 ∧ g0 ≤ 1) (h_j : 0 ≤ j ∧ j ≤ 3) (hn : 3 - j < (n : Nat)), yT xPr G LY xC212 16 [some ((2, 43)), some (vi k), some (vi t), some (vi g0), some (vi j)] [] S (d + 1) (fun r S' => ∃ z : Int, r = (1, vi z) ∧ 0 ≤ z ∧ z ≤ 1 ∧ yI S' ∧ yFr [] [68] S0 S' ∧ yRm [] S0 S') := by
  intro n
  induction n with
  | zero => intro S hI hF hR g0 j h_g0 h_j hn; exact absurd hn (by omega)
  | succ n ih =>
    intro S hI hF hR g0 j h_g0 h_j hn
    refine r_load (i := 16) (u := 4) (w := 0) rfl rfl rfl ?_
    refine r_load (i := 17) (u := 0) (w := 2) rfl rfl rfl ?_
    refine r_getf (i := 18) (v := 26) (w := 11) (x := (2, 63)) rfl ly43 rfl rfl fun _ => ?_
    refine r_load (i := 19) (u := 1) (w := 0) rfl rfl rfl ?_
    refine a_int (i := 20) rfl ly63 rfl (by omega) (by omega) fun h2 => ?_
    have h3 := hI.a ta63 k.toNat
    have h4 : S.a 63 k.toNat = S0.a 63 k.toNat := hF.a rfl _
    refine c_ge (i := 21) (v := 38) rfl ⟨by omega, by omega⟩ ⟨by omega, by omega⟩ (fun h5 => ?_) (fun h6 => ?_)
    · refine r_load (i := 38) (u := 3) (w := 0) rfl rfl rfl ?_
      exact r_retZ (i := 39) rfl (by omega) (by omega) ⟨g0, rfl, by omega, by omega, hI, hF, hR⟩
    · refine r_load (i := 22) (u := 3) (w := 0) rfl rfl rfl ?_
      refine z_ne (i := 23) (v := 38) rfl ⟨by omega, by omega⟩ (fun h7 => ?_) (fun h8 => ?_)
      · refine r_load (i := 38) (u := 3) (w := 0) rfl rfl rfl ?_
        exact r_retZ (i := 39) rfl (by omega) (by omega) ⟨g0, rfl, by omega, by omega, hI, hF, hR⟩
      · refine r_load (i := 24) (u := 0) (w := 2) rfl rfl rfl ?_
        refine r_load (i := 25) (u := 2) (w := 0) rfl rfl rfl ?_
        refine r_load (i := 26) (u := 0) (w := 2) rfl rfl rfl ?_
        refine r_getf (i := 27) (v := 25) (w := 11) (x := (2, 62)) rfl ly43 rfl rfl fun _ => ?_
        refine r_const (i := 28) (u := 3) (z := 3) rfl rfl ?_
        refine r_load (i := 29) (u := 1) (w := 0) rfl rfl rfl ?_
        refine r_imul (i := 30) rfl ?_
        refine r_load (i := 31) (u := 4) (w := 0) rfl rfl rfl ?_
        refine r_iadd (i := 32) rfl ?_
        refine a_int (i := 33) rfl ly62 rfl (by omega) (by omega) fun h10 => ?_
        have h11 := hI.a ta62 ((3 * k) + j).toNat
        have h12 : S.a 62 ((3 * k) + j).toNat = S0.a 62 ((3 * k) + j).toNat := hF.a rfl _
        have h13 := hI.f tf43_1
        have h14 : S.f 43 1 = S0.f 43 1 := hF.f rfl
        refine r_call (i := 34) (u := 11) (v := 261) (w := 0) (b := 0) (na := 1795) (C2 := xC261) (as := [(2, 43), vi t, vi (S.a 62 ((3 * k) + j).toNat)]) (s := []) rfl rfl rfl rfl rfl rfl rfl (sp261 (t := t) (o := S.a 62 ((3 * k) + j).toNat) hI ⟨by omega, by omega⟩ ⟨by omega, by omega⟩   (by omega)) (fun r15 S16 hq17 => ?_)
        obtain ⟨z18, rfl, h19, h20, um21, hI22, hF23, hR24⟩ := hq17
        have hF25 := hF.trans hF23 rfl rfl
        have hR26 := hR.trans hR24 rfl
        refine Or.inr (Or.inl ⟨rfl, ?_⟩)
        refine r_store (i := 35) (u := 3) (w := 0) (L1 := [some ((2, 43)), some (vi k), some (vi t), some (vi z18), some (vi j)]) rfl rfl rfl rfl ?_
        refine r_iinc (i := 36) (u := 1) (v := 4) (s := 1) (L1 := [some ((2, 43)), some (vi k), some (vi t), some (vi z18), some (vi (j + 1))]) rfl rfl rfl rfl rfl ?_
        refine r_goto (i := 37) (v := 16) rfl ?_
        exact ih S16 hI22 hF25 hR26 z18 (j + 1) ⟨by omega, by omega⟩ ⟨by omega, by omega⟩  (by omega)
/-- ProxyForgeModel.isThrown -/
theorem sp212 {G : xk} {S : yS} {d : Nat} (hI : yI S) {k : Int} (h_k : 0 ≤ k ∧ k ≤ 23) {t : Int} (h_t : 0 ≤ t ∧ t ≤ 19) (hd : 1 ≤ d) : yT xPr G LY xC212 0 [some ((2, 43)), some (vi k), some (vi t)] [] S d (fun r S' => ∃ z : Int, r = (1, vi z) ∧ 0 ≤ z ∧ z ≤ 1 ∧ yI S' ∧ yFr [] [68] S S' ∧ yRm [] S S') := by
  refine yT_pad 2 ?_
  show yT xPr G LY xC212 0 [some ((2, 43)), some (vi k), some (vi t), none, none] [] S d _
  obtain ⟨d, rfl⟩ : ∃ q, d = q + 1 := ⟨d - 1, by omega⟩
  have hF : yFr [] [68] S S := yFr.refl S
  have hR : yRm [] S S := yRm.refl S
  refine r_load (i := 0) (u := 0) (w := 2) rfl rfl rfl ?_
  refine r_load (i := 1) (u := 2) (w := 0) rfl rfl rfl ?_
  refine r_const (i := 2) (u := 2) (z := 2) rfl rfl ?_
  have h1 := hI.f tf43_1
  refine r_call (i := 3) (u := 11) (v := 261) (w := 0) (b := 0) (na := 1795) (C2 := xC261) (as := [(2, 43), vi t, vi 2]) (s := []) rfl rfl rfl rfl rfl rfl rfl (sp261 (t := t) (o := 2) hI ⟨by omega, by omega⟩ ⟨by omega, by omega⟩   (by omega)) (fun r2 S3 hq4 => ?_)
  obtain ⟨z5, rfl, h6, h7, um8, hI9, hF10, hR11⟩ := hq4
  have hF12 := hF.trans hF10 rfl rfl
  have hR13 := hR.trans hR11 rfl
  refine Or.inr (Or.inl ⟨rfl, ?_⟩)
  refine z_ne (i := 4) (v := 10) rfl ⟨by omega, by omega⟩ (fun h14 => ?_) (fun h15 => ?_)
  · refine r_const (i := 10) (u := 1) (z := 1) rfl rfl ?_
    refine r_goto (i := 11) (v := 13) rfl ?_
    refine r_store (i := 13) (u := 3) (w := 0) (L1 := [some ((2, 43)), some (vi k), some (vi t), some (vi 1), none]) rfl rfl rfl rfl ?_
    refine r_const (i := 14) (u := 0) (z := 0) rfl rfl ?_
    refine r_store (i := 15) (u := 4) (w := 0) (L1 := [some ((2, 43)), some (vi k), some (vi t), some (vi 1), some (vi 0)]) rfl rfl rfl rfl ?_
    exact lp212_16 h_k h_t  hd _ S3 hI9 hF12 hR13 1 0 ⟨by omega, by omega⟩ ⟨by omega, by omega⟩  (Int.lt_succ_toNat _)
  · refine r_load (i := 5) (u := 0) (w := 2) rfl rfl rfl ?_
    refine r_load (i := 6) (u := 2) (w := 0) rfl rfl rfl ?_
    refine r_const (i := 7) (u := 3) (z := 3) rfl rfl ?_
    have h16 := hI9.f tf43_1
    have h17 : S3.f 43 1 = S.f 43 1 := hF10.f rfl
    refine r_call (i := 8) (u := 11) (v := 261) (w := 0) (b := 0) (na := 1795) (C2 := xC261) (as := [(2, 43), vi t, vi 3]) (s := []) rfl rfl rfl rfl rfl rfl rfl (sp261 (t := t) (o := 3) hI9 ⟨by omega, by omega⟩ ⟨by omega, by omega⟩   (by omega)) (fun r18 S19 hq20 => ?_)
    obtain ⟨z21, rfl, h22, h23, um24, hI25, hF26, hR27⟩ := hq20
    have hF28 := hF12.trans hF26 rfl rfl
    have hR29 := hR13.trans hR27 rfl
    refine Or.inr (Or.inl ⟨rfl, ?_⟩)
    refine z_eq (i := 9) (v := 12) rfl ⟨by omega, by omega⟩ (fun h30 => ?_) (fun h31 => ?_)
    · refine r_const (i := 12) (u := 0) (z := 0) rfl rfl ?_
      refine r_store (i := 13) (u := 3) (w := 0) (L1 := [some ((2, 43)), some (vi k), some (vi t), some (vi 0), none]) rfl rfl rfl rfl ?_
      refine r_const (i := 14) (u := 0) (z := 0) rfl rfl ?_
      refine r_store (i := 15) (u := 4) (w := 0) (L1 := [some ((2, 43)), some (vi k), some (vi t), some (vi 0), some (vi 0)]) rfl rfl rfl rfl ?_
      exact lp212_16 h_k h_t  hd _ S19 hI25 hF28 hR29 0 0 ⟨by omega, by omega⟩ ⟨by omega, by omega⟩  (Int.lt_succ_toNat _)
    · refine r_const (i := 10) (u := 1) (z := 1) rfl rfl ?_
      refine r_goto (i := 11) (v := 13) rfl ?_
      refine r_store (i := 13) (u := 3) (w := 0) (L1 := [some ((2, 43)), some (vi k), some (vi t), some (vi 1), none]) rfl rfl rfl rfl ?_
      refine r_const (i := 14) (u := 0) (z := 0) rfl rfl ?_
      refine r_store (i := 15) (u := 4) (w := 0) (L1 := [some ((2, 43)), some (vi k), some (vi t), some (vi 1), some (vi 0)]) rfl rfl rfl rfl ?_
      exact lp212_16 h_k h_t  hd _ S19 hI25 hF28 hR29 1 0 ⟨by omega, by omega⟩ ⟨by omega, by omega⟩  (Int.lt_succ_toNat _)
/-- ProxyForgeModel.answer -/
theorem sp181 {G : xk} {S : yS} {d : Nat} (hI : yI S) {w0 : Int} (h_w0 : -2147483648 ≤ w0 ∧ w0 ≤ 2147483647) {v : Int} (h_v : Rl v) (hd : 1 ≤ d) : yT xPr G LY xC181 0 [some ((2, 43)), some (vi w0), some (vl v), none] [] S d (fun r S' => r = (0, (0, 0)) ∧ yI S' ∧ yFr [(43, 0), (43, 33), (43, 36)] [68] S S' ∧ yRm [] S S') := by
  refine yT_pad 2 ?_
  show yT xPr G LY xC181 0 [some ((2, 43)), some (vi w0), some (vl v), none, none, none] [] S d _
  obtain ⟨d, rfl⟩ : ∃ q, d = q + 1 := ⟨d - 1, by omega⟩
  have hF : yFr [(43, 0), (43, 33), (43, 36)] [68] S S := yFr.refl S
  have hR : yRm [] S S := yRm.refl S
  refine r_load (i := 0) (u := 1) (w := 0) rfl rfl rfl ?_
  refine r_const (i := 1) (u := 4) (z := 4) rfl rfl ?_
  refine c_eq (i := 2) (v := 6) rfl ⟨by omega, by omega⟩ ⟨by omega, by omega⟩ (fun h1 => ?_) (fun h2 => ?_)
  · refine r_const (i := 6) (u := 1) (z := 1) rfl rfl ?_
    refine r_goto (i := 7) (v := 9) rfl ?_
    refine r_store (i := 9) (u := 4) (w := 0) (L1 := [some ((2, 43)), some (vi w0), some (vl v), none, some (vi 1), none]) rfl rfl rfl rfl ?_
    refine r_load (i := 10) (u := 1) (w := 0) rfl rfl rfl ?_
    refine z_lt (i := 11) (v := 38) rfl ⟨by omega, by omega⟩ (fun h3 => ?_) (fun h4 => ?_)
    · refine r_const (i := 38) (u := 0) (z := 0) rfl rfl ?_
      refine r_store (i := 39) (u := 5) (w := 0) (L1 := [some ((2, 43)), some (vi w0), some (vl v), none, some (vi 1), some (vi 0)]) rfl rfl rfl rfl ?_
      refine r_load (i := 40) (u := 0) (w := 2) rfl rfl rfl ?_
      refine r_load (i := 41) (u := 5) (w := 0) rfl rfl rfl ?_
      refine z_eq (i := 42) (v := 45) rfl ⟨by omega, by omega⟩ (fun h5 => ?_) (fun h6 => absurd h6 (by omega))
      refine r_const (i := 45) (u := 1) (z := 1) rfl rfl ?_
      refine r_putI (i := 46) (v := 0) (w := 11) rfl ly43 rfl ⟨by omega, by omega⟩ ?_
      have hI8 := hI.setf (b := 43) (w := 0) (z := 1) tf43_0 rfl (by omega) (by omega)
      have hF10 := hF.setf (b := 43) (w := 0) (z := 1) rfl
      have hR11 := hR.setf (b := 43) (w := 0) (z := 1)
      refine yT_gen (fun S7 hS9 => ?_)
      rw [hS9] at hI8 hF10 hR11 
      refine r_load (i := 47) (u := 5) (w := 0) rfl rfl rfl ?_
      refine z_ne (i := 48) (v := 50) rfl ⟨by omega, by omega⟩ (fun h12 => absurd h12 (by omega)) (fun h13 => ?_)
      exact r_ret0 (i := 49) rfl ⟨rfl,  hI8, hF10, hR11⟩
    · refine r_load (i := 12) (u := 1) (w := 0) rfl rfl rfl ?_
      refine r_const (i := 13) (u := 6) (z := 6) rfl rfl ?_
      refine c_ge (i := 14) (v := 38) rfl ⟨by omega, by omega⟩ ⟨by omega, by omega⟩ (fun h14 => ?_) (fun h15 => ?_)
      · refine r_const (i := 38) (u := 0) (z := 0) rfl rfl ?_
        refine r_store (i := 39) (u := 5) (w := 0) (L1 := [some ((2, 43)), some (vi w0), some (vl v), none, some (vi 1), some (vi 0)]) rfl rfl rfl rfl ?_
        refine r_load (i := 40) (u := 0) (w := 2) rfl rfl rfl ?_
        refine r_load (i := 41) (u := 5) (w := 0) rfl rfl rfl ?_
        refine z_eq (i := 42) (v := 45) rfl ⟨by omega, by omega⟩ (fun h16 => ?_) (fun h17 => absurd h17 (by omega))
        refine r_const (i := 45) (u := 1) (z := 1) rfl rfl ?_
        refine r_putI (i := 46) (v := 0) (w := 11) rfl ly43 rfl ⟨by omega, by omega⟩ ?_
        have hI19 := hI.setf (b := 43) (w := 0) (z := 1) tf43_0 rfl (by omega) (by omega)
        have hF21 := hF.setf (b := 43) (w := 0) (z := 1) rfl
        have hR22 := hR.setf (b := 43) (w := 0) (z := 1)
        refine yT_gen (fun S18 hS20 => ?_)
        rw [hS20] at hI19 hF21 hR22 
        refine r_load (i := 47) (u := 5) (w := 0) rfl rfl rfl ?_
        refine z_ne (i := 48) (v := 50) rfl ⟨by omega, by omega⟩ (fun h23 => absurd h23 (by omega)) (fun h24 => ?_)
        exact r_ret0 (i := 49) rfl ⟨rfl,  hI19, hF21, hR22⟩
      · refine r_load (i := 15) (u := 4) (w := 0) rfl rfl rfl ?_
        refine z_eq (i := 16) (v := 36) rfl ⟨by omega, by omega⟩ (fun h25 => absurd h25 (by omega)) (fun h26 => ?_)
        refine r_load (i := 17) (u := 2) (w := 1) rfl rfl rfl ?_
        refine r_lconst (i := 18) (u := 0) (z := 0) rfl rfl ?_
        refine r_lcmp (i := 19) rfl ⟨by omega, by omega⟩ ⟨by omega, by omega⟩ (fun h27 => ?_) (fun h28 => ?_) (fun h29 => ?_)
        · refine z_lt (i := 20) (v := 38) rfl ⟨by omega, by omega⟩ (fun h30 => ?_) (fun h31 => absurd h31 (by omega))
          refine r_const (i := 38) (u := 0) (z := 0) rfl rfl ?_
          refine r_store (i := 39) (u := 5) (w := 0) (L1 := [some ((2, 43)), some (vi w0), some (vl v), none, some (vi 1), some (vi 0)]) rfl rfl rfl rfl ?_
          refine r_load (i := 40) (u := 0) (w := 2) rfl rfl rfl ?_
          refine r_load (i := 41) (u := 5) (w := 0) rfl rfl rfl ?_
          refine z_eq (i := 42) (v := 45) rfl ⟨by omega, by omega⟩ (fun h32 => ?_) (fun h33 => absurd h33 (by omega))
          refine r_const (i := 45) (u := 1) (z := 1) rfl rfl ?_
          refine r_putI (i := 46) (v := 0) (w := 11) rfl ly43 rfl ⟨by omega, by omega⟩ ?_
          have hI35 := hI.setf (b := 43) (w := 0) (z := 1) tf43_0 rfl (by omega) (by omega)
          have hF37 := hF.setf (b := 43) (w := 0) (z := 1) rfl
          have hR38 := hR.setf (b := 43) (w := 0) (z := 1)
          refine yT_gen (fun S34 hS36 => ?_)
          rw [hS36] at hI35 hF37 hR38 
          refine r_load (i := 47) (u := 5) (w := 0) rfl rfl rfl ?_
          refine z_ne (i := 48) (v := 50) rfl ⟨by omega, by omega⟩ (fun h39 => absurd h39 (by omega)) (fun h40 => ?_)
          exact r_ret0 (i := 49) rfl ⟨rfl,  hI35, hF37, hR38⟩
        · refine z_lt (i := 20) (v := 38) rfl ⟨by omega, by omega⟩ (fun h41 => absurd h41 (by omega)) (fun h42 => ?_)
          refine r_load (i := 21) (u := 2) (w := 1) rfl rfl rfl ?_
          refine r_load (i := 22) (u := 0) (w := 2) rfl rfl rfl ?_
          have h43 := hI.f tf43_1
          refine r_getf (i := 23) (v := 1) (w := 11) (x := vi (S.f 43 1)) rfl ly43 rfl rfl fun h44 => ?_
          have h44 : Rg (S.f 43 1) := h44
          refine r_i2l (i := 24) rfl ⟨by omega, by omega⟩ ?_
          refine r_lcmp (i := 25) rfl ⟨by omega, by omega⟩ ⟨by omega, by omega⟩ (fun h45 => ?_) (fun h46 => ?_) (fun h47 => ?_)
          · refine z_ge (i := 26) (v := 38) rfl ⟨by omega, by omega⟩ (fun h48 => absurd h48 (by omega)) (fun h49 => ?_)
            refine r_load (i := 27) (u := 1) (w := 0) rfl rfl rfl ?_
            refine r_const (i := 28) (u := 4) (z := 4) rfl rfl ?_
            refine c_eq (i := 29) (v := 36) rfl ⟨by omega, by omega⟩ ⟨by omega, by omega⟩ (fun h50 => ?_) (fun h51 => ?_)
            · refine r_const (i := 36) (u := 1) (z := 1) rfl rfl ?_
              refine r_goto (i := 37) (v := 39) rfl ?_
              refine r_store (i := 39) (u := 5) (w := 0) (L1 := [some ((2, 43)), some (vi w0), some (vl v), none, some (vi 1), some (vi 1)]) rfl rfl rfl rfl ?_
              refine r_load (i := 40) (u := 0) (w := 2) rfl rfl rfl ?_
              refine r_load (i := 41) (u := 5) (w := 0) rfl rfl rfl ?_
              refine z_eq (i := 42) (v := 45) rfl ⟨by omega, by omega⟩ (fun h52 => absurd h52 (by omega)) (fun h53 => ?_)
              refine r_const (i := 43) (u := 0) (z := 0) rfl rfl ?_
              refine r_goto (i := 44) (v := 46) rfl ?_
              refine r_putI (i := 46) (v := 0) (w := 11) rfl ly43 rfl ⟨by omega, by omega⟩ ?_
              have hI55 := hI.setf (b := 43) (w := 0) (z := 0) tf43_0 rfl (by omega) (by omega)
              have hF57 := hF.setf (b := 43) (w := 0) (z := 0) rfl
              have hR58 := hR.setf (b := 43) (w := 0) (z := 0)
              refine yT_gen (fun S54 hS56 => ?_)
              rw [hS56] at hI55 hF57 hR58 
              refine r_load (i := 47) (u := 5) (w := 0) rfl rfl rfl ?_
              refine z_ne (i := 48) (v := 50) rfl ⟨by omega, by omega⟩ (fun h59 => ?_) (fun h60 => absurd h60 (by omega))
              refine r_load (i := 50) (u := 0) (w := 2) rfl rfl rfl ?_
              refine r_load (i := 51) (u := 1) (w := 0) rfl rfl rfl ?_
              refine r_putI (i := 52) (v := 33) (w := 11) rfl ly43 rfl ⟨by omega, by omega⟩ ?_
              have hF64 := hF57.setf (b := 43) (w := 33) (z := w0) rfl
              have hR65 := hR58.setf (b := 43) (w := 33) (z := w0)
              refine yT_gen (fun S61 hS63 => ?_)
              rw [hS63] at hF64 hR65 
              refine r_load (i := 53) (u := 0) (w := 2) rfl rfl rfl ?_
              refine r_load (i := 54) (u := 1) (w := 0) rfl rfl rfl ?_
              refine r_const (i := 55) (u := 1) (z := 1) rfl rfl ?_
              refine c_ne (i := 56) (v := 61) rfl ⟨by omega, by omega⟩ ⟨by omega, by omega⟩ (fun h66 => ?_) (fun h67 => ?_)
              · refine r_load (i := 61) (u := 1) (w := 0) rfl rfl rfl ?_
                refine r_const (i := 62) (u := 3) (z := 3) rfl rfl ?_
                refine c_ne (i := 63) (v := 68) rfl ⟨by omega, by omega⟩ ⟨by omega, by omega⟩ (fun h68 => ?_) (fun h69 => ?_)
                · refine r_load (i := 68) (u := 2) (w := 1) rfl rfl rfl ?_
                  refine r_putL (i := 69) (v := 36) (w := 11) rfl ly43 rfl ⟨by omega, by omega⟩ ?_
                  have hI71 := hI55.set43 (z := w0) (y := v) (by omega) (by omega) (by omega)
                  rw [hS63] at hI71
                  have hF73 := hF64.setf (b := 43) (w := 36) (z := v) rfl
                  have hR74 := hR65.setf (b := 43) (w := 36) (z := v)
                  refine yT_gen (fun S70 hS72 => ?_)
                  rw [hS72] at hI71 hF73 hR74 
                  exact r_ret0 (i := 70) rfl ⟨rfl,  hI71, hF73, hR74⟩
                · refine r_load (i := 64) (u := 2) (w := 1) rfl rfl rfl ?_
                  refine r_lconst (i := 65) (u := 1) (z := 1) rfl rfl ?_
                  refine r_land (i := 66) rfl ?_
                  have h75 := @yland_c v 1 (by decide) (by decide)
                  refine r_goto (i := 67) (v := 69) rfl ?_
                  refine r_putL (i := 69) (v := 36) (w := 11) rfl ly43 rfl ⟨by omega, by omega⟩ ?_
                  have hI77 := hI55.set43 (z := w0) (y := yland v 1) (by omega) (by omega) (by omega)
                  rw [hS63] at hI77
                  have hF79 := hF64.setf (b := 43) (w := 36) (z := yland v 1) rfl
                  have hR80 := hR65.setf (b := 43) (w := 36) (z := yland v 1)
                  refine yT_gen (fun S76 hS78 => ?_)
                  rw [hS78] at hI77 hF79 hR80 
                  exact r_ret0 (i := 70) rfl ⟨rfl,  hI77, hF79, hR80⟩
              · refine r_load (i := 57) (u := 2) (w := 1) rfl rfl rfl ?_
                refine r_l2i (i := 58) rfl ?_
                rw [vi_sg v]
                have h81 := ysg_fact v
                refine r_i2l (i := 59) rfl ⟨by omega, by omega⟩ ?_
                refine r_goto (i := 60) (v := 69) rfl ?_
                refine r_putL (i := 69) (v := 36) (w := 11) rfl ly43 rfl ⟨by omega, by omega⟩ ?_
                have hI83 := hI55.set43 (z := w0) (y := ysg v) (by omega) (by omega) (by omega)
                rw [hS63] at hI83
                have hF85 := hF64.setf (b := 43) (w := 36) (z := ysg v) rfl
                have hR86 := hR65.setf (b := 43) (w := 36) (z := ysg v)
                refine yT_gen (fun S82 hS84 => ?_)
                rw [hS84] at hI83 hF85 hR86 
                exact r_ret0 (i := 70) rfl ⟨rfl,  hI83, hF85, hR86⟩
            · refine r_load (i := 30) (u := 0) (w := 2) rfl rfl rfl ?_
              refine r_load (i := 31) (u := 2) (w := 1) rfl rfl rfl ?_
              refine r_l2i (i := 32) rfl ?_
              rw [vi_sg v]
              have h87 := ysg_fact v
              refine r_const (i := 33) (u := 1) (z := 1) rfl rfl ?_
              refine r_call (i := 34) (u := 11) (v := 261) (w := 0) (b := 0) (na := 1795) (C2 := xC261) (as := [(2, 43), vi (ysg v), vi 1]) (s := []) rfl rfl rfl rfl rfl rfl rfl (sp261 (t := ysg v) (o := 1) hI ⟨by omega, by omega⟩ ⟨by omega, by omega⟩   (by omega)) (fun r88 S89 hq90 => ?_)
              obtain ⟨z91, rfl, h92, h93, um94, hI95, hF96, hR97⟩ := hq90
              have hF98 := hF.trans hF96 rfl rfl
              have hR99 := hR.trans hR97 rfl
              refine Or.inr (Or.inl ⟨rfl, ?_⟩)
              refine z_eq (i := 35) (v := 38) rfl ⟨by omega, by omega⟩ (fun h100 => ?_) (fun h101 => ?_)
              · refine r_const (i := 38) (u := 0) (z := 0) rfl rfl ?_
                refine r_store (i := 39) (u := 5) (w := 0) (L1 := [some ((2, 43)), some (vi w0), some (vl v), none, some (vi 1), some (vi 0)]) rfl rfl rfl rfl ?_
                refine r_load (i := 40) (u := 0) (w := 2) rfl rfl rfl ?_
                refine r_load (i := 41) (u := 5) (w := 0) rfl rfl rfl ?_
                refine z_eq (i := 42) (v := 45) rfl ⟨by omega, by omega⟩ (fun h102 => ?_) (fun h103 => absurd h103 (by omega))
                refine r_const (i := 45) (u := 1) (z := 1) rfl rfl ?_
                refine r_putI (i := 46) (v := 0) (w := 11) rfl ly43 rfl ⟨by omega, by omega⟩ ?_
                have hI105 := hI95.setf (b := 43) (w := 0) (z := 1) tf43_0 rfl (by omega) (by omega)
                have hF107 := hF98.setf (b := 43) (w := 0) (z := 1) rfl
                have hR108 := hR99.setf (b := 43) (w := 0) (z := 1)
                refine yT_gen (fun S104 hS106 => ?_)
                rw [hS106] at hI105 hF107 hR108 
                refine r_load (i := 47) (u := 5) (w := 0) rfl rfl rfl ?_
                refine z_ne (i := 48) (v := 50) rfl ⟨by omega, by omega⟩ (fun h109 => absurd h109 (by omega)) (fun h110 => ?_)
                exact r_ret0 (i := 49) rfl ⟨rfl,  hI105, hF107, hR108⟩
              · refine r_const (i := 36) (u := 1) (z := 1) rfl rfl ?_
                refine r_goto (i := 37) (v := 39) rfl ?_
                refine r_store (i := 39) (u := 5) (w := 0) (L1 := [some ((2, 43)), some (vi w0), some (vl v), none, some (vi 1), some (vi 1)]) rfl rfl rfl rfl ?_
                refine r_load (i := 40) (u := 0) (w := 2) rfl rfl rfl ?_
                refine r_load (i := 41) (u := 5) (w := 0) rfl rfl rfl ?_
                refine z_eq (i := 42) (v := 45) rfl ⟨by omega, by omega⟩ (fun h111 => absurd h111 (by omega)) (fun h112 => ?_)
                refine r_const (i := 43) (u := 0) (z := 0) rfl rfl ?_
                refine r_goto (i := 44) (v := 46) rfl ?_
                refine r_putI (i := 46) (v := 0) (w := 11) rfl ly43 rfl ⟨by omega, by omega⟩ ?_
                have hI114 := hI95.setf (b := 43) (w := 0) (z := 0) tf43_0 rfl (by omega) (by omega)
                have hF116 := hF98.setf (b := 43) (w := 0) (z := 0) rfl
                have hR117 := hR99.setf (b := 43) (w := 0) (z := 0)
                refine yT_gen (fun S113 hS115 => ?_)
                rw [hS115] at hI114 hF116 hR117 
                refine r_load (i := 47) (u := 5) (w := 0) rfl rfl rfl ?_
                refine z_ne (i := 48) (v := 50) rfl ⟨by omega, by omega⟩ (fun h118 => ?_) (fun h119 => absurd h119 (by omega))
                refine r_load (i := 50) (u := 0) (w := 2) rfl rfl rfl ?_
                refine r_load (i := 51) (u := 1) (w := 0) rfl rfl rfl ?_
                refine r_putI (i := 52) (v := 33) (w := 11) rfl ly43 rfl ⟨by omega, by omega⟩ ?_
                have hF123 := hF116.setf (b := 43) (w := 33) (z := w0) rfl
                have hR124 := hR117.setf (b := 43) (w := 33) (z := w0)
                refine yT_gen (fun S120 hS122 => ?_)
                rw [hS122] at hF123 hR124 
                refine r_load (i := 53) (u := 0) (w := 2) rfl rfl rfl ?_
                refine r_load (i := 54) (u := 1) (w := 0) rfl rfl rfl ?_
                refine r_const (i := 55) (u := 1) (z := 1) rfl rfl ?_
                refine c_ne (i := 56) (v := 61) rfl ⟨by omega, by omega⟩ ⟨by omega, by omega⟩ (fun h125 => ?_) (fun h126 => ?_)
                · refine r_load (i := 61) (u := 1) (w := 0) rfl rfl rfl ?_
                  refine r_const (i := 62) (u := 3) (z := 3) rfl rfl ?_
                  refine c_ne (i := 63) (v := 68) rfl ⟨by omega, by omega⟩ ⟨by omega, by omega⟩ (fun h127 => ?_) (fun h128 => ?_)
                  · refine r_load (i := 68) (u := 2) (w := 1) rfl rfl rfl ?_
                    refine r_putL (i := 69) (v := 36) (w := 11) rfl ly43 rfl ⟨by omega, by omega⟩ ?_
                    have hI130 := hI114.set43 (z := w0) (y := v) (by omega) (by omega) (by omega)
                    rw [hS122] at hI130
                    have hF132 := hF123.setf (b := 43) (w := 36) (z := v) rfl
                    have hR133 := hR124.setf (b := 43) (w := 36) (z := v)
                    refine yT_gen (fun S129 hS131 => ?_)
                    rw [hS131] at hI130 hF132 hR133 
                    exact r_ret0 (i := 70) rfl ⟨rfl,  hI130, hF132, hR133⟩
                  · refine r_load (i := 64) (u := 2) (w := 1) rfl rfl rfl ?_
                    refine r_lconst (i := 65) (u := 1) (z := 1) rfl rfl ?_
                    refine r_land (i := 66) rfl ?_
                    have h134 := @yland_c v 1 (by decide) (by decide)
                    refine r_goto (i := 67) (v := 69) rfl ?_
                    refine r_putL (i := 69) (v := 36) (w := 11) rfl ly43 rfl ⟨by omega, by omega⟩ ?_
                    have hI136 := hI114.set43 (z := w0) (y := yland v 1) (by omega) (by omega) (by omega)
                    rw [hS122] at hI136
                    have hF138 := hF123.setf (b := 43) (w := 36) (z := yland v 1) rfl
                    have hR139 := hR124.setf (b := 43) (w := 36) (z := yland v 1)
                    refine yT_gen (fun S135 hS137 => ?_)
                    rw [hS137] at hI136 hF138 hR139 
                    exact r_ret0 (i := 70) rfl ⟨rfl,  hI136, hF138, hR139⟩
                · refine r_load (i := 57) (u := 2) (w := 1) rfl rfl rfl ?_
                  refine r_l2i (i := 58) rfl ?_
                  rw [vi_sg v]
                  have h140 := ysg_fact v
                  refine r_i2l (i := 59) rfl ⟨by omega, by omega⟩ ?_
                  refine r_goto (i := 60) (v := 69) rfl ?_
                  refine r_putL (i := 69) (v := 36) (w := 11) rfl ly43 rfl ⟨by omega, by omega⟩ ?_
                  have hI142 := hI114.set43 (z := w0) (y := ysg v) (by omega) (by omega) (by omega)
                  rw [hS122] at hI142
                  have hF144 := hF123.setf (b := 43) (w := 36) (z := ysg v) rfl
                  have hR145 := hR124.setf (b := 43) (w := 36) (z := ysg v)
                  refine yT_gen (fun S141 hS143 => ?_)
                  rw [hS143] at hI142 hF144 hR145 
                  exact r_ret0 (i := 70) rfl ⟨rfl,  hI142, hF144, hR145⟩
          · refine z_ge (i := 26) (v := 38) rfl ⟨by omega, by omega⟩ (fun h146 => ?_) (fun h147 => absurd h147 (by omega))
            refine r_const (i := 38) (u := 0) (z := 0) rfl rfl ?_
            refine r_store (i := 39) (u := 5) (w := 0) (L1 := [some ((2, 43)), some (vi w0), some (vl v), none, some (vi 1), some (vi 0)]) rfl rfl rfl rfl ?_
            refine r_load (i := 40) (u := 0) (w := 2) rfl rfl rfl ?_
            refine r_load (i := 41) (u := 5) (w := 0) rfl rfl rfl ?_
            refine z_eq (i := 42) (v := 45) rfl ⟨by omega, by omega⟩ (fun h148 => ?_) (fun h149 => absurd h149 (by omega))
            refine r_const (i := 45) (u := 1) (z := 1) rfl rfl ?_
            refine r_putI (i := 46) (v := 0) (w := 11) rfl ly43 rfl ⟨by omega, by omega⟩ ?_
            have hI151 := hI.setf (b := 43) (w := 0) (z := 1) tf43_0 rfl (by omega) (by omega)
            have hF153 := hF.setf (b := 43) (w := 0) (z := 1) rfl
            have hR154 := hR.setf (b := 43) (w := 0) (z := 1)
            refine yT_gen (fun S150 hS152 => ?_)
            rw [hS152] at hI151 hF153 hR154 
            refine r_load (i := 47) (u := 5) (w := 0) rfl rfl rfl ?_
            refine z_ne (i := 48) (v := 50) rfl ⟨by omega, by omega⟩ (fun h155 => absurd h155 (by omega)) (fun h156 => ?_)
            exact r_ret0 (i := 49) rfl ⟨rfl,  hI151, hF153, hR154⟩
          · refine z_ge (i := 26) (v := 38) rfl ⟨by omega, by omega⟩ (fun h157 => ?_) (fun h158 => absurd h158 (by omega))
            refine r_const (i := 38) (u := 0) (z := 0) rfl rfl ?_
            refine r_store (i := 39) (u := 5) (w := 0) (L1 := [some ((2, 43)), some (vi w0), some (vl v), none, some (vi 1), some (vi 0)]) rfl rfl rfl rfl ?_
            refine r_load (i := 40) (u := 0) (w := 2) rfl rfl rfl ?_
            refine r_load (i := 41) (u := 5) (w := 0) rfl rfl rfl ?_
            refine z_eq (i := 42) (v := 45) rfl ⟨by omega, by omega⟩ (fun h159 => ?_) (fun h160 => absurd h160 (by omega))
            refine r_const (i := 45) (u := 1) (z := 1) rfl rfl ?_
            refine r_putI (i := 46) (v := 0) (w := 11) rfl ly43 rfl ⟨by omega, by omega⟩ ?_
            have hI162 := hI.setf (b := 43) (w := 0) (z := 1) tf43_0 rfl (by omega) (by omega)
            have hF164 := hF.setf (b := 43) (w := 0) (z := 1) rfl
            have hR165 := hR.setf (b := 43) (w := 0) (z := 1)
            refine yT_gen (fun S161 hS163 => ?_)
            rw [hS163] at hI162 hF164 hR165 
            refine r_load (i := 47) (u := 5) (w := 0) rfl rfl rfl ?_
            refine z_ne (i := 48) (v := 50) rfl ⟨by omega, by omega⟩ (fun h166 => absurd h166 (by omega)) (fun h167 => ?_)
            exact r_ret0 (i := 49) rfl ⟨rfl,  hI162, hF164, hR165⟩
        · refine z_lt (i := 20) (v := 38) rfl ⟨by omega, by omega⟩ (fun h168 => absurd h168 (by omega)) (fun h169 => ?_)
          refine r_load (i := 21) (u := 2) (w := 1) rfl rfl rfl ?_
          refine r_load (i := 22) (u := 0) (w := 2) rfl rfl rfl ?_
          have h170 := hI.f tf43_1
          refine r_getf (i := 23) (v := 1) (w := 11) (x := vi (S.f 43 1)) rfl ly43 rfl rfl fun h171 => ?_
          have h171 : Rg (S.f 43 1) := h171
          refine r_i2l (i := 24) rfl ⟨by omega, by omega⟩ ?_
          refine r_lcmp (i := 25) rfl ⟨by omega, by omega⟩ ⟨by omega, by omega⟩ (fun h172 => ?_) (fun h173 => ?_) (fun h174 => ?_)
          · refine z_ge (i := 26) (v := 38) rfl ⟨by omega, by omega⟩ (fun h175 => absurd h175 (by omega)) (fun h176 => ?_)
            refine r_load (i := 27) (u := 1) (w := 0) rfl rfl rfl ?_
            refine r_const (i := 28) (u := 4) (z := 4) rfl rfl ?_
            refine c_eq (i := 29) (v := 36) rfl ⟨by omega, by omega⟩ ⟨by omega, by omega⟩ (fun h177 => ?_) (fun h178 => ?_)
            · refine r_const (i := 36) (u := 1) (z := 1) rfl rfl ?_
              refine r_goto (i := 37) (v := 39) rfl ?_
              refine r_store (i := 39) (u := 5) (w := 0) (L1 := [some ((2, 43)), some (vi w0), some (vl v), none, some (vi 1), some (vi 1)]) rfl rfl rfl rfl ?_
              refine r_load (i := 40) (u := 0) (w := 2) rfl rfl rfl ?_
              refine r_load (i := 41) (u := 5) (w := 0) rfl rfl rfl ?_
              refine z_eq (i := 42) (v := 45) rfl ⟨by omega, by omega⟩ (fun h179 => absurd h179 (by omega)) (fun h180 => ?_)
              refine r_const (i := 43) (u := 0) (z := 0) rfl rfl ?_
              refine r_goto (i := 44) (v := 46) rfl ?_
              refine r_putI (i := 46) (v := 0) (w := 11) rfl ly43 rfl ⟨by omega, by omega⟩ ?_
              have hI182 := hI.setf (b := 43) (w := 0) (z := 0) tf43_0 rfl (by omega) (by omega)
              have hF184 := hF.setf (b := 43) (w := 0) (z := 0) rfl
              have hR185 := hR.setf (b := 43) (w := 0) (z := 0)
              refine yT_gen (fun S181 hS183 => ?_)
              rw [hS183] at hI182 hF184 hR185 
              refine r_load (i := 47) (u := 5) (w := 0) rfl rfl rfl ?_
              refine z_ne (i := 48) (v := 50) rfl ⟨by omega, by omega⟩ (fun h186 => ?_) (fun h187 => absurd h187 (by omega))
              refine r_load (i := 50) (u := 0) (w := 2) rfl rfl rfl ?_
              refine r_load (i := 51) (u := 1) (w := 0) rfl rfl rfl ?_
              refine r_putI (i := 52) (v := 33) (w := 11) rfl ly43 rfl ⟨by omega, by omega⟩ ?_
              have hF191 := hF184.setf (b := 43) (w := 33) (z := w0) rfl
              have hR192 := hR185.setf (b := 43) (w := 33) (z := w0)
              refine yT_gen (fun S188 hS190 => ?_)
              rw [hS190] at hF191 hR192 
              refine r_load (i := 53) (u := 0) (w := 2) rfl rfl rfl ?_
              refine r_load (i := 54) (u := 1) (w := 0) rfl rfl rfl ?_
              refine r_const (i := 55) (u := 1) (z := 1) rfl rfl ?_
              refine c_ne (i := 56) (v := 61) rfl ⟨by omega, by omega⟩ ⟨by omega, by omega⟩ (fun h193 => ?_) (fun h194 => ?_)
              · refine r_load (i := 61) (u := 1) (w := 0) rfl rfl rfl ?_
                refine r_const (i := 62) (u := 3) (z := 3) rfl rfl ?_
                refine c_ne (i := 63) (v := 68) rfl ⟨by omega, by omega⟩ ⟨by omega, by omega⟩ (fun h195 => ?_) (fun h196 => ?_)
                · refine r_load (i := 68) (u := 2) (w := 1) rfl rfl rfl ?_
                  refine r_putL (i := 69) (v := 36) (w := 11) rfl ly43 rfl ⟨by omega, by omega⟩ ?_
                  have hI198 := hI182.set43 (z := w0) (y := v) (by omega) (by omega) (by omega)
                  rw [hS190] at hI198
                  have hF200 := hF191.setf (b := 43) (w := 36) (z := v) rfl
                  have hR201 := hR192.setf (b := 43) (w := 36) (z := v)
                  refine yT_gen (fun S197 hS199 => ?_)
                  rw [hS199] at hI198 hF200 hR201 
                  exact r_ret0 (i := 70) rfl ⟨rfl,  hI198, hF200, hR201⟩
                · refine r_load (i := 64) (u := 2) (w := 1) rfl rfl rfl ?_
                  refine r_lconst (i := 65) (u := 1) (z := 1) rfl rfl ?_
                  refine r_land (i := 66) rfl ?_
                  have h202 := @yland_c v 1 (by decide) (by decide)
                  refine r_goto (i := 67) (v := 69) rfl ?_
                  refine r_putL (i := 69) (v := 36) (w := 11) rfl ly43 rfl ⟨by omega, by omega⟩ ?_
                  have hI204 := hI182.set43 (z := w0) (y := yland v 1) (by omega) (by omega) (by omega)
                  rw [hS190] at hI204
                  have hF206 := hF191.setf (b := 43) (w := 36) (z := yland v 1) rfl
                  have hR207 := hR192.setf (b := 43) (w := 36) (z := yland v 1)
                  refine yT_gen (fun S203 hS205 => ?_)
                  rw [hS205] at hI204 hF206 hR207 
                  exact r_ret0 (i := 70) rfl ⟨rfl,  hI204, hF206, hR207⟩
              · refine r_load (i := 57) (u := 2) (w := 1) rfl rfl rfl ?_
                refine r_l2i (i := 58) rfl ?_
                rw [vi_sg v]
                have h208 := ysg_fact v
                refine r_i2l (i := 59) rfl ⟨by omega, by omega⟩ ?_
                refine r_goto (i := 60) (v := 69) rfl ?_
                refine r_putL (i := 69) (v := 36) (w := 11) rfl ly43 rfl ⟨by omega, by omega⟩ ?_
                have hI210 := hI182.set43 (z := w0) (y := ysg v) (by omega) (by omega) (by omega)
                rw [hS190] at hI210
                have hF212 := hF191.setf (b := 43) (w := 36) (z := ysg v) rfl
                have hR213 := hR192.setf (b := 43) (w := 36) (z := ysg v)
                refine yT_gen (fun S209 hS211 => ?_)
                rw [hS211] at hI210 hF212 hR213 
                exact r_ret0 (i := 70) rfl ⟨rfl,  hI210, hF212, hR213⟩
            · refine r_load (i := 30) (u := 0) (w := 2) rfl rfl rfl ?_
              refine r_load (i := 31) (u := 2) (w := 1) rfl rfl rfl ?_
              refine r_l2i (i := 32) rfl ?_
              rw [vi_sg v]
              have h214 := ysg_fact v
              refine r_const (i := 33) (u := 1) (z := 1) rfl rfl ?_
              refine r_call (i := 34) (u := 11) (v := 261) (w := 0) (b := 0) (na := 1795) (C2 := xC261) (as := [(2, 43), vi (ysg v), vi 1]) (s := []) rfl rfl rfl rfl rfl rfl rfl (sp261 (t := ysg v) (o := 1) hI ⟨by omega, by omega⟩ ⟨by omega, by omega⟩   (by omega)) (fun r215 S216 hq217 => ?_)
              obtain ⟨z218, rfl, h219, h220, um221, hI222, hF223, hR224⟩ := hq217
              have hF225 := hF.trans hF223 rfl rfl
              have hR226 := hR.trans hR224 rfl
              refine Or.inr (Or.inl ⟨rfl, ?_⟩)
              refine z_eq (i := 35) (v := 38) rfl ⟨by omega, by omega⟩ (fun h227 => ?_) (fun h228 => ?_)
              · refine r_const (i := 38) (u := 0) (z := 0) rfl rfl ?_
                refine r_store (i := 39) (u := 5) (w := 0) (L1 := [some ((2, 43)), some (vi w0), some (vl v), none, some (vi 1), some (vi 0)]) rfl rfl rfl rfl ?_
                refine r_load (i := 40) (u := 0) (w := 2) rfl rfl rfl ?_
                refine r_load (i := 41) (u := 5) (w := 0) rfl rfl rfl ?_
                refine z_eq (i := 42) (v := 45) rfl ⟨by omega, by omega⟩ (fun h229 => ?_) (fun h230 => absurd h230 (by omega))
                refine r_const (i := 45) (u := 1) (z := 1) rfl rfl ?_
                refine r_putI (i := 46) (v := 0) (w := 11) rfl ly43 rfl ⟨by omega, by omega⟩ ?_
                have hI232 := hI222.setf (b := 43) (w := 0) (z := 1) tf43_0 rfl (by omega) (by omega)
                have hF234 := hF225.setf (b := 43) (w := 0) (z := 1) rfl
                have hR235 := hR226.setf (b := 43) (w := 0) (z := 1)
                refine yT_gen (fun S231 hS233 => ?_)
                rw [hS233] at hI232 hF234 hR235 
                refine r_load (i := 47) (u := 5) (w := 0) rfl rfl rfl ?_
                refine z_ne (i := 48) (v := 50) rfl ⟨by omega, by omega⟩ (fun h236 => absurd h236 (by omega)) (fun h237 => ?_)
                exact r_ret0 (i := 49) rfl ⟨rfl,  hI232, hF234, hR235⟩
              · refine r_const (i := 36) (u := 1) (z := 1) rfl rfl ?_
                refine r_goto (i := 37) (v := 39) rfl ?_
                refine r_store (i := 39) (u := 5) (w := 0) (L1 := [some ((2, 43)), some (vi w0), some (vl v), none, some (vi 1), some (vi 1)]) rfl rfl rfl rfl ?_
                refine r_load (i := 40) (u := 0) (w := 2) rfl rfl rfl ?_
                refine r_load (i := 41) (u := 5) (w := 0) rfl rfl rfl ?_
                refine z_eq (i := 42) (v := 45) rfl ⟨by omega, by omega⟩ (fun h238 => absurd h238 (by omega)) (fun h239 => ?_)
                refine r_const (i := 43) (u := 0) (z := 0) rfl rfl ?_
                refine r_goto (i := 44) (v := 46) rfl ?_
                refine r_putI (i := 46) (v := 0) (w := 11) rfl ly43 rfl ⟨by omega, by omega⟩ ?_
                have hI241 := hI222.setf (b := 43) (w := 0) (z := 0) tf43_0 rfl (by omega) (by omega)
                have hF243 := hF225.setf (b := 43) (w := 0) (z := 0) rfl
                have hR244 := hR226.setf (b := 43) (w := 0) (z := 0)
                refine yT_gen (fun S240 hS242 => ?_)
                rw [hS242] at hI241 hF243 hR244 
                refine r_load (i := 47) (u := 5) (w := 0) rfl rfl rfl ?_
                refine z_ne (i := 48) (v := 50) rfl ⟨by omega, by omega⟩ (fun h245 => ?_) (fun h246 => absurd h246 (by omega))
                refine r_load (i := 50) (u := 0) (w := 2) rfl rfl rfl ?_
                refine r_load (i := 51) (u := 1) (w := 0) rfl rfl rfl ?_
                refine r_putI (i := 52) (v := 33) (w := 11) rfl ly43 rfl ⟨by omega, by omega⟩ ?_
                have hF250 := hF243.setf (b := 43) (w := 33) (z := w0) rfl
                have hR251 := hR244.setf (b := 43) (w := 33) (z := w0)
                refine yT_gen (fun S247 hS249 => ?_)
                rw [hS249] at hF250 hR251 
                refine r_load (i := 53) (u := 0) (w := 2) rfl rfl rfl ?_
                refine r_load (i := 54) (u := 1) (w := 0) rfl rfl rfl ?_
                refine r_const (i := 55) (u := 1) (z := 1) rfl rfl ?_
                refine c_ne (i := 56) (v := 61) rfl ⟨by omega, by omega⟩ ⟨by omega, by omega⟩ (fun h252 => ?_) (fun h253 => ?_)
                · refine r_load (i := 61) (u := 1) (w := 0) rfl rfl rfl ?_
                  refine r_const (i := 62) (u := 3) (z := 3) rfl rfl ?_
                  refine c_ne (i := 63) (v := 68) rfl ⟨by omega, by omega⟩ ⟨by omega, by omega⟩ (fun h254 => ?_) (fun h255 => ?_)
                  · refine r_load (i := 68) (u := 2) (w := 1) rfl rfl rfl ?_
                    refine r_putL (i := 69) (v := 36) (w := 11) rfl ly43 rfl ⟨by omega, by omega⟩ ?_
                    have hI257 := hI241.set43 (z := w0) (y := v) (by omega) (by omega) (by omega)
                    rw [hS249] at hI257
                    have hF259 := hF250.setf (b := 43) (w := 36) (z := v) rfl
                    have hR260 := hR251.setf (b := 43) (w := 36) (z := v)
                    refine yT_gen (fun S256 hS258 => ?_)
                    rw [hS258] at hI257 hF259 hR260 
                    exact r_ret0 (i := 70) rfl ⟨rfl,  hI257, hF259, hR260⟩
                  · refine r_load (i := 64) (u := 2) (w := 1) rfl rfl rfl ?_
                    refine r_lconst (i := 65) (u := 1) (z := 1) rfl rfl ?_
                    refine r_land (i := 66) rfl ?_
                    have h261 := @yland_c v 1 (by decide) (by decide)
                    refine r_goto (i := 67) (v := 69) rfl ?_
                    refine r_putL (i := 69) (v := 36) (w := 11) rfl ly43 rfl ⟨by omega, by omega⟩ ?_
                    have hI263 := hI241.set43 (z := w0) (y := yland v 1) (by omega) (by omega) (by omega)
                    rw [hS249] at hI263
                    have hF265 := hF250.setf (b := 43) (w := 36) (z := yland v 1) rfl
                    have hR266 := hR251.setf (b := 43) (w := 36) (z := yland v 1)
                    refine yT_gen (fun S262 hS264 => ?_)
                    rw [hS264] at hI263 hF265 hR266 
                    exact r_ret0 (i := 70) rfl ⟨rfl,  hI263, hF265, hR266⟩
                · refine r_load (i := 57) (u := 2) (w := 1) rfl rfl rfl ?_
                  refine r_l2i (i := 58) rfl ?_
                  rw [vi_sg v]
                  have h267 := ysg_fact v
                  refine r_i2l (i := 59) rfl ⟨by omega, by omega⟩ ?_
                  refine r_goto (i := 60) (v := 69) rfl ?_
                  refine r_putL (i := 69) (v := 36) (w := 11) rfl ly43 rfl ⟨by omega, by omega⟩ ?_
                  have hI269 := hI241.set43 (z := w0) (y := ysg v) (by omega) (by omega) (by omega)
                  rw [hS249] at hI269
                  have hF271 := hF250.setf (b := 43) (w := 36) (z := ysg v) rfl
                  have hR272 := hR251.setf (b := 43) (w := 36) (z := ysg v)
                  refine yT_gen (fun S268 hS270 => ?_)
                  rw [hS270] at hI269 hF271 hR272 
                  exact r_ret0 (i := 70) rfl ⟨rfl,  hI269, hF271, hR272⟩
          · refine z_ge (i := 26) (v := 38) rfl ⟨by omega, by omega⟩ (fun h273 => ?_) (fun h274 => absurd h274 (by omega))
            refine r_const (i := 38) (u := 0) (z := 0) rfl rfl ?_
            refine r_store (i := 39) (u := 5) (w := 0) (L1 := [some ((2, 43)), some (vi w0), some (vl v), none, some (vi 1), some (vi 0)]) rfl rfl rfl rfl ?_
            refine r_load (i := 40) (u := 0) (w := 2) rfl rfl rfl ?_
            refine r_load (i := 41) (u := 5) (w := 0) rfl rfl rfl ?_
            refine z_eq (i := 42) (v := 45) rfl ⟨by omega, by omega⟩ (fun h275 => ?_) (fun h276 => absurd h276 (by omega))
            refine r_const (i := 45) (u := 1) (z := 1) rfl rfl ?_
            refine r_putI (i := 46) (v := 0) (w := 11) rfl ly43 rfl ⟨by omega, by omega⟩ ?_
            have hI278 := hI.setf (b := 43) (w := 0) (z := 1) tf43_0 rfl (by omega) (by omega)
            have hF280 := hF.setf (b := 43) (w := 0) (z := 1) rfl
            have hR281 := hR.setf (b := 43) (w := 0) (z := 1)
            refine yT_gen (fun S277 hS279 => ?_)
            rw [hS279] at hI278 hF280 hR281 
            refine r_load (i := 47) (u := 5) (w := 0) rfl rfl rfl ?_
            refine z_ne (i := 48) (v := 50) rfl ⟨by omega, by omega⟩ (fun h282 => absurd h282 (by omega)) (fun h283 => ?_)
            exact r_ret0 (i := 49) rfl ⟨rfl,  hI278, hF280, hR281⟩
          · refine z_ge (i := 26) (v := 38) rfl ⟨by omega, by omega⟩ (fun h284 => ?_) (fun h285 => absurd h285 (by omega))
            refine r_const (i := 38) (u := 0) (z := 0) rfl rfl ?_
            refine r_store (i := 39) (u := 5) (w := 0) (L1 := [some ((2, 43)), some (vi w0), some (vl v), none, some (vi 1), some (vi 0)]) rfl rfl rfl rfl ?_
            refine r_load (i := 40) (u := 0) (w := 2) rfl rfl rfl ?_
            refine r_load (i := 41) (u := 5) (w := 0) rfl rfl rfl ?_
            refine z_eq (i := 42) (v := 45) rfl ⟨by omega, by omega⟩ (fun h286 => ?_) (fun h287 => absurd h287 (by omega))
            refine r_const (i := 45) (u := 1) (z := 1) rfl rfl ?_
            refine r_putI (i := 46) (v := 0) (w := 11) rfl ly43 rfl ⟨by omega, by omega⟩ ?_
            have hI289 := hI.setf (b := 43) (w := 0) (z := 1) tf43_0 rfl (by omega) (by omega)
            have hF291 := hF.setf (b := 43) (w := 0) (z := 1) rfl
            have hR292 := hR.setf (b := 43) (w := 0) (z := 1)
            refine yT_gen (fun S288 hS290 => ?_)
            rw [hS290] at hI289 hF291 hR292 
            refine r_load (i := 47) (u := 5) (w := 0) rfl rfl rfl ?_
            refine z_ne (i := 48) (v := 50) rfl ⟨by omega, by omega⟩ (fun h293 => absurd h293 (by omega)) (fun h294 => ?_)
            exact r_ret0 (i := 49) rfl ⟨rfl,  hI289, hF291, hR292⟩
  · refine r_load (i := 3) (u := 1) (w := 0) rfl rfl rfl ?_
    refine r_const (i := 4) (u := 5) (z := 5) rfl rfl ?_
    refine c_ne (i := 5) (v := 8) rfl ⟨by omega, by omega⟩ ⟨by omega, by omega⟩ (fun h295 => ?_) (fun h296 => ?_)
    · refine r_const (i := 8) (u := 0) (z := 0) rfl rfl ?_
      refine r_store (i := 9) (u := 4) (w := 0) (L1 := [some ((2, 43)), some (vi w0), some (vl v), none, some (vi 0), none]) rfl rfl rfl rfl ?_
      refine r_load (i := 10) (u := 1) (w := 0) rfl rfl rfl ?_
      refine z_lt (i := 11) (v := 38) rfl ⟨by omega, by omega⟩ (fun h297 => ?_) (fun h298 => ?_)
      · refine r_const (i := 38) (u := 0) (z := 0) rfl rfl ?_
        refine r_store (i := 39) (u := 5) (w := 0) (L1 := [some ((2, 43)), some (vi w0), some (vl v), none, some (vi 0), some (vi 0)]) rfl rfl rfl rfl ?_
        refine r_load (i := 40) (u := 0) (w := 2) rfl rfl rfl ?_
        refine r_load (i := 41) (u := 5) (w := 0) rfl rfl rfl ?_
        refine z_eq (i := 42) (v := 45) rfl ⟨by omega, by omega⟩ (fun h299 => ?_) (fun h300 => absurd h300 (by omega))
        refine r_const (i := 45) (u := 1) (z := 1) rfl rfl ?_
        refine r_putI (i := 46) (v := 0) (w := 11) rfl ly43 rfl ⟨by omega, by omega⟩ ?_
        have hI302 := hI.setf (b := 43) (w := 0) (z := 1) tf43_0 rfl (by omega) (by omega)
        have hF304 := hF.setf (b := 43) (w := 0) (z := 1) rfl
        have hR305 := hR.setf (b := 43) (w := 0) (z := 1)
        refine yT_gen (fun S301 hS303 => ?_)
        rw [hS303] at hI302 hF304 hR305 
        refine r_load (i := 47) (u := 5) (w := 0) rfl rfl rfl ?_
        refine z_ne (i := 48) (v := 50) rfl ⟨by omega, by omega⟩ (fun h306 => absurd h306 (by omega)) (fun h307 => ?_)
        exact r_ret0 (i := 49) rfl ⟨rfl,  hI302, hF304, hR305⟩
      · refine r_load (i := 12) (u := 1) (w := 0) rfl rfl rfl ?_
        refine r_const (i := 13) (u := 6) (z := 6) rfl rfl ?_
        refine c_ge (i := 14) (v := 38) rfl ⟨by omega, by omega⟩ ⟨by omega, by omega⟩ (fun h308 => ?_) (fun h309 => ?_)
        · refine r_const (i := 38) (u := 0) (z := 0) rfl rfl ?_
          refine r_store (i := 39) (u := 5) (w := 0) (L1 := [some ((2, 43)), some (vi w0), some (vl v), none, some (vi 0), some (vi 0)]) rfl rfl rfl rfl ?_
          refine r_load (i := 40) (u := 0) (w := 2) rfl rfl rfl ?_
          refine r_load (i := 41) (u := 5) (w := 0) rfl rfl rfl ?_
          refine z_eq (i := 42) (v := 45) rfl ⟨by omega, by omega⟩ (fun h310 => ?_) (fun h311 => absurd h311 (by omega))
          refine r_const (i := 45) (u := 1) (z := 1) rfl rfl ?_
          refine r_putI (i := 46) (v := 0) (w := 11) rfl ly43 rfl ⟨by omega, by omega⟩ ?_
          have hI313 := hI.setf (b := 43) (w := 0) (z := 1) tf43_0 rfl (by omega) (by omega)
          have hF315 := hF.setf (b := 43) (w := 0) (z := 1) rfl
          have hR316 := hR.setf (b := 43) (w := 0) (z := 1)
          refine yT_gen (fun S312 hS314 => ?_)
          rw [hS314] at hI313 hF315 hR316 
          refine r_load (i := 47) (u := 5) (w := 0) rfl rfl rfl ?_
          refine z_ne (i := 48) (v := 50) rfl ⟨by omega, by omega⟩ (fun h317 => absurd h317 (by omega)) (fun h318 => ?_)
          exact r_ret0 (i := 49) rfl ⟨rfl,  hI313, hF315, hR316⟩
        · refine r_load (i := 15) (u := 4) (w := 0) rfl rfl rfl ?_
          refine z_eq (i := 16) (v := 36) rfl ⟨by omega, by omega⟩ (fun h319 => ?_) (fun h320 => absurd h320 (by omega))
          refine r_const (i := 36) (u := 1) (z := 1) rfl rfl ?_
          refine r_goto (i := 37) (v := 39) rfl ?_
          refine r_store (i := 39) (u := 5) (w := 0) (L1 := [some ((2, 43)), some (vi w0), some (vl v), none, some (vi 0), some (vi 1)]) rfl rfl rfl rfl ?_
          refine r_load (i := 40) (u := 0) (w := 2) rfl rfl rfl ?_
          refine r_load (i := 41) (u := 5) (w := 0) rfl rfl rfl ?_
          refine z_eq (i := 42) (v := 45) rfl ⟨by omega, by omega⟩ (fun h321 => absurd h321 (by omega)) (fun h322 => ?_)
          refine r_const (i := 43) (u := 0) (z := 0) rfl rfl ?_
          refine r_goto (i := 44) (v := 46) rfl ?_
          refine r_putI (i := 46) (v := 0) (w := 11) rfl ly43 rfl ⟨by omega, by omega⟩ ?_
          have hI324 := hI.setf (b := 43) (w := 0) (z := 0) tf43_0 rfl (by omega) (by omega)
          have hF326 := hF.setf (b := 43) (w := 0) (z := 0) rfl
          have hR327 := hR.setf (b := 43) (w := 0) (z := 0)
          refine yT_gen (fun S323 hS325 => ?_)
          rw [hS325] at hI324 hF326 hR327 
          refine r_load (i := 47) (u := 5) (w := 0) rfl rfl rfl ?_
          refine z_ne (i := 48) (v := 50) rfl ⟨by omega, by omega⟩ (fun h328 => ?_) (fun h329 => absurd h329 (by omega))
          refine r_load (i := 50) (u := 0) (w := 2) rfl rfl rfl ?_
          refine r_load (i := 51) (u := 1) (w := 0) rfl rfl rfl ?_
          refine r_putI (i := 52) (v := 33) (w := 11) rfl ly43 rfl ⟨by omega, by omega⟩ ?_
          have hF333 := hF326.setf (b := 43) (w := 33) (z := w0) rfl
          have hR334 := hR327.setf (b := 43) (w := 33) (z := w0)
          refine yT_gen (fun S330 hS332 => ?_)
          rw [hS332] at hF333 hR334 
          refine r_load (i := 53) (u := 0) (w := 2) rfl rfl rfl ?_
          refine r_load (i := 54) (u := 1) (w := 0) rfl rfl rfl ?_
          refine r_const (i := 55) (u := 1) (z := 1) rfl rfl ?_
          refine c_ne (i := 56) (v := 61) rfl ⟨by omega, by omega⟩ ⟨by omega, by omega⟩ (fun h335 => ?_) (fun h336 => ?_)
          · refine r_load (i := 61) (u := 1) (w := 0) rfl rfl rfl ?_
            refine r_const (i := 62) (u := 3) (z := 3) rfl rfl ?_
            refine c_ne (i := 63) (v := 68) rfl ⟨by omega, by omega⟩ ⟨by omega, by omega⟩ (fun h337 => ?_) (fun h338 => ?_)
            · refine r_load (i := 68) (u := 2) (w := 1) rfl rfl rfl ?_
              refine r_putL (i := 69) (v := 36) (w := 11) rfl ly43 rfl ⟨by omega, by omega⟩ ?_
              have hI340 := hI324.set43 (z := w0) (y := v) (by omega) (by omega) (by omega)
              rw [hS332] at hI340
              have hF342 := hF333.setf (b := 43) (w := 36) (z := v) rfl
              have hR343 := hR334.setf (b := 43) (w := 36) (z := v)
              refine yT_gen (fun S339 hS341 => ?_)
              rw [hS341] at hI340 hF342 hR343 
              exact r_ret0 (i := 70) rfl ⟨rfl,  hI340, hF342, hR343⟩
            · refine r_load (i := 64) (u := 2) (w := 1) rfl rfl rfl ?_
              refine r_lconst (i := 65) (u := 1) (z := 1) rfl rfl ?_
              refine r_land (i := 66) rfl ?_
              have h344 := @yland_c v 1 (by decide) (by decide)
              refine r_goto (i := 67) (v := 69) rfl ?_
              refine r_putL (i := 69) (v := 36) (w := 11) rfl ly43 rfl ⟨by omega, by omega⟩ ?_
              have hI346 := hI324.set43 (z := w0) (y := yland v 1) (by omega) (by omega) (by omega)
              rw [hS332] at hI346
              have hF348 := hF333.setf (b := 43) (w := 36) (z := yland v 1) rfl
              have hR349 := hR334.setf (b := 43) (w := 36) (z := yland v 1)
              refine yT_gen (fun S345 hS347 => ?_)
              rw [hS347] at hI346 hF348 hR349 
              exact r_ret0 (i := 70) rfl ⟨rfl,  hI346, hF348, hR349⟩
          · refine r_load (i := 57) (u := 2) (w := 1) rfl rfl rfl ?_
            refine r_l2i (i := 58) rfl ?_
            rw [vi_sg v]
            have h350 := ysg_fact v
            refine r_i2l (i := 59) rfl ⟨by omega, by omega⟩ ?_
            refine r_goto (i := 60) (v := 69) rfl ?_
            refine r_putL (i := 69) (v := 36) (w := 11) rfl ly43 rfl ⟨by omega, by omega⟩ ?_
            have hI352 := hI324.set43 (z := w0) (y := ysg v) (by omega) (by omega) (by omega)
            rw [hS332] at hI352
            have hF354 := hF333.setf (b := 43) (w := 36) (z := ysg v) rfl
            have hR355 := hR334.setf (b := 43) (w := 36) (z := ysg v)
            refine yT_gen (fun S351 hS353 => ?_)
            rw [hS353] at hI352 hF354 hR355 
            exact r_ret0 (i := 70) rfl ⟨rfl,  hI352, hF354, hR355⟩
    · refine r_const (i := 6) (u := 1) (z := 1) rfl rfl ?_
      refine r_goto (i := 7) (v := 9) rfl ?_
      refine r_store (i := 9) (u := 4) (w := 0) (L1 := [some ((2, 43)), some (vi w0), some (vl v), none, some (vi 1), none]) rfl rfl rfl rfl ?_
      refine r_load (i := 10) (u := 1) (w := 0) rfl rfl rfl ?_
      refine z_lt (i := 11) (v := 38) rfl ⟨by omega, by omega⟩ (fun h356 => ?_) (fun h357 => ?_)
      · refine r_const (i := 38) (u := 0) (z := 0) rfl rfl ?_
        refine r_store (i := 39) (u := 5) (w := 0) (L1 := [some ((2, 43)), some (vi w0), some (vl v), none, some (vi 1), some (vi 0)]) rfl rfl rfl rfl ?_
        refine r_load (i := 40) (u := 0) (w := 2) rfl rfl rfl ?_
        refine r_load (i := 41) (u := 5) (w := 0) rfl rfl rfl ?_
        refine z_eq (i := 42) (v := 45) rfl ⟨by omega, by omega⟩ (fun h358 => ?_) (fun h359 => absurd h359 (by omega))
        refine r_const (i := 45) (u := 1) (z := 1) rfl rfl ?_
        refine r_putI (i := 46) (v := 0) (w := 11) rfl ly43 rfl ⟨by omega, by omega⟩ ?_
        have hI361 := hI.setf (b := 43) (w := 0) (z := 1) tf43_0 rfl (by omega) (by omega)
        have hF363 := hF.setf (b := 43) (w := 0) (z := 1) rfl
        have hR364 := hR.setf (b := 43) (w := 0) (z := 1)
        refine yT_gen (fun S360 hS362 => ?_)
        rw [hS362] at hI361 hF363 hR364 
        refine r_load (i := 47) (u := 5) (w := 0) rfl rfl rfl ?_
        refine z_ne (i := 48) (v := 50) rfl ⟨by omega, by omega⟩ (fun h365 => absurd h365 (by omega)) (fun h366 => ?_)
        exact r_ret0 (i := 49) rfl ⟨rfl,  hI361, hF363, hR364⟩
      · refine r_load (i := 12) (u := 1) (w := 0) rfl rfl rfl ?_
        refine r_const (i := 13) (u := 6) (z := 6) rfl rfl ?_
        refine c_ge (i := 14) (v := 38) rfl ⟨by omega, by omega⟩ ⟨by omega, by omega⟩ (fun h367 => ?_) (fun h368 => ?_)
        · refine r_const (i := 38) (u := 0) (z := 0) rfl rfl ?_
          refine r_store (i := 39) (u := 5) (w := 0) (L1 := [some ((2, 43)), some (vi w0), some (vl v), none, some (vi 1), some (vi 0)]) rfl rfl rfl rfl ?_
          refine r_load (i := 40) (u := 0) (w := 2) rfl rfl rfl ?_
          refine r_load (i := 41) (u := 5) (w := 0) rfl rfl rfl ?_
          refine z_eq (i := 42) (v := 45) rfl ⟨by omega, by omega⟩ (fun h369 => ?_) (fun h370 => absurd h370 (by omega))
          refine r_const (i := 45) (u := 1) (z := 1) rfl rfl ?_
          refine r_putI (i := 46) (v := 0) (w := 11) rfl ly43 rfl ⟨by omega, by omega⟩ ?_
          have hI372 := hI.setf (b := 43) (w := 0) (z := 1) tf43_0 rfl (by omega) (by omega)
          have hF374 := hF.setf (b := 43) (w := 0) (z := 1) rfl
          have hR375 := hR.setf (b := 43) (w := 0) (z := 1)
          refine yT_gen (fun S371 hS373 => ?_)
          rw [hS373] at hI372 hF374 hR375 
          refine r_load (i := 47) (u := 5) (w := 0) rfl rfl rfl ?_
          refine z_ne (i := 48) (v := 50) rfl ⟨by omega, by omega⟩ (fun h376 => absurd h376 (by omega)) (fun h377 => ?_)
          exact r_ret0 (i := 49) rfl ⟨rfl,  hI372, hF374, hR375⟩
        · refine r_load (i := 15) (u := 4) (w := 0) rfl rfl rfl ?_
          refine z_eq (i := 16) (v := 36) rfl ⟨by omega, by omega⟩ (fun h378 => absurd h378 (by omega)) (fun h379 => ?_)
          refine r_load (i := 17) (u := 2) (w := 1) rfl rfl rfl ?_
          refine r_lconst (i := 18) (u := 0) (z := 0) rfl rfl ?_
          refine r_lcmp (i := 19) rfl ⟨by omega, by omega⟩ ⟨by omega, by omega⟩ (fun h380 => ?_) (fun h381 => ?_) (fun h382 => ?_)
          · refine z_lt (i := 20) (v := 38) rfl ⟨by omega, by omega⟩ (fun h383 => ?_) (fun h384 => absurd h384 (by omega))
            refine r_const (i := 38) (u := 0) (z := 0) rfl rfl ?_
            refine r_store (i := 39) (u := 5) (w := 0) (L1 := [some ((2, 43)), some (vi w0), some (vl v), none, some (vi 1), some (vi 0)]) rfl rfl rfl rfl ?_
            refine r_load (i := 40) (u := 0) (w := 2) rfl rfl rfl ?_
            refine r_load (i := 41) (u := 5) (w := 0) rfl rfl rfl ?_
            refine z_eq (i := 42) (v := 45) rfl ⟨by omega, by omega⟩ (fun h385 => ?_) (fun h386 => absurd h386 (by omega))
            refine r_const (i := 45) (u := 1) (z := 1) rfl rfl ?_
            refine r_putI (i := 46) (v := 0) (w := 11) rfl ly43 rfl ⟨by omega, by omega⟩ ?_
            have hI388 := hI.setf (b := 43) (w := 0) (z := 1) tf43_0 rfl (by omega) (by omega)
            have hF390 := hF.setf (b := 43) (w := 0) (z := 1) rfl
            have hR391 := hR.setf (b := 43) (w := 0) (z := 1)
            refine yT_gen (fun S387 hS389 => ?_)
            rw [hS389] at hI388 hF390 hR391 
            refine r_load (i := 47) (u := 5) (w := 0) rfl rfl rfl ?_
            refine z_ne (i := 48) (v := 50) rfl ⟨by omega, by omega⟩ (fun h392 => absurd h392 (by omega)) (fun h393 => ?_)
            exact r_ret0 (i := 49) rfl ⟨rfl,  hI388, hF390, hR391⟩
          · refine z_lt (i := 20) (v := 38) rfl ⟨by omega, by omega⟩ (fun h394 => absurd h394 (by omega)) (fun h395 => ?_)
            refine r_load (i := 21) (u := 2) (w := 1) rfl rfl rfl ?_
            refine r_load (i := 22) (u := 0) (w := 2) rfl rfl rfl ?_
            have h396 := hI.f tf43_1
            refine r_getf (i := 23) (v := 1) (w := 11) (x := vi (S.f 43 1)) rfl ly43 rfl rfl fun h397 => ?_
            have h397 : Rg (S.f 43 1) := h397
            refine r_i2l (i := 24) rfl ⟨by omega, by omega⟩ ?_
            refine r_lcmp (i := 25) rfl ⟨by omega, by omega⟩ ⟨by omega, by omega⟩ (fun h398 => ?_) (fun h399 => ?_) (fun h400 => ?_)
            · refine z_ge (i := 26) (v := 38) rfl ⟨by omega, by omega⟩ (fun h401 => absurd h401 (by omega)) (fun h402 => ?_)
              refine r_load (i := 27) (u := 1) (w := 0) rfl rfl rfl ?_
              refine r_const (i := 28) (u := 4) (z := 4) rfl rfl ?_
              refine c_eq (i := 29) (v := 36) rfl ⟨by omega, by omega⟩ ⟨by omega, by omega⟩ (fun h403 => ?_) (fun h404 => ?_)
              · refine r_const (i := 36) (u := 1) (z := 1) rfl rfl ?_
                refine r_goto (i := 37) (v := 39) rfl ?_
                refine r_store (i := 39) (u := 5) (w := 0) (L1 := [some ((2, 43)), some (vi w0), some (vl v), none, some (vi 1), some (vi 1)]) rfl rfl rfl rfl ?_
                refine r_load (i := 40) (u := 0) (w := 2) rfl rfl rfl ?_
                refine r_load (i := 41) (u := 5) (w := 0) rfl rfl rfl ?_
                refine z_eq (i := 42) (v := 45) rfl ⟨by omega, by omega⟩ (fun h405 => absurd h405 (by omega)) (fun h406 => ?_)
                refine r_const (i := 43) (u := 0) (z := 0) rfl rfl ?_
                refine r_goto (i := 44) (v := 46) rfl ?_
                refine r_putI (i := 46) (v := 0) (w := 11) rfl ly43 rfl ⟨by omega, by omega⟩ ?_
                have hI408 := hI.setf (b := 43) (w := 0) (z := 0) tf43_0 rfl (by omega) (by omega)
                have hF410 := hF.setf (b := 43) (w := 0) (z := 0) rfl
                have hR411 := hR.setf (b := 43) (w := 0) (z := 0)
                refine yT_gen (fun S407 hS409 => ?_)
                rw [hS409] at hI408 hF410 hR411 
                refine r_load (i := 47) (u := 5) (w := 0) rfl rfl rfl ?_
                refine z_ne (i := 48) (v := 50) rfl ⟨by omega, by omega⟩ (fun h412 => ?_) (fun h413 => absurd h413 (by omega))
                refine r_load (i := 50) (u := 0) (w := 2) rfl rfl rfl ?_
                refine r_load (i := 51) (u := 1) (w := 0) rfl rfl rfl ?_
                refine r_putI (i := 52) (v := 33) (w := 11) rfl ly43 rfl ⟨by omega, by omega⟩ ?_
                have hF417 := hF410.setf (b := 43) (w := 33) (z := w0) rfl
                have hR418 := hR411.setf (b := 43) (w := 33) (z := w0)
                refine yT_gen (fun S414 hS416 => ?_)
                rw [hS416] at hF417 hR418 
                refine r_load (i := 53) (u := 0) (w := 2) rfl rfl rfl ?_
                refine r_load (i := 54) (u := 1) (w := 0) rfl rfl rfl ?_
                refine r_const (i := 55) (u := 1) (z := 1) rfl rfl ?_
                refine c_ne (i := 56) (v := 61) rfl ⟨by omega, by omega⟩ ⟨by omega, by omega⟩ (fun h419 => ?_) (fun h420 => ?_)
                · refine r_load (i := 61) (u := 1) (w := 0) rfl rfl rfl ?_
                  refine r_const (i := 62) (u := 3) (z := 3) rfl rfl ?_
                  refine c_ne (i := 63) (v := 68) rfl ⟨by omega, by omega⟩ ⟨by omega, by omega⟩ (fun h421 => ?_) (fun h422 => ?_)
                  · refine r_load (i := 68) (u := 2) (w := 1) rfl rfl rfl ?_
                    refine r_putL (i := 69) (v := 36) (w := 11) rfl ly43 rfl ⟨by omega, by omega⟩ ?_
                    have hI424 := hI408.set43 (z := w0) (y := v) (by omega) (by omega) (by omega)
                    rw [hS416] at hI424
                    have hF426 := hF417.setf (b := 43) (w := 36) (z := v) rfl
                    have hR427 := hR418.setf (b := 43) (w := 36) (z := v)
                    refine yT_gen (fun S423 hS425 => ?_)
                    rw [hS425] at hI424 hF426 hR427 
                    exact r_ret0 (i := 70) rfl ⟨rfl,  hI424, hF426, hR427⟩
                  · refine r_load (i := 64) (u := 2) (w := 1) rfl rfl rfl ?_
                    refine r_lconst (i := 65) (u := 1) (z := 1) rfl rfl ?_
                    refine r_land (i := 66) rfl ?_
                    have h428 := @yland_c v 1 (by decide) (by decide)
                    refine r_goto (i := 67) (v := 69) rfl ?_
                    refine r_putL (i := 69) (v := 36) (w := 11) rfl ly43 rfl ⟨by omega, by omega⟩ ?_
                    have hI430 := hI408.set43 (z := w0) (y := yland v 1) (by omega) (by omega) (by omega)
                    rw [hS416] at hI430
                    have hF432 := hF417.setf (b := 43) (w := 36) (z := yland v 1) rfl
                    have hR433 := hR418.setf (b := 43) (w := 36) (z := yland v 1)
                    refine yT_gen (fun S429 hS431 => ?_)
                    rw [hS431] at hI430 hF432 hR433 
                    exact r_ret0 (i := 70) rfl ⟨rfl,  hI430, hF432, hR433⟩
                · refine r_load (i := 57) (u := 2) (w := 1) rfl rfl rfl ?_
                  refine r_l2i (i := 58) rfl ?_
                  rw [vi_sg v]
                  have h434 := ysg_fact v
                  refine r_i2l (i := 59) rfl ⟨by omega, by omega⟩ ?_
                  refine r_goto (i := 60) (v := 69) rfl ?_
                  refine r_putL (i := 69) (v := 36) (w := 11) rfl ly43 rfl ⟨by omega, by omega⟩ ?_
                  have hI436 := hI408.set43 (z := w0) (y := ysg v) (by omega) (by omega) (by omega)
                  rw [hS416] at hI436
                  have hF438 := hF417.setf (b := 43) (w := 36) (z := ysg v) rfl
                  have hR439 := hR418.setf (b := 43) (w := 36) (z := ysg v)
                  refine yT_gen (fun S435 hS437 => ?_)
                  rw [hS437] at hI436 hF438 hR439 
                  exact r_ret0 (i := 70) rfl ⟨rfl,  hI436, hF438, hR439⟩
              · refine r_load (i := 30) (u := 0) (w := 2) rfl rfl rfl ?_
                refine r_load (i := 31) (u := 2) (w := 1) rfl rfl rfl ?_
                refine r_l2i (i := 32) rfl ?_
                rw [vi_sg v]
                have h440 := ysg_fact v
                refine r_const (i := 33) (u := 1) (z := 1) rfl rfl ?_
                refine r_call (i := 34) (u := 11) (v := 261) (w := 0) (b := 0) (na := 1795) (C2 := xC261) (as := [(2, 43), vi (ysg v), vi 1]) (s := []) rfl rfl rfl rfl rfl rfl rfl (sp261 (t := ysg v) (o := 1) hI ⟨by omega, by omega⟩ ⟨by omega, by omega⟩   (by omega)) (fun r441 S442 hq443 => ?_)
                obtain ⟨z444, rfl, h445, h446, um447, hI448, hF449, hR450⟩ := hq443
                have hF451 := hF.trans hF449 rfl rfl
                have hR452 := hR.trans hR450 rfl
                refine Or.inr (Or.inl ⟨rfl, ?_⟩)
                refine z_eq (i := 35) (v := 38) rfl ⟨by omega, by omega⟩ (fun h453 => ?_) (fun h454 => ?_)
                · refine r_const (i := 38) (u := 0) (z := 0) rfl rfl ?_
                  refine r_store (i := 39) (u := 5) (w := 0) (L1 := [some ((2, 43)), some (vi w0), some (vl v), none, some (vi 1), some (vi 0)]) rfl rfl rfl rfl ?_
                  refine r_load (i := 40) (u := 0) (w := 2) rfl rfl rfl ?_
                  refine r_load (i := 41) (u := 5) (w := 0) rfl rfl rfl ?_
                  refine z_eq (i := 42) (v := 45) rfl ⟨by omega, by omega⟩ (fun h455 => ?_) (fun h456 => absurd h456 (by omega))
                  refine r_const (i := 45) (u := 1) (z := 1) rfl rfl ?_
                  refine r_putI (i := 46) (v := 0) (w := 11) rfl ly43 rfl ⟨by omega, by omega⟩ ?_
                  have hI458 := hI448.setf (b := 43) (w := 0) (z := 1) tf43_0 rfl (by omega) (by omega)
                  have hF460 := hF451.setf (b := 43) (w := 0) (z := 1) rfl
                  have hR461 := hR452.setf (b := 43) (w := 0) (z := 1)
                  refine yT_gen (fun S457 hS459 => ?_)
                  rw [hS459] at hI458 hF460 hR461 
                  refine r_load (i := 47) (u := 5) (w := 0) rfl rfl rfl ?_
                  refine z_ne (i := 48) (v := 50) rfl ⟨by omega, by omega⟩ (fun h462 => absurd h462 (by omega)) (fun h463 => ?_)
                  exact r_ret0 (i := 49) rfl ⟨rfl,  hI458, hF460, hR461⟩
                · refine r_const (i := 36) (u := 1) (z := 1) rfl rfl ?_
                  refine r_goto (i := 37) (v := 39) rfl ?_
                  refine r_store (i := 39) (u := 5) (w := 0) (L1 := [some ((2, 43)), some (vi w0), some (vl v), none, some (vi 1), some (vi 1)]) rfl rfl rfl rfl ?_
                  refine r_load (i := 40) (u := 0) (w := 2) rfl rfl rfl ?_
                  refine r_load (i := 41) (u := 5) (w := 0) rfl rfl rfl ?_
                  refine z_eq (i := 42) (v := 45) rfl ⟨by omega, by omega⟩ (fun h464 => absurd h464 (by omega)) (fun h465 => ?_)
                  refine r_const (i := 43) (u := 0) (z := 0) rfl rfl ?_
                  refine r_goto (i := 44) (v := 46) rfl ?_
                  refine r_putI (i := 46) (v := 0) (w := 11) rfl ly43 rfl ⟨by omega, by omega⟩ ?_
                  have hI467 := hI448.setf (b := 43) (w := 0) (z := 0) tf43_0 rfl (by omega) (by omega)
                  have hF469 := hF451.setf (b := 43) (w := 0) (z := 0) rfl
                  have hR470 := hR452.setf (b := 43) (w := 0) (z := 0)
                  refine yT_gen (fun S466 hS468 => ?_)
                  rw [hS468] at hI467 hF469 hR470 
                  refine r_load (i := 47) (u := 5) (w := 0) rfl rfl rfl ?_
                  refine z_ne (i := 48) (v := 50) rfl ⟨by omega, by omega⟩ (fun h471 => ?_) (fun h472 => absurd h472 (by omega))
                  refine r_load (i := 50) (u := 0) (w := 2) rfl rfl rfl ?_
                  refine r_load (i := 51) (u := 1) (w := 0) rfl rfl rfl ?_
                  refine r_putI (i := 52) (v := 33) (w := 11) rfl ly43 rfl ⟨by omega, by omega⟩ ?_
                  have hF476 := hF469.setf (b := 43) (w := 33) (z := w0) rfl
                  have hR477 := hR470.setf (b := 43) (w := 33) (z := w0)
                  refine yT_gen (fun S473 hS475 => ?_)
                  rw [hS475] at hF476 hR477 
                  refine r_load (i := 53) (u := 0) (w := 2) rfl rfl rfl ?_
                  refine r_load (i := 54) (u := 1) (w := 0) rfl rfl rfl ?_
                  refine r_const (i := 55) (u := 1) (z := 1) rfl rfl ?_
                  refine c_ne (i := 56) (v := 61) rfl ⟨by omega, by omega⟩ ⟨by omega, by omega⟩ (fun h478 => ?_) (fun h479 => ?_)
                  · refine r_load (i := 61) (u := 1) (w := 0) rfl rfl rfl ?_
                    refine r_const (i := 62) (u := 3) (z := 3) rfl rfl ?_
                    refine c_ne (i := 63) (v := 68) rfl ⟨by omega, by omega⟩ ⟨by omega, by omega⟩ (fun h480 => ?_) (fun h481 => ?_)
                    · refine r_load (i := 68) (u := 2) (w := 1) rfl rfl rfl ?_
                      refine r_putL (i := 69) (v := 36) (w := 11) rfl ly43 rfl ⟨by omega, by omega⟩ ?_
                      have hI483 := hI467.set43 (z := w0) (y := v) (by omega) (by omega) (by omega)
                      rw [hS475] at hI483
                      have hF485 := hF476.setf (b := 43) (w := 36) (z := v) rfl
                      have hR486 := hR477.setf (b := 43) (w := 36) (z := v)
                      refine yT_gen (fun S482 hS484 => ?_)
                      rw [hS484] at hI483 hF485 hR486 
                      exact r_ret0 (i := 70) rfl ⟨rfl,  hI483, hF485, hR486⟩
                    · refine r_load (i := 64) (u := 2) (w := 1) rfl rfl rfl ?_
                      refine r_lconst (i := 65) (u := 1) (z := 1) rfl rfl ?_
                      refine r_land (i := 66) rfl ?_
                      have h487 := @yland_c v 1 (by decide) (by decide)
                      refine r_goto (i := 67) (v := 69) rfl ?_
                      refine r_putL (i := 69) (v := 36) (w := 11) rfl ly43 rfl ⟨by omega, by omega⟩ ?_
                      have hI489 := hI467.set43 (z := w0) (y := yland v 1) (by omega) (by omega) (by omega)
                      rw [hS475] at hI489
                      have hF491 := hF476.setf (b := 43) (w := 36) (z := yland v 1) rfl
                      have hR492 := hR477.setf (b := 43) (w := 36) (z := yland v 1)
                      refine yT_gen (fun S488 hS490 => ?_)
                      rw [hS490] at hI489 hF491 hR492 
                      exact r_ret0 (i := 70) rfl ⟨rfl,  hI489, hF491, hR492⟩
                  · refine r_load (i := 57) (u := 2) (w := 1) rfl rfl rfl ?_
                    refine r_l2i (i := 58) rfl ?_
                    rw [vi_sg v]
                    have h493 := ysg_fact v
                    refine r_i2l (i := 59) rfl ⟨by omega, by omega⟩ ?_
                    refine r_goto (i := 60) (v := 69) rfl ?_
                    refine r_putL (i := 69) (v := 36) (w := 11) rfl ly43 rfl ⟨by omega, by omega⟩ ?_
                    have hI495 := hI467.set43 (z := w0) (y := ysg v) (by omega) (by omega) (by omega)
                    rw [hS475] at hI495
                    have hF497 := hF476.setf (b := 43) (w := 36) (z := ysg v) rfl
                    have hR498 := hR477.setf (b := 43) (w := 36) (z := ysg v)
                    refine yT_gen (fun S494 hS496 => ?_)
                    rw [hS496] at hI495 hF497 hR498 
                    exact r_ret0 (i := 70) rfl ⟨rfl,  hI495, hF497, hR498⟩
            · refine z_ge (i := 26) (v := 38) rfl ⟨by omega, by omega⟩ (fun h499 => ?_) (fun h500 => absurd h500 (by omega))
              refine r_const (i := 38) (u := 0) (z := 0) rfl rfl ?_
              refine r_store (i := 39) (u := 5) (w := 0) (L1 := [some ((2, 43)), some (vi w0), some (vl v), none, some (vi 1), some (vi 0)]) rfl rfl rfl rfl ?_
              refine r_load (i := 40) (u := 0) (w := 2) rfl rfl rfl ?_
              refine r_load (i := 41) (u := 5) (w := 0) rfl rfl rfl ?_
              refine z_eq (i := 42) (v := 45) rfl ⟨by omega, by omega⟩ (fun h501 => ?_) (fun h502 => absurd h502 (by omega))
              refine r_const (i := 45) (u := 1) (z := 1) rfl rfl ?_
              refine r_putI (i := 46) (v := 0) (w := 11) rfl ly43 rfl ⟨by omega, by omega⟩ ?_
              have hI504 := hI.setf (b := 43) (w := 0) (z := 1) tf43_0 rfl (by omega) (by omega)
              have hF506 := hF.setf (b := 43) (w := 0) (z := 1) rfl
              have hR507 := hR.setf (b := 43) (w := 0) (z := 1)
              refine yT_gen (fun S503 hS505 => ?_)
              rw [hS505] at hI504 hF506 hR507 
              refine r_load (i := 47) (u := 5) (w := 0) rfl rfl rfl ?_
              refine z_ne (i := 48) (v := 50) rfl ⟨by omega, by omega⟩ (fun h508 => absurd h508 (by omega)) (fun h509 => ?_)
              exact r_ret0 (i := 49) rfl ⟨rfl,  hI504, hF506, hR507⟩
            · refine z_ge (i := 26) (v := 38) rfl ⟨by omega, by omega⟩ (fun h510 => ?_) (fun h511 => absurd h511 (by omega))
              refine r_const (i := 38) (u := 0) (z := 0) rfl rfl ?_
              refine r_store (i := 39) (u := 5) (w := 0) (L1 := [some ((2, 43)), some (vi w0), some (vl v), none, some (vi 1), some (vi 0)]) rfl rfl rfl rfl ?_
              refine r_load (i := 40) (u := 0) (w := 2) rfl rfl rfl ?_
              refine r_load (i := 41) (u := 5) (w := 0) rfl rfl rfl ?_
              refine z_eq (i := 42) (v := 45) rfl ⟨by omega, by omega⟩ (fun h512 => ?_) (fun h513 => absurd h513 (by omega))
              refine r_const (i := 45) (u := 1) (z := 1) rfl rfl ?_
              refine r_putI (i := 46) (v := 0) (w := 11) rfl ly43 rfl ⟨by omega, by omega⟩ ?_
              have hI515 := hI.setf (b := 43) (w := 0) (z := 1) tf43_0 rfl (by omega) (by omega)
              have hF517 := hF.setf (b := 43) (w := 0) (z := 1) rfl
              have hR518 := hR.setf (b := 43) (w := 0) (z := 1)
              refine yT_gen (fun S514 hS516 => ?_)
              rw [hS516] at hI515 hF517 hR518 
              refine r_load (i := 47) (u := 5) (w := 0) rfl rfl rfl ?_
              refine z_ne (i := 48) (v := 50) rfl ⟨by omega, by omega⟩ (fun h519 => absurd h519 (by omega)) (fun h520 => ?_)
              exact r_ret0 (i := 49) rfl ⟨rfl,  hI515, hF517, hR518⟩
          · refine z_lt (i := 20) (v := 38) rfl ⟨by omega, by omega⟩ (fun h521 => absurd h521 (by omega)) (fun h522 => ?_)
            refine r_load (i := 21) (u := 2) (w := 1) rfl rfl rfl ?_
            refine r_load (i := 22) (u := 0) (w := 2) rfl rfl rfl ?_
            have h523 := hI.f tf43_1
            refine r_getf (i := 23) (v := 1) (w := 11) (x := vi (S.f 43 1)) rfl ly43 rfl rfl fun h524 => ?_
            have h524 : Rg (S.f 43 1) := h524
            refine r_i2l (i := 24) rfl ⟨by omega, by omega⟩ ?_
            refine r_lcmp (i := 25) rfl ⟨by omega, by omega⟩ ⟨by omega, by omega⟩ (fun h525 => ?_) (fun h526 => ?_) (fun h527 => ?_)
            · refine z_ge (i := 26) (v := 38) rfl ⟨by omega, by omega⟩ (fun h528 => absurd h528 (by omega)) (fun h529 => ?_)
              refine r_load (i := 27) (u := 1) (w := 0) rfl rfl rfl ?_
              refine r_const (i := 28) (u := 4) (z := 4) rfl rfl ?_
              refine c_eq (i := 29) (v := 36) rfl ⟨by omega, by omega⟩ ⟨by omega, by omega⟩ (fun h530 => ?_) (fun h531 => ?_)
              · refine r_const (i := 36) (u := 1) (z := 1) rfl rfl ?_
                refine r_goto (i := 37) (v := 39) rfl ?_
                refine r_store (i := 39) (u := 5) (w := 0) (L1 := [some ((2, 43)), some (vi w0), some (vl v), none, some (vi 1), some (vi 1)]) rfl rfl rfl rfl ?_
                refine r_load (i := 40) (u := 0) (w := 2) rfl rfl rfl ?_
                refine r_load (i := 41) (u := 5) (w := 0) rfl rfl rfl ?_
                refine z_eq (i := 42) (v := 45) rfl ⟨by omega, by omega⟩ (fun h532 => absurd h532 (by omega)) (fun h533 => ?_)
                refine r_const (i := 43) (u := 0) (z := 0) rfl rfl ?_
                refine r_goto (i := 44) (v := 46) rfl ?_
                refine r_putI (i := 46) (v := 0) (w := 11) rfl ly43 rfl ⟨by omega, by omega⟩ ?_
                have hI535 := hI.setf (b := 43) (w := 0) (z := 0) tf43_0 rfl (by omega) (by omega)
                have hF537 := hF.setf (b := 43) (w := 0) (z := 0) rfl
                have hR538 := hR.setf (b := 43) (w := 0) (z := 0)
                refine yT_gen (fun S534 hS536 => ?_)
                rw [hS536] at hI535 hF537 hR538 
                refine r_load (i := 47) (u := 5) (w := 0) rfl rfl rfl ?_
                refine z_ne (i := 48) (v := 50) rfl ⟨by omega, by omega⟩ (fun h539 => ?_) (fun h540 => absurd h540 (by omega))
                refine r_load (i := 50) (u := 0) (w := 2) rfl rfl rfl ?_
                refine r_load (i := 51) (u := 1) (w := 0) rfl rfl rfl ?_
                refine r_putI (i := 52) (v := 33) (w := 11) rfl ly43 rfl ⟨by omega, by omega⟩ ?_
                have hF544 := hF537.setf (b := 43) (w := 33) (z := w0) rfl
                have hR545 := hR538.setf (b := 43) (w := 33) (z := w0)
                refine yT_gen (fun S541 hS543 => ?_)
                rw [hS543] at hF544 hR545 
                refine r_load (i := 53) (u := 0) (w := 2) rfl rfl rfl ?_
                refine r_load (i := 54) (u := 1) (w := 0) rfl rfl rfl ?_
                refine r_const (i := 55) (u := 1) (z := 1) rfl rfl ?_
                refine c_ne (i := 56) (v := 61) rfl ⟨by omega, by omega⟩ ⟨by omega, by omega⟩ (fun h546 => ?_) (fun h547 => ?_)
                · refine r_load (i := 61) (u := 1) (w := 0) rfl rfl rfl ?_
                  refine r_const (i := 62) (u := 3) (z := 3) rfl rfl ?_
                  refine c_ne (i := 63) (v := 68) rfl ⟨by omega, by omega⟩ ⟨by omega, by omega⟩ (fun h548 => ?_) (fun h549 => ?_)
                  · refine r_load (i := 68) (u := 2) (w := 1) rfl rfl rfl ?_
                    refine r_putL (i := 69) (v := 36) (w := 11) rfl ly43 rfl ⟨by omega, by omega⟩ ?_
                    have hI551 := hI535.set43 (z := w0) (y := v) (by omega) (by omega) (by omega)
                    rw [hS543] at hI551
                    have hF553 := hF544.setf (b := 43) (w := 36) (z := v) rfl
                    have hR554 := hR545.setf (b := 43) (w := 36) (z := v)
                    refine yT_gen (fun S550 hS552 => ?_)
                    rw [hS552] at hI551 hF553 hR554 
                    exact r_ret0 (i := 70) rfl ⟨rfl,  hI551, hF553, hR554⟩
                  · refine r_load (i := 64) (u := 2) (w := 1) rfl rfl rfl ?_
                    refine r_lconst (i := 65) (u := 1) (z := 1) rfl rfl ?_
                    refine r_land (i := 66) rfl ?_
                    have h555 := @yland_c v 1 (by decide) (by decide)
                    refine r_goto (i := 67) (v := 69) rfl ?_
                    refine r_putL (i := 69) (v := 36) (w := 11) rfl ly43 rfl ⟨by omega, by omega⟩ ?_
                    have hI557 := hI535.set43 (z := w0) (y := yland v 1) (by omega) (by omega) (by omega)
                    rw [hS543] at hI557
                    have hF559 := hF544.setf (b := 43) (w := 36) (z := yland v 1) rfl
                    have hR560 := hR545.setf (b := 43) (w := 36) (z := yland v 1)
                    refine yT_gen (fun S556 hS558 => ?_)
                    rw [hS558] at hI557 hF559 hR560 
                    exact r_ret0 (i := 70) rfl ⟨rfl,  hI557, hF559, hR560⟩
                · refine r_load (i := 57) (u := 2) (w := 1) rfl rfl rfl ?_
                  refine r_l2i (i := 58) rfl ?_
                  rw [vi_sg v]
                  have h561 := ysg_fact v
                  refine r_i2l (i := 59) rfl ⟨by omega, by omega⟩ ?_
                  refine r_goto (i := 60) (v := 69) rfl ?_
                  refine r_putL (i := 69) (v := 36) (w := 11) rfl ly43 rfl ⟨by omega, by omega⟩ ?_
                  have hI563 := hI535.set43 (z := w0) (y := ysg v) (by omega) (by omega) (by omega)
                  rw [hS543] at hI563
                  have hF565 := hF544.setf (b := 43) (w := 36) (z := ysg v) rfl
                  have hR566 := hR545.setf (b := 43) (w := 36) (z := ysg v)
                  refine yT_gen (fun S562 hS564 => ?_)
                  rw [hS564] at hI563 hF565 hR566 
                  exact r_ret0 (i := 70) rfl ⟨rfl,  hI563, hF565, hR566⟩
              · refine r_load (i := 30) (u := 0) (w := 2) rfl rfl rfl ?_
                refine r_load (i := 31) (u := 2) (w := 1) rfl rfl rfl ?_
                refine r_l2i (i := 32) rfl ?_
                rw [vi_sg v]
                have h567 := ysg_fact v
                refine r_const (i := 33) (u := 1) (z := 1) rfl rfl ?_
                refine r_call (i := 34) (u := 11) (v := 261) (w := 0) (b := 0) (na := 1795) (C2 := xC261) (as := [(2, 43), vi (ysg v), vi 1]) (s := []) rfl rfl rfl rfl rfl rfl rfl (sp261 (t := ysg v) (o := 1) hI ⟨by omega, by omega⟩ ⟨by omega, by omega⟩   (by omega)) (fun r568 S569 hq570 => ?_)
                obtain ⟨z571, rfl, h572, h573, um574, hI575, hF576, hR577⟩ := hq570
                have hF578 := hF.trans hF576 rfl rfl
                have hR579 := hR.trans hR577 rfl
                refine Or.inr (Or.inl ⟨rfl, ?_⟩)
                refine z_eq (i := 35) (v := 38) rfl ⟨by omega, by omega⟩ (fun h580 => ?_) (fun h581 => ?_)
                · refine r_const (i := 38) (u := 0) (z := 0) rfl rfl ?_
                  refine r_store (i := 39) (u := 5) (w := 0) (L1 := [some ((2, 43)), some (vi w0), some (vl v), none, some (vi 1), some (vi 0)]) rfl rfl rfl rfl ?_
                  refine r_load (i := 40) (u := 0) (w := 2) rfl rfl rfl ?_
                  refine r_load (i := 41) (u := 5) (w := 0) rfl rfl rfl ?_
                  refine z_eq (i := 42) (v := 45) rfl ⟨by omega, by omega⟩ (fun h582 => ?_) (fun h583 => absurd h583 (by omega))
                  refine r_const (i := 45) (u := 1) (z := 1) rfl rfl ?_
                  refine r_putI (i := 46) (v := 0) (w := 11) rfl ly43 rfl ⟨by omega, by omega⟩ ?_
                  have hI585 := hI575.setf (b := 43) (w := 0) (z := 1) tf43_0 rfl (by omega) (by omega)
                  have hF587 := hF578.setf (b := 43) (w := 0) (z := 1) rfl
                  have hR588 := hR579.setf (b := 43) (w := 0) (z := 1)
                  refine yT_gen (fun S584 hS586 => ?_)
                  rw [hS586] at hI585 hF587 hR588 
                  refine r_load (i := 47) (u := 5) (w := 0) rfl rfl rfl ?_
                  refine z_ne (i := 48) (v := 50) rfl ⟨by omega, by omega⟩ (fun h589 => absurd h589 (by omega)) (fun h590 => ?_)
                  exact r_ret0 (i := 49) rfl ⟨rfl,  hI585, hF587, hR588⟩
                · refine r_const (i := 36) (u := 1) (z := 1) rfl rfl ?_
                  refine r_goto (i := 37) (v := 39) rfl ?_
                  refine r_store (i := 39) (u := 5) (w := 0) (L1 := [some ((2, 43)), some (vi w0), some (vl v), none, some (vi 1), some (vi 1)]) rfl rfl rfl rfl ?_
                  refine r_load (i := 40) (u := 0) (w := 2) rfl rfl rfl ?_
                  refine r_load (i := 41) (u := 5) (w := 0) rfl rfl rfl ?_
                  refine z_eq (i := 42) (v := 45) rfl ⟨by omega, by omega⟩ (fun h591 => absurd h591 (by omega)) (fun h592 => ?_)
                  refine r_const (i := 43) (u := 0) (z := 0) rfl rfl ?_
                  refine r_goto (i := 44) (v := 46) rfl ?_
                  refine r_putI (i := 46) (v := 0) (w := 11) rfl ly43 rfl ⟨by omega, by omega⟩ ?_
                  have hI594 := hI575.setf (b := 43) (w := 0) (z := 0) tf43_0 rfl (by omega) (by omega)
                  have hF596 := hF578.setf (b := 43) (w := 0) (z := 0) rfl
                  have hR597 := hR579.setf (b := 43) (w := 0) (z := 0)
                  refine yT_gen (fun S593 hS595 => ?_)
                  rw [hS595] at hI594 hF596 hR597 
                  refine r_load (i := 47) (u := 5) (w := 0) rfl rfl rfl ?_
                  refine z_ne (i := 48) (v := 50) rfl ⟨by omega, by omega⟩ (fun h598 => ?_) (fun h599 => absurd h599 (by omega))
                  refine r_load (i := 50) (u := 0) (w := 2) rfl rfl rfl ?_
                  refine r_load (i := 51) (u := 1) (w := 0) rfl rfl rfl ?_
                  refine r_putI (i := 52) (v := 33) (w := 11) rfl ly43 rfl ⟨by omega, by omega⟩ ?_
                  have hF603 := hF596.setf (b := 43) (w := 33) (z := w0) rfl
                  have hR604 := hR597.setf (b := 43) (w := 33) (z := w0)
                  refine yT_gen (fun S600 hS602 => ?_)
                  rw [hS602] at hF603 hR604 
                  refine r_load (i := 53) (u := 0) (w := 2) rfl rfl rfl ?_
                  refine r_load (i := 54) (u := 1) (w := 0) rfl rfl rfl ?_
                  refine r_const (i := 55) (u := 1) (z := 1) rfl rfl ?_
                  refine c_ne (i := 56) (v := 61) rfl ⟨by omega, by omega⟩ ⟨by omega, by omega⟩ (fun h605 => ?_) (fun h606 => ?_)
                  · refine r_load (i := 61) (u := 1) (w := 0) rfl rfl rfl ?_
                    refine r_const (i := 62) (u := 3) (z := 3) rfl rfl ?_
                    refine c_ne (i := 63) (v := 68) rfl ⟨by omega, by omega⟩ ⟨by omega, by omega⟩ (fun h607 => ?_) (fun h608 => ?_)
                    · refine r_load (i := 68) (u := 2) (w := 1) rfl rfl rfl ?_
                      refine r_putL (i := 69) (v := 36) (w := 11) rfl ly43 rfl ⟨by omega, by omega⟩ ?_
                      have hI610 := hI594.set43 (z := w0) (y := v) (by omega) (by omega) (by omega)
                      rw [hS602] at hI610
                      have hF612 := hF603.setf (b := 43) (w := 36) (z := v) rfl
                      have hR613 := hR604.setf (b := 43) (w := 36) (z := v)
                      refine yT_gen (fun S609 hS611 => ?_)
                      rw [hS611] at hI610 hF612 hR613 
                      exact r_ret0 (i := 70) rfl ⟨rfl,  hI610, hF612, hR613⟩
                    · refine r_load (i := 64) (u := 2) (w := 1) rfl rfl rfl ?_
                      refine r_lconst (i := 65) (u := 1) (z := 1) rfl rfl ?_
                      refine r_land (i := 66) rfl ?_
                      have h614 := @yland_c v 1 (by decide) (by decide)
                      refine r_goto (i := 67) (v := 69) rfl ?_
                      refine r_putL (i := 69) (v := 36) (w := 11) rfl ly43 rfl ⟨by omega, by omega⟩ ?_
                      have hI616 := hI594.set43 (z := w0) (y := yland v 1) (by omega) (by omega) (by omega)
                      rw [hS602] at hI616
                      have hF618 := hF603.setf (b := 43) (w := 36) (z := yland v 1) rfl
                      have hR619 := hR604.setf (b := 43) (w := 36) (z := yland v 1)
                      refine yT_gen (fun S615 hS617 => ?_)
                      rw [hS617] at hI616 hF618 hR619 
                      exact r_ret0 (i := 70) rfl ⟨rfl,  hI616, hF618, hR619⟩
                  · refine r_load (i := 57) (u := 2) (w := 1) rfl rfl rfl ?_
                    refine r_l2i (i := 58) rfl ?_
                    rw [vi_sg v]
                    have h620 := ysg_fact v
                    refine r_i2l (i := 59) rfl ⟨by omega, by omega⟩ ?_
                    refine r_goto (i := 60) (v := 69) rfl ?_
                    refine r_putL (i := 69) (v := 36) (w := 11) rfl ly43 rfl ⟨by omega, by omega⟩ ?_
                    have hI622 := hI594.set43 (z := w0) (y := ysg v) (by omega) (by omega) (by omega)
                    rw [hS602] at hI622
                    have hF624 := hF603.setf (b := 43) (w := 36) (z := ysg v) rfl
                    have hR625 := hR604.setf (b := 43) (w := 36) (z := ysg v)
                    refine yT_gen (fun S621 hS623 => ?_)
                    rw [hS623] at hI622 hF624 hR625 
                    exact r_ret0 (i := 70) rfl ⟨rfl,  hI622, hF624, hR625⟩
            · refine z_ge (i := 26) (v := 38) rfl ⟨by omega, by omega⟩ (fun h626 => ?_) (fun h627 => absurd h627 (by omega))
              refine r_const (i := 38) (u := 0) (z := 0) rfl rfl ?_
              refine r_store (i := 39) (u := 5) (w := 0) (L1 := [some ((2, 43)), some (vi w0), some (vl v), none, some (vi 1), some (vi 0)]) rfl rfl rfl rfl ?_
              refine r_load (i := 40) (u := 0) (w := 2) rfl rfl rfl ?_
              refine r_load (i := 41) (u := 5) (w := 0) rfl rfl rfl ?_
              refine z_eq (i := 42) (v := 45) rfl ⟨by omega, by omega⟩ (fun h628 => ?_) (fun h629 => absurd h629 (by omega))
              refine r_const (i := 45) (u := 1) (z := 1) rfl rfl ?_
              refine r_putI (i := 46) (v := 0) (w := 11) rfl ly43 rfl ⟨by omega, by omega⟩ ?_
              have hI631 := hI.setf (b := 43) (w := 0) (z := 1) tf43_0 rfl (by omega) (by omega)
              have hF633 := hF.setf (b := 43) (w := 0) (z := 1) rfl
              have hR634 := hR.setf (b := 43) (w := 0) (z := 1)
              refine yT_gen (fun S630 hS632 => ?_)
              rw [hS632] at hI631 hF633 hR634 
              refine r_load (i := 47) (u := 5) (w := 0) rfl rfl rfl ?_
              refine z_ne (i := 48) (v := 50) rfl ⟨by omega, by omega⟩ (fun h635 => absurd h635 (by omega)) (fun h636 => ?_)
              exact r_ret0 (i := 49) rfl ⟨rfl,  hI631, hF633, hR634⟩
            · refine z_ge (i := 26) (v := 38) rfl ⟨by omega, by omega⟩ (fun h637 => ?_) (fun h638 => absurd h638 (by omega))
              refine r_const (i := 38) (u := 0) (z := 0) rfl rfl ?_
              refine r_store (i := 39) (u := 5) (w := 0) (L1 := [some ((2, 43)), some (vi w0), some (vl v), none, some (vi 1), some (vi 0)]) rfl rfl rfl rfl ?_
              refine r_load (i := 40) (u := 0) (w := 2) rfl rfl rfl ?_
              refine r_load (i := 41) (u := 5) (w := 0) rfl rfl rfl ?_
              refine z_eq (i := 42) (v := 45) rfl ⟨by omega, by omega⟩ (fun h639 => ?_) (fun h640 => absurd h640 (by omega))
              refine r_const (i := 45) (u := 1) (z := 1) rfl rfl ?_
              refine r_putI (i := 46) (v := 0) (w := 11) rfl ly43 rfl ⟨by omega, by omega⟩ ?_
              have hI642 := hI.setf (b := 43) (w := 0) (z := 1) tf43_0 rfl (by omega) (by omega)
              have hF644 := hF.setf (b := 43) (w := 0) (z := 1) rfl
              have hR645 := hR.setf (b := 43) (w := 0) (z := 1)
              refine yT_gen (fun S641 hS643 => ?_)
              rw [hS643] at hI642 hF644 hR645 
              refine r_load (i := 47) (u := 5) (w := 0) rfl rfl rfl ?_
              refine z_ne (i := 48) (v := 50) rfl ⟨by omega, by omega⟩ (fun h646 => absurd h646 (by omega)) (fun h647 => ?_)
              exact r_ret0 (i := 49) rfl ⟨rfl,  hI642, hF644, hR645⟩
theorem lp263_4 {G : xk} {d : Nat} {S : yS} (hI : yI S) {m : Int} (h_m : 0 ≤ m ∧ m ≤ 59) (hd : 2 ≤ d + 1) : ∀ (n : Nat), ∀ (n0 k : Int) (h_n0 : 0 ≤ n0 ∧ n0 ≤ 8) (h_k : 0 ≤ k ∧ k ≤ 4) (q_0 : n0 ≤ 2 * k) (q_1 : n0 = wdA (S.a 55 m.toNat) k.toNat) (q_2 : k ≤ hmn (S.a 55 m.toNat)) (hn : 4 - k < (n : Nat)), yT xPr G LY xC263 4 [some ((2, 43)), some (vi m), some (vi n0), some (vi k)] [] S (d + 1) (fun r S' => ∃ z : Int, r = (1, vi z) ∧ 0 ≤ z ∧ z ≤ 8 ∧ (vM S → z = wdA (S.a 55 m.toNat) 4) ∧ S = S') := by
  intro n
  induction n with
  | zero => intro n0 k h_n0 h_k q_0 q_1 q_2 hn; exact absurd hn (by omega)
  | succ n ih =>
    intro n0 k h_n0 h_k q_0 q_1 q_2 hn
    have h1 := hI.a ta55 m.toNat
    have h2 := hI.a ta55 m.toNat
    refine r_load (i := 4) (u := 3) (w := 0) rfl rfl rfl ?_
    refine r_load (i := 5) (u := 0) (w := 2) rfl rfl rfl ?_
    refine r_getf (i := 6) (v := 14) (w := 11) (x := (2, 55)) rfl ly43 rfl rfl fun _ => ?_
    refine r_load (i := 7) (u := 1) (w := 0) rfl rfl rfl ?_
    refine a_int (i := 8) rfl ly55 rfl (by omega) (by omega) fun h4 => ?_
    have h5 := hI.a ta55 m.toNat
    have kp6 := hI.k55 m.toNat
    refine r_call (i := 9) (u := 65535) (v := 216) (w := 0) (b := 2) (na := 513) (C2 := xC216) (as := [vi (S.a 55 m.toNat)]) (s := [vi k]) rfl rfl rfl rfl rfl rfl rfl (sp216 (a := S.a 55 m.toNat) hI ⟨by omega, by omega⟩   (by omega)) (fun r7 S8 hq9 => ?_)
    obtain ⟨z10, rfl, h11, h12, hmn13, rfl⟩ := hq9
    refine Or.inr (Or.inl ⟨rfl, ?_⟩)
    refine c_ge (i := 10) (v := 23) rfl ⟨by omega, by omega⟩ ⟨by omega, by omega⟩ (fun h14 => ?_) (fun h15 => ?_)
    · refine r_load (i := 23) (u := 2) (w := 0) rfl rfl rfl ?_
      have h16 := hI.a ta55 m.toNat
      exact r_retI (i := 24) rfl ⟨n0, rfl, by omega, by omega, (by intro hv9; have h9 := hmn_of hmn13 (by omega) (by omega); rw [← (hv9 m.toNat).1, show hmn (S.a 55 m.toNat) = k by omega]; exact q_1), rfl⟩
    · refine r_load (i := 11) (u := 2) (w := 0) rfl rfl rfl ?_
      refine r_load (i := 12) (u := 0) (w := 2) rfl rfl rfl ?_
      refine r_getf (i := 13) (v := 14) (w := 11) (x := (2, 55)) rfl ly43 rfl rfl fun _ => ?_
      refine r_load (i := 14) (u := 1) (w := 0) rfl rfl rfl ?_
      refine a_int (i := 15) rfl ly55 rfl (by omega) (by omega) fun h18 => ?_
      have h19 := hI.a ta55 m.toNat
      have kp20 := hI.k55 m.toNat
      refine r_load (i := 16) (u := 3) (w := 0) rfl rfl rfl ?_
      refine r_call (i := 17) (u := 65535) (v := 229) (w := 0) (b := 2) (na := 514) (C2 := xC229) (as := [vi (S.a 55 m.toNat), vi k]) (s := [vi n0]) rfl rfl rfl rfl rfl rfl rfl (sp229 (a := S.a 55 m.toNat) (k := k) hI ⟨by omega, by omega⟩ ⟨by omega, by omega⟩   (by omega)) (fun r21 S22 hq23 => ?_)
      obtain ⟨z24, rfl, h25, h26, h27, rfl⟩ := hq23
      refine Or.inr (Or.inl ⟨rfl, ?_⟩)
      refine r_call (i := 18) (u := 65535) (v := 262) (w := 0) (b := 2) (na := 257) (C2 := xC262) (as := [vi z24]) (s := [vi n0]) rfl rfl rfl rfl rfl rfl rfl (sp262 (k := z24) hI ⟨by omega, by omega⟩   (by omega)) (fun r28 S29 hq30 => ?_)
      obtain ⟨z31, rfl, h32, h33, wd34, rfl⟩ := hq30
      refine Or.inr (Or.inl ⟨rfl, ?_⟩)
      refine r_iadd (i := 19) rfl ?_
      refine r_store (i := 20) (u := 2) (w := 0) (L1 := [some ((2, 43)), some (vi m), some (vi (n0 + z31)), some (vi k)]) rfl rfl rfl rfl ?_
      refine r_iinc (i := 21) (u := 1) (v := 3) (s := 1) (L1 := [some ((2, 43)), some (vi m), some (vi (n0 + z31)), some (vi (k + 1))]) rfl rfl rfl rfl rfl ?_
      refine r_goto (i := 22) (v := 4) rfl ?_
      have h35 := hI.a ta55 m.toNat
      have h36 := hI.a ta55 m.toNat
      exact ih (n0 + z31) (k + 1) ⟨by omega, by omega⟩ ⟨by omega, by omega⟩ (by omega) (by exact wd_s q_1 wd34 (show _ = dg (S.a 55 m.toNat) k by unfold dg; omega) (by omega)) (by have h9 := hmn_of hmn13 (by omega) (by omega); omega) (by omega)
/-- ProxyForgeModel.wideAll -/
theorem sp263 {G : xk} {S : yS} {d : Nat} (hI : yI S) {m : Int} (h_m : 0 ≤ m ∧ m ≤ 59) (hd : 2 ≤ d) : yT xPr G LY xC263 0 [some ((2, 43)), some (vi m)] [] S d (fun r S' => ∃ z : Int, r = (1, vi z) ∧ 0 ≤ z ∧ z ≤ 8 ∧ (vM S → z = wdA (S.a 55 m.toNat) 4) ∧ S = S') := by
  refine yT_pad 2 ?_
  show yT xPr G LY xC263 0 [some ((2, 43)), some (vi m), none, none] [] S d _
  obtain ⟨d, rfl⟩ : ∃ q, d = q + 1 := ⟨d - 1, by omega⟩
  refine r_const (i := 0) (u := 0) (z := 0) rfl rfl ?_
  refine r_store (i := 1) (u := 2) (w := 0) (L1 := [some ((2, 43)), some (vi m), some (vi 0), none]) rfl rfl rfl rfl ?_
  refine r_const (i := 2) (u := 0) (z := 0) rfl rfl ?_
  refine r_store (i := 3) (u := 3) (w := 0) (L1 := [some ((2, 43)), some (vi m), some (vi 0), some (vi 0)]) rfl rfl rfl rfl ?_
  have h1 := hI.a ta55 m.toNat
  have h2 := hI.a ta55 m.toNat
  exact lp263_4 hI h_m   hd _ 0 0 ⟨by omega, by omega⟩ ⟨by omega, by omega⟩ (by omega) (by exact rfl) (by exact hmn_rg.1) (Int.lt_succ_toNat _)
theorem lp256_4 {G : xk} {d : Nat} {S : yS} (hI : yI S) {k : Int} (h_k : 0 ≤ k ∧ k ≤ 23) (hd : 0 ≤ d) : ∀ (n : Nat), ∀ (g0 j : Int) (h_g0 : 0 ≤ g0 ∧ g0 ≤ 1) (h_j : 0 ≤ j ∧ j ≤ 3) (q_0 : g0 = 0 → ∀ i9 : Int, 0 ≤ i9 → i9 < j → S.a 62 (3 * k + i9).toNat ≠ 1) (q_1 : g0 = 1 → ¬ ∀ i9 : Int, 0 ≤ i9 → i9 < j → S.a 62 (3 * k + i9).toNat ≠ 1) (q_2 : j ≤ S.a 63 k.toNat) (hn : 3 - j < (n : Nat)), yT xPr G LY xC256 4 [some ((2, 43)), some (vi k), some (vi g0), some (vi j)] [] S d (fun r S' => ∃ z : Int, r = (1, vi z) ∧ 0 ≤ z ∧ z ≤ 1 ∧ (z = 0 → ∀ i9 : Int, 0 ≤ i9 → i9 < S.a 63 k.toNat → S.a 62 (3 * k + i9).toNat ≠ 1) ∧ (z = 1 → ¬ ∀ i9 : Int, 0 ≤ i9 → i9 < S.a 63 k.toNat → S.a 62 (3 * k + i9).toNat ≠ 1) ∧ S = S') := by
  intro n
  induction n with
  | zero => intro g0 j h_g0 h_j q_0 q_1 q_2 hn; exact absurd hn (by omega)
  | succ n ih =>
    intro g0 j h_g0 h_j q_0 q_1 q_2 hn
    have h1 := hI.a ta63 k.toNat
    refine r_load (i := 4) (u := 3) (w := 0) rfl rfl rfl ?_
    refine r_load (i := 5) (u := 0) (w := 2) rfl rfl rfl ?_
    refine r_getf (i := 6) (v := 26) (w := 11) (x := (2, 63)) rfl ly43 rfl rfl fun _ => ?_
    refine r_load (i := 7) (u := 1) (w := 0) rfl rfl rfl ?_
    refine a_int (i := 8) rfl ly63 rfl (by omega) (by omega) fun h3 => ?_
    have h4 := hI.a ta63 k.toNat
    refine c_ge (i := 9) (v := 28) rfl ⟨by omega, by omega⟩ ⟨by omega, by omega⟩ (fun h5 => ?_) (fun h6 => ?_)
    · refine r_load (i := 28) (u := 2) (w := 0) rfl rfl rfl ?_
      have h7 := hI.a ta63 k.toNat
      have h8 := hI.a ta63 k.toNat
      exact r_retZ (i := 29) rfl (by omega) (by omega) ⟨g0, rfl, by omega, by omega, (by intro hz; exact fun i9 a9 b9 => q_0 hz i9 a9 (by omega)), (by intro hz; exact fun h9 => q_1 hz (fun i9 a9 b9 => h9 i9 a9 (by omega))), rfl⟩
    · refine r_load (i := 10) (u := 2) (w := 0) rfl rfl rfl ?_
      refine z_ne (i := 11) (v := 22) rfl ⟨by omega, by omega⟩ (fun h9 => ?_) (fun h10 => ?_)
      · refine r_const (i := 22) (u := 1) (z := 1) rfl rfl ?_
        refine r_goto (i := 23) (v := 25) rfl ?_
        refine r_store (i := 25) (u := 2) (w := 0) (L1 := [some ((2, 43)), some (vi k), some (vi 1), some (vi j)]) rfl rfl rfl rfl ?_
        refine r_iinc (i := 26) (u := 1) (v := 3) (s := 1) (L1 := [some ((2, 43)), some (vi k), some (vi 1), some (vi (j + 1))]) rfl rfl rfl rfl rfl ?_
        refine r_goto (i := 27) (v := 4) rfl ?_
        have h11 := hI.a ta63 k.toNat
        exact ih 1 (j + 1) ⟨by omega, by omega⟩ ⟨by omega, by omega⟩ (by intro hz; first | exact absurd hz (by omega) | exact fun i9 a9 b9 => if e9 : i9 = j then (by rw [e9]; omega) else q_0 (by omega) i9 a9 (by omega)) (by intro hz; first | exact absurd hz (by omega) | exact fun h9 => q_1 (by omega) (fun i9 a9 b9 => h9 i9 a9 (by omega)) | exact fun h9 => h9 j (by omega) (by omega) (by omega)) (by omega) (by omega)
      · refine r_load (i := 12) (u := 0) (w := 2) rfl rfl rfl ?_
        refine r_getf (i := 13) (v := 25) (w := 11) (x := (2, 62)) rfl ly43 rfl rfl fun _ => ?_
        refine r_const (i := 14) (u := 3) (z := 3) rfl rfl ?_
        refine r_load (i := 15) (u := 1) (w := 0) rfl rfl rfl ?_
        refine r_imul (i := 16) rfl ?_
        refine r_load (i := 17) (u := 3) (w := 0) rfl rfl rfl ?_
        refine r_iadd (i := 18) rfl ?_
        refine a_int (i := 19) rfl ly62 rfl (by omega) (by omega) fun h13 => ?_
        have h14 := hI.a ta62 ((3 * k) + j).toNat
        refine r_const (i := 20) (u := 1) (z := 1) rfl rfl ?_
        refine c_ne (i := 21) (v := 24) rfl ⟨by omega, by omega⟩ ⟨by omega, by omega⟩ (fun h15 => ?_) (fun h16 => ?_)
        · refine r_const (i := 24) (u := 0) (z := 0) rfl rfl ?_
          refine r_store (i := 25) (u := 2) (w := 0) (L1 := [some ((2, 43)), some (vi k), some (vi 0), some (vi j)]) rfl rfl rfl rfl ?_
          refine r_iinc (i := 26) (u := 1) (v := 3) (s := 1) (L1 := [some ((2, 43)), some (vi k), some (vi 0), some (vi (j + 1))]) rfl rfl rfl rfl rfl ?_
          refine r_goto (i := 27) (v := 4) rfl ?_
          have h17 := hI.a ta63 k.toNat
          exact ih 0 (j + 1) ⟨by omega, by omega⟩ ⟨by omega, by omega⟩ (by intro hz; first | exact absurd hz (by omega) | exact fun i9 a9 b9 => if e9 : i9 = j then (by rw [e9]; omega) else q_0 (by omega) i9 a9 (by omega)) (by intro hz; first | exact absurd hz (by omega) | exact fun h9 => q_1 (by omega) (fun i9 a9 b9 => h9 i9 a9 (by omega)) | exact fun h9 => h9 j (by omega) (by omega) (by omega)) (by omega) (by omega)
        · refine r_const (i := 22) (u := 1) (z := 1) rfl rfl ?_
          refine r_goto (i := 23) (v := 25) rfl ?_
          refine r_store (i := 25) (u := 2) (w := 0) (L1 := [some ((2, 43)), some (vi k), some (vi 1), some (vi j)]) rfl rfl rfl rfl ?_
          refine r_iinc (i := 26) (u := 1) (v := 3) (s := 1) (L1 := [some ((2, 43)), some (vi k), some (vi 1), some (vi (j + 1))]) rfl rfl rfl rfl rfl ?_
          refine r_goto (i := 27) (v := 4) rfl ?_
          have h18 := hI.a ta63 k.toNat
          exact ih 1 (j + 1) ⟨by omega, by omega⟩ ⟨by omega, by omega⟩ (by intro hz; first | exact absurd hz (by omega) | exact fun i9 a9 b9 => if e9 : i9 = j then (by rw [e9]; omega) else q_0 (by omega) i9 a9 (by omega)) (by intro hz; first | exact absurd hz (by omega) | exact fun h9 => q_1 (by omega) (fun i9 a9 b9 => h9 i9 a9 (by omega)) | exact fun h9 => h9 j (by omega) (by omega) (by omega)) (by omega) (by omega)
/-- ProxyForgeModel.throwsAll -/
theorem sp256 {G : xk} {S : yS} {d : Nat} (hI : yI S) {k : Int} (h_k : 0 ≤ k ∧ k ≤ 23) (hd : 0 ≤ d) : yT xPr G LY xC256 0 [some ((2, 43)), some (vi k)] [] S d (fun r S' => ∃ z : Int, r = (1, vi z) ∧ 0 ≤ z ∧ z ≤ 1 ∧ (z = 0 → ∀ i9 : Int, 0 ≤ i9 → i9 < S.a 63 k.toNat → S.a 62 (3 * k + i9).toNat ≠ 1) ∧ (z = 1 → ¬ ∀ i9 : Int, 0 ≤ i9 → i9 < S.a 63 k.toNat → S.a 62 (3 * k + i9).toNat ≠ 1) ∧ S = S') := by
  refine yT_pad 2 ?_
  show yT xPr G LY xC256 0 [some ((2, 43)), some (vi k), none, none] [] S d _
  refine r_const (i := 0) (u := 0) (z := 0) rfl rfl ?_
  refine r_store (i := 1) (u := 2) (w := 0) (L1 := [some ((2, 43)), some (vi k), some (vi 0), none]) rfl rfl rfl rfl ?_
  refine r_const (i := 2) (u := 0) (z := 0) rfl rfl ?_
  refine r_store (i := 3) (u := 3) (w := 0) (L1 := [some ((2, 43)), some (vi k), some (vi 0), some (vi 0)]) rfl rfl rfl rfl ?_
  have h1 := hI.a ta63 k.toNat
  exact lp256_4 hI h_k   hd _ 0 0 ⟨by omega, by omega⟩ ⟨by omega, by omega⟩ (by exact fun _ i9 a9 b9 => absurd a9 (by omega)) (by intro hz; exact absurd hz (by omega)) (by omega) (Int.lt_succ_toNat _)
theorem lp206_33 {G : xk} {d : Nat} {S0 : yS} {t : Int} (h_t : -2147483648 ≤ t ∧ t ≤ 2147483647) {f : Int} (h_f : -2147483648 ≤ f ∧ f ≤ 2147483647) (hd : 1 ≤ d + 1) : ∀ (n : Nat), ∀ (S : yS) (hI : yI S) (hF : yFr [(43, 0)] [50, 51, 68] S0 S) (hR : yRm [] S0 S) (g0 j : Int) (h_g0 : 0 ≤ g0 ∧ g0 ≤ 1) (h_j : 0 ≤ j ∧ j ≤ 4) (q_0 : g0 = 1 → 3 < t ∧ t < S.f 43 1 ∧ 0 ≤ f ∧ f < S.f 43 1 ∧ S.a 51 t.toNat ≤ 3) (q_1 : sIm S0 S) (q_2 : FM S0 → (g0 = 1 → imP S0 t f j) ∧ (g0 = 0 → ¬ imM S0 t f)) (q_3 : g0 = 1 → j ≤ 4) (hn : 4 - j < (n : Nat)), yT xPr G LY xC206 33 [some ((2, 43)), some (vi t), some (vi f), some (vi g0), some (vi j)] [] S (d + 1) (fun r S' => r = (0, (0, 0)) ∧ mImQ S0 S' t f ∧ yI S' ∧ yFr [(43, 0)] [50, 51, 68] S0 S' ∧ yRm [] S0 S') := by
  intro n
  induction n with
  | zero => intro S hI hF hR g0 j h_g0 h_j q_0 q_1 q_2 q_3 hn; exact absurd hn (by omega)
  | succ n ih =>
    intro S hI hF hR g0 j h_g0 h_j q_0 q_1 q_2 q_3 hn
    have h1 := hI.f tf43_1
    have h2 : S.f 43 1 = S0.f 43 1 := hF.f rfl
    have h3 := hI.a ta51 t.toNat
    refine r_load (i := 33) (u := 3) (w := 0) rfl rfl rfl ?_
    refine z_eq (i := 34) (v := 57) rfl ⟨by omega, by omega⟩ (fun h4 => ?_) (fun h5 => ?_)
    · refine r_load (i := 57) (u := 0) (w := 2) rfl rfl rfl ?_
      refine r_load (i := 58) (u := 3) (w := 0) rfl rfl rfl ?_
      refine z_eq (i := 59) (v := 62) rfl ⟨by omega, by omega⟩ (fun h6 => ?_) (fun h7 => ?_)
      · refine r_const (i := 62) (u := 1) (z := 1) rfl rfl ?_
        refine r_putI (i := 63) (v := 0) (w := 11) rfl ly43 rfl ⟨by omega, by omega⟩ ?_
        have hI9 := hI.setf (b := 43) (w := 0) (z := 1) tf43_0 rfl (by omega) (by omega)
        have hF11 := hF.setf (b := 43) (w := 0) (z := 1) rfl
        have hR12 := hR.setf (b := 43) (w := 0) (z := 1)
        refine yT_gen (fun S8 hS10 => ?_)
        rw [hS10] at hI9 hF11 hR12 
        refine r_load (i := 64) (u := 3) (w := 0) rfl rfl rfl ?_
        refine z_ne (i := 65) (v := 67) rfl ⟨by omega, by omega⟩ (fun h13 => ?_) (fun h14 => ?_)
        · refine r_load (i := 67) (u := 0) (w := 2) rfl rfl rfl ?_
          refine r_getf (i := 68) (v := 8) (w := 11) (x := (2, 50)) rfl ly43 rfl rfl fun _ => ?_
          refine r_const (i := 69) (u := 4) (z := 4) rfl rfl ?_
          refine r_load (i := 70) (u := 1) (w := 0) rfl rfl rfl ?_
          refine r_imul (i := 71) rfl ?_
          refine r_load (i := 72) (u := 0) (w := 2) rfl rfl rfl ?_
          refine r_getf (i := 73) (v := 9) (w := 11) (x := (2, 51)) rfl ly43 rfl rfl fun _ => ?_
          refine r_load (i := 74) (u := 1) (w := 0) rfl rfl rfl ?_
          refine a_int (i := 75) rfl ly51 rfl (by omega) (by omega) fun h17 => ?_
          have h18 := hI9.a ta51 t.toNat
          have h19 : S8.a 51 t.toNat = S.a 51 t.toNat := by rw [← hS10]; rfl
          refine r_iadd (i := 76) rfl ?_
          refine r_load (i := 77) (u := 2) (w := 0) rfl rfl rfl ?_
          refine s_int (i := 78) rfl ly50 rfl (by omega) (by omega) ⟨by omega, by omega⟩ ?_
          have hI21 := hI9.seta (b := 50) (j := ((4 * t) + (S8.a 51 t.toNat)).toNat) (z := f) ta50 rfl (by omega) (by omega)
          have hF23 := hF11.seta (b := 50) (j := ((4 * t) + (S8.a 51 t.toNat)).toNat) (z := f) rfl
          have hR24 := hR12.seta (b := 50) (j := ((4 * t) + (S8.a 51 t.toNat)).toNat) (z := f)
          refine yT_gen (fun S20 hS22 => ?_)
          rw [hS22] at hI21 hF23 hR24 
          refine r_load (i := 79) (u := 0) (w := 2) rfl rfl rfl ?_
          refine r_getf (i := 80) (v := 9) (w := 11) (x := (2, 51)) rfl ly43 rfl rfl fun _ => ?_
          refine r_load (i := 81) (u := 1) (w := 0) rfl rfl rfl ?_
          refine r_dup2 (i := 82) rfl rfl rfl ?_
          refine a_int (i := 83) rfl ly51 rfl (by omega) (by omega) fun h26 => ?_
          have h27 := hI21.a ta51 t.toNat
          have h28 : S20.a 51 t.toNat = S8.a 51 t.toNat := by rw [← hS22]; rfl
          have h29 : S8.a 51 t.toNat = S.a 51 t.toNat := by rw [← hS10]; rfl
          refine r_const (i := 84) (u := 1) (z := 1) rfl rfl ?_
          refine r_iadd (i := 85) rfl ?_
          refine s_int (i := 86) rfl ly51 rfl (by omega) (by omega) ⟨by omega, by omega⟩ ?_
          have hI31 := hI21.seta (b := 51) (j := t.toNat) (z := (S20.a 51 t.toNat) + 1) ta51 rfl (by omega) (by omega)
          have hF33 := hF23.seta (b := 51) (j := t.toNat) (z := (S20.a 51 t.toNat) + 1) rfl
          have hR34 := hR24.seta (b := 51) (j := t.toNat) (z := (S20.a 51 t.toNat) + 1)
          refine yT_gen (fun S30 hS32 => ?_)
          rw [hS32] at hI31 hF33 hR34 
          have h35 := hI31.f tf43_0
          have h36 : S30.f 43 0 = S20.f 43 0 := by rw [← hS32]; rfl
          have h37 : S20.f 43 0 = S8.f 43 0 := by rw [← hS22]; rfl
          have h38 : S8.f 43 0 = 1 := by rw [← hS10]; exact ysf_eq
          exact r_ret0 (i := 87) rfl ⟨rfl, (by first | (exfalso; omega) | exact fun hf9 => Or.inl ⟨by omega, imP_end ((q_2 hf9).1 (by omega)) (by have w8 := (q_1 t.toNat).1; omega), by subst hS10 hS22 hS32; exact mIm_of q_1⟩), hI31, hF33, hR34⟩
        · have h39 := hI9.f tf43_0
          have h40 : S8.f 43 0 = 1 := by rw [← hS10]; exact ysf_eq
          exact r_ret0 (i := 66) rfl ⟨rfl, (by first | (exfalso; omega) | exact fun hf9 => Or.inr ⟨by omega, (q_2 hf9).2 (by omega), by subst hS10; exact q_1⟩), hI9, hF11, hR12⟩
      · refine r_const (i := 60) (u := 0) (z := 0) rfl rfl ?_
        refine r_goto (i := 61) (v := 63) rfl ?_
        refine r_putI (i := 63) (v := 0) (w := 11) rfl ly43 rfl ⟨by omega, by omega⟩ ?_
        have hI42 := hI.setf (b := 43) (w := 0) (z := 0) tf43_0 rfl (by omega) (by omega)
        have hF44 := hF.setf (b := 43) (w := 0) (z := 0) rfl
        have hR45 := hR.setf (b := 43) (w := 0) (z := 0)
        refine yT_gen (fun S41 hS43 => ?_)
        rw [hS43] at hI42 hF44 hR45 
        refine r_load (i := 64) (u := 3) (w := 0) rfl rfl rfl ?_
        refine z_ne (i := 65) (v := 67) rfl ⟨by omega, by omega⟩ (fun h46 => ?_) (fun h47 => ?_)
        · refine r_load (i := 67) (u := 0) (w := 2) rfl rfl rfl ?_
          refine r_getf (i := 68) (v := 8) (w := 11) (x := (2, 50)) rfl ly43 rfl rfl fun _ => ?_
          refine r_const (i := 69) (u := 4) (z := 4) rfl rfl ?_
          refine r_load (i := 70) (u := 1) (w := 0) rfl rfl rfl ?_
          refine r_imul (i := 71) rfl ?_
          refine r_load (i := 72) (u := 0) (w := 2) rfl rfl rfl ?_
          refine r_getf (i := 73) (v := 9) (w := 11) (x := (2, 51)) rfl ly43 rfl rfl fun _ => ?_
          refine r_load (i := 74) (u := 1) (w := 0) rfl rfl rfl ?_
          refine a_int (i := 75) rfl ly51 rfl (by omega) (by omega) fun h50 => ?_
          have h51 := hI42.a ta51 t.toNat
          have h52 : S41.a 51 t.toNat = S.a 51 t.toNat := by rw [← hS43]; rfl
          refine r_iadd (i := 76) rfl ?_
          refine r_load (i := 77) (u := 2) (w := 0) rfl rfl rfl ?_
          refine s_int (i := 78) rfl ly50 rfl (by omega) (by omega) ⟨by omega, by omega⟩ ?_
          have hI54 := hI42.seta (b := 50) (j := ((4 * t) + (S41.a 51 t.toNat)).toNat) (z := f) ta50 rfl (by omega) (by omega)
          have hF56 := hF44.seta (b := 50) (j := ((4 * t) + (S41.a 51 t.toNat)).toNat) (z := f) rfl
          have hR57 := hR45.seta (b := 50) (j := ((4 * t) + (S41.a 51 t.toNat)).toNat) (z := f)
          refine yT_gen (fun S53 hS55 => ?_)
          rw [hS55] at hI54 hF56 hR57 
          refine r_load (i := 79) (u := 0) (w := 2) rfl rfl rfl ?_
          refine r_getf (i := 80) (v := 9) (w := 11) (x := (2, 51)) rfl ly43 rfl rfl fun _ => ?_
          refine r_load (i := 81) (u := 1) (w := 0) rfl rfl rfl ?_
          refine r_dup2 (i := 82) rfl rfl rfl ?_
          refine a_int (i := 83) rfl ly51 rfl (by omega) (by omega) fun h59 => ?_
          have h60 := hI54.a ta51 t.toNat
          have h61 : S53.a 51 t.toNat = S41.a 51 t.toNat := by rw [← hS55]; rfl
          have h62 : S41.a 51 t.toNat = S.a 51 t.toNat := by rw [← hS43]; rfl
          refine r_const (i := 84) (u := 1) (z := 1) rfl rfl ?_
          refine r_iadd (i := 85) rfl ?_
          refine s_int (i := 86) rfl ly51 rfl (by omega) (by omega) ⟨by omega, by omega⟩ ?_
          have hI64 := hI54.seta (b := 51) (j := t.toNat) (z := (S53.a 51 t.toNat) + 1) ta51 rfl (by omega) (by omega)
          have hF66 := hF56.seta (b := 51) (j := t.toNat) (z := (S53.a 51 t.toNat) + 1) rfl
          have hR67 := hR57.seta (b := 51) (j := t.toNat) (z := (S53.a 51 t.toNat) + 1)
          refine yT_gen (fun S63 hS65 => ?_)
          rw [hS65] at hI64 hF66 hR67 
          have h68 := hI64.f tf43_0
          have h69 : S63.f 43 0 = S53.f 43 0 := by rw [← hS65]; rfl
          have h70 : S53.f 43 0 = S41.f 43 0 := by rw [← hS55]; rfl
          have h71 : S41.f 43 0 = 0 := by rw [← hS43]; exact ysf_eq
          exact r_ret0 (i := 87) rfl ⟨rfl, (by first | (exfalso; omega) | exact fun hf9 => Or.inl ⟨by omega, imP_end ((q_2 hf9).1 (by omega)) (by have w8 := (q_1 t.toNat).1; omega), by subst hS43 hS55 hS65; exact mIm_of q_1⟩), hI64, hF66, hR67⟩
        · have h72 := hI42.f tf43_0
          have h73 : S41.f 43 0 = 0 := by rw [← hS43]; exact ysf_eq
          exact r_ret0 (i := 66) rfl ⟨rfl, (by first | (exfalso; omega) | exact fun hf9 => Or.inr ⟨by omega, (q_2 hf9).2 (by omega), by subst hS43; exact q_1⟩), hI42, hF44, hR45⟩
    · refine r_load (i := 35) (u := 4) (w := 0) rfl rfl rfl ?_
      refine r_load (i := 36) (u := 0) (w := 2) rfl rfl rfl ?_
      refine r_getf (i := 37) (v := 9) (w := 11) (x := (2, 51)) rfl ly43 rfl rfl fun _ => ?_
      refine r_load (i := 38) (u := 1) (w := 0) rfl rfl rfl ?_
      refine a_int (i := 39) rfl ly51 rfl (by omega) (by omega) fun h75 => ?_
      have h76 := hI.a ta51 t.toNat
      refine c_ge (i := 40) (v := 57) rfl ⟨by omega, by omega⟩ ⟨by omega, by omega⟩ (fun h77 => ?_) (fun h78 => ?_)
      · refine r_load (i := 57) (u := 0) (w := 2) rfl rfl rfl ?_
        refine r_load (i := 58) (u := 3) (w := 0) rfl rfl rfl ?_
        refine z_eq (i := 59) (v := 62) rfl ⟨by omega, by omega⟩ (fun h79 => ?_) (fun h80 => ?_)
        · refine r_const (i := 62) (u := 1) (z := 1) rfl rfl ?_
          refine r_putI (i := 63) (v := 0) (w := 11) rfl ly43 rfl ⟨by omega, by omega⟩ ?_
          have hI82 := hI.setf (b := 43) (w := 0) (z := 1) tf43_0 rfl (by omega) (by omega)
          have hF84 := hF.setf (b := 43) (w := 0) (z := 1) rfl
          have hR85 := hR.setf (b := 43) (w := 0) (z := 1)
          refine yT_gen (fun S81 hS83 => ?_)
          rw [hS83] at hI82 hF84 hR85 
          refine r_load (i := 64) (u := 3) (w := 0) rfl rfl rfl ?_
          refine z_ne (i := 65) (v := 67) rfl ⟨by omega, by omega⟩ (fun h86 => ?_) (fun h87 => ?_)
          · refine r_load (i := 67) (u := 0) (w := 2) rfl rfl rfl ?_
            refine r_getf (i := 68) (v := 8) (w := 11) (x := (2, 50)) rfl ly43 rfl rfl fun _ => ?_
            refine r_const (i := 69) (u := 4) (z := 4) rfl rfl ?_
            refine r_load (i := 70) (u := 1) (w := 0) rfl rfl rfl ?_
            refine r_imul (i := 71) rfl ?_
            refine r_load (i := 72) (u := 0) (w := 2) rfl rfl rfl ?_
            refine r_getf (i := 73) (v := 9) (w := 11) (x := (2, 51)) rfl ly43 rfl rfl fun _ => ?_
            refine r_load (i := 74) (u := 1) (w := 0) rfl rfl rfl ?_
            refine a_int (i := 75) rfl ly51 rfl (by omega) (by omega) fun h90 => ?_
            have h91 := hI82.a ta51 t.toNat
            have h92 : S81.a 51 t.toNat = S.a 51 t.toNat := by rw [← hS83]; rfl
            refine r_iadd (i := 76) rfl ?_
            refine r_load (i := 77) (u := 2) (w := 0) rfl rfl rfl ?_
            refine s_int (i := 78) rfl ly50 rfl (by omega) (by omega) ⟨by omega, by omega⟩ ?_
            have hI94 := hI82.seta (b := 50) (j := ((4 * t) + (S81.a 51 t.toNat)).toNat) (z := f) ta50 rfl (by omega) (by omega)
            have hF96 := hF84.seta (b := 50) (j := ((4 * t) + (S81.a 51 t.toNat)).toNat) (z := f) rfl
            have hR97 := hR85.seta (b := 50) (j := ((4 * t) + (S81.a 51 t.toNat)).toNat) (z := f)
            refine yT_gen (fun S93 hS95 => ?_)
            rw [hS95] at hI94 hF96 hR97 
            refine r_load (i := 79) (u := 0) (w := 2) rfl rfl rfl ?_
            refine r_getf (i := 80) (v := 9) (w := 11) (x := (2, 51)) rfl ly43 rfl rfl fun _ => ?_
            refine r_load (i := 81) (u := 1) (w := 0) rfl rfl rfl ?_
            refine r_dup2 (i := 82) rfl rfl rfl ?_
            refine a_int (i := 83) rfl ly51 rfl (by omega) (by omega) fun h99 => ?_
            have h100 := hI94.a ta51 t.toNat
            have h101 : S93.a 51 t.toNat = S81.a 51 t.toNat := by rw [← hS95]; rfl
            have h102 : S81.a 51 t.toNat = S.a 51 t.toNat := by rw [← hS83]; rfl
            refine r_const (i := 84) (u := 1) (z := 1) rfl rfl ?_
            refine r_iadd (i := 85) rfl ?_
            refine s_int (i := 86) rfl ly51 rfl (by omega) (by omega) ⟨by omega, by omega⟩ ?_
            have hI104 := hI94.seta (b := 51) (j := t.toNat) (z := (S93.a 51 t.toNat) + 1) ta51 rfl (by omega) (by omega)
            have hF106 := hF96.seta (b := 51) (j := t.toNat) (z := (S93.a 51 t.toNat) + 1) rfl
            have hR107 := hR97.seta (b := 51) (j := t.toNat) (z := (S93.a 51 t.toNat) + 1)
            refine yT_gen (fun S103 hS105 => ?_)
            rw [hS105] at hI104 hF106 hR107 
            have h108 := hI104.f tf43_0
            have h109 : S103.f 43 0 = S93.f 43 0 := by rw [← hS105]; rfl
            have h110 : S93.f 43 0 = S81.f 43 0 := by rw [← hS95]; rfl
            have h111 : S81.f 43 0 = 1 := by rw [← hS83]; exact ysf_eq
            exact r_ret0 (i := 87) rfl ⟨rfl, (by first | (exfalso; omega) | exact fun hf9 => Or.inl ⟨by omega, imP_end ((q_2 hf9).1 (by omega)) (by have w8 := (q_1 t.toNat).1; omega), by subst hS83 hS95 hS105; exact mIm_of q_1⟩), hI104, hF106, hR107⟩
          · have h112 := hI82.f tf43_0
            have h113 : S81.f 43 0 = 1 := by rw [← hS83]; exact ysf_eq
            exact r_ret0 (i := 66) rfl ⟨rfl, (by first | (exfalso; omega) | exact fun hf9 => Or.inr ⟨by omega, (q_2 hf9).2 (by omega), by subst hS83; exact q_1⟩), hI82, hF84, hR85⟩
        · refine r_const (i := 60) (u := 0) (z := 0) rfl rfl ?_
          refine r_goto (i := 61) (v := 63) rfl ?_
          refine r_putI (i := 63) (v := 0) (w := 11) rfl ly43 rfl ⟨by omega, by omega⟩ ?_
          have hI115 := hI.setf (b := 43) (w := 0) (z := 0) tf43_0 rfl (by omega) (by omega)
          have hF117 := hF.setf (b := 43) (w := 0) (z := 0) rfl
          have hR118 := hR.setf (b := 43) (w := 0) (z := 0)
          refine yT_gen (fun S114 hS116 => ?_)
          rw [hS116] at hI115 hF117 hR118 
          refine r_load (i := 64) (u := 3) (w := 0) rfl rfl rfl ?_
          refine z_ne (i := 65) (v := 67) rfl ⟨by omega, by omega⟩ (fun h119 => ?_) (fun h120 => ?_)
          · refine r_load (i := 67) (u := 0) (w := 2) rfl rfl rfl ?_
            refine r_getf (i := 68) (v := 8) (w := 11) (x := (2, 50)) rfl ly43 rfl rfl fun _ => ?_
            refine r_const (i := 69) (u := 4) (z := 4) rfl rfl ?_
            refine r_load (i := 70) (u := 1) (w := 0) rfl rfl rfl ?_
            refine r_imul (i := 71) rfl ?_
            refine r_load (i := 72) (u := 0) (w := 2) rfl rfl rfl ?_
            refine r_getf (i := 73) (v := 9) (w := 11) (x := (2, 51)) rfl ly43 rfl rfl fun _ => ?_
            refine r_load (i := 74) (u := 1) (w := 0) rfl rfl rfl ?_
            refine a_int (i := 75) rfl ly51 rfl (by omega) (by omega) fun h123 => ?_
            have h124 := hI115.a ta51 t.toNat
            have h125 : S114.a 51 t.toNat = S.a 51 t.toNat := by rw [← hS116]; rfl
            refine r_iadd (i := 76) rfl ?_
            refine r_load (i := 77) (u := 2) (w := 0) rfl rfl rfl ?_
            refine s_int (i := 78) rfl ly50 rfl (by omega) (by omega) ⟨by omega, by omega⟩ ?_
            have hI127 := hI115.seta (b := 50) (j := ((4 * t) + (S114.a 51 t.toNat)).toNat) (z := f) ta50 rfl (by omega) (by omega)
            have hF129 := hF117.seta (b := 50) (j := ((4 * t) + (S114.a 51 t.toNat)).toNat) (z := f) rfl
            have hR130 := hR118.seta (b := 50) (j := ((4 * t) + (S114.a 51 t.toNat)).toNat) (z := f)
            refine yT_gen (fun S126 hS128 => ?_)
            rw [hS128] at hI127 hF129 hR130 
            refine r_load (i := 79) (u := 0) (w := 2) rfl rfl rfl ?_
            refine r_getf (i := 80) (v := 9) (w := 11) (x := (2, 51)) rfl ly43 rfl rfl fun _ => ?_
            refine r_load (i := 81) (u := 1) (w := 0) rfl rfl rfl ?_
            refine r_dup2 (i := 82) rfl rfl rfl ?_
            refine a_int (i := 83) rfl ly51 rfl (by omega) (by omega) fun h132 => ?_
            have h133 := hI127.a ta51 t.toNat
            have h134 : S126.a 51 t.toNat = S114.a 51 t.toNat := by rw [← hS128]; rfl
            have h135 : S114.a 51 t.toNat = S.a 51 t.toNat := by rw [← hS116]; rfl
            refine r_const (i := 84) (u := 1) (z := 1) rfl rfl ?_
            refine r_iadd (i := 85) rfl ?_
            refine s_int (i := 86) rfl ly51 rfl (by omega) (by omega) ⟨by omega, by omega⟩ ?_
            have hI137 := hI127.seta (b := 51) (j := t.toNat) (z := (S126.a 51 t.toNat) + 1) ta51 rfl (by omega) (by omega)
            have hF139 := hF129.seta (b := 51) (j := t.toNat) (z := (S126.a 51 t.toNat) + 1) rfl
            have hR140 := hR130.seta (b := 51) (j := t.toNat) (z := (S126.a 51 t.toNat) + 1)
            refine yT_gen (fun S136 hS138 => ?_)
            rw [hS138] at hI137 hF139 hR140 
            have h141 := hI137.f tf43_0
            have h142 : S136.f 43 0 = S126.f 43 0 := by rw [← hS138]; rfl
            have h143 : S126.f 43 0 = S114.f 43 0 := by rw [← hS128]; rfl
            have h144 : S114.f 43 0 = 0 := by rw [← hS116]; exact ysf_eq
            exact r_ret0 (i := 87) rfl ⟨rfl, (by first | (exfalso; omega) | exact fun hf9 => Or.inl ⟨by omega, imP_end ((q_2 hf9).1 (by omega)) (by have w8 := (q_1 t.toNat).1; omega), by subst hS116 hS128 hS138; exact mIm_of q_1⟩), hI137, hF139, hR140⟩
          · have h145 := hI115.f tf43_0
            have h146 : S114.f 43 0 = 0 := by rw [← hS116]; exact ysf_eq
            exact r_ret0 (i := 66) rfl ⟨rfl, (by first | (exfalso; omega) | exact fun hf9 => Or.inr ⟨by omega, (q_2 hf9).2 (by omega), by subst hS116; exact q_1⟩), hI115, hF117, hR118⟩
      · refine r_load (i := 41) (u := 0) (w := 2) rfl rfl rfl ?_
        refine r_getf (i := 42) (v := 8) (w := 11) (x := (2, 50)) rfl ly43 rfl rfl fun _ => ?_
        refine r_const (i := 43) (u := 4) (z := 4) rfl rfl ?_
        refine r_load (i := 44) (u := 1) (w := 0) rfl rfl rfl ?_
        refine r_imul (i := 45) rfl ?_
        refine r_load (i := 46) (u := 4) (w := 0) rfl rfl rfl ?_
        refine r_iadd (i := 47) rfl ?_
        refine a_int (i := 48) rfl ly50 rfl (by omega) (by omega) fun h148 => ?_
        have h149 := hI.a ta50 ((4 * t) + j).toNat
        refine r_load (i := 49) (u := 2) (w := 0) rfl rfl rfl ?_
        refine c_eq (i := 50) (v := 53) rfl ⟨by omega, by omega⟩ ⟨by omega, by omega⟩ (fun h150 => ?_) (fun h151 => ?_)
        · refine r_const (i := 53) (u := 0) (z := 0) rfl rfl ?_
          refine r_store (i := 54) (u := 3) (w := 0) (L1 := [some ((2, 43)), some (vi t), some (vi f), some (vi 0), some (vi j)]) rfl rfl rfl rfl ?_
          refine r_iinc (i := 55) (u := 1) (v := 4) (s := 1) (L1 := [some ((2, 43)), some (vi t), some (vi f), some (vi 0), some (vi (j + 1))]) rfl rfl rfl rfl rfl ?_
          refine r_goto (i := 56) (v := 33) rfl ?_
          have h152 := hI.a ta51 t.toNat
          exact ih S hI hF hR 0 (j + 1) ⟨by omega, by omega⟩ ⟨by omega, by omega⟩ (by omega) (by exact q_1) (by first | exact fun hf9 => ⟨fun _ => imP_s ((q_2 hf9).1 (by omega)) (by have w9 := (q_1 (4 * t + j).toNat).2; have w8 := (q_1 t.toNat).1; omega), fun h9 => absurd h9 (by omega)⟩ | exact fun hf9 => ⟨fun h9 => absurd h9 (by omega), fun _ hc => hc.2.2.2.2.2 j (by omega) (by have w9 := (q_1 (4 * t + j).toNat).2; have w8 := (q_1 t.toNat).1; omega) (by have w9 := (q_1 (4 * t + j).toNat).2; have w8 := (q_1 t.toNat).1; omega)⟩) (by omega) (by omega)
        · refine r_const (i := 51) (u := 1) (z := 1) rfl rfl ?_
          refine r_goto (i := 52) (v := 54) rfl ?_
          refine r_store (i := 54) (u := 3) (w := 0) (L1 := [some ((2, 43)), some (vi t), some (vi f), some (vi 1), some (vi j)]) rfl rfl rfl rfl ?_
          refine r_iinc (i := 55) (u := 1) (v := 4) (s := 1) (L1 := [some ((2, 43)), some (vi t), some (vi f), some (vi 1), some (vi (j + 1))]) rfl rfl rfl rfl rfl ?_
          refine r_goto (i := 56) (v := 33) rfl ?_
          have h153 := hI.a ta51 t.toNat
          exact ih S hI hF hR 1 (j + 1) ⟨by omega, by omega⟩ ⟨by omega, by omega⟩ (by omega) (by exact q_1) (by first | exact fun hf9 => ⟨fun _ => imP_s ((q_2 hf9).1 (by omega)) (by have w9 := (q_1 (4 * t + j).toNat).2; have w8 := (q_1 t.toNat).1; omega), fun h9 => absurd h9 (by omega)⟩ | exact fun hf9 => ⟨fun h9 => absurd h9 (by omega), fun _ hc => hc.2.2.2.2.2 j (by omega) (by have w9 := (q_1 (4 * t + j).toNat).2; have w8 := (q_1 t.toNat).1; omega) (by have w9 := (q_1 (4 * t + j).toNat).2; have w8 := (q_1 t.toNat).1; omega)⟩) (by omega) (by omega)
/-- ProxyForgeModel.implement -/
theorem sp206 {G : xk} {S : yS} {d : Nat} (hI : yI S) {t : Int} (h_t : -2147483648 ≤ t ∧ t ≤ 2147483647) {f : Int} (h_f : -2147483648 ≤ f ∧ f ≤ 2147483647) (hd : 1 ≤ d) : yT xPr G LY xC206 0 [some ((2, 43)), some (vi t), some (vi f)] [] S d (fun r S' => r = (0, (0, 0)) ∧ mImQ S S' t f ∧ yI S' ∧ yFr [(43, 0)] [50, 51, 68] S S' ∧ yRm [] S S') := by
  refine yT_pad 2 ?_
  show yT xPr G LY xC206 0 [some ((2, 43)), some (vi t), some (vi f), none, none] [] S d _
  obtain ⟨d, rfl⟩ : ∃ q, d = q + 1 := ⟨d - 1, by omega⟩
  have hF : yFr [(43, 0)] [50, 51, 68] S S := yFr.refl S
  have hR : yRm [] S S := yRm.refl S
  refine r_load (i := 0) (u := 1) (w := 0) rfl rfl rfl ?_
  refine r_const (i := 1) (u := 3) (z := 3) rfl rfl ?_
  refine c_le (i := 2) (v := 29) rfl ⟨by omega, by omega⟩ ⟨by omega, by omega⟩ (fun h1 => ?_) (fun h2 => ?_)
  · refine r_const (i := 29) (u := 0) (z := 0) rfl rfl ?_
    refine r_store (i := 30) (u := 3) (w := 0) (L1 := [some ((2, 43)), some (vi t), some (vi f), some (vi 0), none]) rfl rfl rfl rfl ?_
    refine r_const (i := 31) (u := 0) (z := 0) rfl rfl ?_
    refine r_store (i := 32) (u := 4) (w := 0) (L1 := [some ((2, 43)), some (vi t), some (vi f), some (vi 0), some (vi 0)]) rfl rfl rfl rfl ?_
    have h3 := hI.f tf43_1
    have h4 := hI.a ta51 t.toNat
    exact lp206_33 h_t h_f  hd _ S hI hF hR 0 0 ⟨by omega, by omega⟩ ⟨by omega, by omega⟩ (by omega) (by exact fun j9 => ⟨rfl, rfl⟩) (by exact fun hf9 => ⟨fun h9 => absurd h9 (by omega), fun _ hc => by obtain ⟨c1, c2, c3, c4, -⟩ := hc; omega⟩) (by omega) (Int.lt_succ_toNat _)
  · refine r_load (i := 3) (u := 1) (w := 0) rfl rfl rfl ?_
    refine r_load (i := 4) (u := 0) (w := 2) rfl rfl rfl ?_
    have h5 := hI.f tf43_1
    refine r_getf (i := 5) (v := 1) (w := 11) (x := vi (S.f 43 1)) rfl ly43 rfl rfl fun h6 => ?_
    have h6 : Rg (S.f 43 1) := h6
    refine c_ge (i := 6) (v := 29) rfl ⟨by omega, by omega⟩ ⟨by omega, by omega⟩ (fun h7 => ?_) (fun h8 => ?_)
    · refine r_const (i := 29) (u := 0) (z := 0) rfl rfl ?_
      refine r_store (i := 30) (u := 3) (w := 0) (L1 := [some ((2, 43)), some (vi t), some (vi f), some (vi 0), none]) rfl rfl rfl rfl ?_
      refine r_const (i := 31) (u := 0) (z := 0) rfl rfl ?_
      refine r_store (i := 32) (u := 4) (w := 0) (L1 := [some ((2, 43)), some (vi t), some (vi f), some (vi 0), some (vi 0)]) rfl rfl rfl rfl ?_
      have h9 := hI.a ta51 t.toNat
      exact lp206_33 h_t h_f  hd _ S hI hF hR 0 0 ⟨by omega, by omega⟩ ⟨by omega, by omega⟩ (by omega) (by exact fun j9 => ⟨rfl, rfl⟩) (by exact fun hf9 => ⟨fun h9 => absurd h9 (by omega), fun _ hc => by obtain ⟨c1, c2, c3, c4, -⟩ := hc; omega⟩) (by omega) (Int.lt_succ_toNat _)
    · refine r_load (i := 7) (u := 0) (w := 2) rfl rfl rfl ?_
      refine r_load (i := 8) (u := 2) (w := 0) rfl rfl rfl ?_
      refine r_call (i := 9) (u := 11) (v := 213) (w := 0) (b := 0) (na := 514) (C2 := xC213) (as := [(2, 43), vi f]) (s := []) rfl rfl rfl rfl rfl rfl rfl (sp213 (t := f) hI ⟨by omega, by omega⟩   (by omega)) (fun r10 S11 hq12 => ?_)
      obtain ⟨z13, rfl, h14, h15, h16, h17, rfl⟩ := hq12
      refine Or.inr (Or.inl ⟨rfl, ?_⟩)
      refine z_eq (i := 10) (v := 29) rfl ⟨by omega, by omega⟩ (fun h18 => ?_) (fun h19 => ?_)
      · refine r_const (i := 29) (u := 0) (z := 0) rfl rfl ?_
        refine r_store (i := 30) (u := 3) (w := 0) (L1 := [some ((2, 43)), some (vi t), some (vi f), some (vi 0), none]) rfl rfl rfl rfl ?_
        refine r_const (i := 31) (u := 0) (z := 0) rfl rfl ?_
        refine r_store (i := 32) (u := 4) (w := 0) (L1 := [some ((2, 43)), some (vi t), some (vi f), some (vi 0), some (vi 0)]) rfl rfl rfl rfl ?_
        have h20 := hI.a ta51 t.toNat
        exact lp206_33 h_t h_f  hd _ S hI hF hR 0 0 ⟨by omega, by omega⟩ ⟨by omega, by omega⟩ (by omega) (by exact fun j9 => ⟨rfl, rfl⟩) (by exact fun hf9 => ⟨fun h9 => absurd h9 (by omega), fun _ hc => by obtain ⟨c1, c2, c3, c4, -⟩ := hc; omega⟩) (by omega) (Int.lt_succ_toNat _)
      · refine r_load (i := 11) (u := 0) (w := 2) rfl rfl rfl ?_
        refine r_getf (i := 12) (v := 2) (w := 11) (x := (2, 44)) rfl ly43 rfl rfl fun _ => ?_
        refine r_load (i := 13) (u := 2) (w := 0) rfl rfl rfl ?_
        refine a_bool (i := 14) rfl ly44 rfl (by omega) (by omega) fun h22 => ?_
        refine z_eq (i := 15) (v := 29) rfl ⟨by omega, by omega⟩ (fun h23 => ?_) (fun h24 => ?_)
        · refine r_const (i := 29) (u := 0) (z := 0) rfl rfl ?_
          refine r_store (i := 30) (u := 3) (w := 0) (L1 := [some ((2, 43)), some (vi t), some (vi f), some (vi 0), none]) rfl rfl rfl rfl ?_
          refine r_const (i := 31) (u := 0) (z := 0) rfl rfl ?_
          refine r_store (i := 32) (u := 4) (w := 0) (L1 := [some ((2, 43)), some (vi t), some (vi f), some (vi 0), some (vi 0)]) rfl rfl rfl rfl ?_
          have h25 := hI.a ta51 t.toNat
          exact lp206_33 h_t h_f  hd _ S hI hF hR 0 0 ⟨by omega, by omega⟩ ⟨by omega, by omega⟩ (by omega) (by exact fun j9 => ⟨rfl, rfl⟩) (by exact fun hf9 => ⟨fun h9 => absurd h9 (by omega), fun _ hc => by obtain ⟨c1, c2, c3, c4, -⟩ := hc; omega⟩) (by omega) (Int.lt_succ_toNat _)
        · refine r_load (i := 16) (u := 0) (w := 2) rfl rfl rfl ?_
          refine r_getf (i := 17) (v := 9) (w := 11) (x := (2, 51)) rfl ly43 rfl rfl fun _ => ?_
          refine r_load (i := 18) (u := 1) (w := 0) rfl rfl rfl ?_
          refine a_int (i := 19) rfl ly51 rfl (by omega) (by omega) fun h27 => ?_
          have h28 := hI.a ta51 t.toNat
          refine r_const (i := 20) (u := 4) (z := 4) rfl rfl ?_
          refine c_ge (i := 21) (v := 29) rfl ⟨by omega, by omega⟩ ⟨by omega, by omega⟩ (fun h29 => ?_) (fun h30 => ?_)
          · refine r_const (i := 29) (u := 0) (z := 0) rfl rfl ?_
            refine r_store (i := 30) (u := 3) (w := 0) (L1 := [some ((2, 43)), some (vi t), some (vi f), some (vi 0), none]) rfl rfl rfl rfl ?_
            refine r_const (i := 31) (u := 0) (z := 0) rfl rfl ?_
            refine r_store (i := 32) (u := 4) (w := 0) (L1 := [some ((2, 43)), some (vi t), some (vi f), some (vi 0), some (vi 0)]) rfl rfl rfl rfl ?_
            have h31 := hI.a ta51 t.toNat
            exact lp206_33 h_t h_f  hd _ S hI hF hR 0 0 ⟨by omega, by omega⟩ ⟨by omega, by omega⟩ (by omega) (by exact fun j9 => ⟨rfl, rfl⟩) (by exact fun hf9 => ⟨fun h9 => absurd h9 (by omega), fun _ hc => by obtain ⟨c1, c2, c3, c4, -⟩ := hc; omega⟩) (by omega) (Int.lt_succ_toNat _)
          · refine r_load (i := 22) (u := 0) (w := 2) rfl rfl rfl ?_
            refine r_load (i := 23) (u := 2) (w := 0) rfl rfl rfl ?_
            refine r_load (i := 24) (u := 1) (w := 0) rfl rfl rfl ?_
            refine r_call (i := 25) (u := 11) (v := 261) (w := 0) (b := 0) (na := 1795) (C2 := xC261) (as := [(2, 43), vi f, vi t]) (s := []) rfl rfl rfl rfl rfl rfl rfl (sp261 (t := f) (o := t) hI ⟨by omega, by omega⟩ ⟨by omega, by omega⟩   (by omega)) (fun r32 S33 hq34 => ?_)
            obtain ⟨z35, rfl, h36, h37, um38, hI39, hF40, hR41⟩ := hq34
            have hF42 := hF.trans hF40 rfl rfl
            have hR43 := hR.trans hR41 rfl
            refine Or.inr (Or.inl ⟨rfl, ?_⟩)
            refine z_ne (i := 26) (v := 29) rfl ⟨by omega, by omega⟩ (fun h44 => ?_) (fun h45 => ?_)
            · refine r_const (i := 29) (u := 0) (z := 0) rfl rfl ?_
              refine r_store (i := 30) (u := 3) (w := 0) (L1 := [some ((2, 43)), some (vi t), some (vi f), some (vi 0), none]) rfl rfl rfl rfl ?_
              refine r_const (i := 31) (u := 0) (z := 0) rfl rfl ?_
              refine r_store (i := 32) (u := 4) (w := 0) (L1 := [some ((2, 43)), some (vi t), some (vi f), some (vi 0), some (vi 0)]) rfl rfl rfl rfl ?_
              have h46 := hI39.f tf43_1
              have h47 : S33.f 43 1 = S.f 43 1 := hF40.f rfl
              have h48 := hI39.a ta51 t.toNat
              have h49 : S33.a 51 t.toNat = S.a 51 t.toNat := hF40.a rfl _
              exact lp206_33 h_t h_f  hd _ S33 hI39 hF42 hR43 0 0 ⟨by omega, by omega⟩ ⟨by omega, by omega⟩ (by omega) (by exact fun j9 => ⟨hF40.a rfl j9, hF40.a rfl j9⟩) (by first | exact fun hf9 => ⟨fun _ => ⟨by omega, by omega, by omega, by omega, fun q9 => absurd ((um38 hf9 (by omega) (by omega) (by omega)).mpr q9) (by omega), nf_0⟩, fun h9 => absurd h9 (by omega)⟩ | exact fun hf9 => ⟨fun h9 => absurd h9 (by omega), fun _ hc => hc.2.2.2.2.1 ((um38 hf9 (by omega) (by omega) (by omega)).mp (by omega))⟩) (by omega) (Int.lt_succ_toNat _)
            · refine r_const (i := 27) (u := 1) (z := 1) rfl rfl ?_
              refine r_goto (i := 28) (v := 30) rfl ?_
              refine r_store (i := 30) (u := 3) (w := 0) (L1 := [some ((2, 43)), some (vi t), some (vi f), some (vi 1), none]) rfl rfl rfl rfl ?_
              refine r_const (i := 31) (u := 0) (z := 0) rfl rfl ?_
              refine r_store (i := 32) (u := 4) (w := 0) (L1 := [some ((2, 43)), some (vi t), some (vi f), some (vi 1), some (vi 0)]) rfl rfl rfl rfl ?_
              have h50 := hI39.f tf43_1
              have h51 : S33.f 43 1 = S.f 43 1 := hF40.f rfl
              have h52 := hI39.a ta51 t.toNat
              have h53 : S33.a 51 t.toNat = S.a 51 t.toNat := hF40.a rfl _
              exact lp206_33 h_t h_f  hd _ S33 hI39 hF42 hR43 1 0 ⟨by omega, by omega⟩ ⟨by omega, by omega⟩ (by omega) (by exact fun j9 => ⟨hF40.a rfl j9, hF40.a rfl j9⟩) (by first | exact fun hf9 => ⟨fun _ => ⟨by omega, by omega, by omega, by omega, fun q9 => absurd ((um38 hf9 (by omega) (by omega) (by omega)).mpr q9) (by omega), nf_0⟩, fun h9 => absurd h9 (by omega)⟩ | exact fun hf9 => ⟨fun h9 => absurd h9 (by omega), fun _ hc => hc.2.2.2.2.1 ((um38 hf9 (by omega) (by omega) (by omega)).mp (by omega))⟩) (by omega) (Int.lt_succ_toNat _)
theorem lp255_28 {G : xk} {d : Nat} {S0 : yS} {m : Int} (h_m : -2147483648 ≤ m ∧ m ≤ 2147483647) {t : Int} (h_t : -2147483648 ≤ t ∧ t ≤ 2147483647) (hd : 1 ≤ d + 1) : ∀ (n : Nat), ∀ (S : yS) (hI : yI S) (hF : yFr [(43, 0)] [57, 58, 68] S0 S) (hR : yRm [] S0 S) (g0 j : Int) (h_g0 : 0 ≤ g0 ∧ g0 ≤ 1) (h_j : 0 ≤ j ∧ j ≤ 3) (q_0 : g0 = 1 → 3 < m ∧ m < S.f 43 10 ∧ 0 ≤ t ∧ t < S.f 43 1 ∧ S.a 58 m.toNat ≤ 2) (q_1 : sTh S0 S) (q_2 : FM S0 → (g0 = 1 → thP S0 m t j) ∧ (g0 = 0 → ¬ thM S0 m t)) (hn : 3 - j < (n : Nat)), yT xPr G LY xC255 28 [some ((2, 43)), some (vi m), some (vi t), some (vi g0), some (vi j)] [] S (d + 1) (fun r S' => r = (0, (0, 0)) ∧ mThQ S0 S' m t ∧ yI S' ∧ yFr [(43, 0)] [57, 58, 68] S0 S' ∧ yRm [] S0 S') := by
  intro n
  induction n with
  | zero => intro S hI hF hR g0 j h_g0 h_j q_0 q_1 q_2 hn; exact absurd hn (by omega)
  | succ n ih =>
    intro S hI hF hR g0 j h_g0 h_j q_0 q_1 q_2 hn
    have h1 := hI.f tf43_10
    have h2 : S.f 43 10 = S0.f 43 10 := hF.f rfl
    have h3 := hI.f tf43_1
    have h4 : S.f 43 1 = S0.f 43 1 := hF.f rfl
    have h5 := hI.a ta58 m.toNat
    refine r_load (i := 28) (u := 3) (w := 0) rfl rfl rfl ?_
    refine z_eq (i := 29) (v := 52) rfl ⟨by omega, by omega⟩ (fun h6 => ?_) (fun h7 => ?_)
    · refine r_load (i := 52) (u := 0) (w := 2) rfl rfl rfl ?_
      refine r_load (i := 53) (u := 3) (w := 0) rfl rfl rfl ?_
      refine z_eq (i := 54) (v := 57) rfl ⟨by omega, by omega⟩ (fun h8 => ?_) (fun h9 => ?_)
      · refine r_const (i := 57) (u := 1) (z := 1) rfl rfl ?_
        refine r_putI (i := 58) (v := 0) (w := 11) rfl ly43 rfl ⟨by omega, by omega⟩ ?_
        have hI11 := hI.setf (b := 43) (w := 0) (z := 1) tf43_0 rfl (by omega) (by omega)
        have hF13 := hF.setf (b := 43) (w := 0) (z := 1) rfl
        have hR14 := hR.setf (b := 43) (w := 0) (z := 1)
        refine yT_gen (fun S10 hS12 => ?_)
        rw [hS12] at hI11 hF13 hR14 
        refine r_load (i := 59) (u := 3) (w := 0) rfl rfl rfl ?_
        refine z_ne (i := 60) (v := 62) rfl ⟨by omega, by omega⟩ (fun h15 => ?_) (fun h16 => ?_)
        · refine r_load (i := 62) (u := 0) (w := 2) rfl rfl rfl ?_
          refine r_getf (i := 63) (v := 16) (w := 11) (x := (2, 57)) rfl ly43 rfl rfl fun _ => ?_
          refine r_const (i := 64) (u := 3) (z := 3) rfl rfl ?_
          refine r_load (i := 65) (u := 1) (w := 0) rfl rfl rfl ?_
          refine r_imul (i := 66) rfl ?_
          refine r_load (i := 67) (u := 0) (w := 2) rfl rfl rfl ?_
          refine r_getf (i := 68) (v := 17) (w := 11) (x := (2, 58)) rfl ly43 rfl rfl fun _ => ?_
          refine r_load (i := 69) (u := 1) (w := 0) rfl rfl rfl ?_
          refine a_int (i := 70) rfl ly58 rfl (by omega) (by omega) fun h19 => ?_
          have h20 := hI11.a ta58 m.toNat
          have h21 : S10.a 58 m.toNat = S.a 58 m.toNat := by rw [← hS12]; rfl
          refine r_iadd (i := 71) rfl ?_
          refine r_load (i := 72) (u := 2) (w := 0) rfl rfl rfl ?_
          refine s_int (i := 73) rfl ly57 rfl (by omega) (by omega) ⟨by omega, by omega⟩ ?_
          have hI23 := hI11.seta (b := 57) (j := ((3 * m) + (S10.a 58 m.toNat)).toNat) (z := t) ta57 rfl (by omega) (by omega)
          have hF25 := hF13.seta (b := 57) (j := ((3 * m) + (S10.a 58 m.toNat)).toNat) (z := t) rfl
          have hR26 := hR14.seta (b := 57) (j := ((3 * m) + (S10.a 58 m.toNat)).toNat) (z := t)
          refine yT_gen (fun S22 hS24 => ?_)
          rw [hS24] at hI23 hF25 hR26 
          refine r_load (i := 74) (u := 0) (w := 2) rfl rfl rfl ?_
          refine r_getf (i := 75) (v := 17) (w := 11) (x := (2, 58)) rfl ly43 rfl rfl fun _ => ?_
          refine r_load (i := 76) (u := 1) (w := 0) rfl rfl rfl ?_
          refine r_dup2 (i := 77) rfl rfl rfl ?_
          refine a_int (i := 78) rfl ly58 rfl (by omega) (by omega) fun h28 => ?_
          have h29 := hI23.a ta58 m.toNat
          have h30 : S22.a 58 m.toNat = S10.a 58 m.toNat := by rw [← hS24]; rfl
          have h31 : S10.a 58 m.toNat = S.a 58 m.toNat := by rw [← hS12]; rfl
          refine r_const (i := 79) (u := 1) (z := 1) rfl rfl ?_
          refine r_iadd (i := 80) rfl ?_
          refine s_int (i := 81) rfl ly58 rfl (by omega) (by omega) ⟨by omega, by omega⟩ ?_
          have hI33 := hI23.seta (b := 58) (j := m.toNat) (z := (S22.a 58 m.toNat) + 1) ta58 rfl (by omega) (by omega)
          have hF35 := hF25.seta (b := 58) (j := m.toNat) (z := (S22.a 58 m.toNat) + 1) rfl
          have hR36 := hR26.seta (b := 58) (j := m.toNat) (z := (S22.a 58 m.toNat) + 1)
          refine yT_gen (fun S32 hS34 => ?_)
          rw [hS34] at hI33 hF35 hR36 
          have h37 := hI33.f tf43_0
          have h38 : S32.f 43 0 = S22.f 43 0 := by rw [← hS34]; rfl
          have h39 : S22.f 43 0 = S10.f 43 0 := by rw [← hS24]; rfl
          have h40 : S10.f 43 0 = 1 := by rw [← hS12]; exact ysf_eq
          exact r_ret0 (i := 82) rfl ⟨rfl, (by first | (exfalso; omega) | exact fun hf9 => Or.inl ⟨by omega, thP_end ((q_2 hf9).1 (by omega)) (by have w8 := (q_1 m.toNat).1; omega), by subst hS12 hS24 hS34; exact mTh_of q_1⟩), hI33, hF35, hR36⟩
        · have h41 := hI11.f tf43_0
          have h42 : S10.f 43 0 = 1 := by rw [← hS12]; exact ysf_eq
          exact r_ret0 (i := 61) rfl ⟨rfl, (by first | (exfalso; omega) | exact fun hf9 => Or.inr ⟨by omega, (q_2 hf9).2 (by omega), by subst hS12; exact q_1⟩), hI11, hF13, hR14⟩
      · refine r_const (i := 55) (u := 0) (z := 0) rfl rfl ?_
        refine r_goto (i := 56) (v := 58) rfl ?_
        refine r_putI (i := 58) (v := 0) (w := 11) rfl ly43 rfl ⟨by omega, by omega⟩ ?_
        have hI44 := hI.setf (b := 43) (w := 0) (z := 0) tf43_0 rfl (by omega) (by omega)
        have hF46 := hF.setf (b := 43) (w := 0) (z := 0) rfl
        have hR47 := hR.setf (b := 43) (w := 0) (z := 0)
        refine yT_gen (fun S43 hS45 => ?_)
        rw [hS45] at hI44 hF46 hR47 
        refine r_load (i := 59) (u := 3) (w := 0) rfl rfl rfl ?_
        refine z_ne (i := 60) (v := 62) rfl ⟨by omega, by omega⟩ (fun h48 => ?_) (fun h49 => ?_)
        · refine r_load (i := 62) (u := 0) (w := 2) rfl rfl rfl ?_
          refine r_getf (i := 63) (v := 16) (w := 11) (x := (2, 57)) rfl ly43 rfl rfl fun _ => ?_
          refine r_const (i := 64) (u := 3) (z := 3) rfl rfl ?_
          refine r_load (i := 65) (u := 1) (w := 0) rfl rfl rfl ?_
          refine r_imul (i := 66) rfl ?_
          refine r_load (i := 67) (u := 0) (w := 2) rfl rfl rfl ?_
          refine r_getf (i := 68) (v := 17) (w := 11) (x := (2, 58)) rfl ly43 rfl rfl fun _ => ?_
          refine r_load (i := 69) (u := 1) (w := 0) rfl rfl rfl ?_
          refine a_int (i := 70) rfl ly58 rfl (by omega) (by omega) fun h52 => ?_
          have h53 := hI44.a ta58 m.toNat
          have h54 : S43.a 58 m.toNat = S.a 58 m.toNat := by rw [← hS45]; rfl
          refine r_iadd (i := 71) rfl ?_
          refine r_load (i := 72) (u := 2) (w := 0) rfl rfl rfl ?_
          refine s_int (i := 73) rfl ly57 rfl (by omega) (by omega) ⟨by omega, by omega⟩ ?_
          have hI56 := hI44.seta (b := 57) (j := ((3 * m) + (S43.a 58 m.toNat)).toNat) (z := t) ta57 rfl (by omega) (by omega)
          have hF58 := hF46.seta (b := 57) (j := ((3 * m) + (S43.a 58 m.toNat)).toNat) (z := t) rfl
          have hR59 := hR47.seta (b := 57) (j := ((3 * m) + (S43.a 58 m.toNat)).toNat) (z := t)
          refine yT_gen (fun S55 hS57 => ?_)
          rw [hS57] at hI56 hF58 hR59 
          refine r_load (i := 74) (u := 0) (w := 2) rfl rfl rfl ?_
          refine r_getf (i := 75) (v := 17) (w := 11) (x := (2, 58)) rfl ly43 rfl rfl fun _ => ?_
          refine r_load (i := 76) (u := 1) (w := 0) rfl rfl rfl ?_
          refine r_dup2 (i := 77) rfl rfl rfl ?_
          refine a_int (i := 78) rfl ly58 rfl (by omega) (by omega) fun h61 => ?_
          have h62 := hI56.a ta58 m.toNat
          have h63 : S55.a 58 m.toNat = S43.a 58 m.toNat := by rw [← hS57]; rfl
          have h64 : S43.a 58 m.toNat = S.a 58 m.toNat := by rw [← hS45]; rfl
          refine r_const (i := 79) (u := 1) (z := 1) rfl rfl ?_
          refine r_iadd (i := 80) rfl ?_
          refine s_int (i := 81) rfl ly58 rfl (by omega) (by omega) ⟨by omega, by omega⟩ ?_
          have hI66 := hI56.seta (b := 58) (j := m.toNat) (z := (S55.a 58 m.toNat) + 1) ta58 rfl (by omega) (by omega)
          have hF68 := hF58.seta (b := 58) (j := m.toNat) (z := (S55.a 58 m.toNat) + 1) rfl
          have hR69 := hR59.seta (b := 58) (j := m.toNat) (z := (S55.a 58 m.toNat) + 1)
          refine yT_gen (fun S65 hS67 => ?_)
          rw [hS67] at hI66 hF68 hR69 
          have h70 := hI66.f tf43_0
          have h71 : S65.f 43 0 = S55.f 43 0 := by rw [← hS67]; rfl
          have h72 : S55.f 43 0 = S43.f 43 0 := by rw [← hS57]; rfl
          have h73 : S43.f 43 0 = 0 := by rw [← hS45]; exact ysf_eq
          exact r_ret0 (i := 82) rfl ⟨rfl, (by first | (exfalso; omega) | exact fun hf9 => Or.inl ⟨by omega, thP_end ((q_2 hf9).1 (by omega)) (by have w8 := (q_1 m.toNat).1; omega), by subst hS45 hS57 hS67; exact mTh_of q_1⟩), hI66, hF68, hR69⟩
        · have h74 := hI44.f tf43_0
          have h75 : S43.f 43 0 = 0 := by rw [← hS45]; exact ysf_eq
          exact r_ret0 (i := 61) rfl ⟨rfl, (by first | (exfalso; omega) | exact fun hf9 => Or.inr ⟨by omega, (q_2 hf9).2 (by omega), by subst hS45; exact q_1⟩), hI44, hF46, hR47⟩
    · refine r_load (i := 30) (u := 4) (w := 0) rfl rfl rfl ?_
      refine r_load (i := 31) (u := 0) (w := 2) rfl rfl rfl ?_
      refine r_getf (i := 32) (v := 17) (w := 11) (x := (2, 58)) rfl ly43 rfl rfl fun _ => ?_
      refine r_load (i := 33) (u := 1) (w := 0) rfl rfl rfl ?_
      refine a_int (i := 34) rfl ly58 rfl (by omega) (by omega) fun h77 => ?_
      have h78 := hI.a ta58 m.toNat
      refine c_ge (i := 35) (v := 52) rfl ⟨by omega, by omega⟩ ⟨by omega, by omega⟩ (fun h79 => ?_) (fun h80 => ?_)
      · refine r_load (i := 52) (u := 0) (w := 2) rfl rfl rfl ?_
        refine r_load (i := 53) (u := 3) (w := 0) rfl rfl rfl ?_
        refine z_eq (i := 54) (v := 57) rfl ⟨by omega, by omega⟩ (fun h81 => ?_) (fun h82 => ?_)
        · refine r_const (i := 57) (u := 1) (z := 1) rfl rfl ?_
          refine r_putI (i := 58) (v := 0) (w := 11) rfl ly43 rfl ⟨by omega, by omega⟩ ?_
          have hI84 := hI.setf (b := 43) (w := 0) (z := 1) tf43_0 rfl (by omega) (by omega)
          have hF86 := hF.setf (b := 43) (w := 0) (z := 1) rfl
          have hR87 := hR.setf (b := 43) (w := 0) (z := 1)
          refine yT_gen (fun S83 hS85 => ?_)
          rw [hS85] at hI84 hF86 hR87 
          refine r_load (i := 59) (u := 3) (w := 0) rfl rfl rfl ?_
          refine z_ne (i := 60) (v := 62) rfl ⟨by omega, by omega⟩ (fun h88 => ?_) (fun h89 => ?_)
          · refine r_load (i := 62) (u := 0) (w := 2) rfl rfl rfl ?_
            refine r_getf (i := 63) (v := 16) (w := 11) (x := (2, 57)) rfl ly43 rfl rfl fun _ => ?_
            refine r_const (i := 64) (u := 3) (z := 3) rfl rfl ?_
            refine r_load (i := 65) (u := 1) (w := 0) rfl rfl rfl ?_
            refine r_imul (i := 66) rfl ?_
            refine r_load (i := 67) (u := 0) (w := 2) rfl rfl rfl ?_
            refine r_getf (i := 68) (v := 17) (w := 11) (x := (2, 58)) rfl ly43 rfl rfl fun _ => ?_
            refine r_load (i := 69) (u := 1) (w := 0) rfl rfl rfl ?_
            refine a_int (i := 70) rfl ly58 rfl (by omega) (by omega) fun h92 => ?_
            have h93 := hI84.a ta58 m.toNat
            have h94 : S83.a 58 m.toNat = S.a 58 m.toNat := by rw [← hS85]; rfl
            refine r_iadd (i := 71) rfl ?_
            refine r_load (i := 72) (u := 2) (w := 0) rfl rfl rfl ?_
            refine s_int (i := 73) rfl ly57 rfl (by omega) (by omega) ⟨by omega, by omega⟩ ?_
            have hI96 := hI84.seta (b := 57) (j := ((3 * m) + (S83.a 58 m.toNat)).toNat) (z := t) ta57 rfl (by omega) (by omega)
            have hF98 := hF86.seta (b := 57) (j := ((3 * m) + (S83.a 58 m.toNat)).toNat) (z := t) rfl
            have hR99 := hR87.seta (b := 57) (j := ((3 * m) + (S83.a 58 m.toNat)).toNat) (z := t)
            refine yT_gen (fun S95 hS97 => ?_)
            rw [hS97] at hI96 hF98 hR99 
            refine r_load (i := 74) (u := 0) (w := 2) rfl rfl rfl ?_
            refine r_getf (i := 75) (v := 17) (w := 11) (x := (2, 58)) rfl ly43 rfl rfl fun _ => ?_
            refine r_load (i := 76) (u := 1) (w := 0) rfl rfl rfl ?_
            refine r_dup2 (i := 77) rfl rfl rfl ?_
            refine a_int (i := 78) rfl ly58 rfl (by omega) (by omega) fun h101 => ?_
            have h102 := hI96.a ta58 m.toNat
            have h103 : S95.a 58 m.toNat = S83.a 58 m.toNat := by rw [← hS97]; rfl
            have h104 : S83.a 58 m.toNat = S.a 58 m.toNat := by rw [← hS85]; rfl
            refine r_const (i := 79) (u := 1) (z := 1) rfl rfl ?_
            refine r_iadd (i := 80) rfl ?_
            refine s_int (i := 81) rfl ly58 rfl (by omega) (by omega) ⟨by omega, by omega⟩ ?_
            have hI106 := hI96.seta (b := 58) (j := m.toNat) (z := (S95.a 58 m.toNat) + 1) ta58 rfl (by omega) (by omega)
            have hF108 := hF98.seta (b := 58) (j := m.toNat) (z := (S95.a 58 m.toNat) + 1) rfl
            have hR109 := hR99.seta (b := 58) (j := m.toNat) (z := (S95.a 58 m.toNat) + 1)
            refine yT_gen (fun S105 hS107 => ?_)
            rw [hS107] at hI106 hF108 hR109 
            have h110 := hI106.f tf43_0
            have h111 : S105.f 43 0 = S95.f 43 0 := by rw [← hS107]; rfl
            have h112 : S95.f 43 0 = S83.f 43 0 := by rw [← hS97]; rfl
            have h113 : S83.f 43 0 = 1 := by rw [← hS85]; exact ysf_eq
            exact r_ret0 (i := 82) rfl ⟨rfl, (by first | (exfalso; omega) | exact fun hf9 => Or.inl ⟨by omega, thP_end ((q_2 hf9).1 (by omega)) (by have w8 := (q_1 m.toNat).1; omega), by subst hS85 hS97 hS107; exact mTh_of q_1⟩), hI106, hF108, hR109⟩
          · have h114 := hI84.f tf43_0
            have h115 : S83.f 43 0 = 1 := by rw [← hS85]; exact ysf_eq
            exact r_ret0 (i := 61) rfl ⟨rfl, (by first | (exfalso; omega) | exact fun hf9 => Or.inr ⟨by omega, (q_2 hf9).2 (by omega), by subst hS85; exact q_1⟩), hI84, hF86, hR87⟩
        · refine r_const (i := 55) (u := 0) (z := 0) rfl rfl ?_
          refine r_goto (i := 56) (v := 58) rfl ?_
          refine r_putI (i := 58) (v := 0) (w := 11) rfl ly43 rfl ⟨by omega, by omega⟩ ?_
          have hI117 := hI.setf (b := 43) (w := 0) (z := 0) tf43_0 rfl (by omega) (by omega)
          have hF119 := hF.setf (b := 43) (w := 0) (z := 0) rfl
          have hR120 := hR.setf (b := 43) (w := 0) (z := 0)
          refine yT_gen (fun S116 hS118 => ?_)
          rw [hS118] at hI117 hF119 hR120 
          refine r_load (i := 59) (u := 3) (w := 0) rfl rfl rfl ?_
          refine z_ne (i := 60) (v := 62) rfl ⟨by omega, by omega⟩ (fun h121 => ?_) (fun h122 => ?_)
          · refine r_load (i := 62) (u := 0) (w := 2) rfl rfl rfl ?_
            refine r_getf (i := 63) (v := 16) (w := 11) (x := (2, 57)) rfl ly43 rfl rfl fun _ => ?_
            refine r_const (i := 64) (u := 3) (z := 3) rfl rfl ?_
            refine r_load (i := 65) (u := 1) (w := 0) rfl rfl rfl ?_
            refine r_imul (i := 66) rfl ?_
            refine r_load (i := 67) (u := 0) (w := 2) rfl rfl rfl ?_
            refine r_getf (i := 68) (v := 17) (w := 11) (x := (2, 58)) rfl ly43 rfl rfl fun _ => ?_
            refine r_load (i := 69) (u := 1) (w := 0) rfl rfl rfl ?_
            refine a_int (i := 70) rfl ly58 rfl (by omega) (by omega) fun h125 => ?_
            have h126 := hI117.a ta58 m.toNat
            have h127 : S116.a 58 m.toNat = S.a 58 m.toNat := by rw [← hS118]; rfl
            refine r_iadd (i := 71) rfl ?_
            refine r_load (i := 72) (u := 2) (w := 0) rfl rfl rfl ?_
            refine s_int (i := 73) rfl ly57 rfl (by omega) (by omega) ⟨by omega, by omega⟩ ?_
            have hI129 := hI117.seta (b := 57) (j := ((3 * m) + (S116.a 58 m.toNat)).toNat) (z := t) ta57 rfl (by omega) (by omega)
            have hF131 := hF119.seta (b := 57) (j := ((3 * m) + (S116.a 58 m.toNat)).toNat) (z := t) rfl
            have hR132 := hR120.seta (b := 57) (j := ((3 * m) + (S116.a 58 m.toNat)).toNat) (z := t)
            refine yT_gen (fun S128 hS130 => ?_)
            rw [hS130] at hI129 hF131 hR132 
            refine r_load (i := 74) (u := 0) (w := 2) rfl rfl rfl ?_
            refine r_getf (i := 75) (v := 17) (w := 11) (x := (2, 58)) rfl ly43 rfl rfl fun _ => ?_
            refine r_load (i := 76) (u := 1) (w := 0) rfl rfl rfl ?_
            refine r_dup2 (i := 77) rfl rfl rfl ?_
            refine a_int (i := 78) rfl ly58 rfl (by omega) (by omega) fun h134 => ?_
            have h135 := hI129.a ta58 m.toNat
            have h136 : S128.a 58 m.toNat = S116.a 58 m.toNat := by rw [← hS130]; rfl
            have h137 : S116.a 58 m.toNat = S.a 58 m.toNat := by rw [← hS118]; rfl
            refine r_const (i := 79) (u := 1) (z := 1) rfl rfl ?_
            refine r_iadd (i := 80) rfl ?_
            refine s_int (i := 81) rfl ly58 rfl (by omega) (by omega) ⟨by omega, by omega⟩ ?_
            have hI139 := hI129.seta (b := 58) (j := m.toNat) (z := (S128.a 58 m.toNat) + 1) ta58 rfl (by omega) (by omega)
            have hF141 := hF131.seta (b := 58) (j := m.toNat) (z := (S128.a 58 m.toNat) + 1) rfl
            have hR142 := hR132.seta (b := 58) (j := m.toNat) (z := (S128.a 58 m.toNat) + 1)
            refine yT_gen (fun S138 hS140 => ?_)
            rw [hS140] at hI139 hF141 hR142 
            have h143 := hI139.f tf43_0
            have h144 : S138.f 43 0 = S128.f 43 0 := by rw [← hS140]; rfl
            have h145 : S128.f 43 0 = S116.f 43 0 := by rw [← hS130]; rfl
            have h146 : S116.f 43 0 = 0 := by rw [← hS118]; exact ysf_eq
            exact r_ret0 (i := 82) rfl ⟨rfl, (by first | (exfalso; omega) | exact fun hf9 => Or.inl ⟨by omega, thP_end ((q_2 hf9).1 (by omega)) (by have w8 := (q_1 m.toNat).1; omega), by subst hS118 hS130 hS140; exact mTh_of q_1⟩), hI139, hF141, hR142⟩
          · have h147 := hI117.f tf43_0
            have h148 : S116.f 43 0 = 0 := by rw [← hS118]; exact ysf_eq
            exact r_ret0 (i := 61) rfl ⟨rfl, (by first | (exfalso; omega) | exact fun hf9 => Or.inr ⟨by omega, (q_2 hf9).2 (by omega), by subst hS118; exact q_1⟩), hI117, hF119, hR120⟩
      · refine r_load (i := 36) (u := 0) (w := 2) rfl rfl rfl ?_
        refine r_getf (i := 37) (v := 16) (w := 11) (x := (2, 57)) rfl ly43 rfl rfl fun _ => ?_
        refine r_const (i := 38) (u := 3) (z := 3) rfl rfl ?_
        refine r_load (i := 39) (u := 1) (w := 0) rfl rfl rfl ?_
        refine r_imul (i := 40) rfl ?_
        refine r_load (i := 41) (u := 4) (w := 0) rfl rfl rfl ?_
        refine r_iadd (i := 42) rfl ?_
        refine a_int (i := 43) rfl ly57 rfl (by omega) (by omega) fun h150 => ?_
        have h151 := hI.a ta57 ((3 * m) + j).toNat
        refine r_load (i := 44) (u := 2) (w := 0) rfl rfl rfl ?_
        refine c_eq (i := 45) (v := 48) rfl ⟨by omega, by omega⟩ ⟨by omega, by omega⟩ (fun h152 => ?_) (fun h153 => ?_)
        · refine r_const (i := 48) (u := 0) (z := 0) rfl rfl ?_
          refine r_store (i := 49) (u := 3) (w := 0) (L1 := [some ((2, 43)), some (vi m), some (vi t), some (vi 0), some (vi j)]) rfl rfl rfl rfl ?_
          refine r_iinc (i := 50) (u := 1) (v := 4) (s := 1) (L1 := [some ((2, 43)), some (vi m), some (vi t), some (vi 0), some (vi (j + 1))]) rfl rfl rfl rfl rfl ?_
          refine r_goto (i := 51) (v := 28) rfl ?_
          have h154 := hI.a ta58 m.toNat
          exact ih S hI hF hR 0 (j + 1) ⟨by omega, by omega⟩ ⟨by omega, by omega⟩ (by omega) (by exact q_1) (by first | exact fun hf9 => ⟨fun _ => thP_s ((q_2 hf9).1 (by omega)) (by have w9 := (q_1 (3 * m + j).toNat).2; have w8 := (q_1 m.toNat).1; omega), fun h9 => absurd h9 (by omega)⟩ | exact fun hf9 => ⟨fun h9 => absurd h9 (by omega), fun _ hc => hc.2.2.2.2 j (by omega) (by have w9 := (q_1 (3 * m + j).toNat).2; have w8 := (q_1 m.toNat).1; omega) (by have w9 := (q_1 (3 * m + j).toNat).2; have w8 := (q_1 m.toNat).1; omega)⟩) (by omega)
        · refine r_const (i := 46) (u := 1) (z := 1) rfl rfl ?_
          refine r_goto (i := 47) (v := 49) rfl ?_
          refine r_store (i := 49) (u := 3) (w := 0) (L1 := [some ((2, 43)), some (vi m), some (vi t), some (vi 1), some (vi j)]) rfl rfl rfl rfl ?_
          refine r_iinc (i := 50) (u := 1) (v := 4) (s := 1) (L1 := [some ((2, 43)), some (vi m), some (vi t), some (vi 1), some (vi (j + 1))]) rfl rfl rfl rfl rfl ?_
          refine r_goto (i := 51) (v := 28) rfl ?_
          have h155 := hI.a ta58 m.toNat
          exact ih S hI hF hR 1 (j + 1) ⟨by omega, by omega⟩ ⟨by omega, by omega⟩ (by omega) (by exact q_1) (by first | exact fun hf9 => ⟨fun _ => thP_s ((q_2 hf9).1 (by omega)) (by have w9 := (q_1 (3 * m + j).toNat).2; have w8 := (q_1 m.toNat).1; omega), fun h9 => absurd h9 (by omega)⟩ | exact fun hf9 => ⟨fun h9 => absurd h9 (by omega), fun _ hc => hc.2.2.2.2 j (by omega) (by have w9 := (q_1 (3 * m + j).toNat).2; have w8 := (q_1 m.toNat).1; omega) (by have w9 := (q_1 (3 * m + j).toNat).2; have w8 := (q_1 m.toNat).1; omega)⟩) (by omega)
/-- ProxyForgeModel.throwing -/
theorem sp255 {G : xk} {S : yS} {d : Nat} (hI : yI S) {m : Int} (h_m : -2147483648 ≤ m ∧ m ≤ 2147483647) {t : Int} (h_t : -2147483648 ≤ t ∧ t ≤ 2147483647) (hd : 1 ≤ d) : yT xPr G LY xC255 0 [some ((2, 43)), some (vi m), some (vi t)] [] S d (fun r S' => r = (0, (0, 0)) ∧ mThQ S S' m t ∧ yI S' ∧ yFr [(43, 0)] [57, 58, 68] S S' ∧ yRm [] S S') := by
  refine yT_pad 2 ?_
  show yT xPr G LY xC255 0 [some ((2, 43)), some (vi m), some (vi t), none, none] [] S d _
  obtain ⟨d, rfl⟩ : ∃ q, d = q + 1 := ⟨d - 1, by omega⟩
  have hF : yFr [(43, 0)] [57, 58, 68] S S := yFr.refl S
  have hR : yRm [] S S := yRm.refl S
  refine r_load (i := 0) (u := 1) (w := 0) rfl rfl rfl ?_
  refine r_const (i := 1) (u := 3) (z := 3) rfl rfl ?_
  refine c_le (i := 2) (v := 24) rfl ⟨by omega, by omega⟩ ⟨by omega, by omega⟩ (fun h1 => ?_) (fun h2 => ?_)
  · refine r_const (i := 24) (u := 0) (z := 0) rfl rfl ?_
    refine r_store (i := 25) (u := 3) (w := 0) (L1 := [some ((2, 43)), some (vi m), some (vi t), some (vi 0), none]) rfl rfl rfl rfl ?_
    refine r_const (i := 26) (u := 0) (z := 0) rfl rfl ?_
    refine r_store (i := 27) (u := 4) (w := 0) (L1 := [some ((2, 43)), some (vi m), some (vi t), some (vi 0), some (vi 0)]) rfl rfl rfl rfl ?_
    have h3 := hI.f tf43_10
    have h4 := hI.f tf43_1
    have h5 := hI.a ta58 m.toNat
    exact lp255_28 h_m h_t  hd _ S hI hF hR 0 0 ⟨by omega, by omega⟩ ⟨by omega, by omega⟩ (by omega) (by exact fun j9 => ⟨rfl, rfl⟩) (by exact fun hf9 => ⟨fun h9 => absurd h9 (by omega), fun _ hc => by obtain ⟨c1, c2, c3, c4, -⟩ := hc; omega⟩) (Int.lt_succ_toNat _)
  · refine r_load (i := 3) (u := 1) (w := 0) rfl rfl rfl ?_
    refine r_load (i := 4) (u := 0) (w := 2) rfl rfl rfl ?_
    have h6 := hI.f tf43_10
    refine r_getf (i := 5) (v := 10) (w := 11) (x := vi (S.f 43 10)) rfl ly43 rfl rfl fun h7 => ?_
    have h7 : Rg (S.f 43 10) := h7
    refine c_ge (i := 6) (v := 24) rfl ⟨by omega, by omega⟩ ⟨by omega, by omega⟩ (fun h8 => ?_) (fun h9 => ?_)
    · refine r_const (i := 24) (u := 0) (z := 0) rfl rfl ?_
      refine r_store (i := 25) (u := 3) (w := 0) (L1 := [some ((2, 43)), some (vi m), some (vi t), some (vi 0), none]) rfl rfl rfl rfl ?_
      refine r_const (i := 26) (u := 0) (z := 0) rfl rfl ?_
      refine r_store (i := 27) (u := 4) (w := 0) (L1 := [some ((2, 43)), some (vi m), some (vi t), some (vi 0), some (vi 0)]) rfl rfl rfl rfl ?_
      have h10 := hI.f tf43_1
      have h11 := hI.a ta58 m.toNat
      exact lp255_28 h_m h_t  hd _ S hI hF hR 0 0 ⟨by omega, by omega⟩ ⟨by omega, by omega⟩ (by omega) (by exact fun j9 => ⟨rfl, rfl⟩) (by exact fun hf9 => ⟨fun h9 => absurd h9 (by omega), fun _ hc => by obtain ⟨c1, c2, c3, c4, -⟩ := hc; omega⟩) (Int.lt_succ_toNat _)
    · refine r_load (i := 7) (u := 0) (w := 2) rfl rfl rfl ?_
      refine r_load (i := 8) (u := 2) (w := 0) rfl rfl rfl ?_
      have h12 := hI.f tf43_1
      refine r_call (i := 9) (u := 11) (v := 213) (w := 0) (b := 0) (na := 514) (C2 := xC213) (as := [(2, 43), vi t]) (s := []) rfl rfl rfl rfl rfl rfl rfl (sp213 (t := t) hI ⟨by omega, by omega⟩   (by omega)) (fun r13 S14 hq15 => ?_)
      obtain ⟨z16, rfl, h17, h18, h19, h20, rfl⟩ := hq15
      refine Or.inr (Or.inl ⟨rfl, ?_⟩)
      refine z_eq (i := 10) (v := 24) rfl ⟨by omega, by omega⟩ (fun h21 => ?_) (fun h22 => ?_)
      · refine r_const (i := 24) (u := 0) (z := 0) rfl rfl ?_
        refine r_store (i := 25) (u := 3) (w := 0) (L1 := [some ((2, 43)), some (vi m), some (vi t), some (vi 0), none]) rfl rfl rfl rfl ?_
        refine r_const (i := 26) (u := 0) (z := 0) rfl rfl ?_
        refine r_store (i := 27) (u := 4) (w := 0) (L1 := [some ((2, 43)), some (vi m), some (vi t), some (vi 0), some (vi 0)]) rfl rfl rfl rfl ?_
        have h23 := hI.a ta58 m.toNat
        exact lp255_28 h_m h_t  hd _ S hI hF hR 0 0 ⟨by omega, by omega⟩ ⟨by omega, by omega⟩ (by omega) (by exact fun j9 => ⟨rfl, rfl⟩) (by exact fun hf9 => ⟨fun h9 => absurd h9 (by omega), fun _ hc => by obtain ⟨c1, c2, c3, c4, -⟩ := hc; omega⟩) (Int.lt_succ_toNat _)
      · refine r_load (i := 11) (u := 0) (w := 2) rfl rfl rfl ?_
        refine r_load (i := 12) (u := 2) (w := 0) rfl rfl rfl ?_
        refine r_const (i := 13) (u := 1) (z := 1) rfl rfl ?_
        refine r_call (i := 14) (u := 11) (v := 261) (w := 0) (b := 0) (na := 1795) (C2 := xC261) (as := [(2, 43), vi t, vi 1]) (s := []) rfl rfl rfl rfl rfl rfl rfl (sp261 (t := t) (o := 1) hI ⟨by omega, by omega⟩ ⟨by omega, by omega⟩   (by omega)) (fun r24 S25 hq26 => ?_)
        obtain ⟨z27, rfl, h28, h29, um30, hI31, hF32, hR33⟩ := hq26
        have hF34 := hF.trans hF32 rfl rfl
        have hR35 := hR.trans hR33 rfl
        refine Or.inr (Or.inl ⟨rfl, ?_⟩)
        refine z_eq (i := 15) (v := 24) rfl ⟨by omega, by omega⟩ (fun h36 => ?_) (fun h37 => ?_)
        · refine r_const (i := 24) (u := 0) (z := 0) rfl rfl ?_
          refine r_store (i := 25) (u := 3) (w := 0) (L1 := [some ((2, 43)), some (vi m), some (vi t), some (vi 0), none]) rfl rfl rfl rfl ?_
          refine r_const (i := 26) (u := 0) (z := 0) rfl rfl ?_
          refine r_store (i := 27) (u := 4) (w := 0) (L1 := [some ((2, 43)), some (vi m), some (vi t), some (vi 0), some (vi 0)]) rfl rfl rfl rfl ?_
          have h38 := hI31.f tf43_10
          have h39 : S25.f 43 10 = S.f 43 10 := hF32.f rfl
          have h40 := hI31.f tf43_1
          have h41 : S25.f 43 1 = S.f 43 1 := hF32.f rfl
          have h42 := hI31.a ta58 m.toNat
          have h43 : S25.a 58 m.toNat = S.a 58 m.toNat := hF32.a rfl _
          exact lp255_28 h_m h_t  hd _ S25 hI31 hF34 hR35 0 0 ⟨by omega, by omega⟩ ⟨by omega, by omega⟩ (by omega) (by exact fun j9 => ⟨hF32.a rfl j9, hF32.a rfl j9⟩) (by first | exact fun hf9 => ⟨fun _ => ⟨by omega, by omega, (um30 hf9 (by omega) (by omega) (by omega)).mp (by omega), by omega, n3_0⟩, fun h9 => absurd h9 (by omega)⟩ | exact fun hf9 => ⟨fun h9 => absurd h9 (by omega), fun _ hc => absurd ((um30 hf9 (by omega) (by omega) (by omega)).mpr hc.2.2.1) (by omega)⟩ | exact fun hf9 => ⟨fun h9 => absurd h9 (by omega), fun _ hc => by obtain ⟨c1, c2, c3, c4, -⟩ := hc; omega⟩) (Int.lt_succ_toNat _)
        · refine r_load (i := 16) (u := 0) (w := 2) rfl rfl rfl ?_
          refine r_getf (i := 17) (v := 17) (w := 11) (x := (2, 58)) rfl ly43 rfl rfl fun _ => ?_
          refine r_load (i := 18) (u := 1) (w := 0) rfl rfl rfl ?_
          refine a_int (i := 19) rfl ly58 rfl (by omega) (by omega) fun h45 => ?_
          have h46 := hI31.a ta58 m.toNat
          have h47 : S25.a 58 m.toNat = S.a 58 m.toNat := hF32.a rfl _
          refine r_const (i := 20) (u := 3) (z := 3) rfl rfl ?_
          refine c_ge (i := 21) (v := 24) rfl ⟨by omega, by omega⟩ ⟨by omega, by omega⟩ (fun h48 => ?_) (fun h49 => ?_)
          · refine r_const (i := 24) (u := 0) (z := 0) rfl rfl ?_
            refine r_store (i := 25) (u := 3) (w := 0) (L1 := [some ((2, 43)), some (vi m), some (vi t), some (vi 0), none]) rfl rfl rfl rfl ?_
            refine r_const (i := 26) (u := 0) (z := 0) rfl rfl ?_
            refine r_store (i := 27) (u := 4) (w := 0) (L1 := [some ((2, 43)), some (vi m), some (vi t), some (vi 0), some (vi 0)]) rfl rfl rfl rfl ?_
            have h50 := hI31.f tf43_10
            have h51 : S25.f 43 10 = S.f 43 10 := hF32.f rfl
            have h52 := hI31.f tf43_1
            have h53 : S25.f 43 1 = S.f 43 1 := hF32.f rfl
            have h54 := hI31.a ta58 m.toNat
            exact lp255_28 h_m h_t  hd _ S25 hI31 hF34 hR35 0 0 ⟨by omega, by omega⟩ ⟨by omega, by omega⟩ (by omega) (by exact fun j9 => ⟨hF32.a rfl j9, hF32.a rfl j9⟩) (by first | exact fun hf9 => ⟨fun _ => ⟨by omega, by omega, (um30 hf9 (by omega) (by omega) (by omega)).mp (by omega), by omega, n3_0⟩, fun h9 => absurd h9 (by omega)⟩ | exact fun hf9 => ⟨fun h9 => absurd h9 (by omega), fun _ hc => absurd ((um30 hf9 (by omega) (by omega) (by omega)).mpr hc.2.2.1) (by omega)⟩ | exact fun hf9 => ⟨fun h9 => absurd h9 (by omega), fun _ hc => by obtain ⟨c1, c2, c3, c4, -⟩ := hc; omega⟩) (Int.lt_succ_toNat _)
          · refine r_const (i := 22) (u := 1) (z := 1) rfl rfl ?_
            refine r_goto (i := 23) (v := 25) rfl ?_
            refine r_store (i := 25) (u := 3) (w := 0) (L1 := [some ((2, 43)), some (vi m), some (vi t), some (vi 1), none]) rfl rfl rfl rfl ?_
            refine r_const (i := 26) (u := 0) (z := 0) rfl rfl ?_
            refine r_store (i := 27) (u := 4) (w := 0) (L1 := [some ((2, 43)), some (vi m), some (vi t), some (vi 1), some (vi 0)]) rfl rfl rfl rfl ?_
            have h55 := hI31.f tf43_10
            have h56 : S25.f 43 10 = S.f 43 10 := hF32.f rfl
            have h57 := hI31.f tf43_1
            have h58 : S25.f 43 1 = S.f 43 1 := hF32.f rfl
            have h59 := hI31.a ta58 m.toNat
            exact lp255_28 h_m h_t  hd _ S25 hI31 hF34 hR35 1 0 ⟨by omega, by omega⟩ ⟨by omega, by omega⟩ (by omega) (by exact fun j9 => ⟨hF32.a rfl j9, hF32.a rfl j9⟩) (by first | exact fun hf9 => ⟨fun _ => ⟨by omega, by omega, (um30 hf9 (by omega) (by omega) (by omega)).mp (by omega), by omega, n3_0⟩, fun h9 => absurd h9 (by omega)⟩ | exact fun hf9 => ⟨fun h9 => absurd h9 (by omega), fun _ hc => absurd ((um30 hf9 (by omega) (by omega) (by omega)).mpr hc.2.2.1) (by omega)⟩ | exact fun hf9 => ⟨fun h9 => absurd h9 (by omega), fun _ hc => by obtain ⟨c1, c2, c3, c4, -⟩ := hc; omega⟩) (Int.lt_succ_toNat _)
theorem lp182_14 {G : xk} {d : Nat} {S : yS} (hI : yI S) {a : Int} (h_a : -2147483648 ≤ a ∧ a ≤ 2147483647) (hd : 2 ≤ d + 1) : ∀ (n : Nat), ∀ (n1 g0 k : Int) (h_n1 : 0 ≤ n1 ∧ n1 ≤ 4) (h_g0 : 0 ≤ g0 ∧ g0 ≤ 1) (h_k : 0 ≤ k ∧ k ≤ 4) (q_0 : 0 ≤ a ∧ a < 1048576) (q_1 : g0 = 1 → (1 ≤ k → yand (yshr a (5 * 0)) 31 ≤ 23) ∧ (2 ≤ k → yand (yshr a (5 * 1)) 31 ≤ 23) ∧ (3 ≤ k → yand (yshr a (5 * 2)) 31 ≤ 23) ∧ (4 ≤ k → yand (yshr a (5 * 3)) 31 ≤ 23)) (q_2 : hMn a n1) (q_3 : g0 = 1 → pkM a n1 (S.f 43 1) k) (q_4 : g0 = 0 → ¬ pkC (S.f 43 1) a) (hn : 4 - k < (n : Nat)), yT xPr G LY xC182 14 [some ((2, 43)), some (vi a), some (vi n1), some (vi g0), some (vi k)] [] S (d + 1) (fun r S' => ∃ z : Int, r = (1, vi z) ∧ 0 ≤ z ∧ z ≤ 1 ∧ (z = 1 → 0 ≤ a ∧ a < 1048576) ∧ (z = 1 → KP a) ∧ (z = 1 → pkC (S.f 43 1) a) ∧ (z = 0 → ¬ pkC (S.f 43 1) a) ∧ S = S') := by
  intro n
  induction n with
  | zero => intro n1 g0 k h_n1 h_g0 h_k q_0 q_1 q_2 q_3 q_4 hn; exact absurd hn (by omega)
  | succ n ih =>
    intro n1 g0 k h_n1 h_g0 h_k q_0 q_1 q_2 q_3 q_4 hn
    have h1 := hI.f tf43_1
    refine r_load (i := 14) (u := 4) (w := 0) rfl rfl rfl ?_
    refine r_const (i := 15) (u := 4) (z := 4) rfl rfl ?_
    refine c_ge (i := 16) (v := 39) rfl ⟨by omega, by omega⟩ ⟨by omega, by omega⟩ (fun h2 => ?_) (fun h3 => ?_)
    · refine r_load (i := 39) (u := 3) (w := 0) rfl rfl rfl ?_
      exact r_retZ (i := 40) rfl (by omega) (by omega) ⟨g0, rfl, by omega, by omega, (by omega), (by intro hz; first | exact absurd hz (by omega) | exact KP_of4 (by omega) (by omega) (by omega) (by omega)), (by intro hz; first | exact absurd hz (by omega) | exact pkM_y (n := n1) (by omega) (by omega) (by omega) (by omega) (fun q q0 q1 => q_3 (by omega) q q0 (by omega))), (by intro hz; first | exact absurd hz (by omega) | exact q_4 (by omega)), rfl⟩
    · refine r_load (i := 17) (u := 3) (w := 0) rfl rfl rfl ?_
      refine z_eq (i := 18) (v := 35) rfl ⟨by omega, by omega⟩ (fun h4 => ?_) (fun h5 => ?_)
      · refine r_const (i := 35) (u := 0) (z := 0) rfl rfl ?_
        refine r_store (i := 36) (u := 3) (w := 0) (L1 := [some ((2, 43)), some (vi a), some (vi n1), some (vi 0), some (vi k)]) rfl rfl rfl rfl ?_
        refine r_iinc (i := 37) (u := 1) (v := 4) (s := 1) (L1 := [some ((2, 43)), some (vi a), some (vi n1), some (vi 0), some (vi (k + 1))]) rfl rfl rfl rfl rfl ?_
        refine r_goto (i := 38) (v := 14) rfl ?_
        exact ih n1 0 (k + 1) ⟨by omega, by omega⟩ ⟨by omega, by omega⟩ ⟨by omega, by omega⟩ (by omega) (by first | omega | (rcases (show k = 0 ∨ k = 1 ∨ k = 2 ∨ k = 3 by omega) with rfl | rfl | rfl | rfl <;> omega)) (by exact q_2) (by intro hg; first | exact absurd hg (by omega) | exact pkM_s (q_3 (by omega)) (fun _ => by unfold kdC dg; omega) (fun _ => by unfold dg; omega)) (by intro hg; first | exact absurd hg (by omega) | exact q_4 (by omega) | exact pk_nk (k := k) q_2 (by omega) (by omega) (by omega) (by omega) (by unfold kdC dg; omega) | exact pk_nz (k := k) q_2 (by omega) (by omega) (by omega) (by omega) (by unfold dg; omega)) (by omega)
      · refine r_load (i := 19) (u := 4) (w := 0) rfl rfl rfl ?_
        refine r_load (i := 20) (u := 2) (w := 0) rfl rfl rfl ?_
        refine c_ge (i := 21) (v := 29) rfl ⟨by omega, by omega⟩ ⟨by omega, by omega⟩ (fun h6 => ?_) (fun h7 => ?_)
        · refine r_load (i := 29) (u := 1) (w := 0) rfl rfl rfl ?_
          refine r_load (i := 30) (u := 4) (w := 0) rfl rfl rfl ?_
          refine r_call (i := 31) (u := 65535) (v := 229) (w := 0) (b := 2) (na := 514) (C2 := xC229) (as := [vi a, vi k]) (s := []) rfl rfl rfl rfl rfl rfl rfl (sp229 (a := a) (k := k) hI ⟨by omega, by omega⟩ ⟨by omega, by omega⟩   (by omega)) (fun r8 S9 hq10 => ?_)
          obtain ⟨z11, rfl, h12, h13, h14, rfl⟩ := hq10
          refine Or.inr (Or.inl ⟨rfl, ?_⟩)
          refine z_ne (i := 32) (v := 35) rfl ⟨by omega, by omega⟩ (fun h15 => ?_) (fun h16 => ?_)
          · refine r_const (i := 35) (u := 0) (z := 0) rfl rfl ?_
            refine r_store (i := 36) (u := 3) (w := 0) (L1 := [some ((2, 43)), some (vi a), some (vi n1), some (vi 0), some (vi k)]) rfl rfl rfl rfl ?_
            refine r_iinc (i := 37) (u := 1) (v := 4) (s := 1) (L1 := [some ((2, 43)), some (vi a), some (vi n1), some (vi 0), some (vi (k + 1))]) rfl rfl rfl rfl rfl ?_
            refine r_goto (i := 38) (v := 14) rfl ?_
            exact ih n1 0 (k + 1) ⟨by omega, by omega⟩ ⟨by omega, by omega⟩ ⟨by omega, by omega⟩ (by omega) (by first | omega | (rcases (show k = 0 ∨ k = 1 ∨ k = 2 ∨ k = 3 by omega) with rfl | rfl | rfl | rfl <;> omega)) (by exact q_2) (by intro hg; first | exact absurd hg (by omega) | exact pkM_s (q_3 (by omega)) (fun _ => by unfold kdC dg; omega) (fun _ => by unfold dg; omega)) (by intro hg; first | exact absurd hg (by omega) | exact q_4 (by omega) | exact pk_nk (k := k) q_2 (by omega) (by omega) (by omega) (by omega) (by unfold kdC dg; omega) | exact pk_nz (k := k) q_2 (by omega) (by omega) (by omega) (by omega) (by unfold dg; omega)) (by omega)
          · refine r_const (i := 33) (u := 1) (z := 1) rfl rfl ?_
            refine r_goto (i := 34) (v := 36) rfl ?_
            refine r_store (i := 36) (u := 3) (w := 0) (L1 := [some ((2, 43)), some (vi a), some (vi n1), some (vi 1), some (vi k)]) rfl rfl rfl rfl ?_
            refine r_iinc (i := 37) (u := 1) (v := 4) (s := 1) (L1 := [some ((2, 43)), some (vi a), some (vi n1), some (vi 1), some (vi (k + 1))]) rfl rfl rfl rfl rfl ?_
            refine r_goto (i := 38) (v := 14) rfl ?_
            exact ih n1 1 (k + 1) ⟨by omega, by omega⟩ ⟨by omega, by omega⟩ ⟨by omega, by omega⟩ (by omega) (by first | omega | (rcases (show k = 0 ∨ k = 1 ∨ k = 2 ∨ k = 3 by omega) with rfl | rfl | rfl | rfl <;> omega)) (by exact q_2) (by intro hg; first | exact absurd hg (by omega) | exact pkM_s (q_3 (by omega)) (fun _ => by unfold kdC dg; omega) (fun _ => by unfold dg; omega)) (by intro hg; first | exact absurd hg (by omega) | exact q_4 (by omega) | exact pk_nk (k := k) q_2 (by omega) (by omega) (by omega) (by omega) (by unfold kdC dg; omega) | exact pk_nz (k := k) q_2 (by omega) (by omega) (by omega) (by omega) (by unfold dg; omega)) (by omega)
        · refine r_load (i := 22) (u := 0) (w := 2) rfl rfl rfl ?_
          refine r_load (i := 23) (u := 1) (w := 0) rfl rfl rfl ?_
          refine r_load (i := 24) (u := 4) (w := 0) rfl rfl rfl ?_
          refine r_call (i := 25) (u := 65535) (v := 229) (w := 0) (b := 2) (na := 514) (C2 := xC229) (as := [vi a, vi k]) (s := [(2, 43)]) rfl rfl rfl rfl rfl rfl rfl (sp229 (a := a) (k := k) hI ⟨by omega, by omega⟩ ⟨by omega, by omega⟩   (by omega)) (fun r17 S18 hq19 => ?_)
          obtain ⟨z20, rfl, h21, h22, h23, rfl⟩ := hq19
          refine Or.inr (Or.inl ⟨rfl, ?_⟩)
          refine r_call (i := 26) (u := 11) (v := 210) (w := 0) (b := 0) (na := 514) (C2 := xC210) (as := [(2, 43), vi z20]) (s := []) rfl rfl rfl rfl rfl rfl rfl (sp210 (k := z20) hI ⟨by omega, by omega⟩   (by omega)) (fun r24 S25 hq26 => ?_)
          obtain ⟨z27, rfl, h28, h29, h30, h31, rfl⟩ := hq26
          refine Or.inr (Or.inl ⟨rfl, ?_⟩)
          refine z_eq (i := 27) (v := 35) rfl ⟨by omega, by omega⟩ (fun h32 => ?_) (fun h33 => ?_)
          · refine r_const (i := 35) (u := 0) (z := 0) rfl rfl ?_
            refine r_store (i := 36) (u := 3) (w := 0) (L1 := [some ((2, 43)), some (vi a), some (vi n1), some (vi 0), some (vi k)]) rfl rfl rfl rfl ?_
            refine r_iinc (i := 37) (u := 1) (v := 4) (s := 1) (L1 := [some ((2, 43)), some (vi a), some (vi n1), some (vi 0), some (vi (k + 1))]) rfl rfl rfl rfl rfl ?_
            refine r_goto (i := 38) (v := 14) rfl ?_
            exact ih n1 0 (k + 1) ⟨by omega, by omega⟩ ⟨by omega, by omega⟩ ⟨by omega, by omega⟩ (by omega) (by first | omega | (rcases (show k = 0 ∨ k = 1 ∨ k = 2 ∨ k = 3 by omega) with rfl | rfl | rfl | rfl <;> omega)) (by exact q_2) (by intro hg; first | exact absurd hg (by omega) | exact pkM_s (q_3 (by omega)) (fun _ => by unfold kdC dg; omega) (fun _ => by unfold dg; omega)) (by intro hg; first | exact absurd hg (by omega) | exact q_4 (by omega) | exact pk_nk (k := k) q_2 (by omega) (by omega) (by omega) (by omega) (by unfold kdC dg; omega) | exact pk_nz (k := k) q_2 (by omega) (by omega) (by omega) (by omega) (by unfold dg; omega)) (by omega)
          · refine r_goto (i := 28) (v := 33) rfl ?_
            refine r_const (i := 33) (u := 1) (z := 1) rfl rfl ?_
            refine r_goto (i := 34) (v := 36) rfl ?_
            refine r_store (i := 36) (u := 3) (w := 0) (L1 := [some ((2, 43)), some (vi a), some (vi n1), some (vi 1), some (vi k)]) rfl rfl rfl rfl ?_
            refine r_iinc (i := 37) (u := 1) (v := 4) (s := 1) (L1 := [some ((2, 43)), some (vi a), some (vi n1), some (vi 1), some (vi (k + 1))]) rfl rfl rfl rfl rfl ?_
            refine r_goto (i := 38) (v := 14) rfl ?_
            exact ih n1 1 (k + 1) ⟨by omega, by omega⟩ ⟨by omega, by omega⟩ ⟨by omega, by omega⟩ (by omega) (by first | omega | (rcases (show k = 0 ∨ k = 1 ∨ k = 2 ∨ k = 3 by omega) with rfl | rfl | rfl | rfl <;> omega)) (by exact q_2) (by intro hg; first | exact absurd hg (by omega) | exact pkM_s (q_3 (by omega)) (fun _ => by unfold kdC dg; omega) (fun _ => by unfold dg; omega)) (by intro hg; first | exact absurd hg (by omega) | exact q_4 (by omega) | exact pk_nk (k := k) q_2 (by omega) (by omega) (by omega) (by omega) (by unfold kdC dg; omega) | exact pk_nz (k := k) q_2 (by omega) (by omega) (by omega) (by omega) (by unfold dg; omega)) (by omega)
/-- ProxyForgeModel.areKinds -/
theorem sp182 {G : xk} {S : yS} {d : Nat} (hI : yI S) {a : Int} (h_a : -2147483648 ≤ a ∧ a ≤ 2147483647) (hd : 2 ≤ d) : yT xPr G LY xC182 0 [some ((2, 43)), some (vi a)] [] S d (fun r S' => ∃ z : Int, r = (1, vi z) ∧ 0 ≤ z ∧ z ≤ 1 ∧ (z = 1 → 0 ≤ a ∧ a < 1048576) ∧ (z = 1 → KP a) ∧ (z = 1 → pkC (S.f 43 1) a) ∧ (z = 0 → ¬ pkC (S.f 43 1) a) ∧ S = S') := by
  refine yT_pad 3 ?_
  show yT xPr G LY xC182 0 [some ((2, 43)), some (vi a), none, none, none] [] S d _
  obtain ⟨d, rfl⟩ : ∃ q, d = q + 1 := ⟨d - 1, by omega⟩
  refine r_load (i := 0) (u := 1) (w := 0) rfl rfl rfl ?_
  refine z_lt (i := 1) (v := 5) rfl ⟨by omega, by omega⟩ (fun h1 => ?_) (fun h2 => ?_)
  · refine r_const (i := 5) (u := 0) (z := 0) rfl rfl ?_
    have h3 := hI.f tf43_1
    exact r_retZ (i := 6) rfl (by omega) (by omega) ⟨0, rfl, by omega, by omega, (by omega), (by intro hz; first | exact absurd hz (by omega) | exact KP_of4 (by omega) (by omega) (by omega) (by omega)), (by intro hz; first | exact absurd hz (by omega) | exact pkM_y (n := n1) (by omega) (by omega) (by omega) (by omega) (fun q q0 q1 => q_3 (by omega) q q0 (by omega))), (by intro hz; exact fun hp => by have w1 := hp.1; have w2 := hp.2.1; omega), rfl⟩
  · refine r_load (i := 2) (u := 1) (w := 0) rfl rfl rfl ?_
    refine r_const (i := 3) (u := 1048576) (z := 1048576) rfl rfl ?_
    refine c_lt (i := 4) (v := 7) rfl ⟨by omega, by omega⟩ ⟨by omega, by omega⟩ (fun h4 => ?_) (fun h5 => ?_)
    · refine r_load (i := 7) (u := 1) (w := 0) rfl rfl rfl ?_
      refine r_call (i := 8) (u := 65535) (v := 216) (w := 0) (b := 2) (na := 513) (C2 := xC216) (as := [vi a]) (s := []) rfl rfl rfl rfl rfl rfl rfl (sp216 (a := a) hI ⟨by omega, by omega⟩   (by omega)) (fun r6 S7 hq8 => ?_)
      obtain ⟨z9, rfl, h10, h11, hmn12, rfl⟩ := hq8
      refine Or.inr (Or.inl ⟨rfl, ?_⟩)
      refine r_store (i := 9) (u := 2) (w := 0) (L1 := [some ((2, 43)), some (vi a), some (vi z9), none, none]) rfl rfl rfl rfl ?_
      refine r_const (i := 10) (u := 1) (z := 1) rfl rfl ?_
      refine r_store (i := 11) (u := 3) (w := 0) (L1 := [some ((2, 43)), some (vi a), some (vi z9), some (vi 1), none]) rfl rfl rfl rfl ?_
      refine r_const (i := 12) (u := 0) (z := 0) rfl rfl ?_
      refine r_store (i := 13) (u := 4) (w := 0) (L1 := [some ((2, 43)), some (vi a), some (vi z9), some (vi 1), some (vi 0)]) rfl rfl rfl rfl ?_
      have h13 := hI.f tf43_1
      exact lp182_14 hI h_a   hd _ z9 1 0 ⟨by omega, by omega⟩ ⟨by omega, by omega⟩ ⟨by omega, by omega⟩ (by omega) (by first | omega | (rcases (show k = 0 ∨ k = 1 ∨ k = 2 ∨ k = 3 by omega) with rfl | rfl | rfl | rfl <;> omega)) (by exact hmn12) (by exact fun _ => pkM_0) (by intro hg; exact absurd hg (by omega)) (Int.lt_succ_toNat _)
    · refine r_const (i := 5) (u := 0) (z := 0) rfl rfl ?_
      have h14 := hI.f tf43_1
      exact r_retZ (i := 6) rfl (by omega) (by omega) ⟨0, rfl, by omega, by omega, (by omega), (by intro hz; first | exact absurd hz (by omega) | exact KP_of4 (by omega) (by omega) (by omega) (by omega)), (by intro hz; first | exact absurd hz (by omega) | exact pkM_y (n := n1) (by omega) (by omega) (by omega) (by omega) (fun q q0 q1 => q_3 (by omega) q q0 (by omega))), (by intro hz; exact fun hp => by have w1 := hp.1; have w2 := hp.2.1; omega), rfl⟩
theorem lp217_98 {G : xk} {d : Nat} {S : yS} (hI : yI S) {t : Int} (h_t : -2147483648 ≤ t ∧ t ≤ 2147483647) {w0 : Int} (h_w0 : -2147483648 ≤ w0 ∧ w0 ≤ 2147483647) {bits : Int} (h_bits : -2147483648 ≤ bits ∧ bits ≤ 2147483647) {al : Int} (h_al : -2147483648 ≤ al ∧ al ≤ 2147483647) {back : Int} (h_back : -2147483648 ≤ back ∧ back ≤ 2147483647) (hd : 3 ≤ d + 1) : ∀ (n : Nat), ∀ (ac m0 : Int) (h_ac : 0 ≤ ac ∧ ac ≤ 7) (h_m0 : 0 ≤ m0 ∧ m0 ≤ 60) (q_0 : 4 ≤ t ∧ t < S.f 43 1) (q_1 : 0 ≤ w0 ∧ w0 ≤ 10) (q_2 : 0 ≤ bits ∧ bits ≤ 63) (q_3 : 0 ≤ al ∧ al < 1048576) (q_4 : KP al) (q_5 : 0 ≤ back ∧ back ≤ 23) (q_6 : w0 = 10 → back = 0) (q_7 : pkC (S.f 43 1) al) (q_8 : 0 < back → kdC (S.f 43 1) back) (q_9 : fmM S t w0 bits back) (q_10 : nsM S m0 t w0 al back) (hn : 60 - m0 < (n : Nat)), yT xPr G LY xC217 98 [some ((2, 43)), some (vi t), some (vi w0), some (vi bits), some (vi al), some (vi back), some (vi ac), some (vi m0)] [] S (d + 1) (fun r S' => ∃ z : Int, r = (1, vi z) ∧ 0 ≤ z ∧ z ≤ 1 ∧ (z = 1 → 4 ≤ t ∧ t < S.f 43 1) ∧ (z = 1 → 0 ≤ w0 ∧ w0 ≤ 10) ∧ (z = 1 → 0 ≤ bits ∧ bits ≤ 63) ∧ (z = 1 → 0 ≤ al ∧ al < 1048576) ∧ (z = 1 → KP al) ∧ (z = 1 → 0 ≤ back ∧ back ≤ 23) ∧ (z = 1 → w0 = 10 → back = 0) ∧ (z = 1 → mbM S t w0 bits al back) ∧ (z = 0 → ¬ mbM S t w0 bits al back) ∧ S = S') := by
  intro n
  induction n with
  | zero => intro ac m0 h_ac h_m0 q_0 q_1 q_2 q_3 q_4 q_5 q_6 q_7 q_8 q_9 q_10 hn; exact absurd hn (by omega)
  | succ n ih =>
    intro ac m0 h_ac h_m0 q_0 q_1 q_2 q_3 q_4 q_5 q_6 q_7 q_8 q_9 q_10 hn
    have h1 := hI.f tf43_1
    refine r_load (i := 98) (u := 7) (w := 0) rfl rfl rfl ?_
    refine r_load (i := 99) (u := 0) (w := 2) rfl rfl rfl ?_
    have h2 := hI.f tf43_10
    refine r_getf (i := 100) (v := 10) (w := 11) (x := vi (S.f 43 10)) rfl ly43 rfl rfl fun h3 => ?_
    have h3 : Rg (S.f 43 10) := h3
    refine c_ge (i := 101) (v := 130) rfl ⟨by omega, by omega⟩ ⟨by omega, by omega⟩ (fun h4 => ?_) (fun h5 => ?_)
    · refine r_const (i := 130) (u := 1) (z := 1) rfl rfl ?_
      exact r_retZ (i := 131) rfl (by omega) (by omega) ⟨1, rfl, by omega, by omega, (by omega), (by omega), (by omega), (by omega), (by intro hz; first | exact absurd hz (by omega) | assumption | grind), (by omega), (by omega), (by intro hz; first | exact absurd hz (by omega) | exact ⟨q_0, q_1, q_2, q_7, ⟨by omega, q_8⟩, q_9, fun j hj => q_10 j (by omega)⟩), (by intro hz; first | exact absurd hz (by omega) | (intro hc; obtain ⟨c1, c2, c3, c4, c5, c6, c7⟩ := hc; unfold kdC at c5; unfold fmM at c6; first | (exfalso; omega) | exact c7 m0.toNat (by omega) ⟨by omega, by omega, by omega, by omega⟩)), rfl⟩
    · refine r_load (i := 102) (u := 0) (w := 2) rfl rfl rfl ?_
      refine r_getf (i := 103) (v := 11) (w := 11) (x := (2, 52)) rfl ly43 rfl rfl fun _ => ?_
      refine r_load (i := 104) (u := 7) (w := 0) rfl rfl rfl ?_
      refine a_int (i := 105) rfl ly52 rfl (by omega) (by omega) fun h7 => ?_
      have h8 := hI.a ta52 m0.toNat
      refine r_load (i := 106) (u := 1) (w := 0) rfl rfl rfl ?_
      refine c_ne (i := 107) (v := 128) rfl ⟨by omega, by omega⟩ ⟨by omega, by omega⟩ (fun h9 => ?_) (fun h10 => ?_)
      · refine r_iinc (i := 128) (u := 1) (v := 7) (s := 1) (L1 := [some ((2, 43)), some (vi t), some (vi w0), some (vi bits), some (vi al), some (vi back), some (vi ac), some (vi (m0 + 1))]) rfl rfl rfl rfl rfl ?_
        refine r_goto (i := 129) (v := 98) rfl ?_
        exact ih ac (m0 + 1) ⟨by omega, by omega⟩ ⟨by omega, by omega⟩ (by omega) (by omega) (by omega) (by omega) (by first | assumption | grind) (by omega) (by omega) (by exact q_7) (by exact q_8) (by exact q_9) (by exact nsM_s q_10 (by omega) (by omega)) (by omega)
      · refine r_load (i := 108) (u := 0) (w := 2) rfl rfl rfl ?_
        refine r_getf (i := 109) (v := 12) (w := 11) (x := (2, 53)) rfl ly43 rfl rfl fun _ => ?_
        refine r_load (i := 110) (u := 7) (w := 0) rfl rfl rfl ?_
        refine a_int (i := 111) rfl ly53 rfl (by omega) (by omega) fun h12 => ?_
        have h13 := hI.a ta53 m0.toNat
        refine r_load (i := 112) (u := 2) (w := 0) rfl rfl rfl ?_
        refine c_ne (i := 113) (v := 128) rfl ⟨by omega, by omega⟩ ⟨by omega, by omega⟩ (fun h14 => ?_) (fun h15 => ?_)
        · refine r_iinc (i := 128) (u := 1) (v := 7) (s := 1) (L1 := [some ((2, 43)), some (vi t), some (vi w0), some (vi bits), some (vi al), some (vi back), some (vi ac), some (vi (m0 + 1))]) rfl rfl rfl rfl rfl ?_
          refine r_goto (i := 129) (v := 98) rfl ?_
          exact ih ac (m0 + 1) ⟨by omega, by omega⟩ ⟨by omega, by omega⟩ (by omega) (by omega) (by omega) (by omega) (by first | assumption | grind) (by omega) (by omega) (by exact q_7) (by exact q_8) (by exact q_9) (by exact nsM_s q_10 (by omega) (by omega)) (by omega)
        · refine r_load (i := 114) (u := 0) (w := 2) rfl rfl rfl ?_
          refine r_getf (i := 115) (v := 14) (w := 11) (x := (2, 55)) rfl ly43 rfl rfl fun _ => ?_
          refine r_load (i := 116) (u := 7) (w := 0) rfl rfl rfl ?_
          refine a_int (i := 117) rfl ly55 rfl (by omega) (by omega) fun h17 => ?_
          have h18 := hI.a ta55 m0.toNat
          have kp19 := hI.k55 m0.toNat
          refine r_load (i := 118) (u := 4) (w := 0) rfl rfl rfl ?_
          refine c_ne (i := 119) (v := 128) rfl ⟨by omega, by omega⟩ ⟨by omega, by omega⟩ (fun h20 => ?_) (fun h21 => ?_)
          · refine r_iinc (i := 128) (u := 1) (v := 7) (s := 1) (L1 := [some ((2, 43)), some (vi t), some (vi w0), some (vi bits), some (vi al), some (vi back), some (vi ac), some (vi (m0 + 1))]) rfl rfl rfl rfl rfl ?_
            refine r_goto (i := 129) (v := 98) rfl ?_
            exact ih ac (m0 + 1) ⟨by omega, by omega⟩ ⟨by omega, by omega⟩ (by omega) (by omega) (by omega) (by omega) (by first | assumption | grind) (by omega) (by omega) (by exact q_7) (by exact q_8) (by exact q_9) (by exact nsM_s q_10 (by omega) (by omega)) (by omega)
          · refine r_load (i := 120) (u := 0) (w := 2) rfl rfl rfl ?_
            refine r_getf (i := 121) (v := 15) (w := 11) (x := (2, 56)) rfl ly43 rfl rfl fun _ => ?_
            refine r_load (i := 122) (u := 7) (w := 0) rfl rfl rfl ?_
            refine a_int (i := 123) rfl ly56 rfl (by omega) (by omega) fun h23 => ?_
            have h24 := hI.a ta56 m0.toNat
            refine r_load (i := 124) (u := 5) (w := 0) rfl rfl rfl ?_
            refine c_ne (i := 125) (v := 128) rfl ⟨by omega, by omega⟩ ⟨by omega, by omega⟩ (fun h25 => ?_) (fun h26 => ?_)
            · refine r_iinc (i := 128) (u := 1) (v := 7) (s := 1) (L1 := [some ((2, 43)), some (vi t), some (vi w0), some (vi bits), some (vi al), some (vi back), some (vi ac), some (vi (m0 + 1))]) rfl rfl rfl rfl rfl ?_
              refine r_goto (i := 129) (v := 98) rfl ?_
              exact ih ac (m0 + 1) ⟨by omega, by omega⟩ ⟨by omega, by omega⟩ (by omega) (by omega) (by omega) (by omega) (by first | assumption | grind) (by omega) (by omega) (by exact q_7) (by exact q_8) (by exact q_9) (by exact nsM_s q_10 (by omega) (by omega)) (by omega)
            · refine r_const (i := 126) (u := 0) (z := 0) rfl rfl ?_
              exact r_retZ (i := 127) rfl (by omega) (by omega) ⟨0, rfl, by omega, by omega, (by omega), (by omega), (by omega), (by omega), (by intro hz; first | exact absurd hz (by omega) | assumption | grind), (by omega), (by omega), (by intro hz; first | exact absurd hz (by omega) | exact ⟨q_0, q_1, q_2, q_7, ⟨by omega, q_8⟩, q_9, fun j hj => q_10 j (by omega)⟩), (by intro hz; first | exact absurd hz (by omega) | (intro hc; obtain ⟨c1, c2, c3, c4, c5, c6, c7⟩ := hc; unfold kdC at c5; unfold fmM at c6; first | (exfalso; omega) | exact c7 m0.toNat (by omega) ⟨by omega, by omega, by omega, by omega⟩)), rfl⟩
theorem lp217_63 {G : xk} {d : Nat} {S : yS} (hI : yI S) {t : Int} (h_t : -2147483648 ≤ t ∧ t ≤ 2147483647) {w0 : Int} (h_w0 : -2147483648 ≤ w0 ∧ w0 ≤ 2147483647) {bits : Int} (h_bits : -2147483648 ≤ bits ∧ bits ≤ 2147483647) {al : Int} (h_al : -2147483648 ≤ al ∧ al ≤ 2147483647) {back : Int} (h_back : -2147483648 ≤ back ∧ back ≤ 2147483647) (hd : 3 ≤ d + 1) : ∀ (ac : Int) (h_ac : 0 ≤ ac ∧ ac ≤ 7) (q_0 : 4 ≤ t ∧ t < S.f 43 1) (q_1 : 0 ≤ w0 ∧ w0 ≤ 10) (q_2 : 0 ≤ bits ∧ bits ≤ 63) (q_3 : 0 ≤ al ∧ al < 1048576) (q_4 : KP al) (q_5 : 0 ≤ back ∧ back ≤ 23) (q_6 : w0 = 10 → back = 0) (q_7 : pkC (S.f 43 1) al) (q_8 : 0 < back → kdC (S.f 43 1) back) (q_9 : ac = yand bits 7 ∧ (ac = 0 ∨ ac = 1 ∨ ac = 2 ∨ ac = 4)) (q_10 : w0 = 10 → S.a 44 t.toNat = 0 ∧ bits ≤ 7 ∧ back = 0), yT xPr G LY xC217 63 [some ((2, 43)), some (vi t), some (vi w0), some (vi bits), some (vi al), some (vi back), some (vi ac), none] [] S (d + 1) (fun r S' => ∃ z : Int, r = (1, vi z) ∧ 0 ≤ z ∧ z ≤ 1 ∧ (z = 1 → 4 ≤ t ∧ t < S.f 43 1) ∧ (z = 1 → 0 ≤ w0 ∧ w0 ≤ 10) ∧ (z = 1 → 0 ≤ bits ∧ bits ≤ 63) ∧ (z = 1 → 0 ≤ al ∧ al < 1048576) ∧ (z = 1 → KP al) ∧ (z = 1 → 0 ≤ back ∧ back ≤ 23) ∧ (z = 1 → w0 = 10 → back = 0) ∧ (z = 1 → mbM S t w0 bits al back) ∧ (z = 0 → ¬ mbM S t w0 bits al back) ∧ S = S') := by
  intro ac h_ac q_0 q_1 q_2 q_3 q_4 q_5 q_6 q_7 q_8 q_9 q_10
  have h1 := hI.f tf43_1
  refine r_load (i := 63) (u := 3) (w := 0) rfl rfl rfl ?_
  refine r_const (i := 64) (u := 32) (z := 32) rfl rfl ?_
  refine r_iand (i := 65) rfl ?_
  have h2 := @yand_c bits 32 (by decide) (by decide)
  refine z_le (i := 66) (v := 83) rfl ⟨by omega, by omega⟩ (fun h3 => ?_) (fun h4 => ?_)
  · refine r_load (i := 83) (u := 0) (w := 2) rfl rfl rfl ?_
    refine r_getf (i := 84) (v := 2) (w := 11) (x := (2, 44)) rfl ly43 rfl rfl fun _ => ?_
    refine r_load (i := 85) (u := 1) (w := 0) rfl rfl rfl ?_
    refine a_bool (i := 86) rfl ly44 rfl (by omega) (by omega) fun h6 => ?_
    refine z_eq (i := 87) (v := 96) rfl ⟨by omega, by omega⟩ (fun h7 => ?_) (fun h8 => ?_)
    · refine r_const (i := 96) (u := 0) (z := 0) rfl rfl ?_
      refine r_store (i := 97) (u := 7) (w := 0) (L1 := [some ((2, 43)), some (vi t), some (vi w0), some (vi bits), some (vi al), some (vi back), some (vi ac), some (vi 0)]) rfl rfl rfl rfl ?_
      exact lp217_98 hI h_t h_w0 h_bits h_al h_back   hd _ ac 0 ⟨by omega, by omega⟩ ⟨by omega, by omega⟩ (by omega) (by omega) (by omega) (by omega) (by first | assumption | grind) (by omega) (by omega) (by exact q_7) (by exact q_8) (by unfold fmM; omega) (by exact nsM_0) (Int.lt_succ_toNat _)
    · refine r_load (i := 88) (u := 3) (w := 0) rfl rfl rfl ?_
      refine r_const (i := 89) (u := 1) (z := 1) rfl rfl ?_
      refine c_eq (i := 90) (v := 96) rfl ⟨by omega, by omega⟩ ⟨by omega, by omega⟩ (fun h9 => ?_) (fun h10 => ?_)
      · refine r_const (i := 96) (u := 0) (z := 0) rfl rfl ?_
        refine r_store (i := 97) (u := 7) (w := 0) (L1 := [some ((2, 43)), some (vi t), some (vi w0), some (vi bits), some (vi al), some (vi back), some (vi ac), some (vi 0)]) rfl rfl rfl rfl ?_
        exact lp217_98 hI h_t h_w0 h_bits h_al h_back   hd _ ac 0 ⟨by omega, by omega⟩ ⟨by omega, by omega⟩ (by omega) (by omega) (by omega) (by omega) (by first | assumption | grind) (by omega) (by omega) (by exact q_7) (by exact q_8) (by unfold fmM; omega) (by exact nsM_0) (Int.lt_succ_toNat _)
      · refine r_load (i := 91) (u := 3) (w := 0) rfl rfl rfl ?_
        refine r_const (i := 92) (u := 33) (z := 33) rfl rfl ?_
        refine c_eq (i := 93) (v := 96) rfl ⟨by omega, by omega⟩ ⟨by omega, by omega⟩ (fun h11 => ?_) (fun h12 => ?_)
        · refine r_const (i := 96) (u := 0) (z := 0) rfl rfl ?_
          refine r_store (i := 97) (u := 7) (w := 0) (L1 := [some ((2, 43)), some (vi t), some (vi w0), some (vi bits), some (vi al), some (vi back), some (vi ac), some (vi 0)]) rfl rfl rfl rfl ?_
          exact lp217_98 hI h_t h_w0 h_bits h_al h_back   hd _ ac 0 ⟨by omega, by omega⟩ ⟨by omega, by omega⟩ (by omega) (by omega) (by omega) (by omega) (by first | assumption | grind) (by omega) (by omega) (by exact q_7) (by exact q_8) (by unfold fmM; omega) (by exact nsM_0) (Int.lt_succ_toNat _)
        · refine r_const (i := 94) (u := 0) (z := 0) rfl rfl ?_
          exact r_retZ (i := 95) rfl (by omega) (by omega) ⟨0, rfl, by omega, by omega, (by omega), (by omega), (by omega), (by omega), (by intro hz; first | exact absurd hz (by omega) | assumption | grind), (by omega), (by omega), (by intro hz; first | exact absurd hz (by omega) | exact ⟨q_0, q_1, q_2, q_7, ⟨by omega, q_8⟩, q_9, fun j hj => q_10 j (by omega)⟩), (by intro hz; first | exact absurd hz (by omega) | (intro hc; obtain ⟨c1, c2, c3, c4, c5, c6, c7⟩ := hc; unfold kdC at c5; unfold fmM at c6; first | (exfalso; omega))), rfl⟩
  · refine r_load (i := 67) (u := 3) (w := 0) rfl rfl rfl ?_
    refine r_const (i := 68) (u := 28) (z := 28) rfl rfl ?_
    refine r_iand (i := 69) rfl ?_
    have h13 := @yand_c bits 28 (by decide) (by decide)
    refine z_gt (i := 70) (v := 81) rfl ⟨by omega, by omega⟩ (fun h14 => ?_) (fun h15 => ?_)
    · refine r_const (i := 81) (u := 0) (z := 0) rfl rfl ?_
      exact r_retZ (i := 82) rfl (by omega) (by omega) ⟨0, rfl, by omega, by omega, (by omega), (by omega), (by omega), (by omega), (by intro hz; first | exact absurd hz (by omega) | assumption | grind), (by omega), (by omega), (by intro hz; first | exact absurd hz (by omega) | exact ⟨q_0, q_1, q_2, q_7, ⟨by omega, q_8⟩, q_9, fun j hj => q_10 j (by omega)⟩), (by intro hz; first | exact absurd hz (by omega) | (intro hc; obtain ⟨c1, c2, c3, c4, c5, c6, c7⟩ := hc; unfold kdC at c5; unfold fmM at c6; first | (exfalso; omega))), rfl⟩
    · refine r_load (i := 71) (u := 0) (w := 2) rfl rfl rfl ?_
      refine r_getf (i := 72) (v := 2) (w := 11) (x := (2, 44)) rfl ly43 rfl rfl fun _ => ?_
      refine r_load (i := 73) (u := 1) (w := 0) rfl rfl rfl ?_
      refine a_bool (i := 74) rfl ly44 rfl (by omega) (by omega) fun h17 => ?_
      refine z_ne (i := 75) (v := 83) rfl ⟨by omega, by omega⟩ (fun h18 => ?_) (fun h19 => ?_)
      · refine r_load (i := 83) (u := 0) (w := 2) rfl rfl rfl ?_
        refine r_getf (i := 84) (v := 2) (w := 11) (x := (2, 44)) rfl ly43 rfl rfl fun _ => ?_
        refine r_load (i := 85) (u := 1) (w := 0) rfl rfl rfl ?_
        refine a_bool (i := 86) rfl ly44 rfl (by omega) (by omega) fun h21 => ?_
        refine z_eq (i := 87) (v := 96) rfl ⟨by omega, by omega⟩ (fun h22 => ?_) (fun h23 => ?_)
        · refine r_const (i := 96) (u := 0) (z := 0) rfl rfl ?_
          refine r_store (i := 97) (u := 7) (w := 0) (L1 := [some ((2, 43)), some (vi t), some (vi w0), some (vi bits), some (vi al), some (vi back), some (vi ac), some (vi 0)]) rfl rfl rfl rfl ?_
          exact lp217_98 hI h_t h_w0 h_bits h_al h_back   hd _ ac 0 ⟨by omega, by omega⟩ ⟨by omega, by omega⟩ (by omega) (by omega) (by omega) (by omega) (by first | assumption | grind) (by omega) (by omega) (by exact q_7) (by exact q_8) (by unfold fmM; omega) (by exact nsM_0) (Int.lt_succ_toNat _)
        · refine r_load (i := 88) (u := 3) (w := 0) rfl rfl rfl ?_
          refine r_const (i := 89) (u := 1) (z := 1) rfl rfl ?_
          refine c_eq (i := 90) (v := 96) rfl ⟨by omega, by omega⟩ ⟨by omega, by omega⟩ (fun h24 => ?_) (fun h25 => ?_)
          · refine r_const (i := 96) (u := 0) (z := 0) rfl rfl ?_
            refine r_store (i := 97) (u := 7) (w := 0) (L1 := [some ((2, 43)), some (vi t), some (vi w0), some (vi bits), some (vi al), some (vi back), some (vi ac), some (vi 0)]) rfl rfl rfl rfl ?_
            exact lp217_98 hI h_t h_w0 h_bits h_al h_back   hd _ ac 0 ⟨by omega, by omega⟩ ⟨by omega, by omega⟩ (by omega) (by omega) (by omega) (by omega) (by first | assumption | grind) (by omega) (by omega) (by exact q_7) (by exact q_8) (by unfold fmM; omega) (by exact nsM_0) (Int.lt_succ_toNat _)
          · refine r_load (i := 91) (u := 3) (w := 0) rfl rfl rfl ?_
            refine r_const (i := 92) (u := 33) (z := 33) rfl rfl ?_
            refine c_eq (i := 93) (v := 96) rfl ⟨by omega, by omega⟩ ⟨by omega, by omega⟩ (fun h26 => ?_) (fun h27 => ?_)
            · refine r_const (i := 96) (u := 0) (z := 0) rfl rfl ?_
              refine r_store (i := 97) (u := 7) (w := 0) (L1 := [some ((2, 43)), some (vi t), some (vi w0), some (vi bits), some (vi al), some (vi back), some (vi ac), some (vi 0)]) rfl rfl rfl rfl ?_
              exact lp217_98 hI h_t h_w0 h_bits h_al h_back   hd _ ac 0 ⟨by omega, by omega⟩ ⟨by omega, by omega⟩ (by omega) (by omega) (by omega) (by omega) (by first | assumption | grind) (by omega) (by omega) (by exact q_7) (by exact q_8) (by unfold fmM; omega) (by exact nsM_0) (Int.lt_succ_toNat _)
            · refine r_const (i := 94) (u := 0) (z := 0) rfl rfl ?_
              exact r_retZ (i := 95) rfl (by omega) (by omega) ⟨0, rfl, by omega, by omega, (by omega), (by omega), (by omega), (by omega), (by intro hz; first | exact absurd hz (by omega) | assumption | grind), (by omega), (by omega), (by intro hz; first | exact absurd hz (by omega) | exact ⟨q_0, q_1, q_2, q_7, ⟨by omega, q_8⟩, q_9, fun j hj => q_10 j (by omega)⟩), (by intro hz; first | exact absurd hz (by omega) | (intro hc; obtain ⟨c1, c2, c3, c4, c5, c6, c7⟩ := hc; unfold kdC at c5; unfold fmM at c6; first | (exfalso; omega))), rfl⟩
      · refine r_load (i := 76) (u := 0) (w := 2) rfl rfl rfl ?_
        refine r_getf (i := 77) (v := 5) (w := 11) (x := (2, 47)) rfl ly43 rfl rfl fun _ => ?_
        refine r_load (i := 78) (u := 1) (w := 0) rfl rfl rfl ?_
        refine a_bool (i := 79) rfl ly47 rfl (by omega) (by omega) fun h29 => ?_
        refine z_ne (i := 80) (v := 83) rfl ⟨by omega, by omega⟩ (fun h30 => ?_) (fun h31 => ?_)
        · refine r_load (i := 83) (u := 0) (w := 2) rfl rfl rfl ?_
          refine r_getf (i := 84) (v := 2) (w := 11) (x := (2, 44)) rfl ly43 rfl rfl fun _ => ?_
          refine r_load (i := 85) (u := 1) (w := 0) rfl rfl rfl ?_
          refine a_bool (i := 86) rfl ly44 rfl (by omega) (by omega) fun h33 => ?_
          refine z_eq (i := 87) (v := 96) rfl ⟨by omega, by omega⟩ (fun h34 => ?_) (fun h35 => ?_)
          · refine r_const (i := 96) (u := 0) (z := 0) rfl rfl ?_
            refine r_store (i := 97) (u := 7) (w := 0) (L1 := [some ((2, 43)), some (vi t), some (vi w0), some (vi bits), some (vi al), some (vi back), some (vi ac), some (vi 0)]) rfl rfl rfl rfl ?_
            exact lp217_98 hI h_t h_w0 h_bits h_al h_back   hd _ ac 0 ⟨by omega, by omega⟩ ⟨by omega, by omega⟩ (by omega) (by omega) (by omega) (by omega) (by first | assumption | grind) (by omega) (by omega) (by exact q_7) (by exact q_8) (by unfold fmM; omega) (by exact nsM_0) (Int.lt_succ_toNat _)
          · refine r_load (i := 88) (u := 3) (w := 0) rfl rfl rfl ?_
            refine r_const (i := 89) (u := 1) (z := 1) rfl rfl ?_
            refine c_eq (i := 90) (v := 96) rfl ⟨by omega, by omega⟩ ⟨by omega, by omega⟩ (fun h36 => ?_) (fun h37 => ?_)
            · refine r_const (i := 96) (u := 0) (z := 0) rfl rfl ?_
              refine r_store (i := 97) (u := 7) (w := 0) (L1 := [some ((2, 43)), some (vi t), some (vi w0), some (vi bits), some (vi al), some (vi back), some (vi ac), some (vi 0)]) rfl rfl rfl rfl ?_
              exact lp217_98 hI h_t h_w0 h_bits h_al h_back   hd _ ac 0 ⟨by omega, by omega⟩ ⟨by omega, by omega⟩ (by omega) (by omega) (by omega) (by omega) (by first | assumption | grind) (by omega) (by omega) (by exact q_7) (by exact q_8) (by unfold fmM; omega) (by exact nsM_0) (Int.lt_succ_toNat _)
            · refine r_load (i := 91) (u := 3) (w := 0) rfl rfl rfl ?_
              refine r_const (i := 92) (u := 33) (z := 33) rfl rfl ?_
              refine c_eq (i := 93) (v := 96) rfl ⟨by omega, by omega⟩ ⟨by omega, by omega⟩ (fun h38 => ?_) (fun h39 => ?_)
              · refine r_const (i := 96) (u := 0) (z := 0) rfl rfl ?_
                refine r_store (i := 97) (u := 7) (w := 0) (L1 := [some ((2, 43)), some (vi t), some (vi w0), some (vi bits), some (vi al), some (vi back), some (vi ac), some (vi 0)]) rfl rfl rfl rfl ?_
                exact lp217_98 hI h_t h_w0 h_bits h_al h_back   hd _ ac 0 ⟨by omega, by omega⟩ ⟨by omega, by omega⟩ (by omega) (by omega) (by omega) (by omega) (by first | assumption | grind) (by omega) (by omega) (by exact q_7) (by exact q_8) (by unfold fmM; omega) (by exact nsM_0) (Int.lt_succ_toNat _)
              · refine r_const (i := 94) (u := 0) (z := 0) rfl rfl ?_
                exact r_retZ (i := 95) rfl (by omega) (by omega) ⟨0, rfl, by omega, by omega, (by omega), (by omega), (by omega), (by omega), (by intro hz; first | exact absurd hz (by omega) | assumption | grind), (by omega), (by omega), (by intro hz; first | exact absurd hz (by omega) | exact ⟨q_0, q_1, q_2, q_7, ⟨by omega, q_8⟩, q_9, fun j hj => q_10 j (by omega)⟩), (by intro hz; first | exact absurd hz (by omega) | (intro hc; obtain ⟨c1, c2, c3, c4, c5, c6, c7⟩ := hc; unfold kdC at c5; unfold fmM at c6; first | (exfalso; omega))), rfl⟩
        · refine r_const (i := 81) (u := 0) (z := 0) rfl rfl ?_
          exact r_retZ (i := 82) rfl (by omega) (by omega) ⟨0, rfl, by omega, by omega, (by omega), (by omega), (by omega), (by omega), (by intro hz; first | exact absurd hz (by omega) | assumption | grind), (by omega), (by omega), (by intro hz; first | exact absurd hz (by omega) | exact ⟨q_0, q_1, q_2, q_7, ⟨by omega, q_8⟩, q_9, fun j hj => q_10 j (by omega)⟩), (by intro hz; first | exact absurd hz (by omega) | (intro hc; obtain ⟨c1, c2, c3, c4, c5, c6, c7⟩ := hc; unfold kdC at c5; unfold fmM at c6; first | (exfalso; omega))), rfl⟩
/-- ProxyForgeModel.mayBe -/
theorem sp217 {G : xk} {S : yS} {d : Nat} (hI : yI S) {t : Int} (h_t : -2147483648 ≤ t ∧ t ≤ 2147483647) {w0 : Int} (h_w0 : -2147483648 ≤ w0 ∧ w0 ≤ 2147483647) {bits : Int} (h_bits : -2147483648 ≤ bits ∧ bits ≤ 2147483647) {al : Int} (h_al : -2147483648 ≤ al ∧ al ≤ 2147483647) {back : Int} (h_back : -2147483648 ≤ back ∧ back ≤ 2147483647) (hd : 3 ≤ d) : yT xPr G LY xC217 0 [some ((2, 43)), some (vi t), some (vi w0), some (vi bits), some (vi al), some (vi back)] [] S d (fun r S' => ∃ z : Int, r = (1, vi z) ∧ 0 ≤ z ∧ z ≤ 1 ∧ (z = 1 → 4 ≤ t ∧ t < S.f 43 1) ∧ (z = 1 → 0 ≤ w0 ∧ w0 ≤ 10) ∧ (z = 1 → 0 ≤ bits ∧ bits ≤ 63) ∧ (z = 1 → 0 ≤ al ∧ al < 1048576) ∧ (z = 1 → KP al) ∧ (z = 1 → 0 ≤ back ∧ back ≤ 23) ∧ (z = 1 → w0 = 10 → back = 0) ∧ (z = 1 → mbM S t w0 bits al back) ∧ (z = 0 → ¬ mbM S t w0 bits al back) ∧ S = S') := by
  refine yT_pad 2 ?_
  show yT xPr G LY xC217 0 [some ((2, 43)), some (vi t), some (vi w0), some (vi bits), some (vi al), some (vi back), none, none] [] S d _
  obtain ⟨d, rfl⟩ : ∃ q, d = q + 1 := ⟨d - 1, by omega⟩
  refine r_load (i := 0) (u := 1) (w := 0) rfl rfl rfl ?_
  refine r_const (i := 1) (u := 4) (z := 4) rfl rfl ?_
  refine c_lt (i := 2) (v := 29) rfl ⟨by omega, by omega⟩ ⟨by omega, by omega⟩ (fun h1 => ?_) (fun h2 => ?_)
  · refine r_const (i := 29) (u := 0) (z := 0) rfl rfl ?_
    have h3 := hI.f tf43_1
    exact r_retZ (i := 30) rfl (by omega) (by omega) ⟨0, rfl, by omega, by omega, (by omega), (by omega), (by omega), (by omega), (by intro hz; first | exact absurd hz (by omega) | assumption | grind), (by omega), (by omega), (by intro hz; exact absurd hz (by omega)), (by intro hz; first | exact absurd hz (by omega) | (intro hc; obtain ⟨c1, c2, c3, c4, c5, c6, c7⟩ := hc; unfold kdC at c5; unfold fmM at c6; first | (exfalso; omega))), rfl⟩
  · refine r_load (i := 3) (u := 1) (w := 0) rfl rfl rfl ?_
    refine r_load (i := 4) (u := 0) (w := 2) rfl rfl rfl ?_
    have h4 := hI.f tf43_1
    refine r_getf (i := 5) (v := 1) (w := 11) (x := vi (S.f 43 1)) rfl ly43 rfl rfl fun h5 => ?_
    have h5 : Rg (S.f 43 1) := h5
    refine c_ge (i := 6) (v := 29) rfl ⟨by omega, by omega⟩ ⟨by omega, by omega⟩ (fun h6 => ?_) (fun h7 => ?_)
    · refine r_const (i := 29) (u := 0) (z := 0) rfl rfl ?_
      exact r_retZ (i := 30) rfl (by omega) (by omega) ⟨0, rfl, by omega, by omega, (by omega), (by omega), (by omega), (by omega), (by intro hz; first | exact absurd hz (by omega) | assumption | grind), (by omega), (by omega), (by intro hz; exact absurd hz (by omega)), (by intro hz; first | exact absurd hz (by omega) | (intro hc; obtain ⟨c1, c2, c3, c4, c5, c6, c7⟩ := hc; unfold kdC at c5; unfold fmM at c6; first | (exfalso; omega))), rfl⟩
    · refine r_load (i := 7) (u := 2) (w := 0) rfl rfl rfl ?_
      refine z_lt (i := 8) (v := 29) rfl ⟨by omega, by omega⟩ (fun h8 => ?_) (fun h9 => ?_)
      · refine r_const (i := 29) (u := 0) (z := 0) rfl rfl ?_
        exact r_retZ (i := 30) rfl (by omega) (by omega) ⟨0, rfl, by omega, by omega, (by omega), (by omega), (by omega), (by omega), (by intro hz; first | exact absurd hz (by omega) | assumption | grind), (by omega), (by omega), (by intro hz; exact absurd hz (by omega)), (by intro hz; first | exact absurd hz (by omega) | (intro hc; obtain ⟨c1, c2, c3, c4, c5, c6, c7⟩ := hc; unfold kdC at c5; unfold fmM at c6; first | (exfalso; omega))), rfl⟩
      · refine r_load (i := 9) (u := 2) (w := 0) rfl rfl rfl ?_
        refine r_const (i := 10) (u := 10) (z := 10) rfl rfl ?_
        refine c_gt (i := 11) (v := 29) rfl ⟨by omega, by omega⟩ ⟨by omega, by omega⟩ (fun h10 => ?_) (fun h11 => ?_)
        · refine r_const (i := 29) (u := 0) (z := 0) rfl rfl ?_
          exact r_retZ (i := 30) rfl (by omega) (by omega) ⟨0, rfl, by omega, by omega, (by omega), (by omega), (by omega), (by omega), (by intro hz; first | exact absurd hz (by omega) | assumption | grind), (by omega), (by omega), (by intro hz; exact absurd hz (by omega)), (by intro hz; first | exact absurd hz (by omega) | (intro hc; obtain ⟨c1, c2, c3, c4, c5, c6, c7⟩ := hc; unfold kdC at c5; unfold fmM at c6; first | (exfalso; omega))), rfl⟩
        · refine r_load (i := 12) (u := 3) (w := 0) rfl rfl rfl ?_
          refine z_lt (i := 13) (v := 29) rfl ⟨by omega, by omega⟩ (fun h12 => ?_) (fun h13 => ?_)
          · refine r_const (i := 29) (u := 0) (z := 0) rfl rfl ?_
            exact r_retZ (i := 30) rfl (by omega) (by omega) ⟨0, rfl, by omega, by omega, (by omega), (by omega), (by omega), (by omega), (by intro hz; first | exact absurd hz (by omega) | assumption | grind), (by omega), (by omega), (by intro hz; exact absurd hz (by omega)), (by intro hz; first | exact absurd hz (by omega) | (intro hc; obtain ⟨c1, c2, c3, c4, c5, c6, c7⟩ := hc; unfold kdC at c5; unfold fmM at c6; first | (exfalso; omega))), rfl⟩
          · refine r_load (i := 14) (u := 3) (w := 0) rfl rfl rfl ?_
            refine r_const (i := 15) (u := 63) (z := 63) rfl rfl ?_
            refine c_gt (i := 16) (v := 29) rfl ⟨by omega, by omega⟩ ⟨by omega, by omega⟩ (fun h14 => ?_) (fun h15 => ?_)
            · refine r_const (i := 29) (u := 0) (z := 0) rfl rfl ?_
              exact r_retZ (i := 30) rfl (by omega) (by omega) ⟨0, rfl, by omega, by omega, (by omega), (by omega), (by omega), (by omega), (by intro hz; first | exact absurd hz (by omega) | assumption | grind), (by omega), (by omega), (by intro hz; exact absurd hz (by omega)), (by intro hz; first | exact absurd hz (by omega) | (intro hc; obtain ⟨c1, c2, c3, c4, c5, c6, c7⟩ := hc; unfold kdC at c5; unfold fmM at c6; first | (exfalso; omega))), rfl⟩
            · refine r_load (i := 17) (u := 0) (w := 2) rfl rfl rfl ?_
              refine r_load (i := 18) (u := 4) (w := 0) rfl rfl rfl ?_
              refine r_call (i := 19) (u := 11) (v := 182) (w := 0) (b := 0) (na := 1282) (C2 := xC182) (as := [(2, 43), vi al]) (s := []) rfl rfl rfl rfl rfl rfl rfl (sp182 (a := al) hI ⟨by omega, by omega⟩   (by omega)) (fun r16 S17 hq18 => ?_)
              obtain ⟨z19, rfl, h20, h21, h22, h23, yp24, np25, rfl⟩ := hq18
              refine Or.inr (Or.inl ⟨rfl, ?_⟩)
              refine z_eq (i := 20) (v := 29) rfl ⟨by omega, by omega⟩ (fun h26 => ?_) (fun h27 => ?_)
              · refine r_const (i := 29) (u := 0) (z := 0) rfl rfl ?_
                exact r_retZ (i := 30) rfl (by omega) (by omega) ⟨0, rfl, by omega, by omega, (by omega), (by omega), (by omega), (by omega), (by intro hz; first | exact absurd hz (by omega) | assumption | grind), (by omega), (by omega), (by intro hz; exact absurd hz (by omega)), (by intro hz; first | exact absurd hz (by omega) | (intro hc; obtain ⟨c1, c2, c3, c4, c5, c6, c7⟩ := hc; unfold kdC at c5; unfold fmM at c6; first | (exfalso; omega) | exact absurd c4 (np25 (by omega)))), rfl⟩
              · refine r_load (i := 21) (u := 5) (w := 0) rfl rfl rfl ?_
                refine z_lt (i := 22) (v := 29) rfl ⟨by omega, by omega⟩ (fun h28 => ?_) (fun h29 => ?_)
                · refine r_const (i := 29) (u := 0) (z := 0) rfl rfl ?_
                  exact r_retZ (i := 30) rfl (by omega) (by omega) ⟨0, rfl, by omega, by omega, (by omega), (by omega), (by omega), (by omega), (by intro hz; first | exact absurd hz (by omega) | assumption | grind), (by omega), (by omega), (by intro hz; exact absurd hz (by omega)), (by intro hz; first | exact absurd hz (by omega) | (intro hc; obtain ⟨c1, c2, c3, c4, c5, c6, c7⟩ := hc; unfold kdC at c5; unfold fmM at c6; first | (exfalso; omega) | exact absurd c4 (np25 (by omega)))), rfl⟩
                · refine r_load (i := 23) (u := 5) (w := 0) rfl rfl rfl ?_
                  refine z_le (i := 24) (v := 31) rfl ⟨by omega, by omega⟩ (fun h30 => ?_) (fun h31 => ?_)
                  · refine r_load (i := 31) (u := 3) (w := 0) rfl rfl rfl ?_
                    refine r_const (i := 32) (u := 7) (z := 7) rfl rfl ?_
                    refine r_iand (i := 33) rfl ?_
                    have h32 := @yand_c bits 7 (by decide) (by decide)
                    refine r_store (i := 34) (u := 6) (w := 0) (L1 := [some ((2, 43)), some (vi t), some (vi w0), some (vi bits), some (vi al), some (vi back), some (vi (yand bits 7)), none]) rfl rfl rfl rfl ?_
                    refine r_load (i := 35) (u := 6) (w := 0) rfl rfl rfl ?_
                    refine z_eq (i := 36) (v := 48) rfl ⟨by omega, by omega⟩ (fun h33 => ?_) (fun h34 => ?_)
                    · refine r_load (i := 48) (u := 2) (w := 0) rfl rfl rfl ?_
                      refine r_const (i := 49) (u := 10) (z := 10) rfl rfl ?_
                      refine c_ne (i := 50) (v := 63) rfl ⟨by omega, by omega⟩ ⟨by omega, by omega⟩ (fun h35 => ?_) (fun h36 => ?_)
                      · exact lp217_63 hI h_t h_w0 h_bits h_al h_back   hd (yand bits 7) ⟨by omega, by omega⟩ (by omega) (by omega) (by omega) (by omega) (by first | assumption | grind) (by omega) (by omega) (by exact yp24 (by omega)) (by unfold kdC; omega) (by omega) (by omega) 
                      · refine r_load (i := 51) (u := 0) (w := 2) rfl rfl rfl ?_
                        refine r_getf (i := 52) (v := 2) (w := 11) (x := (2, 44)) rfl ly43 rfl rfl fun _ => ?_
                        refine r_load (i := 53) (u := 1) (w := 0) rfl rfl rfl ?_
                        refine a_bool (i := 54) rfl ly44 rfl (by omega) (by omega) fun h38 => ?_
                        refine z_ne (i := 55) (v := 61) rfl ⟨by omega, by omega⟩ (fun h39 => ?_) (fun h40 => ?_)
                        · refine r_const (i := 61) (u := 0) (z := 0) rfl rfl ?_
                          exact r_retZ (i := 62) rfl (by omega) (by omega) ⟨0, rfl, by omega, by omega, (by omega), (by omega), (by omega), (by omega), (by intro hz; first | exact absurd hz (by omega) | assumption | grind), (by omega), (by omega), (by intro hz; exact absurd hz (by omega)), (by intro hz; first | exact absurd hz (by omega) | (intro hc; obtain ⟨c1, c2, c3, c4, c5, c6, c7⟩ := hc; unfold kdC at c5; unfold fmM at c6; first | (exfalso; omega) | exact absurd c4 (np25 (by omega)))), rfl⟩
                        · refine r_load (i := 56) (u := 3) (w := 0) rfl rfl rfl ?_
                          refine r_const (i := 57) (u := 7) (z := 7) rfl rfl ?_
                          refine c_gt (i := 58) (v := 61) rfl ⟨by omega, by omega⟩ ⟨by omega, by omega⟩ (fun h41 => ?_) (fun h42 => ?_)
                          · refine r_const (i := 61) (u := 0) (z := 0) rfl rfl ?_
                            exact r_retZ (i := 62) rfl (by omega) (by omega) ⟨0, rfl, by omega, by omega, (by omega), (by omega), (by omega), (by omega), (by intro hz; first | exact absurd hz (by omega) | assumption | grind), (by omega), (by omega), (by intro hz; exact absurd hz (by omega)), (by intro hz; first | exact absurd hz (by omega) | (intro hc; obtain ⟨c1, c2, c3, c4, c5, c6, c7⟩ := hc; unfold kdC at c5; unfold fmM at c6; first | (exfalso; omega) | exact absurd c4 (np25 (by omega)))), rfl⟩
                          · refine r_load (i := 59) (u := 5) (w := 0) rfl rfl rfl ?_
                            refine z_eq (i := 60) (v := 63) rfl ⟨by omega, by omega⟩ (fun h43 => ?_) (fun h44 => ?_)
                            · exact lp217_63 hI h_t h_w0 h_bits h_al h_back   hd (yand bits 7) ⟨by omega, by omega⟩ (by omega) (by omega) (by omega) (by omega) (by first | assumption | grind) (by omega) (by omega) (by exact yp24 (by omega)) (by unfold kdC; omega) (by omega) (by omega) 
                            · refine r_const (i := 61) (u := 0) (z := 0) rfl rfl ?_
                              exact r_retZ (i := 62) rfl (by omega) (by omega) ⟨0, rfl, by omega, by omega, (by omega), (by omega), (by omega), (by omega), (by intro hz; first | exact absurd hz (by omega) | assumption | grind), (by omega), (by omega), (by intro hz; exact absurd hz (by omega)), (by intro hz; first | exact absurd hz (by omega) | (intro hc; obtain ⟨c1, c2, c3, c4, c5, c6, c7⟩ := hc; unfold kdC at c5; unfold fmM at c6; first | (exfalso; omega) | exact absurd c4 (np25 (by omega)))), rfl⟩
                    · refine r_load (i := 37) (u := 6) (w := 0) rfl rfl rfl ?_
                      refine r_const (i := 38) (u := 1) (z := 1) rfl rfl ?_
                      refine c_eq (i := 39) (v := 48) rfl ⟨by omega, by omega⟩ ⟨by omega, by omega⟩ (fun h45 => ?_) (fun h46 => ?_)
                      · refine r_load (i := 48) (u := 2) (w := 0) rfl rfl rfl ?_
                        refine r_const (i := 49) (u := 10) (z := 10) rfl rfl ?_
                        refine c_ne (i := 50) (v := 63) rfl ⟨by omega, by omega⟩ ⟨by omega, by omega⟩ (fun h47 => ?_) (fun h48 => ?_)
                        · exact lp217_63 hI h_t h_w0 h_bits h_al h_back   hd (yand bits 7) ⟨by omega, by omega⟩ (by omega) (by omega) (by omega) (by omega) (by first | assumption | grind) (by omega) (by omega) (by exact yp24 (by omega)) (by unfold kdC; omega) (by omega) (by omega) 
                        · refine r_load (i := 51) (u := 0) (w := 2) rfl rfl rfl ?_
                          refine r_getf (i := 52) (v := 2) (w := 11) (x := (2, 44)) rfl ly43 rfl rfl fun _ => ?_
                          refine r_load (i := 53) (u := 1) (w := 0) rfl rfl rfl ?_
                          refine a_bool (i := 54) rfl ly44 rfl (by omega) (by omega) fun h50 => ?_
                          refine z_ne (i := 55) (v := 61) rfl ⟨by omega, by omega⟩ (fun h51 => ?_) (fun h52 => ?_)
                          · refine r_const (i := 61) (u := 0) (z := 0) rfl rfl ?_
                            exact r_retZ (i := 62) rfl (by omega) (by omega) ⟨0, rfl, by omega, by omega, (by omega), (by omega), (by omega), (by omega), (by intro hz; first | exact absurd hz (by omega) | assumption | grind), (by omega), (by omega), (by intro hz; exact absurd hz (by omega)), (by intro hz; first | exact absurd hz (by omega) | (intro hc; obtain ⟨c1, c2, c3, c4, c5, c6, c7⟩ := hc; unfold kdC at c5; unfold fmM at c6; first | (exfalso; omega) | exact absurd c4 (np25 (by omega)))), rfl⟩
                          · refine r_load (i := 56) (u := 3) (w := 0) rfl rfl rfl ?_
                            refine r_const (i := 57) (u := 7) (z := 7) rfl rfl ?_
                            refine c_gt (i := 58) (v := 61) rfl ⟨by omega, by omega⟩ ⟨by omega, by omega⟩ (fun h53 => ?_) (fun h54 => ?_)
                            · refine r_const (i := 61) (u := 0) (z := 0) rfl rfl ?_
                              exact r_retZ (i := 62) rfl (by omega) (by omega) ⟨0, rfl, by omega, by omega, (by omega), (by omega), (by omega), (by omega), (by intro hz; first | exact absurd hz (by omega) | assumption | grind), (by omega), (by omega), (by intro hz; exact absurd hz (by omega)), (by intro hz; first | exact absurd hz (by omega) | (intro hc; obtain ⟨c1, c2, c3, c4, c5, c6, c7⟩ := hc; unfold kdC at c5; unfold fmM at c6; first | (exfalso; omega) | exact absurd c4 (np25 (by omega)))), rfl⟩
                            · refine r_load (i := 59) (u := 5) (w := 0) rfl rfl rfl ?_
                              refine z_eq (i := 60) (v := 63) rfl ⟨by omega, by omega⟩ (fun h55 => ?_) (fun h56 => ?_)
                              · exact lp217_63 hI h_t h_w0 h_bits h_al h_back   hd (yand bits 7) ⟨by omega, by omega⟩ (by omega) (by omega) (by omega) (by omega) (by first | assumption | grind) (by omega) (by omega) (by exact yp24 (by omega)) (by unfold kdC; omega) (by omega) (by omega) 
                              · refine r_const (i := 61) (u := 0) (z := 0) rfl rfl ?_
                                exact r_retZ (i := 62) rfl (by omega) (by omega) ⟨0, rfl, by omega, by omega, (by omega), (by omega), (by omega), (by omega), (by intro hz; first | exact absurd hz (by omega) | assumption | grind), (by omega), (by omega), (by intro hz; exact absurd hz (by omega)), (by intro hz; first | exact absurd hz (by omega) | (intro hc; obtain ⟨c1, c2, c3, c4, c5, c6, c7⟩ := hc; unfold kdC at c5; unfold fmM at c6; first | (exfalso; omega) | exact absurd c4 (np25 (by omega)))), rfl⟩
                      · refine r_load (i := 40) (u := 6) (w := 0) rfl rfl rfl ?_
                        refine r_const (i := 41) (u := 2) (z := 2) rfl rfl ?_
                        refine c_eq (i := 42) (v := 48) rfl ⟨by omega, by omega⟩ ⟨by omega, by omega⟩ (fun h57 => ?_) (fun h58 => ?_)
                        · refine r_load (i := 48) (u := 2) (w := 0) rfl rfl rfl ?_
                          refine r_const (i := 49) (u := 10) (z := 10) rfl rfl ?_
                          refine c_ne (i := 50) (v := 63) rfl ⟨by omega, by omega⟩ ⟨by omega, by omega⟩ (fun h59 => ?_) (fun h60 => ?_)
                          · exact lp217_63 hI h_t h_w0 h_bits h_al h_back   hd (yand bits 7) ⟨by omega, by omega⟩ (by omega) (by omega) (by omega) (by omega) (by first | assumption | grind) (by omega) (by omega) (by exact yp24 (by omega)) (by unfold kdC; omega) (by omega) (by omega) 
                          · refine r_load (i := 51) (u := 0) (w := 2) rfl rfl rfl ?_
                            refine r_getf (i := 52) (v := 2) (w := 11) (x := (2, 44)) rfl ly43 rfl rfl fun _ => ?_
                            refine r_load (i := 53) (u := 1) (w := 0) rfl rfl rfl ?_
                            refine a_bool (i := 54) rfl ly44 rfl (by omega) (by omega) fun h62 => ?_
                            refine z_ne (i := 55) (v := 61) rfl ⟨by omega, by omega⟩ (fun h63 => ?_) (fun h64 => ?_)
                            · refine r_const (i := 61) (u := 0) (z := 0) rfl rfl ?_
                              exact r_retZ (i := 62) rfl (by omega) (by omega) ⟨0, rfl, by omega, by omega, (by omega), (by omega), (by omega), (by omega), (by intro hz; first | exact absurd hz (by omega) | assumption | grind), (by omega), (by omega), (by intro hz; exact absurd hz (by omega)), (by intro hz; first | exact absurd hz (by omega) | (intro hc; obtain ⟨c1, c2, c3, c4, c5, c6, c7⟩ := hc; unfold kdC at c5; unfold fmM at c6; first | (exfalso; omega) | exact absurd c4 (np25 (by omega)))), rfl⟩
                            · refine r_load (i := 56) (u := 3) (w := 0) rfl rfl rfl ?_
                              refine r_const (i := 57) (u := 7) (z := 7) rfl rfl ?_
                              refine c_gt (i := 58) (v := 61) rfl ⟨by omega, by omega⟩ ⟨by omega, by omega⟩ (fun h65 => ?_) (fun h66 => ?_)
                              · refine r_const (i := 61) (u := 0) (z := 0) rfl rfl ?_
                                exact r_retZ (i := 62) rfl (by omega) (by omega) ⟨0, rfl, by omega, by omega, (by omega), (by omega), (by omega), (by omega), (by intro hz; first | exact absurd hz (by omega) | assumption | grind), (by omega), (by omega), (by intro hz; exact absurd hz (by omega)), (by intro hz; first | exact absurd hz (by omega) | (intro hc; obtain ⟨c1, c2, c3, c4, c5, c6, c7⟩ := hc; unfold kdC at c5; unfold fmM at c6; first | (exfalso; omega) | exact absurd c4 (np25 (by omega)))), rfl⟩
                              · refine r_load (i := 59) (u := 5) (w := 0) rfl rfl rfl ?_
                                refine z_eq (i := 60) (v := 63) rfl ⟨by omega, by omega⟩ (fun h67 => ?_) (fun h68 => ?_)
                                · exact lp217_63 hI h_t h_w0 h_bits h_al h_back   hd (yand bits 7) ⟨by omega, by omega⟩ (by omega) (by omega) (by omega) (by omega) (by first | assumption | grind) (by omega) (by omega) (by exact yp24 (by omega)) (by unfold kdC; omega) (by omega) (by omega) 
                                · refine r_const (i := 61) (u := 0) (z := 0) rfl rfl ?_
                                  exact r_retZ (i := 62) rfl (by omega) (by omega) ⟨0, rfl, by omega, by omega, (by omega), (by omega), (by omega), (by omega), (by intro hz; first | exact absurd hz (by omega) | assumption | grind), (by omega), (by omega), (by intro hz; exact absurd hz (by omega)), (by intro hz; first | exact absurd hz (by omega) | (intro hc; obtain ⟨c1, c2, c3, c4, c5, c6, c7⟩ := hc; unfold kdC at c5; unfold fmM at c6; first | (exfalso; omega) | exact absurd c4 (np25 (by omega)))), rfl⟩
                        · refine r_load (i := 43) (u := 6) (w := 0) rfl rfl rfl ?_
                          refine r_const (i := 44) (u := 4) (z := 4) rfl rfl ?_
                          refine c_eq (i := 45) (v := 48) rfl ⟨by omega, by omega⟩ ⟨by omega, by omega⟩ (fun h69 => ?_) (fun h70 => ?_)
                          · refine r_load (i := 48) (u := 2) (w := 0) rfl rfl rfl ?_
                            refine r_const (i := 49) (u := 10) (z := 10) rfl rfl ?_
                            refine c_ne (i := 50) (v := 63) rfl ⟨by omega, by omega⟩ ⟨by omega, by omega⟩ (fun h71 => ?_) (fun h72 => ?_)
                            · exact lp217_63 hI h_t h_w0 h_bits h_al h_back   hd (yand bits 7) ⟨by omega, by omega⟩ (by omega) (by omega) (by omega) (by omega) (by first | assumption | grind) (by omega) (by omega) (by exact yp24 (by omega)) (by unfold kdC; omega) (by omega) (by omega) 
                            · refine r_load (i := 51) (u := 0) (w := 2) rfl rfl rfl ?_
                              refine r_getf (i := 52) (v := 2) (w := 11) (x := (2, 44)) rfl ly43 rfl rfl fun _ => ?_
                              refine r_load (i := 53) (u := 1) (w := 0) rfl rfl rfl ?_
                              refine a_bool (i := 54) rfl ly44 rfl (by omega) (by omega) fun h74 => ?_
                              refine z_ne (i := 55) (v := 61) rfl ⟨by omega, by omega⟩ (fun h75 => ?_) (fun h76 => ?_)
                              · refine r_const (i := 61) (u := 0) (z := 0) rfl rfl ?_
                                exact r_retZ (i := 62) rfl (by omega) (by omega) ⟨0, rfl, by omega, by omega, (by omega), (by omega), (by omega), (by omega), (by intro hz; first | exact absurd hz (by omega) | assumption | grind), (by omega), (by omega), (by intro hz; exact absurd hz (by omega)), (by intro hz; first | exact absurd hz (by omega) | (intro hc; obtain ⟨c1, c2, c3, c4, c5, c6, c7⟩ := hc; unfold kdC at c5; unfold fmM at c6; first | (exfalso; omega) | exact absurd c4 (np25 (by omega)))), rfl⟩
                              · refine r_load (i := 56) (u := 3) (w := 0) rfl rfl rfl ?_
                                refine r_const (i := 57) (u := 7) (z := 7) rfl rfl ?_
                                refine c_gt (i := 58) (v := 61) rfl ⟨by omega, by omega⟩ ⟨by omega, by omega⟩ (fun h77 => ?_) (fun h78 => ?_)
                                · refine r_const (i := 61) (u := 0) (z := 0) rfl rfl ?_
                                  exact r_retZ (i := 62) rfl (by omega) (by omega) ⟨0, rfl, by omega, by omega, (by omega), (by omega), (by omega), (by omega), (by intro hz; first | exact absurd hz (by omega) | assumption | grind), (by omega), (by omega), (by intro hz; exact absurd hz (by omega)), (by intro hz; first | exact absurd hz (by omega) | (intro hc; obtain ⟨c1, c2, c3, c4, c5, c6, c7⟩ := hc; unfold kdC at c5; unfold fmM at c6; first | (exfalso; omega) | exact absurd c4 (np25 (by omega)))), rfl⟩
                                · refine r_load (i := 59) (u := 5) (w := 0) rfl rfl rfl ?_
                                  refine z_eq (i := 60) (v := 63) rfl ⟨by omega, by omega⟩ (fun h79 => ?_) (fun h80 => ?_)
                                  · exact lp217_63 hI h_t h_w0 h_bits h_al h_back   hd (yand bits 7) ⟨by omega, by omega⟩ (by omega) (by omega) (by omega) (by omega) (by first | assumption | grind) (by omega) (by omega) (by exact yp24 (by omega)) (by unfold kdC; omega) (by omega) (by omega) 
                                  · refine r_const (i := 61) (u := 0) (z := 0) rfl rfl ?_
                                    exact r_retZ (i := 62) rfl (by omega) (by omega) ⟨0, rfl, by omega, by omega, (by omega), (by omega), (by omega), (by omega), (by intro hz; first | exact absurd hz (by omega) | assumption | grind), (by omega), (by omega), (by intro hz; exact absurd hz (by omega)), (by intro hz; first | exact absurd hz (by omega) | (intro hc; obtain ⟨c1, c2, c3, c4, c5, c6, c7⟩ := hc; unfold kdC at c5; unfold fmM at c6; first | (exfalso; omega) | exact absurd c4 (np25 (by omega)))), rfl⟩
                          · refine r_const (i := 46) (u := 0) (z := 0) rfl rfl ?_
                            exact r_retZ (i := 47) rfl (by omega) (by omega) ⟨0, rfl, by omega, by omega, (by omega), (by omega), (by omega), (by omega), (by intro hz; first | exact absurd hz (by omega) | assumption | grind), (by omega), (by omega), (by intro hz; exact absurd hz (by omega)), (by intro hz; first | exact absurd hz (by omega) | (intro hc; obtain ⟨c1, c2, c3, c4, c5, c6, c7⟩ := hc; unfold kdC at c5; unfold fmM at c6; first | (exfalso; omega) | exact absurd c4 (np25 (by omega)))), rfl⟩
                  · refine r_load (i := 25) (u := 0) (w := 2) rfl rfl rfl ?_
                    refine r_load (i := 26) (u := 5) (w := 0) rfl rfl rfl ?_
                    refine r_call (i := 27) (u := 11) (v := 210) (w := 0) (b := 0) (na := 514) (C2 := xC210) (as := [(2, 43), vi back]) (s := []) rfl rfl rfl rfl rfl rfl rfl (sp210 (k := back) hI ⟨by omega, by omega⟩   (by omega)) (fun r81 S82 hq83 => ?_)
                    obtain ⟨z84, rfl, h85, h86, h87, h88, rfl⟩ := hq83
                    refine Or.inr (Or.inl ⟨rfl, ?_⟩)
                    refine z_ne (i := 28) (v := 31) rfl ⟨by omega, by omega⟩ (fun h89 => ?_) (fun h90 => ?_)
                    · refine r_load (i := 31) (u := 3) (w := 0) rfl rfl rfl ?_
                      refine r_const (i := 32) (u := 7) (z := 7) rfl rfl ?_
                      refine r_iand (i := 33) rfl ?_
                      have h91 := @yand_c bits 7 (by decide) (by decide)
                      refine r_store (i := 34) (u := 6) (w := 0) (L1 := [some ((2, 43)), some (vi t), some (vi w0), some (vi bits), some (vi al), some (vi back), some (vi (yand bits 7)), none]) rfl rfl rfl rfl ?_
                      refine r_load (i := 35) (u := 6) (w := 0) rfl rfl rfl ?_
                      refine z_eq (i := 36) (v := 48) rfl ⟨by omega, by omega⟩ (fun h92 => ?_) (fun h93 => ?_)
                      · refine r_load (i := 48) (u := 2) (w := 0) rfl rfl rfl ?_
                        refine r_const (i := 49) (u := 10) (z := 10) rfl rfl ?_
                        refine c_ne (i := 50) (v := 63) rfl ⟨by omega, by omega⟩ ⟨by omega, by omega⟩ (fun h94 => ?_) (fun h95 => ?_)
                        · exact lp217_63 hI h_t h_w0 h_bits h_al h_back   hd (yand bits 7) ⟨by omega, by omega⟩ (by omega) (by omega) (by omega) (by omega) (by first | assumption | grind) (by omega) (by omega) (by exact yp24 (by omega)) (by unfold kdC; omega) (by omega) (by omega) 
                        · refine r_load (i := 51) (u := 0) (w := 2) rfl rfl rfl ?_
                          refine r_getf (i := 52) (v := 2) (w := 11) (x := (2, 44)) rfl ly43 rfl rfl fun _ => ?_
                          refine r_load (i := 53) (u := 1) (w := 0) rfl rfl rfl ?_
                          refine a_bool (i := 54) rfl ly44 rfl (by omega) (by omega) fun h97 => ?_
                          refine z_ne (i := 55) (v := 61) rfl ⟨by omega, by omega⟩ (fun h98 => ?_) (fun h99 => ?_)
                          · refine r_const (i := 61) (u := 0) (z := 0) rfl rfl ?_
                            exact r_retZ (i := 62) rfl (by omega) (by omega) ⟨0, rfl, by omega, by omega, (by omega), (by omega), (by omega), (by omega), (by intro hz; first | exact absurd hz (by omega) | assumption | grind), (by omega), (by omega), (by intro hz; exact absurd hz (by omega)), (by intro hz; first | exact absurd hz (by omega) | (intro hc; obtain ⟨c1, c2, c3, c4, c5, c6, c7⟩ := hc; unfold kdC at c5; unfold fmM at c6; first | (exfalso; omega) | exact absurd c4 (np25 (by omega)))), rfl⟩
                          · refine r_load (i := 56) (u := 3) (w := 0) rfl rfl rfl ?_
                            refine r_const (i := 57) (u := 7) (z := 7) rfl rfl ?_
                            refine c_gt (i := 58) (v := 61) rfl ⟨by omega, by omega⟩ ⟨by omega, by omega⟩ (fun h100 => ?_) (fun h101 => ?_)
                            · refine r_const (i := 61) (u := 0) (z := 0) rfl rfl ?_
                              exact r_retZ (i := 62) rfl (by omega) (by omega) ⟨0, rfl, by omega, by omega, (by omega), (by omega), (by omega), (by omega), (by intro hz; first | exact absurd hz (by omega) | assumption | grind), (by omega), (by omega), (by intro hz; exact absurd hz (by omega)), (by intro hz; first | exact absurd hz (by omega) | (intro hc; obtain ⟨c1, c2, c3, c4, c5, c6, c7⟩ := hc; unfold kdC at c5; unfold fmM at c6; first | (exfalso; omega) | exact absurd c4 (np25 (by omega)))), rfl⟩
                            · refine r_load (i := 59) (u := 5) (w := 0) rfl rfl rfl ?_
                              refine z_eq (i := 60) (v := 63) rfl ⟨by omega, by omega⟩ (fun h102 => ?_) (fun h103 => ?_)
                              · exact lp217_63 hI h_t h_w0 h_bits h_al h_back   hd (yand bits 7) ⟨by omega, by omega⟩ (by omega) (by omega) (by omega) (by omega) (by first | assumption | grind) (by omega) (by omega) (by exact yp24 (by omega)) (by unfold kdC; omega) (by omega) (by omega) 
                              · refine r_const (i := 61) (u := 0) (z := 0) rfl rfl ?_
                                exact r_retZ (i := 62) rfl (by omega) (by omega) ⟨0, rfl, by omega, by omega, (by omega), (by omega), (by omega), (by omega), (by intro hz; first | exact absurd hz (by omega) | assumption | grind), (by omega), (by omega), (by intro hz; exact absurd hz (by omega)), (by intro hz; first | exact absurd hz (by omega) | (intro hc; obtain ⟨c1, c2, c3, c4, c5, c6, c7⟩ := hc; unfold kdC at c5; unfold fmM at c6; first | (exfalso; omega) | exact absurd c4 (np25 (by omega)))), rfl⟩
                      · refine r_load (i := 37) (u := 6) (w := 0) rfl rfl rfl ?_
                        refine r_const (i := 38) (u := 1) (z := 1) rfl rfl ?_
                        refine c_eq (i := 39) (v := 48) rfl ⟨by omega, by omega⟩ ⟨by omega, by omega⟩ (fun h104 => ?_) (fun h105 => ?_)
                        · refine r_load (i := 48) (u := 2) (w := 0) rfl rfl rfl ?_
                          refine r_const (i := 49) (u := 10) (z := 10) rfl rfl ?_
                          refine c_ne (i := 50) (v := 63) rfl ⟨by omega, by omega⟩ ⟨by omega, by omega⟩ (fun h106 => ?_) (fun h107 => ?_)
                          · exact lp217_63 hI h_t h_w0 h_bits h_al h_back   hd (yand bits 7) ⟨by omega, by omega⟩ (by omega) (by omega) (by omega) (by omega) (by first | assumption | grind) (by omega) (by omega) (by exact yp24 (by omega)) (by unfold kdC; omega) (by omega) (by omega) 
                          · refine r_load (i := 51) (u := 0) (w := 2) rfl rfl rfl ?_
                            refine r_getf (i := 52) (v := 2) (w := 11) (x := (2, 44)) rfl ly43 rfl rfl fun _ => ?_
                            refine r_load (i := 53) (u := 1) (w := 0) rfl rfl rfl ?_
                            refine a_bool (i := 54) rfl ly44 rfl (by omega) (by omega) fun h109 => ?_
                            refine z_ne (i := 55) (v := 61) rfl ⟨by omega, by omega⟩ (fun h110 => ?_) (fun h111 => ?_)
                            · refine r_const (i := 61) (u := 0) (z := 0) rfl rfl ?_
                              exact r_retZ (i := 62) rfl (by omega) (by omega) ⟨0, rfl, by omega, by omega, (by omega), (by omega), (by omega), (by omega), (by intro hz; first | exact absurd hz (by omega) | assumption | grind), (by omega), (by omega), (by intro hz; exact absurd hz (by omega)), (by intro hz; first | exact absurd hz (by omega) | (intro hc; obtain ⟨c1, c2, c3, c4, c5, c6, c7⟩ := hc; unfold kdC at c5; unfold fmM at c6; first | (exfalso; omega) | exact absurd c4 (np25 (by omega)))), rfl⟩
                            · refine r_load (i := 56) (u := 3) (w := 0) rfl rfl rfl ?_
                              refine r_const (i := 57) (u := 7) (z := 7) rfl rfl ?_
                              refine c_gt (i := 58) (v := 61) rfl ⟨by omega, by omega⟩ ⟨by omega, by omega⟩ (fun h112 => ?_) (fun h113 => ?_)
                              · refine r_const (i := 61) (u := 0) (z := 0) rfl rfl ?_
                                exact r_retZ (i := 62) rfl (by omega) (by omega) ⟨0, rfl, by omega, by omega, (by omega), (by omega), (by omega), (by omega), (by intro hz; first | exact absurd hz (by omega) | assumption | grind), (by omega), (by omega), (by intro hz; exact absurd hz (by omega)), (by intro hz; first | exact absurd hz (by omega) | (intro hc; obtain ⟨c1, c2, c3, c4, c5, c6, c7⟩ := hc; unfold kdC at c5; unfold fmM at c6; first | (exfalso; omega) | exact absurd c4 (np25 (by omega)))), rfl⟩
                              · refine r_load (i := 59) (u := 5) (w := 0) rfl rfl rfl ?_
                                refine z_eq (i := 60) (v := 63) rfl ⟨by omega, by omega⟩ (fun h114 => ?_) (fun h115 => ?_)
                                · exact lp217_63 hI h_t h_w0 h_bits h_al h_back   hd (yand bits 7) ⟨by omega, by omega⟩ (by omega) (by omega) (by omega) (by omega) (by first | assumption | grind) (by omega) (by omega) (by exact yp24 (by omega)) (by unfold kdC; omega) (by omega) (by omega) 
                                · refine r_const (i := 61) (u := 0) (z := 0) rfl rfl ?_
                                  exact r_retZ (i := 62) rfl (by omega) (by omega) ⟨0, rfl, by omega, by omega, (by omega), (by omega), (by omega), (by omega), (by intro hz; first | exact absurd hz (by omega) | assumption | grind), (by omega), (by omega), (by intro hz; exact absurd hz (by omega)), (by intro hz; first | exact absurd hz (by omega) | (intro hc; obtain ⟨c1, c2, c3, c4, c5, c6, c7⟩ := hc; unfold kdC at c5; unfold fmM at c6; first | (exfalso; omega) | exact absurd c4 (np25 (by omega)))), rfl⟩
                        · refine r_load (i := 40) (u := 6) (w := 0) rfl rfl rfl ?_
                          refine r_const (i := 41) (u := 2) (z := 2) rfl rfl ?_
                          refine c_eq (i := 42) (v := 48) rfl ⟨by omega, by omega⟩ ⟨by omega, by omega⟩ (fun h116 => ?_) (fun h117 => ?_)
                          · refine r_load (i := 48) (u := 2) (w := 0) rfl rfl rfl ?_
                            refine r_const (i := 49) (u := 10) (z := 10) rfl rfl ?_
                            refine c_ne (i := 50) (v := 63) rfl ⟨by omega, by omega⟩ ⟨by omega, by omega⟩ (fun h118 => ?_) (fun h119 => ?_)
                            · exact lp217_63 hI h_t h_w0 h_bits h_al h_back   hd (yand bits 7) ⟨by omega, by omega⟩ (by omega) (by omega) (by omega) (by omega) (by first | assumption | grind) (by omega) (by omega) (by exact yp24 (by omega)) (by unfold kdC; omega) (by omega) (by omega) 
                            · refine r_load (i := 51) (u := 0) (w := 2) rfl rfl rfl ?_
                              refine r_getf (i := 52) (v := 2) (w := 11) (x := (2, 44)) rfl ly43 rfl rfl fun _ => ?_
                              refine r_load (i := 53) (u := 1) (w := 0) rfl rfl rfl ?_
                              refine a_bool (i := 54) rfl ly44 rfl (by omega) (by omega) fun h121 => ?_
                              refine z_ne (i := 55) (v := 61) rfl ⟨by omega, by omega⟩ (fun h122 => ?_) (fun h123 => ?_)
                              · refine r_const (i := 61) (u := 0) (z := 0) rfl rfl ?_
                                exact r_retZ (i := 62) rfl (by omega) (by omega) ⟨0, rfl, by omega, by omega, (by omega), (by omega), (by omega), (by omega), (by intro hz; first | exact absurd hz (by omega) | assumption | grind), (by omega), (by omega), (by intro hz; exact absurd hz (by omega)), (by intro hz; first | exact absurd hz (by omega) | (intro hc; obtain ⟨c1, c2, c3, c4, c5, c6, c7⟩ := hc; unfold kdC at c5; unfold fmM at c6; first | (exfalso; omega) | exact absurd c4 (np25 (by omega)))), rfl⟩
                              · refine r_load (i := 56) (u := 3) (w := 0) rfl rfl rfl ?_
                                refine r_const (i := 57) (u := 7) (z := 7) rfl rfl ?_
                                refine c_gt (i := 58) (v := 61) rfl ⟨by omega, by omega⟩ ⟨by omega, by omega⟩ (fun h124 => ?_) (fun h125 => ?_)
                                · refine r_const (i := 61) (u := 0) (z := 0) rfl rfl ?_
                                  exact r_retZ (i := 62) rfl (by omega) (by omega) ⟨0, rfl, by omega, by omega, (by omega), (by omega), (by omega), (by omega), (by intro hz; first | exact absurd hz (by omega) | assumption | grind), (by omega), (by omega), (by intro hz; exact absurd hz (by omega)), (by intro hz; first | exact absurd hz (by omega) | (intro hc; obtain ⟨c1, c2, c3, c4, c5, c6, c7⟩ := hc; unfold kdC at c5; unfold fmM at c6; first | (exfalso; omega) | exact absurd c4 (np25 (by omega)))), rfl⟩
                                · refine r_load (i := 59) (u := 5) (w := 0) rfl rfl rfl ?_
                                  refine z_eq (i := 60) (v := 63) rfl ⟨by omega, by omega⟩ (fun h126 => ?_) (fun h127 => ?_)
                                  · exact lp217_63 hI h_t h_w0 h_bits h_al h_back   hd (yand bits 7) ⟨by omega, by omega⟩ (by omega) (by omega) (by omega) (by omega) (by first | assumption | grind) (by omega) (by omega) (by exact yp24 (by omega)) (by unfold kdC; omega) (by omega) (by omega) 
                                  · refine r_const (i := 61) (u := 0) (z := 0) rfl rfl ?_
                                    exact r_retZ (i := 62) rfl (by omega) (by omega) ⟨0, rfl, by omega, by omega, (by omega), (by omega), (by omega), (by omega), (by intro hz; first | exact absurd hz (by omega) | assumption | grind), (by omega), (by omega), (by intro hz; exact absurd hz (by omega)), (by intro hz; first | exact absurd hz (by omega) | (intro hc; obtain ⟨c1, c2, c3, c4, c5, c6, c7⟩ := hc; unfold kdC at c5; unfold fmM at c6; first | (exfalso; omega) | exact absurd c4 (np25 (by omega)))), rfl⟩
                          · refine r_load (i := 43) (u := 6) (w := 0) rfl rfl rfl ?_
                            refine r_const (i := 44) (u := 4) (z := 4) rfl rfl ?_
                            refine c_eq (i := 45) (v := 48) rfl ⟨by omega, by omega⟩ ⟨by omega, by omega⟩ (fun h128 => ?_) (fun h129 => ?_)
                            · refine r_load (i := 48) (u := 2) (w := 0) rfl rfl rfl ?_
                              refine r_const (i := 49) (u := 10) (z := 10) rfl rfl ?_
                              refine c_ne (i := 50) (v := 63) rfl ⟨by omega, by omega⟩ ⟨by omega, by omega⟩ (fun h130 => ?_) (fun h131 => ?_)
                              · exact lp217_63 hI h_t h_w0 h_bits h_al h_back   hd (yand bits 7) ⟨by omega, by omega⟩ (by omega) (by omega) (by omega) (by omega) (by first | assumption | grind) (by omega) (by omega) (by exact yp24 (by omega)) (by unfold kdC; omega) (by omega) (by omega) 
                              · refine r_load (i := 51) (u := 0) (w := 2) rfl rfl rfl ?_
                                refine r_getf (i := 52) (v := 2) (w := 11) (x := (2, 44)) rfl ly43 rfl rfl fun _ => ?_
                                refine r_load (i := 53) (u := 1) (w := 0) rfl rfl rfl ?_
                                refine a_bool (i := 54) rfl ly44 rfl (by omega) (by omega) fun h133 => ?_
                                refine z_ne (i := 55) (v := 61) rfl ⟨by omega, by omega⟩ (fun h134 => ?_) (fun h135 => ?_)
                                · refine r_const (i := 61) (u := 0) (z := 0) rfl rfl ?_
                                  exact r_retZ (i := 62) rfl (by omega) (by omega) ⟨0, rfl, by omega, by omega, (by omega), (by omega), (by omega), (by omega), (by intro hz; first | exact absurd hz (by omega) | assumption | grind), (by omega), (by omega), (by intro hz; exact absurd hz (by omega)), (by intro hz; first | exact absurd hz (by omega) | (intro hc; obtain ⟨c1, c2, c3, c4, c5, c6, c7⟩ := hc; unfold kdC at c5; unfold fmM at c6; first | (exfalso; omega) | exact absurd c4 (np25 (by omega)))), rfl⟩
                                · refine r_load (i := 56) (u := 3) (w := 0) rfl rfl rfl ?_
                                  refine r_const (i := 57) (u := 7) (z := 7) rfl rfl ?_
                                  refine c_gt (i := 58) (v := 61) rfl ⟨by omega, by omega⟩ ⟨by omega, by omega⟩ (fun h136 => ?_) (fun h137 => ?_)
                                  · refine r_const (i := 61) (u := 0) (z := 0) rfl rfl ?_
                                    exact r_retZ (i := 62) rfl (by omega) (by omega) ⟨0, rfl, by omega, by omega, (by omega), (by omega), (by omega), (by omega), (by intro hz; first | exact absurd hz (by omega) | assumption | grind), (by omega), (by omega), (by intro hz; exact absurd hz (by omega)), (by intro hz; first | exact absurd hz (by omega) | (intro hc; obtain ⟨c1, c2, c3, c4, c5, c6, c7⟩ := hc; unfold kdC at c5; unfold fmM at c6; first | (exfalso; omega) | exact absurd c4 (np25 (by omega)))), rfl⟩
                                  · refine r_load (i := 59) (u := 5) (w := 0) rfl rfl rfl ?_
                                    refine z_eq (i := 60) (v := 63) rfl ⟨by omega, by omega⟩ (fun h138 => ?_) (fun h139 => ?_)
                                    · exact lp217_63 hI h_t h_w0 h_bits h_al h_back   hd (yand bits 7) ⟨by omega, by omega⟩ (by omega) (by omega) (by omega) (by omega) (by first | assumption | grind) (by omega) (by omega) (by exact yp24 (by omega)) (by unfold kdC; omega) (by omega) (by omega) 
                                    · refine r_const (i := 61) (u := 0) (z := 0) rfl rfl ?_
                                      exact r_retZ (i := 62) rfl (by omega) (by omega) ⟨0, rfl, by omega, by omega, (by omega), (by omega), (by omega), (by omega), (by intro hz; first | exact absurd hz (by omega) | assumption | grind), (by omega), (by omega), (by intro hz; exact absurd hz (by omega)), (by intro hz; first | exact absurd hz (by omega) | (intro hc; obtain ⟨c1, c2, c3, c4, c5, c6, c7⟩ := hc; unfold kdC at c5; unfold fmM at c6; first | (exfalso; omega) | exact absurd c4 (np25 (by omega)))), rfl⟩
                            · refine r_const (i := 46) (u := 0) (z := 0) rfl rfl ?_
                              exact r_retZ (i := 47) rfl (by omega) (by omega) ⟨0, rfl, by omega, by omega, (by omega), (by omega), (by omega), (by omega), (by intro hz; first | exact absurd hz (by omega) | assumption | grind), (by omega), (by omega), (by intro hz; exact absurd hz (by omega)), (by intro hz; first | exact absurd hz (by omega) | (intro hc; obtain ⟨c1, c2, c3, c4, c5, c6, c7⟩ := hc; unfold kdC at c5; unfold fmM at c6; first | (exfalso; omega) | exact absurd c4 (np25 (by omega)))), rfl⟩
                    · refine r_const (i := 29) (u := 0) (z := 0) rfl rfl ?_
                      exact r_retZ (i := 30) rfl (by omega) (by omega) ⟨0, rfl, by omega, by omega, (by omega), (by omega), (by omega), (by omega), (by intro hz; first | exact absurd hz (by omega) | assumption | grind), (by omega), (by omega), (by intro hz; exact absurd hz (by omega)), (by intro hz; first | exact absurd hz (by omega) | (intro hc; obtain ⟨c1, c2, c3, c4, c5, c6, c7⟩ := hc; unfold kdC at c5; unfold fmM at c6; first | (exfalso; omega) | exact absurd c4 (np25 (by omega)))), rfl⟩
/-- ProxyForgeModel.method -/
theorem sp220 {G : xk} {S : yS} {d : Nat} (hI : yI S) {t : Int} (h_t : -2147483648 ≤ t ∧ t ≤ 2147483647) {w0 : Int} (h_w0 : -2147483648 ≤ w0 ∧ w0 ≤ 2147483647) {bits : Int} (h_bits : -2147483648 ≤ bits ∧ bits ≤ 2147483647) {al : Int} (h_al : -2147483648 ≤ al ∧ al ≤ 2147483647) {back : Int} (h_back : -2147483648 ≤ back ∧ back ≤ 2147483647) (e_CR : CR S) (hd : 4 ≤ d) : yT xPr G LY xC220 0 [some ((2, 43)), some (vi t), some (vi w0), some (vi bits), some (vi al), some (vi back)] [] S d (fun r S' => ∃ z : Int, r = (1, vi z) ∧ 0 ≤ z ∧ z ≤ 60 ∧ mMeQ S S' t w0 bits al back z ∧ CR S' ∧ yI S' ∧ yFr [(43, 0), (43, 10)] [52, 53, 54, 55, 56] S S' ∧ yRm [] S S') := by
  refine yT_pad 0 ?_
  show yT xPr G LY xC220 0 [some ((2, 43)), some (vi t), some (vi w0), some (vi bits), some (vi al), some (vi back)] [] S d _
  obtain ⟨d, rfl⟩ : ∃ q, d = q + 1 := ⟨d - 1, by omega⟩
  have hF : yFr [(43, 0), (43, 10)] [52, 53, 54, 55, 56] S S := yFr.refl S
  have hR : yRm [] S S := yRm.refl S
  refine r_load (i := 0) (u := 0) (w := 2) rfl rfl rfl ?_
  refine r_load (i := 1) (u := 0) (w := 2) rfl rfl rfl ?_
  refine r_load (i := 2) (u := 1) (w := 0) rfl rfl rfl ?_
  refine r_load (i := 3) (u := 2) (w := 0) rfl rfl rfl ?_
  refine r_load (i := 4) (u := 3) (w := 0) rfl rfl rfl ?_
  refine r_load (i := 5) (u := 4) (w := 0) rfl rfl rfl ?_
  refine r_load (i := 6) (u := 5) (w := 0) rfl rfl rfl ?_
  have h1 := hI.f tf43_1
  refine r_call (i := 7) (u := 11) (v := 217) (w := 0) (b := 0) (na := 2054) (C2 := xC217) (as := [(2, 43), vi t, vi w0, vi bits, vi al, vi back]) (s := [(2, 43)]) rfl rfl rfl rfl rfl rfl rfl (sp217 (t := t) (w0 := w0) (bits := bits) (al := al) (back := back) hI ⟨by omega, by omega⟩ ⟨by omega, by omega⟩ ⟨by omega, by omega⟩ ⟨by omega, by omega⟩ ⟨by omega, by omega⟩   (by omega)) (fun r2 S3 hq4 => ?_)
  obtain ⟨z5, rfl, h6, h7, h8, h9, h10, h11, h12, h13, h14, yb15, nb16, rfl⟩ := hq4
  refine Or.inr (Or.inl ⟨rfl, ?_⟩)
  refine z_ne (i := 8) (v := 11) rfl ⟨by omega, by omega⟩ (fun h17 => ?_) (fun h18 => ?_)
  · refine r_load (i := 11) (u := 0) (w := 2) rfl rfl rfl ?_
    have h19 := hI.f tf43_10
    refine r_getf (i := 12) (v := 10) (w := 11) (x := vi (S.f 43 10)) rfl ly43 rfl rfl fun h20 => ?_
    have h20 : Rg (S.f 43 10) := h20
    refine r_const (i := 13) (u := 60) (z := 60) rfl rfl ?_
    refine c_ne (i := 14) (v := 17) rfl ⟨by omega, by omega⟩ ⟨by omega, by omega⟩ (fun h21 => ?_) (fun h22 => ?_)
    · refine r_const (i := 17) (u := 0) (z := 0) rfl rfl ?_
      refine r_putI (i := 18) (v := 0) (w := 11) rfl ly43 rfl ⟨by omega, by omega⟩ ?_
      have hI24 := hI.setf (b := 43) (w := 0) (z := 0) tf43_0 rfl (by omega) (by omega)
      have hF26 := hF.setf (b := 43) (w := 0) (z := 0) rfl
      have hR27 := hR.setf (b := 43) (w := 0) (z := 0)
      have e28 := CRx.setf e_CR (b := 43) (w := 0) (z := 0) rfl
      refine yT_gen (fun S23 hS25 => ?_)
      rw [hS25] at hI24 hF26 hR27 e28
      refine r_load (i := 19) (u := 0) (w := 2) rfl rfl rfl ?_
      have h29 := hI24.f tf43_0
      have h30 : S23.f 43 0 = 0 := by rw [← hS25]; exact ysf_eq
      refine r_getf (i := 20) (v := 0) (w := 11) (x := vi (S23.f 43 0)) rfl ly43 rfl rfl fun h31 => ?_
      have h31 : Rg (S23.f 43 0) := h31
      refine z_le (i := 21) (v := 24) rfl ⟨by omega, by omega⟩ (fun h32 => ?_) (fun h33 => ?_)
      · refine r_load (i := 24) (u := 0) (w := 2) rfl rfl rfl ?_
        refine r_getf (i := 25) (v := 11) (w := 11) (x := (2, 52)) rfl ly43 rfl rfl fun _ => ?_
        refine r_load (i := 26) (u := 0) (w := 2) rfl rfl rfl ?_
        have h35 := hI24.f tf43_10
        have h36 : S23.f 43 10 = S.f 43 10 := by rw [← hS25]; exact ysf_ne (by decide)
        refine r_getf (i := 27) (v := 10) (w := 11) (x := vi (S23.f 43 10)) rfl ly43 rfl rfl fun h37 => ?_
        have h37 : Rg (S23.f 43 10) := h37
        refine r_load (i := 28) (u := 1) (w := 0) rfl rfl rfl ?_
        refine s_int (i := 29) rfl ly52 rfl (by omega) (by omega) ⟨by omega, by omega⟩ ?_
        have hI39 := hI24.seta (b := 52) (j := (S23.f 43 10).toNat) (z := t) ta52 rfl (by omega) (by omega)
        have hF41 := hF26.seta (b := 52) (j := (S23.f 43 10).toNat) (z := t) rfl
        have hR42 := hR27.seta (b := 52) (j := (S23.f 43 10).toNat) (z := t)
        have e43 := CRx.seta e28 (b := 52) (j := (S23.f 43 10).toNat) (z := t) rfl
        refine yT_gen (fun S38 hS40 => ?_)
        rw [hS40] at hI39 hF41 hR42 e43
        refine r_load (i := 30) (u := 0) (w := 2) rfl rfl rfl ?_
        refine r_getf (i := 31) (v := 12) (w := 11) (x := (2, 53)) rfl ly43 rfl rfl fun _ => ?_
        refine r_load (i := 32) (u := 0) (w := 2) rfl rfl rfl ?_
        have h45 := hI39.f tf43_10
        have h46 : S38.f 43 10 = S23.f 43 10 := by rw [← hS40]; rfl
        have h47 : S23.f 43 10 = S.f 43 10 := by rw [← hS25]; exact ysf_ne (by decide)
        refine r_getf (i := 33) (v := 10) (w := 11) (x := vi (S38.f 43 10)) rfl ly43 rfl rfl fun h48 => ?_
        have h48 : Rg (S38.f 43 10) := h48
        refine r_load (i := 34) (u := 2) (w := 0) rfl rfl rfl ?_
        refine s_int (i := 35) rfl ly53 rfl (by omega) (by omega) ⟨by omega, by omega⟩ ?_
        have hI50 := hI39.seta (b := 53) (j := (S38.f 43 10).toNat) (z := w0) ta53 rfl (by omega) (by omega)
        have hF52 := hF41.seta (b := 53) (j := (S38.f 43 10).toNat) (z := w0) rfl
        have hR53 := hR42.seta (b := 53) (j := (S38.f 43 10).toNat) (z := w0)
        refine yT_gen (fun S49 hS51 => ?_)
        rw [hS51] at hI50 hF52 hR53 
        refine r_load (i := 36) (u := 0) (w := 2) rfl rfl rfl ?_
        refine r_getf (i := 37) (v := 13) (w := 11) (x := (2, 54)) rfl ly43 rfl rfl fun _ => ?_
        refine r_load (i := 38) (u := 0) (w := 2) rfl rfl rfl ?_
        have h55 := hI50.f tf43_10
        have h56 : S49.f 43 10 = S38.f 43 10 := by rw [← hS51]; rfl
        have h57 : S38.f 43 10 = S23.f 43 10 := by rw [← hS40]; rfl
        have h58 : S23.f 43 10 = S.f 43 10 := by rw [← hS25]; exact ysf_ne (by decide)
        refine r_getf (i := 39) (v := 10) (w := 11) (x := vi (S49.f 43 10)) rfl ly43 rfl rfl fun h59 => ?_
        have h59 : Rg (S49.f 43 10) := h59
        refine r_load (i := 40) (u := 3) (w := 0) rfl rfl rfl ?_
        refine s_int (i := 41) rfl ly54 rfl (by omega) (by omega) ⟨by omega, by omega⟩ ?_
        have hI61 := hI50.seta (b := 54) (j := (S49.f 43 10).toNat) (z := bits) ta54 rfl (by omega) (by omega)
        have hF63 := hF52.seta (b := 54) (j := (S49.f 43 10).toNat) (z := bits) rfl
        have hR64 := hR53.seta (b := 54) (j := (S49.f 43 10).toNat) (z := bits)
        refine yT_gen (fun S60 hS62 => ?_)
        rw [hS62] at hI61 hF63 hR64 
        refine r_load (i := 42) (u := 0) (w := 2) rfl rfl rfl ?_
        refine r_getf (i := 43) (v := 14) (w := 11) (x := (2, 55)) rfl ly43 rfl rfl fun _ => ?_
        refine r_load (i := 44) (u := 0) (w := 2) rfl rfl rfl ?_
        have h66 := hI61.f tf43_10
        have h67 : S60.f 43 10 = S49.f 43 10 := by rw [← hS62]; rfl
        have h68 : S49.f 43 10 = S38.f 43 10 := by rw [← hS51]; rfl
        have h69 : S38.f 43 10 = S23.f 43 10 := by rw [← hS40]; rfl
        have h70 : S23.f 43 10 = S.f 43 10 := by rw [← hS25]; exact ysf_ne (by decide)
        refine r_getf (i := 45) (v := 10) (w := 11) (x := vi (S60.f 43 10)) rfl ly43 rfl rfl fun h71 => ?_
        have h71 : Rg (S60.f 43 10) := h71
        refine r_load (i := 46) (u := 4) (w := 0) rfl rfl rfl ?_
        refine s_int (i := 47) rfl ly55 rfl (by omega) (by omega) ⟨by omega, by omega⟩ ?_
        have hI73 := hI61.seta55 (j := (S60.f 43 10).toNat) (z := al) (by omega) (by omega) (by first | assumption | grind)
        have hF75 := hF63.seta (b := 55) (j := (S60.f 43 10).toNat) (z := al) rfl
        have hR76 := hR64.seta (b := 55) (j := (S60.f 43 10).toNat) (z := al)
        refine yT_gen (fun S72 hS74 => ?_)
        rw [hS74] at hI73 hF75 hR76 
        refine r_load (i := 48) (u := 0) (w := 2) rfl rfl rfl ?_
        refine r_getf (i := 49) (v := 15) (w := 11) (x := (2, 56)) rfl ly43 rfl rfl fun _ => ?_
        refine r_load (i := 50) (u := 0) (w := 2) rfl rfl rfl ?_
        have h78 := hI73.f tf43_10
        have h79 : S72.f 43 10 = S60.f 43 10 := by rw [← hS74]; rfl
        have h80 : S60.f 43 10 = S49.f 43 10 := by rw [← hS62]; rfl
        have h81 : S49.f 43 10 = S38.f 43 10 := by rw [← hS51]; rfl
        have h82 : S38.f 43 10 = S23.f 43 10 := by rw [← hS40]; rfl
        have h83 : S23.f 43 10 = S.f 43 10 := by rw [← hS25]; exact ysf_ne (by decide)
        refine r_getf (i := 51) (v := 10) (w := 11) (x := vi (S72.f 43 10)) rfl ly43 rfl rfl fun h84 => ?_
        have h84 : Rg (S72.f 43 10) := h84
        refine r_load (i := 52) (u := 5) (w := 0) rfl rfl rfl ?_
        refine s_int (i := 53) rfl ly56 rfl (by omega) (by omega) ⟨by omega, by omega⟩ ?_
        have hI86 := hI73.seta (b := 56) (j := (S72.f 43 10).toNat) (z := back) ta56 rfl (by omega) (by omega)
        have hF88 := hF75.seta (b := 56) (j := (S72.f 43 10).toNat) (z := back) rfl
        have hR89 := hR76.seta (b := 56) (j := (S72.f 43 10).toNat) (z := back)
        refine yT_gen (fun S85 hS87 => ?_)
        rw [hS87] at hI86 hF88 hR89 
        refine r_load (i := 54) (u := 0) (w := 2) rfl rfl rfl ?_
        refine r_dup (i := 55) rfl rfl ?_
        have h90 := hI86.f tf43_10
        have h91 : S85.f 43 10 = S72.f 43 10 := by rw [← hS87]; rfl
        have h92 : S72.f 43 10 = S60.f 43 10 := by rw [← hS74]; rfl
        have h93 : S60.f 43 10 = S49.f 43 10 := by rw [← hS62]; rfl
        have h94 : S49.f 43 10 = S38.f 43 10 := by rw [← hS51]; rfl
        have h95 : S38.f 43 10 = S23.f 43 10 := by rw [← hS40]; rfl
        have h96 : S23.f 43 10 = S.f 43 10 := by rw [← hS25]; exact ysf_ne (by decide)
        refine r_getf (i := 56) (v := 10) (w := 11) (x := vi (S85.f 43 10)) rfl ly43 rfl rfl fun h97 => ?_
        have h97 : Rg (S85.f 43 10) := h97
        refine r_const (i := 57) (u := 1) (z := 1) rfl rfl ?_
        refine r_iadd (i := 58) rfl ?_
        refine r_putI (i := 59) (v := 10) (w := 11) rfl ly43 rfl ⟨by omega, by omega⟩ ?_
        have hI99 := hI86.setf (b := 43) (w := 10) (z := (S85.f 43 10) + 1) tf43_10 rfl (by omega) (by omega)
        have hF101 := hF88.setf (b := 43) (w := 10) (z := (S85.f 43 10) + 1) rfl
        have hR102 := hR89.setf (b := 43) (w := 10) (z := (S85.f 43 10) + 1)
        refine yT_gen (fun S98 hS100 => ?_)
        rw [hS100] at hI99 hF101 hR102 
        refine r_load (i := 60) (u := 0) (w := 2) rfl rfl rfl ?_
        have h103 := hI99.f tf43_10
        have h104 : S98.f 43 10 = (S85.f 43 10) + 1 := by rw [← hS100]; exact ysf_eq
        refine r_getf (i := 61) (v := 10) (w := 11) (x := vi (S98.f 43 10)) rfl ly43 rfl rfl fun h105 => ?_
        have h105 : Rg (S98.f 43 10) := h105
        refine r_const (i := 62) (u := 1) (z := 1) rfl rfl ?_
        refine r_isub (i := 63) rfl ?_
        have h106 := hI99.f tf43_0
        have h107 : S98.f 43 0 = S85.f 43 0 := by rw [← hS100]; exact ysf_ne (by decide)
        have h108 : S85.f 43 0 = S72.f 43 0 := by rw [← hS87]; rfl
        have h109 : S72.f 43 0 = S60.f 43 0 := by rw [← hS74]; rfl
        have h110 : S60.f 43 0 = S49.f 43 0 := by rw [← hS62]; rfl
        have h111 : S49.f 43 0 = S38.f 43 0 := by rw [← hS51]; rfl
        have h112 : S38.f 43 0 = S23.f 43 0 := by rw [← hS40]; rfl
        have h113 : S23.f 43 0 = 0 := by rw [← hS25]; exact ysf_eq
        exact r_retI (i := 64) rfl ⟨(S98.f 43 10) - 1, rfl, by omega, by omega, (by first | (exfalso; omega) | exact Or.inl ⟨by omega, yb15 (by omega), by omega, by omega, ⟨by omega, fun j => by subst hS25 hS40 hS51 hS62 hS74 hS87 hS100; rfl, fun j => by subst hS25 hS40 hS51 hS62 hS74 hS87 hS100; rfl, fun j => by subst hS25 hS40 hS51 hS62 hS74 hS87 hS100; rfl, fun j => by subst hS25 hS40 hS51 hS62 hS74 hS87 hS100; rfl, fun j => by subst hS25 hS40 hS51 hS62 hS74 hS87 hS100; rfl⟩⟩), (by exact CR_push (w := w0) (b := back) e_CR (by omega) (fun j => by subst_vars; rfl) (fun j => by subst_vars; rfl)), hI99, hF101, hR102⟩
      · refine r_const (i := 22) (u := 0) (z := 0) rfl rfl ?_
        have h114 := hI24.f tf43_10
        have h115 : S23.f 43 10 = S.f 43 10 := by rw [← hS25]; exact ysf_ne (by decide)
        exact r_retI (i := 23) rfl ⟨0, rfl, by omega, by omega, (by first | (exfalso; omega) | exact Or.inr (Or.inl ⟨by omega, nb16 (by omega), ⟨by subst hS25; rfl, fun j => by subst hS25; exact ⟨rfl, rfl, rfl, rfl, rfl⟩⟩⟩) | exact Or.inr (Or.inr ⟨by omega, yb15 (by omega), by omega, ⟨by subst hS25; rfl, fun j => by subst hS25; exact ⟨rfl, rfl, rfl, rfl, rfl⟩⟩⟩)), e28, hI24, hF26, hR27⟩
    · refine r_const (i := 15) (u := 2) (z := 2) rfl rfl ?_
      refine r_goto (i := 16) (v := 18) rfl ?_
      refine r_putI (i := 18) (v := 0) (w := 11) rfl ly43 rfl ⟨by omega, by omega⟩ ?_
      have hI117 := hI.setf (b := 43) (w := 0) (z := 2) tf43_0 rfl (by omega) (by omega)
      have hF119 := hF.setf (b := 43) (w := 0) (z := 2) rfl
      have hR120 := hR.setf (b := 43) (w := 0) (z := 2)
      have e121 := CRx.setf e_CR (b := 43) (w := 0) (z := 2) rfl
      refine yT_gen (fun S116 hS118 => ?_)
      rw [hS118] at hI117 hF119 hR120 e121
      refine r_load (i := 19) (u := 0) (w := 2) rfl rfl rfl ?_
      have h122 := hI117.f tf43_0
      have h123 : S116.f 43 0 = 2 := by rw [← hS118]; exact ysf_eq
      refine r_getf (i := 20) (v := 0) (w := 11) (x := vi (S116.f 43 0)) rfl ly43 rfl rfl fun h124 => ?_
      have h124 : Rg (S116.f 43 0) := h124
      refine z_le (i := 21) (v := 24) rfl ⟨by omega, by omega⟩ (fun h125 => ?_) (fun h126 => ?_)
      · refine r_load (i := 24) (u := 0) (w := 2) rfl rfl rfl ?_
        refine r_getf (i := 25) (v := 11) (w := 11) (x := (2, 52)) rfl ly43 rfl rfl fun _ => ?_
        refine r_load (i := 26) (u := 0) (w := 2) rfl rfl rfl ?_
        have h128 := hI117.f tf43_10
        have h129 : S116.f 43 10 = S.f 43 10 := by rw [← hS118]; exact ysf_ne (by decide)
        refine r_getf (i := 27) (v := 10) (w := 11) (x := vi (S116.f 43 10)) rfl ly43 rfl rfl fun h130 => ?_
        have h130 : Rg (S116.f 43 10) := h130
        refine r_load (i := 28) (u := 1) (w := 0) rfl rfl rfl ?_
        refine s_int (i := 29) rfl ly52 rfl (by omega) (by omega) ⟨by omega, by omega⟩ ?_
        have hI132 := hI117.seta (b := 52) (j := (S116.f 43 10).toNat) (z := t) ta52 rfl (by omega) (by omega)
        have hF134 := hF119.seta (b := 52) (j := (S116.f 43 10).toNat) (z := t) rfl
        have hR135 := hR120.seta (b := 52) (j := (S116.f 43 10).toNat) (z := t)
        have e136 := CRx.seta e121 (b := 52) (j := (S116.f 43 10).toNat) (z := t) rfl
        refine yT_gen (fun S131 hS133 => ?_)
        rw [hS133] at hI132 hF134 hR135 e136
        refine r_load (i := 30) (u := 0) (w := 2) rfl rfl rfl ?_
        refine r_getf (i := 31) (v := 12) (w := 11) (x := (2, 53)) rfl ly43 rfl rfl fun _ => ?_
        refine r_load (i := 32) (u := 0) (w := 2) rfl rfl rfl ?_
        have h138 := hI132.f tf43_10
        have h139 : S131.f 43 10 = S116.f 43 10 := by rw [← hS133]; rfl
        have h140 : S116.f 43 10 = S.f 43 10 := by rw [← hS118]; exact ysf_ne (by decide)
        refine r_getf (i := 33) (v := 10) (w := 11) (x := vi (S131.f 43 10)) rfl ly43 rfl rfl fun h141 => ?_
        have h141 : Rg (S131.f 43 10) := h141
        refine r_load (i := 34) (u := 2) (w := 0) rfl rfl rfl ?_
        refine s_int (i := 35) rfl ly53 rfl (by omega) (by omega) ⟨by omega, by omega⟩ ?_
        have hI143 := hI132.seta (b := 53) (j := (S131.f 43 10).toNat) (z := w0) ta53 rfl (by omega) (by omega)
        have hF145 := hF134.seta (b := 53) (j := (S131.f 43 10).toNat) (z := w0) rfl
        have hR146 := hR135.seta (b := 53) (j := (S131.f 43 10).toNat) (z := w0)
        refine yT_gen (fun S142 hS144 => ?_)
        rw [hS144] at hI143 hF145 hR146 
        refine r_load (i := 36) (u := 0) (w := 2) rfl rfl rfl ?_
        refine r_getf (i := 37) (v := 13) (w := 11) (x := (2, 54)) rfl ly43 rfl rfl fun _ => ?_
        refine r_load (i := 38) (u := 0) (w := 2) rfl rfl rfl ?_
        have h148 := hI143.f tf43_10
        have h149 : S142.f 43 10 = S131.f 43 10 := by rw [← hS144]; rfl
        have h150 : S131.f 43 10 = S116.f 43 10 := by rw [← hS133]; rfl
        have h151 : S116.f 43 10 = S.f 43 10 := by rw [← hS118]; exact ysf_ne (by decide)
        refine r_getf (i := 39) (v := 10) (w := 11) (x := vi (S142.f 43 10)) rfl ly43 rfl rfl fun h152 => ?_
        have h152 : Rg (S142.f 43 10) := h152
        refine r_load (i := 40) (u := 3) (w := 0) rfl rfl rfl ?_
        refine s_int (i := 41) rfl ly54 rfl (by omega) (by omega) ⟨by omega, by omega⟩ ?_
        have hI154 := hI143.seta (b := 54) (j := (S142.f 43 10).toNat) (z := bits) ta54 rfl (by omega) (by omega)
        have hF156 := hF145.seta (b := 54) (j := (S142.f 43 10).toNat) (z := bits) rfl
        have hR157 := hR146.seta (b := 54) (j := (S142.f 43 10).toNat) (z := bits)
        refine yT_gen (fun S153 hS155 => ?_)
        rw [hS155] at hI154 hF156 hR157 
        refine r_load (i := 42) (u := 0) (w := 2) rfl rfl rfl ?_
        refine r_getf (i := 43) (v := 14) (w := 11) (x := (2, 55)) rfl ly43 rfl rfl fun _ => ?_
        refine r_load (i := 44) (u := 0) (w := 2) rfl rfl rfl ?_
        have h159 := hI154.f tf43_10
        have h160 : S153.f 43 10 = S142.f 43 10 := by rw [← hS155]; rfl
        have h161 : S142.f 43 10 = S131.f 43 10 := by rw [← hS144]; rfl
        have h162 : S131.f 43 10 = S116.f 43 10 := by rw [← hS133]; rfl
        have h163 : S116.f 43 10 = S.f 43 10 := by rw [← hS118]; exact ysf_ne (by decide)
        refine r_getf (i := 45) (v := 10) (w := 11) (x := vi (S153.f 43 10)) rfl ly43 rfl rfl fun h164 => ?_
        have h164 : Rg (S153.f 43 10) := h164
        refine r_load (i := 46) (u := 4) (w := 0) rfl rfl rfl ?_
        refine s_int (i := 47) rfl ly55 rfl (by omega) (by omega) ⟨by omega, by omega⟩ ?_
        have hI166 := hI154.seta55 (j := (S153.f 43 10).toNat) (z := al) (by omega) (by omega) (by first | assumption | grind)
        have hF168 := hF156.seta (b := 55) (j := (S153.f 43 10).toNat) (z := al) rfl
        have hR169 := hR157.seta (b := 55) (j := (S153.f 43 10).toNat) (z := al)
        refine yT_gen (fun S165 hS167 => ?_)
        rw [hS167] at hI166 hF168 hR169 
        refine r_load (i := 48) (u := 0) (w := 2) rfl rfl rfl ?_
        refine r_getf (i := 49) (v := 15) (w := 11) (x := (2, 56)) rfl ly43 rfl rfl fun _ => ?_
        refine r_load (i := 50) (u := 0) (w := 2) rfl rfl rfl ?_
        have h171 := hI166.f tf43_10
        have h172 : S165.f 43 10 = S153.f 43 10 := by rw [← hS167]; rfl
        have h173 : S153.f 43 10 = S142.f 43 10 := by rw [← hS155]; rfl
        have h174 : S142.f 43 10 = S131.f 43 10 := by rw [← hS144]; rfl
        have h175 : S131.f 43 10 = S116.f 43 10 := by rw [← hS133]; rfl
        have h176 : S116.f 43 10 = S.f 43 10 := by rw [← hS118]; exact ysf_ne (by decide)
        refine r_getf (i := 51) (v := 10) (w := 11) (x := vi (S165.f 43 10)) rfl ly43 rfl rfl fun h177 => ?_
        have h177 : Rg (S165.f 43 10) := h177
        refine r_load (i := 52) (u := 5) (w := 0) rfl rfl rfl ?_
        refine s_int (i := 53) rfl ly56 rfl (by omega) (by omega) ⟨by omega, by omega⟩ ?_
        have hI179 := hI166.seta (b := 56) (j := (S165.f 43 10).toNat) (z := back) ta56 rfl (by omega) (by omega)
        have hF181 := hF168.seta (b := 56) (j := (S165.f 43 10).toNat) (z := back) rfl
        have hR182 := hR169.seta (b := 56) (j := (S165.f 43 10).toNat) (z := back)
        refine yT_gen (fun S178 hS180 => ?_)
        rw [hS180] at hI179 hF181 hR182 
        refine r_load (i := 54) (u := 0) (w := 2) rfl rfl rfl ?_
        refine r_dup (i := 55) rfl rfl ?_
        have h183 := hI179.f tf43_10
        have h184 : S178.f 43 10 = S165.f 43 10 := by rw [← hS180]; rfl
        have h185 : S165.f 43 10 = S153.f 43 10 := by rw [← hS167]; rfl
        have h186 : S153.f 43 10 = S142.f 43 10 := by rw [← hS155]; rfl
        have h187 : S142.f 43 10 = S131.f 43 10 := by rw [← hS144]; rfl
        have h188 : S131.f 43 10 = S116.f 43 10 := by rw [← hS133]; rfl
        have h189 : S116.f 43 10 = S.f 43 10 := by rw [← hS118]; exact ysf_ne (by decide)
        refine r_getf (i := 56) (v := 10) (w := 11) (x := vi (S178.f 43 10)) rfl ly43 rfl rfl fun h190 => ?_
        have h190 : Rg (S178.f 43 10) := h190
        refine r_const (i := 57) (u := 1) (z := 1) rfl rfl ?_
        refine r_iadd (i := 58) rfl ?_
        refine r_putI (i := 59) (v := 10) (w := 11) rfl ly43 rfl ⟨by omega, by omega⟩ ?_
        have hI192 := hI179.setf (b := 43) (w := 10) (z := (S178.f 43 10) + 1) tf43_10 rfl (by omega) (by omega)
        have hF194 := hF181.setf (b := 43) (w := 10) (z := (S178.f 43 10) + 1) rfl
        have hR195 := hR182.setf (b := 43) (w := 10) (z := (S178.f 43 10) + 1)
        refine yT_gen (fun S191 hS193 => ?_)
        rw [hS193] at hI192 hF194 hR195 
        refine r_load (i := 60) (u := 0) (w := 2) rfl rfl rfl ?_
        have h196 := hI192.f tf43_10
        have h197 : S191.f 43 10 = (S178.f 43 10) + 1 := by rw [← hS193]; exact ysf_eq
        refine r_getf (i := 61) (v := 10) (w := 11) (x := vi (S191.f 43 10)) rfl ly43 rfl rfl fun h198 => ?_
        have h198 : Rg (S191.f 43 10) := h198
        refine r_const (i := 62) (u := 1) (z := 1) rfl rfl ?_
        refine r_isub (i := 63) rfl ?_
        have h199 := hI192.f tf43_0
        have h200 : S191.f 43 0 = S178.f 43 0 := by rw [← hS193]; exact ysf_ne (by decide)
        have h201 : S178.f 43 0 = S165.f 43 0 := by rw [← hS180]; rfl
        have h202 : S165.f 43 0 = S153.f 43 0 := by rw [← hS167]; rfl
        have h203 : S153.f 43 0 = S142.f 43 0 := by rw [← hS155]; rfl
        have h204 : S142.f 43 0 = S131.f 43 0 := by rw [← hS144]; rfl
        have h205 : S131.f 43 0 = S116.f 43 0 := by rw [← hS133]; rfl
        have h206 : S116.f 43 0 = 2 := by rw [← hS118]; exact ysf_eq
        exact r_retI (i := 64) rfl ⟨(S191.f 43 10) - 1, rfl, by omega, by omega, (by first | (exfalso; omega) | exact Or.inl ⟨by omega, yb15 (by omega), by omega, by omega, ⟨by omega, fun j => by subst hS118 hS133 hS144 hS155 hS167 hS180 hS193; rfl, fun j => by subst hS118 hS133 hS144 hS155 hS167 hS180 hS193; rfl, fun j => by subst hS118 hS133 hS144 hS155 hS167 hS180 hS193; rfl, fun j => by subst hS118 hS133 hS144 hS155 hS167 hS180 hS193; rfl, fun j => by subst hS118 hS133 hS144 hS155 hS167 hS180 hS193; rfl⟩⟩), (by exact CR_push (w := w0) (b := back) e_CR (by omega) (fun j => by subst_vars; rfl) (fun j => by subst_vars; rfl)), hI192, hF194, hR195⟩
      · refine r_const (i := 22) (u := 0) (z := 0) rfl rfl ?_
        have h207 := hI117.f tf43_10
        have h208 : S116.f 43 10 = S.f 43 10 := by rw [← hS118]; exact ysf_ne (by decide)
        exact r_retI (i := 23) rfl ⟨0, rfl, by omega, by omega, (by first | (exfalso; omega) | exact Or.inr (Or.inl ⟨by omega, nb16 (by omega), ⟨by subst hS118; rfl, fun j => by subst hS118; exact ⟨rfl, rfl, rfl, rfl, rfl⟩⟩⟩) | exact Or.inr (Or.inr ⟨by omega, yb15 (by omega), by omega, ⟨by subst hS118; rfl, fun j => by subst hS118; exact ⟨rfl, rfl, rfl, rfl, rfl⟩⟩⟩)), e121, hI117, hF119, hR120⟩
  · refine r_const (i := 9) (u := 1) (z := 1) rfl rfl ?_
    refine r_goto (i := 10) (v := 18) rfl ?_
    refine r_putI (i := 18) (v := 0) (w := 11) rfl ly43 rfl ⟨by omega, by omega⟩ ?_
    have hI210 := hI.setf (b := 43) (w := 0) (z := 1) tf43_0 rfl (by omega) (by omega)
    have hF212 := hF.setf (b := 43) (w := 0) (z := 1) rfl
    have hR213 := hR.setf (b := 43) (w := 0) (z := 1)
    have e214 := CRx.setf e_CR (b := 43) (w := 0) (z := 1) rfl
    refine yT_gen (fun S209 hS211 => ?_)
    rw [hS211] at hI210 hF212 hR213 e214
    refine r_load (i := 19) (u := 0) (w := 2) rfl rfl rfl ?_
    have h215 := hI210.f tf43_0
    have h216 : S209.f 43 0 = 1 := by rw [← hS211]; exact ysf_eq
    refine r_getf (i := 20) (v := 0) (w := 11) (x := vi (S209.f 43 0)) rfl ly43 rfl rfl fun h217 => ?_
    have h217 : Rg (S209.f 43 0) := h217
    refine z_le (i := 21) (v := 24) rfl ⟨by omega, by omega⟩ (fun h218 => ?_) (fun h219 => ?_)
    · refine r_load (i := 24) (u := 0) (w := 2) rfl rfl rfl ?_
      refine r_getf (i := 25) (v := 11) (w := 11) (x := (2, 52)) rfl ly43 rfl rfl fun _ => ?_
      refine r_load (i := 26) (u := 0) (w := 2) rfl rfl rfl ?_
      have h221 := hI210.f tf43_10
      have h222 : S209.f 43 10 = S.f 43 10 := by rw [← hS211]; exact ysf_ne (by decide)
      refine r_getf (i := 27) (v := 10) (w := 11) (x := vi (S209.f 43 10)) rfl ly43 rfl rfl fun h223 => ?_
      have h223 : Rg (S209.f 43 10) := h223
      refine r_load (i := 28) (u := 1) (w := 0) rfl rfl rfl ?_
      refine s_int (i := 29) rfl ly52 rfl (by omega) (by omega) ⟨by omega, by omega⟩ ?_
      have hI225 := hI210.seta (b := 52) (j := (S209.f 43 10).toNat) (z := t) ta52 rfl (by omega) (by omega)
      have hF227 := hF212.seta (b := 52) (j := (S209.f 43 10).toNat) (z := t) rfl
      have hR228 := hR213.seta (b := 52) (j := (S209.f 43 10).toNat) (z := t)
      have e229 := CRx.seta e214 (b := 52) (j := (S209.f 43 10).toNat) (z := t) rfl
      refine yT_gen (fun S224 hS226 => ?_)
      rw [hS226] at hI225 hF227 hR228 e229
      refine r_load (i := 30) (u := 0) (w := 2) rfl rfl rfl ?_
      refine r_getf (i := 31) (v := 12) (w := 11) (x := (2, 53)) rfl ly43 rfl rfl fun _ => ?_
      refine r_load (i := 32) (u := 0) (w := 2) rfl rfl rfl ?_
      have h231 := hI225.f tf43_10
      have h232 : S224.f 43 10 = S209.f 43 10 := by rw [← hS226]; rfl
      have h233 : S209.f 43 10 = S.f 43 10 := by rw [← hS211]; exact ysf_ne (by decide)
      refine r_getf (i := 33) (v := 10) (w := 11) (x := vi (S224.f 43 10)) rfl ly43 rfl rfl fun h234 => ?_
      have h234 : Rg (S224.f 43 10) := h234
      refine r_load (i := 34) (u := 2) (w := 0) rfl rfl rfl ?_
      refine s_int (i := 35) rfl ly53 rfl (by omega) (by omega) ⟨by omega, by omega⟩ ?_
      have hI236 := hI225.seta (b := 53) (j := (S224.f 43 10).toNat) (z := w0) ta53 rfl (by omega) (by omega)
      have hF238 := hF227.seta (b := 53) (j := (S224.f 43 10).toNat) (z := w0) rfl
      have hR239 := hR228.seta (b := 53) (j := (S224.f 43 10).toNat) (z := w0)
      refine yT_gen (fun S235 hS237 => ?_)
      rw [hS237] at hI236 hF238 hR239 
      refine r_load (i := 36) (u := 0) (w := 2) rfl rfl rfl ?_
      refine r_getf (i := 37) (v := 13) (w := 11) (x := (2, 54)) rfl ly43 rfl rfl fun _ => ?_
      refine r_load (i := 38) (u := 0) (w := 2) rfl rfl rfl ?_
      have h241 := hI236.f tf43_10
      have h242 : S235.f 43 10 = S224.f 43 10 := by rw [← hS237]; rfl
      have h243 : S224.f 43 10 = S209.f 43 10 := by rw [← hS226]; rfl
      have h244 : S209.f 43 10 = S.f 43 10 := by rw [← hS211]; exact ysf_ne (by decide)
      refine r_getf (i := 39) (v := 10) (w := 11) (x := vi (S235.f 43 10)) rfl ly43 rfl rfl fun h245 => ?_
      have h245 : Rg (S235.f 43 10) := h245
      refine r_load (i := 40) (u := 3) (w := 0) rfl rfl rfl ?_
      refine s_int (i := 41) rfl ly54 rfl (by omega) (by omega) ⟨by omega, by omega⟩ ?_
      have hI247 := hI236.seta (b := 54) (j := (S235.f 43 10).toNat) (z := bits) ta54 rfl (by omega) (by omega)
      have hF249 := hF238.seta (b := 54) (j := (S235.f 43 10).toNat) (z := bits) rfl
      have hR250 := hR239.seta (b := 54) (j := (S235.f 43 10).toNat) (z := bits)
      refine yT_gen (fun S246 hS248 => ?_)
      rw [hS248] at hI247 hF249 hR250 
      refine r_load (i := 42) (u := 0) (w := 2) rfl rfl rfl ?_
      refine r_getf (i := 43) (v := 14) (w := 11) (x := (2, 55)) rfl ly43 rfl rfl fun _ => ?_
      refine r_load (i := 44) (u := 0) (w := 2) rfl rfl rfl ?_
      have h252 := hI247.f tf43_10
      have h253 : S246.f 43 10 = S235.f 43 10 := by rw [← hS248]; rfl
      have h254 : S235.f 43 10 = S224.f 43 10 := by rw [← hS237]; rfl
      have h255 : S224.f 43 10 = S209.f 43 10 := by rw [← hS226]; rfl
      have h256 : S209.f 43 10 = S.f 43 10 := by rw [← hS211]; exact ysf_ne (by decide)
      refine r_getf (i := 45) (v := 10) (w := 11) (x := vi (S246.f 43 10)) rfl ly43 rfl rfl fun h257 => ?_
      have h257 : Rg (S246.f 43 10) := h257
      refine r_load (i := 46) (u := 4) (w := 0) rfl rfl rfl ?_
      refine s_int (i := 47) rfl ly55 rfl (by omega) (by omega) ⟨by omega, by omega⟩ ?_
      have hI259 := hI247.seta55 (j := (S246.f 43 10).toNat) (z := al) (by omega) (by omega) (by first | assumption | grind)
      have hF261 := hF249.seta (b := 55) (j := (S246.f 43 10).toNat) (z := al) rfl
      have hR262 := hR250.seta (b := 55) (j := (S246.f 43 10).toNat) (z := al)
      refine yT_gen (fun S258 hS260 => ?_)
      rw [hS260] at hI259 hF261 hR262 
      refine r_load (i := 48) (u := 0) (w := 2) rfl rfl rfl ?_
      refine r_getf (i := 49) (v := 15) (w := 11) (x := (2, 56)) rfl ly43 rfl rfl fun _ => ?_
      refine r_load (i := 50) (u := 0) (w := 2) rfl rfl rfl ?_
      have h264 := hI259.f tf43_10
      have h265 : S258.f 43 10 = S246.f 43 10 := by rw [← hS260]; rfl
      have h266 : S246.f 43 10 = S235.f 43 10 := by rw [← hS248]; rfl
      have h267 : S235.f 43 10 = S224.f 43 10 := by rw [← hS237]; rfl
      have h268 : S224.f 43 10 = S209.f 43 10 := by rw [← hS226]; rfl
      have h269 : S209.f 43 10 = S.f 43 10 := by rw [← hS211]; exact ysf_ne (by decide)
      refine r_getf (i := 51) (v := 10) (w := 11) (x := vi (S258.f 43 10)) rfl ly43 rfl rfl fun h270 => ?_
      have h270 : Rg (S258.f 43 10) := h270
      refine r_load (i := 52) (u := 5) (w := 0) rfl rfl rfl ?_
      refine s_int (i := 53) rfl ly56 rfl (by omega) (by omega) ⟨by omega, by omega⟩ ?_
      have hI272 := hI259.seta (b := 56) (j := (S258.f 43 10).toNat) (z := back) ta56 rfl (by omega) (by omega)
      have hF274 := hF261.seta (b := 56) (j := (S258.f 43 10).toNat) (z := back) rfl
      have hR275 := hR262.seta (b := 56) (j := (S258.f 43 10).toNat) (z := back)
      refine yT_gen (fun S271 hS273 => ?_)
      rw [hS273] at hI272 hF274 hR275 
      refine r_load (i := 54) (u := 0) (w := 2) rfl rfl rfl ?_
      refine r_dup (i := 55) rfl rfl ?_
      have h276 := hI272.f tf43_10
      have h277 : S271.f 43 10 = S258.f 43 10 := by rw [← hS273]; rfl
      have h278 : S258.f 43 10 = S246.f 43 10 := by rw [← hS260]; rfl
      have h279 : S246.f 43 10 = S235.f 43 10 := by rw [← hS248]; rfl
      have h280 : S235.f 43 10 = S224.f 43 10 := by rw [← hS237]; rfl
      have h281 : S224.f 43 10 = S209.f 43 10 := by rw [← hS226]; rfl
      have h282 : S209.f 43 10 = S.f 43 10 := by rw [← hS211]; exact ysf_ne (by decide)
      refine r_getf (i := 56) (v := 10) (w := 11) (x := vi (S271.f 43 10)) rfl ly43 rfl rfl fun h283 => ?_
      have h283 : Rg (S271.f 43 10) := h283
      refine r_const (i := 57) (u := 1) (z := 1) rfl rfl ?_
      refine r_iadd (i := 58) rfl ?_
      refine r_putI (i := 59) (v := 10) (w := 11) rfl ly43 rfl ⟨by omega, by omega⟩ ?_
      have hI285 := hI272.setf (b := 43) (w := 10) (z := (S271.f 43 10) + 1) tf43_10 rfl (by omega) (by omega)
      have hF287 := hF274.setf (b := 43) (w := 10) (z := (S271.f 43 10) + 1) rfl
      have hR288 := hR275.setf (b := 43) (w := 10) (z := (S271.f 43 10) + 1)
      refine yT_gen (fun S284 hS286 => ?_)
      rw [hS286] at hI285 hF287 hR288 
      refine r_load (i := 60) (u := 0) (w := 2) rfl rfl rfl ?_
      have h289 := hI285.f tf43_10
      have h290 : S284.f 43 10 = (S271.f 43 10) + 1 := by rw [← hS286]; exact ysf_eq
      refine r_getf (i := 61) (v := 10) (w := 11) (x := vi (S284.f 43 10)) rfl ly43 rfl rfl fun h291 => ?_
      have h291 : Rg (S284.f 43 10) := h291
      refine r_const (i := 62) (u := 1) (z := 1) rfl rfl ?_
      refine r_isub (i := 63) rfl ?_
      have h292 := hI285.f tf43_0
      have h293 : S284.f 43 0 = S271.f 43 0 := by rw [← hS286]; exact ysf_ne (by decide)
      have h294 : S271.f 43 0 = S258.f 43 0 := by rw [← hS273]; rfl
      have h295 : S258.f 43 0 = S246.f 43 0 := by rw [← hS260]; rfl
      have h296 : S246.f 43 0 = S235.f 43 0 := by rw [← hS248]; rfl
      have h297 : S235.f 43 0 = S224.f 43 0 := by rw [← hS237]; rfl
      have h298 : S224.f 43 0 = S209.f 43 0 := by rw [← hS226]; rfl
      have h299 : S209.f 43 0 = 1 := by rw [← hS211]; exact ysf_eq
      exact r_retI (i := 64) rfl ⟨(S284.f 43 10) - 1, rfl, by omega, by omega, (by first | (exfalso; omega) | exact Or.inl ⟨by omega, yb15 (by omega), by omega, by omega, ⟨by omega, fun j => by subst hS211 hS226 hS237 hS248 hS260 hS273 hS286; rfl, fun j => by subst hS211 hS226 hS237 hS248 hS260 hS273 hS286; rfl, fun j => by subst hS211 hS226 hS237 hS248 hS260 hS273 hS286; rfl, fun j => by subst hS211 hS226 hS237 hS248 hS260 hS273 hS286; rfl, fun j => by subst hS211 hS226 hS237 hS248 hS260 hS273 hS286; rfl⟩⟩), (by exact CR_push (w := w0) (b := back) e_CR (by omega) (fun j => by subst_vars; rfl) (fun j => by subst_vars; rfl)), hI285, hF287, hR288⟩
    · refine r_const (i := 22) (u := 0) (z := 0) rfl rfl ?_
      have h300 := hI210.f tf43_10
      have h301 : S209.f 43 10 = S.f 43 10 := by rw [← hS211]; exact ysf_ne (by decide)
      exact r_retI (i := 23) rfl ⟨0, rfl, by omega, by omega, (by first | (exfalso; omega) | exact Or.inr (Or.inl ⟨by omega, nb16 (by omega), ⟨by subst hS211; rfl, fun j => by subst hS211; exact ⟨rfl, rfl, rfl, rfl, rfl⟩⟩⟩) | exact Or.inr (Or.inr ⟨by omega, yb15 (by omega), by omega, ⟨by subst hS211; rfl, fun j => by subst hS211; exact ⟨rfl, rfl, rfl, rfl, rfl⟩⟩⟩)), e214, hI210, hF212, hR213⟩
end XNC
