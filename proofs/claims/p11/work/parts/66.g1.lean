set_option linter.unusedVariables false
set_option maxRecDepth 4000
noncomputable section XNC
/-- ProxyForgeModel.parameter -/
theorem sp229 {G : xk} {S : yS} {d : Nat} (hI : yI S) {a : Int} (h_a : 0 ≤ a ∧ a ≤ 1048575) {k : Int} (h_k : 0 ≤ k ∧ k ≤ 3) (hd : 0 ≤ d) : yT xPr G LY xC229 0 [some (vi a), some (vi k)] [] S d (fun r S' => ∃ z : Int, r = (1, vi z) ∧ 0 ≤ z ∧ z ≤ 31 ∧ z = yand (yshr a (5 * k)) 31 ∧ S = S') := by
  refine yT_pad 0 ?_
  show yT xPr G LY xC229 0 [some (vi a), some (vi k)] [] S d _
  refine r_load (i := 0) (u := 0) (w := 0) rfl rfl rfl ?_
  refine r_const (i := 1) (u := 5) (z := 5) rfl rfl ?_
  refine r_load (i := 2) (u := 1) (w := 0) rfl rfl rfl ?_
  refine r_imul (i := 3) rfl ?_
  refine r_ishr (i := 4) rfl (by omega) (by omega) (by omega) (by omega) ?_
  have h1 := @yshr_c a (5 * k) (by omega) (by omega)
  refine r_const (i := 5) (u := 31) (z := 31) rfl rfl ?_
  refine r_iand (i := 6) rfl ?_
  have h2 := @yand_c (yshr a (5 * k)) 31 (by decide) (by decide)
  exact r_retI (i := 7) rfl ⟨yand (yshr a (5 * k)) 31, rfl, by omega, by omega, (by omega), rfl⟩
theorem lp216_2 {G : xk} {d : Nat} {S : yS} (hI : yI S) {a : Int} (h_a : 0 ≤ a ∧ a ≤ 1048575) (hd : 1 ≤ d + 1) : ∀ (n : Nat), ∀ (n0 : Int) (h_n0 : 0 ≤ n0 ∧ n0 ≤ 4) (hn : 4 - n0 < (n : Nat)), yT xPr G LY xC216 2 [some (vi a), some (vi n0)] [] S (d + 1) (fun r S' => ∃ z : Int, r = (1, vi z) ∧ 0 ≤ z ∧ z ≤ 4 ∧ S = S') := by
  intro n
  induction n with
  | zero => intro n0 h_n0 hn; exact absurd hn (by omega)
  | succ n ih =>
    intro n0 h_n0 hn
    refine r_load (i := 2) (u := 1) (w := 0) rfl rfl rfl ?_
    refine r_const (i := 3) (u := 4) (z := 4) rfl rfl ?_
    refine c_ge (i := 4) (v := 11) rfl ⟨by omega, by omega⟩ ⟨by omega, by omega⟩ (fun h1 => ?_) (fun h2 => ?_)
    · refine r_load (i := 11) (u := 1) (w := 0) rfl rfl rfl ?_
      exact r_retI (i := 12) rfl ⟨n0, rfl, by omega, by omega, rfl⟩
    · refine r_load (i := 5) (u := 0) (w := 0) rfl rfl rfl ?_
      refine r_load (i := 6) (u := 1) (w := 0) rfl rfl rfl ?_
      refine r_call (i := 7) (u := 65535) (v := 229) (w := 0) (b := 2) (na := 514) (C2 := xC229) (as := [vi a, vi n0]) (s := []) rfl rfl rfl rfl rfl rfl rfl (sp229 (a := a) (k := n0) hI ⟨by omega, by omega⟩ ⟨by omega, by omega⟩   (by omega)) (fun r3 S4 hq5 => ?_)
      obtain ⟨z6, rfl, h7, h8, h9, rfl⟩ := hq5
      refine Or.inr (Or.inl ⟨rfl, ?_⟩)
      refine z_le (i := 8) (v := 11) rfl ⟨by omega, by omega⟩ (fun h10 => ?_) (fun h11 => ?_)
      · refine r_load (i := 11) (u := 1) (w := 0) rfl rfl rfl ?_
        exact r_retI (i := 12) rfl ⟨n0, rfl, by omega, by omega, rfl⟩
      · refine r_iinc (i := 9) (u := 1) (v := 1) (s := 1) (L1 := [some (vi a), some (vi (n0 + 1))]) rfl rfl rfl rfl rfl ?_
        refine r_goto (i := 10) (v := 2) rfl ?_
        exact ih (n0 + 1) ⟨by omega, by omega⟩  (by omega)
/-- ProxyForgeModel.many -/
theorem sp216 {G : xk} {S : yS} {d : Nat} (hI : yI S) {a : Int} (h_a : 0 ≤ a ∧ a ≤ 1048575) (hd : 1 ≤ d) : yT xPr G LY xC216 0 [some (vi a)] [] S d (fun r S' => ∃ z : Int, r = (1, vi z) ∧ 0 ≤ z ∧ z ≤ 4 ∧ S = S') := by
  refine yT_pad 1 ?_
  show yT xPr G LY xC216 0 [some (vi a), none] [] S d _
  obtain ⟨d, rfl⟩ : ∃ q, d = q + 1 := ⟨d - 1, by omega⟩
  refine r_const (i := 0) (u := 0) (z := 0) rfl rfl ?_
  refine r_store (i := 1) (u := 1) (w := 0) (L1 := [some (vi a), some (vi 0)]) rfl rfl rfl rfl ?_
  exact lp216_2 hI h_a   hd _ 0 ⟨by omega, by omega⟩  (Int.lt_succ_toNat _)
/-- ProxyForgeModel.isType -/
theorem sp213 {G : xk} {S : yS} {d : Nat} (hI : yI S) {t : Int} (h_t : -2147483648 ≤ t ∧ t ≤ 2147483647) (hd : 0 ≤ d) : yT xPr G LY xC213 0 [some ((2, 43)), some (vi t)] [] S d (fun r S' => ∃ z : Int, r = (1, vi z) ∧ 0 ≤ z ∧ z ≤ 1 ∧ (z = 1 → 0 ≤ t ∧ t < S.f 43 1) ∧ (z = 0 → t < 0 ∨ S.f 43 1 ≤ t) ∧ S = S') := by
  refine yT_pad 0 ?_
  show yT xPr G LY xC213 0 [some ((2, 43)), some (vi t)] [] S d _
  refine r_load (i := 0) (u := 1) (w := 0) rfl rfl rfl ?_
  refine z_lt (i := 1) (v := 8) rfl ⟨by omega, by omega⟩ (fun h1 => ?_) (fun h2 => ?_)
  · refine r_const (i := 8) (u := 0) (z := 0) rfl rfl ?_
    have h3 := hI.f tf43_1
    exact r_retZ (i := 9) rfl (by omega) (by omega) ⟨0, rfl, by omega, by omega, (by omega), (by omega), rfl⟩
  · refine r_load (i := 2) (u := 1) (w := 0) rfl rfl rfl ?_
    refine r_load (i := 3) (u := 0) (w := 2) rfl rfl rfl ?_
    have h4 := hI.f tf43_1
    refine r_getf (i := 4) (v := 1) (w := 11) (x := vi (S.f 43 1)) rfl ly43 rfl rfl fun h5 => ?_
    have h5 : Rg (S.f 43 1) := h5
    refine c_ge (i := 5) (v := 8) rfl ⟨by omega, by omega⟩ ⟨by omega, by omega⟩ (fun h6 => ?_) (fun h7 => ?_)
    · refine r_const (i := 8) (u := 0) (z := 0) rfl rfl ?_
      exact r_retZ (i := 9) rfl (by omega) (by omega) ⟨0, rfl, by omega, by omega, (by omega), (by omega), rfl⟩
    · refine r_const (i := 6) (u := 1) (z := 1) rfl rfl ?_
      refine r_goto (i := 7) (v := 9) rfl ?_
      exact r_retZ (i := 9) rfl (by omega) (by omega) ⟨1, rfl, by omega, by omega, (by omega), (by omega), rfl⟩
/-- ProxyForgeModel.isKind -/
theorem sp210 {G : xk} {S : yS} {d : Nat} (hI : yI S) {k : Int} (h_k : -2147483648 ≤ k ∧ k ≤ 2147483647) (hd : 0 ≤ d) : yT xPr G LY xC210 0 [some ((2, 43)), some (vi k)] [] S d (fun r S' => ∃ z : Int, r = (1, vi z) ∧ 0 ≤ z ∧ z ≤ 1 ∧ (z = 1 → 0 < k ∧ k < 4 + S.f 43 1) ∧ S = S') := by
  refine yT_pad 0 ?_
  show yT xPr G LY xC210 0 [some ((2, 43)), some (vi k)] [] S d _
  refine r_load (i := 0) (u := 1) (w := 0) rfl rfl rfl ?_
  refine z_le (i := 1) (v := 10) rfl ⟨by omega, by omega⟩ (fun h1 => ?_) (fun h2 => ?_)
  · refine r_const (i := 10) (u := 0) (z := 0) rfl rfl ?_
    have h3 := hI.f tf43_1
    exact r_retZ (i := 11) rfl (by omega) (by omega) ⟨0, rfl, by omega, by omega, (by omega), rfl⟩
  · refine r_load (i := 2) (u := 1) (w := 0) rfl rfl rfl ?_
    refine r_const (i := 3) (u := 4) (z := 4) rfl rfl ?_
    refine r_load (i := 4) (u := 0) (w := 2) rfl rfl rfl ?_
    have h4 := hI.f tf43_1
    refine r_getf (i := 5) (v := 1) (w := 11) (x := vi (S.f 43 1)) rfl ly43 rfl rfl fun h5 => ?_
    have h5 : Rg (S.f 43 1) := h5
    refine r_iadd (i := 6) rfl ?_
    refine c_ge (i := 7) (v := 10) rfl ⟨by omega, by omega⟩ ⟨by omega, by omega⟩ (fun h6 => ?_) (fun h7 => ?_)
    · refine r_const (i := 10) (u := 0) (z := 0) rfl rfl ?_
      exact r_retZ (i := 11) rfl (by omega) (by omega) ⟨0, rfl, by omega, by omega, (by omega), rfl⟩
    · refine r_const (i := 8) (u := 1) (z := 1) rfl rfl ?_
      refine r_goto (i := 9) (v := 11) rfl ?_
      exact r_retZ (i := 11) rfl (by omega) (by omega) ⟨1, rfl, by omega, by omega, (by omega), rfl⟩
/-- ProxyForgeModel.wide -/
theorem sp263 {G : xk} {S : yS} {d : Nat} (hI : yI S) {k : Int} (h_k : -2147483648 ≤ k ∧ k ≤ 2147483647) (hd : 0 ≤ d) : yT xPr G LY xC263 0 [some (vi k)] [] S d (fun r S' => ∃ z : Int, r = (1, vi z) ∧ 0 ≤ z ∧ z ≤ 2 ∧ S = S') := by
  refine yT_pad 0 ?_
  show yT xPr G LY xC263 0 [some (vi k)] [] S d _
  refine r_load (i := 0) (u := 0) (w := 0) rfl rfl rfl ?_
  refine r_const (i := 1) (u := 2) (z := 2) rfl rfl ?_
  refine c_ne (i := 2) (v := 5) rfl ⟨by omega, by omega⟩ ⟨by omega, by omega⟩ (fun h1 => ?_) (fun h2 => ?_)
  · refine r_load (i := 5) (u := 0) (w := 0) rfl rfl rfl ?_
    refine z_ne (i := 6) (v := 9) rfl ⟨by omega, by omega⟩ (fun h3 => ?_) (fun h4 => ?_)
    · refine r_const (i := 9) (u := 1) (z := 1) rfl rfl ?_
      exact r_retI (i := 10) rfl ⟨1, rfl, by omega, by omega, rfl⟩
    · refine r_const (i := 7) (u := 0) (z := 0) rfl rfl ?_
      refine r_goto (i := 8) (v := 10) rfl ?_
      exact r_retI (i := 10) rfl ⟨0, rfl, by omega, by omega, rfl⟩
  · refine r_const (i := 3) (u := 2) (z := 2) rfl rfl ?_
    refine r_goto (i := 4) (v := 10) rfl ?_
    exact r_retI (i := 10) rfl ⟨2, rfl, by omega, by omega, rfl⟩
theorem lp262_55 {G : xk} {d : Nat} {S0 : yS} {t : Int} (h_t : -2147483648 ≤ t ∧ t ≤ 2147483647) {o : Int} (h_o : 0 ≤ o ∧ o ≤ 19) (hd : 0 ≤ d) {r0 : Int} (h_r0 : 0 ≤ r0 ∧ r0 ≤ 19) {k : Int} (h_k : 0 ≤ k ∧ k ≤ 19) (no : Nat) (K : ∀ (S : yS) (hI : yI S) (hF : yFr [] [68] S0 S) (hR : yRm [] S0 S) (k : Int) (h_k : 0 ≤ k ∧ k ≤ 20) (q_0 : I32 S S0 t r0 k) (hn : 20 - k < (no : Nat)), yT xPr G LY xC262 32 [some ((2, 43)), some (vi t), some (vi o), some ((2, 68)), some (vi r0), some (vi k), none] [] S d (fun r S' => ∃ z : Int, r = (1, vi z) ∧ 0 ≤ z ∧ z ≤ 1 ∧ (FM S0 → 0 ≤ t → t < S0.f 43 1 → o < S0.f 43 1 → (z = 1 ↔ rcM S0 t o)) ∧ yI S' ∧ yFr [] [68] S0 S' ∧ yRm [] S0 S')) (hm : 20 - k < ((no + 1 : Nat) : Int)) : ∀ (n : Nat), ∀ (S : yS) (hI : yI S) (hF : yFr [] [68] S0 S) (hR : yRm [] S0 S) (j : Int) (h_j : 0 ≤ j ∧ j ≤ 4) (q_0 : I55 S S0 t r0 k j) (q_1 : k < S.f 43 1) (hn : 4 - j < (n : Nat)), yT xPr G LY xC262 55 [some ((2, 43)), some (vi t), some (vi o), some ((2, 68)), some (vi r0), some (vi k), some (vi j)] [] S d (fun r S' => ∃ z : Int, r = (1, vi z) ∧ 0 ≤ z ∧ z ≤ 1 ∧ (FM S0 → 0 ≤ t → t < S0.f 43 1 → o < S0.f 43 1 → (z = 1 ↔ rcM S0 t o)) ∧ yI S' ∧ yFr [] [68] S0 S' ∧ yRm [] S0 S') := by
  intro n
  induction n with
  | zero => intro S hI hF hR j h_j q_0 q_1 hn; exact absurd hn (by omega)
  | succ n ih =>
    intro S hI hF hR j h_j q_0 q_1 hn
    have h1 := hI.f tf43_1
    have h2 : S.f 43 1 = S0.f 43 1 := hF.f rfl
    refine r_load (i := 55) (u := 6) (w := 0) rfl rfl rfl ?_
    refine r_load (i := 56) (u := 0) (w := 2) rfl rfl rfl ?_
    refine r_getf (i := 57) (v := 9) (w := 11) (x := (2, 51)) rfl ly43 rfl rfl fun _ => ?_
    refine r_load (i := 58) (u := 5) (w := 0) rfl rfl rfl ?_
    refine a_int (i := 59) rfl ly51 rfl (by omega) (by omega) fun h4 => ?_
    have h5 := hI.a ta51 k.toNat
    have h6 : S.a 51 k.toNat = S0.a 51 k.toNat := hF.a rfl _
    refine c_ge (i := 60) (v := 74) rfl ⟨by omega, by omega⟩ ⟨by omega, by omega⟩ (fun h7 => ?_) (fun h8 => ?_)
    · refine r_iinc (i := 74) (u := 1) (v := 5) (s := 1) (L1 := [some ((2, 43)), some (vi t), some (vi o), some ((2, 68)), some (vi r0), some (vi (k + 1)), some (vi j)]) rfl rfl rfl rfl rfl ?_
      refine r_goto (i := 75) (v := 32) rfl ?_
      refine yT_drop (L1 := [some ((2, 43)), some (vi t), some (vi o), some ((2, 68)), some (vi r0), some (vi (k + 1)), none]) rfl ?_
      exact K S hI hF hR (k + 1) ⟨by omega, by omega⟩ (by exact I32_s q_0 (by omega)) (by omega)
    · refine r_load (i := 61) (u := 3) (w := 2) rfl rfl rfl ?_
      refine r_load (i := 62) (u := 0) (w := 2) rfl rfl rfl ?_
      refine r_getf (i := 63) (v := 8) (w := 11) (x := (2, 50)) rfl ly43 rfl rfl fun _ => ?_
      refine r_const (i := 64) (u := 4) (z := 4) rfl rfl ?_
      refine r_load (i := 65) (u := 5) (w := 0) rfl rfl rfl ?_
      refine r_imul (i := 66) rfl ?_
      refine r_load (i := 67) (u := 6) (w := 0) rfl rfl rfl ?_
      refine r_iadd (i := 68) rfl ?_
      refine a_int (i := 69) rfl ly50 rfl (by omega) (by omega) fun h10 => ?_
      have h11 := hI.a ta50 ((4 * k) + j).toNat
      have h12 : S.a 50 ((4 * k) + j).toNat = S0.a 50 ((4 * k) + j).toNat := hF.a rfl _
      refine r_const (i := 70) (u := 1) (z := 1) rfl rfl ?_
      refine s_bool (i := 71) rfl ly68 rfl (by omega) (by omega) (by omega) (by omega) ?_
      have hI14 := hI.seta0 (b := 68) (j := (S.a 50 ((4 * k) + j).toNat).toNat) (z := 1) rfl rfl
      have hF16 := hF.seta (b := 68) (j := (S.a 50 ((4 * k) + j).toNat).toNat) (z := 1) rfl
      have hR17 := hR.seta (b := 68) (j := (S.a 50 ((4 * k) + j).toNat).toNat) (z := 1)
      refine yT_gen (fun S13 hS15 => ?_)
      rw [hS15] at hI14 hF16 hR17 
      refine r_iinc (i := 72) (u := 1) (v := 6) (s := 1) (L1 := [some ((2, 43)), some (vi t), some (vi o), some ((2, 68)), some (vi r0), some (vi k), some (vi (j + 1))]) rfl rfl rfl rfl rfl ?_
      refine r_goto (i := 73) (v := 55) rfl ?_
      have h18 := hI14.f tf43_1
      have h19 : S13.f 43 1 = S.f 43 1 := by rw [← hS15]; rfl
      have h20 : S.f 43 1 = S0.f 43 1 := hF.f rfl
      exact ih S13 hI14 hF16 hR17 (j + 1) ⟨by omega, by omega⟩ (by rw [← hS15]; exact I55_s q_0 (by omega) (by omega) (by omega) (by omega) (by omega)) (by omega) (by omega)
theorem lp262_32 {G : xk} {d : Nat} {S0 : yS} {t : Int} (h_t : -2147483648 ≤ t ∧ t ≤ 2147483647) {o : Int} (h_o : 0 ≤ o ∧ o ≤ 19) (hd : 0 ≤ d) {r0 : Int} (h_r0 : 0 ≤ r0 ∧ r0 ≤ 19) (no : Nat) (K : ∀ (S : yS) (hI : yI S) (hF : yFr [] [68] S0 S) (hR : yRm [] S0 S) (r0 : Int) (h_r0 : 0 ≤ r0 ∧ r0 ≤ 20) (q_0 : I26 S S0 t r0) (hn : 20 - r0 < (no : Nat)), yT xPr G LY xC262 26 [some ((2, 43)), some (vi t), some (vi o), some ((2, 68)), some (vi r0), none, none] [] S d (fun r S' => ∃ z : Int, r = (1, vi z) ∧ 0 ≤ z ∧ z ≤ 1 ∧ (FM S0 → 0 ≤ t → t < S0.f 43 1 → o < S0.f 43 1 → (z = 1 ↔ rcM S0 t o)) ∧ yI S' ∧ yFr [] [68] S0 S' ∧ yRm [] S0 S')) (hm : 20 - r0 < ((no + 1 : Nat) : Int)) : ∀ (n : Nat), ∀ (S : yS) (hI : yI S) (hF : yFr [] [68] S0 S) (hR : yRm [] S0 S) (k : Int) (h_k : 0 ≤ k ∧ k ≤ 20) (q_0 : I32 S S0 t r0 k) (hn : 20 - k < (n : Nat)), yT xPr G LY xC262 32 [some ((2, 43)), some (vi t), some (vi o), some ((2, 68)), some (vi r0), some (vi k), none] [] S d (fun r S' => ∃ z : Int, r = (1, vi z) ∧ 0 ≤ z ∧ z ≤ 1 ∧ (FM S0 → 0 ≤ t → t < S0.f 43 1 → o < S0.f 43 1 → (z = 1 ↔ rcM S0 t o)) ∧ yI S' ∧ yFr [] [68] S0 S' ∧ yRm [] S0 S') := by
  intro n
  induction n with
  | zero => intro S hI hF hR k h_k q_0 hn; exact absurd hn (by omega)
  | succ n ih =>
    intro S hI hF hR k h_k q_0 hn
    refine r_load (i := 32) (u := 5) (w := 0) rfl rfl rfl ?_
    refine r_load (i := 33) (u := 0) (w := 2) rfl rfl rfl ?_
    have h1 := hI.f tf43_1
    have h2 : S.f 43 1 = S0.f 43 1 := hF.f rfl
    refine r_getf (i := 34) (v := 1) (w := 11) (x := vi (S.f 43 1)) rfl ly43 rfl rfl fun h3 => ?_
    have h3 : Rg (S.f 43 1) := h3
    refine c_ge (i := 35) (v := 76) rfl ⟨by omega, by omega⟩ ⟨by omega, by omega⟩ (fun h4 => ?_) (fun h5 => ?_)
    · refine r_iinc (i := 76) (u := 1) (v := 4) (s := 1) (L1 := [some ((2, 43)), some (vi t), some (vi o), some ((2, 68)), some (vi (r0 + 1)), some (vi k), none]) rfl rfl rfl rfl rfl ?_
      refine r_goto (i := 77) (v := 26) rfl ?_
      refine yT_drop (L1 := [some ((2, 43)), some (vi t), some (vi o), some ((2, 68)), some (vi (r0 + 1)), none, none]) rfl ?_
      exact K S hI hF hR (r0 + 1) ⟨by omega, by omega⟩ (by exact I26_s q_0 (by omega)) (by omega)
    · refine r_load (i := 36) (u := 3) (w := 2) rfl rfl rfl ?_
      refine r_load (i := 37) (u := 5) (w := 0) rfl rfl rfl ?_
      refine a_bool (i := 38) rfl ly68 rfl (by omega) (by omega) fun h6 => ?_
      refine z_ne (i := 39) (v := 41) rfl ⟨by omega, by omega⟩ (fun h7 => ?_) (fun h8 => ?_)
      · refine r_load (i := 41) (u := 0) (w := 2) rfl rfl rfl ?_
        refine r_getf (i := 42) (v := 7) (w := 11) (x := (2, 49)) rfl ly43 rfl rfl fun _ => ?_
        refine r_load (i := 43) (u := 5) (w := 0) rfl rfl rfl ?_
        refine a_int (i := 44) rfl ly49 rfl (by omega) (by omega) fun h10 => ?_
        have h11 := hI.a ta49 k.toNat
        have h12 := hI.m3 k.toNat
        have h13 : S.a 49 k.toNat = S0.a 49 k.toNat := hF.a rfl _
        refine z_lt (i := 45) (v := 53) rfl ⟨by omega, by omega⟩ (fun h14 => ?_) (fun h15 => ?_)
        · refine r_const (i := 53) (u := 0) (z := 0) rfl rfl ?_
          refine r_store (i := 54) (u := 6) (w := 0) (L1 := [some ((2, 43)), some (vi t), some (vi o), some ((2, 68)), some (vi r0), some (vi k), some (vi 0)]) rfl rfl rfl rfl ?_
          exact lp262_55 h_t h_o  hd (r0 := r0) (k := k) ⟨by omega, by omega⟩ ⟨by omega, by omega⟩ n ih (by omega) _ S hI hF hR 0 ⟨by omega, by omega⟩ (by exact I55_0 q_0 (by omega) (by omega)) (by omega) (Int.lt_succ_toNat _)
        · refine r_load (i := 46) (u := 3) (w := 2) rfl rfl rfl ?_
          refine r_load (i := 47) (u := 0) (w := 2) rfl rfl rfl ?_
          refine r_getf (i := 48) (v := 7) (w := 11) (x := (2, 49)) rfl ly43 rfl rfl fun _ => ?_
          refine r_load (i := 49) (u := 5) (w := 0) rfl rfl rfl ?_
          refine a_int (i := 50) rfl ly49 rfl (by omega) (by omega) fun h17 => ?_
          have h18 := hI.a ta49 k.toNat
          have h19 := hI.m3 k.toNat
          refine r_const (i := 51) (u := 1) (z := 1) rfl rfl ?_
          refine s_bool (i := 52) rfl ly68 rfl (by omega) (by omega) (by omega) (by omega) ?_
          have hI21 := hI.seta0 (b := 68) (j := (S.a 49 k.toNat).toNat) (z := 1) rfl rfl
          have hF23 := hF.seta (b := 68) (j := (S.a 49 k.toNat).toNat) (z := 1) rfl
          have hR24 := hR.seta (b := 68) (j := (S.a 49 k.toNat).toNat) (z := 1)
          refine yT_gen (fun S20 hS22 => ?_)
          rw [hS22] at hI21 hF23 hR24 
          refine r_const (i := 53) (u := 0) (z := 0) rfl rfl ?_
          refine r_store (i := 54) (u := 6) (w := 0) (L1 := [some ((2, 43)), some (vi t), some (vi o), some ((2, 68)), some (vi r0), some (vi k), some (vi 0)]) rfl rfl rfl rfl ?_
          have h25 := hI21.f tf43_1
          have h26 : S20.f 43 1 = S.f 43 1 := by rw [← hS22]; rfl
          have h27 : S.f 43 1 = S0.f 43 1 := hF.f rfl
          exact lp262_55 h_t h_o  hd (r0 := r0) (k := k) ⟨by omega, by omega⟩ ⟨by omega, by omega⟩ n ih (by omega) _ S20 hI21 hF23 hR24 0 ⟨by omega, by omega⟩ (by rw [← hS22]; exact I55_p q_0 (by omega) (by omega) (by omega) (by omega) (by omega)) (by omega) (Int.lt_succ_toNat _)
      · refine r_goto (i := 40) (v := 74) rfl ?_
        refine r_iinc (i := 74) (u := 1) (v := 5) (s := 1) (L1 := [some ((2, 43)), some (vi t), some (vi o), some ((2, 68)), some (vi r0), some (vi (k + 1)), none]) rfl rfl rfl rfl rfl ?_
        refine r_goto (i := 75) (v := 32) rfl ?_
        exact ih S hI hF hR (k + 1) ⟨by omega, by omega⟩ (by exact I32_n q_0 (by omega)) (by omega)
theorem lp262_26 {G : xk} {d : Nat} {S0 : yS} {t : Int} (h_t : -2147483648 ≤ t ∧ t ≤ 2147483647) {o : Int} (h_o : 0 ≤ o ∧ o ≤ 19) (hd : 0 ≤ d) : ∀ (n : Nat), ∀ (S : yS) (hI : yI S) (hF : yFr [] [68] S0 S) (hR : yRm [] S0 S) (r0 : Int) (h_r0 : 0 ≤ r0 ∧ r0 ≤ 20) (q_0 : I26 S S0 t r0) (hn : 20 - r0 < (n : Nat)), yT xPr G LY xC262 26 [some ((2, 43)), some (vi t), some (vi o), some ((2, 68)), some (vi r0), none, none] [] S d (fun r S' => ∃ z : Int, r = (1, vi z) ∧ 0 ≤ z ∧ z ≤ 1 ∧ (FM S0 → 0 ≤ t → t < S0.f 43 1 → o < S0.f 43 1 → (z = 1 ↔ rcM S0 t o)) ∧ yI S' ∧ yFr [] [68] S0 S' ∧ yRm [] S0 S') := by
  intro n
  induction n with
  | zero => intro S hI hF hR r0 h_r0 q_0 hn; exact absurd hn (by omega)
  | succ n ih =>
    intro S hI hF hR r0 h_r0 q_0 hn
    refine r_load (i := 26) (u := 4) (w := 0) rfl rfl rfl ?_
    refine r_load (i := 27) (u := 0) (w := 2) rfl rfl rfl ?_
    have h1 := hI.f tf43_1
    have h2 : S.f 43 1 = S0.f 43 1 := hF.f rfl
    refine r_getf (i := 28) (v := 1) (w := 11) (x := vi (S.f 43 1)) rfl ly43 rfl rfl fun h3 => ?_
    have h3 : Rg (S.f 43 1) := h3
    refine c_ge (i := 29) (v := 78) rfl ⟨by omega, by omega⟩ ⟨by omega, by omega⟩ (fun h4 => ?_) (fun h5 => ?_)
    · refine r_load (i := 78) (u := 3) (w := 2) rfl rfl rfl ?_
      refine r_load (i := 79) (u := 2) (w := 0) rfl rfl rfl ?_
      refine a_bool (i := 80) rfl ly68 rfl (by omega) (by omega) fun h6 => ?_
      exact r_retZ (i := 81) rfl (by omega) (by omega) ⟨S.a 68 o.toNat, rfl, by omega, by omega, (by exact fun hf9 t0 t1 o1 => ⟨fun h9 => (I26_end q_0 (by omega) hf9 t0 t1 (by omega) o1).mp (by omega), fun h9 => by have w9 := (I26_end q_0 (by omega) hf9 t0 t1 (by omega) o1).mpr h9; omega⟩), hI, hF, hR⟩
    · refine r_const (i := 30) (u := 0) (z := 0) rfl rfl ?_
      refine r_store (i := 31) (u := 5) (w := 0) (L1 := [some ((2, 43)), some (vi t), some (vi o), some ((2, 68)), some (vi r0), some (vi 0), none]) rfl rfl rfl rfl ?_
      exact lp262_32 h_t h_o  hd (r0 := r0) ⟨by omega, by omega⟩ n ih (by omega) _ S hI hF hR 0 ⟨by omega, by omega⟩ (by exact I32_0 q_0) (Int.lt_succ_toNat _)
theorem lp262_5 {G : xk} {d : Nat} {S0 : yS} {t : Int} (h_t : -2147483648 ≤ t ∧ t ≤ 2147483647) {o : Int} (h_o : 0 ≤ o ∧ o ≤ 19) (hd : 0 ≤ d) : ∀ (n : Nat), ∀ (S : yS) (hI : yI S) (hF : yFr [] [68] S0 S) (hR : yRm [] S0 S) (k : Int) (h_k : 0 ≤ k ∧ k ≤ 20) (q_0 : uIn S k t) (hn : 20 - k < (n : Nat)), yT xPr G LY xC262 5 [some ((2, 43)), some (vi t), some (vi o), some ((2, 68)), some (vi k), none, none] [] S d (fun r S' => ∃ z : Int, r = (1, vi z) ∧ 0 ≤ z ∧ z ≤ 1 ∧ (FM S0 → 0 ≤ t → t < S0.f 43 1 → o < S0.f 43 1 → (z = 1 ↔ rcM S0 t o)) ∧ yI S' ∧ yFr [] [68] S0 S' ∧ yRm [] S0 S') := by
  intro n
  induction n with
  | zero => intro S hI hF hR k h_k q_0 hn; exact absurd hn (by omega)
  | succ n ih =>
    intro S hI hF hR k h_k q_0 hn
    refine r_load (i := 5) (u := 4) (w := 0) rfl rfl rfl ?_
    refine r_load (i := 6) (u := 0) (w := 2) rfl rfl rfl ?_
    have h1 := hI.f tf43_1
    have h2 : S.f 43 1 = S0.f 43 1 := hF.f rfl
    refine r_getf (i := 7) (v := 1) (w := 11) (x := vi (S.f 43 1)) rfl ly43 rfl rfl fun h3 => ?_
    have h3 : Rg (S.f 43 1) := h3
    refine c_ge (i := 8) (v := 20) rfl ⟨by omega, by omega⟩ ⟨by omega, by omega⟩ (fun h4 => ?_) (fun h5 => ?_)
    · refine r_load (i := 20) (u := 3) (w := 2) rfl rfl rfl ?_
      refine r_const (i := 21) (u := 0) (z := 0) rfl rfl ?_
      refine r_const (i := 22) (u := 1) (z := 1) rfl rfl ?_
      refine s_bool (i := 23) rfl ly68 rfl (by omega) (by omega) (by omega) (by omega) ?_
      have hI7 := hI.seta0 (b := 68) (j := (0 : Int).toNat) (z := 1) rfl rfl
      have hF9 := hF.seta (b := 68) (j := (0 : Int).toNat) (z := 1) rfl
      have hR10 := hR.seta (b := 68) (j := (0 : Int).toNat) (z := 1)
      refine yT_gen (fun S6 hS8 => ?_)
      rw [hS8] at hI7 hF9 hR10 
      refine r_const (i := 24) (u := 0) (z := 0) rfl rfl ?_
      refine r_store (i := 25) (u := 4) (w := 0) (L1 := [some ((2, 43)), some (vi t), some (vi o), some ((2, 68)), some (vi 0), none, none]) rfl rfl rfl rfl ?_
      exact lp262_26 h_t h_o  hd _ S6 hI7 hF9 hR10 0 ⟨by omega, by omega⟩ (by rw [← hS8]; exact I26_0 q_0 (by omega)) (Int.lt_succ_toNat _)
    · refine r_load (i := 9) (u := 3) (w := 2) rfl rfl rfl ?_
      refine r_load (i := 10) (u := 4) (w := 0) rfl rfl rfl ?_
      refine r_load (i := 11) (u := 4) (w := 0) rfl rfl rfl ?_
      refine r_load (i := 12) (u := 1) (w := 0) rfl rfl rfl ?_
      refine c_ne (i := 13) (v := 16) rfl ⟨by omega, by omega⟩ ⟨by omega, by omega⟩ (fun h11 => ?_) (fun h12 => ?_)
      · refine r_const (i := 16) (u := 0) (z := 0) rfl rfl ?_
        refine s_bool (i := 17) rfl ly68 rfl (by omega) (by omega) (by omega) (by omega) ?_
        have hI14 := hI.seta0 (b := 68) (j := k.toNat) (z := 0) rfl rfl
        have hF16 := hF.seta (b := 68) (j := k.toNat) (z := 0) rfl
        have hR17 := hR.seta (b := 68) (j := k.toNat) (z := 0)
        refine yT_gen (fun S13 hS15 => ?_)
        rw [hS15] at hI14 hF16 hR17 
        refine r_iinc (i := 18) (u := 1) (v := 4) (s := 1) (L1 := [some ((2, 43)), some (vi t), some (vi o), some ((2, 68)), some (vi (k + 1)), none, none]) rfl rfl rfl rfl rfl ?_
        refine r_goto (i := 19) (v := 5) rfl ?_
        exact ih S13 hI14 hF16 hR17 (k + 1) ⟨by omega, by omega⟩ (by rw [← hS15]; exact uIn_s q_0 (by omega) (by omega)) (by omega)
      · refine r_const (i := 14) (u := 1) (z := 1) rfl rfl ?_
        refine r_goto (i := 15) (v := 17) rfl ?_
        refine s_bool (i := 17) rfl ly68 rfl (by omega) (by omega) (by omega) (by omega) ?_
        have hI19 := hI.seta0 (b := 68) (j := k.toNat) (z := 1) rfl rfl
        have hF21 := hF.seta (b := 68) (j := k.toNat) (z := 1) rfl
        have hR22 := hR.seta (b := 68) (j := k.toNat) (z := 1)
        refine yT_gen (fun S18 hS20 => ?_)
        rw [hS20] at hI19 hF21 hR22 
        refine r_iinc (i := 18) (u := 1) (v := 4) (s := 1) (L1 := [some ((2, 43)), some (vi t), some (vi o), some ((2, 68)), some (vi (k + 1)), none, none]) rfl rfl rfl rfl rfl ?_
        refine r_goto (i := 19) (v := 5) rfl ?_
        exact ih S18 hI19 hF21 hR22 (k + 1) ⟨by omega, by omega⟩ (by rw [← hS20]; exact uIn_s q_0 (by omega) (by omega)) (by omega)
/-- ProxyForgeModel.under -/
theorem sp262 {G : xk} {S : yS} {d : Nat} (hI : yI S) {t : Int} (h_t : -2147483648 ≤ t ∧ t ≤ 2147483647) {o : Int} (h_o : 0 ≤ o ∧ o ≤ 19) (hd : 0 ≤ d) : yT xPr G LY xC262 0 [some ((2, 43)), some (vi t), some (vi o)] [] S d (fun r S' => ∃ z : Int, r = (1, vi z) ∧ 0 ≤ z ∧ z ≤ 1 ∧ (FM S → 0 ≤ t → t < S.f 43 1 → o < S.f 43 1 → (z = 1 ↔ rcM S t o)) ∧ yI S' ∧ yFr [] [68] S S' ∧ yRm [] S S') := by
  refine yT_pad 4 ?_
  show yT xPr G LY xC262 0 [some ((2, 43)), some (vi t), some (vi o), none, none, none, none] [] S d _
  have hF : yFr [] [68] S S := yFr.refl S
  have hR : yRm [] S S := yRm.refl S
  refine r_load (i := 0) (u := 0) (w := 2) rfl rfl rfl ?_
  refine r_getf (i := 1) (v := 32) (w := 11) (x := (2, 68)) rfl ly43 rfl rfl fun _ => ?_
  refine r_store (i := 2) (u := 3) (w := 2) (L1 := [some ((2, 43)), some (vi t), some (vi o), some ((2, 68)), none, none, none]) rfl rfl rfl rfl ?_
  refine r_const (i := 3) (u := 0) (z := 0) rfl rfl ?_
  refine r_store (i := 4) (u := 4) (w := 0) (L1 := [some ((2, 43)), some (vi t), some (vi o), some ((2, 68)), some (vi 0), none, none]) rfl rfl rfl rfl ?_
  exact lp262_5 h_t h_o  hd _ S hI hF hR 0 ⟨by omega, by omega⟩ (by exact uIn_0) (Int.lt_succ_toNat _)
/-- ProxyForgeModel.isHidden -/
theorem sp209 {G : xk} {S : yS} {d : Nat} (hI : yI S) {f : Int} (h_f : -1 ≤ f ∧ f ≤ 19) {c : Int} (h_c : 0 ≤ c ∧ c ≤ 19) (hd : 0 ≤ d) : yT xPr G LY xC209 0 [some ((2, 43)), some (vi f), some (vi c)] [] S d (fun r S' => ∃ z : Int, r = (1, vi z) ∧ 0 ≤ z ∧ z ≤ 1 ∧ S = S') := by
  refine yT_pad 0 ?_
  show yT xPr G LY xC209 0 [some ((2, 43)), some (vi f), some (vi c)] [] S d _
  refine r_load (i := 0) (u := 1) (w := 0) rfl rfl rfl ?_
  refine z_lt (i := 1) (v := 18) rfl ⟨by omega, by omega⟩ (fun h1 => ?_) (fun h2 => ?_)
  · refine r_const (i := 18) (u := 0) (z := 0) rfl rfl ?_
    exact r_retZ (i := 19) rfl (by omega) (by omega) ⟨0, rfl, by omega, by omega, rfl⟩
  · refine r_load (i := 2) (u := 0) (w := 2) rfl rfl rfl ?_
    refine r_getf (i := 3) (v := 3) (w := 11) (x := (2, 45)) rfl ly43 rfl rfl fun _ => ?_
    refine r_load (i := 4) (u := 1) (w := 0) rfl rfl rfl ?_
    refine a_bool (i := 5) rfl ly45 rfl (by omega) (by omega) fun h4 => ?_
    refine z_ne (i := 6) (v := 18) rfl ⟨by omega, by omega⟩ (fun h5 => ?_) (fun h6 => ?_)
    · refine r_const (i := 18) (u := 0) (z := 0) rfl rfl ?_
      exact r_retZ (i := 19) rfl (by omega) (by omega) ⟨0, rfl, by omega, by omega, rfl⟩
    · refine r_load (i := 7) (u := 0) (w := 2) rfl rfl rfl ?_
      refine r_getf (i := 8) (v := 6) (w := 11) (x := (2, 48)) rfl ly43 rfl rfl fun _ => ?_
      refine r_load (i := 9) (u := 1) (w := 0) rfl rfl rfl ?_
      refine a_int (i := 10) rfl ly48 rfl (by omega) (by omega) fun h8 => ?_
      have h9 := hI.a ta48 f.toNat
      refine r_load (i := 11) (u := 0) (w := 2) rfl rfl rfl ?_
      refine r_getf (i := 12) (v := 6) (w := 11) (x := (2, 48)) rfl ly43 rfl rfl fun _ => ?_
      refine r_load (i := 13) (u := 2) (w := 0) rfl rfl rfl ?_
      refine a_int (i := 14) rfl ly48 rfl (by omega) (by omega) fun h11 => ?_
      have h12 := hI.a ta48 c.toNat
      refine c_eq (i := 15) (v := 18) rfl ⟨by omega, by omega⟩ ⟨by omega, by omega⟩ (fun h13 => ?_) (fun h14 => ?_)
      · refine r_const (i := 18) (u := 0) (z := 0) rfl rfl ?_
        exact r_retZ (i := 19) rfl (by omega) (by omega) ⟨0, rfl, by omega, by omega, rfl⟩
      · refine r_const (i := 16) (u := 1) (z := 1) rfl rfl ?_
        refine r_goto (i := 17) (v := 19) rfl ?_
        exact r_retZ (i := 19) rfl (by omega) (by omega) ⟨1, rfl, by omega, by omega, rfl⟩
/-- ProxyForgeModel.isSubtype -/
theorem sp211 {G : xk} {S : yS} {d : Nat} (hI : yI S) {t : Int} (h_t : -2147483648 ≤ t ∧ t ≤ 2147483647) {o : Int} (h_o : -2147483648 ≤ o ∧ o ≤ 2147483647) (hd : 1 ≤ d) : yT xPr G LY xC211 0 [some ((2, 43)), some (vi t), some (vi o)] [] S d (fun r S' => ∃ z : Int, r = (1, vi z) ∧ 0 ≤ z ∧ z ≤ 1 ∧ (FM S → (z = 1 ↔ (0 ≤ t ∧ t < S.f 43 1 ∧ 0 ≤ o ∧ o < S.f 43 1 ∧ rcM S t o))) ∧ yI S' ∧ yFr [(43, 0)] [68] S S' ∧ yRm [] S S') := by
  refine yT_pad 0 ?_
  show yT xPr G LY xC211 0 [some ((2, 43)), some (vi t), some (vi o)] [] S d _
  obtain ⟨d, rfl⟩ : ∃ q, d = q + 1 := ⟨d - 1, by omega⟩
  have hF : yFr [(43, 0)] [68] S S := yFr.refl S
  have hR : yRm [] S S := yRm.refl S
  refine r_load (i := 0) (u := 0) (w := 2) rfl rfl rfl ?_
  refine r_const (i := 1) (u := 0) (z := 0) rfl rfl ?_
  refine r_putI (i := 2) (v := 0) (w := 11) rfl ly43 rfl ⟨by omega, by omega⟩ ?_
  have hI2 := hI.setf (b := 43) (w := 0) (z := 0) tf43_0 rfl (by omega) (by omega)
  have hF4 := hF.setf (b := 43) (w := 0) (z := 0) rfl
  have hR5 := hR.setf (b := 43) (w := 0) (z := 0)
  refine yT_gen (fun S1 hS3 => ?_)
  rw [hS3] at hI2 hF4 hR5 
  refine r_load (i := 3) (u := 0) (w := 2) rfl rfl rfl ?_
  refine r_load (i := 4) (u := 1) (w := 0) rfl rfl rfl ?_
  have h6 := hI2.f tf43_1
  have h7 : S1.f 43 1 = S.f 43 1 := by rw [← hS3]; exact ysf_ne (by decide)
  refine r_call (i := 5) (u := 11) (v := 213) (w := 0) (b := 0) (na := 514) (C2 := xC213) (as := [(2, 43), vi t]) (s := []) rfl rfl rfl rfl rfl rfl rfl (sp213 (t := t) hI2 ⟨by omega, by omega⟩   (by omega)) (fun r8 S9 hq10 => ?_)
  obtain ⟨z11, rfl, h12, h13, h14, h15, rfl⟩ := hq10
  refine Or.inr (Or.inl ⟨rfl, ?_⟩)
  refine z_eq (i := 6) (v := 18) rfl ⟨by omega, by omega⟩ (fun h16 => ?_) (fun h17 => ?_)
  · refine r_const (i := 18) (u := 0) (z := 0) rfl rfl ?_
    exact r_retZ (i := 19) rfl (by omega) (by omega) ⟨0, rfl, by omega, by omega, (by exact fun hf9 => ⟨fun h9 => by exfalso; omega, fun h9 => by obtain ⟨a1, a2, a3, a4, -⟩ := h9; exfalso; omega⟩), hI2, hF4, hR5⟩
  · refine r_load (i := 7) (u := 0) (w := 2) rfl rfl rfl ?_
    refine r_load (i := 8) (u := 2) (w := 0) rfl rfl rfl ?_
    refine r_call (i := 9) (u := 11) (v := 213) (w := 0) (b := 0) (na := 514) (C2 := xC213) (as := [(2, 43), vi o]) (s := []) rfl rfl rfl rfl rfl rfl rfl (sp213 (t := o) hI2 ⟨by omega, by omega⟩   (by omega)) (fun r18 S19 hq20 => ?_)
    obtain ⟨z21, rfl, h22, h23, h24, h25, rfl⟩ := hq20
    refine Or.inr (Or.inl ⟨rfl, ?_⟩)
    refine z_eq (i := 10) (v := 18) rfl ⟨by omega, by omega⟩ (fun h26 => ?_) (fun h27 => ?_)
    · refine r_const (i := 18) (u := 0) (z := 0) rfl rfl ?_
      exact r_retZ (i := 19) rfl (by omega) (by omega) ⟨0, rfl, by omega, by omega, (by exact fun hf9 => ⟨fun h9 => by exfalso; omega, fun h9 => by obtain ⟨a1, a2, a3, a4, -⟩ := h9; exfalso; omega⟩), hI2, hF4, hR5⟩
    · refine r_load (i := 11) (u := 0) (w := 2) rfl rfl rfl ?_
      refine r_load (i := 12) (u := 1) (w := 0) rfl rfl rfl ?_
      refine r_load (i := 13) (u := 2) (w := 0) rfl rfl rfl ?_
      refine r_call (i := 14) (u := 11) (v := 262) (w := 0) (b := 0) (na := 1795) (C2 := xC262) (as := [(2, 43), vi t, vi o]) (s := []) rfl rfl rfl rfl rfl rfl rfl (sp262 (t := t) (o := o) hI2 ⟨by omega, by omega⟩ ⟨by omega, by omega⟩   (by omega)) (fun r28 S29 hq30 => ?_)
      obtain ⟨z31, rfl, h32, h33, um34, hI35, hF36, hR37⟩ := hq30
      have hF38 := hF4.trans hF36 rfl rfl
      have hR39 := hR5.trans hR37 rfl
      refine Or.inr (Or.inl ⟨rfl, ?_⟩)
      refine z_eq (i := 15) (v := 18) rfl ⟨by omega, by omega⟩ (fun h40 => ?_) (fun h41 => ?_)
      · refine r_const (i := 18) (u := 0) (z := 0) rfl rfl ?_
        exact r_retZ (i := 19) rfl (by omega) (by omega) ⟨0, rfl, by omega, by omega, (by intro hf9; subst hS3; have w9 := um34 hf9 (by omega) (by omega) (by omega); exact ⟨fun h9 => ⟨by omega, by omega, by omega, by omega, w9.mp (by omega)⟩, fun h9 => by have w8 := w9.mpr h9.2.2.2.2; omega⟩), hI35, hF38, hR39⟩
      · refine r_const (i := 16) (u := 1) (z := 1) rfl rfl ?_
        refine r_goto (i := 17) (v := 19) rfl ?_
        exact r_retZ (i := 19) rfl (by omega) (by omega) ⟨1, rfl, by omega, by omega, (by intro hf9; subst hS3; have w9 := um34 hf9 (by omega) (by omega) (by omega); exact ⟨fun h9 => ⟨by omega, by omega, by omega, by omega, w9.mp (by omega)⟩, fun h9 => by have w8 := w9.mpr h9.2.2.2.2; omega⟩), hI35, hF38, hR39⟩
/-- ProxyForgeModel.thrown -/
theorem sp256 {G : xk} {S : yS} {d : Nat} (hI : yI S)  (hd : 0 ≤ d) : yT xPr G LY xC256 0 [some ((2, 43))] [] S d (fun r S' => ∃ z : Int, r = (1, vi z) ∧ 0 ≤ z ∧ z ≤ 2 ∧ z = S.f 43 0 ∧ S = S') := by
  refine yT_pad 0 ?_
  show yT xPr G LY xC256 0 [some ((2, 43))] [] S d _
  refine r_load (i := 0) (u := 0) (w := 2) rfl rfl rfl ?_
  have h1 := hI.f tf43_0
  refine r_getf (i := 1) (v := 0) (w := 11) (x := vi (S.f 43 0)) rfl ly43 rfl rfl fun h2 => ?_
  have h2 : Rg (S.f 43 0) := h2
  exact r_retI (i := 2) rfl ⟨S.f 43 0, rfl, by omega, by omega, (by omega), rfl⟩
/-- ProxyForgeModel.policy -/
theorem sp232 {G : xk} {S : yS} {d : Nat} (hI : yI S) {w0 : Int} (h_w0 : -2147483648 ≤ w0 ∧ w0 ≤ 2147483647) {k : Int} (h_k : -2147483648 ≤ k ∧ k ≤ 2147483647) (hd : 0 ≤ d) : yT xPr G LY xC232 0 [some ((2, 43)), some (vi w0), some (vi k)] [] S d (fun r S' => ∃ z : Int, r = (1, vi z) ∧ 0 ≤ z ∧ z ≤ 1 ∧ (z = 1 ∧ 0 ≤ w0 ∧ w0 ≤ 9 ∧ 0 ≤ k ∧ k ≤ 3 ∨ z = 0 ∧ (w0 < 0 ∨ 9 < w0 ∨ k < 0 ∨ 3 < k)) ∧ yI S' ∧ yFr [(43, 0)] [59] S S' ∧ yRm [] S S') := by
  refine yT_pad 0 ?_
  show yT xPr G LY xC232 0 [some ((2, 43)), some (vi w0), some (vi k)] [] S d _
  have hF : yFr [(43, 0)] [59] S S := yFr.refl S
  have hR : yRm [] S S := yRm.refl S
  refine r_load (i := 0) (u := 0) (w := 2) rfl rfl rfl ?_
  refine r_const (i := 1) (u := 0) (z := 0) rfl rfl ?_
  refine r_putI (i := 2) (v := 0) (w := 11) rfl ly43 rfl ⟨by omega, by omega⟩ ?_
  have hI2 := hI.setf (b := 43) (w := 0) (z := 0) tf43_0 rfl (by omega) (by omega)
  have hF4 := hF.setf (b := 43) (w := 0) (z := 0) rfl
  have hR5 := hR.setf (b := 43) (w := 0) (z := 0)
  refine yT_gen (fun S1 hS3 => ?_)
  rw [hS3] at hI2 hF4 hR5 
  refine r_load (i := 3) (u := 1) (w := 0) rfl rfl rfl ?_
  refine z_lt (i := 4) (v := 13) rfl ⟨by omega, by omega⟩ (fun h6 => ?_) (fun h7 => ?_)
  · refine r_const (i := 13) (u := 0) (z := 0) rfl rfl ?_
    exact r_retZ (i := 14) rfl (by omega) (by omega) ⟨0, rfl, by omega, by omega, (by omega), hI2, hF4, hR5⟩
  · refine r_load (i := 5) (u := 1) (w := 0) rfl rfl rfl ?_
    refine r_const (i := 6) (u := 9) (z := 9) rfl rfl ?_
    refine c_gt (i := 7) (v := 13) rfl ⟨by omega, by omega⟩ ⟨by omega, by omega⟩ (fun h8 => ?_) (fun h9 => ?_)
    · refine r_const (i := 13) (u := 0) (z := 0) rfl rfl ?_
      exact r_retZ (i := 14) rfl (by omega) (by omega) ⟨0, rfl, by omega, by omega, (by omega), hI2, hF4, hR5⟩
    · refine r_load (i := 8) (u := 2) (w := 0) rfl rfl rfl ?_
      refine z_lt (i := 9) (v := 13) rfl ⟨by omega, by omega⟩ (fun h10 => ?_) (fun h11 => ?_)
      · refine r_const (i := 13) (u := 0) (z := 0) rfl rfl ?_
        exact r_retZ (i := 14) rfl (by omega) (by omega) ⟨0, rfl, by omega, by omega, (by omega), hI2, hF4, hR5⟩
      · refine r_load (i := 10) (u := 2) (w := 0) rfl rfl rfl ?_
        refine r_const (i := 11) (u := 3) (z := 3) rfl rfl ?_
        refine c_le (i := 12) (v := 15) rfl ⟨by omega, by omega⟩ ⟨by omega, by omega⟩ (fun h12 => ?_) (fun h13 => ?_)
        · refine r_load (i := 15) (u := 0) (w := 2) rfl rfl rfl ?_
          refine r_getf (i := 16) (v := 18) (w := 11) (x := (2, 59)) rfl ly43 rfl rfl fun _ => ?_
          refine r_load (i := 17) (u := 1) (w := 0) rfl rfl rfl ?_
          refine r_load (i := 18) (u := 2) (w := 0) rfl rfl rfl ?_
          refine s_int (i := 19) rfl ly59 rfl (by omega) (by omega) ⟨by omega, by omega⟩ ?_
          have hI16 := hI2.seta (b := 59) (j := w0.toNat) (z := k) ta59 rfl (by omega) (by omega)
          have hF18 := hF4.seta (b := 59) (j := w0.toNat) (z := k) rfl
          have hR19 := hR5.seta (b := 59) (j := w0.toNat) (z := k)
          refine yT_gen (fun S15 hS17 => ?_)
          rw [hS17] at hI16 hF18 hR19 
          refine r_const (i := 20) (u := 1) (z := 1) rfl rfl ?_
          exact r_retZ (i := 21) rfl (by omega) (by omega) ⟨1, rfl, by omega, by omega, (by omega), hI16, hF18, hR19⟩
        · refine r_const (i := 13) (u := 0) (z := 0) rfl rfl ?_
          exact r_retZ (i := 14) rfl (by omega) (by omega) ⟨0, rfl, by omega, by omega, (by omega), hI2, hF4, hR5⟩
theorem lp259_64 {G : xk} {d : Nat} {S0 : yS} {b : Int} (h_b : 0 ≤ b ∧ b ≤ 1) {bits : Int} (h_bits : -2147483648 ≤ bits ∧ bits ≤ 2147483647) {p : Int} (h_p : -2147483648 ≤ p ∧ p ≤ 2147483647) {up : Int} (h_up : -2147483648 ≤ up ∧ up ≤ 2147483647) (hd : 0 ≤ d) : ∀ (S : yS) (hI : yI S) (hF : yFr [(43, 0), (43, 1)] [44, 45, 46, 47, 48, 49] S0 S) (hR : yRm [] S0 S) (g0 c0 : Int) (h_g0 : 0 ≤ g0 ∧ g0 ≤ 1) (h_c0 : 0 ≤ c0 ∧ c0 ≤ 2) (q_0 : c0 = 0 → (0 ≤ bits ∧ bits < 8 ∧ yand bits 6 ≠ 6 ∧ (b ≠ 0 → yand bits 6 = 0) ∧ 0 ≤ p ∧ p < 4 ∧ 0 ≤ up ∧ up < S.f 43 1 ∧ (b ≠ 0 → up = 0) ∧ (b = 0 → S.a 44 up.toNat = 0 ∧ S.a 46 up.toNat = 0)) ∧ S.f 43 1 < 20) (q_1 : c0 = 1 → ¬ (0 ≤ bits ∧ bits < 8 ∧ yand bits 6 ≠ 6 ∧ (b ≠ 0 → yand bits 6 = 0) ∧ 0 ≤ p ∧ p < 4 ∧ 0 ≤ up ∧ up < S.f 43 1 ∧ (b ≠ 0 → up = 0) ∧ (b = 0 → S.a 44 up.toNat = 0 ∧ S.a 46 up.toNat = 0))) (q_2 : c0 = 2 → (0 ≤ bits ∧ bits < 8 ∧ yand bits 6 ≠ 6 ∧ (b ≠ 0 → yand bits 6 = 0) ∧ 0 ≤ p ∧ p < 4 ∧ 0 ≤ up ∧ up < S.f 43 1 ∧ (b ≠ 0 → up = 0) ∧ (b = 0 → S.a 44 up.toNat = 0 ∧ S.a 46 up.toNat = 0)) ∧ S.f 43 1 = 20) (q_3 : S = S0), yT xPr G LY xC259 64 [some ((2, 43)), some (vi b), some (vi bits), some (vi p), some (vi up), some (vi g0)] [vi c0, (2, 43)] S d (fun r S' => ∃ z : Int, r = (1, vi z) ∧ 0 ≤ z ∧ z ≤ 20 ∧ mTyQ S0 S' b bits p up z ∧ yI S' ∧ yFr [(43, 0), (43, 1)] [44, 45, 46, 47, 48, 49] S0 S' ∧ yRm [] S0 S') := by
  intro S hI hF hR g0 c0 h_g0 h_c0 q_0 q_1 q_2 q_3
  have h1 := hI.f tf43_1
  refine r_putI (i := 64) (v := 0) (w := 11) rfl ly43 rfl ⟨by omega, by omega⟩ ?_
  have hI3 := hI.setf (b := 43) (w := 0) (z := c0) tf43_0 rfl (by omega) (by omega)
  have hF5 := hF.setf (b := 43) (w := 0) (z := c0) rfl
  have hR6 := hR.setf (b := 43) (w := 0) (z := c0)
  refine yT_gen (fun S2 hS4 => ?_)
  rw [hS4] at hI3 hF5 hR6 
  refine r_load (i := 65) (u := 0) (w := 2) rfl rfl rfl ?_
  have h7 := hI3.f tf43_0
  have h8 : S2.f 43 0 = c0 := by rw [← hS4]; exact ysf_eq
  refine r_getf (i := 66) (v := 0) (w := 11) (x := vi (S2.f 43 0)) rfl ly43 rfl rfl fun h9 => ?_
  have h9 : Rg (S2.f 43 0) := h9
  refine z_le (i := 67) (v := 70) rfl ⟨by omega, by omega⟩ (fun h10 => ?_) (fun h11 => ?_)
  · refine r_load (i := 70) (u := 0) (w := 2) rfl rfl rfl ?_
    refine r_getf (i := 71) (v := 2) (w := 11) (x := (2, 44)) rfl ly43 rfl rfl fun _ => ?_
    refine r_load (i := 72) (u := 0) (w := 2) rfl rfl rfl ?_
    have h13 := hI3.f tf43_1
    have h14 : S2.f 43 1 = S.f 43 1 := by rw [← hS4]; exact ysf_ne (by decide)
    refine r_getf (i := 73) (v := 1) (w := 11) (x := vi (S2.f 43 1)) rfl ly43 rfl rfl fun h15 => ?_
    have h15 : Rg (S2.f 43 1) := h15
    refine r_load (i := 74) (u := 1) (w := 0) rfl rfl rfl ?_
    refine s_bool (i := 75) rfl ly44 rfl (by omega) (by omega) (by omega) (by omega) ?_
    have hI17 := hI3.seta0 (b := 44) (j := (S2.f 43 1).toNat) (z := b) rfl rfl
    have hF19 := hF5.seta (b := 44) (j := (S2.f 43 1).toNat) (z := b) rfl
    have hR20 := hR6.seta (b := 44) (j := (S2.f 43 1).toNat) (z := b)
    refine yT_gen (fun S16 hS18 => ?_)
    rw [hS18] at hI17 hF19 hR20 
    refine r_load (i := 76) (u := 0) (w := 2) rfl rfl rfl ?_
    refine r_getf (i := 77) (v := 3) (w := 11) (x := (2, 45)) rfl ly43 rfl rfl fun _ => ?_
    refine r_load (i := 78) (u := 0) (w := 2) rfl rfl rfl ?_
    have h22 := hI17.f tf43_1
    have h23 : S16.f 43 1 = S2.f 43 1 := by rw [← hS18]; rfl
    have h24 : S2.f 43 1 = S.f 43 1 := by rw [← hS4]; exact ysf_ne (by decide)
    refine r_getf (i := 79) (v := 1) (w := 11) (x := vi (S16.f 43 1)) rfl ly43 rfl rfl fun h25 => ?_
    have h25 : Rg (S16.f 43 1) := h25
    refine r_load (i := 80) (u := 2) (w := 0) rfl rfl rfl ?_
    refine r_const (i := 81) (u := 1) (z := 1) rfl rfl ?_
    refine r_iand (i := 82) rfl ?_
    have h26 := @yand_c bits 1 (by decide) (by decide)
    have h27 := yand_p1 bits
    refine r_const (i := 83) (u := 1) (z := 1) rfl rfl ?_
    refine c_ne (i := 84) (v := 87) rfl ⟨by omega, by omega⟩ ⟨by omega, by omega⟩ (fun h28 => ?_) (fun h29 => ?_)
    · refine r_const (i := 87) (u := 0) (z := 0) rfl rfl ?_
      refine s_bool (i := 88) rfl ly45 rfl (by omega) (by omega) (by omega) (by omega) ?_
      have hI31 := hI17.seta0 (b := 45) (j := (S16.f 43 1).toNat) (z := 0) rfl rfl
      have hF33 := hF19.seta (b := 45) (j := (S16.f 43 1).toNat) (z := 0) rfl
      have hR34 := hR20.seta (b := 45) (j := (S16.f 43 1).toNat) (z := 0)
      refine yT_gen (fun S30 hS32 => ?_)
      rw [hS32] at hI31 hF33 hR34 
      refine r_load (i := 89) (u := 0) (w := 2) rfl rfl rfl ?_
      refine r_getf (i := 90) (v := 4) (w := 11) (x := (2, 46)) rfl ly43 rfl rfl fun _ => ?_
      refine r_load (i := 91) (u := 0) (w := 2) rfl rfl rfl ?_
      have h36 := hI31.f tf43_1
      have h37 : S30.f 43 1 = S16.f 43 1 := by rw [← hS32]; rfl
      have h38 : S16.f 43 1 = S2.f 43 1 := by rw [← hS18]; rfl
      have h39 : S2.f 43 1 = S.f 43 1 := by rw [← hS4]; exact ysf_ne (by decide)
      refine r_getf (i := 92) (v := 1) (w := 11) (x := vi (S30.f 43 1)) rfl ly43 rfl rfl fun h40 => ?_
      have h40 : Rg (S30.f 43 1) := h40
      refine r_load (i := 93) (u := 2) (w := 0) rfl rfl rfl ?_
      refine r_const (i := 94) (u := 2) (z := 2) rfl rfl ?_
      refine r_iand (i := 95) rfl ?_
      have h41 := @yand_c bits 2 (by decide) (by decide)
      have h42 := yand_p2 bits
      refine r_const (i := 96) (u := 2) (z := 2) rfl rfl ?_
      refine c_ne (i := 97) (v := 100) rfl ⟨by omega, by omega⟩ ⟨by omega, by omega⟩ (fun h43 => ?_) (fun h44 => ?_)
      · refine r_const (i := 100) (u := 0) (z := 0) rfl rfl ?_
        refine s_bool (i := 101) rfl ly46 rfl (by omega) (by omega) (by omega) (by omega) ?_
        have hI46 := hI31.seta0 (b := 46) (j := (S30.f 43 1).toNat) (z := 0) rfl rfl
        have hF48 := hF33.seta (b := 46) (j := (S30.f 43 1).toNat) (z := 0) rfl
        have hR49 := hR34.seta (b := 46) (j := (S30.f 43 1).toNat) (z := 0)
        refine yT_gen (fun S45 hS47 => ?_)
        rw [hS47] at hI46 hF48 hR49 
        refine r_load (i := 102) (u := 0) (w := 2) rfl rfl rfl ?_
        refine r_getf (i := 103) (v := 5) (w := 11) (x := (2, 47)) rfl ly43 rfl rfl fun _ => ?_
        refine r_load (i := 104) (u := 0) (w := 2) rfl rfl rfl ?_
        have h51 := hI46.f tf43_1
        have h52 : S45.f 43 1 = S30.f 43 1 := by rw [← hS47]; rfl
        have h53 : S30.f 43 1 = S16.f 43 1 := by rw [← hS32]; rfl
        have h54 : S16.f 43 1 = S2.f 43 1 := by rw [← hS18]; rfl
        have h55 : S2.f 43 1 = S.f 43 1 := by rw [← hS4]; exact ysf_ne (by decide)
        refine r_getf (i := 105) (v := 1) (w := 11) (x := vi (S45.f 43 1)) rfl ly43 rfl rfl fun h56 => ?_
        have h56 : Rg (S45.f 43 1) := h56
        refine r_load (i := 106) (u := 2) (w := 0) rfl rfl rfl ?_
        refine r_const (i := 107) (u := 4) (z := 4) rfl rfl ?_
        refine r_iand (i := 108) rfl ?_
        have h57 := @yand_c bits 4 (by decide) (by decide)
        have h58 := yand_p4 bits
        refine r_const (i := 109) (u := 4) (z := 4) rfl rfl ?_
        refine c_ne (i := 110) (v := 113) rfl ⟨by omega, by omega⟩ ⟨by omega, by omega⟩ (fun h59 => ?_) (fun h60 => ?_)
        · refine r_const (i := 113) (u := 0) (z := 0) rfl rfl ?_
          refine s_bool (i := 114) rfl ly47 rfl (by omega) (by omega) (by omega) (by omega) ?_
          have hI62 := hI46.seta0 (b := 47) (j := (S45.f 43 1).toNat) (z := 0) rfl rfl
          have hF64 := hF48.seta (b := 47) (j := (S45.f 43 1).toNat) (z := 0) rfl
          have hR65 := hR49.seta (b := 47) (j := (S45.f 43 1).toNat) (z := 0)
          refine yT_gen (fun S61 hS63 => ?_)
          rw [hS63] at hI62 hF64 hR65 
          refine r_load (i := 115) (u := 0) (w := 2) rfl rfl rfl ?_
          refine r_getf (i := 116) (v := 6) (w := 11) (x := (2, 48)) rfl ly43 rfl rfl fun _ => ?_
          refine r_load (i := 117) (u := 0) (w := 2) rfl rfl rfl ?_
          have h67 := hI62.f tf43_1
          have h68 : S61.f 43 1 = S45.f 43 1 := by rw [← hS63]; rfl
          have h69 : S45.f 43 1 = S30.f 43 1 := by rw [← hS47]; rfl
          have h70 : S30.f 43 1 = S16.f 43 1 := by rw [← hS32]; rfl
          have h71 : S16.f 43 1 = S2.f 43 1 := by rw [← hS18]; rfl
          have h72 : S2.f 43 1 = S.f 43 1 := by rw [← hS4]; exact ysf_ne (by decide)
          refine r_getf (i := 118) (v := 1) (w := 11) (x := vi (S61.f 43 1)) rfl ly43 rfl rfl fun h73 => ?_
          have h73 : Rg (S61.f 43 1) := h73
          refine r_load (i := 119) (u := 3) (w := 0) rfl rfl rfl ?_
          refine s_int (i := 120) rfl ly48 rfl (by omega) (by omega) ⟨by omega, by omega⟩ ?_
          have hI75 := hI62.seta (b := 48) (j := (S61.f 43 1).toNat) (z := p) ta48 rfl (by omega) (by omega)
          have hF77 := hF64.seta (b := 48) (j := (S61.f 43 1).toNat) (z := p) rfl
          have hR78 := hR65.seta (b := 48) (j := (S61.f 43 1).toNat) (z := p)
          refine yT_gen (fun S74 hS76 => ?_)
          rw [hS76] at hI75 hF77 hR78 
          refine r_load (i := 121) (u := 0) (w := 2) rfl rfl rfl ?_
          refine r_getf (i := 122) (v := 7) (w := 11) (x := (2, 49)) rfl ly43 rfl rfl fun _ => ?_
          refine r_load (i := 123) (u := 0) (w := 2) rfl rfl rfl ?_
          have h80 := hI75.f tf43_1
          have h81 : S74.f 43 1 = S61.f 43 1 := by rw [← hS76]; rfl
          have h82 : S61.f 43 1 = S45.f 43 1 := by rw [← hS63]; rfl
          have h83 : S45.f 43 1 = S30.f 43 1 := by rw [← hS47]; rfl
          have h84 : S30.f 43 1 = S16.f 43 1 := by rw [← hS32]; rfl
          have h85 : S16.f 43 1 = S2.f 43 1 := by rw [← hS18]; rfl
          have h86 : S2.f 43 1 = S.f 43 1 := by rw [← hS4]; exact ysf_ne (by decide)
          refine r_getf (i := 124) (v := 1) (w := 11) (x := vi (S74.f 43 1)) rfl ly43 rfl rfl fun h87 => ?_
          have h87 : Rg (S74.f 43 1) := h87
          refine r_load (i := 125) (u := 1) (w := 0) rfl rfl rfl ?_
          refine z_eq (i := 126) (v := 129) rfl ⟨by omega, by omega⟩ (fun h88 => ?_) (fun h89 => ?_)
          · refine r_load (i := 129) (u := 4) (w := 0) rfl rfl rfl ?_
            refine s_int (i := 130) rfl ly49 rfl (by omega) (by omega) ⟨by omega, by omega⟩ ?_
            have hI91 := hI75.seta49 (j := (S74.f 43 1).toNat) (z := up) (by omega) (by omega) (by omega)
            have hF93 := hF77.seta (b := 49) (j := (S74.f 43 1).toNat) (z := up) rfl
            have hR94 := hR78.seta (b := 49) (j := (S74.f 43 1).toNat) (z := up)
            refine yT_gen (fun S90 hS92 => ?_)
            rw [hS92] at hI91 hF93 hR94 
            refine r_load (i := 131) (u := 0) (w := 2) rfl rfl rfl ?_
            refine r_dup (i := 132) rfl rfl ?_
            have h95 := hI91.f tf43_1
            have h96 : S90.f 43 1 = S74.f 43 1 := by rw [← hS92]; rfl
            have h97 : S74.f 43 1 = S61.f 43 1 := by rw [← hS76]; rfl
            have h98 : S61.f 43 1 = S45.f 43 1 := by rw [← hS63]; rfl
            have h99 : S45.f 43 1 = S30.f 43 1 := by rw [← hS47]; rfl
            have h100 : S30.f 43 1 = S16.f 43 1 := by rw [← hS32]; rfl
            have h101 : S16.f 43 1 = S2.f 43 1 := by rw [← hS18]; rfl
            have h102 : S2.f 43 1 = S.f 43 1 := by rw [← hS4]; exact ysf_ne (by decide)
            refine r_getf (i := 133) (v := 1) (w := 11) (x := vi (S90.f 43 1)) rfl ly43 rfl rfl fun h103 => ?_
            have h103 : Rg (S90.f 43 1) := h103
            refine r_const (i := 134) (u := 1) (z := 1) rfl rfl ?_
            refine r_iadd (i := 135) rfl ?_
            refine r_putI (i := 136) (v := 1) (w := 11) rfl ly43 rfl ⟨by omega, by omega⟩ ?_
            have hI105 := hI91.setf (b := 43) (w := 1) (z := (S90.f 43 1) + 1) tf43_1 rfl (by omega) (by omega)
            have hF107 := hF93.setf (b := 43) (w := 1) (z := (S90.f 43 1) + 1) rfl
            have hR108 := hR94.setf (b := 43) (w := 1) (z := (S90.f 43 1) + 1)
            refine yT_gen (fun S104 hS106 => ?_)
            rw [hS106] at hI105 hF107 hR108 
            have h109 := hI105.f tf43_0
            have h110 : S104.f 43 0 = S90.f 43 0 := by rw [← hS106]; exact ysf_ne (by decide)
            have h111 : S90.f 43 0 = S74.f 43 0 := by rw [← hS92]; rfl
            have h112 : S74.f 43 0 = S61.f 43 0 := by rw [← hS76]; rfl
            have h113 : S61.f 43 0 = S45.f 43 0 := by rw [← hS63]; rfl
            have h114 : S45.f 43 0 = S30.f 43 0 := by rw [← hS47]; rfl
            have h115 : S30.f 43 0 = S16.f 43 0 := by rw [← hS32]; rfl
            have h116 : S16.f 43 0 = S2.f 43 0 := by rw [← hS18]; rfl
            have h117 : S2.f 43 0 = c0 := by rw [← hS4]; exact ysf_eq
            have h118 := hI105.f tf43_1
            have h119 : S104.f 43 1 = (S90.f 43 1) + 1 := by rw [← hS106]; exact ysf_eq
            refine r_load (i := 137) (u := 0) (w := 2) rfl rfl rfl ?_
            refine r_getf (i := 138) (v := 1) (w := 11) (x := vi (S104.f 43 1)) rfl ly43 rfl rfl fun h120 => ?_
            have h120 : Rg (S104.f 43 1) := h120
            refine r_const (i := 139) (u := 1) (z := 1) rfl rfl ?_
            refine r_isub (i := 140) rfl ?_
            exact r_retI (i := 141) rfl ⟨(S104.f 43 1) - 1, rfl, by omega, by omega, (by rw [← q_3]; exact Or.inl ⟨by omega, by unfold tyM; omega, by omega, by omega, 0, 0, 0, up, ⟨by omega, by omega, by omega, by omega, by omega⟩, by subst hS4 hS18 hS32 hS47 hS63 hS76 hS92 hS106; rfl, fun j => by subst hS4 hS18 hS32 hS47 hS63 hS76 hS92 hS106; rfl, fun j => by subst hS4 hS18 hS32 hS47 hS63 hS76 hS92 hS106; rfl, fun j => by subst hS4 hS18 hS32 hS47 hS63 hS76 hS92 hS106; rfl, fun j => by subst hS4 hS18 hS32 hS47 hS63 hS76 hS92 hS106; rfl, fun j => by subst hS4 hS18 hS32 hS47 hS63 hS76 hS92 hS106; rfl, fun j => by subst hS4 hS18 hS32 hS47 hS63 hS76 hS92 hS106; rfl⟩), hI105, hF107, hR108⟩
          · refine r_const (i := 127) (u := 4294967295) (z := -1) rfl rfl ?_
            refine r_goto (i := 128) (v := 130) rfl ?_
            refine s_int (i := 130) rfl ly49 rfl (by omega) (by omega) ⟨by omega, by omega⟩ ?_
            have hI122 := hI75.seta49 (j := (S74.f 43 1).toNat) (z := -1) (by omega) (by omega) (by omega)
            have hF124 := hF77.seta (b := 49) (j := (S74.f 43 1).toNat) (z := -1) rfl
            have hR125 := hR78.seta (b := 49) (j := (S74.f 43 1).toNat) (z := -1)
            refine yT_gen (fun S121 hS123 => ?_)
            rw [hS123] at hI122 hF124 hR125 
            refine r_load (i := 131) (u := 0) (w := 2) rfl rfl rfl ?_
            refine r_dup (i := 132) rfl rfl ?_
            have h126 := hI122.f tf43_1
            have h127 : S121.f 43 1 = S74.f 43 1 := by rw [← hS123]; rfl
            have h128 : S74.f 43 1 = S61.f 43 1 := by rw [← hS76]; rfl
            have h129 : S61.f 43 1 = S45.f 43 1 := by rw [← hS63]; rfl
            have h130 : S45.f 43 1 = S30.f 43 1 := by rw [← hS47]; rfl
            have h131 : S30.f 43 1 = S16.f 43 1 := by rw [← hS32]; rfl
            have h132 : S16.f 43 1 = S2.f 43 1 := by rw [← hS18]; rfl
            have h133 : S2.f 43 1 = S.f 43 1 := by rw [← hS4]; exact ysf_ne (by decide)
            refine r_getf (i := 133) (v := 1) (w := 11) (x := vi (S121.f 43 1)) rfl ly43 rfl rfl fun h134 => ?_
            have h134 : Rg (S121.f 43 1) := h134
            refine r_const (i := 134) (u := 1) (z := 1) rfl rfl ?_
            refine r_iadd (i := 135) rfl ?_
            refine r_putI (i := 136) (v := 1) (w := 11) rfl ly43 rfl ⟨by omega, by omega⟩ ?_
            have hI136 := hI122.setf (b := 43) (w := 1) (z := (S121.f 43 1) + 1) tf43_1 rfl (by omega) (by omega)
            have hF138 := hF124.setf (b := 43) (w := 1) (z := (S121.f 43 1) + 1) rfl
            have hR139 := hR125.setf (b := 43) (w := 1) (z := (S121.f 43 1) + 1)
            refine yT_gen (fun S135 hS137 => ?_)
            rw [hS137] at hI136 hF138 hR139 
            have h140 := hI136.f tf43_0
            have h141 : S135.f 43 0 = S121.f 43 0 := by rw [← hS137]; exact ysf_ne (by decide)
            have h142 : S121.f 43 0 = S74.f 43 0 := by rw [← hS123]; rfl
            have h143 : S74.f 43 0 = S61.f 43 0 := by rw [← hS76]; rfl
            have h144 : S61.f 43 0 = S45.f 43 0 := by rw [← hS63]; rfl
            have h145 : S45.f 43 0 = S30.f 43 0 := by rw [← hS47]; rfl
            have h146 : S30.f 43 0 = S16.f 43 0 := by rw [← hS32]; rfl
            have h147 : S16.f 43 0 = S2.f 43 0 := by rw [← hS18]; rfl
            have h148 : S2.f 43 0 = c0 := by rw [← hS4]; exact ysf_eq
            have h149 := hI136.f tf43_1
            have h150 : S135.f 43 1 = (S121.f 43 1) + 1 := by rw [← hS137]; exact ysf_eq
            refine r_load (i := 137) (u := 0) (w := 2) rfl rfl rfl ?_
            refine r_getf (i := 138) (v := 1) (w := 11) (x := vi (S135.f 43 1)) rfl ly43 rfl rfl fun h151 => ?_
            have h151 : Rg (S135.f 43 1) := h151
            refine r_const (i := 139) (u := 1) (z := 1) rfl rfl ?_
            refine r_isub (i := 140) rfl ?_
            exact r_retI (i := 141) rfl ⟨(S135.f 43 1) - 1, rfl, by omega, by omega, (by rw [← q_3]; exact Or.inl ⟨by omega, by unfold tyM; omega, by omega, by omega, 0, 0, 0, -1, ⟨by omega, by omega, by omega, by omega, by omega⟩, by subst hS4 hS18 hS32 hS47 hS63 hS76 hS123 hS137; rfl, fun j => by subst hS4 hS18 hS32 hS47 hS63 hS76 hS123 hS137; rfl, fun j => by subst hS4 hS18 hS32 hS47 hS63 hS76 hS123 hS137; rfl, fun j => by subst hS4 hS18 hS32 hS47 hS63 hS76 hS123 hS137; rfl, fun j => by subst hS4 hS18 hS32 hS47 hS63 hS76 hS123 hS137; rfl, fun j => by subst hS4 hS18 hS32 hS47 hS63 hS76 hS123 hS137; rfl, fun j => by subst hS4 hS18 hS32 hS47 hS63 hS76 hS123 hS137; rfl⟩), hI136, hF138, hR139⟩
        · refine r_const (i := 111) (u := 1) (z := 1) rfl rfl ?_
          refine r_goto (i := 112) (v := 114) rfl ?_
          refine s_bool (i := 114) rfl ly47 rfl (by omega) (by omega) (by omega) (by omega) ?_
          have hI153 := hI46.seta0 (b := 47) (j := (S45.f 43 1).toNat) (z := 1) rfl rfl
          have hF155 := hF48.seta (b := 47) (j := (S45.f 43 1).toNat) (z := 1) rfl
          have hR156 := hR49.seta (b := 47) (j := (S45.f 43 1).toNat) (z := 1)
          refine yT_gen (fun S152 hS154 => ?_)
          rw [hS154] at hI153 hF155 hR156 
          refine r_load (i := 115) (u := 0) (w := 2) rfl rfl rfl ?_
          refine r_getf (i := 116) (v := 6) (w := 11) (x := (2, 48)) rfl ly43 rfl rfl fun _ => ?_
          refine r_load (i := 117) (u := 0) (w := 2) rfl rfl rfl ?_
          have h158 := hI153.f tf43_1
          have h159 : S152.f 43 1 = S45.f 43 1 := by rw [← hS154]; rfl
          have h160 : S45.f 43 1 = S30.f 43 1 := by rw [← hS47]; rfl
          have h161 : S30.f 43 1 = S16.f 43 1 := by rw [← hS32]; rfl
          have h162 : S16.f 43 1 = S2.f 43 1 := by rw [← hS18]; rfl
          have h163 : S2.f 43 1 = S.f 43 1 := by rw [← hS4]; exact ysf_ne (by decide)
          refine r_getf (i := 118) (v := 1) (w := 11) (x := vi (S152.f 43 1)) rfl ly43 rfl rfl fun h164 => ?_
          have h164 : Rg (S152.f 43 1) := h164
          refine r_load (i := 119) (u := 3) (w := 0) rfl rfl rfl ?_
          refine s_int (i := 120) rfl ly48 rfl (by omega) (by omega) ⟨by omega, by omega⟩ ?_
          have hI166 := hI153.seta (b := 48) (j := (S152.f 43 1).toNat) (z := p) ta48 rfl (by omega) (by omega)
          have hF168 := hF155.seta (b := 48) (j := (S152.f 43 1).toNat) (z := p) rfl
          have hR169 := hR156.seta (b := 48) (j := (S152.f 43 1).toNat) (z := p)
          refine yT_gen (fun S165 hS167 => ?_)
          rw [hS167] at hI166 hF168 hR169 
          refine r_load (i := 121) (u := 0) (w := 2) rfl rfl rfl ?_
          refine r_getf (i := 122) (v := 7) (w := 11) (x := (2, 49)) rfl ly43 rfl rfl fun _ => ?_
          refine r_load (i := 123) (u := 0) (w := 2) rfl rfl rfl ?_
          have h171 := hI166.f tf43_1
          have h172 : S165.f 43 1 = S152.f 43 1 := by rw [← hS167]; rfl
          have h173 : S152.f 43 1 = S45.f 43 1 := by rw [← hS154]; rfl
          have h174 : S45.f 43 1 = S30.f 43 1 := by rw [← hS47]; rfl
          have h175 : S30.f 43 1 = S16.f 43 1 := by rw [← hS32]; rfl
          have h176 : S16.f 43 1 = S2.f 43 1 := by rw [← hS18]; rfl
          have h177 : S2.f 43 1 = S.f 43 1 := by rw [← hS4]; exact ysf_ne (by decide)
          refine r_getf (i := 124) (v := 1) (w := 11) (x := vi (S165.f 43 1)) rfl ly43 rfl rfl fun h178 => ?_
          have h178 : Rg (S165.f 43 1) := h178
          refine r_load (i := 125) (u := 1) (w := 0) rfl rfl rfl ?_
          refine z_eq (i := 126) (v := 129) rfl ⟨by omega, by omega⟩ (fun h179 => ?_) (fun h180 => ?_)
          · refine r_load (i := 129) (u := 4) (w := 0) rfl rfl rfl ?_
            refine s_int (i := 130) rfl ly49 rfl (by omega) (by omega) ⟨by omega, by omega⟩ ?_
            have hI182 := hI166.seta49 (j := (S165.f 43 1).toNat) (z := up) (by omega) (by omega) (by omega)
            have hF184 := hF168.seta (b := 49) (j := (S165.f 43 1).toNat) (z := up) rfl
            have hR185 := hR169.seta (b := 49) (j := (S165.f 43 1).toNat) (z := up)
            refine yT_gen (fun S181 hS183 => ?_)
            rw [hS183] at hI182 hF184 hR185 
            refine r_load (i := 131) (u := 0) (w := 2) rfl rfl rfl ?_
            refine r_dup (i := 132) rfl rfl ?_
            have h186 := hI182.f tf43_1
            have h187 : S181.f 43 1 = S165.f 43 1 := by rw [← hS183]; rfl
            have h188 : S165.f 43 1 = S152.f 43 1 := by rw [← hS167]; rfl
            have h189 : S152.f 43 1 = S45.f 43 1 := by rw [← hS154]; rfl
            have h190 : S45.f 43 1 = S30.f 43 1 := by rw [← hS47]; rfl
            have h191 : S30.f 43 1 = S16.f 43 1 := by rw [← hS32]; rfl
            have h192 : S16.f 43 1 = S2.f 43 1 := by rw [← hS18]; rfl
            have h193 : S2.f 43 1 = S.f 43 1 := by rw [← hS4]; exact ysf_ne (by decide)
            refine r_getf (i := 133) (v := 1) (w := 11) (x := vi (S181.f 43 1)) rfl ly43 rfl rfl fun h194 => ?_
            have h194 : Rg (S181.f 43 1) := h194
            refine r_const (i := 134) (u := 1) (z := 1) rfl rfl ?_
            refine r_iadd (i := 135) rfl ?_
            refine r_putI (i := 136) (v := 1) (w := 11) rfl ly43 rfl ⟨by omega, by omega⟩ ?_
            have hI196 := hI182.setf (b := 43) (w := 1) (z := (S181.f 43 1) + 1) tf43_1 rfl (by omega) (by omega)
            have hF198 := hF184.setf (b := 43) (w := 1) (z := (S181.f 43 1) + 1) rfl
            have hR199 := hR185.setf (b := 43) (w := 1) (z := (S181.f 43 1) + 1)
            refine yT_gen (fun S195 hS197 => ?_)
            rw [hS197] at hI196 hF198 hR199 
            have h200 := hI196.f tf43_0
            have h201 : S195.f 43 0 = S181.f 43 0 := by rw [← hS197]; exact ysf_ne (by decide)
            have h202 : S181.f 43 0 = S165.f 43 0 := by rw [← hS183]; rfl
            have h203 : S165.f 43 0 = S152.f 43 0 := by rw [← hS167]; rfl
            have h204 : S152.f 43 0 = S45.f 43 0 := by rw [← hS154]; rfl
            have h205 : S45.f 43 0 = S30.f 43 0 := by rw [← hS47]; rfl
            have h206 : S30.f 43 0 = S16.f 43 0 := by rw [← hS32]; rfl
            have h207 : S16.f 43 0 = S2.f 43 0 := by rw [← hS18]; rfl
            have h208 : S2.f 43 0 = c0 := by rw [← hS4]; exact ysf_eq
            have h209 := hI196.f tf43_1
            have h210 : S195.f 43 1 = (S181.f 43 1) + 1 := by rw [← hS197]; exact ysf_eq
            refine r_load (i := 137) (u := 0) (w := 2) rfl rfl rfl ?_
            refine r_getf (i := 138) (v := 1) (w := 11) (x := vi (S195.f 43 1)) rfl ly43 rfl rfl fun h211 => ?_
            have h211 : Rg (S195.f 43 1) := h211
            refine r_const (i := 139) (u := 1) (z := 1) rfl rfl ?_
            refine r_isub (i := 140) rfl ?_
            exact r_retI (i := 141) rfl ⟨(S195.f 43 1) - 1, rfl, by omega, by omega, (by rw [← q_3]; exact Or.inl ⟨by omega, by unfold tyM; omega, by omega, by omega, 0, 0, 1, up, ⟨by omega, by omega, by omega, by omega, by omega⟩, by subst hS4 hS18 hS32 hS47 hS154 hS167 hS183 hS197; rfl, fun j => by subst hS4 hS18 hS32 hS47 hS154 hS167 hS183 hS197; rfl, fun j => by subst hS4 hS18 hS32 hS47 hS154 hS167 hS183 hS197; rfl, fun j => by subst hS4 hS18 hS32 hS47 hS154 hS167 hS183 hS197; rfl, fun j => by subst hS4 hS18 hS32 hS47 hS154 hS167 hS183 hS197; rfl, fun j => by subst hS4 hS18 hS32 hS47 hS154 hS167 hS183 hS197; rfl, fun j => by subst hS4 hS18 hS32 hS47 hS154 hS167 hS183 hS197; rfl⟩), hI196, hF198, hR199⟩
          · refine r_const (i := 127) (u := 4294967295) (z := -1) rfl rfl ?_
            refine r_goto (i := 128) (v := 130) rfl ?_
            refine s_int (i := 130) rfl ly49 rfl (by omega) (by omega) ⟨by omega, by omega⟩ ?_
            have hI213 := hI166.seta49 (j := (S165.f 43 1).toNat) (z := -1) (by omega) (by omega) (by omega)
            have hF215 := hF168.seta (b := 49) (j := (S165.f 43 1).toNat) (z := -1) rfl
            have hR216 := hR169.seta (b := 49) (j := (S165.f 43 1).toNat) (z := -1)
            refine yT_gen (fun S212 hS214 => ?_)
            rw [hS214] at hI213 hF215 hR216 
            refine r_load (i := 131) (u := 0) (w := 2) rfl rfl rfl ?_
            refine r_dup (i := 132) rfl rfl ?_
            have h217 := hI213.f tf43_1
            have h218 : S212.f 43 1 = S165.f 43 1 := by rw [← hS214]; rfl
            have h219 : S165.f 43 1 = S152.f 43 1 := by rw [← hS167]; rfl
            have h220 : S152.f 43 1 = S45.f 43 1 := by rw [← hS154]; rfl
            have h221 : S45.f 43 1 = S30.f 43 1 := by rw [← hS47]; rfl
            have h222 : S30.f 43 1 = S16.f 43 1 := by rw [← hS32]; rfl
            have h223 : S16.f 43 1 = S2.f 43 1 := by rw [← hS18]; rfl
            have h224 : S2.f 43 1 = S.f 43 1 := by rw [← hS4]; exact ysf_ne (by decide)
            refine r_getf (i := 133) (v := 1) (w := 11) (x := vi (S212.f 43 1)) rfl ly43 rfl rfl fun h225 => ?_
            have h225 : Rg (S212.f 43 1) := h225
            refine r_const (i := 134) (u := 1) (z := 1) rfl rfl ?_
            refine r_iadd (i := 135) rfl ?_
            refine r_putI (i := 136) (v := 1) (w := 11) rfl ly43 rfl ⟨by omega, by omega⟩ ?_
            have hI227 := hI213.setf (b := 43) (w := 1) (z := (S212.f 43 1) + 1) tf43_1 rfl (by omega) (by omega)
            have hF229 := hF215.setf (b := 43) (w := 1) (z := (S212.f 43 1) + 1) rfl
            have hR230 := hR216.setf (b := 43) (w := 1) (z := (S212.f 43 1) + 1)
            refine yT_gen (fun S226 hS228 => ?_)
            rw [hS228] at hI227 hF229 hR230 
            have h231 := hI227.f tf43_0
            have h232 : S226.f 43 0 = S212.f 43 0 := by rw [← hS228]; exact ysf_ne (by decide)
            have h233 : S212.f 43 0 = S165.f 43 0 := by rw [← hS214]; rfl
            have h234 : S165.f 43 0 = S152.f 43 0 := by rw [← hS167]; rfl
            have h235 : S152.f 43 0 = S45.f 43 0 := by rw [← hS154]; rfl
            have h236 : S45.f 43 0 = S30.f 43 0 := by rw [← hS47]; rfl
            have h237 : S30.f 43 0 = S16.f 43 0 := by rw [← hS32]; rfl
            have h238 : S16.f 43 0 = S2.f 43 0 := by rw [← hS18]; rfl
            have h239 : S2.f 43 0 = c0 := by rw [← hS4]; exact ysf_eq
            have h240 := hI227.f tf43_1
            have h241 : S226.f 43 1 = (S212.f 43 1) + 1 := by rw [← hS228]; exact ysf_eq
            refine r_load (i := 137) (u := 0) (w := 2) rfl rfl rfl ?_
            refine r_getf (i := 138) (v := 1) (w := 11) (x := vi (S226.f 43 1)) rfl ly43 rfl rfl fun h242 => ?_
            have h242 : Rg (S226.f 43 1) := h242
            refine r_const (i := 139) (u := 1) (z := 1) rfl rfl ?_
            refine r_isub (i := 140) rfl ?_
            exact r_retI (i := 141) rfl ⟨(S226.f 43 1) - 1, rfl, by omega, by omega, (by rw [← q_3]; exact Or.inl ⟨by omega, by unfold tyM; omega, by omega, by omega, 0, 0, 1, -1, ⟨by omega, by omega, by omega, by omega, by omega⟩, by subst hS4 hS18 hS32 hS47 hS154 hS167 hS214 hS228; rfl, fun j => by subst hS4 hS18 hS32 hS47 hS154 hS167 hS214 hS228; rfl, fun j => by subst hS4 hS18 hS32 hS47 hS154 hS167 hS214 hS228; rfl, fun j => by subst hS4 hS18 hS32 hS47 hS154 hS167 hS214 hS228; rfl, fun j => by subst hS4 hS18 hS32 hS47 hS154 hS167 hS214 hS228; rfl, fun j => by subst hS4 hS18 hS32 hS47 hS154 hS167 hS214 hS228; rfl, fun j => by subst hS4 hS18 hS32 hS47 hS154 hS167 hS214 hS228; rfl⟩), hI227, hF229, hR230⟩
      · refine r_const (i := 98) (u := 1) (z := 1) rfl rfl ?_
        refine r_goto (i := 99) (v := 101) rfl ?_
        refine s_bool (i := 101) rfl ly46 rfl (by omega) (by omega) (by omega) (by omega) ?_
        have hI244 := hI31.seta0 (b := 46) (j := (S30.f 43 1).toNat) (z := 1) rfl rfl
        have hF246 := hF33.seta (b := 46) (j := (S30.f 43 1).toNat) (z := 1) rfl
        have hR247 := hR34.seta (b := 46) (j := (S30.f 43 1).toNat) (z := 1)
        refine yT_gen (fun S243 hS245 => ?_)
        rw [hS245] at hI244 hF246 hR247 
        refine r_load (i := 102) (u := 0) (w := 2) rfl rfl rfl ?_
        refine r_getf (i := 103) (v := 5) (w := 11) (x := (2, 47)) rfl ly43 rfl rfl fun _ => ?_
        refine r_load (i := 104) (u := 0) (w := 2) rfl rfl rfl ?_
        have h249 := hI244.f tf43_1
        have h250 : S243.f 43 1 = S30.f 43 1 := by rw [← hS245]; rfl
        have h251 : S30.f 43 1 = S16.f 43 1 := by rw [← hS32]; rfl
        have h252 : S16.f 43 1 = S2.f 43 1 := by rw [← hS18]; rfl
        have h253 : S2.f 43 1 = S.f 43 1 := by rw [← hS4]; exact ysf_ne (by decide)
        refine r_getf (i := 105) (v := 1) (w := 11) (x := vi (S243.f 43 1)) rfl ly43 rfl rfl fun h254 => ?_
        have h254 : Rg (S243.f 43 1) := h254
        refine r_load (i := 106) (u := 2) (w := 0) rfl rfl rfl ?_
        refine r_const (i := 107) (u := 4) (z := 4) rfl rfl ?_
        refine r_iand (i := 108) rfl ?_
        have h255 := @yand_c bits 4 (by decide) (by decide)
        have h256 := yand_p4 bits
        refine r_const (i := 109) (u := 4) (z := 4) rfl rfl ?_
        refine c_ne (i := 110) (v := 113) rfl ⟨by omega, by omega⟩ ⟨by omega, by omega⟩ (fun h257 => ?_) (fun h258 => ?_)
        · refine r_const (i := 113) (u := 0) (z := 0) rfl rfl ?_
          refine s_bool (i := 114) rfl ly47 rfl (by omega) (by omega) (by omega) (by omega) ?_
          have hI260 := hI244.seta0 (b := 47) (j := (S243.f 43 1).toNat) (z := 0) rfl rfl
          have hF262 := hF246.seta (b := 47) (j := (S243.f 43 1).toNat) (z := 0) rfl
          have hR263 := hR247.seta (b := 47) (j := (S243.f 43 1).toNat) (z := 0)
          refine yT_gen (fun S259 hS261 => ?_)
          rw [hS261] at hI260 hF262 hR263 
          refine r_load (i := 115) (u := 0) (w := 2) rfl rfl rfl ?_
          refine r_getf (i := 116) (v := 6) (w := 11) (x := (2, 48)) rfl ly43 rfl rfl fun _ => ?_
          refine r_load (i := 117) (u := 0) (w := 2) rfl rfl rfl ?_
          have h265 := hI260.f tf43_1
          have h266 : S259.f 43 1 = S243.f 43 1 := by rw [← hS261]; rfl
          have h267 : S243.f 43 1 = S30.f 43 1 := by rw [← hS245]; rfl
          have h268 : S30.f 43 1 = S16.f 43 1 := by rw [← hS32]; rfl
          have h269 : S16.f 43 1 = S2.f 43 1 := by rw [← hS18]; rfl
          have h270 : S2.f 43 1 = S.f 43 1 := by rw [← hS4]; exact ysf_ne (by decide)
          refine r_getf (i := 118) (v := 1) (w := 11) (x := vi (S259.f 43 1)) rfl ly43 rfl rfl fun h271 => ?_
          have h271 : Rg (S259.f 43 1) := h271
          refine r_load (i := 119) (u := 3) (w := 0) rfl rfl rfl ?_
          refine s_int (i := 120) rfl ly48 rfl (by omega) (by omega) ⟨by omega, by omega⟩ ?_
          have hI273 := hI260.seta (b := 48) (j := (S259.f 43 1).toNat) (z := p) ta48 rfl (by omega) (by omega)
          have hF275 := hF262.seta (b := 48) (j := (S259.f 43 1).toNat) (z := p) rfl
          have hR276 := hR263.seta (b := 48) (j := (S259.f 43 1).toNat) (z := p)
          refine yT_gen (fun S272 hS274 => ?_)
          rw [hS274] at hI273 hF275 hR276 
          refine r_load (i := 121) (u := 0) (w := 2) rfl rfl rfl ?_
          refine r_getf (i := 122) (v := 7) (w := 11) (x := (2, 49)) rfl ly43 rfl rfl fun _ => ?_
          refine r_load (i := 123) (u := 0) (w := 2) rfl rfl rfl ?_
          have h278 := hI273.f tf43_1
          have h279 : S272.f 43 1 = S259.f 43 1 := by rw [← hS274]; rfl
          have h280 : S259.f 43 1 = S243.f 43 1 := by rw [← hS261]; rfl
          have h281 : S243.f 43 1 = S30.f 43 1 := by rw [← hS245]; rfl
          have h282 : S30.f 43 1 = S16.f 43 1 := by rw [← hS32]; rfl
          have h283 : S16.f 43 1 = S2.f 43 1 := by rw [← hS18]; rfl
          have h284 : S2.f 43 1 = S.f 43 1 := by rw [← hS4]; exact ysf_ne (by decide)
          refine r_getf (i := 124) (v := 1) (w := 11) (x := vi (S272.f 43 1)) rfl ly43 rfl rfl fun h285 => ?_
          have h285 : Rg (S272.f 43 1) := h285
          refine r_load (i := 125) (u := 1) (w := 0) rfl rfl rfl ?_
          refine z_eq (i := 126) (v := 129) rfl ⟨by omega, by omega⟩ (fun h286 => ?_) (fun h287 => ?_)
          · refine r_load (i := 129) (u := 4) (w := 0) rfl rfl rfl ?_
            refine s_int (i := 130) rfl ly49 rfl (by omega) (by omega) ⟨by omega, by omega⟩ ?_
            have hI289 := hI273.seta49 (j := (S272.f 43 1).toNat) (z := up) (by omega) (by omega) (by omega)
            have hF291 := hF275.seta (b := 49) (j := (S272.f 43 1).toNat) (z := up) rfl
            have hR292 := hR276.seta (b := 49) (j := (S272.f 43 1).toNat) (z := up)
            refine yT_gen (fun S288 hS290 => ?_)
            rw [hS290] at hI289 hF291 hR292 
            refine r_load (i := 131) (u := 0) (w := 2) rfl rfl rfl ?_
            refine r_dup (i := 132) rfl rfl ?_
            have h293 := hI289.f tf43_1
            have h294 : S288.f 43 1 = S272.f 43 1 := by rw [← hS290]; rfl
            have h295 : S272.f 43 1 = S259.f 43 1 := by rw [← hS274]; rfl
            have h296 : S259.f 43 1 = S243.f 43 1 := by rw [← hS261]; rfl
            have h297 : S243.f 43 1 = S30.f 43 1 := by rw [← hS245]; rfl
            have h298 : S30.f 43 1 = S16.f 43 1 := by rw [← hS32]; rfl
            have h299 : S16.f 43 1 = S2.f 43 1 := by rw [← hS18]; rfl
            have h300 : S2.f 43 1 = S.f 43 1 := by rw [← hS4]; exact ysf_ne (by decide)
            refine r_getf (i := 133) (v := 1) (w := 11) (x := vi (S288.f 43 1)) rfl ly43 rfl rfl fun h301 => ?_
            have h301 : Rg (S288.f 43 1) := h301
            refine r_const (i := 134) (u := 1) (z := 1) rfl rfl ?_
            refine r_iadd (i := 135) rfl ?_
            refine r_putI (i := 136) (v := 1) (w := 11) rfl ly43 rfl ⟨by omega, by omega⟩ ?_
            have hI303 := hI289.setf (b := 43) (w := 1) (z := (S288.f 43 1) + 1) tf43_1 rfl (by omega) (by omega)
            have hF305 := hF291.setf (b := 43) (w := 1) (z := (S288.f 43 1) + 1) rfl
            have hR306 := hR292.setf (b := 43) (w := 1) (z := (S288.f 43 1) + 1)
            refine yT_gen (fun S302 hS304 => ?_)
            rw [hS304] at hI303 hF305 hR306 
            have h307 := hI303.f tf43_0
            have h308 : S302.f 43 0 = S288.f 43 0 := by rw [← hS304]; exact ysf_ne (by decide)
            have h309 : S288.f 43 0 = S272.f 43 0 := by rw [← hS290]; rfl
            have h310 : S272.f 43 0 = S259.f 43 0 := by rw [← hS274]; rfl
            have h311 : S259.f 43 0 = S243.f 43 0 := by rw [← hS261]; rfl
            have h312 : S243.f 43 0 = S30.f 43 0 := by rw [← hS245]; rfl
            have h313 : S30.f 43 0 = S16.f 43 0 := by rw [← hS32]; rfl
            have h314 : S16.f 43 0 = S2.f 43 0 := by rw [← hS18]; rfl
            have h315 : S2.f 43 0 = c0 := by rw [← hS4]; exact ysf_eq
            have h316 := hI303.f tf43_1
            have h317 : S302.f 43 1 = (S288.f 43 1) + 1 := by rw [← hS304]; exact ysf_eq
            refine r_load (i := 137) (u := 0) (w := 2) rfl rfl rfl ?_
            refine r_getf (i := 138) (v := 1) (w := 11) (x := vi (S302.f 43 1)) rfl ly43 rfl rfl fun h318 => ?_
            have h318 : Rg (S302.f 43 1) := h318
            refine r_const (i := 139) (u := 1) (z := 1) rfl rfl ?_
            refine r_isub (i := 140) rfl ?_
            exact r_retI (i := 141) rfl ⟨(S302.f 43 1) - 1, rfl, by omega, by omega, (by rw [← q_3]; exact Or.inl ⟨by omega, by unfold tyM; omega, by omega, by omega, 0, 1, 0, up, ⟨by omega, by omega, by omega, by omega, by omega⟩, by subst hS4 hS18 hS32 hS245 hS261 hS274 hS290 hS304; rfl, fun j => by subst hS4 hS18 hS32 hS245 hS261 hS274 hS290 hS304; rfl, fun j => by subst hS4 hS18 hS32 hS245 hS261 hS274 hS290 hS304; rfl, fun j => by subst hS4 hS18 hS32 hS245 hS261 hS274 hS290 hS304; rfl, fun j => by subst hS4 hS18 hS32 hS245 hS261 hS274 hS290 hS304; rfl, fun j => by subst hS4 hS18 hS32 hS245 hS261 hS274 hS290 hS304; rfl, fun j => by subst hS4 hS18 hS32 hS245 hS261 hS274 hS290 hS304; rfl⟩), hI303, hF305, hR306⟩
          · refine r_const (i := 127) (u := 4294967295) (z := -1) rfl rfl ?_
            refine r_goto (i := 128) (v := 130) rfl ?_
            refine s_int (i := 130) rfl ly49 rfl (by omega) (by omega) ⟨by omega, by omega⟩ ?_
            have hI320 := hI273.seta49 (j := (S272.f 43 1).toNat) (z := -1) (by omega) (by omega) (by omega)
            have hF322 := hF275.seta (b := 49) (j := (S272.f 43 1).toNat) (z := -1) rfl
            have hR323 := hR276.seta (b := 49) (j := (S272.f 43 1).toNat) (z := -1)
            refine yT_gen (fun S319 hS321 => ?_)
            rw [hS321] at hI320 hF322 hR323 
            refine r_load (i := 131) (u := 0) (w := 2) rfl rfl rfl ?_
            refine r_dup (i := 132) rfl rfl ?_
            have h324 := hI320.f tf43_1
            have h325 : S319.f 43 1 = S272.f 43 1 := by rw [← hS321]; rfl
            have h326 : S272.f 43 1 = S259.f 43 1 := by rw [← hS274]; rfl
            have h327 : S259.f 43 1 = S243.f 43 1 := by rw [← hS261]; rfl
            have h328 : S243.f 43 1 = S30.f 43 1 := by rw [← hS245]; rfl
            have h329 : S30.f 43 1 = S16.f 43 1 := by rw [← hS32]; rfl
            have h330 : S16.f 43 1 = S2.f 43 1 := by rw [← hS18]; rfl
            have h331 : S2.f 43 1 = S.f 43 1 := by rw [← hS4]; exact ysf_ne (by decide)
            refine r_getf (i := 133) (v := 1) (w := 11) (x := vi (S319.f 43 1)) rfl ly43 rfl rfl fun h332 => ?_
            have h332 : Rg (S319.f 43 1) := h332
            refine r_const (i := 134) (u := 1) (z := 1) rfl rfl ?_
            refine r_iadd (i := 135) rfl ?_
            refine r_putI (i := 136) (v := 1) (w := 11) rfl ly43 rfl ⟨by omega, by omega⟩ ?_
            have hI334 := hI320.setf (b := 43) (w := 1) (z := (S319.f 43 1) + 1) tf43_1 rfl (by omega) (by omega)
            have hF336 := hF322.setf (b := 43) (w := 1) (z := (S319.f 43 1) + 1) rfl
            have hR337 := hR323.setf (b := 43) (w := 1) (z := (S319.f 43 1) + 1)
            refine yT_gen (fun S333 hS335 => ?_)
            rw [hS335] at hI334 hF336 hR337 
            have h338 := hI334.f tf43_0
            have h339 : S333.f 43 0 = S319.f 43 0 := by rw [← hS335]; exact ysf_ne (by decide)
            have h340 : S319.f 43 0 = S272.f 43 0 := by rw [← hS321]; rfl
            have h341 : S272.f 43 0 = S259.f 43 0 := by rw [← hS274]; rfl
            have h342 : S259.f 43 0 = S243.f 43 0 := by rw [← hS261]; rfl
            have h343 : S243.f 43 0 = S30.f 43 0 := by rw [← hS245]; rfl
            have h344 : S30.f 43 0 = S16.f 43 0 := by rw [← hS32]; rfl
            have h345 : S16.f 43 0 = S2.f 43 0 := by rw [← hS18]; rfl
            have h346 : S2.f 43 0 = c0 := by rw [← hS4]; exact ysf_eq
            have h347 := hI334.f tf43_1
            have h348 : S333.f 43 1 = (S319.f 43 1) + 1 := by rw [← hS335]; exact ysf_eq
            refine r_load (i := 137) (u := 0) (w := 2) rfl rfl rfl ?_
            refine r_getf (i := 138) (v := 1) (w := 11) (x := vi (S333.f 43 1)) rfl ly43 rfl rfl fun h349 => ?_
            have h349 : Rg (S333.f 43 1) := h349
            refine r_const (i := 139) (u := 1) (z := 1) rfl rfl ?_
            refine r_isub (i := 140) rfl ?_
            exact r_retI (i := 141) rfl ⟨(S333.f 43 1) - 1, rfl, by omega, by omega, (by rw [← q_3]; exact Or.inl ⟨by omega, by unfold tyM; omega, by omega, by omega, 0, 1, 0, -1, ⟨by omega, by omega, by omega, by omega, by omega⟩, by subst hS4 hS18 hS32 hS245 hS261 hS274 hS321 hS335; rfl, fun j => by subst hS4 hS18 hS32 hS245 hS261 hS274 hS321 hS335; rfl, fun j => by subst hS4 hS18 hS32 hS245 hS261 hS274 hS321 hS335; rfl, fun j => by subst hS4 hS18 hS32 hS245 hS261 hS274 hS321 hS335; rfl, fun j => by subst hS4 hS18 hS32 hS245 hS261 hS274 hS321 hS335; rfl, fun j => by subst hS4 hS18 hS32 hS245 hS261 hS274 hS321 hS335; rfl, fun j => by subst hS4 hS18 hS32 hS245 hS261 hS274 hS321 hS335; rfl⟩), hI334, hF336, hR337⟩
        · refine r_const (i := 111) (u := 1) (z := 1) rfl rfl ?_
          refine r_goto (i := 112) (v := 114) rfl ?_
          refine s_bool (i := 114) rfl ly47 rfl (by omega) (by omega) (by omega) (by omega) ?_
          have hI351 := hI244.seta0 (b := 47) (j := (S243.f 43 1).toNat) (z := 1) rfl rfl
          have hF353 := hF246.seta (b := 47) (j := (S243.f 43 1).toNat) (z := 1) rfl
          have hR354 := hR247.seta (b := 47) (j := (S243.f 43 1).toNat) (z := 1)
          refine yT_gen (fun S350 hS352 => ?_)
          rw [hS352] at hI351 hF353 hR354 
          refine r_load (i := 115) (u := 0) (w := 2) rfl rfl rfl ?_
          refine r_getf (i := 116) (v := 6) (w := 11) (x := (2, 48)) rfl ly43 rfl rfl fun _ => ?_
          refine r_load (i := 117) (u := 0) (w := 2) rfl rfl rfl ?_
          have h356 := hI351.f tf43_1
          have h357 : S350.f 43 1 = S243.f 43 1 := by rw [← hS352]; rfl
          have h358 : S243.f 43 1 = S30.f 43 1 := by rw [← hS245]; rfl
          have h359 : S30.f 43 1 = S16.f 43 1 := by rw [← hS32]; rfl
          have h360 : S16.f 43 1 = S2.f 43 1 := by rw [← hS18]; rfl
          have h361 : S2.f 43 1 = S.f 43 1 := by rw [← hS4]; exact ysf_ne (by decide)
          refine r_getf (i := 118) (v := 1) (w := 11) (x := vi (S350.f 43 1)) rfl ly43 rfl rfl fun h362 => ?_
          have h362 : Rg (S350.f 43 1) := h362
          refine r_load (i := 119) (u := 3) (w := 0) rfl rfl rfl ?_
          refine s_int (i := 120) rfl ly48 rfl (by omega) (by omega) ⟨by omega, by omega⟩ ?_
          have hI364 := hI351.seta (b := 48) (j := (S350.f 43 1).toNat) (z := p) ta48 rfl (by omega) (by omega)
          have hF366 := hF353.seta (b := 48) (j := (S350.f 43 1).toNat) (z := p) rfl
          have hR367 := hR354.seta (b := 48) (j := (S350.f 43 1).toNat) (z := p)
          refine yT_gen (fun S363 hS365 => ?_)
          rw [hS365] at hI364 hF366 hR367 
          refine r_load (i := 121) (u := 0) (w := 2) rfl rfl rfl ?_
          refine r_getf (i := 122) (v := 7) (w := 11) (x := (2, 49)) rfl ly43 rfl rfl fun _ => ?_
          refine r_load (i := 123) (u := 0) (w := 2) rfl rfl rfl ?_
          have h369 := hI364.f tf43_1
          have h370 : S363.f 43 1 = S350.f 43 1 := by rw [← hS365]; rfl
          have h371 : S350.f 43 1 = S243.f 43 1 := by rw [← hS352]; rfl
          have h372 : S243.f 43 1 = S30.f 43 1 := by rw [← hS245]; rfl
          have h373 : S30.f 43 1 = S16.f 43 1 := by rw [← hS32]; rfl
          have h374 : S16.f 43 1 = S2.f 43 1 := by rw [← hS18]; rfl
          have h375 : S2.f 43 1 = S.f 43 1 := by rw [← hS4]; exact ysf_ne (by decide)
          refine r_getf (i := 124) (v := 1) (w := 11) (x := vi (S363.f 43 1)) rfl ly43 rfl rfl fun h376 => ?_
          have h376 : Rg (S363.f 43 1) := h376
          refine r_load (i := 125) (u := 1) (w := 0) rfl rfl rfl ?_
          refine z_eq (i := 126) (v := 129) rfl ⟨by omega, by omega⟩ (fun h377 => ?_) (fun h378 => ?_)
          · refine r_load (i := 129) (u := 4) (w := 0) rfl rfl rfl ?_
            refine s_int (i := 130) rfl ly49 rfl (by omega) (by omega) ⟨by omega, by omega⟩ ?_
            have hI380 := hI364.seta49 (j := (S363.f 43 1).toNat) (z := up) (by omega) (by omega) (by omega)
            have hF382 := hF366.seta (b := 49) (j := (S363.f 43 1).toNat) (z := up) rfl
            have hR383 := hR367.seta (b := 49) (j := (S363.f 43 1).toNat) (z := up)
            refine yT_gen (fun S379 hS381 => ?_)
            rw [hS381] at hI380 hF382 hR383 
            refine r_load (i := 131) (u := 0) (w := 2) rfl rfl rfl ?_
            refine r_dup (i := 132) rfl rfl ?_
            have h384 := hI380.f tf43_1
            have h385 : S379.f 43 1 = S363.f 43 1 := by rw [← hS381]; rfl
            have h386 : S363.f 43 1 = S350.f 43 1 := by rw [← hS365]; rfl
            have h387 : S350.f 43 1 = S243.f 43 1 := by rw [← hS352]; rfl
            have h388 : S243.f 43 1 = S30.f 43 1 := by rw [← hS245]; rfl
            have h389 : S30.f 43 1 = S16.f 43 1 := by rw [← hS32]; rfl
            have h390 : S16.f 43 1 = S2.f 43 1 := by rw [← hS18]; rfl
            have h391 : S2.f 43 1 = S.f 43 1 := by rw [← hS4]; exact ysf_ne (by decide)
            refine r_getf (i := 133) (v := 1) (w := 11) (x := vi (S379.f 43 1)) rfl ly43 rfl rfl fun h392 => ?_
            have h392 : Rg (S379.f 43 1) := h392
            refine r_const (i := 134) (u := 1) (z := 1) rfl rfl ?_
            refine r_iadd (i := 135) rfl ?_
            refine r_putI (i := 136) (v := 1) (w := 11) rfl ly43 rfl ⟨by omega, by omega⟩ ?_
            have hI394 := hI380.setf (b := 43) (w := 1) (z := (S379.f 43 1) + 1) tf43_1 rfl (by omega) (by omega)
            have hF396 := hF382.setf (b := 43) (w := 1) (z := (S379.f 43 1) + 1) rfl
            have hR397 := hR383.setf (b := 43) (w := 1) (z := (S379.f 43 1) + 1)
            refine yT_gen (fun S393 hS395 => ?_)
            rw [hS395] at hI394 hF396 hR397 
            have h398 := hI394.f tf43_0
            have h399 : S393.f 43 0 = S379.f 43 0 := by rw [← hS395]; exact ysf_ne (by decide)
            have h400 : S379.f 43 0 = S363.f 43 0 := by rw [← hS381]; rfl
            have h401 : S363.f 43 0 = S350.f 43 0 := by rw [← hS365]; rfl
            have h402 : S350.f 43 0 = S243.f 43 0 := by rw [← hS352]; rfl
            have h403 : S243.f 43 0 = S30.f 43 0 := by rw [← hS245]; rfl
            have h404 : S30.f 43 0 = S16.f 43 0 := by rw [← hS32]; rfl
            have h405 : S16.f 43 0 = S2.f 43 0 := by rw [← hS18]; rfl
            have h406 : S2.f 43 0 = c0 := by rw [← hS4]; exact ysf_eq
            have h407 := hI394.f tf43_1
            have h408 : S393.f 43 1 = (S379.f 43 1) + 1 := by rw [← hS395]; exact ysf_eq
            refine r_load (i := 137) (u := 0) (w := 2) rfl rfl rfl ?_
            refine r_getf (i := 138) (v := 1) (w := 11) (x := vi (S393.f 43 1)) rfl ly43 rfl rfl fun h409 => ?_
            have h409 : Rg (S393.f 43 1) := h409
            refine r_const (i := 139) (u := 1) (z := 1) rfl rfl ?_
            refine r_isub (i := 140) rfl ?_
            exact r_retI (i := 141) rfl ⟨(S393.f 43 1) - 1, rfl, by omega, by omega, (by rw [← q_3]; exact Or.inl ⟨by omega, by unfold tyM; omega, by omega, by omega, 0, 1, 1, up, ⟨by omega, by omega, by omega, by omega, by omega⟩, by subst hS4 hS18 hS32 hS245 hS352 hS365 hS381 hS395; rfl, fun j => by subst hS4 hS18 hS32 hS245 hS352 hS365 hS381 hS395; rfl, fun j => by subst hS4 hS18 hS32 hS245 hS352 hS365 hS381 hS395; rfl, fun j => by subst hS4 hS18 hS32 hS245 hS352 hS365 hS381 hS395; rfl, fun j => by subst hS4 hS18 hS32 hS245 hS352 hS365 hS381 hS395; rfl, fun j => by subst hS4 hS18 hS32 hS245 hS352 hS365 hS381 hS395; rfl, fun j => by subst hS4 hS18 hS32 hS245 hS352 hS365 hS381 hS395; rfl⟩), hI394, hF396, hR397⟩
          · refine r_const (i := 127) (u := 4294967295) (z := -1) rfl rfl ?_
            refine r_goto (i := 128) (v := 130) rfl ?_
            refine s_int (i := 130) rfl ly49 rfl (by omega) (by omega) ⟨by omega, by omega⟩ ?_
            have hI411 := hI364.seta49 (j := (S363.f 43 1).toNat) (z := -1) (by omega) (by omega) (by omega)
            have hF413 := hF366.seta (b := 49) (j := (S363.f 43 1).toNat) (z := -1) rfl
            have hR414 := hR367.seta (b := 49) (j := (S363.f 43 1).toNat) (z := -1)
            refine yT_gen (fun S410 hS412 => ?_)
            rw [hS412] at hI411 hF413 hR414 
            refine r_load (i := 131) (u := 0) (w := 2) rfl rfl rfl ?_
            refine r_dup (i := 132) rfl rfl ?_
            have h415 := hI411.f tf43_1
            have h416 : S410.f 43 1 = S363.f 43 1 := by rw [← hS412]; rfl
            have h417 : S363.f 43 1 = S350.f 43 1 := by rw [← hS365]; rfl
            have h418 : S350.f 43 1 = S243.f 43 1 := by rw [← hS352]; rfl
            have h419 : S243.f 43 1 = S30.f 43 1 := by rw [← hS245]; rfl
            have h420 : S30.f 43 1 = S16.f 43 1 := by rw [← hS32]; rfl
            have h421 : S16.f 43 1 = S2.f 43 1 := by rw [← hS18]; rfl
            have h422 : S2.f 43 1 = S.f 43 1 := by rw [← hS4]; exact ysf_ne (by decide)
            refine r_getf (i := 133) (v := 1) (w := 11) (x := vi (S410.f 43 1)) rfl ly43 rfl rfl fun h423 => ?_
            have h423 : Rg (S410.f 43 1) := h423
            refine r_const (i := 134) (u := 1) (z := 1) rfl rfl ?_
            refine r_iadd (i := 135) rfl ?_
            refine r_putI (i := 136) (v := 1) (w := 11) rfl ly43 rfl ⟨by omega, by omega⟩ ?_
            have hI425 := hI411.setf (b := 43) (w := 1) (z := (S410.f 43 1) + 1) tf43_1 rfl (by omega) (by omega)
            have hF427 := hF413.setf (b := 43) (w := 1) (z := (S410.f 43 1) + 1) rfl
            have hR428 := hR414.setf (b := 43) (w := 1) (z := (S410.f 43 1) + 1)
            refine yT_gen (fun S424 hS426 => ?_)
            rw [hS426] at hI425 hF427 hR428 
            have h429 := hI425.f tf43_0
            have h430 : S424.f 43 0 = S410.f 43 0 := by rw [← hS426]; exact ysf_ne (by decide)
            have h431 : S410.f 43 0 = S363.f 43 0 := by rw [← hS412]; rfl
            have h432 : S363.f 43 0 = S350.f 43 0 := by rw [← hS365]; rfl
            have h433 : S350.f 43 0 = S243.f 43 0 := by rw [← hS352]; rfl
            have h434 : S243.f 43 0 = S30.f 43 0 := by rw [← hS245]; rfl
            have h435 : S30.f 43 0 = S16.f 43 0 := by rw [← hS32]; rfl
            have h436 : S16.f 43 0 = S2.f 43 0 := by rw [← hS18]; rfl
            have h437 : S2.f 43 0 = c0 := by rw [← hS4]; exact ysf_eq
            have h438 := hI425.f tf43_1
            have h439 : S424.f 43 1 = (S410.f 43 1) + 1 := by rw [← hS426]; exact ysf_eq
            refine r_load (i := 137) (u := 0) (w := 2) rfl rfl rfl ?_
            refine r_getf (i := 138) (v := 1) (w := 11) (x := vi (S424.f 43 1)) rfl ly43 rfl rfl fun h440 => ?_
            have h440 : Rg (S424.f 43 1) := h440
            refine r_const (i := 139) (u := 1) (z := 1) rfl rfl ?_
            refine r_isub (i := 140) rfl ?_
            exact r_retI (i := 141) rfl ⟨(S424.f 43 1) - 1, rfl, by omega, by omega, (by rw [← q_3]; exact Or.inl ⟨by omega, by unfold tyM; omega, by omega, by omega, 0, 1, 1, -1, ⟨by omega, by omega, by omega, by omega, by omega⟩, by subst hS4 hS18 hS32 hS245 hS352 hS365 hS412 hS426; rfl, fun j => by subst hS4 hS18 hS32 hS245 hS352 hS365 hS412 hS426; rfl, fun j => by subst hS4 hS18 hS32 hS245 hS352 hS365 hS412 hS426; rfl, fun j => by subst hS4 hS18 hS32 hS245 hS352 hS365 hS412 hS426; rfl, fun j => by subst hS4 hS18 hS32 hS245 hS352 hS365 hS412 hS426; rfl, fun j => by subst hS4 hS18 hS32 hS245 hS352 hS365 hS412 hS426; rfl, fun j => by subst hS4 hS18 hS32 hS245 hS352 hS365 hS412 hS426; rfl⟩), hI425, hF427, hR428⟩
    · refine r_const (i := 85) (u := 1) (z := 1) rfl rfl ?_
      refine r_goto (i := 86) (v := 88) rfl ?_
      refine s_bool (i := 88) rfl ly45 rfl (by omega) (by omega) (by omega) (by omega) ?_
      have hI442 := hI17.seta0 (b := 45) (j := (S16.f 43 1).toNat) (z := 1) rfl rfl
      have hF444 := hF19.seta (b := 45) (j := (S16.f 43 1).toNat) (z := 1) rfl
      have hR445 := hR20.seta (b := 45) (j := (S16.f 43 1).toNat) (z := 1)
      refine yT_gen (fun S441 hS443 => ?_)
      rw [hS443] at hI442 hF444 hR445 
      refine r_load (i := 89) (u := 0) (w := 2) rfl rfl rfl ?_
      refine r_getf (i := 90) (v := 4) (w := 11) (x := (2, 46)) rfl ly43 rfl rfl fun _ => ?_
      refine r_load (i := 91) (u := 0) (w := 2) rfl rfl rfl ?_
      have h447 := hI442.f tf43_1
      have h448 : S441.f 43 1 = S16.f 43 1 := by rw [← hS443]; rfl
      have h449 : S16.f 43 1 = S2.f 43 1 := by rw [← hS18]; rfl
      have h450 : S2.f 43 1 = S.f 43 1 := by rw [← hS4]; exact ysf_ne (by decide)
      refine r_getf (i := 92) (v := 1) (w := 11) (x := vi (S441.f 43 1)) rfl ly43 rfl rfl fun h451 => ?_
      have h451 : Rg (S441.f 43 1) := h451
      refine r_load (i := 93) (u := 2) (w := 0) rfl rfl rfl ?_
      refine r_const (i := 94) (u := 2) (z := 2) rfl rfl ?_
      refine r_iand (i := 95) rfl ?_
      have h452 := @yand_c bits 2 (by decide) (by decide)
      have h453 := yand_p2 bits
      refine r_const (i := 96) (u := 2) (z := 2) rfl rfl ?_
      refine c_ne (i := 97) (v := 100) rfl ⟨by omega, by omega⟩ ⟨by omega, by omega⟩ (fun h454 => ?_) (fun h455 => ?_)
      · refine r_const (i := 100) (u := 0) (z := 0) rfl rfl ?_
        refine s_bool (i := 101) rfl ly46 rfl (by omega) (by omega) (by omega) (by omega) ?_
        have hI457 := hI442.seta0 (b := 46) (j := (S441.f 43 1).toNat) (z := 0) rfl rfl
        have hF459 := hF444.seta (b := 46) (j := (S441.f 43 1).toNat) (z := 0) rfl
        have hR460 := hR445.seta (b := 46) (j := (S441.f 43 1).toNat) (z := 0)
        refine yT_gen (fun S456 hS458 => ?_)
        rw [hS458] at hI457 hF459 hR460 
        refine r_load (i := 102) (u := 0) (w := 2) rfl rfl rfl ?_
        refine r_getf (i := 103) (v := 5) (w := 11) (x := (2, 47)) rfl ly43 rfl rfl fun _ => ?_
        refine r_load (i := 104) (u := 0) (w := 2) rfl rfl rfl ?_
        have h462 := hI457.f tf43_1
        have h463 : S456.f 43 1 = S441.f 43 1 := by rw [← hS458]; rfl
        have h464 : S441.f 43 1 = S16.f 43 1 := by rw [← hS443]; rfl
        have h465 : S16.f 43 1 = S2.f 43 1 := by rw [← hS18]; rfl
        have h466 : S2.f 43 1 = S.f 43 1 := by rw [← hS4]; exact ysf_ne (by decide)
        refine r_getf (i := 105) (v := 1) (w := 11) (x := vi (S456.f 43 1)) rfl ly43 rfl rfl fun h467 => ?_
        have h467 : Rg (S456.f 43 1) := h467
        refine r_load (i := 106) (u := 2) (w := 0) rfl rfl rfl ?_
        refine r_const (i := 107) (u := 4) (z := 4) rfl rfl ?_
        refine r_iand (i := 108) rfl ?_
        have h468 := @yand_c bits 4 (by decide) (by decide)
        have h469 := yand_p4 bits
        refine r_const (i := 109) (u := 4) (z := 4) rfl rfl ?_
        refine c_ne (i := 110) (v := 113) rfl ⟨by omega, by omega⟩ ⟨by omega, by omega⟩ (fun h470 => ?_) (fun h471 => ?_)
        · refine r_const (i := 113) (u := 0) (z := 0) rfl rfl ?_
          refine s_bool (i := 114) rfl ly47 rfl (by omega) (by omega) (by omega) (by omega) ?_
          have hI473 := hI457.seta0 (b := 47) (j := (S456.f 43 1).toNat) (z := 0) rfl rfl
          have hF475 := hF459.seta (b := 47) (j := (S456.f 43 1).toNat) (z := 0) rfl
          have hR476 := hR460.seta (b := 47) (j := (S456.f 43 1).toNat) (z := 0)
          refine yT_gen (fun S472 hS474 => ?_)
          rw [hS474] at hI473 hF475 hR476 
          refine r_load (i := 115) (u := 0) (w := 2) rfl rfl rfl ?_
          refine r_getf (i := 116) (v := 6) (w := 11) (x := (2, 48)) rfl ly43 rfl rfl fun _ => ?_
          refine r_load (i := 117) (u := 0) (w := 2) rfl rfl rfl ?_
          have h478 := hI473.f tf43_1
          have h479 : S472.f 43 1 = S456.f 43 1 := by rw [← hS474]; rfl
          have h480 : S456.f 43 1 = S441.f 43 1 := by rw [← hS458]; rfl
          have h481 : S441.f 43 1 = S16.f 43 1 := by rw [← hS443]; rfl
          have h482 : S16.f 43 1 = S2.f 43 1 := by rw [← hS18]; rfl
          have h483 : S2.f 43 1 = S.f 43 1 := by rw [← hS4]; exact ysf_ne (by decide)
          refine r_getf (i := 118) (v := 1) (w := 11) (x := vi (S472.f 43 1)) rfl ly43 rfl rfl fun h484 => ?_
          have h484 : Rg (S472.f 43 1) := h484
          refine r_load (i := 119) (u := 3) (w := 0) rfl rfl rfl ?_
          refine s_int (i := 120) rfl ly48 rfl (by omega) (by omega) ⟨by omega, by omega⟩ ?_
          have hI486 := hI473.seta (b := 48) (j := (S472.f 43 1).toNat) (z := p) ta48 rfl (by omega) (by omega)
          have hF488 := hF475.seta (b := 48) (j := (S472.f 43 1).toNat) (z := p) rfl
          have hR489 := hR476.seta (b := 48) (j := (S472.f 43 1).toNat) (z := p)
          refine yT_gen (fun S485 hS487 => ?_)
          rw [hS487] at hI486 hF488 hR489 
          refine r_load (i := 121) (u := 0) (w := 2) rfl rfl rfl ?_
          refine r_getf (i := 122) (v := 7) (w := 11) (x := (2, 49)) rfl ly43 rfl rfl fun _ => ?_
          refine r_load (i := 123) (u := 0) (w := 2) rfl rfl rfl ?_
          have h491 := hI486.f tf43_1
          have h492 : S485.f 43 1 = S472.f 43 1 := by rw [← hS487]; rfl
          have h493 : S472.f 43 1 = S456.f 43 1 := by rw [← hS474]; rfl
          have h494 : S456.f 43 1 = S441.f 43 1 := by rw [← hS458]; rfl
          have h495 : S441.f 43 1 = S16.f 43 1 := by rw [← hS443]; rfl
          have h496 : S16.f 43 1 = S2.f 43 1 := by rw [← hS18]; rfl
          have h497 : S2.f 43 1 = S.f 43 1 := by rw [← hS4]; exact ysf_ne (by decide)
          refine r_getf (i := 124) (v := 1) (w := 11) (x := vi (S485.f 43 1)) rfl ly43 rfl rfl fun h498 => ?_
          have h498 : Rg (S485.f 43 1) := h498
          refine r_load (i := 125) (u := 1) (w := 0) rfl rfl rfl ?_
          refine z_eq (i := 126) (v := 129) rfl ⟨by omega, by omega⟩ (fun h499 => ?_) (fun h500 => ?_)
          · refine r_load (i := 129) (u := 4) (w := 0) rfl rfl rfl ?_
            refine s_int (i := 130) rfl ly49 rfl (by omega) (by omega) ⟨by omega, by omega⟩ ?_
            have hI502 := hI486.seta49 (j := (S485.f 43 1).toNat) (z := up) (by omega) (by omega) (by omega)
            have hF504 := hF488.seta (b := 49) (j := (S485.f 43 1).toNat) (z := up) rfl
            have hR505 := hR489.seta (b := 49) (j := (S485.f 43 1).toNat) (z := up)
            refine yT_gen (fun S501 hS503 => ?_)
            rw [hS503] at hI502 hF504 hR505 
            refine r_load (i := 131) (u := 0) (w := 2) rfl rfl rfl ?_
            refine r_dup (i := 132) rfl rfl ?_
            have h506 := hI502.f tf43_1
            have h507 : S501.f 43 1 = S485.f 43 1 := by rw [← hS503]; rfl
            have h508 : S485.f 43 1 = S472.f 43 1 := by rw [← hS487]; rfl
            have h509 : S472.f 43 1 = S456.f 43 1 := by rw [← hS474]; rfl
            have h510 : S456.f 43 1 = S441.f 43 1 := by rw [← hS458]; rfl
            have h511 : S441.f 43 1 = S16.f 43 1 := by rw [← hS443]; rfl
            have h512 : S16.f 43 1 = S2.f 43 1 := by rw [← hS18]; rfl
            have h513 : S2.f 43 1 = S.f 43 1 := by rw [← hS4]; exact ysf_ne (by decide)
            refine r_getf (i := 133) (v := 1) (w := 11) (x := vi (S501.f 43 1)) rfl ly43 rfl rfl fun h514 => ?_
            have h514 : Rg (S501.f 43 1) := h514
            refine r_const (i := 134) (u := 1) (z := 1) rfl rfl ?_
            refine r_iadd (i := 135) rfl ?_
            refine r_putI (i := 136) (v := 1) (w := 11) rfl ly43 rfl ⟨by omega, by omega⟩ ?_
            have hI516 := hI502.setf (b := 43) (w := 1) (z := (S501.f 43 1) + 1) tf43_1 rfl (by omega) (by omega)
            have hF518 := hF504.setf (b := 43) (w := 1) (z := (S501.f 43 1) + 1) rfl
            have hR519 := hR505.setf (b := 43) (w := 1) (z := (S501.f 43 1) + 1)
            refine yT_gen (fun S515 hS517 => ?_)
            rw [hS517] at hI516 hF518 hR519 
            have h520 := hI516.f tf43_0
            have h521 : S515.f 43 0 = S501.f 43 0 := by rw [← hS517]; exact ysf_ne (by decide)
            have h522 : S501.f 43 0 = S485.f 43 0 := by rw [← hS503]; rfl
            have h523 : S485.f 43 0 = S472.f 43 0 := by rw [← hS487]; rfl
            have h524 : S472.f 43 0 = S456.f 43 0 := by rw [← hS474]; rfl
            have h525 : S456.f 43 0 = S441.f 43 0 := by rw [← hS458]; rfl
            have h526 : S441.f 43 0 = S16.f 43 0 := by rw [← hS443]; rfl
            have h527 : S16.f 43 0 = S2.f 43 0 := by rw [← hS18]; rfl
            have h528 : S2.f 43 0 = c0 := by rw [← hS4]; exact ysf_eq
            have h529 := hI516.f tf43_1
            have h530 : S515.f 43 1 = (S501.f 43 1) + 1 := by rw [← hS517]; exact ysf_eq
            refine r_load (i := 137) (u := 0) (w := 2) rfl rfl rfl ?_
            refine r_getf (i := 138) (v := 1) (w := 11) (x := vi (S515.f 43 1)) rfl ly43 rfl rfl fun h531 => ?_
            have h531 : Rg (S515.f 43 1) := h531
            refine r_const (i := 139) (u := 1) (z := 1) rfl rfl ?_
            refine r_isub (i := 140) rfl ?_
            exact r_retI (i := 141) rfl ⟨(S515.f 43 1) - 1, rfl, by omega, by omega, (by rw [← q_3]; exact Or.inl ⟨by omega, by unfold tyM; omega, by omega, by omega, 1, 0, 0, up, ⟨by omega, by omega, by omega, by omega, by omega⟩, by subst hS4 hS18 hS443 hS458 hS474 hS487 hS503 hS517; rfl, fun j => by subst hS4 hS18 hS443 hS458 hS474 hS487 hS503 hS517; rfl, fun j => by subst hS4 hS18 hS443 hS458 hS474 hS487 hS503 hS517; rfl, fun j => by subst hS4 hS18 hS443 hS458 hS474 hS487 hS503 hS517; rfl, fun j => by subst hS4 hS18 hS443 hS458 hS474 hS487 hS503 hS517; rfl, fun j => by subst hS4 hS18 hS443 hS458 hS474 hS487 hS503 hS517; rfl, fun j => by subst hS4 hS18 hS443 hS458 hS474 hS487 hS503 hS517; rfl⟩), hI516, hF518, hR519⟩
          · refine r_const (i := 127) (u := 4294967295) (z := -1) rfl rfl ?_
            refine r_goto (i := 128) (v := 130) rfl ?_
            refine s_int (i := 130) rfl ly49 rfl (by omega) (by omega) ⟨by omega, by omega⟩ ?_
            have hI533 := hI486.seta49 (j := (S485.f 43 1).toNat) (z := -1) (by omega) (by omega) (by omega)
            have hF535 := hF488.seta (b := 49) (j := (S485.f 43 1).toNat) (z := -1) rfl
            have hR536 := hR489.seta (b := 49) (j := (S485.f 43 1).toNat) (z := -1)
            refine yT_gen (fun S532 hS534 => ?_)
            rw [hS534] at hI533 hF535 hR536 
            refine r_load (i := 131) (u := 0) (w := 2) rfl rfl rfl ?_
            refine r_dup (i := 132) rfl rfl ?_
            have h537 := hI533.f tf43_1
            have h538 : S532.f 43 1 = S485.f 43 1 := by rw [← hS534]; rfl
            have h539 : S485.f 43 1 = S472.f 43 1 := by rw [← hS487]; rfl
            have h540 : S472.f 43 1 = S456.f 43 1 := by rw [← hS474]; rfl
            have h541 : S456.f 43 1 = S441.f 43 1 := by rw [← hS458]; rfl
            have h542 : S441.f 43 1 = S16.f 43 1 := by rw [← hS443]; rfl
            have h543 : S16.f 43 1 = S2.f 43 1 := by rw [← hS18]; rfl
            have h544 : S2.f 43 1 = S.f 43 1 := by rw [← hS4]; exact ysf_ne (by decide)
            refine r_getf (i := 133) (v := 1) (w := 11) (x := vi (S532.f 43 1)) rfl ly43 rfl rfl fun h545 => ?_
            have h545 : Rg (S532.f 43 1) := h545
            refine r_const (i := 134) (u := 1) (z := 1) rfl rfl ?_
            refine r_iadd (i := 135) rfl ?_
            refine r_putI (i := 136) (v := 1) (w := 11) rfl ly43 rfl ⟨by omega, by omega⟩ ?_
            have hI547 := hI533.setf (b := 43) (w := 1) (z := (S532.f 43 1) + 1) tf43_1 rfl (by omega) (by omega)
            have hF549 := hF535.setf (b := 43) (w := 1) (z := (S532.f 43 1) + 1) rfl
            have hR550 := hR536.setf (b := 43) (w := 1) (z := (S532.f 43 1) + 1)
            refine yT_gen (fun S546 hS548 => ?_)
            rw [hS548] at hI547 hF549 hR550 
            have h551 := hI547.f tf43_0
            have h552 : S546.f 43 0 = S532.f 43 0 := by rw [← hS548]; exact ysf_ne (by decide)
            have h553 : S532.f 43 0 = S485.f 43 0 := by rw [← hS534]; rfl
            have h554 : S485.f 43 0 = S472.f 43 0 := by rw [← hS487]; rfl
            have h555 : S472.f 43 0 = S456.f 43 0 := by rw [← hS474]; rfl
            have h556 : S456.f 43 0 = S441.f 43 0 := by rw [← hS458]; rfl
            have h557 : S441.f 43 0 = S16.f 43 0 := by rw [← hS443]; rfl
            have h558 : S16.f 43 0 = S2.f 43 0 := by rw [← hS18]; rfl
            have h559 : S2.f 43 0 = c0 := by rw [← hS4]; exact ysf_eq
            have h560 := hI547.f tf43_1
            have h561 : S546.f 43 1 = (S532.f 43 1) + 1 := by rw [← hS548]; exact ysf_eq
            refine r_load (i := 137) (u := 0) (w := 2) rfl rfl rfl ?_
            refine r_getf (i := 138) (v := 1) (w := 11) (x := vi (S546.f 43 1)) rfl ly43 rfl rfl fun h562 => ?_
            have h562 : Rg (S546.f 43 1) := h562
            refine r_const (i := 139) (u := 1) (z := 1) rfl rfl ?_
            refine r_isub (i := 140) rfl ?_
            exact r_retI (i := 141) rfl ⟨(S546.f 43 1) - 1, rfl, by omega, by omega, (by rw [← q_3]; exact Or.inl ⟨by omega, by unfold tyM; omega, by omega, by omega, 1, 0, 0, -1, ⟨by omega, by omega, by omega, by omega, by omega⟩, by subst hS4 hS18 hS443 hS458 hS474 hS487 hS534 hS548; rfl, fun j => by subst hS4 hS18 hS443 hS458 hS474 hS487 hS534 hS548; rfl, fun j => by subst hS4 hS18 hS443 hS458 hS474 hS487 hS534 hS548; rfl, fun j => by subst hS4 hS18 hS443 hS458 hS474 hS487 hS534 hS548; rfl, fun j => by subst hS4 hS18 hS443 hS458 hS474 hS487 hS534 hS548; rfl, fun j => by subst hS4 hS18 hS443 hS458 hS474 hS487 hS534 hS548; rfl, fun j => by subst hS4 hS18 hS443 hS458 hS474 hS487 hS534 hS548; rfl⟩), hI547, hF549, hR550⟩
        · refine r_const (i := 111) (u := 1) (z := 1) rfl rfl ?_
          refine r_goto (i := 112) (v := 114) rfl ?_
          refine s_bool (i := 114) rfl ly47 rfl (by omega) (by omega) (by omega) (by omega) ?_
          have hI564 := hI457.seta0 (b := 47) (j := (S456.f 43 1).toNat) (z := 1) rfl rfl
          have hF566 := hF459.seta (b := 47) (j := (S456.f 43 1).toNat) (z := 1) rfl
          have hR567 := hR460.seta (b := 47) (j := (S456.f 43 1).toNat) (z := 1)
          refine yT_gen (fun S563 hS565 => ?_)
          rw [hS565] at hI564 hF566 hR567 
          refine r_load (i := 115) (u := 0) (w := 2) rfl rfl rfl ?_
          refine r_getf (i := 116) (v := 6) (w := 11) (x := (2, 48)) rfl ly43 rfl rfl fun _ => ?_
          refine r_load (i := 117) (u := 0) (w := 2) rfl rfl rfl ?_
          have h569 := hI564.f tf43_1
          have h570 : S563.f 43 1 = S456.f 43 1 := by rw [← hS565]; rfl
          have h571 : S456.f 43 1 = S441.f 43 1 := by rw [← hS458]; rfl
          have h572 : S441.f 43 1 = S16.f 43 1 := by rw [← hS443]; rfl
          have h573 : S16.f 43 1 = S2.f 43 1 := by rw [← hS18]; rfl
          have h574 : S2.f 43 1 = S.f 43 1 := by rw [← hS4]; exact ysf_ne (by decide)
          refine r_getf (i := 118) (v := 1) (w := 11) (x := vi (S563.f 43 1)) rfl ly43 rfl rfl fun h575 => ?_
          have h575 : Rg (S563.f 43 1) := h575
          refine r_load (i := 119) (u := 3) (w := 0) rfl rfl rfl ?_
          refine s_int (i := 120) rfl ly48 rfl (by omega) (by omega) ⟨by omega, by omega⟩ ?_
          have hI577 := hI564.seta (b := 48) (j := (S563.f 43 1).toNat) (z := p) ta48 rfl (by omega) (by omega)
          have hF579 := hF566.seta (b := 48) (j := (S563.f 43 1).toNat) (z := p) rfl
          have hR580 := hR567.seta (b := 48) (j := (S563.f 43 1).toNat) (z := p)
          refine yT_gen (fun S576 hS578 => ?_)
          rw [hS578] at hI577 hF579 hR580 
          refine r_load (i := 121) (u := 0) (w := 2) rfl rfl rfl ?_
          refine r_getf (i := 122) (v := 7) (w := 11) (x := (2, 49)) rfl ly43 rfl rfl fun _ => ?_
          refine r_load (i := 123) (u := 0) (w := 2) rfl rfl rfl ?_
          have h582 := hI577.f tf43_1
          have h583 : S576.f 43 1 = S563.f 43 1 := by rw [← hS578]; rfl
          have h584 : S563.f 43 1 = S456.f 43 1 := by rw [← hS565]; rfl
          have h585 : S456.f 43 1 = S441.f 43 1 := by rw [← hS458]; rfl
          have h586 : S441.f 43 1 = S16.f 43 1 := by rw [← hS443]; rfl
          have h587 : S16.f 43 1 = S2.f 43 1 := by rw [← hS18]; rfl
          have h588 : S2.f 43 1 = S.f 43 1 := by rw [← hS4]; exact ysf_ne (by decide)
          refine r_getf (i := 124) (v := 1) (w := 11) (x := vi (S576.f 43 1)) rfl ly43 rfl rfl fun h589 => ?_
          have h589 : Rg (S576.f 43 1) := h589
          refine r_load (i := 125) (u := 1) (w := 0) rfl rfl rfl ?_
          refine z_eq (i := 126) (v := 129) rfl ⟨by omega, by omega⟩ (fun h590 => ?_) (fun h591 => ?_)
          · refine r_load (i := 129) (u := 4) (w := 0) rfl rfl rfl ?_
            refine s_int (i := 130) rfl ly49 rfl (by omega) (by omega) ⟨by omega, by omega⟩ ?_
            have hI593 := hI577.seta49 (j := (S576.f 43 1).toNat) (z := up) (by omega) (by omega) (by omega)
            have hF595 := hF579.seta (b := 49) (j := (S576.f 43 1).toNat) (z := up) rfl
            have hR596 := hR580.seta (b := 49) (j := (S576.f 43 1).toNat) (z := up)
            refine yT_gen (fun S592 hS594 => ?_)
            rw [hS594] at hI593 hF595 hR596 
            refine r_load (i := 131) (u := 0) (w := 2) rfl rfl rfl ?_
            refine r_dup (i := 132) rfl rfl ?_
            have h597 := hI593.f tf43_1
            have h598 : S592.f 43 1 = S576.f 43 1 := by rw [← hS594]; rfl
            have h599 : S576.f 43 1 = S563.f 43 1 := by rw [← hS578]; rfl
            have h600 : S563.f 43 1 = S456.f 43 1 := by rw [← hS565]; rfl
            have h601 : S456.f 43 1 = S441.f 43 1 := by rw [← hS458]; rfl
            have h602 : S441.f 43 1 = S16.f 43 1 := by rw [← hS443]; rfl
            have h603 : S16.f 43 1 = S2.f 43 1 := by rw [← hS18]; rfl
            have h604 : S2.f 43 1 = S.f 43 1 := by rw [← hS4]; exact ysf_ne (by decide)
            refine r_getf (i := 133) (v := 1) (w := 11) (x := vi (S592.f 43 1)) rfl ly43 rfl rfl fun h605 => ?_
            have h605 : Rg (S592.f 43 1) := h605
            refine r_const (i := 134) (u := 1) (z := 1) rfl rfl ?_
            refine r_iadd (i := 135) rfl ?_
            refine r_putI (i := 136) (v := 1) (w := 11) rfl ly43 rfl ⟨by omega, by omega⟩ ?_
            have hI607 := hI593.setf (b := 43) (w := 1) (z := (S592.f 43 1) + 1) tf43_1 rfl (by omega) (by omega)
            have hF609 := hF595.setf (b := 43) (w := 1) (z := (S592.f 43 1) + 1) rfl
            have hR610 := hR596.setf (b := 43) (w := 1) (z := (S592.f 43 1) + 1)
            refine yT_gen (fun S606 hS608 => ?_)
            rw [hS608] at hI607 hF609 hR610 
            have h611 := hI607.f tf43_0
            have h612 : S606.f 43 0 = S592.f 43 0 := by rw [← hS608]; exact ysf_ne (by decide)
            have h613 : S592.f 43 0 = S576.f 43 0 := by rw [← hS594]; rfl
            have h614 : S576.f 43 0 = S563.f 43 0 := by rw [← hS578]; rfl
            have h615 : S563.f 43 0 = S456.f 43 0 := by rw [← hS565]; rfl
            have h616 : S456.f 43 0 = S441.f 43 0 := by rw [← hS458]; rfl
            have h617 : S441.f 43 0 = S16.f 43 0 := by rw [← hS443]; rfl
            have h618 : S16.f 43 0 = S2.f 43 0 := by rw [← hS18]; rfl
            have h619 : S2.f 43 0 = c0 := by rw [← hS4]; exact ysf_eq
            have h620 := hI607.f tf43_1
            have h621 : S606.f 43 1 = (S592.f 43 1) + 1 := by rw [← hS608]; exact ysf_eq
            refine r_load (i := 137) (u := 0) (w := 2) rfl rfl rfl ?_
            refine r_getf (i := 138) (v := 1) (w := 11) (x := vi (S606.f 43 1)) rfl ly43 rfl rfl fun h622 => ?_
            have h622 : Rg (S606.f 43 1) := h622
            refine r_const (i := 139) (u := 1) (z := 1) rfl rfl ?_
            refine r_isub (i := 140) rfl ?_
            exact r_retI (i := 141) rfl ⟨(S606.f 43 1) - 1, rfl, by omega, by omega, (by rw [← q_3]; exact Or.inl ⟨by omega, by unfold tyM; omega, by omega, by omega, 1, 0, 1, up, ⟨by omega, by omega, by omega, by omega, by omega⟩, by subst hS4 hS18 hS443 hS458 hS565 hS578 hS594 hS608; rfl, fun j => by subst hS4 hS18 hS443 hS458 hS565 hS578 hS594 hS608; rfl, fun j => by subst hS4 hS18 hS443 hS458 hS565 hS578 hS594 hS608; rfl, fun j => by subst hS4 hS18 hS443 hS458 hS565 hS578 hS594 hS608; rfl, fun j => by subst hS4 hS18 hS443 hS458 hS565 hS578 hS594 hS608; rfl, fun j => by subst hS4 hS18 hS443 hS458 hS565 hS578 hS594 hS608; rfl, fun j => by subst hS4 hS18 hS443 hS458 hS565 hS578 hS594 hS608; rfl⟩), hI607, hF609, hR610⟩
          · refine r_const (i := 127) (u := 4294967295) (z := -1) rfl rfl ?_
            refine r_goto (i := 128) (v := 130) rfl ?_
            refine s_int (i := 130) rfl ly49 rfl (by omega) (by omega) ⟨by omega, by omega⟩ ?_
            have hI624 := hI577.seta49 (j := (S576.f 43 1).toNat) (z := -1) (by omega) (by omega) (by omega)
            have hF626 := hF579.seta (b := 49) (j := (S576.f 43 1).toNat) (z := -1) rfl
            have hR627 := hR580.seta (b := 49) (j := (S576.f 43 1).toNat) (z := -1)
            refine yT_gen (fun S623 hS625 => ?_)
            rw [hS625] at hI624 hF626 hR627 
            refine r_load (i := 131) (u := 0) (w := 2) rfl rfl rfl ?_
            refine r_dup (i := 132) rfl rfl ?_
            have h628 := hI624.f tf43_1
            have h629 : S623.f 43 1 = S576.f 43 1 := by rw [← hS625]; rfl
            have h630 : S576.f 43 1 = S563.f 43 1 := by rw [← hS578]; rfl
            have h631 : S563.f 43 1 = S456.f 43 1 := by rw [← hS565]; rfl
            have h632 : S456.f 43 1 = S441.f 43 1 := by rw [← hS458]; rfl
            have h633 : S441.f 43 1 = S16.f 43 1 := by rw [← hS443]; rfl
            have h634 : S16.f 43 1 = S2.f 43 1 := by rw [← hS18]; rfl
            have h635 : S2.f 43 1 = S.f 43 1 := by rw [← hS4]; exact ysf_ne (by decide)
            refine r_getf (i := 133) (v := 1) (w := 11) (x := vi (S623.f 43 1)) rfl ly43 rfl rfl fun h636 => ?_
            have h636 : Rg (S623.f 43 1) := h636
            refine r_const (i := 134) (u := 1) (z := 1) rfl rfl ?_
            refine r_iadd (i := 135) rfl ?_
            refine r_putI (i := 136) (v := 1) (w := 11) rfl ly43 rfl ⟨by omega, by omega⟩ ?_
            have hI638 := hI624.setf (b := 43) (w := 1) (z := (S623.f 43 1) + 1) tf43_1 rfl (by omega) (by omega)
            have hF640 := hF626.setf (b := 43) (w := 1) (z := (S623.f 43 1) + 1) rfl
            have hR641 := hR627.setf (b := 43) (w := 1) (z := (S623.f 43 1) + 1)
            refine yT_gen (fun S637 hS639 => ?_)
            rw [hS639] at hI638 hF640 hR641 
            have h642 := hI638.f tf43_0
            have h643 : S637.f 43 0 = S623.f 43 0 := by rw [← hS639]; exact ysf_ne (by decide)
            have h644 : S623.f 43 0 = S576.f 43 0 := by rw [← hS625]; rfl
            have h645 : S576.f 43 0 = S563.f 43 0 := by rw [← hS578]; rfl
            have h646 : S563.f 43 0 = S456.f 43 0 := by rw [← hS565]; rfl
            have h647 : S456.f 43 0 = S441.f 43 0 := by rw [← hS458]; rfl
            have h648 : S441.f 43 0 = S16.f 43 0 := by rw [← hS443]; rfl
            have h649 : S16.f 43 0 = S2.f 43 0 := by rw [← hS18]; rfl
            have h650 : S2.f 43 0 = c0 := by rw [← hS4]; exact ysf_eq
            have h651 := hI638.f tf43_1
            have h652 : S637.f 43 1 = (S623.f 43 1) + 1 := by rw [← hS639]; exact ysf_eq
            refine r_load (i := 137) (u := 0) (w := 2) rfl rfl rfl ?_
            refine r_getf (i := 138) (v := 1) (w := 11) (x := vi (S637.f 43 1)) rfl ly43 rfl rfl fun h653 => ?_
            have h653 : Rg (S637.f 43 1) := h653
            refine r_const (i := 139) (u := 1) (z := 1) rfl rfl ?_
            refine r_isub (i := 140) rfl ?_
            exact r_retI (i := 141) rfl ⟨(S637.f 43 1) - 1, rfl, by omega, by omega, (by rw [← q_3]; exact Or.inl ⟨by omega, by unfold tyM; omega, by omega, by omega, 1, 0, 1, -1, ⟨by omega, by omega, by omega, by omega, by omega⟩, by subst hS4 hS18 hS443 hS458 hS565 hS578 hS625 hS639; rfl, fun j => by subst hS4 hS18 hS443 hS458 hS565 hS578 hS625 hS639; rfl, fun j => by subst hS4 hS18 hS443 hS458 hS565 hS578 hS625 hS639; rfl, fun j => by subst hS4 hS18 hS443 hS458 hS565 hS578 hS625 hS639; rfl, fun j => by subst hS4 hS18 hS443 hS458 hS565 hS578 hS625 hS639; rfl, fun j => by subst hS4 hS18 hS443 hS458 hS565 hS578 hS625 hS639; rfl, fun j => by subst hS4 hS18 hS443 hS458 hS565 hS578 hS625 hS639; rfl⟩), hI638, hF640, hR641⟩
      · refine r_const (i := 98) (u := 1) (z := 1) rfl rfl ?_
        refine r_goto (i := 99) (v := 101) rfl ?_
        refine s_bool (i := 101) rfl ly46 rfl (by omega) (by omega) (by omega) (by omega) ?_
        have hI655 := hI442.seta0 (b := 46) (j := (S441.f 43 1).toNat) (z := 1) rfl rfl
        have hF657 := hF444.seta (b := 46) (j := (S441.f 43 1).toNat) (z := 1) rfl
        have hR658 := hR445.seta (b := 46) (j := (S441.f 43 1).toNat) (z := 1)
        refine yT_gen (fun S654 hS656 => ?_)
        rw [hS656] at hI655 hF657 hR658 
        refine r_load (i := 102) (u := 0) (w := 2) rfl rfl rfl ?_
        refine r_getf (i := 103) (v := 5) (w := 11) (x := (2, 47)) rfl ly43 rfl rfl fun _ => ?_
        refine r_load (i := 104) (u := 0) (w := 2) rfl rfl rfl ?_
        have h660 := hI655.f tf43_1
        have h661 : S654.f 43 1 = S441.f 43 1 := by rw [← hS656]; rfl
        have h662 : S441.f 43 1 = S16.f 43 1 := by rw [← hS443]; rfl
        have h663 : S16.f 43 1 = S2.f 43 1 := by rw [← hS18]; rfl
        have h664 : S2.f 43 1 = S.f 43 1 := by rw [← hS4]; exact ysf_ne (by decide)
        refine r_getf (i := 105) (v := 1) (w := 11) (x := vi (S654.f 43 1)) rfl ly43 rfl rfl fun h665 => ?_
        have h665 : Rg (S654.f 43 1) := h665
        refine r_load (i := 106) (u := 2) (w := 0) rfl rfl rfl ?_
        refine r_const (i := 107) (u := 4) (z := 4) rfl rfl ?_
        refine r_iand (i := 108) rfl ?_
        have h666 := @yand_c bits 4 (by decide) (by decide)
        have h667 := yand_p4 bits
        refine r_const (i := 109) (u := 4) (z := 4) rfl rfl ?_
        refine c_ne (i := 110) (v := 113) rfl ⟨by omega, by omega⟩ ⟨by omega, by omega⟩ (fun h668 => ?_) (fun h669 => ?_)
        · refine r_const (i := 113) (u := 0) (z := 0) rfl rfl ?_
          refine s_bool (i := 114) rfl ly47 rfl (by omega) (by omega) (by omega) (by omega) ?_
          have hI671 := hI655.seta0 (b := 47) (j := (S654.f 43 1).toNat) (z := 0) rfl rfl
          have hF673 := hF657.seta (b := 47) (j := (S654.f 43 1).toNat) (z := 0) rfl
          have hR674 := hR658.seta (b := 47) (j := (S654.f 43 1).toNat) (z := 0)
          refine yT_gen (fun S670 hS672 => ?_)
          rw [hS672] at hI671 hF673 hR674 
          refine r_load (i := 115) (u := 0) (w := 2) rfl rfl rfl ?_
          refine r_getf (i := 116) (v := 6) (w := 11) (x := (2, 48)) rfl ly43 rfl rfl fun _ => ?_
          refine r_load (i := 117) (u := 0) (w := 2) rfl rfl rfl ?_
          have h676 := hI671.f tf43_1
          have h677 : S670.f 43 1 = S654.f 43 1 := by rw [← hS672]; rfl
          have h678 : S654.f 43 1 = S441.f 43 1 := by rw [← hS656]; rfl
          have h679 : S441.f 43 1 = S16.f 43 1 := by rw [← hS443]; rfl
          have h680 : S16.f 43 1 = S2.f 43 1 := by rw [← hS18]; rfl
          have h681 : S2.f 43 1 = S.f 43 1 := by rw [← hS4]; exact ysf_ne (by decide)
          refine r_getf (i := 118) (v := 1) (w := 11) (x := vi (S670.f 43 1)) rfl ly43 rfl rfl fun h682 => ?_
          have h682 : Rg (S670.f 43 1) := h682
          refine r_load (i := 119) (u := 3) (w := 0) rfl rfl rfl ?_
          refine s_int (i := 120) rfl ly48 rfl (by omega) (by omega) ⟨by omega, by omega⟩ ?_
          have hI684 := hI671.seta (b := 48) (j := (S670.f 43 1).toNat) (z := p) ta48 rfl (by omega) (by omega)
          have hF686 := hF673.seta (b := 48) (j := (S670.f 43 1).toNat) (z := p) rfl
          have hR687 := hR674.seta (b := 48) (j := (S670.f 43 1).toNat) (z := p)
          refine yT_gen (fun S683 hS685 => ?_)
          rw [hS685] at hI684 hF686 hR687 
          refine r_load (i := 121) (u := 0) (w := 2) rfl rfl rfl ?_
          refine r_getf (i := 122) (v := 7) (w := 11) (x := (2, 49)) rfl ly43 rfl rfl fun _ => ?_
          refine r_load (i := 123) (u := 0) (w := 2) rfl rfl rfl ?_
          have h689 := hI684.f tf43_1
          have h690 : S683.f 43 1 = S670.f 43 1 := by rw [← hS685]; rfl
          have h691 : S670.f 43 1 = S654.f 43 1 := by rw [← hS672]; rfl
          have h692 : S654.f 43 1 = S441.f 43 1 := by rw [← hS656]; rfl
          have h693 : S441.f 43 1 = S16.f 43 1 := by rw [← hS443]; rfl
          have h694 : S16.f 43 1 = S2.f 43 1 := by rw [← hS18]; rfl
          have h695 : S2.f 43 1 = S.f 43 1 := by rw [← hS4]; exact ysf_ne (by decide)
          refine r_getf (i := 124) (v := 1) (w := 11) (x := vi (S683.f 43 1)) rfl ly43 rfl rfl fun h696 => ?_
          have h696 : Rg (S683.f 43 1) := h696
          refine r_load (i := 125) (u := 1) (w := 0) rfl rfl rfl ?_
          refine z_eq (i := 126) (v := 129) rfl ⟨by omega, by omega⟩ (fun h697 => ?_) (fun h698 => ?_)
          · refine r_load (i := 129) (u := 4) (w := 0) rfl rfl rfl ?_
            refine s_int (i := 130) rfl ly49 rfl (by omega) (by omega) ⟨by omega, by omega⟩ ?_
            have hI700 := hI684.seta49 (j := (S683.f 43 1).toNat) (z := up) (by omega) (by omega) (by omega)
            have hF702 := hF686.seta (b := 49) (j := (S683.f 43 1).toNat) (z := up) rfl
            have hR703 := hR687.seta (b := 49) (j := (S683.f 43 1).toNat) (z := up)
            refine yT_gen (fun S699 hS701 => ?_)
            rw [hS701] at hI700 hF702 hR703 
            refine r_load (i := 131) (u := 0) (w := 2) rfl rfl rfl ?_
            refine r_dup (i := 132) rfl rfl ?_
            have h704 := hI700.f tf43_1
            have h705 : S699.f 43 1 = S683.f 43 1 := by rw [← hS701]; rfl
            have h706 : S683.f 43 1 = S670.f 43 1 := by rw [← hS685]; rfl
            have h707 : S670.f 43 1 = S654.f 43 1 := by rw [← hS672]; rfl
            have h708 : S654.f 43 1 = S441.f 43 1 := by rw [← hS656]; rfl
            have h709 : S441.f 43 1 = S16.f 43 1 := by rw [← hS443]; rfl
            have h710 : S16.f 43 1 = S2.f 43 1 := by rw [← hS18]; rfl
            have h711 : S2.f 43 1 = S.f 43 1 := by rw [← hS4]; exact ysf_ne (by decide)
            refine r_getf (i := 133) (v := 1) (w := 11) (x := vi (S699.f 43 1)) rfl ly43 rfl rfl fun h712 => ?_
            have h712 : Rg (S699.f 43 1) := h712
            refine r_const (i := 134) (u := 1) (z := 1) rfl rfl ?_
            refine r_iadd (i := 135) rfl ?_
            refine r_putI (i := 136) (v := 1) (w := 11) rfl ly43 rfl ⟨by omega, by omega⟩ ?_
            have hI714 := hI700.setf (b := 43) (w := 1) (z := (S699.f 43 1) + 1) tf43_1 rfl (by omega) (by omega)
            have hF716 := hF702.setf (b := 43) (w := 1) (z := (S699.f 43 1) + 1) rfl
            have hR717 := hR703.setf (b := 43) (w := 1) (z := (S699.f 43 1) + 1)
            refine yT_gen (fun S713 hS715 => ?_)
            rw [hS715] at hI714 hF716 hR717 
            have h718 := hI714.f tf43_0
            have h719 : S713.f 43 0 = S699.f 43 0 := by rw [← hS715]; exact ysf_ne (by decide)
            have h720 : S699.f 43 0 = S683.f 43 0 := by rw [← hS701]; rfl
            have h721 : S683.f 43 0 = S670.f 43 0 := by rw [← hS685]; rfl
            have h722 : S670.f 43 0 = S654.f 43 0 := by rw [← hS672]; rfl
            have h723 : S654.f 43 0 = S441.f 43 0 := by rw [← hS656]; rfl
            have h724 : S441.f 43 0 = S16.f 43 0 := by rw [← hS443]; rfl
            have h725 : S16.f 43 0 = S2.f 43 0 := by rw [← hS18]; rfl
            have h726 : S2.f 43 0 = c0 := by rw [← hS4]; exact ysf_eq
            have h727 := hI714.f tf43_1
            have h728 : S713.f 43 1 = (S699.f 43 1) + 1 := by rw [← hS715]; exact ysf_eq
            refine r_load (i := 137) (u := 0) (w := 2) rfl rfl rfl ?_
            refine r_getf (i := 138) (v := 1) (w := 11) (x := vi (S713.f 43 1)) rfl ly43 rfl rfl fun h729 => ?_
            have h729 : Rg (S713.f 43 1) := h729
            refine r_const (i := 139) (u := 1) (z := 1) rfl rfl ?_
            refine r_isub (i := 140) rfl ?_
            exact r_retI (i := 141) rfl ⟨(S713.f 43 1) - 1, rfl, by omega, by omega, (by rw [← q_3]; exact Or.inl ⟨by omega, by unfold tyM; omega, by omega, by omega, 1, 1, 0, up, ⟨by omega, by omega, by omega, by omega, by omega⟩, by subst hS4 hS18 hS443 hS656 hS672 hS685 hS701 hS715; rfl, fun j => by subst hS4 hS18 hS443 hS656 hS672 hS685 hS701 hS715; rfl, fun j => by subst hS4 hS18 hS443 hS656 hS672 hS685 hS701 hS715; rfl, fun j => by subst hS4 hS18 hS443 hS656 hS672 hS685 hS701 hS715; rfl, fun j => by subst hS4 hS18 hS443 hS656 hS672 hS685 hS701 hS715; rfl, fun j => by subst hS4 hS18 hS443 hS656 hS672 hS685 hS701 hS715; rfl, fun j => by subst hS4 hS18 hS443 hS656 hS672 hS685 hS701 hS715; rfl⟩), hI714, hF716, hR717⟩
          · refine r_const (i := 127) (u := 4294967295) (z := -1) rfl rfl ?_
            refine r_goto (i := 128) (v := 130) rfl ?_
            refine s_int (i := 130) rfl ly49 rfl (by omega) (by omega) ⟨by omega, by omega⟩ ?_
            have hI731 := hI684.seta49 (j := (S683.f 43 1).toNat) (z := -1) (by omega) (by omega) (by omega)
            have hF733 := hF686.seta (b := 49) (j := (S683.f 43 1).toNat) (z := -1) rfl
            have hR734 := hR687.seta (b := 49) (j := (S683.f 43 1).toNat) (z := -1)
            refine yT_gen (fun S730 hS732 => ?_)
            rw [hS732] at hI731 hF733 hR734 
            refine r_load (i := 131) (u := 0) (w := 2) rfl rfl rfl ?_
            refine r_dup (i := 132) rfl rfl ?_
            have h735 := hI731.f tf43_1
            have h736 : S730.f 43 1 = S683.f 43 1 := by rw [← hS732]; rfl
            have h737 : S683.f 43 1 = S670.f 43 1 := by rw [← hS685]; rfl
            have h738 : S670.f 43 1 = S654.f 43 1 := by rw [← hS672]; rfl
            have h739 : S654.f 43 1 = S441.f 43 1 := by rw [← hS656]; rfl
            have h740 : S441.f 43 1 = S16.f 43 1 := by rw [← hS443]; rfl
            have h741 : S16.f 43 1 = S2.f 43 1 := by rw [← hS18]; rfl
            have h742 : S2.f 43 1 = S.f 43 1 := by rw [← hS4]; exact ysf_ne (by decide)
            refine r_getf (i := 133) (v := 1) (w := 11) (x := vi (S730.f 43 1)) rfl ly43 rfl rfl fun h743 => ?_
            have h743 : Rg (S730.f 43 1) := h743
            refine r_const (i := 134) (u := 1) (z := 1) rfl rfl ?_
            refine r_iadd (i := 135) rfl ?_
            refine r_putI (i := 136) (v := 1) (w := 11) rfl ly43 rfl ⟨by omega, by omega⟩ ?_
            have hI745 := hI731.setf (b := 43) (w := 1) (z := (S730.f 43 1) + 1) tf43_1 rfl (by omega) (by omega)
            have hF747 := hF733.setf (b := 43) (w := 1) (z := (S730.f 43 1) + 1) rfl
            have hR748 := hR734.setf (b := 43) (w := 1) (z := (S730.f 43 1) + 1)
            refine yT_gen (fun S744 hS746 => ?_)
            rw [hS746] at hI745 hF747 hR748 
            have h749 := hI745.f tf43_0
            have h750 : S744.f 43 0 = S730.f 43 0 := by rw [← hS746]; exact ysf_ne (by decide)
            have h751 : S730.f 43 0 = S683.f 43 0 := by rw [← hS732]; rfl
            have h752 : S683.f 43 0 = S670.f 43 0 := by rw [← hS685]; rfl
            have h753 : S670.f 43 0 = S654.f 43 0 := by rw [← hS672]; rfl
            have h754 : S654.f 43 0 = S441.f 43 0 := by rw [← hS656]; rfl
            have h755 : S441.f 43 0 = S16.f 43 0 := by rw [← hS443]; rfl
            have h756 : S16.f 43 0 = S2.f 43 0 := by rw [← hS18]; rfl
            have h757 : S2.f 43 0 = c0 := by rw [← hS4]; exact ysf_eq
            have h758 := hI745.f tf43_1
            have h759 : S744.f 43 1 = (S730.f 43 1) + 1 := by rw [← hS746]; exact ysf_eq
            refine r_load (i := 137) (u := 0) (w := 2) rfl rfl rfl ?_
            refine r_getf (i := 138) (v := 1) (w := 11) (x := vi (S744.f 43 1)) rfl ly43 rfl rfl fun h760 => ?_
            have h760 : Rg (S744.f 43 1) := h760
            refine r_const (i := 139) (u := 1) (z := 1) rfl rfl ?_
            refine r_isub (i := 140) rfl ?_
            exact r_retI (i := 141) rfl ⟨(S744.f 43 1) - 1, rfl, by omega, by omega, (by rw [← q_3]; exact Or.inl ⟨by omega, by unfold tyM; omega, by omega, by omega, 1, 1, 0, -1, ⟨by omega, by omega, by omega, by omega, by omega⟩, by subst hS4 hS18 hS443 hS656 hS672 hS685 hS732 hS746; rfl, fun j => by subst hS4 hS18 hS443 hS656 hS672 hS685 hS732 hS746; rfl, fun j => by subst hS4 hS18 hS443 hS656 hS672 hS685 hS732 hS746; rfl, fun j => by subst hS4 hS18 hS443 hS656 hS672 hS685 hS732 hS746; rfl, fun j => by subst hS4 hS18 hS443 hS656 hS672 hS685 hS732 hS746; rfl, fun j => by subst hS4 hS18 hS443 hS656 hS672 hS685 hS732 hS746; rfl, fun j => by subst hS4 hS18 hS443 hS656 hS672 hS685 hS732 hS746; rfl⟩), hI745, hF747, hR748⟩
        · refine r_const (i := 111) (u := 1) (z := 1) rfl rfl ?_
          refine r_goto (i := 112) (v := 114) rfl ?_
          refine s_bool (i := 114) rfl ly47 rfl (by omega) (by omega) (by omega) (by omega) ?_
          have hI762 := hI655.seta0 (b := 47) (j := (S654.f 43 1).toNat) (z := 1) rfl rfl
          have hF764 := hF657.seta (b := 47) (j := (S654.f 43 1).toNat) (z := 1) rfl
          have hR765 := hR658.seta (b := 47) (j := (S654.f 43 1).toNat) (z := 1)
          refine yT_gen (fun S761 hS763 => ?_)
          rw [hS763] at hI762 hF764 hR765 
          refine r_load (i := 115) (u := 0) (w := 2) rfl rfl rfl ?_
          refine r_getf (i := 116) (v := 6) (w := 11) (x := (2, 48)) rfl ly43 rfl rfl fun _ => ?_
          refine r_load (i := 117) (u := 0) (w := 2) rfl rfl rfl ?_
          have h767 := hI762.f tf43_1
          have h768 : S761.f 43 1 = S654.f 43 1 := by rw [← hS763]; rfl
          have h769 : S654.f 43 1 = S441.f 43 1 := by rw [← hS656]; rfl
          have h770 : S441.f 43 1 = S16.f 43 1 := by rw [← hS443]; rfl
          have h771 : S16.f 43 1 = S2.f 43 1 := by rw [← hS18]; rfl
          have h772 : S2.f 43 1 = S.f 43 1 := by rw [← hS4]; exact ysf_ne (by decide)
          refine r_getf (i := 118) (v := 1) (w := 11) (x := vi (S761.f 43 1)) rfl ly43 rfl rfl fun h773 => ?_
          have h773 : Rg (S761.f 43 1) := h773
          refine r_load (i := 119) (u := 3) (w := 0) rfl rfl rfl ?_
          refine s_int (i := 120) rfl ly48 rfl (by omega) (by omega) ⟨by omega, by omega⟩ ?_
          have hI775 := hI762.seta (b := 48) (j := (S761.f 43 1).toNat) (z := p) ta48 rfl (by omega) (by omega)
          have hF777 := hF764.seta (b := 48) (j := (S761.f 43 1).toNat) (z := p) rfl
          have hR778 := hR765.seta (b := 48) (j := (S761.f 43 1).toNat) (z := p)
          refine yT_gen (fun S774 hS776 => ?_)
          rw [hS776] at hI775 hF777 hR778 
          refine r_load (i := 121) (u := 0) (w := 2) rfl rfl rfl ?_
          refine r_getf (i := 122) (v := 7) (w := 11) (x := (2, 49)) rfl ly43 rfl rfl fun _ => ?_
          refine r_load (i := 123) (u := 0) (w := 2) rfl rfl rfl ?_
          have h780 := hI775.f tf43_1
          have h781 : S774.f 43 1 = S761.f 43 1 := by rw [← hS776]; rfl
          have h782 : S761.f 43 1 = S654.f 43 1 := by rw [← hS763]; rfl
          have h783 : S654.f 43 1 = S441.f 43 1 := by rw [← hS656]; rfl
          have h784 : S441.f 43 1 = S16.f 43 1 := by rw [← hS443]; rfl
          have h785 : S16.f 43 1 = S2.f 43 1 := by rw [← hS18]; rfl
          have h786 : S2.f 43 1 = S.f 43 1 := by rw [← hS4]; exact ysf_ne (by decide)
          refine r_getf (i := 124) (v := 1) (w := 11) (x := vi (S774.f 43 1)) rfl ly43 rfl rfl fun h787 => ?_
          have h787 : Rg (S774.f 43 1) := h787
          refine r_load (i := 125) (u := 1) (w := 0) rfl rfl rfl ?_
          refine z_eq (i := 126) (v := 129) rfl ⟨by omega, by omega⟩ (fun h788 => ?_) (fun h789 => ?_)
          · refine r_load (i := 129) (u := 4) (w := 0) rfl rfl rfl ?_
            refine s_int (i := 130) rfl ly49 rfl (by omega) (by omega) ⟨by omega, by omega⟩ ?_
            have hI791 := hI775.seta49 (j := (S774.f 43 1).toNat) (z := up) (by omega) (by omega) (by omega)
            have hF793 := hF777.seta (b := 49) (j := (S774.f 43 1).toNat) (z := up) rfl
            have hR794 := hR778.seta (b := 49) (j := (S774.f 43 1).toNat) (z := up)
            refine yT_gen (fun S790 hS792 => ?_)
            rw [hS792] at hI791 hF793 hR794 
            refine r_load (i := 131) (u := 0) (w := 2) rfl rfl rfl ?_
            refine r_dup (i := 132) rfl rfl ?_
            have h795 := hI791.f tf43_1
            have h796 : S790.f 43 1 = S774.f 43 1 := by rw [← hS792]; rfl
            have h797 : S774.f 43 1 = S761.f 43 1 := by rw [← hS776]; rfl
            have h798 : S761.f 43 1 = S654.f 43 1 := by rw [← hS763]; rfl
            have h799 : S654.f 43 1 = S441.f 43 1 := by rw [← hS656]; rfl
            have h800 : S441.f 43 1 = S16.f 43 1 := by rw [← hS443]; rfl
            have h801 : S16.f 43 1 = S2.f 43 1 := by rw [← hS18]; rfl
            have h802 : S2.f 43 1 = S.f 43 1 := by rw [← hS4]; exact ysf_ne (by decide)
            refine r_getf (i := 133) (v := 1) (w := 11) (x := vi (S790.f 43 1)) rfl ly43 rfl rfl fun h803 => ?_
            have h803 : Rg (S790.f 43 1) := h803
            refine r_const (i := 134) (u := 1) (z := 1) rfl rfl ?_
            refine r_iadd (i := 135) rfl ?_
            refine r_putI (i := 136) (v := 1) (w := 11) rfl ly43 rfl ⟨by omega, by omega⟩ ?_
            have hI805 := hI791.setf (b := 43) (w := 1) (z := (S790.f 43 1) + 1) tf43_1 rfl (by omega) (by omega)
            have hF807 := hF793.setf (b := 43) (w := 1) (z := (S790.f 43 1) + 1) rfl
            have hR808 := hR794.setf (b := 43) (w := 1) (z := (S790.f 43 1) + 1)
            refine yT_gen (fun S804 hS806 => ?_)
            rw [hS806] at hI805 hF807 hR808 
            have h809 := hI805.f tf43_0
            have h810 : S804.f 43 0 = S790.f 43 0 := by rw [← hS806]; exact ysf_ne (by decide)
            have h811 : S790.f 43 0 = S774.f 43 0 := by rw [← hS792]; rfl
            have h812 : S774.f 43 0 = S761.f 43 0 := by rw [← hS776]; rfl
            have h813 : S761.f 43 0 = S654.f 43 0 := by rw [← hS763]; rfl
            have h814 : S654.f 43 0 = S441.f 43 0 := by rw [← hS656]; rfl
            have h815 : S441.f 43 0 = S16.f 43 0 := by rw [← hS443]; rfl
            have h816 : S16.f 43 0 = S2.f 43 0 := by rw [← hS18]; rfl
            have h817 : S2.f 43 0 = c0 := by rw [← hS4]; exact ysf_eq
            have h818 := hI805.f tf43_1
            have h819 : S804.f 43 1 = (S790.f 43 1) + 1 := by rw [← hS806]; exact ysf_eq
            refine r_load (i := 137) (u := 0) (w := 2) rfl rfl rfl ?_
            refine r_getf (i := 138) (v := 1) (w := 11) (x := vi (S804.f 43 1)) rfl ly43 rfl rfl fun h820 => ?_
            have h820 : Rg (S804.f 43 1) := h820
            refine r_const (i := 139) (u := 1) (z := 1) rfl rfl ?_
            refine r_isub (i := 140) rfl ?_
            exact r_retI (i := 141) rfl ⟨(S804.f 43 1) - 1, rfl, by omega, by omega, (by rw [← q_3]; exact Or.inl ⟨by omega, by unfold tyM; omega, by omega, by omega, 1, 1, 1, up, ⟨by omega, by omega, by omega, by omega, by omega⟩, by subst hS4 hS18 hS443 hS656 hS763 hS776 hS792 hS806; rfl, fun j => by subst hS4 hS18 hS443 hS656 hS763 hS776 hS792 hS806; rfl, fun j => by subst hS4 hS18 hS443 hS656 hS763 hS776 hS792 hS806; rfl, fun j => by subst hS4 hS18 hS443 hS656 hS763 hS776 hS792 hS806; rfl, fun j => by subst hS4 hS18 hS443 hS656 hS763 hS776 hS792 hS806; rfl, fun j => by subst hS4 hS18 hS443 hS656 hS763 hS776 hS792 hS806; rfl, fun j => by subst hS4 hS18 hS443 hS656 hS763 hS776 hS792 hS806; rfl⟩), hI805, hF807, hR808⟩
          · refine r_const (i := 127) (u := 4294967295) (z := -1) rfl rfl ?_
            refine r_goto (i := 128) (v := 130) rfl ?_
            refine s_int (i := 130) rfl ly49 rfl (by omega) (by omega) ⟨by omega, by omega⟩ ?_
            have hI822 := hI775.seta49 (j := (S774.f 43 1).toNat) (z := -1) (by omega) (by omega) (by omega)
            have hF824 := hF777.seta (b := 49) (j := (S774.f 43 1).toNat) (z := -1) rfl
            have hR825 := hR778.seta (b := 49) (j := (S774.f 43 1).toNat) (z := -1)
            refine yT_gen (fun S821 hS823 => ?_)
            rw [hS823] at hI822 hF824 hR825 
            refine r_load (i := 131) (u := 0) (w := 2) rfl rfl rfl ?_
            refine r_dup (i := 132) rfl rfl ?_
            have h826 := hI822.f tf43_1
            have h827 : S821.f 43 1 = S774.f 43 1 := by rw [← hS823]; rfl
            have h828 : S774.f 43 1 = S761.f 43 1 := by rw [← hS776]; rfl
            have h829 : S761.f 43 1 = S654.f 43 1 := by rw [← hS763]; rfl
            have h830 : S654.f 43 1 = S441.f 43 1 := by rw [← hS656]; rfl
            have h831 : S441.f 43 1 = S16.f 43 1 := by rw [← hS443]; rfl
            have h832 : S16.f 43 1 = S2.f 43 1 := by rw [← hS18]; rfl
            have h833 : S2.f 43 1 = S.f 43 1 := by rw [← hS4]; exact ysf_ne (by decide)
            refine r_getf (i := 133) (v := 1) (w := 11) (x := vi (S821.f 43 1)) rfl ly43 rfl rfl fun h834 => ?_
            have h834 : Rg (S821.f 43 1) := h834
            refine r_const (i := 134) (u := 1) (z := 1) rfl rfl ?_
            refine r_iadd (i := 135) rfl ?_
            refine r_putI (i := 136) (v := 1) (w := 11) rfl ly43 rfl ⟨by omega, by omega⟩ ?_
            have hI836 := hI822.setf (b := 43) (w := 1) (z := (S821.f 43 1) + 1) tf43_1 rfl (by omega) (by omega)
            have hF838 := hF824.setf (b := 43) (w := 1) (z := (S821.f 43 1) + 1) rfl
            have hR839 := hR825.setf (b := 43) (w := 1) (z := (S821.f 43 1) + 1)
            refine yT_gen (fun S835 hS837 => ?_)
            rw [hS837] at hI836 hF838 hR839 
            have h840 := hI836.f tf43_0
            have h841 : S835.f 43 0 = S821.f 43 0 := by rw [← hS837]; exact ysf_ne (by decide)
            have h842 : S821.f 43 0 = S774.f 43 0 := by rw [← hS823]; rfl
            have h843 : S774.f 43 0 = S761.f 43 0 := by rw [← hS776]; rfl
            have h844 : S761.f 43 0 = S654.f 43 0 := by rw [← hS763]; rfl
            have h845 : S654.f 43 0 = S441.f 43 0 := by rw [← hS656]; rfl
            have h846 : S441.f 43 0 = S16.f 43 0 := by rw [← hS443]; rfl
            have h847 : S16.f 43 0 = S2.f 43 0 := by rw [← hS18]; rfl
            have h848 : S2.f 43 0 = c0 := by rw [← hS4]; exact ysf_eq
            have h849 := hI836.f tf43_1
            have h850 : S835.f 43 1 = (S821.f 43 1) + 1 := by rw [← hS837]; exact ysf_eq
            refine r_load (i := 137) (u := 0) (w := 2) rfl rfl rfl ?_
            refine r_getf (i := 138) (v := 1) (w := 11) (x := vi (S835.f 43 1)) rfl ly43 rfl rfl fun h851 => ?_
            have h851 : Rg (S835.f 43 1) := h851
            refine r_const (i := 139) (u := 1) (z := 1) rfl rfl ?_
            refine r_isub (i := 140) rfl ?_
            exact r_retI (i := 141) rfl ⟨(S835.f 43 1) - 1, rfl, by omega, by omega, (by rw [← q_3]; exact Or.inl ⟨by omega, by unfold tyM; omega, by omega, by omega, 1, 1, 1, -1, ⟨by omega, by omega, by omega, by omega, by omega⟩, by subst hS4 hS18 hS443 hS656 hS763 hS776 hS823 hS837; rfl, fun j => by subst hS4 hS18 hS443 hS656 hS763 hS776 hS823 hS837; rfl, fun j => by subst hS4 hS18 hS443 hS656 hS763 hS776 hS823 hS837; rfl, fun j => by subst hS4 hS18 hS443 hS656 hS763 hS776 hS823 hS837; rfl, fun j => by subst hS4 hS18 hS443 hS656 hS763 hS776 hS823 hS837; rfl, fun j => by subst hS4 hS18 hS443 hS656 hS763 hS776 hS823 hS837; rfl, fun j => by subst hS4 hS18 hS443 hS656 hS763 hS776 hS823 hS837; rfl⟩), hI836, hF838, hR839⟩
  · have h852 := hI3.f tf43_1
    have h853 : S2.f 43 1 = S.f 43 1 := by rw [← hS4]; exact ysf_ne (by decide)
    refine r_const (i := 68) (u := 0) (z := 0) rfl rfl ?_
    exact r_retI (i := 69) rfl ⟨0, rfl, by omega, by omega, (by rw [← q_3]; rcases (show c0 = 1 ∨ c0 = 2 by omega) with e9 | e9 <;> first | exact Or.inr (Or.inl ⟨by omega, by unfold tyM; omega, by subst hS4; rfl, fun j => by subst hS4; exact ⟨rfl, rfl, rfl, rfl, rfl, rfl⟩⟩) | exact Or.inr (Or.inr ⟨by omega, by unfold tyM; omega, by omega, by subst hS4; rfl, fun j => by subst hS4; exact ⟨rfl, rfl, rfl, rfl, rfl, rfl⟩⟩)), hI3, hF5, hR6⟩
theorem lp259_30 {G : xk} {d : Nat} {S0 : yS} {b : Int} (h_b : 0 ≤ b ∧ b ≤ 1) {bits : Int} (h_bits : -2147483648 ≤ bits ∧ bits ≤ 2147483647) {p : Int} (h_p : -2147483648 ≤ p ∧ p ≤ 2147483647) {up : Int} (h_up : -2147483648 ≤ up ∧ up ≤ 2147483647) (hd : 0 ≤ d) : ∀ (S : yS) (hI : yI S) (hF : yFr [(43, 0), (43, 1)] [44, 45, 46, 47, 48, 49] S0 S) (hR : yRm [] S0 S) (g0 : Int) (h_g0 : 0 ≤ g0 ∧ g0 ≤ 1) (q_0 : g0 = 1 → 0 ≤ bits ∧ bits < 8 ∧ yand bits 6 ≠ 6 ∧ (b ≠ 0 → yand bits 6 = 0) ∧ 0 ≤ p ∧ p < 4 ∧ 0 ≤ up ∧ up < S.f 43 1) (q_1 : g0 = 0 → ¬ (0 ≤ bits ∧ bits < 8 ∧ yand bits 6 ≠ 6 ∧ (b ≠ 0 → yand bits 6 = 0) ∧ 0 ≤ p ∧ p < 4 ∧ 0 ≤ up ∧ up < S.f 43 1)) (q_2 : S = S0), yT xPr G LY xC259 30 [some ((2, 43)), some (vi b), some (vi bits), some (vi p), some (vi up), none] [vi g0] S d (fun r S' => ∃ z : Int, r = (1, vi z) ∧ 0 ≤ z ∧ z ≤ 20 ∧ mTyQ S0 S' b bits p up z ∧ yI S' ∧ yFr [(43, 0), (43, 1)] [44, 45, 46, 47, 48, 49] S0 S' ∧ yRm [] S0 S') := by
  intro S hI hF hR g0 h_g0 q_0 q_1 q_2
  have h1 := hI.f tf43_1
  refine r_store (i := 30) (u := 5) (w := 0) (L1 := [some ((2, 43)), some (vi b), some (vi bits), some (vi p), some (vi up), some (vi g0)]) rfl rfl rfl rfl ?_
  refine r_load (i := 31) (u := 5) (w := 0) rfl rfl rfl ?_
  refine z_eq (i := 32) (v := 50) rfl ⟨by omega, by omega⟩ (fun h2 => ?_) (fun h3 => ?_)
  · refine r_const (i := 50) (u := 0) (z := 0) rfl rfl ?_
    refine r_store (i := 51) (u := 5) (w := 0) (L1 := [some ((2, 43)), some (vi b), some (vi bits), some (vi p), some (vi up), some (vi 0)]) rfl rfl rfl rfl ?_
    refine r_load (i := 52) (u := 0) (w := 2) rfl rfl rfl ?_
    refine r_load (i := 53) (u := 5) (w := 0) rfl rfl rfl ?_
    refine z_ne (i := 54) (v := 57) rfl ⟨by omega, by omega⟩ (fun h4 => absurd h4 (by omega)) (fun h5 => ?_)
    refine r_const (i := 55) (u := 1) (z := 1) rfl rfl ?_
    refine r_goto (i := 56) (v := 64) rfl ?_
    exact lp259_64 h_b h_bits h_p h_up  hd S hI hF hR 0 1 ⟨by omega, by omega⟩ ⟨by omega, by omega⟩ (by omega) (by omega) (by omega) (by first | rfl | assumption) 
  · refine r_load (i := 33) (u := 1) (w := 0) rfl rfl rfl ?_
    refine z_eq (i := 34) (v := 38) rfl ⟨by omega, by omega⟩ (fun h6 => ?_) (fun h7 => ?_)
    · refine r_load (i := 38) (u := 0) (w := 2) rfl rfl rfl ?_
      refine r_getf (i := 39) (v := 2) (w := 11) (x := (2, 44)) rfl ly43 rfl rfl fun _ => ?_
      refine r_load (i := 40) (u := 4) (w := 0) rfl rfl rfl ?_
      refine a_bool (i := 41) rfl ly44 rfl (by omega) (by omega) fun h9 => ?_
      refine z_ne (i := 42) (v := 50) rfl ⟨by omega, by omega⟩ (fun h10 => ?_) (fun h11 => ?_)
      · refine r_const (i := 50) (u := 0) (z := 0) rfl rfl ?_
        refine r_store (i := 51) (u := 5) (w := 0) (L1 := [some ((2, 43)), some (vi b), some (vi bits), some (vi p), some (vi up), some (vi 0)]) rfl rfl rfl rfl ?_
        refine r_load (i := 52) (u := 0) (w := 2) rfl rfl rfl ?_
        refine r_load (i := 53) (u := 5) (w := 0) rfl rfl rfl ?_
        refine z_ne (i := 54) (v := 57) rfl ⟨by omega, by omega⟩ (fun h12 => absurd h12 (by omega)) (fun h13 => ?_)
        refine r_const (i := 55) (u := 1) (z := 1) rfl rfl ?_
        refine r_goto (i := 56) (v := 64) rfl ?_
        exact lp259_64 h_b h_bits h_p h_up  hd S hI hF hR 0 1 ⟨by omega, by omega⟩ ⟨by omega, by omega⟩ (by omega) (by omega) (by omega) (by first | rfl | assumption) 
      · refine r_load (i := 43) (u := 0) (w := 2) rfl rfl rfl ?_
        refine r_getf (i := 44) (v := 4) (w := 11) (x := (2, 46)) rfl ly43 rfl rfl fun _ => ?_
        refine r_load (i := 45) (u := 4) (w := 0) rfl rfl rfl ?_
        refine a_bool (i := 46) rfl ly46 rfl (by omega) (by omega) fun h15 => ?_
        refine z_ne (i := 47) (v := 50) rfl ⟨by omega, by omega⟩ (fun h16 => ?_) (fun h17 => ?_)
        · refine r_const (i := 50) (u := 0) (z := 0) rfl rfl ?_
          refine r_store (i := 51) (u := 5) (w := 0) (L1 := [some ((2, 43)), some (vi b), some (vi bits), some (vi p), some (vi up), some (vi 0)]) rfl rfl rfl rfl ?_
          refine r_load (i := 52) (u := 0) (w := 2) rfl rfl rfl ?_
          refine r_load (i := 53) (u := 5) (w := 0) rfl rfl rfl ?_
          refine z_ne (i := 54) (v := 57) rfl ⟨by omega, by omega⟩ (fun h18 => absurd h18 (by omega)) (fun h19 => ?_)
          refine r_const (i := 55) (u := 1) (z := 1) rfl rfl ?_
          refine r_goto (i := 56) (v := 64) rfl ?_
          exact lp259_64 h_b h_bits h_p h_up  hd S hI hF hR 0 1 ⟨by omega, by omega⟩ ⟨by omega, by omega⟩ (by omega) (by omega) (by omega) (by first | rfl | assumption) 
        · refine r_const (i := 48) (u := 1) (z := 1) rfl rfl ?_
          refine r_goto (i := 49) (v := 51) rfl ?_
          refine r_store (i := 51) (u := 5) (w := 0) (L1 := [some ((2, 43)), some (vi b), some (vi bits), some (vi p), some (vi up), some (vi 1)]) rfl rfl rfl rfl ?_
          refine r_load (i := 52) (u := 0) (w := 2) rfl rfl rfl ?_
          refine r_load (i := 53) (u := 5) (w := 0) rfl rfl rfl ?_
          refine z_ne (i := 54) (v := 57) rfl ⟨by omega, by omega⟩ (fun h20 => ?_) (fun h21 => absurd h21 (by omega))
          refine r_load (i := 57) (u := 0) (w := 2) rfl rfl rfl ?_
          refine r_getf (i := 58) (v := 1) (w := 11) (x := vi (S.f 43 1)) rfl ly43 rfl rfl fun h22 => ?_
          have h22 : Rg (S.f 43 1) := h22
          refine r_const (i := 59) (u := 20) (z := 20) rfl rfl ?_
          refine c_ne (i := 60) (v := 63) rfl ⟨by omega, by omega⟩ ⟨by omega, by omega⟩ (fun h23 => ?_) (fun h24 => ?_)
          · refine r_const (i := 63) (u := 0) (z := 0) rfl rfl ?_
            exact lp259_64 h_b h_bits h_p h_up  hd S hI hF hR 1 0 ⟨by omega, by omega⟩ ⟨by omega, by omega⟩ (by omega) (by omega) (by omega) (by first | rfl | assumption) 
          · refine r_const (i := 61) (u := 2) (z := 2) rfl rfl ?_
            refine r_goto (i := 62) (v := 64) rfl ?_
            exact lp259_64 h_b h_bits h_p h_up  hd S hI hF hR 1 2 ⟨by omega, by omega⟩ ⟨by omega, by omega⟩ (by omega) (by omega) (by omega) (by first | rfl | assumption) 
    · refine r_load (i := 35) (u := 4) (w := 0) rfl rfl rfl ?_
      refine z_ne (i := 36) (v := 50) rfl ⟨by omega, by omega⟩ (fun h25 => ?_) (fun h26 => ?_)
      · refine r_const (i := 50) (u := 0) (z := 0) rfl rfl ?_
        refine r_store (i := 51) (u := 5) (w := 0) (L1 := [some ((2, 43)), some (vi b), some (vi bits), some (vi p), some (vi up), some (vi 0)]) rfl rfl rfl rfl ?_
        refine r_load (i := 52) (u := 0) (w := 2) rfl rfl rfl ?_
        refine r_load (i := 53) (u := 5) (w := 0) rfl rfl rfl ?_
        refine z_ne (i := 54) (v := 57) rfl ⟨by omega, by omega⟩ (fun h27 => absurd h27 (by omega)) (fun h28 => ?_)
        refine r_const (i := 55) (u := 1) (z := 1) rfl rfl ?_
        refine r_goto (i := 56) (v := 64) rfl ?_
        exact lp259_64 h_b h_bits h_p h_up  hd S hI hF hR 0 1 ⟨by omega, by omega⟩ ⟨by omega, by omega⟩ (by omega) (by omega) (by omega) (by first | rfl | assumption) 
      · refine r_goto (i := 37) (v := 48) rfl ?_
        refine r_const (i := 48) (u := 1) (z := 1) rfl rfl ?_
        refine r_goto (i := 49) (v := 51) rfl ?_
        refine r_store (i := 51) (u := 5) (w := 0) (L1 := [some ((2, 43)), some (vi b), some (vi bits), some (vi p), some (vi up), some (vi 1)]) rfl rfl rfl rfl ?_
        refine r_load (i := 52) (u := 0) (w := 2) rfl rfl rfl ?_
        refine r_load (i := 53) (u := 5) (w := 0) rfl rfl rfl ?_
        refine z_ne (i := 54) (v := 57) rfl ⟨by omega, by omega⟩ (fun h29 => ?_) (fun h30 => absurd h30 (by omega))
        refine r_load (i := 57) (u := 0) (w := 2) rfl rfl rfl ?_
        refine r_getf (i := 58) (v := 1) (w := 11) (x := vi (S.f 43 1)) rfl ly43 rfl rfl fun h31 => ?_
        have h31 : Rg (S.f 43 1) := h31
        refine r_const (i := 59) (u := 20) (z := 20) rfl rfl ?_
        refine c_ne (i := 60) (v := 63) rfl ⟨by omega, by omega⟩ ⟨by omega, by omega⟩ (fun h32 => ?_) (fun h33 => ?_)
        · refine r_const (i := 63) (u := 0) (z := 0) rfl rfl ?_
          exact lp259_64 h_b h_bits h_p h_up  hd S hI hF hR 1 0 ⟨by omega, by omega⟩ ⟨by omega, by omega⟩ (by omega) (by omega) (by omega) (by first | rfl | assumption) 
        · refine r_const (i := 61) (u := 2) (z := 2) rfl rfl ?_
          refine r_goto (i := 62) (v := 64) rfl ?_
          exact lp259_64 h_b h_bits h_p h_up  hd S hI hF hR 1 2 ⟨by omega, by omega⟩ ⟨by omega, by omega⟩ (by omega) (by omega) (by omega) (by first | rfl | assumption) 
/-- ProxyForgeModel.type -/
theorem sp259 {G : xk} {S : yS} {d : Nat} (hI : yI S) {b : Int} (h_b : 0 ≤ b ∧ b ≤ 1) {bits : Int} (h_bits : -2147483648 ≤ bits ∧ bits ≤ 2147483647) {p : Int} (h_p : -2147483648 ≤ p ∧ p ≤ 2147483647) {up : Int} (h_up : -2147483648 ≤ up ∧ up ≤ 2147483647) (hd : 0 ≤ d) : yT xPr G LY xC259 0 [some ((2, 43)), some (vi b), some (vi bits), some (vi p), some (vi up)] [] S d (fun r S' => ∃ z : Int, r = (1, vi z) ∧ 0 ≤ z ∧ z ≤ 20 ∧ mTyQ S S' b bits p up z ∧ yI S' ∧ yFr [(43, 0), (43, 1)] [44, 45, 46, 47, 48, 49] S S' ∧ yRm [] S S') := by
  refine yT_pad 1 ?_
  show yT xPr G LY xC259 0 [some ((2, 43)), some (vi b), some (vi bits), some (vi p), some (vi up), none] [] S d _
  have hF : yFr [(43, 0), (43, 1)] [44, 45, 46, 47, 48, 49] S S := yFr.refl S
  have hR : yRm [] S S := yRm.refl S
  refine r_load (i := 0) (u := 2) (w := 0) rfl rfl rfl ?_
  refine z_lt (i := 1) (v := 29) rfl ⟨by omega, by omega⟩ (fun h1 => ?_) (fun h2 => ?_)
  · refine r_const (i := 29) (u := 0) (z := 0) rfl rfl ?_
    have h3 := hI.f tf43_1
    exact lp259_30 h_b h_bits h_p h_up  hd S hI hF hR 0 ⟨by omega, by omega⟩ (by omega) (by omega) (by first | rfl | assumption) 
  · refine r_load (i := 2) (u := 2) (w := 0) rfl rfl rfl ?_
    refine r_const (i := 3) (u := 8) (z := 8) rfl rfl ?_
    refine c_ge (i := 4) (v := 29) rfl ⟨by omega, by omega⟩ ⟨by omega, by omega⟩ (fun h4 => ?_) (fun h5 => ?_)
    · refine r_const (i := 29) (u := 0) (z := 0) rfl rfl ?_
      have h6 := hI.f tf43_1
      exact lp259_30 h_b h_bits h_p h_up  hd S hI hF hR 0 ⟨by omega, by omega⟩ (by omega) (by omega) (by first | rfl | assumption) 
    · refine r_load (i := 5) (u := 2) (w := 0) rfl rfl rfl ?_
      refine r_const (i := 6) (u := 6) (z := 6) rfl rfl ?_
      refine r_iand (i := 7) rfl ?_
      have h7 := @yand_c bits 6 (by decide) (by decide)
      refine r_const (i := 8) (u := 6) (z := 6) rfl rfl ?_
      refine c_eq (i := 9) (v := 29) rfl ⟨by omega, by omega⟩ ⟨by omega, by omega⟩ (fun h8 => ?_) (fun h9 => ?_)
      · refine r_const (i := 29) (u := 0) (z := 0) rfl rfl ?_
        have h10 := hI.f tf43_1
        exact lp259_30 h_b h_bits h_p h_up  hd S hI hF hR 0 ⟨by omega, by omega⟩ (by omega) (by omega) (by first | rfl | assumption) 
      · refine r_load (i := 10) (u := 1) (w := 0) rfl rfl rfl ?_
        refine z_eq (i := 11) (v := 16) rfl ⟨by omega, by omega⟩ (fun h11 => ?_) (fun h12 => ?_)
        · refine r_load (i := 16) (u := 3) (w := 0) rfl rfl rfl ?_
          refine z_lt (i := 17) (v := 29) rfl ⟨by omega, by omega⟩ (fun h13 => ?_) (fun h14 => ?_)
          · refine r_const (i := 29) (u := 0) (z := 0) rfl rfl ?_
            have h15 := hI.f tf43_1
            exact lp259_30 h_b h_bits h_p h_up  hd S hI hF hR 0 ⟨by omega, by omega⟩ (by omega) (by omega) (by first | rfl | assumption) 
          · refine r_load (i := 18) (u := 3) (w := 0) rfl rfl rfl ?_
            refine r_const (i := 19) (u := 4) (z := 4) rfl rfl ?_
            refine c_ge (i := 20) (v := 29) rfl ⟨by omega, by omega⟩ ⟨by omega, by omega⟩ (fun h16 => ?_) (fun h17 => ?_)
            · refine r_const (i := 29) (u := 0) (z := 0) rfl rfl ?_
              have h18 := hI.f tf43_1
              exact lp259_30 h_b h_bits h_p h_up  hd S hI hF hR 0 ⟨by omega, by omega⟩ (by omega) (by omega) (by first | rfl | assumption) 
            · refine r_load (i := 21) (u := 4) (w := 0) rfl rfl rfl ?_
              refine z_lt (i := 22) (v := 29) rfl ⟨by omega, by omega⟩ (fun h19 => ?_) (fun h20 => ?_)
              · refine r_const (i := 29) (u := 0) (z := 0) rfl rfl ?_
                have h21 := hI.f tf43_1
                exact lp259_30 h_b h_bits h_p h_up  hd S hI hF hR 0 ⟨by omega, by omega⟩ (by omega) (by omega) (by first | rfl | assumption) 
              · refine r_load (i := 23) (u := 4) (w := 0) rfl rfl rfl ?_
                refine r_load (i := 24) (u := 0) (w := 2) rfl rfl rfl ?_
                have h22 := hI.f tf43_1
                refine r_getf (i := 25) (v := 1) (w := 11) (x := vi (S.f 43 1)) rfl ly43 rfl rfl fun h23 => ?_
                have h23 : Rg (S.f 43 1) := h23
                refine c_ge (i := 26) (v := 29) rfl ⟨by omega, by omega⟩ ⟨by omega, by omega⟩ (fun h24 => ?_) (fun h25 => ?_)
                · refine r_const (i := 29) (u := 0) (z := 0) rfl rfl ?_
                  exact lp259_30 h_b h_bits h_p h_up  hd S hI hF hR 0 ⟨by omega, by omega⟩ (by omega) (by omega) (by first | rfl | assumption) 
                · refine r_const (i := 27) (u := 1) (z := 1) rfl rfl ?_
                  refine r_goto (i := 28) (v := 30) rfl ?_
                  exact lp259_30 h_b h_bits h_p h_up  hd S hI hF hR 1 ⟨by omega, by omega⟩ (by omega) (by omega) (by first | rfl | assumption) 
        · refine r_load (i := 12) (u := 2) (w := 0) rfl rfl rfl ?_
          refine r_const (i := 13) (u := 6) (z := 6) rfl rfl ?_
          refine r_iand (i := 14) rfl ?_
          have h26 := @yand_c bits 6 (by decide) (by decide)
          refine z_ne (i := 15) (v := 29) rfl ⟨by omega, by omega⟩ (fun h27 => ?_) (fun h28 => ?_)
          · refine r_const (i := 29) (u := 0) (z := 0) rfl rfl ?_
            have h29 := hI.f tf43_1
            exact lp259_30 h_b h_bits h_p h_up  hd S hI hF hR 0 ⟨by omega, by omega⟩ (by omega) (by omega) (by first | rfl | assumption) 
          · refine r_load (i := 16) (u := 3) (w := 0) rfl rfl rfl ?_
            refine z_lt (i := 17) (v := 29) rfl ⟨by omega, by omega⟩ (fun h30 => ?_) (fun h31 => ?_)
            · refine r_const (i := 29) (u := 0) (z := 0) rfl rfl ?_
              have h32 := hI.f tf43_1
              exact lp259_30 h_b h_bits h_p h_up  hd S hI hF hR 0 ⟨by omega, by omega⟩ (by omega) (by omega) (by first | rfl | assumption) 
            · refine r_load (i := 18) (u := 3) (w := 0) rfl rfl rfl ?_
              refine r_const (i := 19) (u := 4) (z := 4) rfl rfl ?_
              refine c_ge (i := 20) (v := 29) rfl ⟨by omega, by omega⟩ ⟨by omega, by omega⟩ (fun h33 => ?_) (fun h34 => ?_)
              · refine r_const (i := 29) (u := 0) (z := 0) rfl rfl ?_
                have h35 := hI.f tf43_1
                exact lp259_30 h_b h_bits h_p h_up  hd S hI hF hR 0 ⟨by omega, by omega⟩ (by omega) (by omega) (by first | rfl | assumption) 
              · refine r_load (i := 21) (u := 4) (w := 0) rfl rfl rfl ?_
                refine z_lt (i := 22) (v := 29) rfl ⟨by omega, by omega⟩ (fun h36 => ?_) (fun h37 => ?_)
                · refine r_const (i := 29) (u := 0) (z := 0) rfl rfl ?_
                  have h38 := hI.f tf43_1
                  exact lp259_30 h_b h_bits h_p h_up  hd S hI hF hR 0 ⟨by omega, by omega⟩ (by omega) (by omega) (by first | rfl | assumption) 
                · refine r_load (i := 23) (u := 4) (w := 0) rfl rfl rfl ?_
                  refine r_load (i := 24) (u := 0) (w := 2) rfl rfl rfl ?_
                  have h39 := hI.f tf43_1
                  refine r_getf (i := 25) (v := 1) (w := 11) (x := vi (S.f 43 1)) rfl ly43 rfl rfl fun h40 => ?_
                  have h40 : Rg (S.f 43 1) := h40
                  refine c_ge (i := 26) (v := 29) rfl ⟨by omega, by omega⟩ ⟨by omega, by omega⟩ (fun h41 => ?_) (fun h42 => ?_)
                  · refine r_const (i := 29) (u := 0) (z := 0) rfl rfl ?_
                    exact lp259_30 h_b h_bits h_p h_up  hd S hI hF hR 0 ⟨by omega, by omega⟩ (by omega) (by omega) (by first | rfl | assumption) 
                  · refine r_const (i := 27) (u := 1) (z := 1) rfl rfl ?_
                    refine r_goto (i := 28) (v := 30) rfl ?_
                    exact lp259_30 h_b h_bits h_p h_up  hd S hI hF hR 1 ⟨by omega, by omega⟩ (by omega) (by omega) (by first | rfl | assumption) 
/-- ProxyForgeModel.slots -/
theorem sp244 {G : xk} {S : yS} {d : Nat} (hI : yI S)  (hd : 0 ≤ d) : yT xPr G LY xC244 0 [some ((2, 43))] [] S d (fun r S' => ∃ z : Int, r = (1, vi z) ∧ 0 ≤ z ∧ z ≤ 24 ∧ yI S' ∧ yFr [(43, 0)] [] S S' ∧ yRm [] S S') := by
  refine yT_pad 0 ?_
  show yT xPr G LY xC244 0 [some ((2, 43))] [] S d _
  have hF : yFr [(43, 0)] [] S S := yFr.refl S
  have hR : yRm [] S S := yRm.refl S
  refine r_load (i := 0) (u := 0) (w := 2) rfl rfl rfl ?_
  refine r_const (i := 1) (u := 0) (z := 0) rfl rfl ?_
  refine r_putI (i := 2) (v := 0) (w := 11) rfl ly43 rfl ⟨by omega, by omega⟩ ?_
  have hI2 := hI.setf (b := 43) (w := 0) (z := 0) tf43_0 rfl (by omega) (by omega)
  have hF4 := hF.setf (b := 43) (w := 0) (z := 0) rfl
  have hR5 := hR.setf (b := 43) (w := 0) (z := 0)
  refine yT_gen (fun S1 hS3 => ?_)
  rw [hS3] at hI2 hF4 hR5 
  refine r_load (i := 3) (u := 0) (w := 2) rfl rfl rfl ?_
  have h6 := hI2.f tf43_20
  have h7 : S1.f 43 20 = S.f 43 20 := by rw [← hS3]; exact ysf_ne (by decide)
  refine r_getf (i := 4) (v := 20) (w := 11) (x := vi (S1.f 43 20)) rfl ly43 rfl rfl fun h8 => ?_
  have h8 : Rg (S1.f 43 20) := h8
  exact r_retI (i := 5) rfl ⟨S1.f 43 20, rfl, by omega, by omega, hI2, hF4, hR5⟩
/-- ProxyForgeModel.slot -/
theorem sp243 {G : xk} {S : yS} {d : Nat} (hI : yI S) {k : Int} (h_k : -2147483648 ≤ k ∧ k ≤ 2147483647) (hd : 0 ≤ d) : yT xPr G LY xC243 0 [some ((2, 43)), some (vi k)] [] S d (fun r S' => ∃ z : Int, r = (1, vi z) ∧ -1 ≤ z ∧ z ≤ 59 ∧ yI S' ∧ yFr [(43, 0)] [] S S' ∧ yRm [] S S') := by
  refine yT_pad 0 ?_
  show yT xPr G LY xC243 0 [some ((2, 43)), some (vi k)] [] S d _
  have hF : yFr [(43, 0)] [] S S := yFr.refl S
  have hR : yRm [] S S := yRm.refl S
  refine r_load (i := 0) (u := 0) (w := 2) rfl rfl rfl ?_
  refine r_const (i := 1) (u := 0) (z := 0) rfl rfl ?_
  refine r_putI (i := 2) (v := 0) (w := 11) rfl ly43 rfl ⟨by omega, by omega⟩ ?_
  have hI2 := hI.setf (b := 43) (w := 0) (z := 0) tf43_0 rfl (by omega) (by omega)
  have hF4 := hF.setf (b := 43) (w := 0) (z := 0) rfl
  have hR5 := hR.setf (b := 43) (w := 0) (z := 0)
  refine yT_gen (fun S1 hS3 => ?_)
  rw [hS3] at hI2 hF4 hR5 
  refine r_load (i := 3) (u := 1) (w := 0) rfl rfl rfl ?_
  refine z_lt (i := 4) (v := 9) rfl ⟨by omega, by omega⟩ (fun h6 => ?_) (fun h7 => ?_)
  · refine r_const (i := 9) (u := 4294967295) (z := -1) rfl rfl ?_
    refine r_goto (i := 10) (v := 15) rfl ?_
    exact r_retI (i := 15) rfl ⟨-1, rfl, by omega, by omega, hI2, hF4, hR5⟩
  · refine r_load (i := 5) (u := 1) (w := 0) rfl rfl rfl ?_
    refine r_load (i := 6) (u := 0) (w := 2) rfl rfl rfl ?_
    have h8 := hI2.f tf43_20
    have h9 : S1.f 43 20 = S.f 43 20 := by rw [← hS3]; exact ysf_ne (by decide)
    refine r_getf (i := 7) (v := 20) (w := 11) (x := vi (S1.f 43 20)) rfl ly43 rfl rfl fun h10 => ?_
    have h10 : Rg (S1.f 43 20) := h10
    refine c_lt (i := 8) (v := 11) rfl ⟨by omega, by omega⟩ ⟨by omega, by omega⟩ (fun h11 => ?_) (fun h12 => ?_)
    · refine r_load (i := 11) (u := 0) (w := 2) rfl rfl rfl ?_
      refine r_getf (i := 12) (v := 23) (w := 11) (x := (2, 60)) rfl ly43 rfl rfl fun _ => ?_
      refine r_load (i := 13) (u := 1) (w := 0) rfl rfl rfl ?_
      refine a_int (i := 14) rfl ly60 rfl (by omega) (by omega) fun h14 => ?_
      have h15 := hI2.a ta60 k.toNat
      have h16 : S1.a 60 k.toNat = S.a 60 k.toNat := by rw [← hS3]; rfl
      exact r_retI (i := 15) rfl ⟨S1.a 60 k.toNat, rfl, by omega, by omega, hI2, hF4, hR5⟩
    · refine r_const (i := 9) (u := 4294967295) (z := -1) rfl rfl ?_
      refine r_goto (i := 10) (v := 15) rfl ?_
      exact r_retI (i := 15) rfl ⟨-1, rfl, by omega, by omega, hI2, hF4, hR5⟩
/-- ProxyForgeModel.asked -/
theorem sp184 {G : xk} {S : yS} {d : Nat} (hI : yI S)  (hd : 0 ≤ d) : yT xPr G LY xC184 0 [some ((2, 43))] [] S d (fun r S' => ∃ z : Int, r = (1, vi z) ∧ -1 ≤ z ∧ z ≤ 23 ∧ yI S' ∧ yFr [(43, 0)] [] S S' ∧ yRm [] S S') := by
  refine yT_pad 0 ?_
  show yT xPr G LY xC184 0 [some ((2, 43))] [] S d _
  have hF : yFr [(43, 0)] [] S S := yFr.refl S
  have hR : yRm [] S S := yRm.refl S
  refine r_load (i := 0) (u := 0) (w := 2) rfl rfl rfl ?_
  refine r_const (i := 1) (u := 0) (z := 0) rfl rfl ?_
  refine r_putI (i := 2) (v := 0) (w := 11) rfl ly43 rfl ⟨by omega, by omega⟩ ?_
  have hI2 := hI.setf (b := 43) (w := 0) (z := 0) tf43_0 rfl (by omega) (by omega)
  have hF4 := hF.setf (b := 43) (w := 0) (z := 0) rfl
  have hR5 := hR.setf (b := 43) (w := 0) (z := 0)
  refine yT_gen (fun S1 hS3 => ?_)
  rw [hS3] at hI2 hF4 hR5 
  refine r_load (i := 3) (u := 0) (w := 2) rfl rfl rfl ?_
  have h6 := hI2.f tf43_34
  have h7 : S1.f 43 34 = S.f 43 34 := by rw [← hS3]; exact ysf_ne (by decide)
  refine r_getf (i := 4) (v := 34) (w := 11) (x := vi (S1.f 43 34)) rfl ly43 rfl rfl fun h8 => ?_
  have h8 : Rg (S1.f 43 34) := h8
  exact r_retI (i := 5) rfl ⟨S1.f 43 34, rfl, by omega, by omega, hI2, hF4, hR5⟩
/-- ProxyForgeModel.result -/
theorem sp239 {G : xk} {S : yS} {d : Nat} (hI : yI S)  (hd : 0 ≤ d) : yT xPr G LY xC239 0 [some ((2, 43))] [] S d (fun r S' => ∃ z : Int, r = (1, vl z) ∧ Rl z ∧ yI S' ∧ yFr [(43, 0)] [] S S' ∧ yRm [] S S') := by
  refine yT_pad 0 ?_
  show yT xPr G LY xC239 0 [some ((2, 43))] [] S d _
  have hF : yFr [(43, 0)] [] S S := yFr.refl S
  have hR : yRm [] S S := yRm.refl S
  refine r_load (i := 0) (u := 0) (w := 2) rfl rfl rfl ?_
  refine r_const (i := 1) (u := 0) (z := 0) rfl rfl ?_
  refine r_putI (i := 2) (v := 0) (w := 11) rfl ly43 rfl ⟨by omega, by omega⟩ ?_
  have hI2 := hI.setf (b := 43) (w := 0) (z := 0) tf43_0 rfl (by omega) (by omega)
  have hF4 := hF.setf (b := 43) (w := 0) (z := 0) rfl
  have hR5 := hR.setf (b := 43) (w := 0) (z := 0)
  refine yT_gen (fun S1 hS3 => ?_)
  rw [hS3] at hI2 hF4 hR5 
  refine r_load (i := 3) (u := 0) (w := 2) rfl rfl rfl ?_
  have h6 : S1.f 43 37 = S.f 43 37 := by rw [← hS3]; exact ysf_ne (by decide)
  refine r_getf (i := 4) (v := 37) (w := 11) (x := vl (S1.f 43 37)) rfl ly43 rfl rfl fun h7 => ?_
  have h7 : Rl (S1.f 43 37) := h7
  exact r_retL (i := 5) rfl ⟨S1.f 43 37, rfl, ⟨by omega, by omega⟩, hI2, hF4, hR5⟩
/-- ProxyForgeModel.given -/
theorem sp205 {G : xk} {S : yS} {d : Nat} (hI : yI S) {i0 : Int} (h_i0 : -2147483648 ≤ i0 ∧ i0 ≤ 2147483647) {w0 : Int} (h_w0 : -2147483648 ≤ w0 ∧ w0 ≤ 2147483647) (hd : 0 ≤ d) : yT xPr G LY xC205 0 [some ((2, 43)), some (vi i0), some (vi w0)] [] S d (fun r S' => ∃ z : Int, r = (1, vl z) ∧ Rl z ∧ yI S' ∧ yFr [(43, 0)] [] S S' ∧ yRm [] S S') := by
  refine yT_pad 0 ?_
  show yT xPr G LY xC205 0 [some ((2, 43)), some (vi i0), some (vi w0)] [] S d _
  have hF : yFr [(43, 0)] [] S S := yFr.refl S
  have hR : yRm [] S S := yRm.refl S
  refine r_load (i := 0) (u := 0) (w := 2) rfl rfl rfl ?_
  refine r_const (i := 1) (u := 0) (z := 0) rfl rfl ?_
  refine r_putI (i := 2) (v := 0) (w := 11) rfl ly43 rfl ⟨by omega, by omega⟩ ?_
  have hI2 := hI.setf (b := 43) (w := 0) (z := 0) tf43_0 rfl (by omega) (by omega)
  have hF4 := hF.setf (b := 43) (w := 0) (z := 0) rfl
  have hR5 := hR.setf (b := 43) (w := 0) (z := 0)
  refine yT_gen (fun S1 hS3 => ?_)
  rw [hS3] at hI2 hF4 hR5 
  refine r_load (i := 3) (u := 1) (w := 0) rfl rfl rfl ?_
  refine z_lt (i := 4) (v := 9) rfl ⟨by omega, by omega⟩ (fun h6 => ?_) (fun h7 => ?_)
  · refine r_lconst (i := 9) (u := 18446744073709551615) (z := -1) rfl rfl ?_
    exact r_retL (i := 10) rfl ⟨-1, rfl, ⟨by omega, by omega⟩, hI2, hF4, hR5⟩
  · refine r_load (i := 5) (u := 1) (w := 0) rfl rfl rfl ?_
    refine r_load (i := 6) (u := 0) (w := 2) rfl rfl rfl ?_
    have h8 := hI2.f tf43_35
    have h9 : S1.f 43 35 = S.f 43 35 := by rw [← hS3]; exact ysf_ne (by decide)
    refine r_getf (i := 7) (v := 35) (w := 11) (x := vi (S1.f 43 35)) rfl ly43 rfl rfl fun h10 => ?_
    have h10 : Rg (S1.f 43 35) := h10
    refine c_lt (i := 8) (v := 11) rfl ⟨by omega, by omega⟩ ⟨by omega, by omega⟩ (fun h11 => ?_) (fun h12 => ?_)
    · refine r_load (i := 11) (u := 2) (w := 0) rfl rfl rfl ?_
      refine z_ne (i := 12) (v := 19) rfl ⟨by omega, by omega⟩ (fun h13 => ?_) (fun h14 => ?_)
      · refine r_load (i := 19) (u := 2) (w := 0) rfl rfl rfl ?_
        refine r_const (i := 20) (u := 1) (z := 1) rfl rfl ?_
        refine c_ne (i := 21) (v := 27) rfl ⟨by omega, by omega⟩ ⟨by omega, by omega⟩ (fun h15 => ?_) (fun h16 => ?_)
        · refine r_lconst (i := 27) (u := 18446744073709551615) (z := -1) rfl rfl ?_
          exact r_retL (i := 28) rfl ⟨-1, rfl, ⟨by omega, by omega⟩, hI2, hF4, hR5⟩
        · refine r_load (i := 22) (u := 0) (w := 2) rfl rfl rfl ?_
          refine r_getf (i := 23) (v := 39) (w := 11) (x := (2, 70)) rfl ly43 rfl rfl fun _ => ?_
          refine r_load (i := 24) (u := 1) (w := 0) rfl rfl rfl ?_
          refine r_laload (i := 25) rfl ly70 (by decide) (by omega) (by omega) fun h18 => ?_
          have h19 : S1.a 70 i0.toNat = S.a 70 i0.toNat := by rw [← hS3]; rfl
          refine r_goto (i := 26) (v := 28) rfl ?_
          exact r_retL (i := 28) rfl ⟨S1.a 70 i0.toNat, rfl, ⟨by omega, by omega⟩, hI2, hF4, hR5⟩
      · refine r_load (i := 13) (u := 0) (w := 2) rfl rfl rfl ?_
        refine r_getf (i := 14) (v := 38) (w := 11) (x := (2, 69)) rfl ly43 rfl rfl fun _ => ?_
        refine r_load (i := 15) (u := 1) (w := 0) rfl rfl rfl ?_
        refine a_int (i := 16) rfl ly69 rfl (by omega) (by omega) fun h21 => ?_
        have h22 := hI2.a ta69 i0.toNat
        have h23 : S1.a 69 i0.toNat = S.a 69 i0.toNat := by rw [← hS3]; rfl
        refine r_i2l (i := 17) rfl ⟨by omega, by omega⟩ ?_
        refine r_goto (i := 18) (v := 28) rfl ?_
        exact r_retL (i := 28) rfl ⟨S1.a 69 i0.toNat, rfl, ⟨by omega, by omega⟩, hI2, hF4, hR5⟩
    · refine r_lconst (i := 9) (u := 18446744073709551615) (z := -1) rfl rfl ?_
      exact r_retL (i := 10) rfl ⟨-1, rfl, ⟨by omega, by omega⟩, hI2, hF4, hR5⟩
/-- ProxyForgeModel.size -/
theorem sp242 {G : xk} {S : yS} {d : Nat} (hI : yI S)  (hd : 0 ≤ d) : yT xPr G LY xC242 0 [some ((2, 43))] [] S d (fun r S' => ∃ z : Int, r = (1, vi z) ∧ 0 ≤ z ∧ z ≤ 23500 ∧ yI S' ∧ yFr [(43, 0)] [] S S' ∧ yRm [] S S') := by
  refine yT_pad 0 ?_
  show yT xPr G LY xC242 0 [some ((2, 43))] [] S d _
  have hF : yFr [(43, 0)] [] S S := yFr.refl S
  have hR : yRm [] S S := yRm.refl S
  refine r_load (i := 0) (u := 0) (w := 2) rfl rfl rfl ?_
  refine r_const (i := 1) (u := 0) (z := 0) rfl rfl ?_
  refine r_putI (i := 2) (v := 0) (w := 11) rfl ly43 rfl ⟨by omega, by omega⟩ ?_
  have hI2 := hI.setf (b := 43) (w := 0) (z := 0) tf43_0 rfl (by omega) (by omega)
  have hF4 := hF.setf (b := 43) (w := 0) (z := 0) rfl
  have hR5 := hR.setf (b := 43) (w := 0) (z := 0)
  refine yT_gen (fun S1 hS3 => ?_)
  rw [hS3] at hI2 hF4 hR5 
  refine r_load (i := 3) (u := 0) (w := 2) rfl rfl rfl ?_
  have h6 := hI2.f tf43_42
  have h7 : S1.f 43 42 = S.f 43 42 := by rw [← hS3]; exact ysf_ne (by decide)
  refine r_getf (i := 4) (v := 42) (w := 11) (x := vi (S1.f 43 42)) rfl ly43 rfl rfl fun h8 => ?_
  have h8 : Rg (S1.f 43 42) := h8
  exact r_retI (i := 5) rfl ⟨S1.f 43 42, rfl, by omega, by omega, hI2, hF4, hR5⟩
/-- ProxyForgeModel.byteAt -/
theorem sp187 {G : xk} {S : yS} {d : Nat} (hI : yI S) {k : Int} (h_k : -2147483648 ≤ k ∧ k ≤ 2147483647) (hd : 0 ≤ d) : yT xPr G LY xC187 0 [some ((2, 43)), some (vi k)] [] S d (fun r S' => ∃ z : Int, r = (1, vi z) ∧ -1 ≤ z ∧ z ≤ 255 ∧ yI S' ∧ yFr [(43, 0)] [] S S' ∧ yRm [] S S') := by
  refine yT_pad 0 ?_
  show yT xPr G LY xC187 0 [some ((2, 43)), some (vi k)] [] S d _
  have hF : yFr [(43, 0)] [] S S := yFr.refl S
  have hR : yRm [] S S := yRm.refl S
  refine r_load (i := 0) (u := 0) (w := 2) rfl rfl rfl ?_
  refine r_const (i := 1) (u := 0) (z := 0) rfl rfl ?_
  refine r_putI (i := 2) (v := 0) (w := 11) rfl ly43 rfl ⟨by omega, by omega⟩ ?_
  have hI2 := hI.setf (b := 43) (w := 0) (z := 0) tf43_0 rfl (by omega) (by omega)
  have hF4 := hF.setf (b := 43) (w := 0) (z := 0) rfl
  have hR5 := hR.setf (b := 43) (w := 0) (z := 0)
  refine yT_gen (fun S1 hS3 => ?_)
  rw [hS3] at hI2 hF4 hR5 
  refine r_load (i := 3) (u := 1) (w := 0) rfl rfl rfl ?_
  refine z_lt (i := 4) (v := 9) rfl ⟨by omega, by omega⟩ (fun h6 => ?_) (fun h7 => ?_)
  · refine r_const (i := 9) (u := 4294967295) (z := -1) rfl rfl ?_
    refine r_goto (i := 10) (v := 15) rfl ?_
    exact r_retI (i := 15) rfl ⟨-1, rfl, by omega, by omega, hI2, hF4, hR5⟩
  · refine r_load (i := 5) (u := 1) (w := 0) rfl rfl rfl ?_
    refine r_load (i := 6) (u := 0) (w := 2) rfl rfl rfl ?_
    have h8 := hI2.f tf43_42
    have h9 : S1.f 43 42 = S.f 43 42 := by rw [← hS3]; exact ysf_ne (by decide)
    refine r_getf (i := 7) (v := 42) (w := 11) (x := vi (S1.f 43 42)) rfl ly43 rfl rfl fun h10 => ?_
    have h10 : Rg (S1.f 43 42) := h10
    refine c_lt (i := 8) (v := 11) rfl ⟨by omega, by omega⟩ ⟨by omega, by omega⟩ (fun h11 => ?_) (fun h12 => ?_)
    · refine r_load (i := 11) (u := 0) (w := 2) rfl rfl rfl ?_
      refine r_getf (i := 12) (v := 40) (w := 11) (x := (2, 71)) rfl ly43 rfl rfl fun _ => ?_
      refine r_load (i := 13) (u := 1) (w := 0) rfl rfl rfl ?_
      refine a_int (i := 14) rfl ly71 rfl (by omega) (by omega) fun h14 => ?_
      have h15 := hI2.a ta71 k.toNat
      have h16 : S1.a 71 k.toNat = S.a 71 k.toNat := by rw [← hS3]; rfl
      exact r_retI (i := 15) rfl ⟨S1.a 71 k.toNat, rfl, by omega, by omega, hI2, hF4, hR5⟩
    · refine r_const (i := 9) (u := 4294967295) (z := -1) rfl rfl ?_
      refine r_goto (i := 10) (v := 15) rfl ?_
      exact r_retI (i := 15) rfl ⟨-1, rfl, by omega, by omega, hI2, hF4, hR5⟩
/-- ProxyForgeModel.change -/
theorem sp191 {G : xk} {S : yS} {d : Nat} (hI : yI S) {k : Int} (h_k : -2147483648 ≤ k ∧ k ≤ 2147483647) {b : Int} (h_b : -2147483648 ≤ b ∧ b ≤ 2147483647) (hd : 0 ≤ d) : yT xPr G LY xC191 0 [some ((2, 43)), some (vi k), some (vi b)] [] S d (fun r S' => ∃ z : Int, r = (1, vi z) ∧ 0 ≤ z ∧ z ≤ 1 ∧ yI S' ∧ yFr [(43, 0)] [71] S S' ∧ yRm [] S S') := by
  refine yT_pad 0 ?_
  show yT xPr G LY xC191 0 [some ((2, 43)), some (vi k), some (vi b)] [] S d _
  have hF : yFr [(43, 0)] [71] S S := yFr.refl S
  have hR : yRm [] S S := yRm.refl S
  refine r_load (i := 0) (u := 0) (w := 2) rfl rfl rfl ?_
  refine r_const (i := 1) (u := 0) (z := 0) rfl rfl ?_
  refine r_putI (i := 2) (v := 0) (w := 11) rfl ly43 rfl ⟨by omega, by omega⟩ ?_
  have hI2 := hI.setf (b := 43) (w := 0) (z := 0) tf43_0 rfl (by omega) (by omega)
  have hF4 := hF.setf (b := 43) (w := 0) (z := 0) rfl
  have hR5 := hR.setf (b := 43) (w := 0) (z := 0)
  refine yT_gen (fun S1 hS3 => ?_)
  rw [hS3] at hI2 hF4 hR5 
  refine r_load (i := 3) (u := 1) (w := 0) rfl rfl rfl ?_
  refine z_lt (i := 4) (v := 9) rfl ⟨by omega, by omega⟩ (fun h6 => ?_) (fun h7 => ?_)
  · refine r_const (i := 9) (u := 0) (z := 0) rfl rfl ?_
    exact r_retZ (i := 10) rfl (by omega) (by omega) ⟨0, rfl, by omega, by omega, hI2, hF4, hR5⟩
  · refine r_load (i := 5) (u := 1) (w := 0) rfl rfl rfl ?_
    refine r_load (i := 6) (u := 0) (w := 2) rfl rfl rfl ?_
    have h8 := hI2.f tf43_42
    have h9 : S1.f 43 42 = S.f 43 42 := by rw [← hS3]; exact ysf_ne (by decide)
    refine r_getf (i := 7) (v := 42) (w := 11) (x := vi (S1.f 43 42)) rfl ly43 rfl rfl fun h10 => ?_
    have h10 : Rg (S1.f 43 42) := h10
    refine c_lt (i := 8) (v := 11) rfl ⟨by omega, by omega⟩ ⟨by omega, by omega⟩ (fun h11 => ?_) (fun h12 => ?_)
    · refine r_load (i := 11) (u := 0) (w := 2) rfl rfl rfl ?_
      refine r_getf (i := 12) (v := 40) (w := 11) (x := (2, 71)) rfl ly43 rfl rfl fun _ => ?_
      refine r_load (i := 13) (u := 1) (w := 0) rfl rfl rfl ?_
      refine r_load (i := 14) (u := 2) (w := 0) rfl rfl rfl ?_
      refine r_const (i := 15) (u := 255) (z := 255) rfl rfl ?_
      refine r_iand (i := 16) rfl ?_
      have h14 := @yand_c b 255 (by decide) (by decide)
      have h15 := yand_255 b
      refine s_int (i := 17) rfl ly71 rfl (by omega) (by omega) ⟨by omega, by omega⟩ ?_
      have hI17 := hI2.seta (b := 71) (j := k.toNat) (z := yand b 255) ta71 rfl (by omega) (by omega)
      have hF19 := hF4.seta (b := 71) (j := k.toNat) (z := yand b 255) rfl
      have hR20 := hR5.seta (b := 71) (j := k.toNat) (z := yand b 255)
      refine yT_gen (fun S16 hS18 => ?_)
      rw [hS18] at hI17 hF19 hR20 
      refine r_const (i := 18) (u := 1) (z := 1) rfl rfl ?_
      exact r_retZ (i := 19) rfl (by omega) (by omega) ⟨1, rfl, by omega, by omega, hI17, hF19, hR20⟩
    · refine r_const (i := 9) (u := 0) (z := 0) rfl rfl ?_
      exact r_retZ (i := 10) rfl (by omega) (by omega) ⟨0, rfl, by omega, by omega, hI2, hF4, hR5⟩
/-- ProxyForgeModel.cut -/
theorem sp197 {G : xk} {S : yS} {d : Nat} (hI : yI S) {k : Int} (h_k : -2147483648 ≤ k ∧ k ≤ 2147483647) (hd : 0 ≤ d) : yT xPr G LY xC197 0 [some ((2, 43)), some (vi k)] [] S d (fun r S' => ∃ z : Int, r = (1, vi z) ∧ 0 ≤ z ∧ z ≤ 1 ∧ yI S' ∧ yFr [(43, 0), (43, 42)] [] S S' ∧ yRm [] S S') := by
  refine yT_pad 0 ?_
  show yT xPr G LY xC197 0 [some ((2, 43)), some (vi k)] [] S d _
  have hF : yFr [(43, 0), (43, 42)] [] S S := yFr.refl S
  have hR : yRm [] S S := yRm.refl S
  refine r_load (i := 0) (u := 0) (w := 2) rfl rfl rfl ?_
  refine r_const (i := 1) (u := 0) (z := 0) rfl rfl ?_
  refine r_putI (i := 2) (v := 0) (w := 11) rfl ly43 rfl ⟨by omega, by omega⟩ ?_
  have hI2 := hI.setf (b := 43) (w := 0) (z := 0) tf43_0 rfl (by omega) (by omega)
  have hF4 := hF.setf (b := 43) (w := 0) (z := 0) rfl
  have hR5 := hR.setf (b := 43) (w := 0) (z := 0)
  refine yT_gen (fun S1 hS3 => ?_)
  rw [hS3] at hI2 hF4 hR5 
  refine r_load (i := 3) (u := 1) (w := 0) rfl rfl rfl ?_
  refine z_lt (i := 4) (v := 9) rfl ⟨by omega, by omega⟩ (fun h6 => ?_) (fun h7 => ?_)
  · refine r_const (i := 9) (u := 0) (z := 0) rfl rfl ?_
    exact r_retZ (i := 10) rfl (by omega) (by omega) ⟨0, rfl, by omega, by omega, hI2, hF4, hR5⟩
  · refine r_load (i := 5) (u := 1) (w := 0) rfl rfl rfl ?_
    refine r_load (i := 6) (u := 0) (w := 2) rfl rfl rfl ?_
    have h8 := hI2.f tf43_42
    have h9 : S1.f 43 42 = S.f 43 42 := by rw [← hS3]; exact ysf_ne (by decide)
    refine r_getf (i := 7) (v := 42) (w := 11) (x := vi (S1.f 43 42)) rfl ly43 rfl rfl fun h10 => ?_
    have h10 : Rg (S1.f 43 42) := h10
    refine c_le (i := 8) (v := 11) rfl ⟨by omega, by omega⟩ ⟨by omega, by omega⟩ (fun h11 => ?_) (fun h12 => ?_)
    · refine r_load (i := 11) (u := 0) (w := 2) rfl rfl rfl ?_
      refine r_load (i := 12) (u := 1) (w := 0) rfl rfl rfl ?_
      refine r_putI (i := 13) (v := 42) (w := 11) rfl ly43 rfl ⟨by omega, by omega⟩ ?_
      have hI14 := hI2.setf (b := 43) (w := 42) (z := k) tf43_42 rfl (by omega) (by omega)
      have hF16 := hF4.setf (b := 43) (w := 42) (z := k) rfl
      have hR17 := hR5.setf (b := 43) (w := 42) (z := k)
      refine yT_gen (fun S13 hS15 => ?_)
      rw [hS15] at hI14 hF16 hR17 
      refine r_const (i := 14) (u := 1) (z := 1) rfl rfl ?_
      exact r_retZ (i := 15) rfl (by omega) (by omega) ⟨1, rfl, by omega, by omega, hI14, hF16, hR17⟩
    · refine r_const (i := 9) (u := 0) (z := 0) rfl rfl ?_
      exact r_retZ (i := 10) rfl (by omega) (by omega) ⟨0, rfl, by omega, by omega, hI2, hF4, hR5⟩
/-- ProxyForgeModel.outcome -/
theorem sp228 {G : xk} {S : yS} {d : Nat} (hI : yI S) {w0 : Int} (h_w0 : -2147483648 ≤ w0 ∧ w0 ≤ 2147483647) {v : Int} (h_v : Rl v) (hd : 0 ≤ d) : yT xPr G LY xC228 0 [some ((2, 43)), some (vi w0), some (vl v), none] [] S d (fun r S' => ∃ z : Int, r = (1, vi z) ∧ -2147483648 ≤ z ∧ z ≤ 2147483647 ∧ z = w0 ∧ yI S' ∧ yFr [(43, 37)] [] S S' ∧ yRm [] S S') := by
  refine yT_pad 0 ?_
  show yT xPr G LY xC228 0 [some ((2, 43)), some (vi w0), some (vl v), none] [] S d _
  have hF : yFr [(43, 37)] [] S S := yFr.refl S
  have hR : yRm [] S S := yRm.refl S
  refine r_load (i := 0) (u := 0) (w := 2) rfl rfl rfl ?_
  refine r_load (i := 1) (u := 2) (w := 1) rfl rfl rfl ?_
  refine r_putL (i := 2) (v := 37) (w := 11) rfl ly43 rfl ⟨by omega, by omega⟩ ?_
  have hI2 := hI.setf0 (b := 43) (w := 37) (z := v) rfl rfl
  have hF4 := hF.setf (b := 43) (w := 37) (z := v) rfl
  have hR5 := hR.setf (b := 43) (w := 37) (z := v)
  refine yT_gen (fun S1 hS3 => ?_)
  rw [hS3] at hI2 hF4 hR5 
  refine r_load (i := 3) (u := 1) (w := 0) rfl rfl rfl ?_
  exact r_retI (i := 4) rfl ⟨w0, rfl, by omega, by omega, (by omega), hI2, hF4, hR5⟩
/-- ProxyForgeModel.original -/
theorem sp225 {G : xk} {S : yS} {d : Nat} (hI : yI S) {m : Int} (h_m : 0 ≤ m ∧ m ≤ 59) (hd : 1 ≤ d) : yT xPr G LY xC225 0 [some ((2, 43)), some (vi m)] [] S d (fun r S' => ∃ z : Int, r = (1, vi z) ∧ 0 ≤ z ∧ z ≤ 5 ∧ yI S' ∧ yFr [(43, 37)] [] S S' ∧ yRm [] S S') := by
  refine yT_pad 0 ?_
  show yT xPr G LY xC225 0 [some ((2, 43)), some (vi m)] [] S d _
  obtain ⟨d, rfl⟩ : ∃ q, d = q + 1 := ⟨d - 1, by omega⟩
  have hF : yFr [(43, 37)] [] S S := yFr.refl S
  have hR : yRm [] S S := yRm.refl S
  refine r_load (i := 0) (u := 0) (w := 2) rfl rfl rfl ?_
  refine r_getf (i := 1) (v := 13) (w := 11) (x := (2, 54)) rfl ly43 rfl rfl fun _ => ?_
  refine r_load (i := 2) (u := 1) (w := 0) rfl rfl rfl ?_
  refine a_int (i := 3) rfl ly54 rfl (by omega) (by omega) fun h2 => ?_
  have h3 := hI.a ta54 m.toNat
  refine r_const (i := 4) (u := 32) (z := 32) rfl rfl ?_
  refine r_iand (i := 5) rfl ?_
  have h4 := @yand_c (S.a 54 m.toNat) 32 (by decide) (by decide)
  refine z_le (i := 6) (v := 12) rfl ⟨by omega, by omega⟩ (fun h5 => ?_) (fun h6 => ?_)
  · refine r_load (i := 12) (u := 0) (w := 2) rfl rfl rfl ?_
    refine r_const (i := 13) (u := 0) (z := 0) rfl rfl ?_
    refine r_load (i := 14) (u := 0) (w := 2) rfl rfl rfl ?_
    refine r_getf (i := 15) (v := 15) (w := 11) (x := (2, 56)) rfl ly43 rfl rfl fun _ => ?_
    refine r_load (i := 16) (u := 1) (w := 0) rfl rfl rfl ?_
    refine a_int (i := 17) rfl ly56 rfl (by omega) (by omega) fun h8 => ?_
    have h9 := hI.a ta56 m.toNat
    refine r_const (i := 18) (u := 3) (z := 3) rfl rfl ?_
    refine c_le (i := 19) (v := 22) rfl ⟨by omega, by omega⟩ ⟨by omega, by omega⟩ (fun h10 => ?_) (fun h11 => ?_)
    · refine r_lconst (i := 22) (u := 0) (z := 0) rfl rfl ?_
      refine r_call (i := 23) (u := 11) (v := 228) (w := 0) (b := 0) (na := 1027) (C2 := xC228) (as := [(2, 43), vi 0, vl 0]) (s := []) rfl rfl rfl rfl rfl rfl rfl (sp228 (w0 := 0) (v := 0) hI ⟨by omega, by omega⟩ ⟨by omega, by omega⟩   (by omega)) (fun r12 S13 hq14 => ?_)
      obtain ⟨z15, rfl, h16, h17, h18, hI19, hF20, hR21⟩ := hq14
      have hF22 := hF.trans hF20 rfl rfl
      have hR23 := hR.trans hR21 rfl
      refine Or.inr (Or.inl ⟨rfl, ?_⟩)
      exact r_retI (i := 24) rfl ⟨z15, rfl, by omega, by omega, hI19, hF22, hR23⟩
    · refine r_lconst (i := 20) (u := 18446744073709551615) (z := -1) rfl rfl ?_
      refine r_goto (i := 21) (v := 23) rfl ?_
      refine r_call (i := 23) (u := 11) (v := 228) (w := 0) (b := 0) (na := 1027) (C2 := xC228) (as := [(2, 43), vi 0, vl (-1)]) (s := []) rfl rfl rfl rfl rfl rfl rfl (sp228 (w0 := 0) (v := -1) hI ⟨by omega, by omega⟩ ⟨by omega, by omega⟩   (by omega)) (fun r24 S25 hq26 => ?_)
      obtain ⟨z27, rfl, h28, h29, h30, hI31, hF32, hR33⟩ := hq26
      have hF34 := hF.trans hF32 rfl rfl
      have hR35 := hR.trans hR33 rfl
      refine Or.inr (Or.inl ⟨rfl, ?_⟩)
      exact r_retI (i := 24) rfl ⟨z27, rfl, by omega, by omega, hI31, hF34, hR35⟩
  · refine r_load (i := 7) (u := 0) (w := 2) rfl rfl rfl ?_
    refine r_const (i := 8) (u := 5) (z := 5) rfl rfl ?_
    refine r_lconst (i := 9) (u := 0) (z := 0) rfl rfl ?_
    refine r_call (i := 10) (u := 11) (v := 228) (w := 0) (b := 0) (na := 1027) (C2 := xC228) (as := [(2, 43), vi 5, vl 0]) (s := []) rfl rfl rfl rfl rfl rfl rfl (sp228 (w0 := 5) (v := 0) hI ⟨by omega, by omega⟩ ⟨by omega, by omega⟩   (by omega)) (fun r36 S37 hq38 => ?_)
    obtain ⟨z39, rfl, h40, h41, h42, hI43, hF44, hR45⟩ := hq38
    have hF46 := hF.trans hF44 rfl rfl
    have hR47 := hR.trans hR45 rfl
    refine Or.inr (Or.inl ⟨rfl, ?_⟩)
    exact r_retI (i := 11) rfl ⟨z39, rfl, by omega, by omega, hI43, hF46, hR47⟩
/-- ProxyForgeModel.unboxed -/
theorem sp261 {G : xk} {S : yS} {d : Nat} (hI : yI S) {b : Int} (h_b : 0 ≤ b ∧ b ≤ 23) (hd : 1 ≤ d) : yT xPr G LY xC261 0 [some ((2, 43)), some (vi b)] [] S d (fun r S' => ∃ z : Int, r = (1, vi z) ∧ 0 ≤ z ∧ z ≤ 5 ∧ yI S' ∧ yFr [(43, 37)] [68] S S' ∧ yRm [] S S') := by
  refine yT_pad 0 ?_
  show yT xPr G LY xC261 0 [some ((2, 43)), some (vi b)] [] S d _
  obtain ⟨d, rfl⟩ : ∃ q, d = q + 1 := ⟨d - 1, by omega⟩
  have hF : yFr [(43, 37)] [68] S S := yFr.refl S
  have hR : yRm [] S S := yRm.refl S
  refine r_load (i := 0) (u := 1) (w := 0) rfl rfl rfl ?_
  refine z_ne (i := 1) (v := 7) rfl ⟨by omega, by omega⟩ (fun h1 => ?_) (fun h2 => ?_)
  · refine r_load (i := 7) (u := 1) (w := 0) rfl rfl rfl ?_
    refine r_const (i := 8) (u := 4) (z := 4) rfl rfl ?_
    refine c_ge (i := 9) (v := 33) rfl ⟨by omega, by omega⟩ ⟨by omega, by omega⟩ (fun h3 => ?_) (fun h4 => ?_)
    · refine r_load (i := 33) (u := 0) (w := 2) rfl rfl rfl ?_
      have h5 := hI.f tf43_33
      have h6 := hI.m2
      refine r_getf (i := 34) (v := 33) (w := 11) (x := vi (S.f 43 33)) rfl ly43 rfl rfl fun h7 => ?_
      have h7 : Rg (S.f 43 33) := h7
      refine z_ne (i := 35) (v := 41) rfl ⟨by omega, by omega⟩ (fun h8 => ?_) (fun h9 => ?_)
      · refine r_load (i := 41) (u := 0) (w := 2) rfl rfl rfl ?_
        refine r_getf (i := 42) (v := 33) (w := 11) (x := vi (S.f 43 33)) rfl ly43 rfl rfl fun h10 => ?_
        have h10 : Rg (S.f 43 33) := h10
        refine r_const (i := 43) (u := 4) (z := 4) rfl rfl ?_
        refine c_ge (i := 44) (v := 62) rfl ⟨by omega, by omega⟩ ⟨by omega, by omega⟩ (fun h11 => ?_) (fun h12 => ?_)
        · refine r_load (i := 62) (u := 0) (w := 2) rfl rfl rfl ?_
          refine r_load (i := 63) (u := 0) (w := 2) rfl rfl rfl ?_
          have h13 := hI.m2
          refine r_getf (i := 64) (v := 36) (w := 11) (x := vl (S.f 43 36)) rfl ly43 rfl rfl fun h14 => ?_
          have h14 : Rl (S.f 43 36) := h14
          refine r_l2i (i := 65) rfl ?_
          rw [vi_sg (S.f 43 36)]
          have h15 := ysg_fact (S.f 43 36)
          refine r_load (i := 66) (u := 1) (w := 0) rfl rfl rfl ?_
          refine r_const (i := 67) (u := 4) (z := 4) rfl rfl ?_
          refine r_isub (i := 68) rfl ?_
          have h16 := hI.f tf43_1
          refine r_call (i := 69) (u := 11) (v := 262) (w := 0) (b := 0) (na := 1795) (C2 := xC262) (as := [(2, 43), vi (ysg (S.f 43 36)), vi (b - 4)]) (s := []) rfl rfl rfl rfl rfl rfl rfl (sp262 (t := ysg (S.f 43 36)) (o := b - 4) hI ⟨by omega, by omega⟩ ⟨by omega, by omega⟩   (by omega)) (fun r17 S18 hq19 => ?_)
          obtain ⟨z20, rfl, h21, h22, um23, hI24, hF25, hR26⟩ := hq19
          have hF27 := hF.trans hF25 rfl rfl
          have hR28 := hR.trans hR26 rfl
          refine Or.inr (Or.inl ⟨rfl, ?_⟩)
          refine z_eq (i := 70) (v := 77) rfl ⟨by omega, by omega⟩ (fun h29 => ?_) (fun h30 => ?_)
          · refine r_load (i := 77) (u := 0) (w := 2) rfl rfl rfl ?_
            refine r_const (i := 78) (u := 3) (z := 3) rfl rfl ?_
            refine r_lconst (i := 79) (u := 0) (z := 0) rfl rfl ?_
            refine r_call (i := 80) (u := 11) (v := 228) (w := 0) (b := 0) (na := 1027) (C2 := xC228) (as := [(2, 43), vi 3, vl 0]) (s := []) rfl rfl rfl rfl rfl rfl rfl (sp228 (w0 := 3) (v := 0) hI24 ⟨by omega, by omega⟩ ⟨by omega, by omega⟩   (by omega)) (fun r31 S32 hq33 => ?_)
            obtain ⟨z34, rfl, h35, h36, h37, hI38, hF39, hR40⟩ := hq33
            have hF41 := hF27.trans hF39 rfl rfl
            have hR42 := hR28.trans hR40 rfl
            refine Or.inr (Or.inl ⟨rfl, ?_⟩)
            exact r_retI (i := 81) rfl ⟨z34, rfl, by omega, by omega, hI38, hF41, hR42⟩
          · refine r_load (i := 71) (u := 0) (w := 2) rfl rfl rfl ?_
            refine r_const (i := 72) (u := 0) (z := 0) rfl rfl ?_
            refine r_load (i := 73) (u := 0) (w := 2) rfl rfl rfl ?_
            have h43 := hI24.m2
            have h44 : S18.f 43 36 = S.f 43 36 := hF25.f rfl
            refine r_getf (i := 74) (v := 36) (w := 11) (x := vl (S18.f 43 36)) rfl ly43 rfl rfl fun h45 => ?_
            have h45 : Rl (S18.f 43 36) := h45
            refine r_call (i := 75) (u := 11) (v := 228) (w := 0) (b := 0) (na := 1027) (C2 := xC228) (as := [(2, 43), vi 0, vl (S18.f 43 36)]) (s := []) rfl rfl rfl rfl rfl rfl rfl (sp228 (w0 := 0) (v := S18.f 43 36) hI24 ⟨by omega, by omega⟩ ⟨by omega, by omega⟩   (by omega)) (fun r46 S47 hq48 => ?_)
            obtain ⟨z49, rfl, h50, h51, h52, hI53, hF54, hR55⟩ := hq48
            have hF56 := hF27.trans hF54 rfl rfl
            have hR57 := hR28.trans hR55 rfl
            refine Or.inr (Or.inl ⟨rfl, ?_⟩)
            refine r_goto (i := 76) (v := 81) rfl ?_
            exact r_retI (i := 81) rfl ⟨z49, rfl, by omega, by omega, hI53, hF56, hR57⟩
        · refine r_load (i := 45) (u := 1) (w := 0) rfl rfl rfl ?_
          refine r_const (i := 46) (u := 4) (z := 4) rfl rfl ?_
          refine c_ne (i := 47) (v := 57) rfl ⟨by omega, by omega⟩ ⟨by omega, by omega⟩ (fun h58 => ?_) (fun h59 => ?_)
          · refine r_load (i := 57) (u := 0) (w := 2) rfl rfl rfl ?_
            refine r_const (i := 58) (u := 3) (z := 3) rfl rfl ?_
            refine r_lconst (i := 59) (u := 0) (z := 0) rfl rfl ?_
            refine r_call (i := 60) (u := 11) (v := 228) (w := 0) (b := 0) (na := 1027) (C2 := xC228) (as := [(2, 43), vi 3, vl 0]) (s := []) rfl rfl rfl rfl rfl rfl rfl (sp228 (w0 := 3) (v := 0) hI ⟨by omega, by omega⟩ ⟨by omega, by omega⟩   (by omega)) (fun r60 S61 hq62 => ?_)
            obtain ⟨z63, rfl, h64, h65, h66, hI67, hF68, hR69⟩ := hq62
            have hF70 := hF.trans hF68 rfl rfl
            have hR71 := hR.trans hR69 rfl
            refine Or.inr (Or.inl ⟨rfl, ?_⟩)
            exact r_retI (i := 61) rfl ⟨z63, rfl, by omega, by omega, hI67, hF70, hR71⟩
          · refine r_load (i := 48) (u := 0) (w := 2) rfl rfl rfl ?_
            refine r_const (i := 49) (u := 0) (z := 0) rfl rfl ?_
            refine r_lconst (i := 50) (u := 18446744073709551615) (z := -1) rfl rfl ?_
            refine r_load (i := 51) (u := 0) (w := 2) rfl rfl rfl ?_
            refine r_getf (i := 52) (v := 33) (w := 11) (x := vi (S.f 43 33)) rfl ly43 rfl rfl fun h72 => ?_
            have h72 : Rg (S.f 43 33) := h72
            refine r_i2l (i := 53) rfl ⟨by omega, by omega⟩ ?_
            refine r_lsub (i := 54) rfl ?_
            refine r_call (i := 55) (u := 11) (v := 228) (w := 0) (b := 0) (na := 1027) (C2 := xC228) (as := [(2, 43), vi 0, vl ((-1) - (S.f 43 33))]) (s := []) rfl rfl rfl rfl rfl rfl rfl (sp228 (w0 := 0) (v := (-1) - (S.f 43 33)) hI ⟨by omega, by omega⟩ ⟨by omega, by omega⟩   (by omega)) (fun r73 S74 hq75 => ?_)
            obtain ⟨z76, rfl, h77, h78, h79, hI80, hF81, hR82⟩ := hq75
            have hF83 := hF.trans hF81 rfl rfl
            have hR84 := hR.trans hR82 rfl
            refine Or.inr (Or.inl ⟨rfl, ?_⟩)
            refine r_goto (i := 56) (v := 61) rfl ?_
            exact r_retI (i := 61) rfl ⟨z76, rfl, by omega, by omega, hI80, hF83, hR84⟩
      · refine r_load (i := 36) (u := 0) (w := 2) rfl rfl rfl ?_
        refine r_const (i := 37) (u := 0) (z := 0) rfl rfl ?_
        refine r_lconst (i := 38) (u := 18446744073709551615) (z := -1) rfl rfl ?_
        refine r_call (i := 39) (u := 11) (v := 228) (w := 0) (b := 0) (na := 1027) (C2 := xC228) (as := [(2, 43), vi 0, vl (-1)]) (s := []) rfl rfl rfl rfl rfl rfl rfl (sp228 (w0 := 0) (v := -1) hI ⟨by omega, by omega⟩ ⟨by omega, by omega⟩   (by omega)) (fun r85 S86 hq87 => ?_)
        obtain ⟨z88, rfl, h89, h90, h91, hI92, hF93, hR94⟩ := hq87
        have hF95 := hF.trans hF93 rfl rfl
        have hR96 := hR.trans hR94 rfl
        refine Or.inr (Or.inl ⟨rfl, ?_⟩)
        exact r_retI (i := 40) rfl ⟨z88, rfl, by omega, by omega, hI92, hF95, hR96⟩
    · refine r_load (i := 10) (u := 0) (w := 2) rfl rfl rfl ?_
      have h97 := hI.f tf43_33
      have h98 := hI.m2
      refine r_getf (i := 11) (v := 33) (w := 11) (x := vi (S.f 43 33)) rfl ly43 rfl rfl fun h99 => ?_
      have h99 : Rg (S.f 43 33) := h99
      refine z_ne (i := 12) (v := 18) rfl ⟨by omega, by omega⟩ (fun h100 => ?_) (fun h101 => ?_)
      · refine r_load (i := 18) (u := 0) (w := 2) rfl rfl rfl ?_
        refine r_getf (i := 19) (v := 33) (w := 11) (x := vi (S.f 43 33)) rfl ly43 rfl rfl fun h102 => ?_
        have h102 : Rg (S.f 43 33) := h102
        refine r_load (i := 20) (u := 1) (w := 0) rfl rfl rfl ?_
        refine c_ne (i := 21) (v := 28) rfl ⟨by omega, by omega⟩ ⟨by omega, by omega⟩ (fun h103 => ?_) (fun h104 => ?_)
        · refine r_load (i := 28) (u := 0) (w := 2) rfl rfl rfl ?_
          refine r_const (i := 29) (u := 3) (z := 3) rfl rfl ?_
          refine r_lconst (i := 30) (u := 0) (z := 0) rfl rfl ?_
          refine r_call (i := 31) (u := 11) (v := 228) (w := 0) (b := 0) (na := 1027) (C2 := xC228) (as := [(2, 43), vi 3, vl 0]) (s := []) rfl rfl rfl rfl rfl rfl rfl (sp228 (w0 := 3) (v := 0) hI ⟨by omega, by omega⟩ ⟨by omega, by omega⟩   (by omega)) (fun r105 S106 hq107 => ?_)
          obtain ⟨z108, rfl, h109, h110, h111, hI112, hF113, hR114⟩ := hq107
          have hF115 := hF.trans hF113 rfl rfl
          have hR116 := hR.trans hR114 rfl
          refine Or.inr (Or.inl ⟨rfl, ?_⟩)
          exact r_retI (i := 32) rfl ⟨z108, rfl, by omega, by omega, hI112, hF115, hR116⟩
        · refine r_load (i := 22) (u := 0) (w := 2) rfl rfl rfl ?_
          refine r_const (i := 23) (u := 0) (z := 0) rfl rfl ?_
          refine r_load (i := 24) (u := 0) (w := 2) rfl rfl rfl ?_
          have h117 := hI.m2
          refine r_getf (i := 25) (v := 36) (w := 11) (x := vl (S.f 43 36)) rfl ly43 rfl rfl fun h118 => ?_
          have h118 : Rl (S.f 43 36) := h118
          refine r_call (i := 26) (u := 11) (v := 228) (w := 0) (b := 0) (na := 1027) (C2 := xC228) (as := [(2, 43), vi 0, vl (S.f 43 36)]) (s := []) rfl rfl rfl rfl rfl rfl rfl (sp228 (w0 := 0) (v := S.f 43 36) hI ⟨by omega, by omega⟩ ⟨by omega, by omega⟩   (by omega)) (fun r119 S120 hq121 => ?_)
          obtain ⟨z122, rfl, h123, h124, h125, hI126, hF127, hR128⟩ := hq121
          have hF129 := hF.trans hF127 rfl rfl
          have hR130 := hR.trans hR128 rfl
          refine Or.inr (Or.inl ⟨rfl, ?_⟩)
          refine r_goto (i := 27) (v := 32) rfl ?_
          exact r_retI (i := 32) rfl ⟨z122, rfl, by omega, by omega, hI126, hF129, hR130⟩
      · refine r_load (i := 13) (u := 0) (w := 2) rfl rfl rfl ?_
        refine r_const (i := 14) (u := 2) (z := 2) rfl rfl ?_
        refine r_lconst (i := 15) (u := 0) (z := 0) rfl rfl ?_
        refine r_call (i := 16) (u := 11) (v := 228) (w := 0) (b := 0) (na := 1027) (C2 := xC228) (as := [(2, 43), vi 2, vl 0]) (s := []) rfl rfl rfl rfl rfl rfl rfl (sp228 (w0 := 2) (v := 0) hI ⟨by omega, by omega⟩ ⟨by omega, by omega⟩   (by omega)) (fun r131 S132 hq133 => ?_)
        obtain ⟨z134, rfl, h135, h136, h137, hI138, hF139, hR140⟩ := hq133
        have hF141 := hF.trans hF139 rfl rfl
        have hR142 := hR.trans hR140 rfl
        refine Or.inr (Or.inl ⟨rfl, ?_⟩)
        refine r_goto (i := 17) (v := 32) rfl ?_
        exact r_retI (i := 32) rfl ⟨z134, rfl, by omega, by omega, hI138, hF141, hR142⟩
  · refine r_load (i := 2) (u := 0) (w := 2) rfl rfl rfl ?_
    refine r_const (i := 3) (u := 0) (z := 0) rfl rfl ?_
    refine r_lconst (i := 4) (u := 0) (z := 0) rfl rfl ?_
    refine r_call (i := 5) (u := 11) (v := 228) (w := 0) (b := 0) (na := 1027) (C2 := xC228) (as := [(2, 43), vi 0, vl 0]) (s := []) rfl rfl rfl rfl rfl rfl rfl (sp228 (w0 := 0) (v := 0) hI ⟨by omega, by omega⟩ ⟨by omega, by omega⟩   (by omega)) (fun r143 S144 hq145 => ?_)
    obtain ⟨z146, rfl, h147, h148, h149, hI150, hF151, hR152⟩ := hq145
    have hF153 := hF.trans hF151 rfl rfl
    have hR154 := hR.trans hR152 rfl
    refine Or.inr (Or.inl ⟨rfl, ?_⟩)
    exact r_retI (i := 6) rfl ⟨z146, rfl, by omega, by omega, hI150, hF153, hR154⟩
theorem lp212_16 {G : xk} {d : Nat} {S0 : yS} {k : Int} (h_k : 0 ≤ k ∧ k ≤ 23) {t : Int} (h_t : 0 ≤ t ∧ t ≤ 19) (hd : 1 ≤ d + 1) : ∀ (n : Nat), ∀ (S : yS) (hI : yI S) (hF : yFr [] [68] S0 S) (hR : yRm [] S0 S) (g0 j : Int) (h_g0 : 0 ≤ g0 ∧ g0 ≤ 1) (h_j : 0 ≤ j ∧ j ≤ 3) (hn : 3 - j < (n : Nat)), yT xPr G LY xC212 16 [some ((2, 43)), some (vi k), some (vi t), some (vi g0), some (vi j)] [] S (d + 1) (fun r S' => ∃ z : Int, r = (1, vi z) ∧ 0 ≤ z ∧ z ≤ 1 ∧ yI S' ∧ yFr [] [68] S0 S' ∧ yRm [] S0 S') := by
  intro n
  induction n with
  | zero => intro S hI hF hR g0 j h_g0 h_j hn; exact absurd hn (by omega)
  | succ n ih =>
    intro S hI hF hR g0 j h_g0 h_j hn
    refine r_load (i := 16) (u := 4) (w := 0) rfl rfl rfl ?_
    refine r_load (i := 17) (u := 0) (w := 2) rfl rfl rfl ?_
    refine r_getf (i := 18) (v := 26) (w := 11) (x := (2, 63)) rfl ly43 rfl rfl fun _ => ?_
    refine r_load (i := 19) (u := 1) (w := 0) rfl rfl rfl ?_
    refine a_int (i := 20) rfl ly63 rfl (by omega) (by omega) fun h2 => ?_
    have h3 := hI.a ta63 k.toNat
    have h4 : S.a 63 k.toNat = S0.a 63 k.toNat := hF.a rfl _
    refine c_ge (i := 21) (v := 38) rfl ⟨by omega, by omega⟩ ⟨by omega, by omega⟩ (fun h5 => ?_) (fun h6 => ?_)
    · refine r_load (i := 38) (u := 3) (w := 0) rfl rfl rfl ?_
      exact r_retZ (i := 39) rfl (by omega) (by omega) ⟨g0, rfl, by omega, by omega, hI, hF, hR⟩
    · refine r_load (i := 22) (u := 3) (w := 0) rfl rfl rfl ?_
      refine z_ne (i := 23) (v := 38) rfl ⟨by omega, by omega⟩ (fun h7 => ?_) (fun h8 => ?_)
      · refine r_load (i := 38) (u := 3) (w := 0) rfl rfl rfl ?_
        exact r_retZ (i := 39) rfl (by omega) (by omega) ⟨g0, rfl, by omega, by omega, hI, hF, hR⟩
      · refine r_load (i := 24) (u := 0) (w := 2) rfl rfl rfl ?_
        refine r_load (i := 25) (u := 2) (w := 0) rfl rfl rfl ?_
        refine r_load (i := 26) (u := 0) (w := 2) rfl rfl rfl ?_
        refine r_getf (i := 27) (v := 25) (w := 11) (x := (2, 62)) rfl ly43 rfl rfl fun _ => ?_
        refine r_const (i := 28) (u := 3) (z := 3) rfl rfl ?_
        refine r_load (i := 29) (u := 1) (w := 0) rfl rfl rfl ?_
        refine r_imul (i := 30) rfl ?_
        refine r_load (i := 31) (u := 4) (w := 0) rfl rfl rfl ?_
        refine r_iadd (i := 32) rfl ?_
        refine a_int (i := 33) rfl ly62 rfl (by omega) (by omega) fun h10 => ?_
        have h11 := hI.a ta62 ((3 * k) + j).toNat
        have h12 : S.a 62 ((3 * k) + j).toNat = S0.a 62 ((3 * k) + j).toNat := hF.a rfl _
        have h13 := hI.f tf43_1
        have h14 : S.f 43 1 = S0.f 43 1 := hF.f rfl
        refine r_call (i := 34) (u := 11) (v := 262) (w := 0) (b := 0) (na := 1795) (C2 := xC262) (as := [(2, 43), vi t, vi (S.a 62 ((3 * k) + j).toNat)]) (s := []) rfl rfl rfl rfl rfl rfl rfl (sp262 (t := t) (o := S.a 62 ((3 * k) + j).toNat) hI ⟨by omega, by omega⟩ ⟨by omega, by omega⟩   (by omega)) (fun r15 S16 hq17 => ?_)
        obtain ⟨z18, rfl, h19, h20, um21, hI22, hF23, hR24⟩ := hq17
        have hF25 := hF.trans hF23 rfl rfl
        have hR26 := hR.trans hR24 rfl
        refine Or.inr (Or.inl ⟨rfl, ?_⟩)
        refine r_store (i := 35) (u := 3) (w := 0) (L1 := [some ((2, 43)), some (vi k), some (vi t), some (vi z18), some (vi j)]) rfl rfl rfl rfl ?_
        refine r_iinc (i := 36) (u := 1) (v := 4) (s := 1) (L1 := [some ((2, 43)), some (vi k), some (vi t), some (vi z18), some (vi (j + 1))]) rfl rfl rfl rfl rfl ?_
        refine r_goto (i := 37) (v := 16) rfl ?_
        exact ih S16 hI22 hF25 hR26 z18 (j + 1) ⟨by omega, by omega⟩ ⟨by omega, by omega⟩  (by omega)
/-- ProxyForgeModel.isThrown -/
theorem sp212 {G : xk} {S : yS} {d : Nat} (hI : yI S) {k : Int} (h_k : 0 ≤ k ∧ k ≤ 23) {t : Int} (h_t : 0 ≤ t ∧ t ≤ 19) (hd : 1 ≤ d) : yT xPr G LY xC212 0 [some ((2, 43)), some (vi k), some (vi t)] [] S d (fun r S' => ∃ z : Int, r = (1, vi z) ∧ 0 ≤ z ∧ z ≤ 1 ∧ yI S' ∧ yFr [] [68] S S' ∧ yRm [] S S') := by
  refine yT_pad 2 ?_
  show yT xPr G LY xC212 0 [some ((2, 43)), some (vi k), some (vi t), none, none] [] S d _
  obtain ⟨d, rfl⟩ : ∃ q, d = q + 1 := ⟨d - 1, by omega⟩
  have hF : yFr [] [68] S S := yFr.refl S
  have hR : yRm [] S S := yRm.refl S
  refine r_load (i := 0) (u := 0) (w := 2) rfl rfl rfl ?_
  refine r_load (i := 1) (u := 2) (w := 0) rfl rfl rfl ?_
  refine r_const (i := 2) (u := 2) (z := 2) rfl rfl ?_
  have h1 := hI.f tf43_1
  refine r_call (i := 3) (u := 11) (v := 262) (w := 0) (b := 0) (na := 1795) (C2 := xC262) (as := [(2, 43), vi t, vi 2]) (s := []) rfl rfl rfl rfl rfl rfl rfl (sp262 (t := t) (o := 2) hI ⟨by omega, by omega⟩ ⟨by omega, by omega⟩   (by omega)) (fun r2 S3 hq4 => ?_)
  obtain ⟨z5, rfl, h6, h7, um8, hI9, hF10, hR11⟩ := hq4
  have hF12 := hF.trans hF10 rfl rfl
  have hR13 := hR.trans hR11 rfl
  refine Or.inr (Or.inl ⟨rfl, ?_⟩)
  refine z_ne (i := 4) (v := 10) rfl ⟨by omega, by omega⟩ (fun h14 => ?_) (fun h15 => ?_)
  · refine r_const (i := 10) (u := 1) (z := 1) rfl rfl ?_
    refine r_goto (i := 11) (v := 13) rfl ?_
    refine r_store (i := 13) (u := 3) (w := 0) (L1 := [some ((2, 43)), some (vi k), some (vi t), some (vi 1), none]) rfl rfl rfl rfl ?_
    refine r_const (i := 14) (u := 0) (z := 0) rfl rfl ?_
    refine r_store (i := 15) (u := 4) (w := 0) (L1 := [some ((2, 43)), some (vi k), some (vi t), some (vi 1), some (vi 0)]) rfl rfl rfl rfl ?_
    exact lp212_16 h_k h_t  hd _ S3 hI9 hF12 hR13 1 0 ⟨by omega, by omega⟩ ⟨by omega, by omega⟩  (Int.lt_succ_toNat _)
  · refine r_load (i := 5) (u := 0) (w := 2) rfl rfl rfl ?_
    refine r_load (i := 6) (u := 2) (w := 0) rfl rfl rfl ?_
    refine r_const (i := 7) (u := 3) (z := 3) rfl rfl ?_
    have h16 := hI9.f tf43_1
    have h17 : S3.f 43 1 = S.f 43 1 := hF10.f rfl
    refine r_call (i := 8) (u := 11) (v := 262) (w := 0) (b := 0) (na := 1795) (C2 := xC262) (as := [(2, 43), vi t, vi 3]) (s := []) rfl rfl rfl rfl rfl rfl rfl (sp262 (t := t) (o := 3) hI9 ⟨by omega, by omega⟩ ⟨by omega, by omega⟩   (by omega)) (fun r18 S19 hq20 => ?_)
    obtain ⟨z21, rfl, h22, h23, um24, hI25, hF26, hR27⟩ := hq20
    have hF28 := hF12.trans hF26 rfl rfl
    have hR29 := hR13.trans hR27 rfl
    refine Or.inr (Or.inl ⟨rfl, ?_⟩)
    refine z_eq (i := 9) (v := 12) rfl ⟨by omega, by omega⟩ (fun h30 => ?_) (fun h31 => ?_)
    · refine r_const (i := 12) (u := 0) (z := 0) rfl rfl ?_
      refine r_store (i := 13) (u := 3) (w := 0) (L1 := [some ((2, 43)), some (vi k), some (vi t), some (vi 0), none]) rfl rfl rfl rfl ?_
      refine r_const (i := 14) (u := 0) (z := 0) rfl rfl ?_
      refine r_store (i := 15) (u := 4) (w := 0) (L1 := [some ((2, 43)), some (vi k), some (vi t), some (vi 0), some (vi 0)]) rfl rfl rfl rfl ?_
      exact lp212_16 h_k h_t  hd _ S19 hI25 hF28 hR29 0 0 ⟨by omega, by omega⟩ ⟨by omega, by omega⟩  (Int.lt_succ_toNat _)
    · refine r_const (i := 10) (u := 1) (z := 1) rfl rfl ?_
      refine r_goto (i := 11) (v := 13) rfl ?_
      refine r_store (i := 13) (u := 3) (w := 0) (L1 := [some ((2, 43)), some (vi k), some (vi t), some (vi 1), none]) rfl rfl rfl rfl ?_
      refine r_const (i := 14) (u := 0) (z := 0) rfl rfl ?_
      refine r_store (i := 15) (u := 4) (w := 0) (L1 := [some ((2, 43)), some (vi k), some (vi t), some (vi 1), some (vi 0)]) rfl rfl rfl rfl ?_
      exact lp212_16 h_k h_t  hd _ S19 hI25 hF28 hR29 1 0 ⟨by omega, by omega⟩ ⟨by omega, by omega⟩  (Int.lt_succ_toNat _)
/-- ProxyForgeModel.answer -/
theorem sp181 {G : xk} {S : yS} {d : Nat} (hI : yI S) {w0 : Int} (h_w0 : -2147483648 ≤ w0 ∧ w0 ≤ 2147483647) {v : Int} (h_v : Rl v) (hd : 1 ≤ d) : yT xPr G LY xC181 0 [some ((2, 43)), some (vi w0), some (vl v), none] [] S d (fun r S' => r = (0, (0, 0)) ∧ mAnQ S S' w0 v ∧ yI S' ∧ yFr [(43, 0), (43, 33), (43, 36)] [68] S S' ∧ yRm [] S S') := by
  refine yT_pad 2 ?_
  show yT xPr G LY xC181 0 [some ((2, 43)), some (vi w0), some (vl v), none, none, none] [] S d _
  obtain ⟨d, rfl⟩ : ∃ q, d = q + 1 := ⟨d - 1, by omega⟩
  have hF : yFr [(43, 0), (43, 33), (43, 36)] [68] S S := yFr.refl S
  have hR : yRm [] S S := yRm.refl S
  refine r_load (i := 0) (u := 1) (w := 0) rfl rfl rfl ?_
  refine r_const (i := 1) (u := 4) (z := 4) rfl rfl ?_
  refine c_eq (i := 2) (v := 6) rfl ⟨by omega, by omega⟩ ⟨by omega, by omega⟩ (fun h1 => ?_) (fun h2 => ?_)
  · refine r_const (i := 6) (u := 1) (z := 1) rfl rfl ?_
    refine r_goto (i := 7) (v := 9) rfl ?_
    refine r_store (i := 9) (u := 4) (w := 0) (L1 := [some ((2, 43)), some (vi w0), some (vl v), none, some (vi 1), none]) rfl rfl rfl rfl ?_
    refine r_load (i := 10) (u := 1) (w := 0) rfl rfl rfl ?_
    refine z_lt (i := 11) (v := 38) rfl ⟨by omega, by omega⟩ (fun h3 => ?_) (fun h4 => ?_)
    · refine r_const (i := 38) (u := 0) (z := 0) rfl rfl ?_
      refine r_store (i := 39) (u := 5) (w := 0) (L1 := [some ((2, 43)), some (vi w0), some (vl v), none, some (vi 1), some (vi 0)]) rfl rfl rfl rfl ?_
      refine r_load (i := 40) (u := 0) (w := 2) rfl rfl rfl ?_
      refine r_load (i := 41) (u := 5) (w := 0) rfl rfl rfl ?_
      refine z_eq (i := 42) (v := 45) rfl ⟨by omega, by omega⟩ (fun h5 => ?_) (fun h6 => absurd h6 (by omega))
      refine r_const (i := 45) (u := 1) (z := 1) rfl rfl ?_
      refine r_putI (i := 46) (v := 0) (w := 11) rfl ly43 rfl ⟨by omega, by omega⟩ ?_
      have hI8 := hI.setf (b := 43) (w := 0) (z := 1) tf43_0 rfl (by omega) (by omega)
      have hF10 := hF.setf (b := 43) (w := 0) (z := 1) rfl
      have hR11 := hR.setf (b := 43) (w := 0) (z := 1)
      refine yT_gen (fun S7 hS9 => ?_)
      rw [hS9] at hI8 hF10 hR11 
      refine r_load (i := 47) (u := 5) (w := 0) rfl rfl rfl ?_
      refine z_ne (i := 48) (v := 50) rfl ⟨by omega, by omega⟩ (fun h12 => absurd h12 (by omega)) (fun h13 => ?_)
      have h14 := hI8.f tf43_0
      have h15 : S7.f 43 0 = 1 := by rw [← hS9]; exact ysf_eq
      exact r_ret0 (i := 49) rfl ⟨rfl, (by first | (exfalso; omega) | exact fun hf9 => Or.inl ⟨by omega, by omega, fun q9 => ⟨by omega, by omega⟩, fun q9 => absurd q9 (by omega)⟩ | exact fun hf9 => Or.inr ⟨by omega, fun hc => by obtain ⟨c1, c2, -⟩ := hc; omega⟩), hI8, hF10, hR11⟩
    · refine r_load (i := 12) (u := 1) (w := 0) rfl rfl rfl ?_
      refine r_const (i := 13) (u := 6) (z := 6) rfl rfl ?_
      refine c_ge (i := 14) (v := 38) rfl ⟨by omega, by omega⟩ ⟨by omega, by omega⟩ (fun h16 => ?_) (fun h17 => ?_)
      · refine r_const (i := 38) (u := 0) (z := 0) rfl rfl ?_
        refine r_store (i := 39) (u := 5) (w := 0) (L1 := [some ((2, 43)), some (vi w0), some (vl v), none, some (vi 1), some (vi 0)]) rfl rfl rfl rfl ?_
        refine r_load (i := 40) (u := 0) (w := 2) rfl rfl rfl ?_
        refine r_load (i := 41) (u := 5) (w := 0) rfl rfl rfl ?_
        refine z_eq (i := 42) (v := 45) rfl ⟨by omega, by omega⟩ (fun h18 => ?_) (fun h19 => absurd h19 (by omega))
        refine r_const (i := 45) (u := 1) (z := 1) rfl rfl ?_
        refine r_putI (i := 46) (v := 0) (w := 11) rfl ly43 rfl ⟨by omega, by omega⟩ ?_
        have hI21 := hI.setf (b := 43) (w := 0) (z := 1) tf43_0 rfl (by omega) (by omega)
        have hF23 := hF.setf (b := 43) (w := 0) (z := 1) rfl
        have hR24 := hR.setf (b := 43) (w := 0) (z := 1)
        refine yT_gen (fun S20 hS22 => ?_)
        rw [hS22] at hI21 hF23 hR24 
        refine r_load (i := 47) (u := 5) (w := 0) rfl rfl rfl ?_
        refine z_ne (i := 48) (v := 50) rfl ⟨by omega, by omega⟩ (fun h25 => absurd h25 (by omega)) (fun h26 => ?_)
        have h27 := hI21.f tf43_0
        have h28 : S20.f 43 0 = 1 := by rw [← hS22]; exact ysf_eq
        exact r_ret0 (i := 49) rfl ⟨rfl, (by first | (exfalso; omega) | exact fun hf9 => Or.inl ⟨by omega, by omega, fun q9 => ⟨by omega, by omega⟩, fun q9 => absurd q9 (by omega)⟩ | exact fun hf9 => Or.inr ⟨by omega, fun hc => by obtain ⟨c1, c2, -⟩ := hc; omega⟩), hI21, hF23, hR24⟩
      · refine r_load (i := 15) (u := 4) (w := 0) rfl rfl rfl ?_
        refine z_eq (i := 16) (v := 36) rfl ⟨by omega, by omega⟩ (fun h29 => absurd h29 (by omega)) (fun h30 => ?_)
        refine r_load (i := 17) (u := 2) (w := 1) rfl rfl rfl ?_
        refine r_lconst (i := 18) (u := 0) (z := 0) rfl rfl ?_
        refine r_lcmp (i := 19) rfl ⟨by omega, by omega⟩ ⟨by omega, by omega⟩ (fun h31 => ?_) (fun h32 => ?_) (fun h33 => ?_)
        · refine z_lt (i := 20) (v := 38) rfl ⟨by omega, by omega⟩ (fun h34 => ?_) (fun h35 => absurd h35 (by omega))
          refine r_const (i := 38) (u := 0) (z := 0) rfl rfl ?_
          refine r_store (i := 39) (u := 5) (w := 0) (L1 := [some ((2, 43)), some (vi w0), some (vl v), none, some (vi 1), some (vi 0)]) rfl rfl rfl rfl ?_
          refine r_load (i := 40) (u := 0) (w := 2) rfl rfl rfl ?_
          refine r_load (i := 41) (u := 5) (w := 0) rfl rfl rfl ?_
          refine z_eq (i := 42) (v := 45) rfl ⟨by omega, by omega⟩ (fun h36 => ?_) (fun h37 => absurd h37 (by omega))
          refine r_const (i := 45) (u := 1) (z := 1) rfl rfl ?_
          refine r_putI (i := 46) (v := 0) (w := 11) rfl ly43 rfl ⟨by omega, by omega⟩ ?_
          have hI39 := hI.setf (b := 43) (w := 0) (z := 1) tf43_0 rfl (by omega) (by omega)
          have hF41 := hF.setf (b := 43) (w := 0) (z := 1) rfl
          have hR42 := hR.setf (b := 43) (w := 0) (z := 1)
          refine yT_gen (fun S38 hS40 => ?_)
          rw [hS40] at hI39 hF41 hR42 
          refine r_load (i := 47) (u := 5) (w := 0) rfl rfl rfl ?_
          refine z_ne (i := 48) (v := 50) rfl ⟨by omega, by omega⟩ (fun h43 => absurd h43 (by omega)) (fun h44 => ?_)
          have h45 := hI39.f tf43_0
          have h46 : S38.f 43 0 = 1 := by rw [← hS40]; exact ysf_eq
          exact r_ret0 (i := 49) rfl ⟨rfl, (by first | (exfalso; omega) | exact fun hf9 => Or.inl ⟨by omega, by omega, fun q9 => ⟨by omega, by omega⟩, fun q9 => absurd q9 (by omega)⟩ | exact fun hf9 => Or.inr ⟨by omega, fun hc => by obtain ⟨c1, c2, -⟩ := hc; omega⟩), hI39, hF41, hR42⟩
        · refine z_lt (i := 20) (v := 38) rfl ⟨by omega, by omega⟩ (fun h47 => absurd h47 (by omega)) (fun h48 => ?_)
          refine r_load (i := 21) (u := 2) (w := 1) rfl rfl rfl ?_
          refine r_load (i := 22) (u := 0) (w := 2) rfl rfl rfl ?_
          have h49 := hI.f tf43_1
          refine r_getf (i := 23) (v := 1) (w := 11) (x := vi (S.f 43 1)) rfl ly43 rfl rfl fun h50 => ?_
          have h50 : Rg (S.f 43 1) := h50
          refine r_i2l (i := 24) rfl ⟨by omega, by omega⟩ ?_
          refine r_lcmp (i := 25) rfl ⟨by omega, by omega⟩ ⟨by omega, by omega⟩ (fun h51 => ?_) (fun h52 => ?_) (fun h53 => ?_)
          · refine z_ge (i := 26) (v := 38) rfl ⟨by omega, by omega⟩ (fun h54 => absurd h54 (by omega)) (fun h55 => ?_)
            refine r_load (i := 27) (u := 1) (w := 0) rfl rfl rfl ?_
            refine r_const (i := 28) (u := 4) (z := 4) rfl rfl ?_
            refine c_eq (i := 29) (v := 36) rfl ⟨by omega, by omega⟩ ⟨by omega, by omega⟩ (fun h56 => ?_) (fun h57 => ?_)
            · refine r_const (i := 36) (u := 1) (z := 1) rfl rfl ?_
              refine r_goto (i := 37) (v := 39) rfl ?_
              refine r_store (i := 39) (u := 5) (w := 0) (L1 := [some ((2, 43)), some (vi w0), some (vl v), none, some (vi 1), some (vi 1)]) rfl rfl rfl rfl ?_
              refine r_load (i := 40) (u := 0) (w := 2) rfl rfl rfl ?_
              refine r_load (i := 41) (u := 5) (w := 0) rfl rfl rfl ?_
              refine z_eq (i := 42) (v := 45) rfl ⟨by omega, by omega⟩ (fun h58 => absurd h58 (by omega)) (fun h59 => ?_)
              refine r_const (i := 43) (u := 0) (z := 0) rfl rfl ?_
              refine r_goto (i := 44) (v := 46) rfl ?_
              refine r_putI (i := 46) (v := 0) (w := 11) rfl ly43 rfl ⟨by omega, by omega⟩ ?_
              have hI61 := hI.setf (b := 43) (w := 0) (z := 0) tf43_0 rfl (by omega) (by omega)
              have hF63 := hF.setf (b := 43) (w := 0) (z := 0) rfl
              have hR64 := hR.setf (b := 43) (w := 0) (z := 0)
              refine yT_gen (fun S60 hS62 => ?_)
              rw [hS62] at hI61 hF63 hR64 
              refine r_load (i := 47) (u := 5) (w := 0) rfl rfl rfl ?_
              refine z_ne (i := 48) (v := 50) rfl ⟨by omega, by omega⟩ (fun h65 => ?_) (fun h66 => absurd h66 (by omega))
              refine r_load (i := 50) (u := 0) (w := 2) rfl rfl rfl ?_
              refine r_load (i := 51) (u := 1) (w := 0) rfl rfl rfl ?_
              refine r_putI (i := 52) (v := 33) (w := 11) rfl ly43 rfl ⟨by omega, by omega⟩ ?_
              have hF70 := hF63.setf (b := 43) (w := 33) (z := w0) rfl
              have hR71 := hR64.setf (b := 43) (w := 33) (z := w0)
              refine yT_gen (fun S67 hS69 => ?_)
              rw [hS69] at hF70 hR71 
              refine r_load (i := 53) (u := 0) (w := 2) rfl rfl rfl ?_
              refine r_load (i := 54) (u := 1) (w := 0) rfl rfl rfl ?_
              refine r_const (i := 55) (u := 1) (z := 1) rfl rfl ?_
              refine c_ne (i := 56) (v := 61) rfl ⟨by omega, by omega⟩ ⟨by omega, by omega⟩ (fun h72 => ?_) (fun h73 => ?_)
              · refine r_load (i := 61) (u := 1) (w := 0) rfl rfl rfl ?_
                refine r_const (i := 62) (u := 3) (z := 3) rfl rfl ?_
                refine c_ne (i := 63) (v := 68) rfl ⟨by omega, by omega⟩ ⟨by omega, by omega⟩ (fun h74 => ?_) (fun h75 => ?_)
                · refine r_load (i := 68) (u := 2) (w := 1) rfl rfl rfl ?_
                  refine r_putL (i := 69) (v := 36) (w := 11) rfl ly43 rfl ⟨by omega, by omega⟩ ?_
                  have hI77 := hI61.set43 (z := w0) (y := v) (by omega) (by omega) (by omega)
                  rw [hS69] at hI77
                  have hF79 := hF70.setf (b := 43) (w := 36) (z := v) rfl
                  have hR80 := hR71.setf (b := 43) (w := 36) (z := v)
                  refine yT_gen (fun S76 hS78 => ?_)
                  rw [hS78] at hI77 hF79 hR80 
                  have h81 := hI77.f tf43_0
                  have h82 : S76.f 43 0 = S67.f 43 0 := by rw [← hS78]; exact ysf_ne (by decide)
                  have h83 : S67.f 43 0 = S60.f 43 0 := by rw [← hS69]; exact ysf_ne (by decide)
                  have h84 : S60.f 43 0 = 0 := by rw [← hS62]; exact ysf_eq
                  exact r_ret0 (i := 70) rfl ⟨rfl, (by first | (exfalso; omega) | exact fun hf9 => Or.inl ⟨by omega, by omega, fun q9 => ⟨by omega, by omega⟩, fun q9 => absurd q9 (by omega)⟩ | exact fun hf9 => Or.inr ⟨by omega, fun hc => by obtain ⟨c1, c2, -⟩ := hc; omega⟩), hI77, hF79, hR80⟩
                · refine r_load (i := 64) (u := 2) (w := 1) rfl rfl rfl ?_
                  refine r_lconst (i := 65) (u := 1) (z := 1) rfl rfl ?_
                  refine r_land (i := 66) rfl ?_
                  have h85 := @yland_c v 1 (by decide) (by decide)
                  refine r_goto (i := 67) (v := 69) rfl ?_
                  refine r_putL (i := 69) (v := 36) (w := 11) rfl ly43 rfl ⟨by omega, by omega⟩ ?_
                  have hI87 := hI61.set43 (z := w0) (y := yland v 1) (by omega) (by omega) (by omega)
                  rw [hS69] at hI87
                  have hF89 := hF70.setf (b := 43) (w := 36) (z := yland v 1) rfl
                  have hR90 := hR71.setf (b := 43) (w := 36) (z := yland v 1)
                  refine yT_gen (fun S86 hS88 => ?_)
                  rw [hS88] at hI87 hF89 hR90 
                  have h91 := hI87.f tf43_0
                  have h92 : S86.f 43 0 = S67.f 43 0 := by rw [← hS88]; exact ysf_ne (by decide)
                  have h93 : S67.f 43 0 = S60.f 43 0 := by rw [← hS69]; exact ysf_ne (by decide)
                  have h94 : S60.f 43 0 = 0 := by rw [← hS62]; exact ysf_eq
                  exact r_ret0 (i := 70) rfl ⟨rfl, (by first | (exfalso; omega) | exact fun hf9 => Or.inl ⟨by omega, by omega, fun q9 => ⟨by omega, by omega⟩, fun q9 => absurd q9 (by omega)⟩ | exact fun hf9 => Or.inr ⟨by omega, fun hc => by obtain ⟨c1, c2, -⟩ := hc; omega⟩), hI87, hF89, hR90⟩
              · refine r_load (i := 57) (u := 2) (w := 1) rfl rfl rfl ?_
                refine r_l2i (i := 58) rfl ?_
                rw [vi_sg v]
                have h95 := ysg_fact v
                refine r_i2l (i := 59) rfl ⟨by omega, by omega⟩ ?_
                refine r_goto (i := 60) (v := 69) rfl ?_
                refine r_putL (i := 69) (v := 36) (w := 11) rfl ly43 rfl ⟨by omega, by omega⟩ ?_
                have hI97 := hI61.set43 (z := w0) (y := ysg v) (by omega) (by omega) (by omega)
                rw [hS69] at hI97
                have hF99 := hF70.setf (b := 43) (w := 36) (z := ysg v) rfl
                have hR100 := hR71.setf (b := 43) (w := 36) (z := ysg v)
                refine yT_gen (fun S96 hS98 => ?_)
                rw [hS98] at hI97 hF99 hR100 
                have h101 := hI97.f tf43_0
                have h102 : S96.f 43 0 = S67.f 43 0 := by rw [← hS98]; exact ysf_ne (by decide)
                have h103 : S67.f 43 0 = S60.f 43 0 := by rw [← hS69]; exact ysf_ne (by decide)
                have h104 : S60.f 43 0 = 0 := by rw [← hS62]; exact ysf_eq
                exact r_ret0 (i := 70) rfl ⟨rfl, (by first | (exfalso; omega) | exact fun hf9 => Or.inl ⟨by omega, by omega, fun q9 => ⟨by omega, by omega⟩, fun q9 => absurd q9 (by omega)⟩ | exact fun hf9 => Or.inr ⟨by omega, fun hc => by obtain ⟨c1, c2, -⟩ := hc; omega⟩), hI97, hF99, hR100⟩
            · refine r_load (i := 30) (u := 0) (w := 2) rfl rfl rfl ?_
              refine r_load (i := 31) (u := 2) (w := 1) rfl rfl rfl ?_
              refine r_l2i (i := 32) rfl ?_
              rw [vi_sg v]
              have h105 := ysg_fact v
              refine r_const (i := 33) (u := 1) (z := 1) rfl rfl ?_
              refine r_call (i := 34) (u := 11) (v := 262) (w := 0) (b := 0) (na := 1795) (C2 := xC262) (as := [(2, 43), vi (ysg v), vi 1]) (s := []) rfl rfl rfl rfl rfl rfl rfl (sp262 (t := ysg v) (o := 1) hI ⟨by omega, by omega⟩ ⟨by omega, by omega⟩   (by omega)) (fun r106 S107 hq108 => ?_)
              obtain ⟨z109, rfl, h110, h111, um112, hI113, hF114, hR115⟩ := hq108
              have hF116 := hF.trans hF114 rfl rfl
              have hR117 := hR.trans hR115 rfl
              refine Or.inr (Or.inl ⟨rfl, ?_⟩)
              refine z_eq (i := 35) (v := 38) rfl ⟨by omega, by omega⟩ (fun h118 => ?_) (fun h119 => ?_)
              · refine r_const (i := 38) (u := 0) (z := 0) rfl rfl ?_
                refine r_store (i := 39) (u := 5) (w := 0) (L1 := [some ((2, 43)), some (vi w0), some (vl v), none, some (vi 1), some (vi 0)]) rfl rfl rfl rfl ?_
                refine r_load (i := 40) (u := 0) (w := 2) rfl rfl rfl ?_
                refine r_load (i := 41) (u := 5) (w := 0) rfl rfl rfl ?_
                refine z_eq (i := 42) (v := 45) rfl ⟨by omega, by omega⟩ (fun h120 => ?_) (fun h121 => absurd h121 (by omega))
                refine r_const (i := 45) (u := 1) (z := 1) rfl rfl ?_
                refine r_putI (i := 46) (v := 0) (w := 11) rfl ly43 rfl ⟨by omega, by omega⟩ ?_
                have hI123 := hI113.setf (b := 43) (w := 0) (z := 1) tf43_0 rfl (by omega) (by omega)
                have hF125 := hF116.setf (b := 43) (w := 0) (z := 1) rfl
                have hR126 := hR117.setf (b := 43) (w := 0) (z := 1)
                refine yT_gen (fun S122 hS124 => ?_)
                rw [hS124] at hI123 hF125 hR126 
                refine r_load (i := 47) (u := 5) (w := 0) rfl rfl rfl ?_
                refine z_ne (i := 48) (v := 50) rfl ⟨by omega, by omega⟩ (fun h127 => absurd h127 (by omega)) (fun h128 => ?_)
                have h129 := hI123.f tf43_0
                have h130 : S122.f 43 0 = 1 := by rw [← hS124]; exact ysf_eq
                exact r_ret0 (i := 49) rfl ⟨rfl, (by first | (exfalso; omega) | (intro hf9; have sg9 : ysg v = v := (by omega); have w9 := um112 hf9 (by omega) (by omega) (by omega); rw [sg9] at w9; first | exact Or.inl ⟨by omega, by omega, fun _ => ⟨by omega, by omega⟩, fun _ => w9.mp (by omega)⟩ | exact Or.inr ⟨by omega, fun hc => absurd (w9.mpr (hc.2.2 (by omega))) (by omega)⟩)), hI123, hF125, hR126⟩
              · refine r_const (i := 36) (u := 1) (z := 1) rfl rfl ?_
                refine r_goto (i := 37) (v := 39) rfl ?_
                refine r_store (i := 39) (u := 5) (w := 0) (L1 := [some ((2, 43)), some (vi w0), some (vl v), none, some (vi 1), some (vi 1)]) rfl rfl rfl rfl ?_
                refine r_load (i := 40) (u := 0) (w := 2) rfl rfl rfl ?_
                refine r_load (i := 41) (u := 5) (w := 0) rfl rfl rfl ?_
                refine z_eq (i := 42) (v := 45) rfl ⟨by omega, by omega⟩ (fun h131 => absurd h131 (by omega)) (fun h132 => ?_)
                refine r_const (i := 43) (u := 0) (z := 0) rfl rfl ?_
                refine r_goto (i := 44) (v := 46) rfl ?_
                refine r_putI (i := 46) (v := 0) (w := 11) rfl ly43 rfl ⟨by omega, by omega⟩ ?_
                have hI134 := hI113.setf (b := 43) (w := 0) (z := 0) tf43_0 rfl (by omega) (by omega)
                have hF136 := hF116.setf (b := 43) (w := 0) (z := 0) rfl
                have hR137 := hR117.setf (b := 43) (w := 0) (z := 0)
                refine yT_gen (fun S133 hS135 => ?_)
                rw [hS135] at hI134 hF136 hR137 
                refine r_load (i := 47) (u := 5) (w := 0) rfl rfl rfl ?_
                refine z_ne (i := 48) (v := 50) rfl ⟨by omega, by omega⟩ (fun h138 => ?_) (fun h139 => absurd h139 (by omega))
                refine r_load (i := 50) (u := 0) (w := 2) rfl rfl rfl ?_
                refine r_load (i := 51) (u := 1) (w := 0) rfl rfl rfl ?_
                refine r_putI (i := 52) (v := 33) (w := 11) rfl ly43 rfl ⟨by omega, by omega⟩ ?_
                have hF143 := hF136.setf (b := 43) (w := 33) (z := w0) rfl
                have hR144 := hR137.setf (b := 43) (w := 33) (z := w0)
                refine yT_gen (fun S140 hS142 => ?_)
                rw [hS142] at hF143 hR144 
                refine r_load (i := 53) (u := 0) (w := 2) rfl rfl rfl ?_
                refine r_load (i := 54) (u := 1) (w := 0) rfl rfl rfl ?_
                refine r_const (i := 55) (u := 1) (z := 1) rfl rfl ?_
                refine c_ne (i := 56) (v := 61) rfl ⟨by omega, by omega⟩ ⟨by omega, by omega⟩ (fun h145 => ?_) (fun h146 => ?_)
                · refine r_load (i := 61) (u := 1) (w := 0) rfl rfl rfl ?_
                  refine r_const (i := 62) (u := 3) (z := 3) rfl rfl ?_
                  refine c_ne (i := 63) (v := 68) rfl ⟨by omega, by omega⟩ ⟨by omega, by omega⟩ (fun h147 => ?_) (fun h148 => ?_)
                  · refine r_load (i := 68) (u := 2) (w := 1) rfl rfl rfl ?_
                    refine r_putL (i := 69) (v := 36) (w := 11) rfl ly43 rfl ⟨by omega, by omega⟩ ?_
                    have hI150 := hI134.set43 (z := w0) (y := v) (by omega) (by omega) (by omega)
                    rw [hS142] at hI150
                    have hF152 := hF143.setf (b := 43) (w := 36) (z := v) rfl
                    have hR153 := hR144.setf (b := 43) (w := 36) (z := v)
                    refine yT_gen (fun S149 hS151 => ?_)
                    rw [hS151] at hI150 hF152 hR153 
                    have h154 := hI150.f tf43_0
                    have h155 : S149.f 43 0 = S140.f 43 0 := by rw [← hS151]; exact ysf_ne (by decide)
                    have h156 : S140.f 43 0 = S133.f 43 0 := by rw [← hS142]; exact ysf_ne (by decide)
                    have h157 : S133.f 43 0 = 0 := by rw [← hS135]; exact ysf_eq
                    exact r_ret0 (i := 70) rfl ⟨rfl, (by first | (exfalso; omega) | (intro hf9; have sg9 : ysg v = v := (by omega); have w9 := um112 hf9 (by omega) (by omega) (by omega); rw [sg9] at w9; first | exact Or.inl ⟨by omega, by omega, fun _ => ⟨by omega, by omega⟩, fun _ => w9.mp (by omega)⟩ | exact Or.inr ⟨by omega, fun hc => absurd (w9.mpr (hc.2.2 (by omega))) (by omega)⟩)), hI150, hF152, hR153⟩
                  · refine r_load (i := 64) (u := 2) (w := 1) rfl rfl rfl ?_
                    refine r_lconst (i := 65) (u := 1) (z := 1) rfl rfl ?_
                    refine r_land (i := 66) rfl ?_
                    have h158 := @yland_c v 1 (by decide) (by decide)
                    refine r_goto (i := 67) (v := 69) rfl ?_
                    refine r_putL (i := 69) (v := 36) (w := 11) rfl ly43 rfl ⟨by omega, by omega⟩ ?_
                    have hI160 := hI134.set43 (z := w0) (y := yland v 1) (by omega) (by omega) (by omega)
                    rw [hS142] at hI160
                    have hF162 := hF143.setf (b := 43) (w := 36) (z := yland v 1) rfl
                    have hR163 := hR144.setf (b := 43) (w := 36) (z := yland v 1)
                    refine yT_gen (fun S159 hS161 => ?_)
                    rw [hS161] at hI160 hF162 hR163 
                    have h164 := hI160.f tf43_0
                    have h165 : S159.f 43 0 = S140.f 43 0 := by rw [← hS161]; exact ysf_ne (by decide)
                    have h166 : S140.f 43 0 = S133.f 43 0 := by rw [← hS142]; exact ysf_ne (by decide)
                    have h167 : S133.f 43 0 = 0 := by rw [← hS135]; exact ysf_eq
                    exact r_ret0 (i := 70) rfl ⟨rfl, (by first | (exfalso; omega) | (intro hf9; have sg9 : ysg v = v := (by omega); have w9 := um112 hf9 (by omega) (by omega) (by omega); rw [sg9] at w9; first | exact Or.inl ⟨by omega, by omega, fun _ => ⟨by omega, by omega⟩, fun _ => w9.mp (by omega)⟩ | exact Or.inr ⟨by omega, fun hc => absurd (w9.mpr (hc.2.2 (by omega))) (by omega)⟩)), hI160, hF162, hR163⟩
                · refine r_load (i := 57) (u := 2) (w := 1) rfl rfl rfl ?_
                  refine r_l2i (i := 58) rfl ?_
                  rw [vi_sg v]
                  have h168 := ysg_fact v
                  refine r_i2l (i := 59) rfl ⟨by omega, by omega⟩ ?_
                  refine r_goto (i := 60) (v := 69) rfl ?_
                  refine r_putL (i := 69) (v := 36) (w := 11) rfl ly43 rfl ⟨by omega, by omega⟩ ?_
                  have hI170 := hI134.set43 (z := w0) (y := ysg v) (by omega) (by omega) (by omega)
                  rw [hS142] at hI170
                  have hF172 := hF143.setf (b := 43) (w := 36) (z := ysg v) rfl
                  have hR173 := hR144.setf (b := 43) (w := 36) (z := ysg v)
                  refine yT_gen (fun S169 hS171 => ?_)
                  rw [hS171] at hI170 hF172 hR173 
                  have h174 := hI170.f tf43_0
                  have h175 : S169.f 43 0 = S140.f 43 0 := by rw [← hS171]; exact ysf_ne (by decide)
                  have h176 : S140.f 43 0 = S133.f 43 0 := by rw [← hS142]; exact ysf_ne (by decide)
                  have h177 : S133.f 43 0 = 0 := by rw [← hS135]; exact ysf_eq
                  exact r_ret0 (i := 70) rfl ⟨rfl, (by first | (exfalso; omega) | (intro hf9; have sg9 : ysg v = v := (by omega); have w9 := um112 hf9 (by omega) (by omega) (by omega); rw [sg9] at w9; first | exact Or.inl ⟨by omega, by omega, fun _ => ⟨by omega, by omega⟩, fun _ => w9.mp (by omega)⟩ | exact Or.inr ⟨by omega, fun hc => absurd (w9.mpr (hc.2.2 (by omega))) (by omega)⟩)), hI170, hF172, hR173⟩
          · refine z_ge (i := 26) (v := 38) rfl ⟨by omega, by omega⟩ (fun h178 => ?_) (fun h179 => absurd h179 (by omega))
            refine r_const (i := 38) (u := 0) (z := 0) rfl rfl ?_
            refine r_store (i := 39) (u := 5) (w := 0) (L1 := [some ((2, 43)), some (vi w0), some (vl v), none, some (vi 1), some (vi 0)]) rfl rfl rfl rfl ?_
            refine r_load (i := 40) (u := 0) (w := 2) rfl rfl rfl ?_
            refine r_load (i := 41) (u := 5) (w := 0) rfl rfl rfl ?_
            refine z_eq (i := 42) (v := 45) rfl ⟨by omega, by omega⟩ (fun h180 => ?_) (fun h181 => absurd h181 (by omega))
            refine r_const (i := 45) (u := 1) (z := 1) rfl rfl ?_
            refine r_putI (i := 46) (v := 0) (w := 11) rfl ly43 rfl ⟨by omega, by omega⟩ ?_
            have hI183 := hI.setf (b := 43) (w := 0) (z := 1) tf43_0 rfl (by omega) (by omega)
            have hF185 := hF.setf (b := 43) (w := 0) (z := 1) rfl
            have hR186 := hR.setf (b := 43) (w := 0) (z := 1)
            refine yT_gen (fun S182 hS184 => ?_)
            rw [hS184] at hI183 hF185 hR186 
            refine r_load (i := 47) (u := 5) (w := 0) rfl rfl rfl ?_
            refine z_ne (i := 48) (v := 50) rfl ⟨by omega, by omega⟩ (fun h187 => absurd h187 (by omega)) (fun h188 => ?_)
            have h189 := hI183.f tf43_0
            have h190 : S182.f 43 0 = 1 := by rw [← hS184]; exact ysf_eq
            exact r_ret0 (i := 49) rfl ⟨rfl, (by first | (exfalso; omega) | exact fun hf9 => Or.inl ⟨by omega, by omega, fun q9 => ⟨by omega, by omega⟩, fun q9 => absurd q9 (by omega)⟩ | exact fun hf9 => Or.inr ⟨by omega, fun hc => by obtain ⟨c1, c2, -⟩ := hc; omega⟩), hI183, hF185, hR186⟩
          · refine z_ge (i := 26) (v := 38) rfl ⟨by omega, by omega⟩ (fun h191 => ?_) (fun h192 => absurd h192 (by omega))
            refine r_const (i := 38) (u := 0) (z := 0) rfl rfl ?_
            refine r_store (i := 39) (u := 5) (w := 0) (L1 := [some ((2, 43)), some (vi w0), some (vl v), none, some (vi 1), some (vi 0)]) rfl rfl rfl rfl ?_
            refine r_load (i := 40) (u := 0) (w := 2) rfl rfl rfl ?_
            refine r_load (i := 41) (u := 5) (w := 0) rfl rfl rfl ?_
            refine z_eq (i := 42) (v := 45) rfl ⟨by omega, by omega⟩ (fun h193 => ?_) (fun h194 => absurd h194 (by omega))
            refine r_const (i := 45) (u := 1) (z := 1) rfl rfl ?_
            refine r_putI (i := 46) (v := 0) (w := 11) rfl ly43 rfl ⟨by omega, by omega⟩ ?_
            have hI196 := hI.setf (b := 43) (w := 0) (z := 1) tf43_0 rfl (by omega) (by omega)
            have hF198 := hF.setf (b := 43) (w := 0) (z := 1) rfl
            have hR199 := hR.setf (b := 43) (w := 0) (z := 1)
            refine yT_gen (fun S195 hS197 => ?_)
            rw [hS197] at hI196 hF198 hR199 
            refine r_load (i := 47) (u := 5) (w := 0) rfl rfl rfl ?_
            refine z_ne (i := 48) (v := 50) rfl ⟨by omega, by omega⟩ (fun h200 => absurd h200 (by omega)) (fun h201 => ?_)
            have h202 := hI196.f tf43_0
            have h203 : S195.f 43 0 = 1 := by rw [← hS197]; exact ysf_eq
            exact r_ret0 (i := 49) rfl ⟨rfl, (by first | (exfalso; omega) | exact fun hf9 => Or.inl ⟨by omega, by omega, fun q9 => ⟨by omega, by omega⟩, fun q9 => absurd q9 (by omega)⟩ | exact fun hf9 => Or.inr ⟨by omega, fun hc => by obtain ⟨c1, c2, -⟩ := hc; omega⟩), hI196, hF198, hR199⟩
        · refine z_lt (i := 20) (v := 38) rfl ⟨by omega, by omega⟩ (fun h204 => absurd h204 (by omega)) (fun h205 => ?_)
          refine r_load (i := 21) (u := 2) (w := 1) rfl rfl rfl ?_
          refine r_load (i := 22) (u := 0) (w := 2) rfl rfl rfl ?_
          have h206 := hI.f tf43_1
          refine r_getf (i := 23) (v := 1) (w := 11) (x := vi (S.f 43 1)) rfl ly43 rfl rfl fun h207 => ?_
          have h207 : Rg (S.f 43 1) := h207
          refine r_i2l (i := 24) rfl ⟨by omega, by omega⟩ ?_
          refine r_lcmp (i := 25) rfl ⟨by omega, by omega⟩ ⟨by omega, by omega⟩ (fun h208 => ?_) (fun h209 => ?_) (fun h210 => ?_)
          · refine z_ge (i := 26) (v := 38) rfl ⟨by omega, by omega⟩ (fun h211 => absurd h211 (by omega)) (fun h212 => ?_)
            refine r_load (i := 27) (u := 1) (w := 0) rfl rfl rfl ?_
            refine r_const (i := 28) (u := 4) (z := 4) rfl rfl ?_
            refine c_eq (i := 29) (v := 36) rfl ⟨by omega, by omega⟩ ⟨by omega, by omega⟩ (fun h213 => ?_) (fun h214 => ?_)
            · refine r_const (i := 36) (u := 1) (z := 1) rfl rfl ?_
              refine r_goto (i := 37) (v := 39) rfl ?_
              refine r_store (i := 39) (u := 5) (w := 0) (L1 := [some ((2, 43)), some (vi w0), some (vl v), none, some (vi 1), some (vi 1)]) rfl rfl rfl rfl ?_
              refine r_load (i := 40) (u := 0) (w := 2) rfl rfl rfl ?_
              refine r_load (i := 41) (u := 5) (w := 0) rfl rfl rfl ?_
              refine z_eq (i := 42) (v := 45) rfl ⟨by omega, by omega⟩ (fun h215 => absurd h215 (by omega)) (fun h216 => ?_)
              refine r_const (i := 43) (u := 0) (z := 0) rfl rfl ?_
              refine r_goto (i := 44) (v := 46) rfl ?_
              refine r_putI (i := 46) (v := 0) (w := 11) rfl ly43 rfl ⟨by omega, by omega⟩ ?_
              have hI218 := hI.setf (b := 43) (w := 0) (z := 0) tf43_0 rfl (by omega) (by omega)
              have hF220 := hF.setf (b := 43) (w := 0) (z := 0) rfl
              have hR221 := hR.setf (b := 43) (w := 0) (z := 0)
              refine yT_gen (fun S217 hS219 => ?_)
              rw [hS219] at hI218 hF220 hR221 
              refine r_load (i := 47) (u := 5) (w := 0) rfl rfl rfl ?_
              refine z_ne (i := 48) (v := 50) rfl ⟨by omega, by omega⟩ (fun h222 => ?_) (fun h223 => absurd h223 (by omega))
              refine r_load (i := 50) (u := 0) (w := 2) rfl rfl rfl ?_
              refine r_load (i := 51) (u := 1) (w := 0) rfl rfl rfl ?_
              refine r_putI (i := 52) (v := 33) (w := 11) rfl ly43 rfl ⟨by omega, by omega⟩ ?_
              have hF227 := hF220.setf (b := 43) (w := 33) (z := w0) rfl
              have hR228 := hR221.setf (b := 43) (w := 33) (z := w0)
              refine yT_gen (fun S224 hS226 => ?_)
              rw [hS226] at hF227 hR228 
              refine r_load (i := 53) (u := 0) (w := 2) rfl rfl rfl ?_
              refine r_load (i := 54) (u := 1) (w := 0) rfl rfl rfl ?_
              refine r_const (i := 55) (u := 1) (z := 1) rfl rfl ?_
              refine c_ne (i := 56) (v := 61) rfl ⟨by omega, by omega⟩ ⟨by omega, by omega⟩ (fun h229 => ?_) (fun h230 => ?_)
              · refine r_load (i := 61) (u := 1) (w := 0) rfl rfl rfl ?_
                refine r_const (i := 62) (u := 3) (z := 3) rfl rfl ?_
                refine c_ne (i := 63) (v := 68) rfl ⟨by omega, by omega⟩ ⟨by omega, by omega⟩ (fun h231 => ?_) (fun h232 => ?_)
                · refine r_load (i := 68) (u := 2) (w := 1) rfl rfl rfl ?_
                  refine r_putL (i := 69) (v := 36) (w := 11) rfl ly43 rfl ⟨by omega, by omega⟩ ?_
                  have hI234 := hI218.set43 (z := w0) (y := v) (by omega) (by omega) (by omega)
                  rw [hS226] at hI234
                  have hF236 := hF227.setf (b := 43) (w := 36) (z := v) rfl
                  have hR237 := hR228.setf (b := 43) (w := 36) (z := v)
                  refine yT_gen (fun S233 hS235 => ?_)
                  rw [hS235] at hI234 hF236 hR237 
                  have h238 := hI234.f tf43_0
                  have h239 : S233.f 43 0 = S224.f 43 0 := by rw [← hS235]; exact ysf_ne (by decide)
                  have h240 : S224.f 43 0 = S217.f 43 0 := by rw [← hS226]; exact ysf_ne (by decide)
                  have h241 : S217.f 43 0 = 0 := by rw [← hS219]; exact ysf_eq
                  exact r_ret0 (i := 70) rfl ⟨rfl, (by first | (exfalso; omega) | exact fun hf9 => Or.inl ⟨by omega, by omega, fun q9 => ⟨by omega, by omega⟩, fun q9 => absurd q9 (by omega)⟩ | exact fun hf9 => Or.inr ⟨by omega, fun hc => by obtain ⟨c1, c2, -⟩ := hc; omega⟩), hI234, hF236, hR237⟩
                · refine r_load (i := 64) (u := 2) (w := 1) rfl rfl rfl ?_
                  refine r_lconst (i := 65) (u := 1) (z := 1) rfl rfl ?_
                  refine r_land (i := 66) rfl ?_
                  have h242 := @yland_c v 1 (by decide) (by decide)
                  refine r_goto (i := 67) (v := 69) rfl ?_
                  refine r_putL (i := 69) (v := 36) (w := 11) rfl ly43 rfl ⟨by omega, by omega⟩ ?_
                  have hI244 := hI218.set43 (z := w0) (y := yland v 1) (by omega) (by omega) (by omega)
                  rw [hS226] at hI244
                  have hF246 := hF227.setf (b := 43) (w := 36) (z := yland v 1) rfl
                  have hR247 := hR228.setf (b := 43) (w := 36) (z := yland v 1)
                  refine yT_gen (fun S243 hS245 => ?_)
                  rw [hS245] at hI244 hF246 hR247 
                  have h248 := hI244.f tf43_0
                  have h249 : S243.f 43 0 = S224.f 43 0 := by rw [← hS245]; exact ysf_ne (by decide)
                  have h250 : S224.f 43 0 = S217.f 43 0 := by rw [← hS226]; exact ysf_ne (by decide)
                  have h251 : S217.f 43 0 = 0 := by rw [← hS219]; exact ysf_eq
                  exact r_ret0 (i := 70) rfl ⟨rfl, (by first | (exfalso; omega) | exact fun hf9 => Or.inl ⟨by omega, by omega, fun q9 => ⟨by omega, by omega⟩, fun q9 => absurd q9 (by omega)⟩ | exact fun hf9 => Or.inr ⟨by omega, fun hc => by obtain ⟨c1, c2, -⟩ := hc; omega⟩), hI244, hF246, hR247⟩
              · refine r_load (i := 57) (u := 2) (w := 1) rfl rfl rfl ?_
                refine r_l2i (i := 58) rfl ?_
                rw [vi_sg v]
                have h252 := ysg_fact v
                refine r_i2l (i := 59) rfl ⟨by omega, by omega⟩ ?_
                refine r_goto (i := 60) (v := 69) rfl ?_
                refine r_putL (i := 69) (v := 36) (w := 11) rfl ly43 rfl ⟨by omega, by omega⟩ ?_
                have hI254 := hI218.set43 (z := w0) (y := ysg v) (by omega) (by omega) (by omega)
                rw [hS226] at hI254
                have hF256 := hF227.setf (b := 43) (w := 36) (z := ysg v) rfl
                have hR257 := hR228.setf (b := 43) (w := 36) (z := ysg v)
                refine yT_gen (fun S253 hS255 => ?_)
                rw [hS255] at hI254 hF256 hR257 
                have h258 := hI254.f tf43_0
                have h259 : S253.f 43 0 = S224.f 43 0 := by rw [← hS255]; exact ysf_ne (by decide)
                have h260 : S224.f 43 0 = S217.f 43 0 := by rw [← hS226]; exact ysf_ne (by decide)
                have h261 : S217.f 43 0 = 0 := by rw [← hS219]; exact ysf_eq
                exact r_ret0 (i := 70) rfl ⟨rfl, (by first | (exfalso; omega) | exact fun hf9 => Or.inl ⟨by omega, by omega, fun q9 => ⟨by omega, by omega⟩, fun q9 => absurd q9 (by omega)⟩ | exact fun hf9 => Or.inr ⟨by omega, fun hc => by obtain ⟨c1, c2, -⟩ := hc; omega⟩), hI254, hF256, hR257⟩
            · refine r_load (i := 30) (u := 0) (w := 2) rfl rfl rfl ?_
              refine r_load (i := 31) (u := 2) (w := 1) rfl rfl rfl ?_
              refine r_l2i (i := 32) rfl ?_
              rw [vi_sg v]
              have h262 := ysg_fact v
              refine r_const (i := 33) (u := 1) (z := 1) rfl rfl ?_
              refine r_call (i := 34) (u := 11) (v := 262) (w := 0) (b := 0) (na := 1795) (C2 := xC262) (as := [(2, 43), vi (ysg v), vi 1]) (s := []) rfl rfl rfl rfl rfl rfl rfl (sp262 (t := ysg v) (o := 1) hI ⟨by omega, by omega⟩ ⟨by omega, by omega⟩   (by omega)) (fun r263 S264 hq265 => ?_)
              obtain ⟨z266, rfl, h267, h268, um269, hI270, hF271, hR272⟩ := hq265
              have hF273 := hF.trans hF271 rfl rfl
              have hR274 := hR.trans hR272 rfl
              refine Or.inr (Or.inl ⟨rfl, ?_⟩)
              refine z_eq (i := 35) (v := 38) rfl ⟨by omega, by omega⟩ (fun h275 => ?_) (fun h276 => ?_)
              · refine r_const (i := 38) (u := 0) (z := 0) rfl rfl ?_
                refine r_store (i := 39) (u := 5) (w := 0) (L1 := [some ((2, 43)), some (vi w0), some (vl v), none, some (vi 1), some (vi 0)]) rfl rfl rfl rfl ?_
                refine r_load (i := 40) (u := 0) (w := 2) rfl rfl rfl ?_
                refine r_load (i := 41) (u := 5) (w := 0) rfl rfl rfl ?_
                refine z_eq (i := 42) (v := 45) rfl ⟨by omega, by omega⟩ (fun h277 => ?_) (fun h278 => absurd h278 (by omega))
                refine r_const (i := 45) (u := 1) (z := 1) rfl rfl ?_
                refine r_putI (i := 46) (v := 0) (w := 11) rfl ly43 rfl ⟨by omega, by omega⟩ ?_
                have hI280 := hI270.setf (b := 43) (w := 0) (z := 1) tf43_0 rfl (by omega) (by omega)
                have hF282 := hF273.setf (b := 43) (w := 0) (z := 1) rfl
                have hR283 := hR274.setf (b := 43) (w := 0) (z := 1)
                refine yT_gen (fun S279 hS281 => ?_)
                rw [hS281] at hI280 hF282 hR283 
                refine r_load (i := 47) (u := 5) (w := 0) rfl rfl rfl ?_
                refine z_ne (i := 48) (v := 50) rfl ⟨by omega, by omega⟩ (fun h284 => absurd h284 (by omega)) (fun h285 => ?_)
                have h286 := hI280.f tf43_0
                have h287 : S279.f 43 0 = 1 := by rw [← hS281]; exact ysf_eq
                exact r_ret0 (i := 49) rfl ⟨rfl, (by first | (exfalso; omega) | (intro hf9; have sg9 : ysg v = v := (by omega); have w9 := um269 hf9 (by omega) (by omega) (by omega); rw [sg9] at w9; first | exact Or.inl ⟨by omega, by omega, fun _ => ⟨by omega, by omega⟩, fun _ => w9.mp (by omega)⟩ | exact Or.inr ⟨by omega, fun hc => absurd (w9.mpr (hc.2.2 (by omega))) (by omega)⟩)), hI280, hF282, hR283⟩
              · refine r_const (i := 36) (u := 1) (z := 1) rfl rfl ?_
                refine r_goto (i := 37) (v := 39) rfl ?_
                refine r_store (i := 39) (u := 5) (w := 0) (L1 := [some ((2, 43)), some (vi w0), some (vl v), none, some (vi 1), some (vi 1)]) rfl rfl rfl rfl ?_
                refine r_load (i := 40) (u := 0) (w := 2) rfl rfl rfl ?_
                refine r_load (i := 41) (u := 5) (w := 0) rfl rfl rfl ?_
                refine z_eq (i := 42) (v := 45) rfl ⟨by omega, by omega⟩ (fun h288 => absurd h288 (by omega)) (fun h289 => ?_)
                refine r_const (i := 43) (u := 0) (z := 0) rfl rfl ?_
                refine r_goto (i := 44) (v := 46) rfl ?_
                refine r_putI (i := 46) (v := 0) (w := 11) rfl ly43 rfl ⟨by omega, by omega⟩ ?_
                have hI291 := hI270.setf (b := 43) (w := 0) (z := 0) tf43_0 rfl (by omega) (by omega)
                have hF293 := hF273.setf (b := 43) (w := 0) (z := 0) rfl
                have hR294 := hR274.setf (b := 43) (w := 0) (z := 0)
                refine yT_gen (fun S290 hS292 => ?_)
                rw [hS292] at hI291 hF293 hR294 
                refine r_load (i := 47) (u := 5) (w := 0) rfl rfl rfl ?_
                refine z_ne (i := 48) (v := 50) rfl ⟨by omega, by omega⟩ (fun h295 => ?_) (fun h296 => absurd h296 (by omega))
                refine r_load (i := 50) (u := 0) (w := 2) rfl rfl rfl ?_
                refine r_load (i := 51) (u := 1) (w := 0) rfl rfl rfl ?_
                refine r_putI (i := 52) (v := 33) (w := 11) rfl ly43 rfl ⟨by omega, by omega⟩ ?_
                have hF300 := hF293.setf (b := 43) (w := 33) (z := w0) rfl
                have hR301 := hR294.setf (b := 43) (w := 33) (z := w0)
                refine yT_gen (fun S297 hS299 => ?_)
                rw [hS299] at hF300 hR301 
                refine r_load (i := 53) (u := 0) (w := 2) rfl rfl rfl ?_
                refine r_load (i := 54) (u := 1) (w := 0) rfl rfl rfl ?_
                refine r_const (i := 55) (u := 1) (z := 1) rfl rfl ?_
                refine c_ne (i := 56) (v := 61) rfl ⟨by omega, by omega⟩ ⟨by omega, by omega⟩ (fun h302 => ?_) (fun h303 => ?_)
                · refine r_load (i := 61) (u := 1) (w := 0) rfl rfl rfl ?_
                  refine r_const (i := 62) (u := 3) (z := 3) rfl rfl ?_
                  refine c_ne (i := 63) (v := 68) rfl ⟨by omega, by omega⟩ ⟨by omega, by omega⟩ (fun h304 => ?_) (fun h305 => ?_)
                  · refine r_load (i := 68) (u := 2) (w := 1) rfl rfl rfl ?_
                    refine r_putL (i := 69) (v := 36) (w := 11) rfl ly43 rfl ⟨by omega, by omega⟩ ?_
                    have hI307 := hI291.set43 (z := w0) (y := v) (by omega) (by omega) (by omega)
                    rw [hS299] at hI307
                    have hF309 := hF300.setf (b := 43) (w := 36) (z := v) rfl
                    have hR310 := hR301.setf (b := 43) (w := 36) (z := v)
                    refine yT_gen (fun S306 hS308 => ?_)
                    rw [hS308] at hI307 hF309 hR310 
                    have h311 := hI307.f tf43_0
                    have h312 : S306.f 43 0 = S297.f 43 0 := by rw [← hS308]; exact ysf_ne (by decide)
                    have h313 : S297.f 43 0 = S290.f 43 0 := by rw [← hS299]; exact ysf_ne (by decide)
                    have h314 : S290.f 43 0 = 0 := by rw [← hS292]; exact ysf_eq
                    exact r_ret0 (i := 70) rfl ⟨rfl, (by first | (exfalso; omega) | (intro hf9; have sg9 : ysg v = v := (by omega); have w9 := um269 hf9 (by omega) (by omega) (by omega); rw [sg9] at w9; first | exact Or.inl ⟨by omega, by omega, fun _ => ⟨by omega, by omega⟩, fun _ => w9.mp (by omega)⟩ | exact Or.inr ⟨by omega, fun hc => absurd (w9.mpr (hc.2.2 (by omega))) (by omega)⟩)), hI307, hF309, hR310⟩
                  · refine r_load (i := 64) (u := 2) (w := 1) rfl rfl rfl ?_
                    refine r_lconst (i := 65) (u := 1) (z := 1) rfl rfl ?_
                    refine r_land (i := 66) rfl ?_
                    have h315 := @yland_c v 1 (by decide) (by decide)
                    refine r_goto (i := 67) (v := 69) rfl ?_
                    refine r_putL (i := 69) (v := 36) (w := 11) rfl ly43 rfl ⟨by omega, by omega⟩ ?_
                    have hI317 := hI291.set43 (z := w0) (y := yland v 1) (by omega) (by omega) (by omega)
                    rw [hS299] at hI317
                    have hF319 := hF300.setf (b := 43) (w := 36) (z := yland v 1) rfl
                    have hR320 := hR301.setf (b := 43) (w := 36) (z := yland v 1)
                    refine yT_gen (fun S316 hS318 => ?_)
                    rw [hS318] at hI317 hF319 hR320 
                    have h321 := hI317.f tf43_0
                    have h322 : S316.f 43 0 = S297.f 43 0 := by rw [← hS318]; exact ysf_ne (by decide)
                    have h323 : S297.f 43 0 = S290.f 43 0 := by rw [← hS299]; exact ysf_ne (by decide)
                    have h324 : S290.f 43 0 = 0 := by rw [← hS292]; exact ysf_eq
                    exact r_ret0 (i := 70) rfl ⟨rfl, (by first | (exfalso; omega) | (intro hf9; have sg9 : ysg v = v := (by omega); have w9 := um269 hf9 (by omega) (by omega) (by omega); rw [sg9] at w9; first | exact Or.inl ⟨by omega, by omega, fun _ => ⟨by omega, by omega⟩, fun _ => w9.mp (by omega)⟩ | exact Or.inr ⟨by omega, fun hc => absurd (w9.mpr (hc.2.2 (by omega))) (by omega)⟩)), hI317, hF319, hR320⟩
                · refine r_load (i := 57) (u := 2) (w := 1) rfl rfl rfl ?_
                  refine r_l2i (i := 58) rfl ?_
                  rw [vi_sg v]
                  have h325 := ysg_fact v
                  refine r_i2l (i := 59) rfl ⟨by omega, by omega⟩ ?_
                  refine r_goto (i := 60) (v := 69) rfl ?_
                  refine r_putL (i := 69) (v := 36) (w := 11) rfl ly43 rfl ⟨by omega, by omega⟩ ?_
                  have hI327 := hI291.set43 (z := w0) (y := ysg v) (by omega) (by omega) (by omega)
                  rw [hS299] at hI327
                  have hF329 := hF300.setf (b := 43) (w := 36) (z := ysg v) rfl
                  have hR330 := hR301.setf (b := 43) (w := 36) (z := ysg v)
                  refine yT_gen (fun S326 hS328 => ?_)
                  rw [hS328] at hI327 hF329 hR330 
                  have h331 := hI327.f tf43_0
                  have h332 : S326.f 43 0 = S297.f 43 0 := by rw [← hS328]; exact ysf_ne (by decide)
                  have h333 : S297.f 43 0 = S290.f 43 0 := by rw [← hS299]; exact ysf_ne (by decide)
                  have h334 : S290.f 43 0 = 0 := by rw [← hS292]; exact ysf_eq
                  exact r_ret0 (i := 70) rfl ⟨rfl, (by first | (exfalso; omega) | (intro hf9; have sg9 : ysg v = v := (by omega); have w9 := um269 hf9 (by omega) (by omega) (by omega); rw [sg9] at w9; first | exact Or.inl ⟨by omega, by omega, fun _ => ⟨by omega, by omega⟩, fun _ => w9.mp (by omega)⟩ | exact Or.inr ⟨by omega, fun hc => absurd (w9.mpr (hc.2.2 (by omega))) (by omega)⟩)), hI327, hF329, hR330⟩
          · refine z_ge (i := 26) (v := 38) rfl ⟨by omega, by omega⟩ (fun h335 => ?_) (fun h336 => absurd h336 (by omega))
            refine r_const (i := 38) (u := 0) (z := 0) rfl rfl ?_
            refine r_store (i := 39) (u := 5) (w := 0) (L1 := [some ((2, 43)), some (vi w0), some (vl v), none, some (vi 1), some (vi 0)]) rfl rfl rfl rfl ?_
            refine r_load (i := 40) (u := 0) (w := 2) rfl rfl rfl ?_
            refine r_load (i := 41) (u := 5) (w := 0) rfl rfl rfl ?_
            refine z_eq (i := 42) (v := 45) rfl ⟨by omega, by omega⟩ (fun h337 => ?_) (fun h338 => absurd h338 (by omega))
            refine r_const (i := 45) (u := 1) (z := 1) rfl rfl ?_
            refine r_putI (i := 46) (v := 0) (w := 11) rfl ly43 rfl ⟨by omega, by omega⟩ ?_
            have hI340 := hI.setf (b := 43) (w := 0) (z := 1) tf43_0 rfl (by omega) (by omega)
            have hF342 := hF.setf (b := 43) (w := 0) (z := 1) rfl
            have hR343 := hR.setf (b := 43) (w := 0) (z := 1)
            refine yT_gen (fun S339 hS341 => ?_)
            rw [hS341] at hI340 hF342 hR343 
            refine r_load (i := 47) (u := 5) (w := 0) rfl rfl rfl ?_
            refine z_ne (i := 48) (v := 50) rfl ⟨by omega, by omega⟩ (fun h344 => absurd h344 (by omega)) (fun h345 => ?_)
            have h346 := hI340.f tf43_0
            have h347 : S339.f 43 0 = 1 := by rw [← hS341]; exact ysf_eq
            exact r_ret0 (i := 49) rfl ⟨rfl, (by first | (exfalso; omega) | exact fun hf9 => Or.inl ⟨by omega, by omega, fun q9 => ⟨by omega, by omega⟩, fun q9 => absurd q9 (by omega)⟩ | exact fun hf9 => Or.inr ⟨by omega, fun hc => by obtain ⟨c1, c2, -⟩ := hc; omega⟩), hI340, hF342, hR343⟩
          · refine z_ge (i := 26) (v := 38) rfl ⟨by omega, by omega⟩ (fun h348 => ?_) (fun h349 => absurd h349 (by omega))
            refine r_const (i := 38) (u := 0) (z := 0) rfl rfl ?_
            refine r_store (i := 39) (u := 5) (w := 0) (L1 := [some ((2, 43)), some (vi w0), some (vl v), none, some (vi 1), some (vi 0)]) rfl rfl rfl rfl ?_
            refine r_load (i := 40) (u := 0) (w := 2) rfl rfl rfl ?_
            refine r_load (i := 41) (u := 5) (w := 0) rfl rfl rfl ?_
            refine z_eq (i := 42) (v := 45) rfl ⟨by omega, by omega⟩ (fun h350 => ?_) (fun h351 => absurd h351 (by omega))
            refine r_const (i := 45) (u := 1) (z := 1) rfl rfl ?_
            refine r_putI (i := 46) (v := 0) (w := 11) rfl ly43 rfl ⟨by omega, by omega⟩ ?_
            have hI353 := hI.setf (b := 43) (w := 0) (z := 1) tf43_0 rfl (by omega) (by omega)
            have hF355 := hF.setf (b := 43) (w := 0) (z := 1) rfl
            have hR356 := hR.setf (b := 43) (w := 0) (z := 1)
            refine yT_gen (fun S352 hS354 => ?_)
            rw [hS354] at hI353 hF355 hR356 
            refine r_load (i := 47) (u := 5) (w := 0) rfl rfl rfl ?_
            refine z_ne (i := 48) (v := 50) rfl ⟨by omega, by omega⟩ (fun h357 => absurd h357 (by omega)) (fun h358 => ?_)
            have h359 := hI353.f tf43_0
            have h360 : S352.f 43 0 = 1 := by rw [← hS354]; exact ysf_eq
            exact r_ret0 (i := 49) rfl ⟨rfl, (by first | (exfalso; omega) | exact fun hf9 => Or.inl ⟨by omega, by omega, fun q9 => ⟨by omega, by omega⟩, fun q9 => absurd q9 (by omega)⟩ | exact fun hf9 => Or.inr ⟨by omega, fun hc => by obtain ⟨c1, c2, -⟩ := hc; omega⟩), hI353, hF355, hR356⟩
  · refine r_load (i := 3) (u := 1) (w := 0) rfl rfl rfl ?_
    refine r_const (i := 4) (u := 5) (z := 5) rfl rfl ?_
    refine c_ne (i := 5) (v := 8) rfl ⟨by omega, by omega⟩ ⟨by omega, by omega⟩ (fun h361 => ?_) (fun h362 => ?_)
    · refine r_const (i := 8) (u := 0) (z := 0) rfl rfl ?_
      refine r_store (i := 9) (u := 4) (w := 0) (L1 := [some ((2, 43)), some (vi w0), some (vl v), none, some (vi 0), none]) rfl rfl rfl rfl ?_
      refine r_load (i := 10) (u := 1) (w := 0) rfl rfl rfl ?_
      refine z_lt (i := 11) (v := 38) rfl ⟨by omega, by omega⟩ (fun h363 => ?_) (fun h364 => ?_)
      · refine r_const (i := 38) (u := 0) (z := 0) rfl rfl ?_
        refine r_store (i := 39) (u := 5) (w := 0) (L1 := [some ((2, 43)), some (vi w0), some (vl v), none, some (vi 0), some (vi 0)]) rfl rfl rfl rfl ?_
        refine r_load (i := 40) (u := 0) (w := 2) rfl rfl rfl ?_
        refine r_load (i := 41) (u := 5) (w := 0) rfl rfl rfl ?_
        refine z_eq (i := 42) (v := 45) rfl ⟨by omega, by omega⟩ (fun h365 => ?_) (fun h366 => absurd h366 (by omega))
        refine r_const (i := 45) (u := 1) (z := 1) rfl rfl ?_
        refine r_putI (i := 46) (v := 0) (w := 11) rfl ly43 rfl ⟨by omega, by omega⟩ ?_
        have hI368 := hI.setf (b := 43) (w := 0) (z := 1) tf43_0 rfl (by omega) (by omega)
        have hF370 := hF.setf (b := 43) (w := 0) (z := 1) rfl
        have hR371 := hR.setf (b := 43) (w := 0) (z := 1)
        refine yT_gen (fun S367 hS369 => ?_)
        rw [hS369] at hI368 hF370 hR371 
        refine r_load (i := 47) (u := 5) (w := 0) rfl rfl rfl ?_
        refine z_ne (i := 48) (v := 50) rfl ⟨by omega, by omega⟩ (fun h372 => absurd h372 (by omega)) (fun h373 => ?_)
        have h374 := hI368.f tf43_0
        have h375 : S367.f 43 0 = 1 := by rw [← hS369]; exact ysf_eq
        exact r_ret0 (i := 49) rfl ⟨rfl, (by first | (exfalso; omega) | exact fun hf9 => Or.inl ⟨by omega, by omega, fun q9 => ⟨by omega, by omega⟩, fun q9 => absurd q9 (by omega)⟩ | exact fun hf9 => Or.inr ⟨by omega, fun hc => by obtain ⟨c1, c2, -⟩ := hc; omega⟩), hI368, hF370, hR371⟩
      · refine r_load (i := 12) (u := 1) (w := 0) rfl rfl rfl ?_
        refine r_const (i := 13) (u := 6) (z := 6) rfl rfl ?_
        refine c_ge (i := 14) (v := 38) rfl ⟨by omega, by omega⟩ ⟨by omega, by omega⟩ (fun h376 => ?_) (fun h377 => ?_)
        · refine r_const (i := 38) (u := 0) (z := 0) rfl rfl ?_
          refine r_store (i := 39) (u := 5) (w := 0) (L1 := [some ((2, 43)), some (vi w0), some (vl v), none, some (vi 0), some (vi 0)]) rfl rfl rfl rfl ?_
          refine r_load (i := 40) (u := 0) (w := 2) rfl rfl rfl ?_
          refine r_load (i := 41) (u := 5) (w := 0) rfl rfl rfl ?_
          refine z_eq (i := 42) (v := 45) rfl ⟨by omega, by omega⟩ (fun h378 => ?_) (fun h379 => absurd h379 (by omega))
          refine r_const (i := 45) (u := 1) (z := 1) rfl rfl ?_
          refine r_putI (i := 46) (v := 0) (w := 11) rfl ly43 rfl ⟨by omega, by omega⟩ ?_
          have hI381 := hI.setf (b := 43) (w := 0) (z := 1) tf43_0 rfl (by omega) (by omega)
          have hF383 := hF.setf (b := 43) (w := 0) (z := 1) rfl
          have hR384 := hR.setf (b := 43) (w := 0) (z := 1)
          refine yT_gen (fun S380 hS382 => ?_)
          rw [hS382] at hI381 hF383 hR384 
          refine r_load (i := 47) (u := 5) (w := 0) rfl rfl rfl ?_
          refine z_ne (i := 48) (v := 50) rfl ⟨by omega, by omega⟩ (fun h385 => absurd h385 (by omega)) (fun h386 => ?_)
          have h387 := hI381.f tf43_0
          have h388 : S380.f 43 0 = 1 := by rw [← hS382]; exact ysf_eq
          exact r_ret0 (i := 49) rfl ⟨rfl, (by first | (exfalso; omega) | exact fun hf9 => Or.inl ⟨by omega, by omega, fun q9 => ⟨by omega, by omega⟩, fun q9 => absurd q9 (by omega)⟩ | exact fun hf9 => Or.inr ⟨by omega, fun hc => by obtain ⟨c1, c2, -⟩ := hc; omega⟩), hI381, hF383, hR384⟩
        · refine r_load (i := 15) (u := 4) (w := 0) rfl rfl rfl ?_
          refine z_eq (i := 16) (v := 36) rfl ⟨by omega, by omega⟩ (fun h389 => ?_) (fun h390 => absurd h390 (by omega))
          refine r_const (i := 36) (u := 1) (z := 1) rfl rfl ?_
          refine r_goto (i := 37) (v := 39) rfl ?_
          refine r_store (i := 39) (u := 5) (w := 0) (L1 := [some ((2, 43)), some (vi w0), some (vl v), none, some (vi 0), some (vi 1)]) rfl rfl rfl rfl ?_
          refine r_load (i := 40) (u := 0) (w := 2) rfl rfl rfl ?_
          refine r_load (i := 41) (u := 5) (w := 0) rfl rfl rfl ?_
          refine z_eq (i := 42) (v := 45) rfl ⟨by omega, by omega⟩ (fun h391 => absurd h391 (by omega)) (fun h392 => ?_)
          refine r_const (i := 43) (u := 0) (z := 0) rfl rfl ?_
          refine r_goto (i := 44) (v := 46) rfl ?_
          refine r_putI (i := 46) (v := 0) (w := 11) rfl ly43 rfl ⟨by omega, by omega⟩ ?_
          have hI394 := hI.setf (b := 43) (w := 0) (z := 0) tf43_0 rfl (by omega) (by omega)
          have hF396 := hF.setf (b := 43) (w := 0) (z := 0) rfl
          have hR397 := hR.setf (b := 43) (w := 0) (z := 0)
          refine yT_gen (fun S393 hS395 => ?_)
          rw [hS395] at hI394 hF396 hR397 
          refine r_load (i := 47) (u := 5) (w := 0) rfl rfl rfl ?_
          refine z_ne (i := 48) (v := 50) rfl ⟨by omega, by omega⟩ (fun h398 => ?_) (fun h399 => absurd h399 (by omega))
          refine r_load (i := 50) (u := 0) (w := 2) rfl rfl rfl ?_
          refine r_load (i := 51) (u := 1) (w := 0) rfl rfl rfl ?_
          refine r_putI (i := 52) (v := 33) (w := 11) rfl ly43 rfl ⟨by omega, by omega⟩ ?_
          have hF403 := hF396.setf (b := 43) (w := 33) (z := w0) rfl
          have hR404 := hR397.setf (b := 43) (w := 33) (z := w0)
          refine yT_gen (fun S400 hS402 => ?_)
          rw [hS402] at hF403 hR404 
          refine r_load (i := 53) (u := 0) (w := 2) rfl rfl rfl ?_
          refine r_load (i := 54) (u := 1) (w := 0) rfl rfl rfl ?_
          refine r_const (i := 55) (u := 1) (z := 1) rfl rfl ?_
          refine c_ne (i := 56) (v := 61) rfl ⟨by omega, by omega⟩ ⟨by omega, by omega⟩ (fun h405 => ?_) (fun h406 => ?_)
          · refine r_load (i := 61) (u := 1) (w := 0) rfl rfl rfl ?_
            refine r_const (i := 62) (u := 3) (z := 3) rfl rfl ?_
            refine c_ne (i := 63) (v := 68) rfl ⟨by omega, by omega⟩ ⟨by omega, by omega⟩ (fun h407 => ?_) (fun h408 => ?_)
            · refine r_load (i := 68) (u := 2) (w := 1) rfl rfl rfl ?_
              refine r_putL (i := 69) (v := 36) (w := 11) rfl ly43 rfl ⟨by omega, by omega⟩ ?_
              have hI410 := hI394.set43 (z := w0) (y := v) (by omega) (by omega) (by omega)
              rw [hS402] at hI410
              have hF412 := hF403.setf (b := 43) (w := 36) (z := v) rfl
              have hR413 := hR404.setf (b := 43) (w := 36) (z := v)
              refine yT_gen (fun S409 hS411 => ?_)
              rw [hS411] at hI410 hF412 hR413 
              have h414 := hI410.f tf43_0
              have h415 : S409.f 43 0 = S400.f 43 0 := by rw [← hS411]; exact ysf_ne (by decide)
              have h416 : S400.f 43 0 = S393.f 43 0 := by rw [← hS402]; exact ysf_ne (by decide)
              have h417 : S393.f 43 0 = 0 := by rw [← hS395]; exact ysf_eq
              exact r_ret0 (i := 70) rfl ⟨rfl, (by first | (exfalso; omega) | exact fun hf9 => Or.inl ⟨by omega, by omega, fun q9 => ⟨by omega, by omega⟩, fun q9 => absurd q9 (by omega)⟩ | exact fun hf9 => Or.inr ⟨by omega, fun hc => by obtain ⟨c1, c2, -⟩ := hc; omega⟩), hI410, hF412, hR413⟩
            · refine r_load (i := 64) (u := 2) (w := 1) rfl rfl rfl ?_
              refine r_lconst (i := 65) (u := 1) (z := 1) rfl rfl ?_
              refine r_land (i := 66) rfl ?_
              have h418 := @yland_c v 1 (by decide) (by decide)
              refine r_goto (i := 67) (v := 69) rfl ?_
              refine r_putL (i := 69) (v := 36) (w := 11) rfl ly43 rfl ⟨by omega, by omega⟩ ?_
              have hI420 := hI394.set43 (z := w0) (y := yland v 1) (by omega) (by omega) (by omega)
              rw [hS402] at hI420
              have hF422 := hF403.setf (b := 43) (w := 36) (z := yland v 1) rfl
              have hR423 := hR404.setf (b := 43) (w := 36) (z := yland v 1)
              refine yT_gen (fun S419 hS421 => ?_)
              rw [hS421] at hI420 hF422 hR423 
              have h424 := hI420.f tf43_0
              have h425 : S419.f 43 0 = S400.f 43 0 := by rw [← hS421]; exact ysf_ne (by decide)
              have h426 : S400.f 43 0 = S393.f 43 0 := by rw [← hS402]; exact ysf_ne (by decide)
              have h427 : S393.f 43 0 = 0 := by rw [← hS395]; exact ysf_eq
              exact r_ret0 (i := 70) rfl ⟨rfl, (by first | (exfalso; omega) | exact fun hf9 => Or.inl ⟨by omega, by omega, fun q9 => ⟨by omega, by omega⟩, fun q9 => absurd q9 (by omega)⟩ | exact fun hf9 => Or.inr ⟨by omega, fun hc => by obtain ⟨c1, c2, -⟩ := hc; omega⟩), hI420, hF422, hR423⟩
          · refine r_load (i := 57) (u := 2) (w := 1) rfl rfl rfl ?_
            refine r_l2i (i := 58) rfl ?_
            rw [vi_sg v]
            have h428 := ysg_fact v
            refine r_i2l (i := 59) rfl ⟨by omega, by omega⟩ ?_
            refine r_goto (i := 60) (v := 69) rfl ?_
            refine r_putL (i := 69) (v := 36) (w := 11) rfl ly43 rfl ⟨by omega, by omega⟩ ?_
            have hI430 := hI394.set43 (z := w0) (y := ysg v) (by omega) (by omega) (by omega)
            rw [hS402] at hI430
            have hF432 := hF403.setf (b := 43) (w := 36) (z := ysg v) rfl
            have hR433 := hR404.setf (b := 43) (w := 36) (z := ysg v)
            refine yT_gen (fun S429 hS431 => ?_)
            rw [hS431] at hI430 hF432 hR433 
            have h434 := hI430.f tf43_0
            have h435 : S429.f 43 0 = S400.f 43 0 := by rw [← hS431]; exact ysf_ne (by decide)
            have h436 : S400.f 43 0 = S393.f 43 0 := by rw [← hS402]; exact ysf_ne (by decide)
            have h437 : S393.f 43 0 = 0 := by rw [← hS395]; exact ysf_eq
            exact r_ret0 (i := 70) rfl ⟨rfl, (by first | (exfalso; omega) | exact fun hf9 => Or.inl ⟨by omega, by omega, fun q9 => ⟨by omega, by omega⟩, fun q9 => absurd q9 (by omega)⟩ | exact fun hf9 => Or.inr ⟨by omega, fun hc => by obtain ⟨c1, c2, -⟩ := hc; omega⟩), hI430, hF432, hR433⟩
    · refine r_const (i := 6) (u := 1) (z := 1) rfl rfl ?_
      refine r_goto (i := 7) (v := 9) rfl ?_
      refine r_store (i := 9) (u := 4) (w := 0) (L1 := [some ((2, 43)), some (vi w0), some (vl v), none, some (vi 1), none]) rfl rfl rfl rfl ?_
      refine r_load (i := 10) (u := 1) (w := 0) rfl rfl rfl ?_
      refine z_lt (i := 11) (v := 38) rfl ⟨by omega, by omega⟩ (fun h438 => ?_) (fun h439 => ?_)
      · refine r_const (i := 38) (u := 0) (z := 0) rfl rfl ?_
        refine r_store (i := 39) (u := 5) (w := 0) (L1 := [some ((2, 43)), some (vi w0), some (vl v), none, some (vi 1), some (vi 0)]) rfl rfl rfl rfl ?_
        refine r_load (i := 40) (u := 0) (w := 2) rfl rfl rfl ?_
        refine r_load (i := 41) (u := 5) (w := 0) rfl rfl rfl ?_
        refine z_eq (i := 42) (v := 45) rfl ⟨by omega, by omega⟩ (fun h440 => ?_) (fun h441 => absurd h441 (by omega))
        refine r_const (i := 45) (u := 1) (z := 1) rfl rfl ?_
        refine r_putI (i := 46) (v := 0) (w := 11) rfl ly43 rfl ⟨by omega, by omega⟩ ?_
        have hI443 := hI.setf (b := 43) (w := 0) (z := 1) tf43_0 rfl (by omega) (by omega)
        have hF445 := hF.setf (b := 43) (w := 0) (z := 1) rfl
        have hR446 := hR.setf (b := 43) (w := 0) (z := 1)
        refine yT_gen (fun S442 hS444 => ?_)
        rw [hS444] at hI443 hF445 hR446 
        refine r_load (i := 47) (u := 5) (w := 0) rfl rfl rfl ?_
        refine z_ne (i := 48) (v := 50) rfl ⟨by omega, by omega⟩ (fun h447 => absurd h447 (by omega)) (fun h448 => ?_)
        have h449 := hI443.f tf43_0
        have h450 : S442.f 43 0 = 1 := by rw [← hS444]; exact ysf_eq
        exact r_ret0 (i := 49) rfl ⟨rfl, (by first | (exfalso; omega) | exact fun hf9 => Or.inl ⟨by omega, by omega, fun q9 => ⟨by omega, by omega⟩, fun q9 => absurd q9 (by omega)⟩ | exact fun hf9 => Or.inr ⟨by omega, fun hc => by obtain ⟨c1, c2, -⟩ := hc; omega⟩), hI443, hF445, hR446⟩
      · refine r_load (i := 12) (u := 1) (w := 0) rfl rfl rfl ?_
        refine r_const (i := 13) (u := 6) (z := 6) rfl rfl ?_
        refine c_ge (i := 14) (v := 38) rfl ⟨by omega, by omega⟩ ⟨by omega, by omega⟩ (fun h451 => ?_) (fun h452 => ?_)
        · refine r_const (i := 38) (u := 0) (z := 0) rfl rfl ?_
          refine r_store (i := 39) (u := 5) (w := 0) (L1 := [some ((2, 43)), some (vi w0), some (vl v), none, some (vi 1), some (vi 0)]) rfl rfl rfl rfl ?_
          refine r_load (i := 40) (u := 0) (w := 2) rfl rfl rfl ?_
          refine r_load (i := 41) (u := 5) (w := 0) rfl rfl rfl ?_
          refine z_eq (i := 42) (v := 45) rfl ⟨by omega, by omega⟩ (fun h453 => ?_) (fun h454 => absurd h454 (by omega))
          refine r_const (i := 45) (u := 1) (z := 1) rfl rfl ?_
          refine r_putI (i := 46) (v := 0) (w := 11) rfl ly43 rfl ⟨by omega, by omega⟩ ?_
          have hI456 := hI.setf (b := 43) (w := 0) (z := 1) tf43_0 rfl (by omega) (by omega)
          have hF458 := hF.setf (b := 43) (w := 0) (z := 1) rfl
          have hR459 := hR.setf (b := 43) (w := 0) (z := 1)
          refine yT_gen (fun S455 hS457 => ?_)
          rw [hS457] at hI456 hF458 hR459 
          refine r_load (i := 47) (u := 5) (w := 0) rfl rfl rfl ?_
          refine z_ne (i := 48) (v := 50) rfl ⟨by omega, by omega⟩ (fun h460 => absurd h460 (by omega)) (fun h461 => ?_)
          have h462 := hI456.f tf43_0
          have h463 : S455.f 43 0 = 1 := by rw [← hS457]; exact ysf_eq
          exact r_ret0 (i := 49) rfl ⟨rfl, (by first | (exfalso; omega) | exact fun hf9 => Or.inl ⟨by omega, by omega, fun q9 => ⟨by omega, by omega⟩, fun q9 => absurd q9 (by omega)⟩ | exact fun hf9 => Or.inr ⟨by omega, fun hc => by obtain ⟨c1, c2, -⟩ := hc; omega⟩), hI456, hF458, hR459⟩
        · refine r_load (i := 15) (u := 4) (w := 0) rfl rfl rfl ?_
          refine z_eq (i := 16) (v := 36) rfl ⟨by omega, by omega⟩ (fun h464 => absurd h464 (by omega)) (fun h465 => ?_)
          refine r_load (i := 17) (u := 2) (w := 1) rfl rfl rfl ?_
          refine r_lconst (i := 18) (u := 0) (z := 0) rfl rfl ?_
          refine r_lcmp (i := 19) rfl ⟨by omega, by omega⟩ ⟨by omega, by omega⟩ (fun h466 => ?_) (fun h467 => ?_) (fun h468 => ?_)
          · refine z_lt (i := 20) (v := 38) rfl ⟨by omega, by omega⟩ (fun h469 => ?_) (fun h470 => absurd h470 (by omega))
            refine r_const (i := 38) (u := 0) (z := 0) rfl rfl ?_
            refine r_store (i := 39) (u := 5) (w := 0) (L1 := [some ((2, 43)), some (vi w0), some (vl v), none, some (vi 1), some (vi 0)]) rfl rfl rfl rfl ?_
            refine r_load (i := 40) (u := 0) (w := 2) rfl rfl rfl ?_
            refine r_load (i := 41) (u := 5) (w := 0) rfl rfl rfl ?_
            refine z_eq (i := 42) (v := 45) rfl ⟨by omega, by omega⟩ (fun h471 => ?_) (fun h472 => absurd h472 (by omega))
            refine r_const (i := 45) (u := 1) (z := 1) rfl rfl ?_
            refine r_putI (i := 46) (v := 0) (w := 11) rfl ly43 rfl ⟨by omega, by omega⟩ ?_
            have hI474 := hI.setf (b := 43) (w := 0) (z := 1) tf43_0 rfl (by omega) (by omega)
            have hF476 := hF.setf (b := 43) (w := 0) (z := 1) rfl
            have hR477 := hR.setf (b := 43) (w := 0) (z := 1)
            refine yT_gen (fun S473 hS475 => ?_)
            rw [hS475] at hI474 hF476 hR477 
            refine r_load (i := 47) (u := 5) (w := 0) rfl rfl rfl ?_
            refine z_ne (i := 48) (v := 50) rfl ⟨by omega, by omega⟩ (fun h478 => absurd h478 (by omega)) (fun h479 => ?_)
            have h480 := hI474.f tf43_0
            have h481 : S473.f 43 0 = 1 := by rw [← hS475]; exact ysf_eq
            exact r_ret0 (i := 49) rfl ⟨rfl, (by first | (exfalso; omega) | exact fun hf9 => Or.inl ⟨by omega, by omega, fun q9 => ⟨by omega, by omega⟩, fun q9 => absurd q9 (by omega)⟩ | exact fun hf9 => Or.inr ⟨by omega, fun hc => by obtain ⟨c1, c2, -⟩ := hc; omega⟩), hI474, hF476, hR477⟩
          · refine z_lt (i := 20) (v := 38) rfl ⟨by omega, by omega⟩ (fun h482 => absurd h482 (by omega)) (fun h483 => ?_)
            refine r_load (i := 21) (u := 2) (w := 1) rfl rfl rfl ?_
            refine r_load (i := 22) (u := 0) (w := 2) rfl rfl rfl ?_
            have h484 := hI.f tf43_1
            refine r_getf (i := 23) (v := 1) (w := 11) (x := vi (S.f 43 1)) rfl ly43 rfl rfl fun h485 => ?_
            have h485 : Rg (S.f 43 1) := h485
            refine r_i2l (i := 24) rfl ⟨by omega, by omega⟩ ?_
            refine r_lcmp (i := 25) rfl ⟨by omega, by omega⟩ ⟨by omega, by omega⟩ (fun h486 => ?_) (fun h487 => ?_) (fun h488 => ?_)
            · refine z_ge (i := 26) (v := 38) rfl ⟨by omega, by omega⟩ (fun h489 => absurd h489 (by omega)) (fun h490 => ?_)
              refine r_load (i := 27) (u := 1) (w := 0) rfl rfl rfl ?_
              refine r_const (i := 28) (u := 4) (z := 4) rfl rfl ?_
              refine c_eq (i := 29) (v := 36) rfl ⟨by omega, by omega⟩ ⟨by omega, by omega⟩ (fun h491 => ?_) (fun h492 => ?_)
              · refine r_const (i := 36) (u := 1) (z := 1) rfl rfl ?_
                refine r_goto (i := 37) (v := 39) rfl ?_
                refine r_store (i := 39) (u := 5) (w := 0) (L1 := [some ((2, 43)), some (vi w0), some (vl v), none, some (vi 1), some (vi 1)]) rfl rfl rfl rfl ?_
                refine r_load (i := 40) (u := 0) (w := 2) rfl rfl rfl ?_
                refine r_load (i := 41) (u := 5) (w := 0) rfl rfl rfl ?_
                refine z_eq (i := 42) (v := 45) rfl ⟨by omega, by omega⟩ (fun h493 => absurd h493 (by omega)) (fun h494 => ?_)
                refine r_const (i := 43) (u := 0) (z := 0) rfl rfl ?_
                refine r_goto (i := 44) (v := 46) rfl ?_
                refine r_putI (i := 46) (v := 0) (w := 11) rfl ly43 rfl ⟨by omega, by omega⟩ ?_
                have hI496 := hI.setf (b := 43) (w := 0) (z := 0) tf43_0 rfl (by omega) (by omega)
                have hF498 := hF.setf (b := 43) (w := 0) (z := 0) rfl
                have hR499 := hR.setf (b := 43) (w := 0) (z := 0)
                refine yT_gen (fun S495 hS497 => ?_)
                rw [hS497] at hI496 hF498 hR499 
                refine r_load (i := 47) (u := 5) (w := 0) rfl rfl rfl ?_
                refine z_ne (i := 48) (v := 50) rfl ⟨by omega, by omega⟩ (fun h500 => ?_) (fun h501 => absurd h501 (by omega))
                refine r_load (i := 50) (u := 0) (w := 2) rfl rfl rfl ?_
                refine r_load (i := 51) (u := 1) (w := 0) rfl rfl rfl ?_
                refine r_putI (i := 52) (v := 33) (w := 11) rfl ly43 rfl ⟨by omega, by omega⟩ ?_
                have hF505 := hF498.setf (b := 43) (w := 33) (z := w0) rfl
                have hR506 := hR499.setf (b := 43) (w := 33) (z := w0)
                refine yT_gen (fun S502 hS504 => ?_)
                rw [hS504] at hF505 hR506 
                refine r_load (i := 53) (u := 0) (w := 2) rfl rfl rfl ?_
                refine r_load (i := 54) (u := 1) (w := 0) rfl rfl rfl ?_
                refine r_const (i := 55) (u := 1) (z := 1) rfl rfl ?_
                refine c_ne (i := 56) (v := 61) rfl ⟨by omega, by omega⟩ ⟨by omega, by omega⟩ (fun h507 => ?_) (fun h508 => ?_)
                · refine r_load (i := 61) (u := 1) (w := 0) rfl rfl rfl ?_
                  refine r_const (i := 62) (u := 3) (z := 3) rfl rfl ?_
                  refine c_ne (i := 63) (v := 68) rfl ⟨by omega, by omega⟩ ⟨by omega, by omega⟩ (fun h509 => ?_) (fun h510 => ?_)
                  · refine r_load (i := 68) (u := 2) (w := 1) rfl rfl rfl ?_
                    refine r_putL (i := 69) (v := 36) (w := 11) rfl ly43 rfl ⟨by omega, by omega⟩ ?_
                    have hI512 := hI496.set43 (z := w0) (y := v) (by omega) (by omega) (by omega)
                    rw [hS504] at hI512
                    have hF514 := hF505.setf (b := 43) (w := 36) (z := v) rfl
                    have hR515 := hR506.setf (b := 43) (w := 36) (z := v)
                    refine yT_gen (fun S511 hS513 => ?_)
                    rw [hS513] at hI512 hF514 hR515 
                    have h516 := hI512.f tf43_0
                    have h517 : S511.f 43 0 = S502.f 43 0 := by rw [← hS513]; exact ysf_ne (by decide)
                    have h518 : S502.f 43 0 = S495.f 43 0 := by rw [← hS504]; exact ysf_ne (by decide)
                    have h519 : S495.f 43 0 = 0 := by rw [← hS497]; exact ysf_eq
                    exact r_ret0 (i := 70) rfl ⟨rfl, (by first | (exfalso; omega) | exact fun hf9 => Or.inl ⟨by omega, by omega, fun q9 => ⟨by omega, by omega⟩, fun q9 => absurd q9 (by omega)⟩ | exact fun hf9 => Or.inr ⟨by omega, fun hc => by obtain ⟨c1, c2, -⟩ := hc; omega⟩), hI512, hF514, hR515⟩
                  · refine r_load (i := 64) (u := 2) (w := 1) rfl rfl rfl ?_
                    refine r_lconst (i := 65) (u := 1) (z := 1) rfl rfl ?_
                    refine r_land (i := 66) rfl ?_
                    have h520 := @yland_c v 1 (by decide) (by decide)
                    refine r_goto (i := 67) (v := 69) rfl ?_
                    refine r_putL (i := 69) (v := 36) (w := 11) rfl ly43 rfl ⟨by omega, by omega⟩ ?_
                    have hI522 := hI496.set43 (z := w0) (y := yland v 1) (by omega) (by omega) (by omega)
                    rw [hS504] at hI522
                    have hF524 := hF505.setf (b := 43) (w := 36) (z := yland v 1) rfl
                    have hR525 := hR506.setf (b := 43) (w := 36) (z := yland v 1)
                    refine yT_gen (fun S521 hS523 => ?_)
                    rw [hS523] at hI522 hF524 hR525 
                    have h526 := hI522.f tf43_0
                    have h527 : S521.f 43 0 = S502.f 43 0 := by rw [← hS523]; exact ysf_ne (by decide)
                    have h528 : S502.f 43 0 = S495.f 43 0 := by rw [← hS504]; exact ysf_ne (by decide)
                    have h529 : S495.f 43 0 = 0 := by rw [← hS497]; exact ysf_eq
                    exact r_ret0 (i := 70) rfl ⟨rfl, (by first | (exfalso; omega) | exact fun hf9 => Or.inl ⟨by omega, by omega, fun q9 => ⟨by omega, by omega⟩, fun q9 => absurd q9 (by omega)⟩ | exact fun hf9 => Or.inr ⟨by omega, fun hc => by obtain ⟨c1, c2, -⟩ := hc; omega⟩), hI522, hF524, hR525⟩
                · refine r_load (i := 57) (u := 2) (w := 1) rfl rfl rfl ?_
                  refine r_l2i (i := 58) rfl ?_
                  rw [vi_sg v]
                  have h530 := ysg_fact v
                  refine r_i2l (i := 59) rfl ⟨by omega, by omega⟩ ?_
                  refine r_goto (i := 60) (v := 69) rfl ?_
                  refine r_putL (i := 69) (v := 36) (w := 11) rfl ly43 rfl ⟨by omega, by omega⟩ ?_
                  have hI532 := hI496.set43 (z := w0) (y := ysg v) (by omega) (by omega) (by omega)
                  rw [hS504] at hI532
                  have hF534 := hF505.setf (b := 43) (w := 36) (z := ysg v) rfl
                  have hR535 := hR506.setf (b := 43) (w := 36) (z := ysg v)
                  refine yT_gen (fun S531 hS533 => ?_)
                  rw [hS533] at hI532 hF534 hR535 
                  have h536 := hI532.f tf43_0
                  have h537 : S531.f 43 0 = S502.f 43 0 := by rw [← hS533]; exact ysf_ne (by decide)
                  have h538 : S502.f 43 0 = S495.f 43 0 := by rw [← hS504]; exact ysf_ne (by decide)
                  have h539 : S495.f 43 0 = 0 := by rw [← hS497]; exact ysf_eq
                  exact r_ret0 (i := 70) rfl ⟨rfl, (by first | (exfalso; omega) | exact fun hf9 => Or.inl ⟨by omega, by omega, fun q9 => ⟨by omega, by omega⟩, fun q9 => absurd q9 (by omega)⟩ | exact fun hf9 => Or.inr ⟨by omega, fun hc => by obtain ⟨c1, c2, -⟩ := hc; omega⟩), hI532, hF534, hR535⟩
              · refine r_load (i := 30) (u := 0) (w := 2) rfl rfl rfl ?_
                refine r_load (i := 31) (u := 2) (w := 1) rfl rfl rfl ?_
                refine r_l2i (i := 32) rfl ?_
                rw [vi_sg v]
                have h540 := ysg_fact v
                refine r_const (i := 33) (u := 1) (z := 1) rfl rfl ?_
                refine r_call (i := 34) (u := 11) (v := 262) (w := 0) (b := 0) (na := 1795) (C2 := xC262) (as := [(2, 43), vi (ysg v), vi 1]) (s := []) rfl rfl rfl rfl rfl rfl rfl (sp262 (t := ysg v) (o := 1) hI ⟨by omega, by omega⟩ ⟨by omega, by omega⟩   (by omega)) (fun r541 S542 hq543 => ?_)
                obtain ⟨z544, rfl, h545, h546, um547, hI548, hF549, hR550⟩ := hq543
                have hF551 := hF.trans hF549 rfl rfl
                have hR552 := hR.trans hR550 rfl
                refine Or.inr (Or.inl ⟨rfl, ?_⟩)
                refine z_eq (i := 35) (v := 38) rfl ⟨by omega, by omega⟩ (fun h553 => ?_) (fun h554 => ?_)
                · refine r_const (i := 38) (u := 0) (z := 0) rfl rfl ?_
                  refine r_store (i := 39) (u := 5) (w := 0) (L1 := [some ((2, 43)), some (vi w0), some (vl v), none, some (vi 1), some (vi 0)]) rfl rfl rfl rfl ?_
                  refine r_load (i := 40) (u := 0) (w := 2) rfl rfl rfl ?_
                  refine r_load (i := 41) (u := 5) (w := 0) rfl rfl rfl ?_
                  refine z_eq (i := 42) (v := 45) rfl ⟨by omega, by omega⟩ (fun h555 => ?_) (fun h556 => absurd h556 (by omega))
                  refine r_const (i := 45) (u := 1) (z := 1) rfl rfl ?_
                  refine r_putI (i := 46) (v := 0) (w := 11) rfl ly43 rfl ⟨by omega, by omega⟩ ?_
                  have hI558 := hI548.setf (b := 43) (w := 0) (z := 1) tf43_0 rfl (by omega) (by omega)
                  have hF560 := hF551.setf (b := 43) (w := 0) (z := 1) rfl
                  have hR561 := hR552.setf (b := 43) (w := 0) (z := 1)
                  refine yT_gen (fun S557 hS559 => ?_)
                  rw [hS559] at hI558 hF560 hR561 
                  refine r_load (i := 47) (u := 5) (w := 0) rfl rfl rfl ?_
                  refine z_ne (i := 48) (v := 50) rfl ⟨by omega, by omega⟩ (fun h562 => absurd h562 (by omega)) (fun h563 => ?_)
                  have h564 := hI558.f tf43_0
                  have h565 : S557.f 43 0 = 1 := by rw [← hS559]; exact ysf_eq
                  exact r_ret0 (i := 49) rfl ⟨rfl, (by first | (exfalso; omega) | (intro hf9; have sg9 : ysg v = v := (by omega); have w9 := um547 hf9 (by omega) (by omega) (by omega); rw [sg9] at w9; first | exact Or.inl ⟨by omega, by omega, fun _ => ⟨by omega, by omega⟩, fun _ => w9.mp (by omega)⟩ | exact Or.inr ⟨by omega, fun hc => absurd (w9.mpr (hc.2.2 (by omega))) (by omega)⟩)), hI558, hF560, hR561⟩
                · refine r_const (i := 36) (u := 1) (z := 1) rfl rfl ?_
                  refine r_goto (i := 37) (v := 39) rfl ?_
                  refine r_store (i := 39) (u := 5) (w := 0) (L1 := [some ((2, 43)), some (vi w0), some (vl v), none, some (vi 1), some (vi 1)]) rfl rfl rfl rfl ?_
                  refine r_load (i := 40) (u := 0) (w := 2) rfl rfl rfl ?_
                  refine r_load (i := 41) (u := 5) (w := 0) rfl rfl rfl ?_
                  refine z_eq (i := 42) (v := 45) rfl ⟨by omega, by omega⟩ (fun h566 => absurd h566 (by omega)) (fun h567 => ?_)
                  refine r_const (i := 43) (u := 0) (z := 0) rfl rfl ?_
                  refine r_goto (i := 44) (v := 46) rfl ?_
                  refine r_putI (i := 46) (v := 0) (w := 11) rfl ly43 rfl ⟨by omega, by omega⟩ ?_
                  have hI569 := hI548.setf (b := 43) (w := 0) (z := 0) tf43_0 rfl (by omega) (by omega)
                  have hF571 := hF551.setf (b := 43) (w := 0) (z := 0) rfl
                  have hR572 := hR552.setf (b := 43) (w := 0) (z := 0)
                  refine yT_gen (fun S568 hS570 => ?_)
                  rw [hS570] at hI569 hF571 hR572 
                  refine r_load (i := 47) (u := 5) (w := 0) rfl rfl rfl ?_
                  refine z_ne (i := 48) (v := 50) rfl ⟨by omega, by omega⟩ (fun h573 => ?_) (fun h574 => absurd h574 (by omega))
                  refine r_load (i := 50) (u := 0) (w := 2) rfl rfl rfl ?_
                  refine r_load (i := 51) (u := 1) (w := 0) rfl rfl rfl ?_
                  refine r_putI (i := 52) (v := 33) (w := 11) rfl ly43 rfl ⟨by omega, by omega⟩ ?_
                  have hF578 := hF571.setf (b := 43) (w := 33) (z := w0) rfl
                  have hR579 := hR572.setf (b := 43) (w := 33) (z := w0)
                  refine yT_gen (fun S575 hS577 => ?_)
                  rw [hS577] at hF578 hR579 
                  refine r_load (i := 53) (u := 0) (w := 2) rfl rfl rfl ?_
                  refine r_load (i := 54) (u := 1) (w := 0) rfl rfl rfl ?_
                  refine r_const (i := 55) (u := 1) (z := 1) rfl rfl ?_
                  refine c_ne (i := 56) (v := 61) rfl ⟨by omega, by omega⟩ ⟨by omega, by omega⟩ (fun h580 => ?_) (fun h581 => ?_)
                  · refine r_load (i := 61) (u := 1) (w := 0) rfl rfl rfl ?_
                    refine r_const (i := 62) (u := 3) (z := 3) rfl rfl ?_
                    refine c_ne (i := 63) (v := 68) rfl ⟨by omega, by omega⟩ ⟨by omega, by omega⟩ (fun h582 => ?_) (fun h583 => ?_)
                    · refine r_load (i := 68) (u := 2) (w := 1) rfl rfl rfl ?_
                      refine r_putL (i := 69) (v := 36) (w := 11) rfl ly43 rfl ⟨by omega, by omega⟩ ?_
                      have hI585 := hI569.set43 (z := w0) (y := v) (by omega) (by omega) (by omega)
                      rw [hS577] at hI585
                      have hF587 := hF578.setf (b := 43) (w := 36) (z := v) rfl
                      have hR588 := hR579.setf (b := 43) (w := 36) (z := v)
                      refine yT_gen (fun S584 hS586 => ?_)
                      rw [hS586] at hI585 hF587 hR588 
                      have h589 := hI585.f tf43_0
                      have h590 : S584.f 43 0 = S575.f 43 0 := by rw [← hS586]; exact ysf_ne (by decide)
                      have h591 : S575.f 43 0 = S568.f 43 0 := by rw [← hS577]; exact ysf_ne (by decide)
                      have h592 : S568.f 43 0 = 0 := by rw [← hS570]; exact ysf_eq
                      exact r_ret0 (i := 70) rfl ⟨rfl, (by first | (exfalso; omega) | (intro hf9; have sg9 : ysg v = v := (by omega); have w9 := um547 hf9 (by omega) (by omega) (by omega); rw [sg9] at w9; first | exact Or.inl ⟨by omega, by omega, fun _ => ⟨by omega, by omega⟩, fun _ => w9.mp (by omega)⟩ | exact Or.inr ⟨by omega, fun hc => absurd (w9.mpr (hc.2.2 (by omega))) (by omega)⟩)), hI585, hF587, hR588⟩
                    · refine r_load (i := 64) (u := 2) (w := 1) rfl rfl rfl ?_
                      refine r_lconst (i := 65) (u := 1) (z := 1) rfl rfl ?_
                      refine r_land (i := 66) rfl ?_
                      have h593 := @yland_c v 1 (by decide) (by decide)
                      refine r_goto (i := 67) (v := 69) rfl ?_
                      refine r_putL (i := 69) (v := 36) (w := 11) rfl ly43 rfl ⟨by omega, by omega⟩ ?_
                      have hI595 := hI569.set43 (z := w0) (y := yland v 1) (by omega) (by omega) (by omega)
                      rw [hS577] at hI595
                      have hF597 := hF578.setf (b := 43) (w := 36) (z := yland v 1) rfl
                      have hR598 := hR579.setf (b := 43) (w := 36) (z := yland v 1)
                      refine yT_gen (fun S594 hS596 => ?_)
                      rw [hS596] at hI595 hF597 hR598 
                      have h599 := hI595.f tf43_0
                      have h600 : S594.f 43 0 = S575.f 43 0 := by rw [← hS596]; exact ysf_ne (by decide)
                      have h601 : S575.f 43 0 = S568.f 43 0 := by rw [← hS577]; exact ysf_ne (by decide)
                      have h602 : S568.f 43 0 = 0 := by rw [← hS570]; exact ysf_eq
                      exact r_ret0 (i := 70) rfl ⟨rfl, (by first | (exfalso; omega) | (intro hf9; have sg9 : ysg v = v := (by omega); have w9 := um547 hf9 (by omega) (by omega) (by omega); rw [sg9] at w9; first | exact Or.inl ⟨by omega, by omega, fun _ => ⟨by omega, by omega⟩, fun _ => w9.mp (by omega)⟩ | exact Or.inr ⟨by omega, fun hc => absurd (w9.mpr (hc.2.2 (by omega))) (by omega)⟩)), hI595, hF597, hR598⟩
                  · refine r_load (i := 57) (u := 2) (w := 1) rfl rfl rfl ?_
                    refine r_l2i (i := 58) rfl ?_
                    rw [vi_sg v]
                    have h603 := ysg_fact v
                    refine r_i2l (i := 59) rfl ⟨by omega, by omega⟩ ?_
                    refine r_goto (i := 60) (v := 69) rfl ?_
                    refine r_putL (i := 69) (v := 36) (w := 11) rfl ly43 rfl ⟨by omega, by omega⟩ ?_
                    have hI605 := hI569.set43 (z := w0) (y := ysg v) (by omega) (by omega) (by omega)
                    rw [hS577] at hI605
                    have hF607 := hF578.setf (b := 43) (w := 36) (z := ysg v) rfl
                    have hR608 := hR579.setf (b := 43) (w := 36) (z := ysg v)
                    refine yT_gen (fun S604 hS606 => ?_)
                    rw [hS606] at hI605 hF607 hR608 
                    have h609 := hI605.f tf43_0
                    have h610 : S604.f 43 0 = S575.f 43 0 := by rw [← hS606]; exact ysf_ne (by decide)
                    have h611 : S575.f 43 0 = S568.f 43 0 := by rw [← hS577]; exact ysf_ne (by decide)
                    have h612 : S568.f 43 0 = 0 := by rw [← hS570]; exact ysf_eq
                    exact r_ret0 (i := 70) rfl ⟨rfl, (by first | (exfalso; omega) | (intro hf9; have sg9 : ysg v = v := (by omega); have w9 := um547 hf9 (by omega) (by omega) (by omega); rw [sg9] at w9; first | exact Or.inl ⟨by omega, by omega, fun _ => ⟨by omega, by omega⟩, fun _ => w9.mp (by omega)⟩ | exact Or.inr ⟨by omega, fun hc => absurd (w9.mpr (hc.2.2 (by omega))) (by omega)⟩)), hI605, hF607, hR608⟩
            · refine z_ge (i := 26) (v := 38) rfl ⟨by omega, by omega⟩ (fun h613 => ?_) (fun h614 => absurd h614 (by omega))
              refine r_const (i := 38) (u := 0) (z := 0) rfl rfl ?_
              refine r_store (i := 39) (u := 5) (w := 0) (L1 := [some ((2, 43)), some (vi w0), some (vl v), none, some (vi 1), some (vi 0)]) rfl rfl rfl rfl ?_
              refine r_load (i := 40) (u := 0) (w := 2) rfl rfl rfl ?_
              refine r_load (i := 41) (u := 5) (w := 0) rfl rfl rfl ?_
              refine z_eq (i := 42) (v := 45) rfl ⟨by omega, by omega⟩ (fun h615 => ?_) (fun h616 => absurd h616 (by omega))
              refine r_const (i := 45) (u := 1) (z := 1) rfl rfl ?_
              refine r_putI (i := 46) (v := 0) (w := 11) rfl ly43 rfl ⟨by omega, by omega⟩ ?_
              have hI618 := hI.setf (b := 43) (w := 0) (z := 1) tf43_0 rfl (by omega) (by omega)
              have hF620 := hF.setf (b := 43) (w := 0) (z := 1) rfl
              have hR621 := hR.setf (b := 43) (w := 0) (z := 1)
              refine yT_gen (fun S617 hS619 => ?_)
              rw [hS619] at hI618 hF620 hR621 
              refine r_load (i := 47) (u := 5) (w := 0) rfl rfl rfl ?_
              refine z_ne (i := 48) (v := 50) rfl ⟨by omega, by omega⟩ (fun h622 => absurd h622 (by omega)) (fun h623 => ?_)
              have h624 := hI618.f tf43_0
              have h625 : S617.f 43 0 = 1 := by rw [← hS619]; exact ysf_eq
              exact r_ret0 (i := 49) rfl ⟨rfl, (by first | (exfalso; omega) | exact fun hf9 => Or.inl ⟨by omega, by omega, fun q9 => ⟨by omega, by omega⟩, fun q9 => absurd q9 (by omega)⟩ | exact fun hf9 => Or.inr ⟨by omega, fun hc => by obtain ⟨c1, c2, -⟩ := hc; omega⟩), hI618, hF620, hR621⟩
            · refine z_ge (i := 26) (v := 38) rfl ⟨by omega, by omega⟩ (fun h626 => ?_) (fun h627 => absurd h627 (by omega))
              refine r_const (i := 38) (u := 0) (z := 0) rfl rfl ?_
              refine r_store (i := 39) (u := 5) (w := 0) (L1 := [some ((2, 43)), some (vi w0), some (vl v), none, some (vi 1), some (vi 0)]) rfl rfl rfl rfl ?_
              refine r_load (i := 40) (u := 0) (w := 2) rfl rfl rfl ?_
              refine r_load (i := 41) (u := 5) (w := 0) rfl rfl rfl ?_
              refine z_eq (i := 42) (v := 45) rfl ⟨by omega, by omega⟩ (fun h628 => ?_) (fun h629 => absurd h629 (by omega))
              refine r_const (i := 45) (u := 1) (z := 1) rfl rfl ?_
              refine r_putI (i := 46) (v := 0) (w := 11) rfl ly43 rfl ⟨by omega, by omega⟩ ?_
              have hI631 := hI.setf (b := 43) (w := 0) (z := 1) tf43_0 rfl (by omega) (by omega)
              have hF633 := hF.setf (b := 43) (w := 0) (z := 1) rfl
              have hR634 := hR.setf (b := 43) (w := 0) (z := 1)
              refine yT_gen (fun S630 hS632 => ?_)
              rw [hS632] at hI631 hF633 hR634 
              refine r_load (i := 47) (u := 5) (w := 0) rfl rfl rfl ?_
              refine z_ne (i := 48) (v := 50) rfl ⟨by omega, by omega⟩ (fun h635 => absurd h635 (by omega)) (fun h636 => ?_)
              have h637 := hI631.f tf43_0
              have h638 : S630.f 43 0 = 1 := by rw [← hS632]; exact ysf_eq
              exact r_ret0 (i := 49) rfl ⟨rfl, (by first | (exfalso; omega) | exact fun hf9 => Or.inl ⟨by omega, by omega, fun q9 => ⟨by omega, by omega⟩, fun q9 => absurd q9 (by omega)⟩ | exact fun hf9 => Or.inr ⟨by omega, fun hc => by obtain ⟨c1, c2, -⟩ := hc; omega⟩), hI631, hF633, hR634⟩
          · refine z_lt (i := 20) (v := 38) rfl ⟨by omega, by omega⟩ (fun h639 => absurd h639 (by omega)) (fun h640 => ?_)
            refine r_load (i := 21) (u := 2) (w := 1) rfl rfl rfl ?_
            refine r_load (i := 22) (u := 0) (w := 2) rfl rfl rfl ?_
            have h641 := hI.f tf43_1
            refine r_getf (i := 23) (v := 1) (w := 11) (x := vi (S.f 43 1)) rfl ly43 rfl rfl fun h642 => ?_
            have h642 : Rg (S.f 43 1) := h642
            refine r_i2l (i := 24) rfl ⟨by omega, by omega⟩ ?_
            refine r_lcmp (i := 25) rfl ⟨by omega, by omega⟩ ⟨by omega, by omega⟩ (fun h643 => ?_) (fun h644 => ?_) (fun h645 => ?_)
            · refine z_ge (i := 26) (v := 38) rfl ⟨by omega, by omega⟩ (fun h646 => absurd h646 (by omega)) (fun h647 => ?_)
              refine r_load (i := 27) (u := 1) (w := 0) rfl rfl rfl ?_
              refine r_const (i := 28) (u := 4) (z := 4) rfl rfl ?_
              refine c_eq (i := 29) (v := 36) rfl ⟨by omega, by omega⟩ ⟨by omega, by omega⟩ (fun h648 => ?_) (fun h649 => ?_)
              · refine r_const (i := 36) (u := 1) (z := 1) rfl rfl ?_
                refine r_goto (i := 37) (v := 39) rfl ?_
                refine r_store (i := 39) (u := 5) (w := 0) (L1 := [some ((2, 43)), some (vi w0), some (vl v), none, some (vi 1), some (vi 1)]) rfl rfl rfl rfl ?_
                refine r_load (i := 40) (u := 0) (w := 2) rfl rfl rfl ?_
                refine r_load (i := 41) (u := 5) (w := 0) rfl rfl rfl ?_
                refine z_eq (i := 42) (v := 45) rfl ⟨by omega, by omega⟩ (fun h650 => absurd h650 (by omega)) (fun h651 => ?_)
                refine r_const (i := 43) (u := 0) (z := 0) rfl rfl ?_
                refine r_goto (i := 44) (v := 46) rfl ?_
                refine r_putI (i := 46) (v := 0) (w := 11) rfl ly43 rfl ⟨by omega, by omega⟩ ?_
                have hI653 := hI.setf (b := 43) (w := 0) (z := 0) tf43_0 rfl (by omega) (by omega)
                have hF655 := hF.setf (b := 43) (w := 0) (z := 0) rfl
                have hR656 := hR.setf (b := 43) (w := 0) (z := 0)
                refine yT_gen (fun S652 hS654 => ?_)
                rw [hS654] at hI653 hF655 hR656 
                refine r_load (i := 47) (u := 5) (w := 0) rfl rfl rfl ?_
                refine z_ne (i := 48) (v := 50) rfl ⟨by omega, by omega⟩ (fun h657 => ?_) (fun h658 => absurd h658 (by omega))
                refine r_load (i := 50) (u := 0) (w := 2) rfl rfl rfl ?_
                refine r_load (i := 51) (u := 1) (w := 0) rfl rfl rfl ?_
                refine r_putI (i := 52) (v := 33) (w := 11) rfl ly43 rfl ⟨by omega, by omega⟩ ?_
                have hF662 := hF655.setf (b := 43) (w := 33) (z := w0) rfl
                have hR663 := hR656.setf (b := 43) (w := 33) (z := w0)
                refine yT_gen (fun S659 hS661 => ?_)
                rw [hS661] at hF662 hR663 
                refine r_load (i := 53) (u := 0) (w := 2) rfl rfl rfl ?_
                refine r_load (i := 54) (u := 1) (w := 0) rfl rfl rfl ?_
                refine r_const (i := 55) (u := 1) (z := 1) rfl rfl ?_
                refine c_ne (i := 56) (v := 61) rfl ⟨by omega, by omega⟩ ⟨by omega, by omega⟩ (fun h664 => ?_) (fun h665 => ?_)
                · refine r_load (i := 61) (u := 1) (w := 0) rfl rfl rfl ?_
                  refine r_const (i := 62) (u := 3) (z := 3) rfl rfl ?_
                  refine c_ne (i := 63) (v := 68) rfl ⟨by omega, by omega⟩ ⟨by omega, by omega⟩ (fun h666 => ?_) (fun h667 => ?_)
                  · refine r_load (i := 68) (u := 2) (w := 1) rfl rfl rfl ?_
                    refine r_putL (i := 69) (v := 36) (w := 11) rfl ly43 rfl ⟨by omega, by omega⟩ ?_
                    have hI669 := hI653.set43 (z := w0) (y := v) (by omega) (by omega) (by omega)
                    rw [hS661] at hI669
                    have hF671 := hF662.setf (b := 43) (w := 36) (z := v) rfl
                    have hR672 := hR663.setf (b := 43) (w := 36) (z := v)
                    refine yT_gen (fun S668 hS670 => ?_)
                    rw [hS670] at hI669 hF671 hR672 
                    have h673 := hI669.f tf43_0
                    have h674 : S668.f 43 0 = S659.f 43 0 := by rw [← hS670]; exact ysf_ne (by decide)
                    have h675 : S659.f 43 0 = S652.f 43 0 := by rw [← hS661]; exact ysf_ne (by decide)
                    have h676 : S652.f 43 0 = 0 := by rw [← hS654]; exact ysf_eq
                    exact r_ret0 (i := 70) rfl ⟨rfl, (by first | (exfalso; omega) | exact fun hf9 => Or.inl ⟨by omega, by omega, fun q9 => ⟨by omega, by omega⟩, fun q9 => absurd q9 (by omega)⟩ | exact fun hf9 => Or.inr ⟨by omega, fun hc => by obtain ⟨c1, c2, -⟩ := hc; omega⟩), hI669, hF671, hR672⟩
                  · refine r_load (i := 64) (u := 2) (w := 1) rfl rfl rfl ?_
                    refine r_lconst (i := 65) (u := 1) (z := 1) rfl rfl ?_
                    refine r_land (i := 66) rfl ?_
                    have h677 := @yland_c v 1 (by decide) (by decide)
                    refine r_goto (i := 67) (v := 69) rfl ?_
                    refine r_putL (i := 69) (v := 36) (w := 11) rfl ly43 rfl ⟨by omega, by omega⟩ ?_
                    have hI679 := hI653.set43 (z := w0) (y := yland v 1) (by omega) (by omega) (by omega)
                    rw [hS661] at hI679
                    have hF681 := hF662.setf (b := 43) (w := 36) (z := yland v 1) rfl
                    have hR682 := hR663.setf (b := 43) (w := 36) (z := yland v 1)
                    refine yT_gen (fun S678 hS680 => ?_)
                    rw [hS680] at hI679 hF681 hR682 
                    have h683 := hI679.f tf43_0
                    have h684 : S678.f 43 0 = S659.f 43 0 := by rw [← hS680]; exact ysf_ne (by decide)
                    have h685 : S659.f 43 0 = S652.f 43 0 := by rw [← hS661]; exact ysf_ne (by decide)
                    have h686 : S652.f 43 0 = 0 := by rw [← hS654]; exact ysf_eq
                    exact r_ret0 (i := 70) rfl ⟨rfl, (by first | (exfalso; omega) | exact fun hf9 => Or.inl ⟨by omega, by omega, fun q9 => ⟨by omega, by omega⟩, fun q9 => absurd q9 (by omega)⟩ | exact fun hf9 => Or.inr ⟨by omega, fun hc => by obtain ⟨c1, c2, -⟩ := hc; omega⟩), hI679, hF681, hR682⟩
                · refine r_load (i := 57) (u := 2) (w := 1) rfl rfl rfl ?_
                  refine r_l2i (i := 58) rfl ?_
                  rw [vi_sg v]
                  have h687 := ysg_fact v
                  refine r_i2l (i := 59) rfl ⟨by omega, by omega⟩ ?_
                  refine r_goto (i := 60) (v := 69) rfl ?_
                  refine r_putL (i := 69) (v := 36) (w := 11) rfl ly43 rfl ⟨by omega, by omega⟩ ?_
                  have hI689 := hI653.set43 (z := w0) (y := ysg v) (by omega) (by omega) (by omega)
                  rw [hS661] at hI689
                  have hF691 := hF662.setf (b := 43) (w := 36) (z := ysg v) rfl
                  have hR692 := hR663.setf (b := 43) (w := 36) (z := ysg v)
                  refine yT_gen (fun S688 hS690 => ?_)
                  rw [hS690] at hI689 hF691 hR692 
                  have h693 := hI689.f tf43_0
                  have h694 : S688.f 43 0 = S659.f 43 0 := by rw [← hS690]; exact ysf_ne (by decide)
                  have h695 : S659.f 43 0 = S652.f 43 0 := by rw [← hS661]; exact ysf_ne (by decide)
                  have h696 : S652.f 43 0 = 0 := by rw [← hS654]; exact ysf_eq
                  exact r_ret0 (i := 70) rfl ⟨rfl, (by first | (exfalso; omega) | exact fun hf9 => Or.inl ⟨by omega, by omega, fun q9 => ⟨by omega, by omega⟩, fun q9 => absurd q9 (by omega)⟩ | exact fun hf9 => Or.inr ⟨by omega, fun hc => by obtain ⟨c1, c2, -⟩ := hc; omega⟩), hI689, hF691, hR692⟩
              · refine r_load (i := 30) (u := 0) (w := 2) rfl rfl rfl ?_
                refine r_load (i := 31) (u := 2) (w := 1) rfl rfl rfl ?_
                refine r_l2i (i := 32) rfl ?_
                rw [vi_sg v]
                have h697 := ysg_fact v
                refine r_const (i := 33) (u := 1) (z := 1) rfl rfl ?_
                refine r_call (i := 34) (u := 11) (v := 262) (w := 0) (b := 0) (na := 1795) (C2 := xC262) (as := [(2, 43), vi (ysg v), vi 1]) (s := []) rfl rfl rfl rfl rfl rfl rfl (sp262 (t := ysg v) (o := 1) hI ⟨by omega, by omega⟩ ⟨by omega, by omega⟩   (by omega)) (fun r698 S699 hq700 => ?_)
                obtain ⟨z701, rfl, h702, h703, um704, hI705, hF706, hR707⟩ := hq700
                have hF708 := hF.trans hF706 rfl rfl
                have hR709 := hR.trans hR707 rfl
                refine Or.inr (Or.inl ⟨rfl, ?_⟩)
                refine z_eq (i := 35) (v := 38) rfl ⟨by omega, by omega⟩ (fun h710 => ?_) (fun h711 => ?_)
                · refine r_const (i := 38) (u := 0) (z := 0) rfl rfl ?_
                  refine r_store (i := 39) (u := 5) (w := 0) (L1 := [some ((2, 43)), some (vi w0), some (vl v), none, some (vi 1), some (vi 0)]) rfl rfl rfl rfl ?_
                  refine r_load (i := 40) (u := 0) (w := 2) rfl rfl rfl ?_
                  refine r_load (i := 41) (u := 5) (w := 0) rfl rfl rfl ?_
                  refine z_eq (i := 42) (v := 45) rfl ⟨by omega, by omega⟩ (fun h712 => ?_) (fun h713 => absurd h713 (by omega))
                  refine r_const (i := 45) (u := 1) (z := 1) rfl rfl ?_
                  refine r_putI (i := 46) (v := 0) (w := 11) rfl ly43 rfl ⟨by omega, by omega⟩ ?_
                  have hI715 := hI705.setf (b := 43) (w := 0) (z := 1) tf43_0 rfl (by omega) (by omega)
                  have hF717 := hF708.setf (b := 43) (w := 0) (z := 1) rfl
                  have hR718 := hR709.setf (b := 43) (w := 0) (z := 1)
                  refine yT_gen (fun S714 hS716 => ?_)
                  rw [hS716] at hI715 hF717 hR718 
                  refine r_load (i := 47) (u := 5) (w := 0) rfl rfl rfl ?_
                  refine z_ne (i := 48) (v := 50) rfl ⟨by omega, by omega⟩ (fun h719 => absurd h719 (by omega)) (fun h720 => ?_)
                  have h721 := hI715.f tf43_0
                  have h722 : S714.f 43 0 = 1 := by rw [← hS716]; exact ysf_eq
                  exact r_ret0 (i := 49) rfl ⟨rfl, (by first | (exfalso; omega) | (intro hf9; have sg9 : ysg v = v := (by omega); have w9 := um704 hf9 (by omega) (by omega) (by omega); rw [sg9] at w9; first | exact Or.inl ⟨by omega, by omega, fun _ => ⟨by omega, by omega⟩, fun _ => w9.mp (by omega)⟩ | exact Or.inr ⟨by omega, fun hc => absurd (w9.mpr (hc.2.2 (by omega))) (by omega)⟩)), hI715, hF717, hR718⟩
                · refine r_const (i := 36) (u := 1) (z := 1) rfl rfl ?_
                  refine r_goto (i := 37) (v := 39) rfl ?_
                  refine r_store (i := 39) (u := 5) (w := 0) (L1 := [some ((2, 43)), some (vi w0), some (vl v), none, some (vi 1), some (vi 1)]) rfl rfl rfl rfl ?_
                  refine r_load (i := 40) (u := 0) (w := 2) rfl rfl rfl ?_
                  refine r_load (i := 41) (u := 5) (w := 0) rfl rfl rfl ?_
                  refine z_eq (i := 42) (v := 45) rfl ⟨by omega, by omega⟩ (fun h723 => absurd h723 (by omega)) (fun h724 => ?_)
                  refine r_const (i := 43) (u := 0) (z := 0) rfl rfl ?_
                  refine r_goto (i := 44) (v := 46) rfl ?_
                  refine r_putI (i := 46) (v := 0) (w := 11) rfl ly43 rfl ⟨by omega, by omega⟩ ?_
                  have hI726 := hI705.setf (b := 43) (w := 0) (z := 0) tf43_0 rfl (by omega) (by omega)
                  have hF728 := hF708.setf (b := 43) (w := 0) (z := 0) rfl
                  have hR729 := hR709.setf (b := 43) (w := 0) (z := 0)
                  refine yT_gen (fun S725 hS727 => ?_)
                  rw [hS727] at hI726 hF728 hR729 
                  refine r_load (i := 47) (u := 5) (w := 0) rfl rfl rfl ?_
                  refine z_ne (i := 48) (v := 50) rfl ⟨by omega, by omega⟩ (fun h730 => ?_) (fun h731 => absurd h731 (by omega))
                  refine r_load (i := 50) (u := 0) (w := 2) rfl rfl rfl ?_
                  refine r_load (i := 51) (u := 1) (w := 0) rfl rfl rfl ?_
                  refine r_putI (i := 52) (v := 33) (w := 11) rfl ly43 rfl ⟨by omega, by omega⟩ ?_
                  have hF735 := hF728.setf (b := 43) (w := 33) (z := w0) rfl
                  have hR736 := hR729.setf (b := 43) (w := 33) (z := w0)
                  refine yT_gen (fun S732 hS734 => ?_)
                  rw [hS734] at hF735 hR736 
                  refine r_load (i := 53) (u := 0) (w := 2) rfl rfl rfl ?_
                  refine r_load (i := 54) (u := 1) (w := 0) rfl rfl rfl ?_
                  refine r_const (i := 55) (u := 1) (z := 1) rfl rfl ?_
                  refine c_ne (i := 56) (v := 61) rfl ⟨by omega, by omega⟩ ⟨by omega, by omega⟩ (fun h737 => ?_) (fun h738 => ?_)
                  · refine r_load (i := 61) (u := 1) (w := 0) rfl rfl rfl ?_
                    refine r_const (i := 62) (u := 3) (z := 3) rfl rfl ?_
                    refine c_ne (i := 63) (v := 68) rfl ⟨by omega, by omega⟩ ⟨by omega, by omega⟩ (fun h739 => ?_) (fun h740 => ?_)
                    · refine r_load (i := 68) (u := 2) (w := 1) rfl rfl rfl ?_
                      refine r_putL (i := 69) (v := 36) (w := 11) rfl ly43 rfl ⟨by omega, by omega⟩ ?_
                      have hI742 := hI726.set43 (z := w0) (y := v) (by omega) (by omega) (by omega)
                      rw [hS734] at hI742
                      have hF744 := hF735.setf (b := 43) (w := 36) (z := v) rfl
                      have hR745 := hR736.setf (b := 43) (w := 36) (z := v)
                      refine yT_gen (fun S741 hS743 => ?_)
                      rw [hS743] at hI742 hF744 hR745 
                      have h746 := hI742.f tf43_0
                      have h747 : S741.f 43 0 = S732.f 43 0 := by rw [← hS743]; exact ysf_ne (by decide)
                      have h748 : S732.f 43 0 = S725.f 43 0 := by rw [← hS734]; exact ysf_ne (by decide)
                      have h749 : S725.f 43 0 = 0 := by rw [← hS727]; exact ysf_eq
                      exact r_ret0 (i := 70) rfl ⟨rfl, (by first | (exfalso; omega) | (intro hf9; have sg9 : ysg v = v := (by omega); have w9 := um704 hf9 (by omega) (by omega) (by omega); rw [sg9] at w9; first | exact Or.inl ⟨by omega, by omega, fun _ => ⟨by omega, by omega⟩, fun _ => w9.mp (by omega)⟩ | exact Or.inr ⟨by omega, fun hc => absurd (w9.mpr (hc.2.2 (by omega))) (by omega)⟩)), hI742, hF744, hR745⟩
                    · refine r_load (i := 64) (u := 2) (w := 1) rfl rfl rfl ?_
                      refine r_lconst (i := 65) (u := 1) (z := 1) rfl rfl ?_
                      refine r_land (i := 66) rfl ?_
                      have h750 := @yland_c v 1 (by decide) (by decide)
                      refine r_goto (i := 67) (v := 69) rfl ?_
                      refine r_putL (i := 69) (v := 36) (w := 11) rfl ly43 rfl ⟨by omega, by omega⟩ ?_
                      have hI752 := hI726.set43 (z := w0) (y := yland v 1) (by omega) (by omega) (by omega)
                      rw [hS734] at hI752
                      have hF754 := hF735.setf (b := 43) (w := 36) (z := yland v 1) rfl
                      have hR755 := hR736.setf (b := 43) (w := 36) (z := yland v 1)
                      refine yT_gen (fun S751 hS753 => ?_)
                      rw [hS753] at hI752 hF754 hR755 
                      have h756 := hI752.f tf43_0
                      have h757 : S751.f 43 0 = S732.f 43 0 := by rw [← hS753]; exact ysf_ne (by decide)
                      have h758 : S732.f 43 0 = S725.f 43 0 := by rw [← hS734]; exact ysf_ne (by decide)
                      have h759 : S725.f 43 0 = 0 := by rw [← hS727]; exact ysf_eq
                      exact r_ret0 (i := 70) rfl ⟨rfl, (by first | (exfalso; omega) | (intro hf9; have sg9 : ysg v = v := (by omega); have w9 := um704 hf9 (by omega) (by omega) (by omega); rw [sg9] at w9; first | exact Or.inl ⟨by omega, by omega, fun _ => ⟨by omega, by omega⟩, fun _ => w9.mp (by omega)⟩ | exact Or.inr ⟨by omega, fun hc => absurd (w9.mpr (hc.2.2 (by omega))) (by omega)⟩)), hI752, hF754, hR755⟩
                  · refine r_load (i := 57) (u := 2) (w := 1) rfl rfl rfl ?_
                    refine r_l2i (i := 58) rfl ?_
                    rw [vi_sg v]
                    have h760 := ysg_fact v
                    refine r_i2l (i := 59) rfl ⟨by omega, by omega⟩ ?_
                    refine r_goto (i := 60) (v := 69) rfl ?_
                    refine r_putL (i := 69) (v := 36) (w := 11) rfl ly43 rfl ⟨by omega, by omega⟩ ?_
                    have hI762 := hI726.set43 (z := w0) (y := ysg v) (by omega) (by omega) (by omega)
                    rw [hS734] at hI762
                    have hF764 := hF735.setf (b := 43) (w := 36) (z := ysg v) rfl
                    have hR765 := hR736.setf (b := 43) (w := 36) (z := ysg v)
                    refine yT_gen (fun S761 hS763 => ?_)
                    rw [hS763] at hI762 hF764 hR765 
                    have h766 := hI762.f tf43_0
                    have h767 : S761.f 43 0 = S732.f 43 0 := by rw [← hS763]; exact ysf_ne (by decide)
                    have h768 : S732.f 43 0 = S725.f 43 0 := by rw [← hS734]; exact ysf_ne (by decide)
                    have h769 : S725.f 43 0 = 0 := by rw [← hS727]; exact ysf_eq
                    exact r_ret0 (i := 70) rfl ⟨rfl, (by first | (exfalso; omega) | (intro hf9; have sg9 : ysg v = v := (by omega); have w9 := um704 hf9 (by omega) (by omega) (by omega); rw [sg9] at w9; first | exact Or.inl ⟨by omega, by omega, fun _ => ⟨by omega, by omega⟩, fun _ => w9.mp (by omega)⟩ | exact Or.inr ⟨by omega, fun hc => absurd (w9.mpr (hc.2.2 (by omega))) (by omega)⟩)), hI762, hF764, hR765⟩
            · refine z_ge (i := 26) (v := 38) rfl ⟨by omega, by omega⟩ (fun h770 => ?_) (fun h771 => absurd h771 (by omega))
              refine r_const (i := 38) (u := 0) (z := 0) rfl rfl ?_
              refine r_store (i := 39) (u := 5) (w := 0) (L1 := [some ((2, 43)), some (vi w0), some (vl v), none, some (vi 1), some (vi 0)]) rfl rfl rfl rfl ?_
              refine r_load (i := 40) (u := 0) (w := 2) rfl rfl rfl ?_
              refine r_load (i := 41) (u := 5) (w := 0) rfl rfl rfl ?_
              refine z_eq (i := 42) (v := 45) rfl ⟨by omega, by omega⟩ (fun h772 => ?_) (fun h773 => absurd h773 (by omega))
              refine r_const (i := 45) (u := 1) (z := 1) rfl rfl ?_
              refine r_putI (i := 46) (v := 0) (w := 11) rfl ly43 rfl ⟨by omega, by omega⟩ ?_
              have hI775 := hI.setf (b := 43) (w := 0) (z := 1) tf43_0 rfl (by omega) (by omega)
              have hF777 := hF.setf (b := 43) (w := 0) (z := 1) rfl
              have hR778 := hR.setf (b := 43) (w := 0) (z := 1)
              refine yT_gen (fun S774 hS776 => ?_)
              rw [hS776] at hI775 hF777 hR778 
              refine r_load (i := 47) (u := 5) (w := 0) rfl rfl rfl ?_
              refine z_ne (i := 48) (v := 50) rfl ⟨by omega, by omega⟩ (fun h779 => absurd h779 (by omega)) (fun h780 => ?_)
              have h781 := hI775.f tf43_0
              have h782 : S774.f 43 0 = 1 := by rw [← hS776]; exact ysf_eq
              exact r_ret0 (i := 49) rfl ⟨rfl, (by first | (exfalso; omega) | exact fun hf9 => Or.inl ⟨by omega, by omega, fun q9 => ⟨by omega, by omega⟩, fun q9 => absurd q9 (by omega)⟩ | exact fun hf9 => Or.inr ⟨by omega, fun hc => by obtain ⟨c1, c2, -⟩ := hc; omega⟩), hI775, hF777, hR778⟩
            · refine z_ge (i := 26) (v := 38) rfl ⟨by omega, by omega⟩ (fun h783 => ?_) (fun h784 => absurd h784 (by omega))
              refine r_const (i := 38) (u := 0) (z := 0) rfl rfl ?_
              refine r_store (i := 39) (u := 5) (w := 0) (L1 := [some ((2, 43)), some (vi w0), some (vl v), none, some (vi 1), some (vi 0)]) rfl rfl rfl rfl ?_
              refine r_load (i := 40) (u := 0) (w := 2) rfl rfl rfl ?_
              refine r_load (i := 41) (u := 5) (w := 0) rfl rfl rfl ?_
              refine z_eq (i := 42) (v := 45) rfl ⟨by omega, by omega⟩ (fun h785 => ?_) (fun h786 => absurd h786 (by omega))
              refine r_const (i := 45) (u := 1) (z := 1) rfl rfl ?_
              refine r_putI (i := 46) (v := 0) (w := 11) rfl ly43 rfl ⟨by omega, by omega⟩ ?_
              have hI788 := hI.setf (b := 43) (w := 0) (z := 1) tf43_0 rfl (by omega) (by omega)
              have hF790 := hF.setf (b := 43) (w := 0) (z := 1) rfl
              have hR791 := hR.setf (b := 43) (w := 0) (z := 1)
              refine yT_gen (fun S787 hS789 => ?_)
              rw [hS789] at hI788 hF790 hR791 
              refine r_load (i := 47) (u := 5) (w := 0) rfl rfl rfl ?_
              refine z_ne (i := 48) (v := 50) rfl ⟨by omega, by omega⟩ (fun h792 => absurd h792 (by omega)) (fun h793 => ?_)
              have h794 := hI788.f tf43_0
              have h795 : S787.f 43 0 = 1 := by rw [← hS789]; exact ysf_eq
              exact r_ret0 (i := 49) rfl ⟨rfl, (by first | (exfalso; omega) | exact fun hf9 => Or.inl ⟨by omega, by omega, fun q9 => ⟨by omega, by omega⟩, fun q9 => absurd q9 (by omega)⟩ | exact fun hf9 => Or.inr ⟨by omega, fun hc => by obtain ⟨c1, c2, -⟩ := hc; omega⟩), hI788, hF790, hR791⟩
theorem lp264_4 {G : xk} {d : Nat} {S : yS} (hI : yI S) {m : Int} (h_m : 0 ≤ m ∧ m ≤ 59) (hd : 2 ≤ d + 1) : ∀ (n : Nat), ∀ (n0 k : Int) (h_n0 : 0 ≤ n0 ∧ n0 ≤ 8) (h_k : 0 ≤ k ∧ k ≤ 4) (q_0 : n0 ≤ 2 * k) (hn : 4 - k < (n : Nat)), yT xPr G LY xC264 4 [some ((2, 43)), some (vi m), some (vi n0), some (vi k)] [] S (d + 1) (fun r S' => ∃ z : Int, r = (1, vi z) ∧ 0 ≤ z ∧ z ≤ 8 ∧ S = S') := by
  intro n
  induction n with
  | zero => intro n0 k h_n0 h_k q_0 hn; exact absurd hn (by omega)
  | succ n ih =>
    intro n0 k h_n0 h_k q_0 hn
    refine r_load (i := 4) (u := 3) (w := 0) rfl rfl rfl ?_
    refine r_load (i := 5) (u := 0) (w := 2) rfl rfl rfl ?_
    refine r_getf (i := 6) (v := 14) (w := 11) (x := (2, 55)) rfl ly43 rfl rfl fun _ => ?_
    refine r_load (i := 7) (u := 1) (w := 0) rfl rfl rfl ?_
    refine a_int (i := 8) rfl ly55 rfl (by omega) (by omega) fun h2 => ?_
    have h3 := hI.a ta55 m.toNat
    have kp4 := hI.k55 m.toNat
    refine r_call (i := 9) (u := 65535) (v := 216) (w := 0) (b := 2) (na := 513) (C2 := xC216) (as := [vi (S.a 55 m.toNat)]) (s := [vi k]) rfl rfl rfl rfl rfl rfl rfl (sp216 (a := S.a 55 m.toNat) hI ⟨by omega, by omega⟩   (by omega)) (fun r5 S6 hq7 => ?_)
    obtain ⟨z8, rfl, h9, h10, rfl⟩ := hq7
    refine Or.inr (Or.inl ⟨rfl, ?_⟩)
    refine c_ge (i := 10) (v := 23) rfl ⟨by omega, by omega⟩ ⟨by omega, by omega⟩ (fun h11 => ?_) (fun h12 => ?_)
    · refine r_load (i := 23) (u := 2) (w := 0) rfl rfl rfl ?_
      exact r_retI (i := 24) rfl ⟨n0, rfl, by omega, by omega, rfl⟩
    · refine r_load (i := 11) (u := 2) (w := 0) rfl rfl rfl ?_
      refine r_load (i := 12) (u := 0) (w := 2) rfl rfl rfl ?_
      refine r_getf (i := 13) (v := 14) (w := 11) (x := (2, 55)) rfl ly43 rfl rfl fun _ => ?_
      refine r_load (i := 14) (u := 1) (w := 0) rfl rfl rfl ?_
      refine a_int (i := 15) rfl ly55 rfl (by omega) (by omega) fun h14 => ?_
      have h15 := hI.a ta55 m.toNat
      have kp16 := hI.k55 m.toNat
      refine r_load (i := 16) (u := 3) (w := 0) rfl rfl rfl ?_
      refine r_call (i := 17) (u := 65535) (v := 229) (w := 0) (b := 2) (na := 514) (C2 := xC229) (as := [vi (S.a 55 m.toNat), vi k]) (s := [vi n0]) rfl rfl rfl rfl rfl rfl rfl (sp229 (a := S.a 55 m.toNat) (k := k) hI ⟨by omega, by omega⟩ ⟨by omega, by omega⟩   (by omega)) (fun r17 S18 hq19 => ?_)
      obtain ⟨z20, rfl, h21, h22, h23, rfl⟩ := hq19
      refine Or.inr (Or.inl ⟨rfl, ?_⟩)
      refine r_call (i := 18) (u := 65535) (v := 263) (w := 0) (b := 2) (na := 257) (C2 := xC263) (as := [vi z20]) (s := [vi n0]) rfl rfl rfl rfl rfl rfl rfl (sp263 (k := z20) hI ⟨by omega, by omega⟩   (by omega)) (fun r24 S25 hq26 => ?_)
      obtain ⟨z27, rfl, h28, h29, rfl⟩ := hq26
      refine Or.inr (Or.inl ⟨rfl, ?_⟩)
      refine r_iadd (i := 19) rfl ?_
      refine r_store (i := 20) (u := 2) (w := 0) (L1 := [some ((2, 43)), some (vi m), some (vi (n0 + z27)), some (vi k)]) rfl rfl rfl rfl ?_
      refine r_iinc (i := 21) (u := 1) (v := 3) (s := 1) (L1 := [some ((2, 43)), some (vi m), some (vi (n0 + z27)), some (vi (k + 1))]) rfl rfl rfl rfl rfl ?_
      refine r_goto (i := 22) (v := 4) rfl ?_
      exact ih (n0 + z27) (k + 1) ⟨by omega, by omega⟩ ⟨by omega, by omega⟩ (by omega) (by omega)
/-- ProxyForgeModel.wideAll -/
theorem sp264 {G : xk} {S : yS} {d : Nat} (hI : yI S) {m : Int} (h_m : 0 ≤ m ∧ m ≤ 59) (hd : 2 ≤ d) : yT xPr G LY xC264 0 [some ((2, 43)), some (vi m)] [] S d (fun r S' => ∃ z : Int, r = (1, vi z) ∧ 0 ≤ z ∧ z ≤ 8 ∧ S = S') := by
  refine yT_pad 2 ?_
  show yT xPr G LY xC264 0 [some ((2, 43)), some (vi m), none, none] [] S d _
  obtain ⟨d, rfl⟩ : ∃ q, d = q + 1 := ⟨d - 1, by omega⟩
  refine r_const (i := 0) (u := 0) (z := 0) rfl rfl ?_
  refine r_store (i := 1) (u := 2) (w := 0) (L1 := [some ((2, 43)), some (vi m), some (vi 0), none]) rfl rfl rfl rfl ?_
  refine r_const (i := 2) (u := 0) (z := 0) rfl rfl ?_
  refine r_store (i := 3) (u := 3) (w := 0) (L1 := [some ((2, 43)), some (vi m), some (vi 0), some (vi 0)]) rfl rfl rfl rfl ?_
  exact lp264_4 hI h_m   hd _ 0 0 ⟨by omega, by omega⟩ ⟨by omega, by omega⟩ (by omega) (Int.lt_succ_toNat _)
theorem lp257_4 {G : xk} {d : Nat} {S : yS} (hI : yI S) {k : Int} (h_k : 0 ≤ k ∧ k ≤ 23) (hd : 0 ≤ d) : ∀ (n : Nat), ∀ (g0 j : Int) (h_g0 : 0 ≤ g0 ∧ g0 ≤ 1) (h_j : 0 ≤ j ∧ j ≤ 3) (hn : 3 - j < (n : Nat)), yT xPr G LY xC257 4 [some ((2, 43)), some (vi k), some (vi g0), some (vi j)] [] S d (fun r S' => ∃ z : Int, r = (1, vi z) ∧ 0 ≤ z ∧ z ≤ 1 ∧ S = S') := by
  intro n
  induction n with
  | zero => intro g0 j h_g0 h_j hn; exact absurd hn (by omega)
  | succ n ih =>
    intro g0 j h_g0 h_j hn
    refine r_load (i := 4) (u := 3) (w := 0) rfl rfl rfl ?_
    refine r_load (i := 5) (u := 0) (w := 2) rfl rfl rfl ?_
    refine r_getf (i := 6) (v := 26) (w := 11) (x := (2, 63)) rfl ly43 rfl rfl fun _ => ?_
    refine r_load (i := 7) (u := 1) (w := 0) rfl rfl rfl ?_
    refine a_int (i := 8) rfl ly63 rfl (by omega) (by omega) fun h2 => ?_
    have h3 := hI.a ta63 k.toNat
    refine c_ge (i := 9) (v := 28) rfl ⟨by omega, by omega⟩ ⟨by omega, by omega⟩ (fun h4 => ?_) (fun h5 => ?_)
    · refine r_load (i := 28) (u := 2) (w := 0) rfl rfl rfl ?_
      exact r_retZ (i := 29) rfl (by omega) (by omega) ⟨g0, rfl, by omega, by omega, rfl⟩
    · refine r_load (i := 10) (u := 2) (w := 0) rfl rfl rfl ?_
      refine z_ne (i := 11) (v := 22) rfl ⟨by omega, by omega⟩ (fun h6 => ?_) (fun h7 => ?_)
      · refine r_const (i := 22) (u := 1) (z := 1) rfl rfl ?_
        refine r_goto (i := 23) (v := 25) rfl ?_
        refine r_store (i := 25) (u := 2) (w := 0) (L1 := [some ((2, 43)), some (vi k), some (vi 1), some (vi j)]) rfl rfl rfl rfl ?_
        refine r_iinc (i := 26) (u := 1) (v := 3) (s := 1) (L1 := [some ((2, 43)), some (vi k), some (vi 1), some (vi (j + 1))]) rfl rfl rfl rfl rfl ?_
        refine r_goto (i := 27) (v := 4) rfl ?_
        exact ih 1 (j + 1) ⟨by omega, by omega⟩ ⟨by omega, by omega⟩  (by omega)
      · refine r_load (i := 12) (u := 0) (w := 2) rfl rfl rfl ?_
        refine r_getf (i := 13) (v := 25) (w := 11) (x := (2, 62)) rfl ly43 rfl rfl fun _ => ?_
        refine r_const (i := 14) (u := 3) (z := 3) rfl rfl ?_
        refine r_load (i := 15) (u := 1) (w := 0) rfl rfl rfl ?_
        refine r_imul (i := 16) rfl ?_
        refine r_load (i := 17) (u := 3) (w := 0) rfl rfl rfl ?_
        refine r_iadd (i := 18) rfl ?_
        refine a_int (i := 19) rfl ly62 rfl (by omega) (by omega) fun h9 => ?_
        have h10 := hI.a ta62 ((3 * k) + j).toNat
        refine r_const (i := 20) (u := 1) (z := 1) rfl rfl ?_
        refine c_ne (i := 21) (v := 24) rfl ⟨by omega, by omega⟩ ⟨by omega, by omega⟩ (fun h11 => ?_) (fun h12 => ?_)
        · refine r_const (i := 24) (u := 0) (z := 0) rfl rfl ?_
          refine r_store (i := 25) (u := 2) (w := 0) (L1 := [some ((2, 43)), some (vi k), some (vi 0), some (vi j)]) rfl rfl rfl rfl ?_
          refine r_iinc (i := 26) (u := 1) (v := 3) (s := 1) (L1 := [some ((2, 43)), some (vi k), some (vi 0), some (vi (j + 1))]) rfl rfl rfl rfl rfl ?_
          refine r_goto (i := 27) (v := 4) rfl ?_
          exact ih 0 (j + 1) ⟨by omega, by omega⟩ ⟨by omega, by omega⟩  (by omega)
        · refine r_const (i := 22) (u := 1) (z := 1) rfl rfl ?_
          refine r_goto (i := 23) (v := 25) rfl ?_
          refine r_store (i := 25) (u := 2) (w := 0) (L1 := [some ((2, 43)), some (vi k), some (vi 1), some (vi j)]) rfl rfl rfl rfl ?_
          refine r_iinc (i := 26) (u := 1) (v := 3) (s := 1) (L1 := [some ((2, 43)), some (vi k), some (vi 1), some (vi (j + 1))]) rfl rfl rfl rfl rfl ?_
          refine r_goto (i := 27) (v := 4) rfl ?_
          exact ih 1 (j + 1) ⟨by omega, by omega⟩ ⟨by omega, by omega⟩  (by omega)
/-- ProxyForgeModel.throwsAll -/
theorem sp257 {G : xk} {S : yS} {d : Nat} (hI : yI S) {k : Int} (h_k : 0 ≤ k ∧ k ≤ 23) (hd : 0 ≤ d) : yT xPr G LY xC257 0 [some ((2, 43)), some (vi k)] [] S d (fun r S' => ∃ z : Int, r = (1, vi z) ∧ 0 ≤ z ∧ z ≤ 1 ∧ S = S') := by
  refine yT_pad 2 ?_
  show yT xPr G LY xC257 0 [some ((2, 43)), some (vi k), none, none] [] S d _
  refine r_const (i := 0) (u := 0) (z := 0) rfl rfl ?_
  refine r_store (i := 1) (u := 2) (w := 0) (L1 := [some ((2, 43)), some (vi k), some (vi 0), none]) rfl rfl rfl rfl ?_
  refine r_const (i := 2) (u := 0) (z := 0) rfl rfl ?_
  refine r_store (i := 3) (u := 3) (w := 0) (L1 := [some ((2, 43)), some (vi k), some (vi 0), some (vi 0)]) rfl rfl rfl rfl ?_
  exact lp257_4 hI h_k   hd _ 0 0 ⟨by omega, by omega⟩ ⟨by omega, by omega⟩  (Int.lt_succ_toNat _)
theorem lp206_33 {G : xk} {d : Nat} {S0 : yS} {t : Int} (h_t : -2147483648 ≤ t ∧ t ≤ 2147483647) {f : Int} (h_f : -2147483648 ≤ f ∧ f ≤ 2147483647) (hd : 1 ≤ d + 1) : ∀ (n : Nat), ∀ (S : yS) (hI : yI S) (hF : yFr [(43, 0)] [50, 51, 68] S0 S) (hR : yRm [] S0 S) (g0 j : Int) (h_g0 : 0 ≤ g0 ∧ g0 ≤ 1) (h_j : 0 ≤ j ∧ j ≤ 4) (q_0 : g0 = 1 → 3 < t ∧ t < S.f 43 1 ∧ 0 ≤ f ∧ f < S.f 43 1 ∧ S.a 51 t.toNat ≤ 3) (q_1 : sIm S0 S) (q_2 : FM S0 → (g0 = 1 → imP S0 t f j) ∧ (g0 = 0 → ¬ imM S0 t f)) (q_3 : g0 = 1 → j ≤ 4) (hn : 4 - j < (n : Nat)), yT xPr G LY xC206 33 [some ((2, 43)), some (vi t), some (vi f), some (vi g0), some (vi j)] [] S (d + 1) (fun r S' => r = (0, (0, 0)) ∧ mImQ S0 S' t f ∧ yI S' ∧ yFr [(43, 0)] [50, 51, 68] S0 S' ∧ yRm [] S0 S') := by
  intro n
  induction n with
  | zero => intro S hI hF hR g0 j h_g0 h_j q_0 q_1 q_2 q_3 hn; exact absurd hn (by omega)
  | succ n ih =>
    intro S hI hF hR g0 j h_g0 h_j q_0 q_1 q_2 q_3 hn
    have h1 := hI.f tf43_1
    have h2 : S.f 43 1 = S0.f 43 1 := hF.f rfl
    have h3 := hI.a ta51 t.toNat
    refine r_load (i := 33) (u := 3) (w := 0) rfl rfl rfl ?_
    refine z_eq (i := 34) (v := 57) rfl ⟨by omega, by omega⟩ (fun h4 => ?_) (fun h5 => ?_)
    · refine r_load (i := 57) (u := 0) (w := 2) rfl rfl rfl ?_
      refine r_load (i := 58) (u := 3) (w := 0) rfl rfl rfl ?_
      refine z_eq (i := 59) (v := 62) rfl ⟨by omega, by omega⟩ (fun h6 => ?_) (fun h7 => ?_)
      · refine r_const (i := 62) (u := 1) (z := 1) rfl rfl ?_
        refine r_putI (i := 63) (v := 0) (w := 11) rfl ly43 rfl ⟨by omega, by omega⟩ ?_
        have hI9 := hI.setf (b := 43) (w := 0) (z := 1) tf43_0 rfl (by omega) (by omega)
        have hF11 := hF.setf (b := 43) (w := 0) (z := 1) rfl
        have hR12 := hR.setf (b := 43) (w := 0) (z := 1)
        refine yT_gen (fun S8 hS10 => ?_)
        rw [hS10] at hI9 hF11 hR12 
        refine r_load (i := 64) (u := 3) (w := 0) rfl rfl rfl ?_
        refine z_ne (i := 65) (v := 67) rfl ⟨by omega, by omega⟩ (fun h13 => ?_) (fun h14 => ?_)
        · refine r_load (i := 67) (u := 0) (w := 2) rfl rfl rfl ?_
          refine r_getf (i := 68) (v := 8) (w := 11) (x := (2, 50)) rfl ly43 rfl rfl fun _ => ?_
          refine r_const (i := 69) (u := 4) (z := 4) rfl rfl ?_
          refine r_load (i := 70) (u := 1) (w := 0) rfl rfl rfl ?_
          refine r_imul (i := 71) rfl ?_
          refine r_load (i := 72) (u := 0) (w := 2) rfl rfl rfl ?_
          refine r_getf (i := 73) (v := 9) (w := 11) (x := (2, 51)) rfl ly43 rfl rfl fun _ => ?_
          refine r_load (i := 74) (u := 1) (w := 0) rfl rfl rfl ?_
          refine a_int (i := 75) rfl ly51 rfl (by omega) (by omega) fun h17 => ?_
          have h18 := hI9.a ta51 t.toNat
          have h19 : S8.a 51 t.toNat = S.a 51 t.toNat := by rw [← hS10]; rfl
          refine r_iadd (i := 76) rfl ?_
          refine r_load (i := 77) (u := 2) (w := 0) rfl rfl rfl ?_
          refine s_int (i := 78) rfl ly50 rfl (by omega) (by omega) ⟨by omega, by omega⟩ ?_
          have hI21 := hI9.seta (b := 50) (j := ((4 * t) + (S8.a 51 t.toNat)).toNat) (z := f) ta50 rfl (by omega) (by omega)
          have hF23 := hF11.seta (b := 50) (j := ((4 * t) + (S8.a 51 t.toNat)).toNat) (z := f) rfl
          have hR24 := hR12.seta (b := 50) (j := ((4 * t) + (S8.a 51 t.toNat)).toNat) (z := f)
          refine yT_gen (fun S20 hS22 => ?_)
          rw [hS22] at hI21 hF23 hR24 
          refine r_load (i := 79) (u := 0) (w := 2) rfl rfl rfl ?_
          refine r_getf (i := 80) (v := 9) (w := 11) (x := (2, 51)) rfl ly43 rfl rfl fun _ => ?_
          refine r_load (i := 81) (u := 1) (w := 0) rfl rfl rfl ?_
          refine r_dup2 (i := 82) rfl rfl rfl ?_
          refine a_int (i := 83) rfl ly51 rfl (by omega) (by omega) fun h26 => ?_
          have h27 := hI21.a ta51 t.toNat
          have h28 : S20.a 51 t.toNat = S8.a 51 t.toNat := by rw [← hS22]; rfl
          have h29 : S8.a 51 t.toNat = S.a 51 t.toNat := by rw [← hS10]; rfl
          refine r_const (i := 84) (u := 1) (z := 1) rfl rfl ?_
          refine r_iadd (i := 85) rfl ?_
          refine s_int (i := 86) rfl ly51 rfl (by omega) (by omega) ⟨by omega, by omega⟩ ?_
          have hI31 := hI21.seta (b := 51) (j := t.toNat) (z := (S20.a 51 t.toNat) + 1) ta51 rfl (by omega) (by omega)
          have hF33 := hF23.seta (b := 51) (j := t.toNat) (z := (S20.a 51 t.toNat) + 1) rfl
          have hR34 := hR24.seta (b := 51) (j := t.toNat) (z := (S20.a 51 t.toNat) + 1)
          refine yT_gen (fun S30 hS32 => ?_)
          rw [hS32] at hI31 hF33 hR34 
          have h35 := hI31.f tf43_0
          have h36 : S30.f 43 0 = S20.f 43 0 := by rw [← hS32]; rfl
          have h37 : S20.f 43 0 = S8.f 43 0 := by rw [← hS22]; rfl
          have h38 : S8.f 43 0 = 1 := by rw [← hS10]; exact ysf_eq
          exact r_ret0 (i := 87) rfl ⟨rfl, (by first | (exfalso; omega) | exact fun hf9 => Or.inl ⟨by omega, imP_end ((q_2 hf9).1 (by omega)) (by have w8 := (q_1 t.toNat).1; omega), by subst hS10 hS22 hS32; exact mIm_of q_1⟩), hI31, hF33, hR34⟩
        · have h39 := hI9.f tf43_0
          have h40 : S8.f 43 0 = 1 := by rw [← hS10]; exact ysf_eq
          exact r_ret0 (i := 66) rfl ⟨rfl, (by first | (exfalso; omega) | exact fun hf9 => Or.inr ⟨by omega, (q_2 hf9).2 (by omega), by subst hS10; exact q_1⟩), hI9, hF11, hR12⟩
      · refine r_const (i := 60) (u := 0) (z := 0) rfl rfl ?_
        refine r_goto (i := 61) (v := 63) rfl ?_
        refine r_putI (i := 63) (v := 0) (w := 11) rfl ly43 rfl ⟨by omega, by omega⟩ ?_
        have hI42 := hI.setf (b := 43) (w := 0) (z := 0) tf43_0 rfl (by omega) (by omega)
        have hF44 := hF.setf (b := 43) (w := 0) (z := 0) rfl
        have hR45 := hR.setf (b := 43) (w := 0) (z := 0)
        refine yT_gen (fun S41 hS43 => ?_)
        rw [hS43] at hI42 hF44 hR45 
        refine r_load (i := 64) (u := 3) (w := 0) rfl rfl rfl ?_
        refine z_ne (i := 65) (v := 67) rfl ⟨by omega, by omega⟩ (fun h46 => ?_) (fun h47 => ?_)
        · refine r_load (i := 67) (u := 0) (w := 2) rfl rfl rfl ?_
          refine r_getf (i := 68) (v := 8) (w := 11) (x := (2, 50)) rfl ly43 rfl rfl fun _ => ?_
          refine r_const (i := 69) (u := 4) (z := 4) rfl rfl ?_
          refine r_load (i := 70) (u := 1) (w := 0) rfl rfl rfl ?_
          refine r_imul (i := 71) rfl ?_
          refine r_load (i := 72) (u := 0) (w := 2) rfl rfl rfl ?_
          refine r_getf (i := 73) (v := 9) (w := 11) (x := (2, 51)) rfl ly43 rfl rfl fun _ => ?_
          refine r_load (i := 74) (u := 1) (w := 0) rfl rfl rfl ?_
          refine a_int (i := 75) rfl ly51 rfl (by omega) (by omega) fun h50 => ?_
          have h51 := hI42.a ta51 t.toNat
          have h52 : S41.a 51 t.toNat = S.a 51 t.toNat := by rw [← hS43]; rfl
          refine r_iadd (i := 76) rfl ?_
          refine r_load (i := 77) (u := 2) (w := 0) rfl rfl rfl ?_
          refine s_int (i := 78) rfl ly50 rfl (by omega) (by omega) ⟨by omega, by omega⟩ ?_
          have hI54 := hI42.seta (b := 50) (j := ((4 * t) + (S41.a 51 t.toNat)).toNat) (z := f) ta50 rfl (by omega) (by omega)
          have hF56 := hF44.seta (b := 50) (j := ((4 * t) + (S41.a 51 t.toNat)).toNat) (z := f) rfl
          have hR57 := hR45.seta (b := 50) (j := ((4 * t) + (S41.a 51 t.toNat)).toNat) (z := f)
          refine yT_gen (fun S53 hS55 => ?_)
          rw [hS55] at hI54 hF56 hR57 
          refine r_load (i := 79) (u := 0) (w := 2) rfl rfl rfl ?_
          refine r_getf (i := 80) (v := 9) (w := 11) (x := (2, 51)) rfl ly43 rfl rfl fun _ => ?_
          refine r_load (i := 81) (u := 1) (w := 0) rfl rfl rfl ?_
          refine r_dup2 (i := 82) rfl rfl rfl ?_
          refine a_int (i := 83) rfl ly51 rfl (by omega) (by omega) fun h59 => ?_
          have h60 := hI54.a ta51 t.toNat
          have h61 : S53.a 51 t.toNat = S41.a 51 t.toNat := by rw [← hS55]; rfl
          have h62 : S41.a 51 t.toNat = S.a 51 t.toNat := by rw [← hS43]; rfl
          refine r_const (i := 84) (u := 1) (z := 1) rfl rfl ?_
          refine r_iadd (i := 85) rfl ?_
          refine s_int (i := 86) rfl ly51 rfl (by omega) (by omega) ⟨by omega, by omega⟩ ?_
          have hI64 := hI54.seta (b := 51) (j := t.toNat) (z := (S53.a 51 t.toNat) + 1) ta51 rfl (by omega) (by omega)
          have hF66 := hF56.seta (b := 51) (j := t.toNat) (z := (S53.a 51 t.toNat) + 1) rfl
          have hR67 := hR57.seta (b := 51) (j := t.toNat) (z := (S53.a 51 t.toNat) + 1)
          refine yT_gen (fun S63 hS65 => ?_)
          rw [hS65] at hI64 hF66 hR67 
          have h68 := hI64.f tf43_0
          have h69 : S63.f 43 0 = S53.f 43 0 := by rw [← hS65]; rfl
          have h70 : S53.f 43 0 = S41.f 43 0 := by rw [← hS55]; rfl
          have h71 : S41.f 43 0 = 0 := by rw [← hS43]; exact ysf_eq
          exact r_ret0 (i := 87) rfl ⟨rfl, (by first | (exfalso; omega) | exact fun hf9 => Or.inl ⟨by omega, imP_end ((q_2 hf9).1 (by omega)) (by have w8 := (q_1 t.toNat).1; omega), by subst hS43 hS55 hS65; exact mIm_of q_1⟩), hI64, hF66, hR67⟩
        · have h72 := hI42.f tf43_0
          have h73 : S41.f 43 0 = 0 := by rw [← hS43]; exact ysf_eq
          exact r_ret0 (i := 66) rfl ⟨rfl, (by first | (exfalso; omega) | exact fun hf9 => Or.inr ⟨by omega, (q_2 hf9).2 (by omega), by subst hS43; exact q_1⟩), hI42, hF44, hR45⟩
    · refine r_load (i := 35) (u := 4) (w := 0) rfl rfl rfl ?_
      refine r_load (i := 36) (u := 0) (w := 2) rfl rfl rfl ?_
      refine r_getf (i := 37) (v := 9) (w := 11) (x := (2, 51)) rfl ly43 rfl rfl fun _ => ?_
      refine r_load (i := 38) (u := 1) (w := 0) rfl rfl rfl ?_
      refine a_int (i := 39) rfl ly51 rfl (by omega) (by omega) fun h75 => ?_
      have h76 := hI.a ta51 t.toNat
      refine c_ge (i := 40) (v := 57) rfl ⟨by omega, by omega⟩ ⟨by omega, by omega⟩ (fun h77 => ?_) (fun h78 => ?_)
      · refine r_load (i := 57) (u := 0) (w := 2) rfl rfl rfl ?_
        refine r_load (i := 58) (u := 3) (w := 0) rfl rfl rfl ?_
        refine z_eq (i := 59) (v := 62) rfl ⟨by omega, by omega⟩ (fun h79 => ?_) (fun h80 => ?_)
        · refine r_const (i := 62) (u := 1) (z := 1) rfl rfl ?_
          refine r_putI (i := 63) (v := 0) (w := 11) rfl ly43 rfl ⟨by omega, by omega⟩ ?_
          have hI82 := hI.setf (b := 43) (w := 0) (z := 1) tf43_0 rfl (by omega) (by omega)
          have hF84 := hF.setf (b := 43) (w := 0) (z := 1) rfl
          have hR85 := hR.setf (b := 43) (w := 0) (z := 1)
          refine yT_gen (fun S81 hS83 => ?_)
          rw [hS83] at hI82 hF84 hR85 
          refine r_load (i := 64) (u := 3) (w := 0) rfl rfl rfl ?_
          refine z_ne (i := 65) (v := 67) rfl ⟨by omega, by omega⟩ (fun h86 => ?_) (fun h87 => ?_)
          · refine r_load (i := 67) (u := 0) (w := 2) rfl rfl rfl ?_
            refine r_getf (i := 68) (v := 8) (w := 11) (x := (2, 50)) rfl ly43 rfl rfl fun _ => ?_
            refine r_const (i := 69) (u := 4) (z := 4) rfl rfl ?_
            refine r_load (i := 70) (u := 1) (w := 0) rfl rfl rfl ?_
            refine r_imul (i := 71) rfl ?_
            refine r_load (i := 72) (u := 0) (w := 2) rfl rfl rfl ?_
            refine r_getf (i := 73) (v := 9) (w := 11) (x := (2, 51)) rfl ly43 rfl rfl fun _ => ?_
            refine r_load (i := 74) (u := 1) (w := 0) rfl rfl rfl ?_
            refine a_int (i := 75) rfl ly51 rfl (by omega) (by omega) fun h90 => ?_
            have h91 := hI82.a ta51 t.toNat
            have h92 : S81.a 51 t.toNat = S.a 51 t.toNat := by rw [← hS83]; rfl
            refine r_iadd (i := 76) rfl ?_
            refine r_load (i := 77) (u := 2) (w := 0) rfl rfl rfl ?_
            refine s_int (i := 78) rfl ly50 rfl (by omega) (by omega) ⟨by omega, by omega⟩ ?_
            have hI94 := hI82.seta (b := 50) (j := ((4 * t) + (S81.a 51 t.toNat)).toNat) (z := f) ta50 rfl (by omega) (by omega)
            have hF96 := hF84.seta (b := 50) (j := ((4 * t) + (S81.a 51 t.toNat)).toNat) (z := f) rfl
            have hR97 := hR85.seta (b := 50) (j := ((4 * t) + (S81.a 51 t.toNat)).toNat) (z := f)
            refine yT_gen (fun S93 hS95 => ?_)
            rw [hS95] at hI94 hF96 hR97 
            refine r_load (i := 79) (u := 0) (w := 2) rfl rfl rfl ?_
            refine r_getf (i := 80) (v := 9) (w := 11) (x := (2, 51)) rfl ly43 rfl rfl fun _ => ?_
            refine r_load (i := 81) (u := 1) (w := 0) rfl rfl rfl ?_
            refine r_dup2 (i := 82) rfl rfl rfl ?_
            refine a_int (i := 83) rfl ly51 rfl (by omega) (by omega) fun h99 => ?_
            have h100 := hI94.a ta51 t.toNat
            have h101 : S93.a 51 t.toNat = S81.a 51 t.toNat := by rw [← hS95]; rfl
            have h102 : S81.a 51 t.toNat = S.a 51 t.toNat := by rw [← hS83]; rfl
            refine r_const (i := 84) (u := 1) (z := 1) rfl rfl ?_
            refine r_iadd (i := 85) rfl ?_
            refine s_int (i := 86) rfl ly51 rfl (by omega) (by omega) ⟨by omega, by omega⟩ ?_
            have hI104 := hI94.seta (b := 51) (j := t.toNat) (z := (S93.a 51 t.toNat) + 1) ta51 rfl (by omega) (by omega)
            have hF106 := hF96.seta (b := 51) (j := t.toNat) (z := (S93.a 51 t.toNat) + 1) rfl
            have hR107 := hR97.seta (b := 51) (j := t.toNat) (z := (S93.a 51 t.toNat) + 1)
            refine yT_gen (fun S103 hS105 => ?_)
            rw [hS105] at hI104 hF106 hR107 
            have h108 := hI104.f tf43_0
            have h109 : S103.f 43 0 = S93.f 43 0 := by rw [← hS105]; rfl
            have h110 : S93.f 43 0 = S81.f 43 0 := by rw [← hS95]; rfl
            have h111 : S81.f 43 0 = 1 := by rw [← hS83]; exact ysf_eq
            exact r_ret0 (i := 87) rfl ⟨rfl, (by first | (exfalso; omega) | exact fun hf9 => Or.inl ⟨by omega, imP_end ((q_2 hf9).1 (by omega)) (by have w8 := (q_1 t.toNat).1; omega), by subst hS83 hS95 hS105; exact mIm_of q_1⟩), hI104, hF106, hR107⟩
          · have h112 := hI82.f tf43_0
            have h113 : S81.f 43 0 = 1 := by rw [← hS83]; exact ysf_eq
            exact r_ret0 (i := 66) rfl ⟨rfl, (by first | (exfalso; omega) | exact fun hf9 => Or.inr ⟨by omega, (q_2 hf9).2 (by omega), by subst hS83; exact q_1⟩), hI82, hF84, hR85⟩
        · refine r_const (i := 60) (u := 0) (z := 0) rfl rfl ?_
          refine r_goto (i := 61) (v := 63) rfl ?_
          refine r_putI (i := 63) (v := 0) (w := 11) rfl ly43 rfl ⟨by omega, by omega⟩ ?_
          have hI115 := hI.setf (b := 43) (w := 0) (z := 0) tf43_0 rfl (by omega) (by omega)
          have hF117 := hF.setf (b := 43) (w := 0) (z := 0) rfl
          have hR118 := hR.setf (b := 43) (w := 0) (z := 0)
          refine yT_gen (fun S114 hS116 => ?_)
          rw [hS116] at hI115 hF117 hR118 
          refine r_load (i := 64) (u := 3) (w := 0) rfl rfl rfl ?_
          refine z_ne (i := 65) (v := 67) rfl ⟨by omega, by omega⟩ (fun h119 => ?_) (fun h120 => ?_)
          · refine r_load (i := 67) (u := 0) (w := 2) rfl rfl rfl ?_
            refine r_getf (i := 68) (v := 8) (w := 11) (x := (2, 50)) rfl ly43 rfl rfl fun _ => ?_
            refine r_const (i := 69) (u := 4) (z := 4) rfl rfl ?_
            refine r_load (i := 70) (u := 1) (w := 0) rfl rfl rfl ?_
            refine r_imul (i := 71) rfl ?_
            refine r_load (i := 72) (u := 0) (w := 2) rfl rfl rfl ?_
            refine r_getf (i := 73) (v := 9) (w := 11) (x := (2, 51)) rfl ly43 rfl rfl fun _ => ?_
            refine r_load (i := 74) (u := 1) (w := 0) rfl rfl rfl ?_
            refine a_int (i := 75) rfl ly51 rfl (by omega) (by omega) fun h123 => ?_
            have h124 := hI115.a ta51 t.toNat
            have h125 : S114.a 51 t.toNat = S.a 51 t.toNat := by rw [← hS116]; rfl
            refine r_iadd (i := 76) rfl ?_
            refine r_load (i := 77) (u := 2) (w := 0) rfl rfl rfl ?_
            refine s_int (i := 78) rfl ly50 rfl (by omega) (by omega) ⟨by omega, by omega⟩ ?_
            have hI127 := hI115.seta (b := 50) (j := ((4 * t) + (S114.a 51 t.toNat)).toNat) (z := f) ta50 rfl (by omega) (by omega)
            have hF129 := hF117.seta (b := 50) (j := ((4 * t) + (S114.a 51 t.toNat)).toNat) (z := f) rfl
            have hR130 := hR118.seta (b := 50) (j := ((4 * t) + (S114.a 51 t.toNat)).toNat) (z := f)
            refine yT_gen (fun S126 hS128 => ?_)
            rw [hS128] at hI127 hF129 hR130 
            refine r_load (i := 79) (u := 0) (w := 2) rfl rfl rfl ?_
            refine r_getf (i := 80) (v := 9) (w := 11) (x := (2, 51)) rfl ly43 rfl rfl fun _ => ?_
            refine r_load (i := 81) (u := 1) (w := 0) rfl rfl rfl ?_
            refine r_dup2 (i := 82) rfl rfl rfl ?_
            refine a_int (i := 83) rfl ly51 rfl (by omega) (by omega) fun h132 => ?_
            have h133 := hI127.a ta51 t.toNat
            have h134 : S126.a 51 t.toNat = S114.a 51 t.toNat := by rw [← hS128]; rfl
            have h135 : S114.a 51 t.toNat = S.a 51 t.toNat := by rw [← hS116]; rfl
            refine r_const (i := 84) (u := 1) (z := 1) rfl rfl ?_
            refine r_iadd (i := 85) rfl ?_
            refine s_int (i := 86) rfl ly51 rfl (by omega) (by omega) ⟨by omega, by omega⟩ ?_
            have hI137 := hI127.seta (b := 51) (j := t.toNat) (z := (S126.a 51 t.toNat) + 1) ta51 rfl (by omega) (by omega)
            have hF139 := hF129.seta (b := 51) (j := t.toNat) (z := (S126.a 51 t.toNat) + 1) rfl
            have hR140 := hR130.seta (b := 51) (j := t.toNat) (z := (S126.a 51 t.toNat) + 1)
            refine yT_gen (fun S136 hS138 => ?_)
            rw [hS138] at hI137 hF139 hR140 
            have h141 := hI137.f tf43_0
            have h142 : S136.f 43 0 = S126.f 43 0 := by rw [← hS138]; rfl
            have h143 : S126.f 43 0 = S114.f 43 0 := by rw [← hS128]; rfl
            have h144 : S114.f 43 0 = 0 := by rw [← hS116]; exact ysf_eq
            exact r_ret0 (i := 87) rfl ⟨rfl, (by first | (exfalso; omega) | exact fun hf9 => Or.inl ⟨by omega, imP_end ((q_2 hf9).1 (by omega)) (by have w8 := (q_1 t.toNat).1; omega), by subst hS116 hS128 hS138; exact mIm_of q_1⟩), hI137, hF139, hR140⟩
          · have h145 := hI115.f tf43_0
            have h146 : S114.f 43 0 = 0 := by rw [← hS116]; exact ysf_eq
            exact r_ret0 (i := 66) rfl ⟨rfl, (by first | (exfalso; omega) | exact fun hf9 => Or.inr ⟨by omega, (q_2 hf9).2 (by omega), by subst hS116; exact q_1⟩), hI115, hF117, hR118⟩
      · refine r_load (i := 41) (u := 0) (w := 2) rfl rfl rfl ?_
        refine r_getf (i := 42) (v := 8) (w := 11) (x := (2, 50)) rfl ly43 rfl rfl fun _ => ?_
        refine r_const (i := 43) (u := 4) (z := 4) rfl rfl ?_
        refine r_load (i := 44) (u := 1) (w := 0) rfl rfl rfl ?_
        refine r_imul (i := 45) rfl ?_
        refine r_load (i := 46) (u := 4) (w := 0) rfl rfl rfl ?_
        refine r_iadd (i := 47) rfl ?_
        refine a_int (i := 48) rfl ly50 rfl (by omega) (by omega) fun h148 => ?_
        have h149 := hI.a ta50 ((4 * t) + j).toNat
        refine r_load (i := 49) (u := 2) (w := 0) rfl rfl rfl ?_
        refine c_eq (i := 50) (v := 53) rfl ⟨by omega, by omega⟩ ⟨by omega, by omega⟩ (fun h150 => ?_) (fun h151 => ?_)
        · refine r_const (i := 53) (u := 0) (z := 0) rfl rfl ?_
          refine r_store (i := 54) (u := 3) (w := 0) (L1 := [some ((2, 43)), some (vi t), some (vi f), some (vi 0), some (vi j)]) rfl rfl rfl rfl ?_
          refine r_iinc (i := 55) (u := 1) (v := 4) (s := 1) (L1 := [some ((2, 43)), some (vi t), some (vi f), some (vi 0), some (vi (j + 1))]) rfl rfl rfl rfl rfl ?_
          refine r_goto (i := 56) (v := 33) rfl ?_
          have h152 := hI.a ta51 t.toNat
          exact ih S hI hF hR 0 (j + 1) ⟨by omega, by omega⟩ ⟨by omega, by omega⟩ (by omega) (by exact q_1) (by first | exact fun hf9 => ⟨fun _ => imP_s ((q_2 hf9).1 (by omega)) (by have w9 := (q_1 (4 * t + j).toNat).2; have w8 := (q_1 t.toNat).1; omega), fun h9 => absurd h9 (by omega)⟩ | exact fun hf9 => ⟨fun h9 => absurd h9 (by omega), fun _ hc => hc.2.2.2.2.2 j (by omega) (by have w9 := (q_1 (4 * t + j).toNat).2; have w8 := (q_1 t.toNat).1; omega) (by have w9 := (q_1 (4 * t + j).toNat).2; have w8 := (q_1 t.toNat).1; omega)⟩) (by omega) (by omega)
        · refine r_const (i := 51) (u := 1) (z := 1) rfl rfl ?_
          refine r_goto (i := 52) (v := 54) rfl ?_
          refine r_store (i := 54) (u := 3) (w := 0) (L1 := [some ((2, 43)), some (vi t), some (vi f), some (vi 1), some (vi j)]) rfl rfl rfl rfl ?_
          refine r_iinc (i := 55) (u := 1) (v := 4) (s := 1) (L1 := [some ((2, 43)), some (vi t), some (vi f), some (vi 1), some (vi (j + 1))]) rfl rfl rfl rfl rfl ?_
          refine r_goto (i := 56) (v := 33) rfl ?_
          have h153 := hI.a ta51 t.toNat
          exact ih S hI hF hR 1 (j + 1) ⟨by omega, by omega⟩ ⟨by omega, by omega⟩ (by omega) (by exact q_1) (by first | exact fun hf9 => ⟨fun _ => imP_s ((q_2 hf9).1 (by omega)) (by have w9 := (q_1 (4 * t + j).toNat).2; have w8 := (q_1 t.toNat).1; omega), fun h9 => absurd h9 (by omega)⟩ | exact fun hf9 => ⟨fun h9 => absurd h9 (by omega), fun _ hc => hc.2.2.2.2.2 j (by omega) (by have w9 := (q_1 (4 * t + j).toNat).2; have w8 := (q_1 t.toNat).1; omega) (by have w9 := (q_1 (4 * t + j).toNat).2; have w8 := (q_1 t.toNat).1; omega)⟩) (by omega) (by omega)
/-- ProxyForgeModel.implement -/
theorem sp206 {G : xk} {S : yS} {d : Nat} (hI : yI S) {t : Int} (h_t : -2147483648 ≤ t ∧ t ≤ 2147483647) {f : Int} (h_f : -2147483648 ≤ f ∧ f ≤ 2147483647) (hd : 1 ≤ d) : yT xPr G LY xC206 0 [some ((2, 43)), some (vi t), some (vi f)] [] S d (fun r S' => r = (0, (0, 0)) ∧ mImQ S S' t f ∧ yI S' ∧ yFr [(43, 0)] [50, 51, 68] S S' ∧ yRm [] S S') := by
  refine yT_pad 2 ?_
  show yT xPr G LY xC206 0 [some ((2, 43)), some (vi t), some (vi f), none, none] [] S d _
  obtain ⟨d, rfl⟩ : ∃ q, d = q + 1 := ⟨d - 1, by omega⟩
  have hF : yFr [(43, 0)] [50, 51, 68] S S := yFr.refl S
  have hR : yRm [] S S := yRm.refl S
  refine r_load (i := 0) (u := 1) (w := 0) rfl rfl rfl ?_
  refine r_const (i := 1) (u := 3) (z := 3) rfl rfl ?_
  refine c_le (i := 2) (v := 29) rfl ⟨by omega, by omega⟩ ⟨by omega, by omega⟩ (fun h1 => ?_) (fun h2 => ?_)
  · refine r_const (i := 29) (u := 0) (z := 0) rfl rfl ?_
    refine r_store (i := 30) (u := 3) (w := 0) (L1 := [some ((2, 43)), some (vi t), some (vi f), some (vi 0), none]) rfl rfl rfl rfl ?_
    refine r_const (i := 31) (u := 0) (z := 0) rfl rfl ?_
    refine r_store (i := 32) (u := 4) (w := 0) (L1 := [some ((2, 43)), some (vi t), some (vi f), some (vi 0), some (vi 0)]) rfl rfl rfl rfl ?_
    have h3 := hI.f tf43_1
    have h4 := hI.a ta51 t.toNat
    exact lp206_33 h_t h_f  hd _ S hI hF hR 0 0 ⟨by omega, by omega⟩ ⟨by omega, by omega⟩ (by omega) (by exact fun j9 => ⟨rfl, rfl⟩) (by exact fun hf9 => ⟨fun h9 => absurd h9 (by omega), fun _ hc => by obtain ⟨c1, c2, c3, c4, -⟩ := hc; omega⟩) (by omega) (Int.lt_succ_toNat _)
  · refine r_load (i := 3) (u := 1) (w := 0) rfl rfl rfl ?_
    refine r_load (i := 4) (u := 0) (w := 2) rfl rfl rfl ?_
    have h5 := hI.f tf43_1
    refine r_getf (i := 5) (v := 1) (w := 11) (x := vi (S.f 43 1)) rfl ly43 rfl rfl fun h6 => ?_
    have h6 : Rg (S.f 43 1) := h6
    refine c_ge (i := 6) (v := 29) rfl ⟨by omega, by omega⟩ ⟨by omega, by omega⟩ (fun h7 => ?_) (fun h8 => ?_)
    · refine r_const (i := 29) (u := 0) (z := 0) rfl rfl ?_
      refine r_store (i := 30) (u := 3) (w := 0) (L1 := [some ((2, 43)), some (vi t), some (vi f), some (vi 0), none]) rfl rfl rfl rfl ?_
      refine r_const (i := 31) (u := 0) (z := 0) rfl rfl ?_
      refine r_store (i := 32) (u := 4) (w := 0) (L1 := [some ((2, 43)), some (vi t), some (vi f), some (vi 0), some (vi 0)]) rfl rfl rfl rfl ?_
      have h9 := hI.a ta51 t.toNat
      exact lp206_33 h_t h_f  hd _ S hI hF hR 0 0 ⟨by omega, by omega⟩ ⟨by omega, by omega⟩ (by omega) (by exact fun j9 => ⟨rfl, rfl⟩) (by exact fun hf9 => ⟨fun h9 => absurd h9 (by omega), fun _ hc => by obtain ⟨c1, c2, c3, c4, -⟩ := hc; omega⟩) (by omega) (Int.lt_succ_toNat _)
    · refine r_load (i := 7) (u := 0) (w := 2) rfl rfl rfl ?_
      refine r_load (i := 8) (u := 2) (w := 0) rfl rfl rfl ?_
      refine r_call (i := 9) (u := 11) (v := 213) (w := 0) (b := 0) (na := 514) (C2 := xC213) (as := [(2, 43), vi f]) (s := []) rfl rfl rfl rfl rfl rfl rfl (sp213 (t := f) hI ⟨by omega, by omega⟩   (by omega)) (fun r10 S11 hq12 => ?_)
      obtain ⟨z13, rfl, h14, h15, h16, h17, rfl⟩ := hq12
      refine Or.inr (Or.inl ⟨rfl, ?_⟩)
      refine z_eq (i := 10) (v := 29) rfl ⟨by omega, by omega⟩ (fun h18 => ?_) (fun h19 => ?_)
      · refine r_const (i := 29) (u := 0) (z := 0) rfl rfl ?_
        refine r_store (i := 30) (u := 3) (w := 0) (L1 := [some ((2, 43)), some (vi t), some (vi f), some (vi 0), none]) rfl rfl rfl rfl ?_
        refine r_const (i := 31) (u := 0) (z := 0) rfl rfl ?_
        refine r_store (i := 32) (u := 4) (w := 0) (L1 := [some ((2, 43)), some (vi t), some (vi f), some (vi 0), some (vi 0)]) rfl rfl rfl rfl ?_
        have h20 := hI.a ta51 t.toNat
        exact lp206_33 h_t h_f  hd _ S hI hF hR 0 0 ⟨by omega, by omega⟩ ⟨by omega, by omega⟩ (by omega) (by exact fun j9 => ⟨rfl, rfl⟩) (by exact fun hf9 => ⟨fun h9 => absurd h9 (by omega), fun _ hc => by obtain ⟨c1, c2, c3, c4, -⟩ := hc; omega⟩) (by omega) (Int.lt_succ_toNat _)
      · refine r_load (i := 11) (u := 0) (w := 2) rfl rfl rfl ?_
        refine r_getf (i := 12) (v := 2) (w := 11) (x := (2, 44)) rfl ly43 rfl rfl fun _ => ?_
        refine r_load (i := 13) (u := 2) (w := 0) rfl rfl rfl ?_
        refine a_bool (i := 14) rfl ly44 rfl (by omega) (by omega) fun h22 => ?_
        refine z_eq (i := 15) (v := 29) rfl ⟨by omega, by omega⟩ (fun h23 => ?_) (fun h24 => ?_)
        · refine r_const (i := 29) (u := 0) (z := 0) rfl rfl ?_
          refine r_store (i := 30) (u := 3) (w := 0) (L1 := [some ((2, 43)), some (vi t), some (vi f), some (vi 0), none]) rfl rfl rfl rfl ?_
          refine r_const (i := 31) (u := 0) (z := 0) rfl rfl ?_
          refine r_store (i := 32) (u := 4) (w := 0) (L1 := [some ((2, 43)), some (vi t), some (vi f), some (vi 0), some (vi 0)]) rfl rfl rfl rfl ?_
          have h25 := hI.a ta51 t.toNat
          exact lp206_33 h_t h_f  hd _ S hI hF hR 0 0 ⟨by omega, by omega⟩ ⟨by omega, by omega⟩ (by omega) (by exact fun j9 => ⟨rfl, rfl⟩) (by exact fun hf9 => ⟨fun h9 => absurd h9 (by omega), fun _ hc => by obtain ⟨c1, c2, c3, c4, -⟩ := hc; omega⟩) (by omega) (Int.lt_succ_toNat _)
        · refine r_load (i := 16) (u := 0) (w := 2) rfl rfl rfl ?_
          refine r_getf (i := 17) (v := 9) (w := 11) (x := (2, 51)) rfl ly43 rfl rfl fun _ => ?_
          refine r_load (i := 18) (u := 1) (w := 0) rfl rfl rfl ?_
          refine a_int (i := 19) rfl ly51 rfl (by omega) (by omega) fun h27 => ?_
          have h28 := hI.a ta51 t.toNat
          refine r_const (i := 20) (u := 4) (z := 4) rfl rfl ?_
          refine c_ge (i := 21) (v := 29) rfl ⟨by omega, by omega⟩ ⟨by omega, by omega⟩ (fun h29 => ?_) (fun h30 => ?_)
          · refine r_const (i := 29) (u := 0) (z := 0) rfl rfl ?_
            refine r_store (i := 30) (u := 3) (w := 0) (L1 := [some ((2, 43)), some (vi t), some (vi f), some (vi 0), none]) rfl rfl rfl rfl ?_
            refine r_const (i := 31) (u := 0) (z := 0) rfl rfl ?_
            refine r_store (i := 32) (u := 4) (w := 0) (L1 := [some ((2, 43)), some (vi t), some (vi f), some (vi 0), some (vi 0)]) rfl rfl rfl rfl ?_
            have h31 := hI.a ta51 t.toNat
            exact lp206_33 h_t h_f  hd _ S hI hF hR 0 0 ⟨by omega, by omega⟩ ⟨by omega, by omega⟩ (by omega) (by exact fun j9 => ⟨rfl, rfl⟩) (by exact fun hf9 => ⟨fun h9 => absurd h9 (by omega), fun _ hc => by obtain ⟨c1, c2, c3, c4, -⟩ := hc; omega⟩) (by omega) (Int.lt_succ_toNat _)
          · refine r_load (i := 22) (u := 0) (w := 2) rfl rfl rfl ?_
            refine r_load (i := 23) (u := 2) (w := 0) rfl rfl rfl ?_
            refine r_load (i := 24) (u := 1) (w := 0) rfl rfl rfl ?_
            refine r_call (i := 25) (u := 11) (v := 262) (w := 0) (b := 0) (na := 1795) (C2 := xC262) (as := [(2, 43), vi f, vi t]) (s := []) rfl rfl rfl rfl rfl rfl rfl (sp262 (t := f) (o := t) hI ⟨by omega, by omega⟩ ⟨by omega, by omega⟩   (by omega)) (fun r32 S33 hq34 => ?_)
            obtain ⟨z35, rfl, h36, h37, um38, hI39, hF40, hR41⟩ := hq34
            have hF42 := hF.trans hF40 rfl rfl
            have hR43 := hR.trans hR41 rfl
            refine Or.inr (Or.inl ⟨rfl, ?_⟩)
            refine z_ne (i := 26) (v := 29) rfl ⟨by omega, by omega⟩ (fun h44 => ?_) (fun h45 => ?_)
            · refine r_const (i := 29) (u := 0) (z := 0) rfl rfl ?_
              refine r_store (i := 30) (u := 3) (w := 0) (L1 := [some ((2, 43)), some (vi t), some (vi f), some (vi 0), none]) rfl rfl rfl rfl ?_
              refine r_const (i := 31) (u := 0) (z := 0) rfl rfl ?_
              refine r_store (i := 32) (u := 4) (w := 0) (L1 := [some ((2, 43)), some (vi t), some (vi f), some (vi 0), some (vi 0)]) rfl rfl rfl rfl ?_
              have h46 := hI39.f tf43_1
              have h47 : S33.f 43 1 = S.f 43 1 := hF40.f rfl
              have h48 := hI39.a ta51 t.toNat
              have h49 : S33.a 51 t.toNat = S.a 51 t.toNat := hF40.a rfl _
              exact lp206_33 h_t h_f  hd _ S33 hI39 hF42 hR43 0 0 ⟨by omega, by omega⟩ ⟨by omega, by omega⟩ (by omega) (by exact fun j9 => ⟨hF40.a rfl j9, hF40.a rfl j9⟩) (by first | exact fun hf9 => ⟨fun _ => ⟨by omega, by omega, by omega, by omega, fun q9 => absurd ((um38 hf9 (by omega) (by omega) (by omega)).mpr q9) (by omega), nf_0⟩, fun h9 => absurd h9 (by omega)⟩ | exact fun hf9 => ⟨fun h9 => absurd h9 (by omega), fun _ hc => hc.2.2.2.2.1 ((um38 hf9 (by omega) (by omega) (by omega)).mp (by omega))⟩) (by omega) (Int.lt_succ_toNat _)
            · refine r_const (i := 27) (u := 1) (z := 1) rfl rfl ?_
              refine r_goto (i := 28) (v := 30) rfl ?_
              refine r_store (i := 30) (u := 3) (w := 0) (L1 := [some ((2, 43)), some (vi t), some (vi f), some (vi 1), none]) rfl rfl rfl rfl ?_
              refine r_const (i := 31) (u := 0) (z := 0) rfl rfl ?_
              refine r_store (i := 32) (u := 4) (w := 0) (L1 := [some ((2, 43)), some (vi t), some (vi f), some (vi 1), some (vi 0)]) rfl rfl rfl rfl ?_
              have h50 := hI39.f tf43_1
              have h51 : S33.f 43 1 = S.f 43 1 := hF40.f rfl
              have h52 := hI39.a ta51 t.toNat
              have h53 : S33.a 51 t.toNat = S.a 51 t.toNat := hF40.a rfl _
              exact lp206_33 h_t h_f  hd _ S33 hI39 hF42 hR43 1 0 ⟨by omega, by omega⟩ ⟨by omega, by omega⟩ (by omega) (by exact fun j9 => ⟨hF40.a rfl j9, hF40.a rfl j9⟩) (by first | exact fun hf9 => ⟨fun _ => ⟨by omega, by omega, by omega, by omega, fun q9 => absurd ((um38 hf9 (by omega) (by omega) (by omega)).mpr q9) (by omega), nf_0⟩, fun h9 => absurd h9 (by omega)⟩ | exact fun hf9 => ⟨fun h9 => absurd h9 (by omega), fun _ hc => hc.2.2.2.2.1 ((um38 hf9 (by omega) (by omega) (by omega)).mp (by omega))⟩) (by omega) (Int.lt_succ_toNat _)
theorem lp255_28 {G : xk} {d : Nat} {S0 : yS} {m : Int} (h_m : -2147483648 ≤ m ∧ m ≤ 2147483647) {t : Int} (h_t : -2147483648 ≤ t ∧ t ≤ 2147483647) (hd : 1 ≤ d + 1) : ∀ (n : Nat), ∀ (S : yS) (hI : yI S) (hF : yFr [(43, 0)] [57, 58, 68] S0 S) (hR : yRm [] S0 S) (g0 j : Int) (h_g0 : 0 ≤ g0 ∧ g0 ≤ 1) (h_j : 0 ≤ j ∧ j ≤ 3) (q_0 : g0 = 1 → 3 < m ∧ m < S.f 43 10 ∧ 0 ≤ t ∧ t < S.f 43 1 ∧ S.a 58 m.toNat ≤ 2) (hn : 3 - j < (n : Nat)), yT xPr G LY xC255 28 [some ((2, 43)), some (vi m), some (vi t), some (vi g0), some (vi j)] [] S (d + 1) (fun r S' => r = (0, (0, 0)) ∧ yI S' ∧ yFr [(43, 0)] [57, 58, 68] S0 S' ∧ yRm [] S0 S') := by
  intro n
  induction n with
  | zero => intro S hI hF hR g0 j h_g0 h_j q_0 hn; exact absurd hn (by omega)
  | succ n ih =>
    intro S hI hF hR g0 j h_g0 h_j q_0 hn
    have h1 := hI.f tf43_10
    have h2 : S.f 43 10 = S0.f 43 10 := hF.f rfl
    have h3 := hI.f tf43_1
    have h4 : S.f 43 1 = S0.f 43 1 := hF.f rfl
    have h5 := hI.a ta58 m.toNat
    refine r_load (i := 28) (u := 3) (w := 0) rfl rfl rfl ?_
    refine z_eq (i := 29) (v := 52) rfl ⟨by omega, by omega⟩ (fun h6 => ?_) (fun h7 => ?_)
    · refine r_load (i := 52) (u := 0) (w := 2) rfl rfl rfl ?_
      refine r_load (i := 53) (u := 3) (w := 0) rfl rfl rfl ?_
      refine z_eq (i := 54) (v := 57) rfl ⟨by omega, by omega⟩ (fun h8 => ?_) (fun h9 => ?_)
      · refine r_const (i := 57) (u := 1) (z := 1) rfl rfl ?_
        refine r_putI (i := 58) (v := 0) (w := 11) rfl ly43 rfl ⟨by omega, by omega⟩ ?_
        have hI11 := hI.setf (b := 43) (w := 0) (z := 1) tf43_0 rfl (by omega) (by omega)
        have hF13 := hF.setf (b := 43) (w := 0) (z := 1) rfl
        have hR14 := hR.setf (b := 43) (w := 0) (z := 1)
        refine yT_gen (fun S10 hS12 => ?_)
        rw [hS12] at hI11 hF13 hR14 
        refine r_load (i := 59) (u := 3) (w := 0) rfl rfl rfl ?_
        refine z_ne (i := 60) (v := 62) rfl ⟨by omega, by omega⟩ (fun h15 => ?_) (fun h16 => ?_)
        · refine r_load (i := 62) (u := 0) (w := 2) rfl rfl rfl ?_
          refine r_getf (i := 63) (v := 16) (w := 11) (x := (2, 57)) rfl ly43 rfl rfl fun _ => ?_
          refine r_const (i := 64) (u := 3) (z := 3) rfl rfl ?_
          refine r_load (i := 65) (u := 1) (w := 0) rfl rfl rfl ?_
          refine r_imul (i := 66) rfl ?_
          refine r_load (i := 67) (u := 0) (w := 2) rfl rfl rfl ?_
          refine r_getf (i := 68) (v := 17) (w := 11) (x := (2, 58)) rfl ly43 rfl rfl fun _ => ?_
          refine r_load (i := 69) (u := 1) (w := 0) rfl rfl rfl ?_
          refine a_int (i := 70) rfl ly58 rfl (by omega) (by omega) fun h19 => ?_
          have h20 := hI11.a ta58 m.toNat
          have h21 : S10.a 58 m.toNat = S.a 58 m.toNat := by rw [← hS12]; rfl
          refine r_iadd (i := 71) rfl ?_
          refine r_load (i := 72) (u := 2) (w := 0) rfl rfl rfl ?_
          refine s_int (i := 73) rfl ly57 rfl (by omega) (by omega) ⟨by omega, by omega⟩ ?_
          have hI23 := hI11.seta (b := 57) (j := ((3 * m) + (S10.a 58 m.toNat)).toNat) (z := t) ta57 rfl (by omega) (by omega)
          have hF25 := hF13.seta (b := 57) (j := ((3 * m) + (S10.a 58 m.toNat)).toNat) (z := t) rfl
          have hR26 := hR14.seta (b := 57) (j := ((3 * m) + (S10.a 58 m.toNat)).toNat) (z := t)
          refine yT_gen (fun S22 hS24 => ?_)
          rw [hS24] at hI23 hF25 hR26 
          refine r_load (i := 74) (u := 0) (w := 2) rfl rfl rfl ?_
          refine r_getf (i := 75) (v := 17) (w := 11) (x := (2, 58)) rfl ly43 rfl rfl fun _ => ?_
          refine r_load (i := 76) (u := 1) (w := 0) rfl rfl rfl ?_
          refine r_dup2 (i := 77) rfl rfl rfl ?_
          refine a_int (i := 78) rfl ly58 rfl (by omega) (by omega) fun h28 => ?_
          have h29 := hI23.a ta58 m.toNat
          have h30 : S22.a 58 m.toNat = S10.a 58 m.toNat := by rw [← hS24]; rfl
          have h31 : S10.a 58 m.toNat = S.a 58 m.toNat := by rw [← hS12]; rfl
          refine r_const (i := 79) (u := 1) (z := 1) rfl rfl ?_
          refine r_iadd (i := 80) rfl ?_
          refine s_int (i := 81) rfl ly58 rfl (by omega) (by omega) ⟨by omega, by omega⟩ ?_
          have hI33 := hI23.seta (b := 58) (j := m.toNat) (z := (S22.a 58 m.toNat) + 1) ta58 rfl (by omega) (by omega)
          have hF35 := hF25.seta (b := 58) (j := m.toNat) (z := (S22.a 58 m.toNat) + 1) rfl
          have hR36 := hR26.seta (b := 58) (j := m.toNat) (z := (S22.a 58 m.toNat) + 1)
          refine yT_gen (fun S32 hS34 => ?_)
          rw [hS34] at hI33 hF35 hR36 
          exact r_ret0 (i := 82) rfl ⟨rfl,  hI33, hF35, hR36⟩
        · exact r_ret0 (i := 61) rfl ⟨rfl,  hI11, hF13, hR14⟩
      · refine r_const (i := 55) (u := 0) (z := 0) rfl rfl ?_
        refine r_goto (i := 56) (v := 58) rfl ?_
        refine r_putI (i := 58) (v := 0) (w := 11) rfl ly43 rfl ⟨by omega, by omega⟩ ?_
        have hI38 := hI.setf (b := 43) (w := 0) (z := 0) tf43_0 rfl (by omega) (by omega)
        have hF40 := hF.setf (b := 43) (w := 0) (z := 0) rfl
        have hR41 := hR.setf (b := 43) (w := 0) (z := 0)
        refine yT_gen (fun S37 hS39 => ?_)
        rw [hS39] at hI38 hF40 hR41 
        refine r_load (i := 59) (u := 3) (w := 0) rfl rfl rfl ?_
        refine z_ne (i := 60) (v := 62) rfl ⟨by omega, by omega⟩ (fun h42 => ?_) (fun h43 => ?_)
        · refine r_load (i := 62) (u := 0) (w := 2) rfl rfl rfl ?_
          refine r_getf (i := 63) (v := 16) (w := 11) (x := (2, 57)) rfl ly43 rfl rfl fun _ => ?_
          refine r_const (i := 64) (u := 3) (z := 3) rfl rfl ?_
          refine r_load (i := 65) (u := 1) (w := 0) rfl rfl rfl ?_
          refine r_imul (i := 66) rfl ?_
          refine r_load (i := 67) (u := 0) (w := 2) rfl rfl rfl ?_
          refine r_getf (i := 68) (v := 17) (w := 11) (x := (2, 58)) rfl ly43 rfl rfl fun _ => ?_
          refine r_load (i := 69) (u := 1) (w := 0) rfl rfl rfl ?_
          refine a_int (i := 70) rfl ly58 rfl (by omega) (by omega) fun h46 => ?_
          have h47 := hI38.a ta58 m.toNat
          have h48 : S37.a 58 m.toNat = S.a 58 m.toNat := by rw [← hS39]; rfl
          refine r_iadd (i := 71) rfl ?_
          refine r_load (i := 72) (u := 2) (w := 0) rfl rfl rfl ?_
          refine s_int (i := 73) rfl ly57 rfl (by omega) (by omega) ⟨by omega, by omega⟩ ?_
          have hI50 := hI38.seta (b := 57) (j := ((3 * m) + (S37.a 58 m.toNat)).toNat) (z := t) ta57 rfl (by omega) (by omega)
          have hF52 := hF40.seta (b := 57) (j := ((3 * m) + (S37.a 58 m.toNat)).toNat) (z := t) rfl
          have hR53 := hR41.seta (b := 57) (j := ((3 * m) + (S37.a 58 m.toNat)).toNat) (z := t)
          refine yT_gen (fun S49 hS51 => ?_)
          rw [hS51] at hI50 hF52 hR53 
          refine r_load (i := 74) (u := 0) (w := 2) rfl rfl rfl ?_
          refine r_getf (i := 75) (v := 17) (w := 11) (x := (2, 58)) rfl ly43 rfl rfl fun _ => ?_
          refine r_load (i := 76) (u := 1) (w := 0) rfl rfl rfl ?_
          refine r_dup2 (i := 77) rfl rfl rfl ?_
          refine a_int (i := 78) rfl ly58 rfl (by omega) (by omega) fun h55 => ?_
          have h56 := hI50.a ta58 m.toNat
          have h57 : S49.a 58 m.toNat = S37.a 58 m.toNat := by rw [← hS51]; rfl
          have h58 : S37.a 58 m.toNat = S.a 58 m.toNat := by rw [← hS39]; rfl
          refine r_const (i := 79) (u := 1) (z := 1) rfl rfl ?_
          refine r_iadd (i := 80) rfl ?_
          refine s_int (i := 81) rfl ly58 rfl (by omega) (by omega) ⟨by omega, by omega⟩ ?_
          have hI60 := hI50.seta (b := 58) (j := m.toNat) (z := (S49.a 58 m.toNat) + 1) ta58 rfl (by omega) (by omega)
          have hF62 := hF52.seta (b := 58) (j := m.toNat) (z := (S49.a 58 m.toNat) + 1) rfl
          have hR63 := hR53.seta (b := 58) (j := m.toNat) (z := (S49.a 58 m.toNat) + 1)
          refine yT_gen (fun S59 hS61 => ?_)
          rw [hS61] at hI60 hF62 hR63 
          exact r_ret0 (i := 82) rfl ⟨rfl,  hI60, hF62, hR63⟩
        · exact r_ret0 (i := 61) rfl ⟨rfl,  hI38, hF40, hR41⟩
    · refine r_load (i := 30) (u := 4) (w := 0) rfl rfl rfl ?_
      refine r_load (i := 31) (u := 0) (w := 2) rfl rfl rfl ?_
      refine r_getf (i := 32) (v := 17) (w := 11) (x := (2, 58)) rfl ly43 rfl rfl fun _ => ?_
      refine r_load (i := 33) (u := 1) (w := 0) rfl rfl rfl ?_
      refine a_int (i := 34) rfl ly58 rfl (by omega) (by omega) fun h65 => ?_
      have h66 := hI.a ta58 m.toNat
      refine c_ge (i := 35) (v := 52) rfl ⟨by omega, by omega⟩ ⟨by omega, by omega⟩ (fun h67 => ?_) (fun h68 => ?_)
      · refine r_load (i := 52) (u := 0) (w := 2) rfl rfl rfl ?_
        refine r_load (i := 53) (u := 3) (w := 0) rfl rfl rfl ?_
        refine z_eq (i := 54) (v := 57) rfl ⟨by omega, by omega⟩ (fun h69 => ?_) (fun h70 => ?_)
        · refine r_const (i := 57) (u := 1) (z := 1) rfl rfl ?_
          refine r_putI (i := 58) (v := 0) (w := 11) rfl ly43 rfl ⟨by omega, by omega⟩ ?_
          have hI72 := hI.setf (b := 43) (w := 0) (z := 1) tf43_0 rfl (by omega) (by omega)
          have hF74 := hF.setf (b := 43) (w := 0) (z := 1) rfl
          have hR75 := hR.setf (b := 43) (w := 0) (z := 1)
          refine yT_gen (fun S71 hS73 => ?_)
          rw [hS73] at hI72 hF74 hR75 
          refine r_load (i := 59) (u := 3) (w := 0) rfl rfl rfl ?_
          refine z_ne (i := 60) (v := 62) rfl ⟨by omega, by omega⟩ (fun h76 => ?_) (fun h77 => ?_)
          · refine r_load (i := 62) (u := 0) (w := 2) rfl rfl rfl ?_
            refine r_getf (i := 63) (v := 16) (w := 11) (x := (2, 57)) rfl ly43 rfl rfl fun _ => ?_
            refine r_const (i := 64) (u := 3) (z := 3) rfl rfl ?_
            refine r_load (i := 65) (u := 1) (w := 0) rfl rfl rfl ?_
            refine r_imul (i := 66) rfl ?_
            refine r_load (i := 67) (u := 0) (w := 2) rfl rfl rfl ?_
            refine r_getf (i := 68) (v := 17) (w := 11) (x := (2, 58)) rfl ly43 rfl rfl fun _ => ?_
            refine r_load (i := 69) (u := 1) (w := 0) rfl rfl rfl ?_
            refine a_int (i := 70) rfl ly58 rfl (by omega) (by omega) fun h80 => ?_
            have h81 := hI72.a ta58 m.toNat
            have h82 : S71.a 58 m.toNat = S.a 58 m.toNat := by rw [← hS73]; rfl
            refine r_iadd (i := 71) rfl ?_
            refine r_load (i := 72) (u := 2) (w := 0) rfl rfl rfl ?_
            refine s_int (i := 73) rfl ly57 rfl (by omega) (by omega) ⟨by omega, by omega⟩ ?_
            have hI84 := hI72.seta (b := 57) (j := ((3 * m) + (S71.a 58 m.toNat)).toNat) (z := t) ta57 rfl (by omega) (by omega)
            have hF86 := hF74.seta (b := 57) (j := ((3 * m) + (S71.a 58 m.toNat)).toNat) (z := t) rfl
            have hR87 := hR75.seta (b := 57) (j := ((3 * m) + (S71.a 58 m.toNat)).toNat) (z := t)
            refine yT_gen (fun S83 hS85 => ?_)
            rw [hS85] at hI84 hF86 hR87 
            refine r_load (i := 74) (u := 0) (w := 2) rfl rfl rfl ?_
            refine r_getf (i := 75) (v := 17) (w := 11) (x := (2, 58)) rfl ly43 rfl rfl fun _ => ?_
            refine r_load (i := 76) (u := 1) (w := 0) rfl rfl rfl ?_
            refine r_dup2 (i := 77) rfl rfl rfl ?_
            refine a_int (i := 78) rfl ly58 rfl (by omega) (by omega) fun h89 => ?_
            have h90 := hI84.a ta58 m.toNat
            have h91 : S83.a 58 m.toNat = S71.a 58 m.toNat := by rw [← hS85]; rfl
            have h92 : S71.a 58 m.toNat = S.a 58 m.toNat := by rw [← hS73]; rfl
            refine r_const (i := 79) (u := 1) (z := 1) rfl rfl ?_
            refine r_iadd (i := 80) rfl ?_
            refine s_int (i := 81) rfl ly58 rfl (by omega) (by omega) ⟨by omega, by omega⟩ ?_
            have hI94 := hI84.seta (b := 58) (j := m.toNat) (z := (S83.a 58 m.toNat) + 1) ta58 rfl (by omega) (by omega)
            have hF96 := hF86.seta (b := 58) (j := m.toNat) (z := (S83.a 58 m.toNat) + 1) rfl
            have hR97 := hR87.seta (b := 58) (j := m.toNat) (z := (S83.a 58 m.toNat) + 1)
            refine yT_gen (fun S93 hS95 => ?_)
            rw [hS95] at hI94 hF96 hR97 
            exact r_ret0 (i := 82) rfl ⟨rfl,  hI94, hF96, hR97⟩
          · exact r_ret0 (i := 61) rfl ⟨rfl,  hI72, hF74, hR75⟩
        · refine r_const (i := 55) (u := 0) (z := 0) rfl rfl ?_
          refine r_goto (i := 56) (v := 58) rfl ?_
          refine r_putI (i := 58) (v := 0) (w := 11) rfl ly43 rfl ⟨by omega, by omega⟩ ?_
          have hI99 := hI.setf (b := 43) (w := 0) (z := 0) tf43_0 rfl (by omega) (by omega)
          have hF101 := hF.setf (b := 43) (w := 0) (z := 0) rfl
          have hR102 := hR.setf (b := 43) (w := 0) (z := 0)
          refine yT_gen (fun S98 hS100 => ?_)
          rw [hS100] at hI99 hF101 hR102 
          refine r_load (i := 59) (u := 3) (w := 0) rfl rfl rfl ?_
          refine z_ne (i := 60) (v := 62) rfl ⟨by omega, by omega⟩ (fun h103 => ?_) (fun h104 => ?_)
          · refine r_load (i := 62) (u := 0) (w := 2) rfl rfl rfl ?_
            refine r_getf (i := 63) (v := 16) (w := 11) (x := (2, 57)) rfl ly43 rfl rfl fun _ => ?_
            refine r_const (i := 64) (u := 3) (z := 3) rfl rfl ?_
            refine r_load (i := 65) (u := 1) (w := 0) rfl rfl rfl ?_
            refine r_imul (i := 66) rfl ?_
            refine r_load (i := 67) (u := 0) (w := 2) rfl rfl rfl ?_
            refine r_getf (i := 68) (v := 17) (w := 11) (x := (2, 58)) rfl ly43 rfl rfl fun _ => ?_
            refine r_load (i := 69) (u := 1) (w := 0) rfl rfl rfl ?_
            refine a_int (i := 70) rfl ly58 rfl (by omega) (by omega) fun h107 => ?_
            have h108 := hI99.a ta58 m.toNat
            have h109 : S98.a 58 m.toNat = S.a 58 m.toNat := by rw [← hS100]; rfl
            refine r_iadd (i := 71) rfl ?_
            refine r_load (i := 72) (u := 2) (w := 0) rfl rfl rfl ?_
            refine s_int (i := 73) rfl ly57 rfl (by omega) (by omega) ⟨by omega, by omega⟩ ?_
            have hI111 := hI99.seta (b := 57) (j := ((3 * m) + (S98.a 58 m.toNat)).toNat) (z := t) ta57 rfl (by omega) (by omega)
            have hF113 := hF101.seta (b := 57) (j := ((3 * m) + (S98.a 58 m.toNat)).toNat) (z := t) rfl
            have hR114 := hR102.seta (b := 57) (j := ((3 * m) + (S98.a 58 m.toNat)).toNat) (z := t)
            refine yT_gen (fun S110 hS112 => ?_)
            rw [hS112] at hI111 hF113 hR114 
            refine r_load (i := 74) (u := 0) (w := 2) rfl rfl rfl ?_
            refine r_getf (i := 75) (v := 17) (w := 11) (x := (2, 58)) rfl ly43 rfl rfl fun _ => ?_
            refine r_load (i := 76) (u := 1) (w := 0) rfl rfl rfl ?_
            refine r_dup2 (i := 77) rfl rfl rfl ?_
            refine a_int (i := 78) rfl ly58 rfl (by omega) (by omega) fun h116 => ?_
            have h117 := hI111.a ta58 m.toNat
            have h118 : S110.a 58 m.toNat = S98.a 58 m.toNat := by rw [← hS112]; rfl
            have h119 : S98.a 58 m.toNat = S.a 58 m.toNat := by rw [← hS100]; rfl
            refine r_const (i := 79) (u := 1) (z := 1) rfl rfl ?_
            refine r_iadd (i := 80) rfl ?_
            refine s_int (i := 81) rfl ly58 rfl (by omega) (by omega) ⟨by omega, by omega⟩ ?_
            have hI121 := hI111.seta (b := 58) (j := m.toNat) (z := (S110.a 58 m.toNat) + 1) ta58 rfl (by omega) (by omega)
            have hF123 := hF113.seta (b := 58) (j := m.toNat) (z := (S110.a 58 m.toNat) + 1) rfl
            have hR124 := hR114.seta (b := 58) (j := m.toNat) (z := (S110.a 58 m.toNat) + 1)
            refine yT_gen (fun S120 hS122 => ?_)
            rw [hS122] at hI121 hF123 hR124 
            exact r_ret0 (i := 82) rfl ⟨rfl,  hI121, hF123, hR124⟩
          · exact r_ret0 (i := 61) rfl ⟨rfl,  hI99, hF101, hR102⟩
      · refine r_load (i := 36) (u := 0) (w := 2) rfl rfl rfl ?_
        refine r_getf (i := 37) (v := 16) (w := 11) (x := (2, 57)) rfl ly43 rfl rfl fun _ => ?_
        refine r_const (i := 38) (u := 3) (z := 3) rfl rfl ?_
        refine r_load (i := 39) (u := 1) (w := 0) rfl rfl rfl ?_
        refine r_imul (i := 40) rfl ?_
        refine r_load (i := 41) (u := 4) (w := 0) rfl rfl rfl ?_
        refine r_iadd (i := 42) rfl ?_
        refine a_int (i := 43) rfl ly57 rfl (by omega) (by omega) fun h126 => ?_
        have h127 := hI.a ta57 ((3 * m) + j).toNat
        refine r_load (i := 44) (u := 2) (w := 0) rfl rfl rfl ?_
        refine c_eq (i := 45) (v := 48) rfl ⟨by omega, by omega⟩ ⟨by omega, by omega⟩ (fun h128 => ?_) (fun h129 => ?_)
        · refine r_const (i := 48) (u := 0) (z := 0) rfl rfl ?_
          refine r_store (i := 49) (u := 3) (w := 0) (L1 := [some ((2, 43)), some (vi m), some (vi t), some (vi 0), some (vi j)]) rfl rfl rfl rfl ?_
          refine r_iinc (i := 50) (u := 1) (v := 4) (s := 1) (L1 := [some ((2, 43)), some (vi m), some (vi t), some (vi 0), some (vi (j + 1))]) rfl rfl rfl rfl rfl ?_
          refine r_goto (i := 51) (v := 28) rfl ?_
          have h130 := hI.a ta58 m.toNat
          exact ih S hI hF hR 0 (j + 1) ⟨by omega, by omega⟩ ⟨by omega, by omega⟩ (by omega) (by omega)
        · refine r_const (i := 46) (u := 1) (z := 1) rfl rfl ?_
          refine r_goto (i := 47) (v := 49) rfl ?_
          refine r_store (i := 49) (u := 3) (w := 0) (L1 := [some ((2, 43)), some (vi m), some (vi t), some (vi 1), some (vi j)]) rfl rfl rfl rfl ?_
          refine r_iinc (i := 50) (u := 1) (v := 4) (s := 1) (L1 := [some ((2, 43)), some (vi m), some (vi t), some (vi 1), some (vi (j + 1))]) rfl rfl rfl rfl rfl ?_
          refine r_goto (i := 51) (v := 28) rfl ?_
          have h131 := hI.a ta58 m.toNat
          exact ih S hI hF hR 1 (j + 1) ⟨by omega, by omega⟩ ⟨by omega, by omega⟩ (by omega) (by omega)
/-- ProxyForgeModel.throwing -/
theorem sp255 {G : xk} {S : yS} {d : Nat} (hI : yI S) {m : Int} (h_m : -2147483648 ≤ m ∧ m ≤ 2147483647) {t : Int} (h_t : -2147483648 ≤ t ∧ t ≤ 2147483647) (hd : 1 ≤ d) : yT xPr G LY xC255 0 [some ((2, 43)), some (vi m), some (vi t)] [] S d (fun r S' => r = (0, (0, 0)) ∧ yI S' ∧ yFr [(43, 0)] [57, 58, 68] S S' ∧ yRm [] S S') := by
  refine yT_pad 2 ?_
  show yT xPr G LY xC255 0 [some ((2, 43)), some (vi m), some (vi t), none, none] [] S d _
  obtain ⟨d, rfl⟩ : ∃ q, d = q + 1 := ⟨d - 1, by omega⟩
  have hF : yFr [(43, 0)] [57, 58, 68] S S := yFr.refl S
  have hR : yRm [] S S := yRm.refl S
  refine r_load (i := 0) (u := 1) (w := 0) rfl rfl rfl ?_
  refine r_const (i := 1) (u := 3) (z := 3) rfl rfl ?_
  refine c_le (i := 2) (v := 24) rfl ⟨by omega, by omega⟩ ⟨by omega, by omega⟩ (fun h1 => ?_) (fun h2 => ?_)
  · refine r_const (i := 24) (u := 0) (z := 0) rfl rfl ?_
    refine r_store (i := 25) (u := 3) (w := 0) (L1 := [some ((2, 43)), some (vi m), some (vi t), some (vi 0), none]) rfl rfl rfl rfl ?_
    refine r_const (i := 26) (u := 0) (z := 0) rfl rfl ?_
    refine r_store (i := 27) (u := 4) (w := 0) (L1 := [some ((2, 43)), some (vi m), some (vi t), some (vi 0), some (vi 0)]) rfl rfl rfl rfl ?_
    have h3 := hI.f tf43_10
    have h4 := hI.f tf43_1
    have h5 := hI.a ta58 m.toNat
    exact lp255_28 h_m h_t  hd _ S hI hF hR 0 0 ⟨by omega, by omega⟩ ⟨by omega, by omega⟩ (by omega) (Int.lt_succ_toNat _)
  · refine r_load (i := 3) (u := 1) (w := 0) rfl rfl rfl ?_
    refine r_load (i := 4) (u := 0) (w := 2) rfl rfl rfl ?_
    have h6 := hI.f tf43_10
    refine r_getf (i := 5) (v := 10) (w := 11) (x := vi (S.f 43 10)) rfl ly43 rfl rfl fun h7 => ?_
    have h7 : Rg (S.f 43 10) := h7
    refine c_ge (i := 6) (v := 24) rfl ⟨by omega, by omega⟩ ⟨by omega, by omega⟩ (fun h8 => ?_) (fun h9 => ?_)
    · refine r_const (i := 24) (u := 0) (z := 0) rfl rfl ?_
      refine r_store (i := 25) (u := 3) (w := 0) (L1 := [some ((2, 43)), some (vi m), some (vi t), some (vi 0), none]) rfl rfl rfl rfl ?_
      refine r_const (i := 26) (u := 0) (z := 0) rfl rfl ?_
      refine r_store (i := 27) (u := 4) (w := 0) (L1 := [some ((2, 43)), some (vi m), some (vi t), some (vi 0), some (vi 0)]) rfl rfl rfl rfl ?_
      have h10 := hI.f tf43_1
      have h11 := hI.a ta58 m.toNat
      exact lp255_28 h_m h_t  hd _ S hI hF hR 0 0 ⟨by omega, by omega⟩ ⟨by omega, by omega⟩ (by omega) (Int.lt_succ_toNat _)
    · refine r_load (i := 7) (u := 0) (w := 2) rfl rfl rfl ?_
      refine r_load (i := 8) (u := 2) (w := 0) rfl rfl rfl ?_
      have h12 := hI.f tf43_1
      refine r_call (i := 9) (u := 11) (v := 213) (w := 0) (b := 0) (na := 514) (C2 := xC213) (as := [(2, 43), vi t]) (s := []) rfl rfl rfl rfl rfl rfl rfl (sp213 (t := t) hI ⟨by omega, by omega⟩   (by omega)) (fun r13 S14 hq15 => ?_)
      obtain ⟨z16, rfl, h17, h18, h19, h20, rfl⟩ := hq15
      refine Or.inr (Or.inl ⟨rfl, ?_⟩)
      refine z_eq (i := 10) (v := 24) rfl ⟨by omega, by omega⟩ (fun h21 => ?_) (fun h22 => ?_)
      · refine r_const (i := 24) (u := 0) (z := 0) rfl rfl ?_
        refine r_store (i := 25) (u := 3) (w := 0) (L1 := [some ((2, 43)), some (vi m), some (vi t), some (vi 0), none]) rfl rfl rfl rfl ?_
        refine r_const (i := 26) (u := 0) (z := 0) rfl rfl ?_
        refine r_store (i := 27) (u := 4) (w := 0) (L1 := [some ((2, 43)), some (vi m), some (vi t), some (vi 0), some (vi 0)]) rfl rfl rfl rfl ?_
        have h23 := hI.a ta58 m.toNat
        exact lp255_28 h_m h_t  hd _ S hI hF hR 0 0 ⟨by omega, by omega⟩ ⟨by omega, by omega⟩ (by omega) (Int.lt_succ_toNat _)
      · refine r_load (i := 11) (u := 0) (w := 2) rfl rfl rfl ?_
        refine r_load (i := 12) (u := 2) (w := 0) rfl rfl rfl ?_
        refine r_const (i := 13) (u := 1) (z := 1) rfl rfl ?_
        refine r_call (i := 14) (u := 11) (v := 262) (w := 0) (b := 0) (na := 1795) (C2 := xC262) (as := [(2, 43), vi t, vi 1]) (s := []) rfl rfl rfl rfl rfl rfl rfl (sp262 (t := t) (o := 1) hI ⟨by omega, by omega⟩ ⟨by omega, by omega⟩   (by omega)) (fun r24 S25 hq26 => ?_)
        obtain ⟨z27, rfl, h28, h29, um30, hI31, hF32, hR33⟩ := hq26
        have hF34 := hF.trans hF32 rfl rfl
        have hR35 := hR.trans hR33 rfl
        refine Or.inr (Or.inl ⟨rfl, ?_⟩)
        refine z_eq (i := 15) (v := 24) rfl ⟨by omega, by omega⟩ (fun h36 => ?_) (fun h37 => ?_)
        · refine r_const (i := 24) (u := 0) (z := 0) rfl rfl ?_
          refine r_store (i := 25) (u := 3) (w := 0) (L1 := [some ((2, 43)), some (vi m), some (vi t), some (vi 0), none]) rfl rfl rfl rfl ?_
          refine r_const (i := 26) (u := 0) (z := 0) rfl rfl ?_
          refine r_store (i := 27) (u := 4) (w := 0) (L1 := [some ((2, 43)), some (vi m), some (vi t), some (vi 0), some (vi 0)]) rfl rfl rfl rfl ?_
          have h38 := hI31.f tf43_10
          have h39 : S25.f 43 10 = S.f 43 10 := hF32.f rfl
          have h40 := hI31.f tf43_1
          have h41 : S25.f 43 1 = S.f 43 1 := hF32.f rfl
          have h42 := hI31.a ta58 m.toNat
          have h43 : S25.a 58 m.toNat = S.a 58 m.toNat := hF32.a rfl _
          exact lp255_28 h_m h_t  hd _ S25 hI31 hF34 hR35 0 0 ⟨by omega, by omega⟩ ⟨by omega, by omega⟩ (by omega) (Int.lt_succ_toNat _)
        · refine r_load (i := 16) (u := 0) (w := 2) rfl rfl rfl ?_
          refine r_getf (i := 17) (v := 17) (w := 11) (x := (2, 58)) rfl ly43 rfl rfl fun _ => ?_
          refine r_load (i := 18) (u := 1) (w := 0) rfl rfl rfl ?_
          refine a_int (i := 19) rfl ly58 rfl (by omega) (by omega) fun h45 => ?_
          have h46 := hI31.a ta58 m.toNat
          have h47 : S25.a 58 m.toNat = S.a 58 m.toNat := hF32.a rfl _
          refine r_const (i := 20) (u := 3) (z := 3) rfl rfl ?_
          refine c_ge (i := 21) (v := 24) rfl ⟨by omega, by omega⟩ ⟨by omega, by omega⟩ (fun h48 => ?_) (fun h49 => ?_)
          · refine r_const (i := 24) (u := 0) (z := 0) rfl rfl ?_
            refine r_store (i := 25) (u := 3) (w := 0) (L1 := [some ((2, 43)), some (vi m), some (vi t), some (vi 0), none]) rfl rfl rfl rfl ?_
            refine r_const (i := 26) (u := 0) (z := 0) rfl rfl ?_
            refine r_store (i := 27) (u := 4) (w := 0) (L1 := [some ((2, 43)), some (vi m), some (vi t), some (vi 0), some (vi 0)]) rfl rfl rfl rfl ?_
            have h50 := hI31.f tf43_10
            have h51 : S25.f 43 10 = S.f 43 10 := hF32.f rfl
            have h52 := hI31.f tf43_1
            have h53 : S25.f 43 1 = S.f 43 1 := hF32.f rfl
            have h54 := hI31.a ta58 m.toNat
            exact lp255_28 h_m h_t  hd _ S25 hI31 hF34 hR35 0 0 ⟨by omega, by omega⟩ ⟨by omega, by omega⟩ (by omega) (Int.lt_succ_toNat _)
          · refine r_const (i := 22) (u := 1) (z := 1) rfl rfl ?_
            refine r_goto (i := 23) (v := 25) rfl ?_
            refine r_store (i := 25) (u := 3) (w := 0) (L1 := [some ((2, 43)), some (vi m), some (vi t), some (vi 1), none]) rfl rfl rfl rfl ?_
            refine r_const (i := 26) (u := 0) (z := 0) rfl rfl ?_
            refine r_store (i := 27) (u := 4) (w := 0) (L1 := [some ((2, 43)), some (vi m), some (vi t), some (vi 1), some (vi 0)]) rfl rfl rfl rfl ?_
            have h55 := hI31.f tf43_10
            have h56 : S25.f 43 10 = S.f 43 10 := hF32.f rfl
            have h57 := hI31.f tf43_1
            have h58 : S25.f 43 1 = S.f 43 1 := hF32.f rfl
            have h59 := hI31.a ta58 m.toNat
            exact lp255_28 h_m h_t  hd _ S25 hI31 hF34 hR35 1 0 ⟨by omega, by omega⟩ ⟨by omega, by omega⟩ (by omega) (Int.lt_succ_toNat _)
theorem lp182_14 {G : xk} {d : Nat} {S : yS} (hI : yI S) {a : Int} (h_a : -2147483648 ≤ a ∧ a ≤ 2147483647) (hd : 2 ≤ d + 1) : ∀ (n : Nat), ∀ (n1 g0 k : Int) (h_n1 : 0 ≤ n1 ∧ n1 ≤ 4) (h_g0 : 0 ≤ g0 ∧ g0 ≤ 1) (h_k : 0 ≤ k ∧ k ≤ 4) (q_0 : 0 ≤ a ∧ a < 1048576) (q_1 : g0 = 1 → (1 ≤ k → yand (yshr a (5 * 0)) 31 ≤ 23) ∧ (2 ≤ k → yand (yshr a (5 * 1)) 31 ≤ 23) ∧ (3 ≤ k → yand (yshr a (5 * 2)) 31 ≤ 23) ∧ (4 ≤ k → yand (yshr a (5 * 3)) 31 ≤ 23)) (hn : 4 - k < (n : Nat)), yT xPr G LY xC182 14 [some ((2, 43)), some (vi a), some (vi n1), some (vi g0), some (vi k)] [] S (d + 1) (fun r S' => ∃ z : Int, r = (1, vi z) ∧ 0 ≤ z ∧ z ≤ 1 ∧ (z = 1 → 0 ≤ a ∧ a < 1048576) ∧ (z = 1 → KP a) ∧ S = S') := by
  intro n
  induction n with
  | zero => intro n1 g0 k h_n1 h_g0 h_k q_0 q_1 hn; exact absurd hn (by omega)
  | succ n ih =>
    intro n1 g0 k h_n1 h_g0 h_k q_0 q_1 hn
    refine r_load (i := 14) (u := 4) (w := 0) rfl rfl rfl ?_
    refine r_const (i := 15) (u := 4) (z := 4) rfl rfl ?_
    refine c_ge (i := 16) (v := 39) rfl ⟨by omega, by omega⟩ ⟨by omega, by omega⟩ (fun h1 => ?_) (fun h2 => ?_)
    · refine r_load (i := 39) (u := 3) (w := 0) rfl rfl rfl ?_
      exact r_retZ (i := 40) rfl (by omega) (by omega) ⟨g0, rfl, by omega, by omega, (by omega), (by intro hz; first | exact absurd hz (by omega) | exact KP_of4 (by omega) (by omega) (by omega) (by omega)), rfl⟩
    · refine r_load (i := 17) (u := 3) (w := 0) rfl rfl rfl ?_
      refine z_eq (i := 18) (v := 35) rfl ⟨by omega, by omega⟩ (fun h3 => ?_) (fun h4 => ?_)
      · refine r_const (i := 35) (u := 0) (z := 0) rfl rfl ?_
        refine r_store (i := 36) (u := 3) (w := 0) (L1 := [some ((2, 43)), some (vi a), some (vi n1), some (vi 0), some (vi k)]) rfl rfl rfl rfl ?_
        refine r_iinc (i := 37) (u := 1) (v := 4) (s := 1) (L1 := [some ((2, 43)), some (vi a), some (vi n1), some (vi 0), some (vi (k + 1))]) rfl rfl rfl rfl rfl ?_
        refine r_goto (i := 38) (v := 14) rfl ?_
        exact ih n1 0 (k + 1) ⟨by omega, by omega⟩ ⟨by omega, by omega⟩ ⟨by omega, by omega⟩ (by omega) (by first | omega | (rcases (show k = 0 ∨ k = 1 ∨ k = 2 ∨ k = 3 by omega) with rfl | rfl | rfl | rfl <;> omega)) (by omega)
      · refine r_load (i := 19) (u := 4) (w := 0) rfl rfl rfl ?_
        refine r_load (i := 20) (u := 2) (w := 0) rfl rfl rfl ?_
        refine c_ge (i := 21) (v := 29) rfl ⟨by omega, by omega⟩ ⟨by omega, by omega⟩ (fun h5 => ?_) (fun h6 => ?_)
        · refine r_load (i := 29) (u := 1) (w := 0) rfl rfl rfl ?_
          refine r_load (i := 30) (u := 4) (w := 0) rfl rfl rfl ?_
          refine r_call (i := 31) (u := 65535) (v := 229) (w := 0) (b := 2) (na := 514) (C2 := xC229) (as := [vi a, vi k]) (s := []) rfl rfl rfl rfl rfl rfl rfl (sp229 (a := a) (k := k) hI ⟨by omega, by omega⟩ ⟨by omega, by omega⟩   (by omega)) (fun r7 S8 hq9 => ?_)
          obtain ⟨z10, rfl, h11, h12, h13, rfl⟩ := hq9
          refine Or.inr (Or.inl ⟨rfl, ?_⟩)
          refine z_ne (i := 32) (v := 35) rfl ⟨by omega, by omega⟩ (fun h14 => ?_) (fun h15 => ?_)
          · refine r_const (i := 35) (u := 0) (z := 0) rfl rfl ?_
            refine r_store (i := 36) (u := 3) (w := 0) (L1 := [some ((2, 43)), some (vi a), some (vi n1), some (vi 0), some (vi k)]) rfl rfl rfl rfl ?_
            refine r_iinc (i := 37) (u := 1) (v := 4) (s := 1) (L1 := [some ((2, 43)), some (vi a), some (vi n1), some (vi 0), some (vi (k + 1))]) rfl rfl rfl rfl rfl ?_
            refine r_goto (i := 38) (v := 14) rfl ?_
            exact ih n1 0 (k + 1) ⟨by omega, by omega⟩ ⟨by omega, by omega⟩ ⟨by omega, by omega⟩ (by omega) (by first | omega | (rcases (show k = 0 ∨ k = 1 ∨ k = 2 ∨ k = 3 by omega) with rfl | rfl | rfl | rfl <;> omega)) (by omega)
          · refine r_const (i := 33) (u := 1) (z := 1) rfl rfl ?_
            refine r_goto (i := 34) (v := 36) rfl ?_
            refine r_store (i := 36) (u := 3) (w := 0) (L1 := [some ((2, 43)), some (vi a), some (vi n1), some (vi 1), some (vi k)]) rfl rfl rfl rfl ?_
            refine r_iinc (i := 37) (u := 1) (v := 4) (s := 1) (L1 := [some ((2, 43)), some (vi a), some (vi n1), some (vi 1), some (vi (k + 1))]) rfl rfl rfl rfl rfl ?_
            refine r_goto (i := 38) (v := 14) rfl ?_
            exact ih n1 1 (k + 1) ⟨by omega, by omega⟩ ⟨by omega, by omega⟩ ⟨by omega, by omega⟩ (by omega) (by first | omega | (rcases (show k = 0 ∨ k = 1 ∨ k = 2 ∨ k = 3 by omega) with rfl | rfl | rfl | rfl <;> omega)) (by omega)
        · refine r_load (i := 22) (u := 0) (w := 2) rfl rfl rfl ?_
          refine r_load (i := 23) (u := 1) (w := 0) rfl rfl rfl ?_
          refine r_load (i := 24) (u := 4) (w := 0) rfl rfl rfl ?_
          refine r_call (i := 25) (u := 65535) (v := 229) (w := 0) (b := 2) (na := 514) (C2 := xC229) (as := [vi a, vi k]) (s := [(2, 43)]) rfl rfl rfl rfl rfl rfl rfl (sp229 (a := a) (k := k) hI ⟨by omega, by omega⟩ ⟨by omega, by omega⟩   (by omega)) (fun r16 S17 hq18 => ?_)
          obtain ⟨z19, rfl, h20, h21, h22, rfl⟩ := hq18
          refine Or.inr (Or.inl ⟨rfl, ?_⟩)
          have h23 := hI.f tf43_1
          refine r_call (i := 26) (u := 11) (v := 210) (w := 0) (b := 0) (na := 514) (C2 := xC210) (as := [(2, 43), vi z19]) (s := []) rfl rfl rfl rfl rfl rfl rfl (sp210 (k := z19) hI ⟨by omega, by omega⟩   (by omega)) (fun r24 S25 hq26 => ?_)
          obtain ⟨z27, rfl, h28, h29, h30, rfl⟩ := hq26
          refine Or.inr (Or.inl ⟨rfl, ?_⟩)
          refine z_eq (i := 27) (v := 35) rfl ⟨by omega, by omega⟩ (fun h31 => ?_) (fun h32 => ?_)
          · refine r_const (i := 35) (u := 0) (z := 0) rfl rfl ?_
            refine r_store (i := 36) (u := 3) (w := 0) (L1 := [some ((2, 43)), some (vi a), some (vi n1), some (vi 0), some (vi k)]) rfl rfl rfl rfl ?_
            refine r_iinc (i := 37) (u := 1) (v := 4) (s := 1) (L1 := [some ((2, 43)), some (vi a), some (vi n1), some (vi 0), some (vi (k + 1))]) rfl rfl rfl rfl rfl ?_
            refine r_goto (i := 38) (v := 14) rfl ?_
            exact ih n1 0 (k + 1) ⟨by omega, by omega⟩ ⟨by omega, by omega⟩ ⟨by omega, by omega⟩ (by omega) (by first | omega | (rcases (show k = 0 ∨ k = 1 ∨ k = 2 ∨ k = 3 by omega) with rfl | rfl | rfl | rfl <;> omega)) (by omega)
          · refine r_goto (i := 28) (v := 33) rfl ?_
            refine r_const (i := 33) (u := 1) (z := 1) rfl rfl ?_
            refine r_goto (i := 34) (v := 36) rfl ?_
            refine r_store (i := 36) (u := 3) (w := 0) (L1 := [some ((2, 43)), some (vi a), some (vi n1), some (vi 1), some (vi k)]) rfl rfl rfl rfl ?_
            refine r_iinc (i := 37) (u := 1) (v := 4) (s := 1) (L1 := [some ((2, 43)), some (vi a), some (vi n1), some (vi 1), some (vi (k + 1))]) rfl rfl rfl rfl rfl ?_
            refine r_goto (i := 38) (v := 14) rfl ?_
            exact ih n1 1 (k + 1) ⟨by omega, by omega⟩ ⟨by omega, by omega⟩ ⟨by omega, by omega⟩ (by omega) (by first | omega | (rcases (show k = 0 ∨ k = 1 ∨ k = 2 ∨ k = 3 by omega) with rfl | rfl | rfl | rfl <;> omega)) (by omega)
/-- ProxyForgeModel.areKinds -/
theorem sp182 {G : xk} {S : yS} {d : Nat} (hI : yI S) {a : Int} (h_a : -2147483648 ≤ a ∧ a ≤ 2147483647) (hd : 2 ≤ d) : yT xPr G LY xC182 0 [some ((2, 43)), some (vi a)] [] S d (fun r S' => ∃ z : Int, r = (1, vi z) ∧ 0 ≤ z ∧ z ≤ 1 ∧ (z = 1 → 0 ≤ a ∧ a < 1048576) ∧ (z = 1 → KP a) ∧ S = S') := by
  refine yT_pad 3 ?_
  show yT xPr G LY xC182 0 [some ((2, 43)), some (vi a), none, none, none] [] S d _
  obtain ⟨d, rfl⟩ : ∃ q, d = q + 1 := ⟨d - 1, by omega⟩
  refine r_load (i := 0) (u := 1) (w := 0) rfl rfl rfl ?_
  refine z_lt (i := 1) (v := 5) rfl ⟨by omega, by omega⟩ (fun h1 => ?_) (fun h2 => ?_)
  · refine r_const (i := 5) (u := 0) (z := 0) rfl rfl ?_
    exact r_retZ (i := 6) rfl (by omega) (by omega) ⟨0, rfl, by omega, by omega, (by omega), (by intro hz; first | exact absurd hz (by omega) | exact KP_of4 (by omega) (by omega) (by omega) (by omega)), rfl⟩
  · refine r_load (i := 2) (u := 1) (w := 0) rfl rfl rfl ?_
    refine r_const (i := 3) (u := 1048576) (z := 1048576) rfl rfl ?_
    refine c_lt (i := 4) (v := 7) rfl ⟨by omega, by omega⟩ ⟨by omega, by omega⟩ (fun h3 => ?_) (fun h4 => ?_)
    · refine r_load (i := 7) (u := 1) (w := 0) rfl rfl rfl ?_
      refine r_call (i := 8) (u := 65535) (v := 216) (w := 0) (b := 2) (na := 513) (C2 := xC216) (as := [vi a]) (s := []) rfl rfl rfl rfl rfl rfl rfl (sp216 (a := a) hI ⟨by omega, by omega⟩   (by omega)) (fun r5 S6 hq7 => ?_)
      obtain ⟨z8, rfl, h9, h10, rfl⟩ := hq7
      refine Or.inr (Or.inl ⟨rfl, ?_⟩)
      refine r_store (i := 9) (u := 2) (w := 0) (L1 := [some ((2, 43)), some (vi a), some (vi z8), none, none]) rfl rfl rfl rfl ?_
      refine r_const (i := 10) (u := 1) (z := 1) rfl rfl ?_
      refine r_store (i := 11) (u := 3) (w := 0) (L1 := [some ((2, 43)), some (vi a), some (vi z8), some (vi 1), none]) rfl rfl rfl rfl ?_
      refine r_const (i := 12) (u := 0) (z := 0) rfl rfl ?_
      refine r_store (i := 13) (u := 4) (w := 0) (L1 := [some ((2, 43)), some (vi a), some (vi z8), some (vi 1), some (vi 0)]) rfl rfl rfl rfl ?_
      exact lp182_14 hI h_a   hd _ z8 1 0 ⟨by omega, by omega⟩ ⟨by omega, by omega⟩ ⟨by omega, by omega⟩ (by omega) (by first | omega | (rcases (show k = 0 ∨ k = 1 ∨ k = 2 ∨ k = 3 by omega) with rfl | rfl | rfl | rfl <;> omega)) (Int.lt_succ_toNat _)
    · refine r_const (i := 5) (u := 0) (z := 0) rfl rfl ?_
      exact r_retZ (i := 6) rfl (by omega) (by omega) ⟨0, rfl, by omega, by omega, (by omega), (by intro hz; first | exact absurd hz (by omega) | exact KP_of4 (by omega) (by omega) (by omega) (by omega)), rfl⟩
theorem lp217_98 {G : xk} {d : Nat} {S : yS} (hI : yI S) {t : Int} (h_t : -2147483648 ≤ t ∧ t ≤ 2147483647) {w0 : Int} (h_w0 : -2147483648 ≤ w0 ∧ w0 ≤ 2147483647) {bits : Int} (h_bits : -2147483648 ≤ bits ∧ bits ≤ 2147483647) {al : Int} (h_al : -2147483648 ≤ al ∧ al ≤ 2147483647) {back : Int} (h_back : -2147483648 ≤ back ∧ back ≤ 2147483647) (hd : 3 ≤ d + 1) : ∀ (n : Nat), ∀ (ac m0 : Int) (h_ac : 0 ≤ ac ∧ ac ≤ 7) (h_m0 : 0 ≤ m0 ∧ m0 ≤ 60) (q_0 : 4 ≤ t ∧ t < S.f 43 1) (q_1 : 0 ≤ w0 ∧ w0 ≤ 10) (q_2 : 0 ≤ bits ∧ bits ≤ 63) (q_3 : 0 ≤ al ∧ al < 1048576) (q_4 : KP al) (q_5 : 0 ≤ back ∧ back ≤ 23) (q_6 : w0 = 10 → back = 0) (hn : 60 - m0 < (n : Nat)), yT xPr G LY xC217 98 [some ((2, 43)), some (vi t), some (vi w0), some (vi bits), some (vi al), some (vi back), some (vi ac), some (vi m0)] [] S (d + 1) (fun r S' => ∃ z : Int, r = (1, vi z) ∧ 0 ≤ z ∧ z ≤ 1 ∧ (z = 1 → 4 ≤ t ∧ t < S.f 43 1) ∧ (z = 1 → 0 ≤ w0 ∧ w0 ≤ 10) ∧ (z = 1 → 0 ≤ bits ∧ bits ≤ 63) ∧ (z = 1 → 0 ≤ al ∧ al < 1048576) ∧ (z = 1 → KP al) ∧ (z = 1 → 0 ≤ back ∧ back ≤ 23) ∧ (z = 1 → w0 = 10 → back = 0) ∧ S = S') := by
  intro n
  induction n with
  | zero => intro ac m0 h_ac h_m0 q_0 q_1 q_2 q_3 q_4 q_5 q_6 hn; exact absurd hn (by omega)
  | succ n ih =>
    intro ac m0 h_ac h_m0 q_0 q_1 q_2 q_3 q_4 q_5 q_6 hn
    have h1 := hI.f tf43_1
    refine r_load (i := 98) (u := 7) (w := 0) rfl rfl rfl ?_
    refine r_load (i := 99) (u := 0) (w := 2) rfl rfl rfl ?_
    have h2 := hI.f tf43_10
    refine r_getf (i := 100) (v := 10) (w := 11) (x := vi (S.f 43 10)) rfl ly43 rfl rfl fun h3 => ?_
    have h3 : Rg (S.f 43 10) := h3
    refine c_ge (i := 101) (v := 130) rfl ⟨by omega, by omega⟩ ⟨by omega, by omega⟩ (fun h4 => ?_) (fun h5 => ?_)
    · refine r_const (i := 130) (u := 1) (z := 1) rfl rfl ?_
      exact r_retZ (i := 131) rfl (by omega) (by omega) ⟨1, rfl, by omega, by omega, (by omega), (by omega), (by omega), (by omega), (by intro hz; first | exact absurd hz (by omega) | assumption | grind), (by omega), (by omega), rfl⟩
    · refine r_load (i := 102) (u := 0) (w := 2) rfl rfl rfl ?_
      refine r_getf (i := 103) (v := 11) (w := 11) (x := (2, 52)) rfl ly43 rfl rfl fun _ => ?_
      refine r_load (i := 104) (u := 7) (w := 0) rfl rfl rfl ?_
      refine a_int (i := 105) rfl ly52 rfl (by omega) (by omega) fun h7 => ?_
      have h8 := hI.a ta52 m0.toNat
      refine r_load (i := 106) (u := 1) (w := 0) rfl rfl rfl ?_
      refine c_ne (i := 107) (v := 128) rfl ⟨by omega, by omega⟩ ⟨by omega, by omega⟩ (fun h9 => ?_) (fun h10 => ?_)
      · refine r_iinc (i := 128) (u := 1) (v := 7) (s := 1) (L1 := [some ((2, 43)), some (vi t), some (vi w0), some (vi bits), some (vi al), some (vi back), some (vi ac), some (vi (m0 + 1))]) rfl rfl rfl rfl rfl ?_
        refine r_goto (i := 129) (v := 98) rfl ?_
        exact ih ac (m0 + 1) ⟨by omega, by omega⟩ ⟨by omega, by omega⟩ (by omega) (by omega) (by omega) (by omega) (by first | assumption | grind) (by omega) (by omega) (by omega)
      · refine r_load (i := 108) (u := 0) (w := 2) rfl rfl rfl ?_
        refine r_getf (i := 109) (v := 12) (w := 11) (x := (2, 53)) rfl ly43 rfl rfl fun _ => ?_
        refine r_load (i := 110) (u := 7) (w := 0) rfl rfl rfl ?_
        refine a_int (i := 111) rfl ly53 rfl (by omega) (by omega) fun h12 => ?_
        have h13 := hI.a ta53 m0.toNat
        refine r_load (i := 112) (u := 2) (w := 0) rfl rfl rfl ?_
        refine c_ne (i := 113) (v := 128) rfl ⟨by omega, by omega⟩ ⟨by omega, by omega⟩ (fun h14 => ?_) (fun h15 => ?_)
        · refine r_iinc (i := 128) (u := 1) (v := 7) (s := 1) (L1 := [some ((2, 43)), some (vi t), some (vi w0), some (vi bits), some (vi al), some (vi back), some (vi ac), some (vi (m0 + 1))]) rfl rfl rfl rfl rfl ?_
          refine r_goto (i := 129) (v := 98) rfl ?_
          exact ih ac (m0 + 1) ⟨by omega, by omega⟩ ⟨by omega, by omega⟩ (by omega) (by omega) (by omega) (by omega) (by first | assumption | grind) (by omega) (by omega) (by omega)
        · refine r_load (i := 114) (u := 0) (w := 2) rfl rfl rfl ?_
          refine r_getf (i := 115) (v := 14) (w := 11) (x := (2, 55)) rfl ly43 rfl rfl fun _ => ?_
          refine r_load (i := 116) (u := 7) (w := 0) rfl rfl rfl ?_
          refine a_int (i := 117) rfl ly55 rfl (by omega) (by omega) fun h17 => ?_
          have h18 := hI.a ta55 m0.toNat
          have kp19 := hI.k55 m0.toNat
          refine r_load (i := 118) (u := 4) (w := 0) rfl rfl rfl ?_
          refine c_ne (i := 119) (v := 128) rfl ⟨by omega, by omega⟩ ⟨by omega, by omega⟩ (fun h20 => ?_) (fun h21 => ?_)
          · refine r_iinc (i := 128) (u := 1) (v := 7) (s := 1) (L1 := [some ((2, 43)), some (vi t), some (vi w0), some (vi bits), some (vi al), some (vi back), some (vi ac), some (vi (m0 + 1))]) rfl rfl rfl rfl rfl ?_
            refine r_goto (i := 129) (v := 98) rfl ?_
            exact ih ac (m0 + 1) ⟨by omega, by omega⟩ ⟨by omega, by omega⟩ (by omega) (by omega) (by omega) (by omega) (by first | assumption | grind) (by omega) (by omega) (by omega)
          · refine r_load (i := 120) (u := 0) (w := 2) rfl rfl rfl ?_
            refine r_getf (i := 121) (v := 15) (w := 11) (x := (2, 56)) rfl ly43 rfl rfl fun _ => ?_
            refine r_load (i := 122) (u := 7) (w := 0) rfl rfl rfl ?_
            refine a_int (i := 123) rfl ly56 rfl (by omega) (by omega) fun h23 => ?_
            have h24 := hI.a ta56 m0.toNat
            refine r_load (i := 124) (u := 5) (w := 0) rfl rfl rfl ?_
            refine c_ne (i := 125) (v := 128) rfl ⟨by omega, by omega⟩ ⟨by omega, by omega⟩ (fun h25 => ?_) (fun h26 => ?_)
            · refine r_iinc (i := 128) (u := 1) (v := 7) (s := 1) (L1 := [some ((2, 43)), some (vi t), some (vi w0), some (vi bits), some (vi al), some (vi back), some (vi ac), some (vi (m0 + 1))]) rfl rfl rfl rfl rfl ?_
              refine r_goto (i := 129) (v := 98) rfl ?_
              exact ih ac (m0 + 1) ⟨by omega, by omega⟩ ⟨by omega, by omega⟩ (by omega) (by omega) (by omega) (by omega) (by first | assumption | grind) (by omega) (by omega) (by omega)
            · refine r_const (i := 126) (u := 0) (z := 0) rfl rfl ?_
              exact r_retZ (i := 127) rfl (by omega) (by omega) ⟨0, rfl, by omega, by omega, (by omega), (by omega), (by omega), (by omega), (by intro hz; first | exact absurd hz (by omega) | assumption | grind), (by omega), (by omega), rfl⟩
theorem lp217_63 {G : xk} {d : Nat} {S : yS} (hI : yI S) {t : Int} (h_t : -2147483648 ≤ t ∧ t ≤ 2147483647) {w0 : Int} (h_w0 : -2147483648 ≤ w0 ∧ w0 ≤ 2147483647) {bits : Int} (h_bits : -2147483648 ≤ bits ∧ bits ≤ 2147483647) {al : Int} (h_al : -2147483648 ≤ al ∧ al ≤ 2147483647) {back : Int} (h_back : -2147483648 ≤ back ∧ back ≤ 2147483647) (hd : 3 ≤ d + 1) : ∀ (ac : Int) (h_ac : 0 ≤ ac ∧ ac ≤ 7) (q_0 : 4 ≤ t ∧ t < S.f 43 1) (q_1 : 0 ≤ w0 ∧ w0 ≤ 10) (q_2 : 0 ≤ bits ∧ bits ≤ 63) (q_3 : 0 ≤ al ∧ al < 1048576) (q_4 : KP al) (q_5 : 0 ≤ back ∧ back ≤ 23) (q_6 : w0 = 10 → back = 0), yT xPr G LY xC217 63 [some ((2, 43)), some (vi t), some (vi w0), some (vi bits), some (vi al), some (vi back), some (vi ac), none] [] S (d + 1) (fun r S' => ∃ z : Int, r = (1, vi z) ∧ 0 ≤ z ∧ z ≤ 1 ∧ (z = 1 → 4 ≤ t ∧ t < S.f 43 1) ∧ (z = 1 → 0 ≤ w0 ∧ w0 ≤ 10) ∧ (z = 1 → 0 ≤ bits ∧ bits ≤ 63) ∧ (z = 1 → 0 ≤ al ∧ al < 1048576) ∧ (z = 1 → KP al) ∧ (z = 1 → 0 ≤ back ∧ back ≤ 23) ∧ (z = 1 → w0 = 10 → back = 0) ∧ S = S') := by
  intro ac h_ac q_0 q_1 q_2 q_3 q_4 q_5 q_6
  have h1 := hI.f tf43_1
  refine r_load (i := 63) (u := 3) (w := 0) rfl rfl rfl ?_
  refine r_const (i := 64) (u := 32) (z := 32) rfl rfl ?_
  refine r_iand (i := 65) rfl ?_
  have h2 := @yand_c bits 32 (by decide) (by decide)
  refine z_le (i := 66) (v := 83) rfl ⟨by omega, by omega⟩ (fun h3 => ?_) (fun h4 => ?_)
  · refine r_load (i := 83) (u := 0) (w := 2) rfl rfl rfl ?_
    refine r_getf (i := 84) (v := 2) (w := 11) (x := (2, 44)) rfl ly43 rfl rfl fun _ => ?_
    refine r_load (i := 85) (u := 1) (w := 0) rfl rfl rfl ?_
    refine a_bool (i := 86) rfl ly44 rfl (by omega) (by omega) fun h6 => ?_
    refine z_eq (i := 87) (v := 96) rfl ⟨by omega, by omega⟩ (fun h7 => ?_) (fun h8 => ?_)
    · refine r_const (i := 96) (u := 0) (z := 0) rfl rfl ?_
      refine r_store (i := 97) (u := 7) (w := 0) (L1 := [some ((2, 43)), some (vi t), some (vi w0), some (vi bits), some (vi al), some (vi back), some (vi ac), some (vi 0)]) rfl rfl rfl rfl ?_
      exact lp217_98 hI h_t h_w0 h_bits h_al h_back   hd _ ac 0 ⟨by omega, by omega⟩ ⟨by omega, by omega⟩ (by omega) (by omega) (by omega) (by omega) (by first | assumption | grind) (by omega) (by omega) (Int.lt_succ_toNat _)
    · refine r_load (i := 88) (u := 3) (w := 0) rfl rfl rfl ?_
      refine r_const (i := 89) (u := 1) (z := 1) rfl rfl ?_
      refine c_eq (i := 90) (v := 96) rfl ⟨by omega, by omega⟩ ⟨by omega, by omega⟩ (fun h9 => ?_) (fun h10 => ?_)
      · refine r_const (i := 96) (u := 0) (z := 0) rfl rfl ?_
        refine r_store (i := 97) (u := 7) (w := 0) (L1 := [some ((2, 43)), some (vi t), some (vi w0), some (vi bits), some (vi al), some (vi back), some (vi ac), some (vi 0)]) rfl rfl rfl rfl ?_
        exact lp217_98 hI h_t h_w0 h_bits h_al h_back   hd _ ac 0 ⟨by omega, by omega⟩ ⟨by omega, by omega⟩ (by omega) (by omega) (by omega) (by omega) (by first | assumption | grind) (by omega) (by omega) (Int.lt_succ_toNat _)
      · refine r_load (i := 91) (u := 3) (w := 0) rfl rfl rfl ?_
        refine r_const (i := 92) (u := 33) (z := 33) rfl rfl ?_
        refine c_eq (i := 93) (v := 96) rfl ⟨by omega, by omega⟩ ⟨by omega, by omega⟩ (fun h11 => ?_) (fun h12 => ?_)
        · refine r_const (i := 96) (u := 0) (z := 0) rfl rfl ?_
          refine r_store (i := 97) (u := 7) (w := 0) (L1 := [some ((2, 43)), some (vi t), some (vi w0), some (vi bits), some (vi al), some (vi back), some (vi ac), some (vi 0)]) rfl rfl rfl rfl ?_
          exact lp217_98 hI h_t h_w0 h_bits h_al h_back   hd _ ac 0 ⟨by omega, by omega⟩ ⟨by omega, by omega⟩ (by omega) (by omega) (by omega) (by omega) (by first | assumption | grind) (by omega) (by omega) (Int.lt_succ_toNat _)
        · refine r_const (i := 94) (u := 0) (z := 0) rfl rfl ?_
          exact r_retZ (i := 95) rfl (by omega) (by omega) ⟨0, rfl, by omega, by omega, (by omega), (by omega), (by omega), (by omega), (by intro hz; first | exact absurd hz (by omega) | assumption | grind), (by omega), (by omega), rfl⟩
  · refine r_load (i := 67) (u := 3) (w := 0) rfl rfl rfl ?_
    refine r_const (i := 68) (u := 28) (z := 28) rfl rfl ?_
    refine r_iand (i := 69) rfl ?_
    have h13 := @yand_c bits 28 (by decide) (by decide)
    refine z_gt (i := 70) (v := 81) rfl ⟨by omega, by omega⟩ (fun h14 => ?_) (fun h15 => ?_)
    · refine r_const (i := 81) (u := 0) (z := 0) rfl rfl ?_
      exact r_retZ (i := 82) rfl (by omega) (by omega) ⟨0, rfl, by omega, by omega, (by omega), (by omega), (by omega), (by omega), (by intro hz; first | exact absurd hz (by omega) | assumption | grind), (by omega), (by omega), rfl⟩
    · refine r_load (i := 71) (u := 0) (w := 2) rfl rfl rfl ?_
      refine r_getf (i := 72) (v := 2) (w := 11) (x := (2, 44)) rfl ly43 rfl rfl fun _ => ?_
      refine r_load (i := 73) (u := 1) (w := 0) rfl rfl rfl ?_
      refine a_bool (i := 74) rfl ly44 rfl (by omega) (by omega) fun h17 => ?_
      refine z_ne (i := 75) (v := 83) rfl ⟨by omega, by omega⟩ (fun h18 => ?_) (fun h19 => ?_)
      · refine r_load (i := 83) (u := 0) (w := 2) rfl rfl rfl ?_
        refine r_getf (i := 84) (v := 2) (w := 11) (x := (2, 44)) rfl ly43 rfl rfl fun _ => ?_
        refine r_load (i := 85) (u := 1) (w := 0) rfl rfl rfl ?_
        refine a_bool (i := 86) rfl ly44 rfl (by omega) (by omega) fun h21 => ?_
        refine z_eq (i := 87) (v := 96) rfl ⟨by omega, by omega⟩ (fun h22 => ?_) (fun h23 => ?_)
        · refine r_const (i := 96) (u := 0) (z := 0) rfl rfl ?_
          refine r_store (i := 97) (u := 7) (w := 0) (L1 := [some ((2, 43)), some (vi t), some (vi w0), some (vi bits), some (vi al), some (vi back), some (vi ac), some (vi 0)]) rfl rfl rfl rfl ?_
          exact lp217_98 hI h_t h_w0 h_bits h_al h_back   hd _ ac 0 ⟨by omega, by omega⟩ ⟨by omega, by omega⟩ (by omega) (by omega) (by omega) (by omega) (by first | assumption | grind) (by omega) (by omega) (Int.lt_succ_toNat _)
        · refine r_load (i := 88) (u := 3) (w := 0) rfl rfl rfl ?_
          refine r_const (i := 89) (u := 1) (z := 1) rfl rfl ?_
          refine c_eq (i := 90) (v := 96) rfl ⟨by omega, by omega⟩ ⟨by omega, by omega⟩ (fun h24 => ?_) (fun h25 => ?_)
          · refine r_const (i := 96) (u := 0) (z := 0) rfl rfl ?_
            refine r_store (i := 97) (u := 7) (w := 0) (L1 := [some ((2, 43)), some (vi t), some (vi w0), some (vi bits), some (vi al), some (vi back), some (vi ac), some (vi 0)]) rfl rfl rfl rfl ?_
            exact lp217_98 hI h_t h_w0 h_bits h_al h_back   hd _ ac 0 ⟨by omega, by omega⟩ ⟨by omega, by omega⟩ (by omega) (by omega) (by omega) (by omega) (by first | assumption | grind) (by omega) (by omega) (Int.lt_succ_toNat _)
          · refine r_load (i := 91) (u := 3) (w := 0) rfl rfl rfl ?_
            refine r_const (i := 92) (u := 33) (z := 33) rfl rfl ?_
            refine c_eq (i := 93) (v := 96) rfl ⟨by omega, by omega⟩ ⟨by omega, by omega⟩ (fun h26 => ?_) (fun h27 => ?_)
            · refine r_const (i := 96) (u := 0) (z := 0) rfl rfl ?_
              refine r_store (i := 97) (u := 7) (w := 0) (L1 := [some ((2, 43)), some (vi t), some (vi w0), some (vi bits), some (vi al), some (vi back), some (vi ac), some (vi 0)]) rfl rfl rfl rfl ?_
              exact lp217_98 hI h_t h_w0 h_bits h_al h_back   hd _ ac 0 ⟨by omega, by omega⟩ ⟨by omega, by omega⟩ (by omega) (by omega) (by omega) (by omega) (by first | assumption | grind) (by omega) (by omega) (Int.lt_succ_toNat _)
            · refine r_const (i := 94) (u := 0) (z := 0) rfl rfl ?_
              exact r_retZ (i := 95) rfl (by omega) (by omega) ⟨0, rfl, by omega, by omega, (by omega), (by omega), (by omega), (by omega), (by intro hz; first | exact absurd hz (by omega) | assumption | grind), (by omega), (by omega), rfl⟩
      · refine r_load (i := 76) (u := 0) (w := 2) rfl rfl rfl ?_
        refine r_getf (i := 77) (v := 5) (w := 11) (x := (2, 47)) rfl ly43 rfl rfl fun _ => ?_
        refine r_load (i := 78) (u := 1) (w := 0) rfl rfl rfl ?_
        refine a_bool (i := 79) rfl ly47 rfl (by omega) (by omega) fun h29 => ?_
        refine z_ne (i := 80) (v := 83) rfl ⟨by omega, by omega⟩ (fun h30 => ?_) (fun h31 => ?_)
        · refine r_load (i := 83) (u := 0) (w := 2) rfl rfl rfl ?_
          refine r_getf (i := 84) (v := 2) (w := 11) (x := (2, 44)) rfl ly43 rfl rfl fun _ => ?_
          refine r_load (i := 85) (u := 1) (w := 0) rfl rfl rfl ?_
          refine a_bool (i := 86) rfl ly44 rfl (by omega) (by omega) fun h33 => ?_
          refine z_eq (i := 87) (v := 96) rfl ⟨by omega, by omega⟩ (fun h34 => ?_) (fun h35 => ?_)
          · refine r_const (i := 96) (u := 0) (z := 0) rfl rfl ?_
            refine r_store (i := 97) (u := 7) (w := 0) (L1 := [some ((2, 43)), some (vi t), some (vi w0), some (vi bits), some (vi al), some (vi back), some (vi ac), some (vi 0)]) rfl rfl rfl rfl ?_
            exact lp217_98 hI h_t h_w0 h_bits h_al h_back   hd _ ac 0 ⟨by omega, by omega⟩ ⟨by omega, by omega⟩ (by omega) (by omega) (by omega) (by omega) (by first | assumption | grind) (by omega) (by omega) (Int.lt_succ_toNat _)
          · refine r_load (i := 88) (u := 3) (w := 0) rfl rfl rfl ?_
            refine r_const (i := 89) (u := 1) (z := 1) rfl rfl ?_
            refine c_eq (i := 90) (v := 96) rfl ⟨by omega, by omega⟩ ⟨by omega, by omega⟩ (fun h36 => ?_) (fun h37 => ?_)
            · refine r_const (i := 96) (u := 0) (z := 0) rfl rfl ?_
              refine r_store (i := 97) (u := 7) (w := 0) (L1 := [some ((2, 43)), some (vi t), some (vi w0), some (vi bits), some (vi al), some (vi back), some (vi ac), some (vi 0)]) rfl rfl rfl rfl ?_
              exact lp217_98 hI h_t h_w0 h_bits h_al h_back   hd _ ac 0 ⟨by omega, by omega⟩ ⟨by omega, by omega⟩ (by omega) (by omega) (by omega) (by omega) (by first | assumption | grind) (by omega) (by omega) (Int.lt_succ_toNat _)
            · refine r_load (i := 91) (u := 3) (w := 0) rfl rfl rfl ?_
              refine r_const (i := 92) (u := 33) (z := 33) rfl rfl ?_
              refine c_eq (i := 93) (v := 96) rfl ⟨by omega, by omega⟩ ⟨by omega, by omega⟩ (fun h38 => ?_) (fun h39 => ?_)
              · refine r_const (i := 96) (u := 0) (z := 0) rfl rfl ?_
                refine r_store (i := 97) (u := 7) (w := 0) (L1 := [some ((2, 43)), some (vi t), some (vi w0), some (vi bits), some (vi al), some (vi back), some (vi ac), some (vi 0)]) rfl rfl rfl rfl ?_
                exact lp217_98 hI h_t h_w0 h_bits h_al h_back   hd _ ac 0 ⟨by omega, by omega⟩ ⟨by omega, by omega⟩ (by omega) (by omega) (by omega) (by omega) (by first | assumption | grind) (by omega) (by omega) (Int.lt_succ_toNat _)
              · refine r_const (i := 94) (u := 0) (z := 0) rfl rfl ?_
                exact r_retZ (i := 95) rfl (by omega) (by omega) ⟨0, rfl, by omega, by omega, (by omega), (by omega), (by omega), (by omega), (by intro hz; first | exact absurd hz (by omega) | assumption | grind), (by omega), (by omega), rfl⟩
        · refine r_const (i := 81) (u := 0) (z := 0) rfl rfl ?_
          exact r_retZ (i := 82) rfl (by omega) (by omega) ⟨0, rfl, by omega, by omega, (by omega), (by omega), (by omega), (by omega), (by intro hz; first | exact absurd hz (by omega) | assumption | grind), (by omega), (by omega), rfl⟩
/-- ProxyForgeModel.mayBe -/
theorem sp217 {G : xk} {S : yS} {d : Nat} (hI : yI S) {t : Int} (h_t : -2147483648 ≤ t ∧ t ≤ 2147483647) {w0 : Int} (h_w0 : -2147483648 ≤ w0 ∧ w0 ≤ 2147483647) {bits : Int} (h_bits : -2147483648 ≤ bits ∧ bits ≤ 2147483647) {al : Int} (h_al : -2147483648 ≤ al ∧ al ≤ 2147483647) {back : Int} (h_back : -2147483648 ≤ back ∧ back ≤ 2147483647) (hd : 3 ≤ d) : yT xPr G LY xC217 0 [some ((2, 43)), some (vi t), some (vi w0), some (vi bits), some (vi al), some (vi back)] [] S d (fun r S' => ∃ z : Int, r = (1, vi z) ∧ 0 ≤ z ∧ z ≤ 1 ∧ (z = 1 → 4 ≤ t ∧ t < S.f 43 1) ∧ (z = 1 → 0 ≤ w0 ∧ w0 ≤ 10) ∧ (z = 1 → 0 ≤ bits ∧ bits ≤ 63) ∧ (z = 1 → 0 ≤ al ∧ al < 1048576) ∧ (z = 1 → KP al) ∧ (z = 1 → 0 ≤ back ∧ back ≤ 23) ∧ (z = 1 → w0 = 10 → back = 0) ∧ S = S') := by
  refine yT_pad 2 ?_
  show yT xPr G LY xC217 0 [some ((2, 43)), some (vi t), some (vi w0), some (vi bits), some (vi al), some (vi back), none, none] [] S d _
  obtain ⟨d, rfl⟩ : ∃ q, d = q + 1 := ⟨d - 1, by omega⟩
  refine r_load (i := 0) (u := 1) (w := 0) rfl rfl rfl ?_
  refine r_const (i := 1) (u := 4) (z := 4) rfl rfl ?_
  refine c_lt (i := 2) (v := 29) rfl ⟨by omega, by omega⟩ ⟨by omega, by omega⟩ (fun h1 => ?_) (fun h2 => ?_)
  · refine r_const (i := 29) (u := 0) (z := 0) rfl rfl ?_
    have h3 := hI.f tf43_1
    exact r_retZ (i := 30) rfl (by omega) (by omega) ⟨0, rfl, by omega, by omega, (by omega), (by omega), (by omega), (by omega), (by intro hz; first | exact absurd hz (by omega) | assumption | grind), (by omega), (by omega), rfl⟩
  · refine r_load (i := 3) (u := 1) (w := 0) rfl rfl rfl ?_
    refine r_load (i := 4) (u := 0) (w := 2) rfl rfl rfl ?_
    have h4 := hI.f tf43_1
    refine r_getf (i := 5) (v := 1) (w := 11) (x := vi (S.f 43 1)) rfl ly43 rfl rfl fun h5 => ?_
    have h5 : Rg (S.f 43 1) := h5
    refine c_ge (i := 6) (v := 29) rfl ⟨by omega, by omega⟩ ⟨by omega, by omega⟩ (fun h6 => ?_) (fun h7 => ?_)
    · refine r_const (i := 29) (u := 0) (z := 0) rfl rfl ?_
      exact r_retZ (i := 30) rfl (by omega) (by omega) ⟨0, rfl, by omega, by omega, (by omega), (by omega), (by omega), (by omega), (by intro hz; first | exact absurd hz (by omega) | assumption | grind), (by omega), (by omega), rfl⟩
    · refine r_load (i := 7) (u := 2) (w := 0) rfl rfl rfl ?_
      refine z_lt (i := 8) (v := 29) rfl ⟨by omega, by omega⟩ (fun h8 => ?_) (fun h9 => ?_)
      · refine r_const (i := 29) (u := 0) (z := 0) rfl rfl ?_
        exact r_retZ (i := 30) rfl (by omega) (by omega) ⟨0, rfl, by omega, by omega, (by omega), (by omega), (by omega), (by omega), (by intro hz; first | exact absurd hz (by omega) | assumption | grind), (by omega), (by omega), rfl⟩
      · refine r_load (i := 9) (u := 2) (w := 0) rfl rfl rfl ?_
        refine r_const (i := 10) (u := 10) (z := 10) rfl rfl ?_
        refine c_gt (i := 11) (v := 29) rfl ⟨by omega, by omega⟩ ⟨by omega, by omega⟩ (fun h10 => ?_) (fun h11 => ?_)
        · refine r_const (i := 29) (u := 0) (z := 0) rfl rfl ?_
          exact r_retZ (i := 30) rfl (by omega) (by omega) ⟨0, rfl, by omega, by omega, (by omega), (by omega), (by omega), (by omega), (by intro hz; first | exact absurd hz (by omega) | assumption | grind), (by omega), (by omega), rfl⟩
        · refine r_load (i := 12) (u := 3) (w := 0) rfl rfl rfl ?_
          refine z_lt (i := 13) (v := 29) rfl ⟨by omega, by omega⟩ (fun h12 => ?_) (fun h13 => ?_)
          · refine r_const (i := 29) (u := 0) (z := 0) rfl rfl ?_
            exact r_retZ (i := 30) rfl (by omega) (by omega) ⟨0, rfl, by omega, by omega, (by omega), (by omega), (by omega), (by omega), (by intro hz; first | exact absurd hz (by omega) | assumption | grind), (by omega), (by omega), rfl⟩
          · refine r_load (i := 14) (u := 3) (w := 0) rfl rfl rfl ?_
            refine r_const (i := 15) (u := 63) (z := 63) rfl rfl ?_
            refine c_gt (i := 16) (v := 29) rfl ⟨by omega, by omega⟩ ⟨by omega, by omega⟩ (fun h14 => ?_) (fun h15 => ?_)
            · refine r_const (i := 29) (u := 0) (z := 0) rfl rfl ?_
              exact r_retZ (i := 30) rfl (by omega) (by omega) ⟨0, rfl, by omega, by omega, (by omega), (by omega), (by omega), (by omega), (by intro hz; first | exact absurd hz (by omega) | assumption | grind), (by omega), (by omega), rfl⟩
            · refine r_load (i := 17) (u := 0) (w := 2) rfl rfl rfl ?_
              refine r_load (i := 18) (u := 4) (w := 0) rfl rfl rfl ?_
              refine r_call (i := 19) (u := 11) (v := 182) (w := 0) (b := 0) (na := 1282) (C2 := xC182) (as := [(2, 43), vi al]) (s := []) rfl rfl rfl rfl rfl rfl rfl (sp182 (a := al) hI ⟨by omega, by omega⟩   (by omega)) (fun r16 S17 hq18 => ?_)
              obtain ⟨z19, rfl, h20, h21, h22, h23, rfl⟩ := hq18
              refine Or.inr (Or.inl ⟨rfl, ?_⟩)
              refine z_eq (i := 20) (v := 29) rfl ⟨by omega, by omega⟩ (fun h24 => ?_) (fun h25 => ?_)
              · refine r_const (i := 29) (u := 0) (z := 0) rfl rfl ?_
                exact r_retZ (i := 30) rfl (by omega) (by omega) ⟨0, rfl, by omega, by omega, (by omega), (by omega), (by omega), (by omega), (by intro hz; first | exact absurd hz (by omega) | assumption | grind), (by omega), (by omega), rfl⟩
              · refine r_load (i := 21) (u := 5) (w := 0) rfl rfl rfl ?_
                refine z_lt (i := 22) (v := 29) rfl ⟨by omega, by omega⟩ (fun h26 => ?_) (fun h27 => ?_)
                · refine r_const (i := 29) (u := 0) (z := 0) rfl rfl ?_
                  exact r_retZ (i := 30) rfl (by omega) (by omega) ⟨0, rfl, by omega, by omega, (by omega), (by omega), (by omega), (by omega), (by intro hz; first | exact absurd hz (by omega) | assumption | grind), (by omega), (by omega), rfl⟩
                · refine r_load (i := 23) (u := 5) (w := 0) rfl rfl rfl ?_
                  refine z_le (i := 24) (v := 31) rfl ⟨by omega, by omega⟩ (fun h28 => ?_) (fun h29 => ?_)
                  · refine r_load (i := 31) (u := 3) (w := 0) rfl rfl rfl ?_
                    refine r_const (i := 32) (u := 7) (z := 7) rfl rfl ?_
                    refine r_iand (i := 33) rfl ?_
                    have h30 := @yand_c bits 7 (by decide) (by decide)
                    refine r_store (i := 34) (u := 6) (w := 0) (L1 := [some ((2, 43)), some (vi t), some (vi w0), some (vi bits), some (vi al), some (vi back), some (vi (yand bits 7)), none]) rfl rfl rfl rfl ?_
                    refine r_load (i := 35) (u := 6) (w := 0) rfl rfl rfl ?_
                    refine z_eq (i := 36) (v := 48) rfl ⟨by omega, by omega⟩ (fun h31 => ?_) (fun h32 => ?_)
                    · refine r_load (i := 48) (u := 2) (w := 0) rfl rfl rfl ?_
                      refine r_const (i := 49) (u := 10) (z := 10) rfl rfl ?_
                      refine c_ne (i := 50) (v := 63) rfl ⟨by omega, by omega⟩ ⟨by omega, by omega⟩ (fun h33 => ?_) (fun h34 => ?_)
                      · exact lp217_63 hI h_t h_w0 h_bits h_al h_back   hd (yand bits 7) ⟨by omega, by omega⟩ (by omega) (by omega) (by omega) (by omega) (by first | assumption | grind) (by omega) (by omega) 
                      · refine r_load (i := 51) (u := 0) (w := 2) rfl rfl rfl ?_
                        refine r_getf (i := 52) (v := 2) (w := 11) (x := (2, 44)) rfl ly43 rfl rfl fun _ => ?_
                        refine r_load (i := 53) (u := 1) (w := 0) rfl rfl rfl ?_
                        refine a_bool (i := 54) rfl ly44 rfl (by omega) (by omega) fun h36 => ?_
                        refine z_ne (i := 55) (v := 61) rfl ⟨by omega, by omega⟩ (fun h37 => ?_) (fun h38 => ?_)
                        · refine r_const (i := 61) (u := 0) (z := 0) rfl rfl ?_
                          exact r_retZ (i := 62) rfl (by omega) (by omega) ⟨0, rfl, by omega, by omega, (by omega), (by omega), (by omega), (by omega), (by intro hz; first | exact absurd hz (by omega) | assumption | grind), (by omega), (by omega), rfl⟩
                        · refine r_load (i := 56) (u := 3) (w := 0) rfl rfl rfl ?_
                          refine r_const (i := 57) (u := 7) (z := 7) rfl rfl ?_
                          refine c_gt (i := 58) (v := 61) rfl ⟨by omega, by omega⟩ ⟨by omega, by omega⟩ (fun h39 => ?_) (fun h40 => ?_)
                          · refine r_const (i := 61) (u := 0) (z := 0) rfl rfl ?_
                            exact r_retZ (i := 62) rfl (by omega) (by omega) ⟨0, rfl, by omega, by omega, (by omega), (by omega), (by omega), (by omega), (by intro hz; first | exact absurd hz (by omega) | assumption | grind), (by omega), (by omega), rfl⟩
                          · refine r_load (i := 59) (u := 5) (w := 0) rfl rfl rfl ?_
                            refine z_eq (i := 60) (v := 63) rfl ⟨by omega, by omega⟩ (fun h41 => ?_) (fun h42 => ?_)
                            · exact lp217_63 hI h_t h_w0 h_bits h_al h_back   hd (yand bits 7) ⟨by omega, by omega⟩ (by omega) (by omega) (by omega) (by omega) (by first | assumption | grind) (by omega) (by omega) 
                            · refine r_const (i := 61) (u := 0) (z := 0) rfl rfl ?_
                              exact r_retZ (i := 62) rfl (by omega) (by omega) ⟨0, rfl, by omega, by omega, (by omega), (by omega), (by omega), (by omega), (by intro hz; first | exact absurd hz (by omega) | assumption | grind), (by omega), (by omega), rfl⟩
                    · refine r_load (i := 37) (u := 6) (w := 0) rfl rfl rfl ?_
                      refine r_const (i := 38) (u := 1) (z := 1) rfl rfl ?_
                      refine c_eq (i := 39) (v := 48) rfl ⟨by omega, by omega⟩ ⟨by omega, by omega⟩ (fun h43 => ?_) (fun h44 => ?_)
                      · refine r_load (i := 48) (u := 2) (w := 0) rfl rfl rfl ?_
                        refine r_const (i := 49) (u := 10) (z := 10) rfl rfl ?_
                        refine c_ne (i := 50) (v := 63) rfl ⟨by omega, by omega⟩ ⟨by omega, by omega⟩ (fun h45 => ?_) (fun h46 => ?_)
                        · exact lp217_63 hI h_t h_w0 h_bits h_al h_back   hd (yand bits 7) ⟨by omega, by omega⟩ (by omega) (by omega) (by omega) (by omega) (by first | assumption | grind) (by omega) (by omega) 
                        · refine r_load (i := 51) (u := 0) (w := 2) rfl rfl rfl ?_
                          refine r_getf (i := 52) (v := 2) (w := 11) (x := (2, 44)) rfl ly43 rfl rfl fun _ => ?_
                          refine r_load (i := 53) (u := 1) (w := 0) rfl rfl rfl ?_
                          refine a_bool (i := 54) rfl ly44 rfl (by omega) (by omega) fun h48 => ?_
                          refine z_ne (i := 55) (v := 61) rfl ⟨by omega, by omega⟩ (fun h49 => ?_) (fun h50 => ?_)
                          · refine r_const (i := 61) (u := 0) (z := 0) rfl rfl ?_
                            exact r_retZ (i := 62) rfl (by omega) (by omega) ⟨0, rfl, by omega, by omega, (by omega), (by omega), (by omega), (by omega), (by intro hz; first | exact absurd hz (by omega) | assumption | grind), (by omega), (by omega), rfl⟩
                          · refine r_load (i := 56) (u := 3) (w := 0) rfl rfl rfl ?_
                            refine r_const (i := 57) (u := 7) (z := 7) rfl rfl ?_
                            refine c_gt (i := 58) (v := 61) rfl ⟨by omega, by omega⟩ ⟨by omega, by omega⟩ (fun h51 => ?_) (fun h52 => ?_)
                            · refine r_const (i := 61) (u := 0) (z := 0) rfl rfl ?_
                              exact r_retZ (i := 62) rfl (by omega) (by omega) ⟨0, rfl, by omega, by omega, (by omega), (by omega), (by omega), (by omega), (by intro hz; first | exact absurd hz (by omega) | assumption | grind), (by omega), (by omega), rfl⟩
                            · refine r_load (i := 59) (u := 5) (w := 0) rfl rfl rfl ?_
                              refine z_eq (i := 60) (v := 63) rfl ⟨by omega, by omega⟩ (fun h53 => ?_) (fun h54 => ?_)
                              · exact lp217_63 hI h_t h_w0 h_bits h_al h_back   hd (yand bits 7) ⟨by omega, by omega⟩ (by omega) (by omega) (by omega) (by omega) (by first | assumption | grind) (by omega) (by omega) 
                              · refine r_const (i := 61) (u := 0) (z := 0) rfl rfl ?_
                                exact r_retZ (i := 62) rfl (by omega) (by omega) ⟨0, rfl, by omega, by omega, (by omega), (by omega), (by omega), (by omega), (by intro hz; first | exact absurd hz (by omega) | assumption | grind), (by omega), (by omega), rfl⟩
                      · refine r_load (i := 40) (u := 6) (w := 0) rfl rfl rfl ?_
                        refine r_const (i := 41) (u := 2) (z := 2) rfl rfl ?_
                        refine c_eq (i := 42) (v := 48) rfl ⟨by omega, by omega⟩ ⟨by omega, by omega⟩ (fun h55 => ?_) (fun h56 => ?_)
                        · refine r_load (i := 48) (u := 2) (w := 0) rfl rfl rfl ?_
                          refine r_const (i := 49) (u := 10) (z := 10) rfl rfl ?_
                          refine c_ne (i := 50) (v := 63) rfl ⟨by omega, by omega⟩ ⟨by omega, by omega⟩ (fun h57 => ?_) (fun h58 => ?_)
                          · exact lp217_63 hI h_t h_w0 h_bits h_al h_back   hd (yand bits 7) ⟨by omega, by omega⟩ (by omega) (by omega) (by omega) (by omega) (by first | assumption | grind) (by omega) (by omega) 
                          · refine r_load (i := 51) (u := 0) (w := 2) rfl rfl rfl ?_
                            refine r_getf (i := 52) (v := 2) (w := 11) (x := (2, 44)) rfl ly43 rfl rfl fun _ => ?_
                            refine r_load (i := 53) (u := 1) (w := 0) rfl rfl rfl ?_
                            refine a_bool (i := 54) rfl ly44 rfl (by omega) (by omega) fun h60 => ?_
                            refine z_ne (i := 55) (v := 61) rfl ⟨by omega, by omega⟩ (fun h61 => ?_) (fun h62 => ?_)
                            · refine r_const (i := 61) (u := 0) (z := 0) rfl rfl ?_
                              exact r_retZ (i := 62) rfl (by omega) (by omega) ⟨0, rfl, by omega, by omega, (by omega), (by omega), (by omega), (by omega), (by intro hz; first | exact absurd hz (by omega) | assumption | grind), (by omega), (by omega), rfl⟩
                            · refine r_load (i := 56) (u := 3) (w := 0) rfl rfl rfl ?_
                              refine r_const (i := 57) (u := 7) (z := 7) rfl rfl ?_
                              refine c_gt (i := 58) (v := 61) rfl ⟨by omega, by omega⟩ ⟨by omega, by omega⟩ (fun h63 => ?_) (fun h64 => ?_)
                              · refine r_const (i := 61) (u := 0) (z := 0) rfl rfl ?_
                                exact r_retZ (i := 62) rfl (by omega) (by omega) ⟨0, rfl, by omega, by omega, (by omega), (by omega), (by omega), (by omega), (by intro hz; first | exact absurd hz (by omega) | assumption | grind), (by omega), (by omega), rfl⟩
                              · refine r_load (i := 59) (u := 5) (w := 0) rfl rfl rfl ?_
                                refine z_eq (i := 60) (v := 63) rfl ⟨by omega, by omega⟩ (fun h65 => ?_) (fun h66 => ?_)
                                · exact lp217_63 hI h_t h_w0 h_bits h_al h_back   hd (yand bits 7) ⟨by omega, by omega⟩ (by omega) (by omega) (by omega) (by omega) (by first | assumption | grind) (by omega) (by omega) 
                                · refine r_const (i := 61) (u := 0) (z := 0) rfl rfl ?_
                                  exact r_retZ (i := 62) rfl (by omega) (by omega) ⟨0, rfl, by omega, by omega, (by omega), (by omega), (by omega), (by omega), (by intro hz; first | exact absurd hz (by omega) | assumption | grind), (by omega), (by omega), rfl⟩
                        · refine r_load (i := 43) (u := 6) (w := 0) rfl rfl rfl ?_
                          refine r_const (i := 44) (u := 4) (z := 4) rfl rfl ?_
                          refine c_eq (i := 45) (v := 48) rfl ⟨by omega, by omega⟩ ⟨by omega, by omega⟩ (fun h67 => ?_) (fun h68 => ?_)
                          · refine r_load (i := 48) (u := 2) (w := 0) rfl rfl rfl ?_
                            refine r_const (i := 49) (u := 10) (z := 10) rfl rfl ?_
                            refine c_ne (i := 50) (v := 63) rfl ⟨by omega, by omega⟩ ⟨by omega, by omega⟩ (fun h69 => ?_) (fun h70 => ?_)
                            · exact lp217_63 hI h_t h_w0 h_bits h_al h_back   hd (yand bits 7) ⟨by omega, by omega⟩ (by omega) (by omega) (by omega) (by omega) (by first | assumption | grind) (by omega) (by omega) 
                            · refine r_load (i := 51) (u := 0) (w := 2) rfl rfl rfl ?_
                              refine r_getf (i := 52) (v := 2) (w := 11) (x := (2, 44)) rfl ly43 rfl rfl fun _ => ?_
                              refine r_load (i := 53) (u := 1) (w := 0) rfl rfl rfl ?_
                              refine a_bool (i := 54) rfl ly44 rfl (by omega) (by omega) fun h72 => ?_
                              refine z_ne (i := 55) (v := 61) rfl ⟨by omega, by omega⟩ (fun h73 => ?_) (fun h74 => ?_)
                              · refine r_const (i := 61) (u := 0) (z := 0) rfl rfl ?_
                                exact r_retZ (i := 62) rfl (by omega) (by omega) ⟨0, rfl, by omega, by omega, (by omega), (by omega), (by omega), (by omega), (by intro hz; first | exact absurd hz (by omega) | assumption | grind), (by omega), (by omega), rfl⟩
                              · refine r_load (i := 56) (u := 3) (w := 0) rfl rfl rfl ?_
                                refine r_const (i := 57) (u := 7) (z := 7) rfl rfl ?_
                                refine c_gt (i := 58) (v := 61) rfl ⟨by omega, by omega⟩ ⟨by omega, by omega⟩ (fun h75 => ?_) (fun h76 => ?_)
                                · refine r_const (i := 61) (u := 0) (z := 0) rfl rfl ?_
                                  exact r_retZ (i := 62) rfl (by omega) (by omega) ⟨0, rfl, by omega, by omega, (by omega), (by omega), (by omega), (by omega), (by intro hz; first | exact absurd hz (by omega) | assumption | grind), (by omega), (by omega), rfl⟩
                                · refine r_load (i := 59) (u := 5) (w := 0) rfl rfl rfl ?_
                                  refine z_eq (i := 60) (v := 63) rfl ⟨by omega, by omega⟩ (fun h77 => ?_) (fun h78 => ?_)
                                  · exact lp217_63 hI h_t h_w0 h_bits h_al h_back   hd (yand bits 7) ⟨by omega, by omega⟩ (by omega) (by omega) (by omega) (by omega) (by first | assumption | grind) (by omega) (by omega) 
                                  · refine r_const (i := 61) (u := 0) (z := 0) rfl rfl ?_
                                    exact r_retZ (i := 62) rfl (by omega) (by omega) ⟨0, rfl, by omega, by omega, (by omega), (by omega), (by omega), (by omega), (by intro hz; first | exact absurd hz (by omega) | assumption | grind), (by omega), (by omega), rfl⟩
                          · refine r_const (i := 46) (u := 0) (z := 0) rfl rfl ?_
                            exact r_retZ (i := 47) rfl (by omega) (by omega) ⟨0, rfl, by omega, by omega, (by omega), (by omega), (by omega), (by omega), (by intro hz; first | exact absurd hz (by omega) | assumption | grind), (by omega), (by omega), rfl⟩
                  · refine r_load (i := 25) (u := 0) (w := 2) rfl rfl rfl ?_
                    refine r_load (i := 26) (u := 5) (w := 0) rfl rfl rfl ?_
                    refine r_call (i := 27) (u := 11) (v := 210) (w := 0) (b := 0) (na := 514) (C2 := xC210) (as := [(2, 43), vi back]) (s := []) rfl rfl rfl rfl rfl rfl rfl (sp210 (k := back) hI ⟨by omega, by omega⟩   (by omega)) (fun r79 S80 hq81 => ?_)
                    obtain ⟨z82, rfl, h83, h84, h85, rfl⟩ := hq81
                    refine Or.inr (Or.inl ⟨rfl, ?_⟩)
                    refine z_ne (i := 28) (v := 31) rfl ⟨by omega, by omega⟩ (fun h86 => ?_) (fun h87 => ?_)
                    · refine r_load (i := 31) (u := 3) (w := 0) rfl rfl rfl ?_
                      refine r_const (i := 32) (u := 7) (z := 7) rfl rfl ?_
                      refine r_iand (i := 33) rfl ?_
                      have h88 := @yand_c bits 7 (by decide) (by decide)
                      refine r_store (i := 34) (u := 6) (w := 0) (L1 := [some ((2, 43)), some (vi t), some (vi w0), some (vi bits), some (vi al), some (vi back), some (vi (yand bits 7)), none]) rfl rfl rfl rfl ?_
                      refine r_load (i := 35) (u := 6) (w := 0) rfl rfl rfl ?_
                      refine z_eq (i := 36) (v := 48) rfl ⟨by omega, by omega⟩ (fun h89 => ?_) (fun h90 => ?_)
                      · refine r_load (i := 48) (u := 2) (w := 0) rfl rfl rfl ?_
                        refine r_const (i := 49) (u := 10) (z := 10) rfl rfl ?_
                        refine c_ne (i := 50) (v := 63) rfl ⟨by omega, by omega⟩ ⟨by omega, by omega⟩ (fun h91 => ?_) (fun h92 => ?_)
                        · exact lp217_63 hI h_t h_w0 h_bits h_al h_back   hd (yand bits 7) ⟨by omega, by omega⟩ (by omega) (by omega) (by omega) (by omega) (by first | assumption | grind) (by omega) (by omega) 
                        · refine r_load (i := 51) (u := 0) (w := 2) rfl rfl rfl ?_
                          refine r_getf (i := 52) (v := 2) (w := 11) (x := (2, 44)) rfl ly43 rfl rfl fun _ => ?_
                          refine r_load (i := 53) (u := 1) (w := 0) rfl rfl rfl ?_
                          refine a_bool (i := 54) rfl ly44 rfl (by omega) (by omega) fun h94 => ?_
                          refine z_ne (i := 55) (v := 61) rfl ⟨by omega, by omega⟩ (fun h95 => ?_) (fun h96 => ?_)
                          · refine r_const (i := 61) (u := 0) (z := 0) rfl rfl ?_
                            exact r_retZ (i := 62) rfl (by omega) (by omega) ⟨0, rfl, by omega, by omega, (by omega), (by omega), (by omega), (by omega), (by intro hz; first | exact absurd hz (by omega) | assumption | grind), (by omega), (by omega), rfl⟩
                          · refine r_load (i := 56) (u := 3) (w := 0) rfl rfl rfl ?_
                            refine r_const (i := 57) (u := 7) (z := 7) rfl rfl ?_
                            refine c_gt (i := 58) (v := 61) rfl ⟨by omega, by omega⟩ ⟨by omega, by omega⟩ (fun h97 => ?_) (fun h98 => ?_)
                            · refine r_const (i := 61) (u := 0) (z := 0) rfl rfl ?_
                              exact r_retZ (i := 62) rfl (by omega) (by omega) ⟨0, rfl, by omega, by omega, (by omega), (by omega), (by omega), (by omega), (by intro hz; first | exact absurd hz (by omega) | assumption | grind), (by omega), (by omega), rfl⟩
                            · refine r_load (i := 59) (u := 5) (w := 0) rfl rfl rfl ?_
                              refine z_eq (i := 60) (v := 63) rfl ⟨by omega, by omega⟩ (fun h99 => ?_) (fun h100 => ?_)
                              · exact lp217_63 hI h_t h_w0 h_bits h_al h_back   hd (yand bits 7) ⟨by omega, by omega⟩ (by omega) (by omega) (by omega) (by omega) (by first | assumption | grind) (by omega) (by omega) 
                              · refine r_const (i := 61) (u := 0) (z := 0) rfl rfl ?_
                                exact r_retZ (i := 62) rfl (by omega) (by omega) ⟨0, rfl, by omega, by omega, (by omega), (by omega), (by omega), (by omega), (by intro hz; first | exact absurd hz (by omega) | assumption | grind), (by omega), (by omega), rfl⟩
                      · refine r_load (i := 37) (u := 6) (w := 0) rfl rfl rfl ?_
                        refine r_const (i := 38) (u := 1) (z := 1) rfl rfl ?_
                        refine c_eq (i := 39) (v := 48) rfl ⟨by omega, by omega⟩ ⟨by omega, by omega⟩ (fun h101 => ?_) (fun h102 => ?_)
                        · refine r_load (i := 48) (u := 2) (w := 0) rfl rfl rfl ?_
                          refine r_const (i := 49) (u := 10) (z := 10) rfl rfl ?_
                          refine c_ne (i := 50) (v := 63) rfl ⟨by omega, by omega⟩ ⟨by omega, by omega⟩ (fun h103 => ?_) (fun h104 => ?_)
                          · exact lp217_63 hI h_t h_w0 h_bits h_al h_back   hd (yand bits 7) ⟨by omega, by omega⟩ (by omega) (by omega) (by omega) (by omega) (by first | assumption | grind) (by omega) (by omega) 
                          · refine r_load (i := 51) (u := 0) (w := 2) rfl rfl rfl ?_
                            refine r_getf (i := 52) (v := 2) (w := 11) (x := (2, 44)) rfl ly43 rfl rfl fun _ => ?_
                            refine r_load (i := 53) (u := 1) (w := 0) rfl rfl rfl ?_
                            refine a_bool (i := 54) rfl ly44 rfl (by omega) (by omega) fun h106 => ?_
                            refine z_ne (i := 55) (v := 61) rfl ⟨by omega, by omega⟩ (fun h107 => ?_) (fun h108 => ?_)
                            · refine r_const (i := 61) (u := 0) (z := 0) rfl rfl ?_
                              exact r_retZ (i := 62) rfl (by omega) (by omega) ⟨0, rfl, by omega, by omega, (by omega), (by omega), (by omega), (by omega), (by intro hz; first | exact absurd hz (by omega) | assumption | grind), (by omega), (by omega), rfl⟩
                            · refine r_load (i := 56) (u := 3) (w := 0) rfl rfl rfl ?_
                              refine r_const (i := 57) (u := 7) (z := 7) rfl rfl ?_
                              refine c_gt (i := 58) (v := 61) rfl ⟨by omega, by omega⟩ ⟨by omega, by omega⟩ (fun h109 => ?_) (fun h110 => ?_)
                              · refine r_const (i := 61) (u := 0) (z := 0) rfl rfl ?_
                                exact r_retZ (i := 62) rfl (by omega) (by omega) ⟨0, rfl, by omega, by omega, (by omega), (by omega), (by omega), (by omega), (by intro hz; first | exact absurd hz (by omega) | assumption | grind), (by omega), (by omega), rfl⟩
                              · refine r_load (i := 59) (u := 5) (w := 0) rfl rfl rfl ?_
                                refine z_eq (i := 60) (v := 63) rfl ⟨by omega, by omega⟩ (fun h111 => ?_) (fun h112 => ?_)
                                · exact lp217_63 hI h_t h_w0 h_bits h_al h_back   hd (yand bits 7) ⟨by omega, by omega⟩ (by omega) (by omega) (by omega) (by omega) (by first | assumption | grind) (by omega) (by omega) 
                                · refine r_const (i := 61) (u := 0) (z := 0) rfl rfl ?_
                                  exact r_retZ (i := 62) rfl (by omega) (by omega) ⟨0, rfl, by omega, by omega, (by omega), (by omega), (by omega), (by omega), (by intro hz; first | exact absurd hz (by omega) | assumption | grind), (by omega), (by omega), rfl⟩
                        · refine r_load (i := 40) (u := 6) (w := 0) rfl rfl rfl ?_
                          refine r_const (i := 41) (u := 2) (z := 2) rfl rfl ?_
                          refine c_eq (i := 42) (v := 48) rfl ⟨by omega, by omega⟩ ⟨by omega, by omega⟩ (fun h113 => ?_) (fun h114 => ?_)
                          · refine r_load (i := 48) (u := 2) (w := 0) rfl rfl rfl ?_
                            refine r_const (i := 49) (u := 10) (z := 10) rfl rfl ?_
                            refine c_ne (i := 50) (v := 63) rfl ⟨by omega, by omega⟩ ⟨by omega, by omega⟩ (fun h115 => ?_) (fun h116 => ?_)
                            · exact lp217_63 hI h_t h_w0 h_bits h_al h_back   hd (yand bits 7) ⟨by omega, by omega⟩ (by omega) (by omega) (by omega) (by omega) (by first | assumption | grind) (by omega) (by omega) 
                            · refine r_load (i := 51) (u := 0) (w := 2) rfl rfl rfl ?_
                              refine r_getf (i := 52) (v := 2) (w := 11) (x := (2, 44)) rfl ly43 rfl rfl fun _ => ?_
                              refine r_load (i := 53) (u := 1) (w := 0) rfl rfl rfl ?_
                              refine a_bool (i := 54) rfl ly44 rfl (by omega) (by omega) fun h118 => ?_
                              refine z_ne (i := 55) (v := 61) rfl ⟨by omega, by omega⟩ (fun h119 => ?_) (fun h120 => ?_)
                              · refine r_const (i := 61) (u := 0) (z := 0) rfl rfl ?_
                                exact r_retZ (i := 62) rfl (by omega) (by omega) ⟨0, rfl, by omega, by omega, (by omega), (by omega), (by omega), (by omega), (by intro hz; first | exact absurd hz (by omega) | assumption | grind), (by omega), (by omega), rfl⟩
                              · refine r_load (i := 56) (u := 3) (w := 0) rfl rfl rfl ?_
                                refine r_const (i := 57) (u := 7) (z := 7) rfl rfl ?_
                                refine c_gt (i := 58) (v := 61) rfl ⟨by omega, by omega⟩ ⟨by omega, by omega⟩ (fun h121 => ?_) (fun h122 => ?_)
                                · refine r_const (i := 61) (u := 0) (z := 0) rfl rfl ?_
                                  exact r_retZ (i := 62) rfl (by omega) (by omega) ⟨0, rfl, by omega, by omega, (by omega), (by omega), (by omega), (by omega), (by intro hz; first | exact absurd hz (by omega) | assumption | grind), (by omega), (by omega), rfl⟩
                                · refine r_load (i := 59) (u := 5) (w := 0) rfl rfl rfl ?_
                                  refine z_eq (i := 60) (v := 63) rfl ⟨by omega, by omega⟩ (fun h123 => ?_) (fun h124 => ?_)
                                  · exact lp217_63 hI h_t h_w0 h_bits h_al h_back   hd (yand bits 7) ⟨by omega, by omega⟩ (by omega) (by omega) (by omega) (by omega) (by first | assumption | grind) (by omega) (by omega) 
                                  · refine r_const (i := 61) (u := 0) (z := 0) rfl rfl ?_
                                    exact r_retZ (i := 62) rfl (by omega) (by omega) ⟨0, rfl, by omega, by omega, (by omega), (by omega), (by omega), (by omega), (by intro hz; first | exact absurd hz (by omega) | assumption | grind), (by omega), (by omega), rfl⟩
                          · refine r_load (i := 43) (u := 6) (w := 0) rfl rfl rfl ?_
                            refine r_const (i := 44) (u := 4) (z := 4) rfl rfl ?_
                            refine c_eq (i := 45) (v := 48) rfl ⟨by omega, by omega⟩ ⟨by omega, by omega⟩ (fun h125 => ?_) (fun h126 => ?_)
                            · refine r_load (i := 48) (u := 2) (w := 0) rfl rfl rfl ?_
                              refine r_const (i := 49) (u := 10) (z := 10) rfl rfl ?_
                              refine c_ne (i := 50) (v := 63) rfl ⟨by omega, by omega⟩ ⟨by omega, by omega⟩ (fun h127 => ?_) (fun h128 => ?_)
                              · exact lp217_63 hI h_t h_w0 h_bits h_al h_back   hd (yand bits 7) ⟨by omega, by omega⟩ (by omega) (by omega) (by omega) (by omega) (by first | assumption | grind) (by omega) (by omega) 
                              · refine r_load (i := 51) (u := 0) (w := 2) rfl rfl rfl ?_
                                refine r_getf (i := 52) (v := 2) (w := 11) (x := (2, 44)) rfl ly43 rfl rfl fun _ => ?_
                                refine r_load (i := 53) (u := 1) (w := 0) rfl rfl rfl ?_
                                refine a_bool (i := 54) rfl ly44 rfl (by omega) (by omega) fun h130 => ?_
                                refine z_ne (i := 55) (v := 61) rfl ⟨by omega, by omega⟩ (fun h131 => ?_) (fun h132 => ?_)
                                · refine r_const (i := 61) (u := 0) (z := 0) rfl rfl ?_
                                  exact r_retZ (i := 62) rfl (by omega) (by omega) ⟨0, rfl, by omega, by omega, (by omega), (by omega), (by omega), (by omega), (by intro hz; first | exact absurd hz (by omega) | assumption | grind), (by omega), (by omega), rfl⟩
                                · refine r_load (i := 56) (u := 3) (w := 0) rfl rfl rfl ?_
                                  refine r_const (i := 57) (u := 7) (z := 7) rfl rfl ?_
                                  refine c_gt (i := 58) (v := 61) rfl ⟨by omega, by omega⟩ ⟨by omega, by omega⟩ (fun h133 => ?_) (fun h134 => ?_)
                                  · refine r_const (i := 61) (u := 0) (z := 0) rfl rfl ?_
                                    exact r_retZ (i := 62) rfl (by omega) (by omega) ⟨0, rfl, by omega, by omega, (by omega), (by omega), (by omega), (by omega), (by intro hz; first | exact absurd hz (by omega) | assumption | grind), (by omega), (by omega), rfl⟩
                                  · refine r_load (i := 59) (u := 5) (w := 0) rfl rfl rfl ?_
                                    refine z_eq (i := 60) (v := 63) rfl ⟨by omega, by omega⟩ (fun h135 => ?_) (fun h136 => ?_)
                                    · exact lp217_63 hI h_t h_w0 h_bits h_al h_back   hd (yand bits 7) ⟨by omega, by omega⟩ (by omega) (by omega) (by omega) (by omega) (by first | assumption | grind) (by omega) (by omega) 
                                    · refine r_const (i := 61) (u := 0) (z := 0) rfl rfl ?_
                                      exact r_retZ (i := 62) rfl (by omega) (by omega) ⟨0, rfl, by omega, by omega, (by omega), (by omega), (by omega), (by omega), (by intro hz; first | exact absurd hz (by omega) | assumption | grind), (by omega), (by omega), rfl⟩
                            · refine r_const (i := 46) (u := 0) (z := 0) rfl rfl ?_
                              exact r_retZ (i := 47) rfl (by omega) (by omega) ⟨0, rfl, by omega, by omega, (by omega), (by omega), (by omega), (by omega), (by intro hz; first | exact absurd hz (by omega) | assumption | grind), (by omega), (by omega), rfl⟩
                    · refine r_const (i := 29) (u := 0) (z := 0) rfl rfl ?_
                      exact r_retZ (i := 30) rfl (by omega) (by omega) ⟨0, rfl, by omega, by omega, (by omega), (by omega), (by omega), (by omega), (by intro hz; first | exact absurd hz (by omega) | assumption | grind), (by omega), (by omega), rfl⟩
/-- ProxyForgeModel.method -/
theorem sp220 {G : xk} {S : yS} {d : Nat} (hI : yI S) {t : Int} (h_t : -2147483648 ≤ t ∧ t ≤ 2147483647) {w0 : Int} (h_w0 : -2147483648 ≤ w0 ∧ w0 ≤ 2147483647) {bits : Int} (h_bits : -2147483648 ≤ bits ∧ bits ≤ 2147483647) {al : Int} (h_al : -2147483648 ≤ al ∧ al ≤ 2147483647) {back : Int} (h_back : -2147483648 ≤ back ∧ back ≤ 2147483647) (e_CR : CR S) (hd : 4 ≤ d) : yT xPr G LY xC220 0 [some ((2, 43)), some (vi t), some (vi w0), some (vi bits), some (vi al), some (vi back)] [] S d (fun r S' => ∃ z : Int, r = (1, vi z) ∧ 0 ≤ z ∧ z ≤ 60 ∧ CR S' ∧ yI S' ∧ yFr [(43, 0), (43, 10)] [52, 53, 54, 55, 56] S S' ∧ yRm [] S S') := by
  refine yT_pad 0 ?_
  show yT xPr G LY xC220 0 [some ((2, 43)), some (vi t), some (vi w0), some (vi bits), some (vi al), some (vi back)] [] S d _
  obtain ⟨d, rfl⟩ : ∃ q, d = q + 1 := ⟨d - 1, by omega⟩
  have hF : yFr [(43, 0), (43, 10)] [52, 53, 54, 55, 56] S S := yFr.refl S
  have hR : yRm [] S S := yRm.refl S
  refine r_load (i := 0) (u := 0) (w := 2) rfl rfl rfl ?_
  refine r_load (i := 1) (u := 0) (w := 2) rfl rfl rfl ?_
  refine r_load (i := 2) (u := 1) (w := 0) rfl rfl rfl ?_
  refine r_load (i := 3) (u := 2) (w := 0) rfl rfl rfl ?_
  refine r_load (i := 4) (u := 3) (w := 0) rfl rfl rfl ?_
  refine r_load (i := 5) (u := 4) (w := 0) rfl rfl rfl ?_
  refine r_load (i := 6) (u := 5) (w := 0) rfl rfl rfl ?_
  have h1 := hI.f tf43_1
  refine r_call (i := 7) (u := 11) (v := 217) (w := 0) (b := 0) (na := 2054) (C2 := xC217) (as := [(2, 43), vi t, vi w0, vi bits, vi al, vi back]) (s := [(2, 43)]) rfl rfl rfl rfl rfl rfl rfl (sp217 (t := t) (w0 := w0) (bits := bits) (al := al) (back := back) hI ⟨by omega, by omega⟩ ⟨by omega, by omega⟩ ⟨by omega, by omega⟩ ⟨by omega, by omega⟩ ⟨by omega, by omega⟩   (by omega)) (fun r2 S3 hq4 => ?_)
  obtain ⟨z5, rfl, h6, h7, h8, h9, h10, h11, h12, h13, h14, rfl⟩ := hq4
  refine Or.inr (Or.inl ⟨rfl, ?_⟩)
  refine z_ne (i := 8) (v := 11) rfl ⟨by omega, by omega⟩ (fun h15 => ?_) (fun h16 => ?_)
  · refine r_load (i := 11) (u := 0) (w := 2) rfl rfl rfl ?_
    have h17 := hI.f tf43_10
    refine r_getf (i := 12) (v := 10) (w := 11) (x := vi (S.f 43 10)) rfl ly43 rfl rfl fun h18 => ?_
    have h18 : Rg (S.f 43 10) := h18
    refine r_const (i := 13) (u := 60) (z := 60) rfl rfl ?_
    refine c_ne (i := 14) (v := 17) rfl ⟨by omega, by omega⟩ ⟨by omega, by omega⟩ (fun h19 => ?_) (fun h20 => ?_)
    · refine r_const (i := 17) (u := 0) (z := 0) rfl rfl ?_
      refine r_putI (i := 18) (v := 0) (w := 11) rfl ly43 rfl ⟨by omega, by omega⟩ ?_
      have hI22 := hI.setf (b := 43) (w := 0) (z := 0) tf43_0 rfl (by omega) (by omega)
      have hF24 := hF.setf (b := 43) (w := 0) (z := 0) rfl
      have hR25 := hR.setf (b := 43) (w := 0) (z := 0)
      have e26 := CRx.setf e_CR (b := 43) (w := 0) (z := 0) rfl
      refine yT_gen (fun S21 hS23 => ?_)
      rw [hS23] at hI22 hF24 hR25 e26
      refine r_load (i := 19) (u := 0) (w := 2) rfl rfl rfl ?_
      have h27 := hI22.f tf43_0
      have h28 : S21.f 43 0 = 0 := by rw [← hS23]; exact ysf_eq
      refine r_getf (i := 20) (v := 0) (w := 11) (x := vi (S21.f 43 0)) rfl ly43 rfl rfl fun h29 => ?_
      have h29 : Rg (S21.f 43 0) := h29
      refine z_le (i := 21) (v := 24) rfl ⟨by omega, by omega⟩ (fun h30 => ?_) (fun h31 => ?_)
      · refine r_load (i := 24) (u := 0) (w := 2) rfl rfl rfl ?_
        refine r_getf (i := 25) (v := 11) (w := 11) (x := (2, 52)) rfl ly43 rfl rfl fun _ => ?_
        refine r_load (i := 26) (u := 0) (w := 2) rfl rfl rfl ?_
        have h33 := hI22.f tf43_10
        have h34 : S21.f 43 10 = S.f 43 10 := by rw [← hS23]; exact ysf_ne (by decide)
        refine r_getf (i := 27) (v := 10) (w := 11) (x := vi (S21.f 43 10)) rfl ly43 rfl rfl fun h35 => ?_
        have h35 : Rg (S21.f 43 10) := h35
        refine r_load (i := 28) (u := 1) (w := 0) rfl rfl rfl ?_
        refine s_int (i := 29) rfl ly52 rfl (by omega) (by omega) ⟨by omega, by omega⟩ ?_
        have hI37 := hI22.seta (b := 52) (j := (S21.f 43 10).toNat) (z := t) ta52 rfl (by omega) (by omega)
        have hF39 := hF24.seta (b := 52) (j := (S21.f 43 10).toNat) (z := t) rfl
        have hR40 := hR25.seta (b := 52) (j := (S21.f 43 10).toNat) (z := t)
        have e41 := CRx.seta e26 (b := 52) (j := (S21.f 43 10).toNat) (z := t) rfl
        refine yT_gen (fun S36 hS38 => ?_)
        rw [hS38] at hI37 hF39 hR40 e41
        refine r_load (i := 30) (u := 0) (w := 2) rfl rfl rfl ?_
        refine r_getf (i := 31) (v := 12) (w := 11) (x := (2, 53)) rfl ly43 rfl rfl fun _ => ?_
        refine r_load (i := 32) (u := 0) (w := 2) rfl rfl rfl ?_
        have h43 := hI37.f tf43_10
        have h44 : S36.f 43 10 = S21.f 43 10 := by rw [← hS38]; rfl
        have h45 : S21.f 43 10 = S.f 43 10 := by rw [← hS23]; exact ysf_ne (by decide)
        refine r_getf (i := 33) (v := 10) (w := 11) (x := vi (S36.f 43 10)) rfl ly43 rfl rfl fun h46 => ?_
        have h46 : Rg (S36.f 43 10) := h46
        refine r_load (i := 34) (u := 2) (w := 0) rfl rfl rfl ?_
        refine s_int (i := 35) rfl ly53 rfl (by omega) (by omega) ⟨by omega, by omega⟩ ?_
        have hI48 := hI37.seta (b := 53) (j := (S36.f 43 10).toNat) (z := w0) ta53 rfl (by omega) (by omega)
        have hF50 := hF39.seta (b := 53) (j := (S36.f 43 10).toNat) (z := w0) rfl
        have hR51 := hR40.seta (b := 53) (j := (S36.f 43 10).toNat) (z := w0)
        refine yT_gen (fun S47 hS49 => ?_)
        rw [hS49] at hI48 hF50 hR51 
        refine r_load (i := 36) (u := 0) (w := 2) rfl rfl rfl ?_
        refine r_getf (i := 37) (v := 13) (w := 11) (x := (2, 54)) rfl ly43 rfl rfl fun _ => ?_
        refine r_load (i := 38) (u := 0) (w := 2) rfl rfl rfl ?_
        have h53 := hI48.f tf43_10
        have h54 : S47.f 43 10 = S36.f 43 10 := by rw [← hS49]; rfl
        have h55 : S36.f 43 10 = S21.f 43 10 := by rw [← hS38]; rfl
        have h56 : S21.f 43 10 = S.f 43 10 := by rw [← hS23]; exact ysf_ne (by decide)
        refine r_getf (i := 39) (v := 10) (w := 11) (x := vi (S47.f 43 10)) rfl ly43 rfl rfl fun h57 => ?_
        have h57 : Rg (S47.f 43 10) := h57
        refine r_load (i := 40) (u := 3) (w := 0) rfl rfl rfl ?_
        refine s_int (i := 41) rfl ly54 rfl (by omega) (by omega) ⟨by omega, by omega⟩ ?_
        have hI59 := hI48.seta (b := 54) (j := (S47.f 43 10).toNat) (z := bits) ta54 rfl (by omega) (by omega)
        have hF61 := hF50.seta (b := 54) (j := (S47.f 43 10).toNat) (z := bits) rfl
        have hR62 := hR51.seta (b := 54) (j := (S47.f 43 10).toNat) (z := bits)
        refine yT_gen (fun S58 hS60 => ?_)
        rw [hS60] at hI59 hF61 hR62 
        refine r_load (i := 42) (u := 0) (w := 2) rfl rfl rfl ?_
        refine r_getf (i := 43) (v := 14) (w := 11) (x := (2, 55)) rfl ly43 rfl rfl fun _ => ?_
        refine r_load (i := 44) (u := 0) (w := 2) rfl rfl rfl ?_
        have h64 := hI59.f tf43_10
        have h65 : S58.f 43 10 = S47.f 43 10 := by rw [← hS60]; rfl
        have h66 : S47.f 43 10 = S36.f 43 10 := by rw [← hS49]; rfl
        have h67 : S36.f 43 10 = S21.f 43 10 := by rw [← hS38]; rfl
        have h68 : S21.f 43 10 = S.f 43 10 := by rw [← hS23]; exact ysf_ne (by decide)
        refine r_getf (i := 45) (v := 10) (w := 11) (x := vi (S58.f 43 10)) rfl ly43 rfl rfl fun h69 => ?_
        have h69 : Rg (S58.f 43 10) := h69
        refine r_load (i := 46) (u := 4) (w := 0) rfl rfl rfl ?_
        refine s_int (i := 47) rfl ly55 rfl (by omega) (by omega) ⟨by omega, by omega⟩ ?_
        have hI71 := hI59.seta55 (j := (S58.f 43 10).toNat) (z := al) (by omega) (by omega) (by first | assumption | grind)
        have hF73 := hF61.seta (b := 55) (j := (S58.f 43 10).toNat) (z := al) rfl
        have hR74 := hR62.seta (b := 55) (j := (S58.f 43 10).toNat) (z := al)
        refine yT_gen (fun S70 hS72 => ?_)
        rw [hS72] at hI71 hF73 hR74 
        refine r_load (i := 48) (u := 0) (w := 2) rfl rfl rfl ?_
        refine r_getf (i := 49) (v := 15) (w := 11) (x := (2, 56)) rfl ly43 rfl rfl fun _ => ?_
        refine r_load (i := 50) (u := 0) (w := 2) rfl rfl rfl ?_
        have h76 := hI71.f tf43_10
        have h77 : S70.f 43 10 = S58.f 43 10 := by rw [← hS72]; rfl
        have h78 : S58.f 43 10 = S47.f 43 10 := by rw [← hS60]; rfl
        have h79 : S47.f 43 10 = S36.f 43 10 := by rw [← hS49]; rfl
        have h80 : S36.f 43 10 = S21.f 43 10 := by rw [← hS38]; rfl
        have h81 : S21.f 43 10 = S.f 43 10 := by rw [← hS23]; exact ysf_ne (by decide)
        refine r_getf (i := 51) (v := 10) (w := 11) (x := vi (S70.f 43 10)) rfl ly43 rfl rfl fun h82 => ?_
        have h82 : Rg (S70.f 43 10) := h82
        refine r_load (i := 52) (u := 5) (w := 0) rfl rfl rfl ?_
        refine s_int (i := 53) rfl ly56 rfl (by omega) (by omega) ⟨by omega, by omega⟩ ?_
        have hI84 := hI71.seta (b := 56) (j := (S70.f 43 10).toNat) (z := back) ta56 rfl (by omega) (by omega)
        have hF86 := hF73.seta (b := 56) (j := (S70.f 43 10).toNat) (z := back) rfl
        have hR87 := hR74.seta (b := 56) (j := (S70.f 43 10).toNat) (z := back)
        refine yT_gen (fun S83 hS85 => ?_)
        rw [hS85] at hI84 hF86 hR87 
        refine r_load (i := 54) (u := 0) (w := 2) rfl rfl rfl ?_
        refine r_dup (i := 55) rfl rfl ?_
        have h88 := hI84.f tf43_10
        have h89 : S83.f 43 10 = S70.f 43 10 := by rw [← hS85]; rfl
        have h90 : S70.f 43 10 = S58.f 43 10 := by rw [← hS72]; rfl
        have h91 : S58.f 43 10 = S47.f 43 10 := by rw [← hS60]; rfl
        have h92 : S47.f 43 10 = S36.f 43 10 := by rw [← hS49]; rfl
        have h93 : S36.f 43 10 = S21.f 43 10 := by rw [← hS38]; rfl
        have h94 : S21.f 43 10 = S.f 43 10 := by rw [← hS23]; exact ysf_ne (by decide)
        refine r_getf (i := 56) (v := 10) (w := 11) (x := vi (S83.f 43 10)) rfl ly43 rfl rfl fun h95 => ?_
        have h95 : Rg (S83.f 43 10) := h95
        refine r_const (i := 57) (u := 1) (z := 1) rfl rfl ?_
        refine r_iadd (i := 58) rfl ?_
        refine r_putI (i := 59) (v := 10) (w := 11) rfl ly43 rfl ⟨by omega, by omega⟩ ?_
        have hI97 := hI84.setf (b := 43) (w := 10) (z := (S83.f 43 10) + 1) tf43_10 rfl (by omega) (by omega)
        have hF99 := hF86.setf (b := 43) (w := 10) (z := (S83.f 43 10) + 1) rfl
        have hR100 := hR87.setf (b := 43) (w := 10) (z := (S83.f 43 10) + 1)
        refine yT_gen (fun S96 hS98 => ?_)
        rw [hS98] at hI97 hF99 hR100 
        refine r_load (i := 60) (u := 0) (w := 2) rfl rfl rfl ?_
        have h101 := hI97.f tf43_10
        have h102 : S96.f 43 10 = (S83.f 43 10) + 1 := by rw [← hS98]; exact ysf_eq
        refine r_getf (i := 61) (v := 10) (w := 11) (x := vi (S96.f 43 10)) rfl ly43 rfl rfl fun h103 => ?_
        have h103 : Rg (S96.f 43 10) := h103
        refine r_const (i := 62) (u := 1) (z := 1) rfl rfl ?_
        refine r_isub (i := 63) rfl ?_
        exact r_retI (i := 64) rfl ⟨(S96.f 43 10) - 1, rfl, by omega, by omega, (by exact CR_push (w := w0) (b := back) e_CR (by omega) (fun j => by subst_vars; rfl) (fun j => by subst_vars; rfl)), hI97, hF99, hR100⟩
      · refine r_const (i := 22) (u := 0) (z := 0) rfl rfl ?_
        exact r_retI (i := 23) rfl ⟨0, rfl, by omega, by omega, e26, hI22, hF24, hR25⟩
    · refine r_const (i := 15) (u := 2) (z := 2) rfl rfl ?_
      refine r_goto (i := 16) (v := 18) rfl ?_
      refine r_putI (i := 18) (v := 0) (w := 11) rfl ly43 rfl ⟨by omega, by omega⟩ ?_
      have hI105 := hI.setf (b := 43) (w := 0) (z := 2) tf43_0 rfl (by omega) (by omega)
      have hF107 := hF.setf (b := 43) (w := 0) (z := 2) rfl
      have hR108 := hR.setf (b := 43) (w := 0) (z := 2)
      have e109 := CRx.setf e_CR (b := 43) (w := 0) (z := 2) rfl
      refine yT_gen (fun S104 hS106 => ?_)
      rw [hS106] at hI105 hF107 hR108 e109
      refine r_load (i := 19) (u := 0) (w := 2) rfl rfl rfl ?_
      have h110 := hI105.f tf43_0
      have h111 : S104.f 43 0 = 2 := by rw [← hS106]; exact ysf_eq
      refine r_getf (i := 20) (v := 0) (w := 11) (x := vi (S104.f 43 0)) rfl ly43 rfl rfl fun h112 => ?_
      have h112 : Rg (S104.f 43 0) := h112
      refine z_le (i := 21) (v := 24) rfl ⟨by omega, by omega⟩ (fun h113 => ?_) (fun h114 => ?_)
      · refine r_load (i := 24) (u := 0) (w := 2) rfl rfl rfl ?_
        refine r_getf (i := 25) (v := 11) (w := 11) (x := (2, 52)) rfl ly43 rfl rfl fun _ => ?_
        refine r_load (i := 26) (u := 0) (w := 2) rfl rfl rfl ?_
        have h116 := hI105.f tf43_10
        have h117 : S104.f 43 10 = S.f 43 10 := by rw [← hS106]; exact ysf_ne (by decide)
        refine r_getf (i := 27) (v := 10) (w := 11) (x := vi (S104.f 43 10)) rfl ly43 rfl rfl fun h118 => ?_
        have h118 : Rg (S104.f 43 10) := h118
        refine r_load (i := 28) (u := 1) (w := 0) rfl rfl rfl ?_
        refine s_int (i := 29) rfl ly52 rfl (by omega) (by omega) ⟨by omega, by omega⟩ ?_
        have hI120 := hI105.seta (b := 52) (j := (S104.f 43 10).toNat) (z := t) ta52 rfl (by omega) (by omega)
        have hF122 := hF107.seta (b := 52) (j := (S104.f 43 10).toNat) (z := t) rfl
        have hR123 := hR108.seta (b := 52) (j := (S104.f 43 10).toNat) (z := t)
        have e124 := CRx.seta e109 (b := 52) (j := (S104.f 43 10).toNat) (z := t) rfl
        refine yT_gen (fun S119 hS121 => ?_)
        rw [hS121] at hI120 hF122 hR123 e124
        refine r_load (i := 30) (u := 0) (w := 2) rfl rfl rfl ?_
        refine r_getf (i := 31) (v := 12) (w := 11) (x := (2, 53)) rfl ly43 rfl rfl fun _ => ?_
        refine r_load (i := 32) (u := 0) (w := 2) rfl rfl rfl ?_
        have h126 := hI120.f tf43_10
        have h127 : S119.f 43 10 = S104.f 43 10 := by rw [← hS121]; rfl
        have h128 : S104.f 43 10 = S.f 43 10 := by rw [← hS106]; exact ysf_ne (by decide)
        refine r_getf (i := 33) (v := 10) (w := 11) (x := vi (S119.f 43 10)) rfl ly43 rfl rfl fun h129 => ?_
        have h129 : Rg (S119.f 43 10) := h129
        refine r_load (i := 34) (u := 2) (w := 0) rfl rfl rfl ?_
        refine s_int (i := 35) rfl ly53 rfl (by omega) (by omega) ⟨by omega, by omega⟩ ?_
        have hI131 := hI120.seta (b := 53) (j := (S119.f 43 10).toNat) (z := w0) ta53 rfl (by omega) (by omega)
        have hF133 := hF122.seta (b := 53) (j := (S119.f 43 10).toNat) (z := w0) rfl
        have hR134 := hR123.seta (b := 53) (j := (S119.f 43 10).toNat) (z := w0)
        refine yT_gen (fun S130 hS132 => ?_)
        rw [hS132] at hI131 hF133 hR134 
        refine r_load (i := 36) (u := 0) (w := 2) rfl rfl rfl ?_
        refine r_getf (i := 37) (v := 13) (w := 11) (x := (2, 54)) rfl ly43 rfl rfl fun _ => ?_
        refine r_load (i := 38) (u := 0) (w := 2) rfl rfl rfl ?_
        have h136 := hI131.f tf43_10
        have h137 : S130.f 43 10 = S119.f 43 10 := by rw [← hS132]; rfl
        have h138 : S119.f 43 10 = S104.f 43 10 := by rw [← hS121]; rfl
        have h139 : S104.f 43 10 = S.f 43 10 := by rw [← hS106]; exact ysf_ne (by decide)
        refine r_getf (i := 39) (v := 10) (w := 11) (x := vi (S130.f 43 10)) rfl ly43 rfl rfl fun h140 => ?_
        have h140 : Rg (S130.f 43 10) := h140
        refine r_load (i := 40) (u := 3) (w := 0) rfl rfl rfl ?_
        refine s_int (i := 41) rfl ly54 rfl (by omega) (by omega) ⟨by omega, by omega⟩ ?_
        have hI142 := hI131.seta (b := 54) (j := (S130.f 43 10).toNat) (z := bits) ta54 rfl (by omega) (by omega)
        have hF144 := hF133.seta (b := 54) (j := (S130.f 43 10).toNat) (z := bits) rfl
        have hR145 := hR134.seta (b := 54) (j := (S130.f 43 10).toNat) (z := bits)
        refine yT_gen (fun S141 hS143 => ?_)
        rw [hS143] at hI142 hF144 hR145 
        refine r_load (i := 42) (u := 0) (w := 2) rfl rfl rfl ?_
        refine r_getf (i := 43) (v := 14) (w := 11) (x := (2, 55)) rfl ly43 rfl rfl fun _ => ?_
        refine r_load (i := 44) (u := 0) (w := 2) rfl rfl rfl ?_
        have h147 := hI142.f tf43_10
        have h148 : S141.f 43 10 = S130.f 43 10 := by rw [← hS143]; rfl
        have h149 : S130.f 43 10 = S119.f 43 10 := by rw [← hS132]; rfl
        have h150 : S119.f 43 10 = S104.f 43 10 := by rw [← hS121]; rfl
        have h151 : S104.f 43 10 = S.f 43 10 := by rw [← hS106]; exact ysf_ne (by decide)
        refine r_getf (i := 45) (v := 10) (w := 11) (x := vi (S141.f 43 10)) rfl ly43 rfl rfl fun h152 => ?_
        have h152 : Rg (S141.f 43 10) := h152
        refine r_load (i := 46) (u := 4) (w := 0) rfl rfl rfl ?_
        refine s_int (i := 47) rfl ly55 rfl (by omega) (by omega) ⟨by omega, by omega⟩ ?_
        have hI154 := hI142.seta55 (j := (S141.f 43 10).toNat) (z := al) (by omega) (by omega) (by first | assumption | grind)
        have hF156 := hF144.seta (b := 55) (j := (S141.f 43 10).toNat) (z := al) rfl
        have hR157 := hR145.seta (b := 55) (j := (S141.f 43 10).toNat) (z := al)
        refine yT_gen (fun S153 hS155 => ?_)
        rw [hS155] at hI154 hF156 hR157 
        refine r_load (i := 48) (u := 0) (w := 2) rfl rfl rfl ?_
        refine r_getf (i := 49) (v := 15) (w := 11) (x := (2, 56)) rfl ly43 rfl rfl fun _ => ?_
        refine r_load (i := 50) (u := 0) (w := 2) rfl rfl rfl ?_
        have h159 := hI154.f tf43_10
        have h160 : S153.f 43 10 = S141.f 43 10 := by rw [← hS155]; rfl
        have h161 : S141.f 43 10 = S130.f 43 10 := by rw [← hS143]; rfl
        have h162 : S130.f 43 10 = S119.f 43 10 := by rw [← hS132]; rfl
        have h163 : S119.f 43 10 = S104.f 43 10 := by rw [← hS121]; rfl
        have h164 : S104.f 43 10 = S.f 43 10 := by rw [← hS106]; exact ysf_ne (by decide)
        refine r_getf (i := 51) (v := 10) (w := 11) (x := vi (S153.f 43 10)) rfl ly43 rfl rfl fun h165 => ?_
        have h165 : Rg (S153.f 43 10) := h165
        refine r_load (i := 52) (u := 5) (w := 0) rfl rfl rfl ?_
        refine s_int (i := 53) rfl ly56 rfl (by omega) (by omega) ⟨by omega, by omega⟩ ?_
        have hI167 := hI154.seta (b := 56) (j := (S153.f 43 10).toNat) (z := back) ta56 rfl (by omega) (by omega)
        have hF169 := hF156.seta (b := 56) (j := (S153.f 43 10).toNat) (z := back) rfl
        have hR170 := hR157.seta (b := 56) (j := (S153.f 43 10).toNat) (z := back)
        refine yT_gen (fun S166 hS168 => ?_)
        rw [hS168] at hI167 hF169 hR170 
        refine r_load (i := 54) (u := 0) (w := 2) rfl rfl rfl ?_
        refine r_dup (i := 55) rfl rfl ?_
        have h171 := hI167.f tf43_10
        have h172 : S166.f 43 10 = S153.f 43 10 := by rw [← hS168]; rfl
        have h173 : S153.f 43 10 = S141.f 43 10 := by rw [← hS155]; rfl
        have h174 : S141.f 43 10 = S130.f 43 10 := by rw [← hS143]; rfl
        have h175 : S130.f 43 10 = S119.f 43 10 := by rw [← hS132]; rfl
        have h176 : S119.f 43 10 = S104.f 43 10 := by rw [← hS121]; rfl
        have h177 : S104.f 43 10 = S.f 43 10 := by rw [← hS106]; exact ysf_ne (by decide)
        refine r_getf (i := 56) (v := 10) (w := 11) (x := vi (S166.f 43 10)) rfl ly43 rfl rfl fun h178 => ?_
        have h178 : Rg (S166.f 43 10) := h178
        refine r_const (i := 57) (u := 1) (z := 1) rfl rfl ?_
        refine r_iadd (i := 58) rfl ?_
        refine r_putI (i := 59) (v := 10) (w := 11) rfl ly43 rfl ⟨by omega, by omega⟩ ?_
        have hI180 := hI167.setf (b := 43) (w := 10) (z := (S166.f 43 10) + 1) tf43_10 rfl (by omega) (by omega)
        have hF182 := hF169.setf (b := 43) (w := 10) (z := (S166.f 43 10) + 1) rfl
        have hR183 := hR170.setf (b := 43) (w := 10) (z := (S166.f 43 10) + 1)
        refine yT_gen (fun S179 hS181 => ?_)
        rw [hS181] at hI180 hF182 hR183 
        refine r_load (i := 60) (u := 0) (w := 2) rfl rfl rfl ?_
        have h184 := hI180.f tf43_10
        have h185 : S179.f 43 10 = (S166.f 43 10) + 1 := by rw [← hS181]; exact ysf_eq
        refine r_getf (i := 61) (v := 10) (w := 11) (x := vi (S179.f 43 10)) rfl ly43 rfl rfl fun h186 => ?_
        have h186 : Rg (S179.f 43 10) := h186
        refine r_const (i := 62) (u := 1) (z := 1) rfl rfl ?_
        refine r_isub (i := 63) rfl ?_
        exact r_retI (i := 64) rfl ⟨(S179.f 43 10) - 1, rfl, by omega, by omega, (by exact CR_push (w := w0) (b := back) e_CR (by omega) (fun j => by subst_vars; rfl) (fun j => by subst_vars; rfl)), hI180, hF182, hR183⟩
      · refine r_const (i := 22) (u := 0) (z := 0) rfl rfl ?_
        exact r_retI (i := 23) rfl ⟨0, rfl, by omega, by omega, e109, hI105, hF107, hR108⟩
  · refine r_const (i := 9) (u := 1) (z := 1) rfl rfl ?_
    refine r_goto (i := 10) (v := 18) rfl ?_
    refine r_putI (i := 18) (v := 0) (w := 11) rfl ly43 rfl ⟨by omega, by omega⟩ ?_
    have hI188 := hI.setf (b := 43) (w := 0) (z := 1) tf43_0 rfl (by omega) (by omega)
    have hF190 := hF.setf (b := 43) (w := 0) (z := 1) rfl
    have hR191 := hR.setf (b := 43) (w := 0) (z := 1)
    have e192 := CRx.setf e_CR (b := 43) (w := 0) (z := 1) rfl
    refine yT_gen (fun S187 hS189 => ?_)
    rw [hS189] at hI188 hF190 hR191 e192
    refine r_load (i := 19) (u := 0) (w := 2) rfl rfl rfl ?_
    have h193 := hI188.f tf43_0
    have h194 : S187.f 43 0 = 1 := by rw [← hS189]; exact ysf_eq
    refine r_getf (i := 20) (v := 0) (w := 11) (x := vi (S187.f 43 0)) rfl ly43 rfl rfl fun h195 => ?_
    have h195 : Rg (S187.f 43 0) := h195
    refine z_le (i := 21) (v := 24) rfl ⟨by omega, by omega⟩ (fun h196 => ?_) (fun h197 => ?_)
    · refine r_load (i := 24) (u := 0) (w := 2) rfl rfl rfl ?_
      refine r_getf (i := 25) (v := 11) (w := 11) (x := (2, 52)) rfl ly43 rfl rfl fun _ => ?_
      refine r_load (i := 26) (u := 0) (w := 2) rfl rfl rfl ?_
      have h199 := hI188.f tf43_10
      have h200 : S187.f 43 10 = S.f 43 10 := by rw [← hS189]; exact ysf_ne (by decide)
      refine r_getf (i := 27) (v := 10) (w := 11) (x := vi (S187.f 43 10)) rfl ly43 rfl rfl fun h201 => ?_
      have h201 : Rg (S187.f 43 10) := h201
      refine r_load (i := 28) (u := 1) (w := 0) rfl rfl rfl ?_
      refine s_int (i := 29) rfl ly52 rfl (by omega) (by omega) ⟨by omega, by omega⟩ ?_
      have hI203 := hI188.seta (b := 52) (j := (S187.f 43 10).toNat) (z := t) ta52 rfl (by omega) (by omega)
      have hF205 := hF190.seta (b := 52) (j := (S187.f 43 10).toNat) (z := t) rfl
      have hR206 := hR191.seta (b := 52) (j := (S187.f 43 10).toNat) (z := t)
      have e207 := CRx.seta e192 (b := 52) (j := (S187.f 43 10).toNat) (z := t) rfl
      refine yT_gen (fun S202 hS204 => ?_)
      rw [hS204] at hI203 hF205 hR206 e207
      refine r_load (i := 30) (u := 0) (w := 2) rfl rfl rfl ?_
      refine r_getf (i := 31) (v := 12) (w := 11) (x := (2, 53)) rfl ly43 rfl rfl fun _ => ?_
      refine r_load (i := 32) (u := 0) (w := 2) rfl rfl rfl ?_
      have h209 := hI203.f tf43_10
      have h210 : S202.f 43 10 = S187.f 43 10 := by rw [← hS204]; rfl
      have h211 : S187.f 43 10 = S.f 43 10 := by rw [← hS189]; exact ysf_ne (by decide)
      refine r_getf (i := 33) (v := 10) (w := 11) (x := vi (S202.f 43 10)) rfl ly43 rfl rfl fun h212 => ?_
      have h212 : Rg (S202.f 43 10) := h212
      refine r_load (i := 34) (u := 2) (w := 0) rfl rfl rfl ?_
      refine s_int (i := 35) rfl ly53 rfl (by omega) (by omega) ⟨by omega, by omega⟩ ?_
      have hI214 := hI203.seta (b := 53) (j := (S202.f 43 10).toNat) (z := w0) ta53 rfl (by omega) (by omega)
      have hF216 := hF205.seta (b := 53) (j := (S202.f 43 10).toNat) (z := w0) rfl
      have hR217 := hR206.seta (b := 53) (j := (S202.f 43 10).toNat) (z := w0)
      refine yT_gen (fun S213 hS215 => ?_)
      rw [hS215] at hI214 hF216 hR217 
      refine r_load (i := 36) (u := 0) (w := 2) rfl rfl rfl ?_
      refine r_getf (i := 37) (v := 13) (w := 11) (x := (2, 54)) rfl ly43 rfl rfl fun _ => ?_
      refine r_load (i := 38) (u := 0) (w := 2) rfl rfl rfl ?_
      have h219 := hI214.f tf43_10
      have h220 : S213.f 43 10 = S202.f 43 10 := by rw [← hS215]; rfl
      have h221 : S202.f 43 10 = S187.f 43 10 := by rw [← hS204]; rfl
      have h222 : S187.f 43 10 = S.f 43 10 := by rw [← hS189]; exact ysf_ne (by decide)
      refine r_getf (i := 39) (v := 10) (w := 11) (x := vi (S213.f 43 10)) rfl ly43 rfl rfl fun h223 => ?_
      have h223 : Rg (S213.f 43 10) := h223
      refine r_load (i := 40) (u := 3) (w := 0) rfl rfl rfl ?_
      refine s_int (i := 41) rfl ly54 rfl (by omega) (by omega) ⟨by omega, by omega⟩ ?_
      have hI225 := hI214.seta (b := 54) (j := (S213.f 43 10).toNat) (z := bits) ta54 rfl (by omega) (by omega)
      have hF227 := hF216.seta (b := 54) (j := (S213.f 43 10).toNat) (z := bits) rfl
      have hR228 := hR217.seta (b := 54) (j := (S213.f 43 10).toNat) (z := bits)
      refine yT_gen (fun S224 hS226 => ?_)
      rw [hS226] at hI225 hF227 hR228 
      refine r_load (i := 42) (u := 0) (w := 2) rfl rfl rfl ?_
      refine r_getf (i := 43) (v := 14) (w := 11) (x := (2, 55)) rfl ly43 rfl rfl fun _ => ?_
      refine r_load (i := 44) (u := 0) (w := 2) rfl rfl rfl ?_
      have h230 := hI225.f tf43_10
      have h231 : S224.f 43 10 = S213.f 43 10 := by rw [← hS226]; rfl
      have h232 : S213.f 43 10 = S202.f 43 10 := by rw [← hS215]; rfl
      have h233 : S202.f 43 10 = S187.f 43 10 := by rw [← hS204]; rfl
      have h234 : S187.f 43 10 = S.f 43 10 := by rw [← hS189]; exact ysf_ne (by decide)
      refine r_getf (i := 45) (v := 10) (w := 11) (x := vi (S224.f 43 10)) rfl ly43 rfl rfl fun h235 => ?_
      have h235 : Rg (S224.f 43 10) := h235
      refine r_load (i := 46) (u := 4) (w := 0) rfl rfl rfl ?_
      refine s_int (i := 47) rfl ly55 rfl (by omega) (by omega) ⟨by omega, by omega⟩ ?_
      have hI237 := hI225.seta55 (j := (S224.f 43 10).toNat) (z := al) (by omega) (by omega) (by first | assumption | grind)
      have hF239 := hF227.seta (b := 55) (j := (S224.f 43 10).toNat) (z := al) rfl
      have hR240 := hR228.seta (b := 55) (j := (S224.f 43 10).toNat) (z := al)
      refine yT_gen (fun S236 hS238 => ?_)
      rw [hS238] at hI237 hF239 hR240 
      refine r_load (i := 48) (u := 0) (w := 2) rfl rfl rfl ?_
      refine r_getf (i := 49) (v := 15) (w := 11) (x := (2, 56)) rfl ly43 rfl rfl fun _ => ?_
      refine r_load (i := 50) (u := 0) (w := 2) rfl rfl rfl ?_
      have h242 := hI237.f tf43_10
      have h243 : S236.f 43 10 = S224.f 43 10 := by rw [← hS238]; rfl
      have h244 : S224.f 43 10 = S213.f 43 10 := by rw [← hS226]; rfl
      have h245 : S213.f 43 10 = S202.f 43 10 := by rw [← hS215]; rfl
      have h246 : S202.f 43 10 = S187.f 43 10 := by rw [← hS204]; rfl
      have h247 : S187.f 43 10 = S.f 43 10 := by rw [← hS189]; exact ysf_ne (by decide)
      refine r_getf (i := 51) (v := 10) (w := 11) (x := vi (S236.f 43 10)) rfl ly43 rfl rfl fun h248 => ?_
      have h248 : Rg (S236.f 43 10) := h248
      refine r_load (i := 52) (u := 5) (w := 0) rfl rfl rfl ?_
      refine s_int (i := 53) rfl ly56 rfl (by omega) (by omega) ⟨by omega, by omega⟩ ?_
      have hI250 := hI237.seta (b := 56) (j := (S236.f 43 10).toNat) (z := back) ta56 rfl (by omega) (by omega)
      have hF252 := hF239.seta (b := 56) (j := (S236.f 43 10).toNat) (z := back) rfl
      have hR253 := hR240.seta (b := 56) (j := (S236.f 43 10).toNat) (z := back)
      refine yT_gen (fun S249 hS251 => ?_)
      rw [hS251] at hI250 hF252 hR253 
      refine r_load (i := 54) (u := 0) (w := 2) rfl rfl rfl ?_
      refine r_dup (i := 55) rfl rfl ?_
      have h254 := hI250.f tf43_10
      have h255 : S249.f 43 10 = S236.f 43 10 := by rw [← hS251]; rfl
      have h256 : S236.f 43 10 = S224.f 43 10 := by rw [← hS238]; rfl
      have h257 : S224.f 43 10 = S213.f 43 10 := by rw [← hS226]; rfl
      have h258 : S213.f 43 10 = S202.f 43 10 := by rw [← hS215]; rfl
      have h259 : S202.f 43 10 = S187.f 43 10 := by rw [← hS204]; rfl
      have h260 : S187.f 43 10 = S.f 43 10 := by rw [← hS189]; exact ysf_ne (by decide)
      refine r_getf (i := 56) (v := 10) (w := 11) (x := vi (S249.f 43 10)) rfl ly43 rfl rfl fun h261 => ?_
      have h261 : Rg (S249.f 43 10) := h261
      refine r_const (i := 57) (u := 1) (z := 1) rfl rfl ?_
      refine r_iadd (i := 58) rfl ?_
      refine r_putI (i := 59) (v := 10) (w := 11) rfl ly43 rfl ⟨by omega, by omega⟩ ?_
      have hI263 := hI250.setf (b := 43) (w := 10) (z := (S249.f 43 10) + 1) tf43_10 rfl (by omega) (by omega)
      have hF265 := hF252.setf (b := 43) (w := 10) (z := (S249.f 43 10) + 1) rfl
      have hR266 := hR253.setf (b := 43) (w := 10) (z := (S249.f 43 10) + 1)
      refine yT_gen (fun S262 hS264 => ?_)
      rw [hS264] at hI263 hF265 hR266 
      refine r_load (i := 60) (u := 0) (w := 2) rfl rfl rfl ?_
      have h267 := hI263.f tf43_10
      have h268 : S262.f 43 10 = (S249.f 43 10) + 1 := by rw [← hS264]; exact ysf_eq
      refine r_getf (i := 61) (v := 10) (w := 11) (x := vi (S262.f 43 10)) rfl ly43 rfl rfl fun h269 => ?_
      have h269 : Rg (S262.f 43 10) := h269
      refine r_const (i := 62) (u := 1) (z := 1) rfl rfl ?_
      refine r_isub (i := 63) rfl ?_
      exact r_retI (i := 64) rfl ⟨(S262.f 43 10) - 1, rfl, by omega, by omega, (by exact CR_push (w := w0) (b := back) e_CR (by omega) (fun j => by subst_vars; rfl) (fun j => by subst_vars; rfl)), hI263, hF265, hR266⟩
    · refine r_const (i := 22) (u := 0) (z := 0) rfl rfl ?_
      exact r_retI (i := 23) rfl ⟨0, rfl, by omega, by omega, e192, hI188, hF190, hR191⟩
end XNC
