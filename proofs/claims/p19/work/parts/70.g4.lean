set_option linter.unusedVariables false
set_option maxRecDepth 4000
noncomputable section XNC
/-- java/lang/Integer.bitCount -/
theorem sp267 {G : xk} {S : yS} {d : Nat}  {x : Int} (h_x : -2147483648 ≤ x ∧ x ≤ 2147483647) (hd : 0 ≤ d) : yT xPr G LY xC267 0 [some (vi x)] [] S d (fun r S' => ∃ z : Int, r = (1, vi z) ∧ 0 ≤ z ∧ z ≤ 63 ∧ z = bcI x ∧ S = S') := by
  refine yT_pad 0 ?_
  show yT xPr G LY xC267 0 [some (vi x)] [] S d _
  refine r_load (i := 0) (u := 0) (w := 0) rfl rfl rfl ?_
  refine r_load (i := 1) (u := 0) (w := 0) rfl rfl rfl ?_
  refine r_const (i := 2) (u := 1) (z := 1) rfl rfl ?_
  refine r_iushr (i := 3) rfl (by omega) (by omega) ?_
  have h1 := yshr_rg x 1
  refine r_const (i := 4) (u := 1431655765) (z := 1431655765) rfl rfl ?_
  refine r_iand (i := 5) rfl ?_
  have h2 := @yand_c (yshr x 1) 1431655765 (by decide) (by decide)
  refine r_isub (i := 6) rfl ?_
  refine r_store (i := 7) (u := 0) (w := 0) (L1 := [some (vi (x - (yand (yshr x 1) 1431655765)))]) rfl rfl rfl rfl ?_
  refine r_load (i := 8) (u := 0) (w := 0) rfl rfl rfl ?_
  refine r_const (i := 9) (u := 858993459) (z := 858993459) rfl rfl ?_
  refine r_iand (i := 10) rfl ?_
  have h3 := @yand_c (x - (yand (yshr x 1) 1431655765)) 858993459 (by decide) (by decide)
  refine r_load (i := 11) (u := 0) (w := 0) rfl rfl rfl ?_
  refine r_const (i := 12) (u := 2) (z := 2) rfl rfl ?_
  refine r_iushr (i := 13) rfl (by omega) (by omega) ?_
  have h4 := yshr_rg (x - (yand (yshr x 1) 1431655765)) 2
  refine r_const (i := 14) (u := 858993459) (z := 858993459) rfl rfl ?_
  refine r_iand (i := 15) rfl ?_
  have h5 := @yand_c (yshr (x - (yand (yshr x 1) 1431655765)) 2) 858993459 (by decide) (by decide)
  refine r_iadd (i := 16) rfl ?_
  refine r_store (i := 17) (u := 0) (w := 0) (L1 := [some (vi ((yand (x - (yand (yshr x 1) 1431655765)) 858993459) + (yand (yshr (x - (yand (yshr x 1) 1431655765)) 2) 858993459)))]) rfl rfl rfl rfl ?_
  refine r_load (i := 18) (u := 0) (w := 0) rfl rfl rfl ?_
  refine r_load (i := 19) (u := 0) (w := 0) rfl rfl rfl ?_
  refine r_const (i := 20) (u := 4) (z := 4) rfl rfl ?_
  refine r_iushr (i := 21) rfl (by omega) (by omega) ?_
  have h6 := yshr_rg ((yand (x - (yand (yshr x 1) 1431655765)) 858993459) + (yand (yshr (x - (yand (yshr x 1) 1431655765)) 2) 858993459)) 4
  refine r_iadd (i := 22) rfl ?_
  refine r_const (i := 23) (u := 252645135) (z := 252645135) rfl rfl ?_
  refine r_iand (i := 24) rfl ?_
  have h7 := @yand_c (((yand (x - (yand (yshr x 1) 1431655765)) 858993459) + (yand (yshr (x - (yand (yshr x 1) 1431655765)) 2) 858993459)) + (yshr ((yand (x - (yand (yshr x 1) 1431655765)) 858993459) + (yand (yshr (x - (yand (yshr x 1) 1431655765)) 2) 858993459)) 4)) 252645135 (by decide) (by decide)
  refine r_store (i := 25) (u := 0) (w := 0) (L1 := [some (vi (yand (((yand (x - (yand (yshr x 1) 1431655765)) 858993459) + (yand (yshr (x - (yand (yshr x 1) 1431655765)) 2) 858993459)) + (yshr ((yand (x - (yand (yshr x 1) 1431655765)) 858993459) + (yand (yshr (x - (yand (yshr x 1) 1431655765)) 2) 858993459)) 4)) 252645135))]) rfl rfl rfl rfl ?_
  refine r_load (i := 26) (u := 0) (w := 0) rfl rfl rfl ?_
  refine r_load (i := 27) (u := 0) (w := 0) rfl rfl rfl ?_
  refine r_const (i := 28) (u := 8) (z := 8) rfl rfl ?_
  refine r_iushr (i := 29) rfl (by omega) (by omega) ?_
  have h8 := yshr_rg (yand (((yand (x - (yand (yshr x 1) 1431655765)) 858993459) + (yand (yshr (x - (yand (yshr x 1) 1431655765)) 2) 858993459)) + (yshr ((yand (x - (yand (yshr x 1) 1431655765)) 858993459) + (yand (yshr (x - (yand (yshr x 1) 1431655765)) 2) 858993459)) 4)) 252645135) 8
  refine r_iadd (i := 30) rfl ?_
  refine r_store (i := 31) (u := 0) (w := 0) (L1 := [some (vi ((yand (((yand (x - (yand (yshr x 1) 1431655765)) 858993459) + (yand (yshr (x - (yand (yshr x 1) 1431655765)) 2) 858993459)) + (yshr ((yand (x - (yand (yshr x 1) 1431655765)) 858993459) + (yand (yshr (x - (yand (yshr x 1) 1431655765)) 2) 858993459)) 4)) 252645135) + (yshr (yand (((yand (x - (yand (yshr x 1) 1431655765)) 858993459) + (yand (yshr (x - (yand (yshr x 1) 1431655765)) 2) 858993459)) + (yshr ((yand (x - (yand (yshr x 1) 1431655765)) 858993459) + (yand (yshr (x - (yand (yshr x 1) 1431655765)) 2) 858993459)) 4)) 252645135) 8)))]) rfl rfl rfl rfl ?_
  refine r_load (i := 32) (u := 0) (w := 0) rfl rfl rfl ?_
  refine r_load (i := 33) (u := 0) (w := 0) rfl rfl rfl ?_
  refine r_const (i := 34) (u := 16) (z := 16) rfl rfl ?_
  refine r_iushr (i := 35) rfl (by omega) (by omega) ?_
  have h9 := yshr_rg ((yand (((yand (x - (yand (yshr x 1) 1431655765)) 858993459) + (yand (yshr (x - (yand (yshr x 1) 1431655765)) 2) 858993459)) + (yshr ((yand (x - (yand (yshr x 1) 1431655765)) 858993459) + (yand (yshr (x - (yand (yshr x 1) 1431655765)) 2) 858993459)) 4)) 252645135) + (yshr (yand (((yand (x - (yand (yshr x 1) 1431655765)) 858993459) + (yand (yshr (x - (yand (yshr x 1) 1431655765)) 2) 858993459)) + (yshr ((yand (x - (yand (yshr x 1) 1431655765)) 858993459) + (yand (yshr (x - (yand (yshr x 1) 1431655765)) 2) 858993459)) 4)) 252645135) 8)) 16
  refine r_iadd (i := 36) rfl ?_
  refine r_store (i := 37) (u := 0) (w := 0) (L1 := [some (vi (((yand (((yand (x - (yand (yshr x 1) 1431655765)) 858993459) + (yand (yshr (x - (yand (yshr x 1) 1431655765)) 2) 858993459)) + (yshr ((yand (x - (yand (yshr x 1) 1431655765)) 858993459) + (yand (yshr (x - (yand (yshr x 1) 1431655765)) 2) 858993459)) 4)) 252645135) + (yshr (yand (((yand (x - (yand (yshr x 1) 1431655765)) 858993459) + (yand (yshr (x - (yand (yshr x 1) 1431655765)) 2) 858993459)) + (yshr ((yand (x - (yand (yshr x 1) 1431655765)) 858993459) + (yand (yshr (x - (yand (yshr x 1) 1431655765)) 2) 858993459)) 4)) 252645135) 8)) + (yshr ((yand (((yand (x - (yand (yshr x 1) 1431655765)) 858993459) + (yand (yshr (x - (yand (yshr x 1) 1431655765)) 2) 858993459)) + (yshr ((yand (x - (yand (yshr x 1) 1431655765)) 858993459) + (yand (yshr (x - (yand (yshr x 1) 1431655765)) 2) 858993459)) 4)) 252645135) + (yshr (yand (((yand (x - (yand (yshr x 1) 1431655765)) 858993459) + (yand (yshr (x - (yand (yshr x 1) 1431655765)) 2) 858993459)) + (yshr ((yand (x - (yand (yshr x 1) 1431655765)) 858993459) + (yand (yshr (x - (yand (yshr x 1) 1431655765)) 2) 858993459)) 4)) 252645135) 8)) 16)))]) rfl rfl rfl rfl ?_
  refine r_load (i := 38) (u := 0) (w := 0) rfl rfl rfl ?_
  refine r_const (i := 39) (u := 63) (z := 63) rfl rfl ?_
  refine r_iand (i := 40) rfl ?_
  have h10 := @yand_c (((yand (((yand (x - (yand (yshr x 1) 1431655765)) 858993459) + (yand (yshr (x - (yand (yshr x 1) 1431655765)) 2) 858993459)) + (yshr ((yand (x - (yand (yshr x 1) 1431655765)) 858993459) + (yand (yshr (x - (yand (yshr x 1) 1431655765)) 2) 858993459)) 4)) 252645135) + (yshr (yand (((yand (x - (yand (yshr x 1) 1431655765)) 858993459) + (yand (yshr (x - (yand (yshr x 1) 1431655765)) 2) 858993459)) + (yshr ((yand (x - (yand (yshr x 1) 1431655765)) 858993459) + (yand (yshr (x - (yand (yshr x 1) 1431655765)) 2) 858993459)) 4)) 252645135) 8)) + (yshr ((yand (((yand (x - (yand (yshr x 1) 1431655765)) 858993459) + (yand (yshr (x - (yand (yshr x 1) 1431655765)) 2) 858993459)) + (yshr ((yand (x - (yand (yshr x 1) 1431655765)) 858993459) + (yand (yshr (x - (yand (yshr x 1) 1431655765)) 2) 858993459)) 4)) 252645135) + (yshr (yand (((yand (x - (yand (yshr x 1) 1431655765)) 858993459) + (yand (yshr (x - (yand (yshr x 1) 1431655765)) 2) 858993459)) + (yshr ((yand (x - (yand (yshr x 1) 1431655765)) 858993459) + (yand (yshr (x - (yand (yshr x 1) 1431655765)) 2) 858993459)) 4)) 252645135) 8)) 16)) 63 (by decide) (by decide)
  exact r_retI (i := 41) rfl ⟨yand (((yand (((yand (x - (yand (yshr x 1) 1431655765)) 858993459) + (yand (yshr (x - (yand (yshr x 1) 1431655765)) 2) 858993459)) + (yshr ((yand (x - (yand (yshr x 1) 1431655765)) 858993459) + (yand (yshr (x - (yand (yshr x 1) 1431655765)) 2) 858993459)) 4)) 252645135) + (yshr (yand (((yand (x - (yand (yshr x 1) 1431655765)) 858993459) + (yand (yshr (x - (yand (yshr x 1) 1431655765)) 2) 858993459)) + (yshr ((yand (x - (yand (yshr x 1) 1431655765)) 858993459) + (yand (yshr (x - (yand (yshr x 1) 1431655765)) 2) 858993459)) 4)) 252645135) 8)) + (yshr ((yand (((yand (x - (yand (yshr x 1) 1431655765)) 858993459) + (yand (yshr (x - (yand (yshr x 1) 1431655765)) 2) 858993459)) + (yshr ((yand (x - (yand (yshr x 1) 1431655765)) 858993459) + (yand (yshr (x - (yand (yshr x 1) 1431655765)) 2) 858993459)) 4)) 252645135) + (yshr (yand (((yand (x - (yand (yshr x 1) 1431655765)) 858993459) + (yand (yshr (x - (yand (yshr x 1) 1431655765)) 2) 858993459)) + (yshr ((yand (x - (yand (yshr x 1) 1431655765)) 858993459) + (yand (yshr (x - (yand (yshr x 1) 1431655765)) 2) 858993459)) 4)) 252645135) 8)) 16)) 63, rfl, by omega, by omega, (by rfl), rfl⟩
/-- ProxyForge$Kinds.digit -/
theorem sp66 {G : xk} {S : yS} {d : Nat} (hI : yI S) {p : Int} (h_p : -2147483648 ≤ p ∧ p ≤ 2147483647) {k : Int} (h_k : 0 ≤ k ∧ k ≤ 4) (hd : 0 ≤ d) : yT xPr G LY xC66 0 [some (vi p), some (vi k)] [] S d (fun r S' => ∃ z : Int, r = (1, vi z) ∧ 0 ≤ z ∧ z ≤ 31 ∧ z = yand (yshr p (5 * k)) 31 ∧ S = S') := by
  refine yT_pad 0 ?_
  show yT xPr G LY xC66 0 [some (vi p), some (vi k)] [] S d _
  refine r_load (i := 0) (u := 0) (w := 0) rfl rfl rfl ?_
  refine r_const (i := 1) (u := 5) (z := 5) rfl rfl ?_
  refine r_load (i := 2) (u := 1) (w := 0) rfl rfl rfl ?_
  refine r_imul (i := 3) rfl ?_
  refine r_iushr (i := 4) rfl (by omega) (by omega) ?_
  have h1 := yshr_rg p (5 * k)
  refine r_const (i := 5) (u := 31) (z := 31) rfl rfl ?_
  refine r_iand (i := 6) rfl ?_
  have h2 := @yand_c (yshr p (5 * k)) 31 (by decide) (by decide)
  exact r_retI (i := 7) rfl ⟨yand (yshr p (5 * k)) 31, rfl, by omega, by omega, (by omega), rfl⟩
/-- ProxyForge$Kinds.above -/
theorem sp63 {G : xk} {S : yS} {d : Nat} (hI : yI S) {p : Int} (h_p : -2147483648 ≤ p ∧ p ≤ 2147483647) {k : Int} (h_k : 0 ≤ k ∧ k ≤ 4) (hd : 0 ≤ d) : yT xPr G LY xC63 0 [some (vi p), some (vi k)] [] S d (fun r S' => ∃ z : Int, r = (1, vi z) ∧ -2147483648 ≤ z ∧ z ≤ 2147483647 ∧ z = yshr p (5 * k) ∧ S = S') := by
  refine yT_pad 0 ?_
  show yT xPr G LY xC63 0 [some (vi p), some (vi k)] [] S d _
  refine r_load (i := 0) (u := 0) (w := 0) rfl rfl rfl ?_
  refine r_const (i := 1) (u := 5) (z := 5) rfl rfl ?_
  refine r_load (i := 2) (u := 1) (w := 0) rfl rfl rfl ?_
  refine r_imul (i := 3) rfl ?_
  refine r_iushr (i := 4) rfl (by omega) (by omega) ?_
  have h1 := yshr_rg p (5 * k)
  exact r_retI (i := 5) rfl ⟨yshr p (5 * k), rfl, by omega, by omega, (by omega), rfl⟩
theorem lp67_2 {G : xk} {d : Nat} {S : yS} (hI : yI S) {p : Int} (h_p : -2147483648 ≤ p ∧ p ≤ 2147483647) (hd : 1 ≤ d + 1) : ∀ (n : Nat), ∀ (n0 : Int) (h_n0 : 0 ≤ n0 ∧ n0 ≤ 4) (q_0 : ∀ k : Int, 0 ≤ k → k < n0 → dg p k ≠ 0) (hn : 4 - n0 < (n : Nat)), yT xPr G LY xC67 2 [some (vi p), some (vi n0)] [] S (d + 1) (fun r S' => ∃ z : Int, r = (1, vi z) ∧ 0 ≤ z ∧ z ≤ 4 ∧ hMn p z ∧ S = S') := by
  intro n
  induction n with
  | zero => intro n0 h_n0 q_0 hn; exact absurd hn (by omega)
  | succ n ih =>
    intro n0 h_n0 q_0 hn
    refine r_load (i := 2) (u := 1) (w := 0) rfl rfl rfl ?_
    refine r_const (i := 3) (u := 4) (z := 4) rfl rfl ?_
    refine c_ge (i := 4) (v := 11) rfl ⟨by omega, by omega⟩ ⟨by omega, by omega⟩ (fun h1 => ?_) (fun h2 => ?_)
    · refine r_load (i := 11) (u := 1) (w := 0) rfl rfl rfl ?_
      exact r_retI (i := 12) rfl ⟨n0, rfl, by omega, by omega, (by exact ⟨q_0, fun h9 => by unfold dg; omega⟩), rfl⟩
    · refine r_load (i := 5) (u := 0) (w := 0) rfl rfl rfl ?_
      refine r_load (i := 6) (u := 1) (w := 0) rfl rfl rfl ?_
      refine r_call (i := 7) (u := 65535) (v := 66) (w := 0) (b := 2) (na := 514) (C2 := xC66) (as := [vi p, vi n0]) (s := []) rfl rfl rfl rfl rfl rfl rfl (sp66 (p := p) (k := n0) hI ⟨by omega, by omega⟩ ⟨by omega, by omega⟩   (by omega)) (fun r3 S4 hq5 => ?_)
      obtain ⟨z6, rfl, h7, h8, h9, rfl⟩ := hq5
      refine Or.inr (Or.inl ⟨rfl, ?_⟩)
      refine z_eq (i := 8) (v := 11) rfl ⟨by omega, by omega⟩ (fun h10 => ?_) (fun h11 => ?_)
      · refine r_load (i := 11) (u := 1) (w := 0) rfl rfl rfl ?_
        exact r_retI (i := 12) rfl ⟨n0, rfl, by omega, by omega, (by exact ⟨q_0, fun h9 => by unfold dg; omega⟩), rfl⟩
      · refine r_iinc (i := 9) (u := 1) (v := 1) (s := 1) (L1 := [some (vi p), some (vi (n0 + 1))]) rfl rfl rfl rfl rfl ?_
        refine r_goto (i := 10) (v := 2) rfl ?_
        exact ih (n0 + 1) ⟨by omega, by omega⟩ (by first | exact hm_0 | exact hm_s q_0 (by unfold dg; omega)) (by omega)
/-- ProxyForge$Kinds.howMany -/
theorem sp67 {G : xk} {S : yS} {d : Nat} (hI : yI S) {p : Int} (h_p : -2147483648 ≤ p ∧ p ≤ 2147483647) (hd : 1 ≤ d) : yT xPr G LY xC67 0 [some (vi p)] [] S d (fun r S' => ∃ z : Int, r = (1, vi z) ∧ 0 ≤ z ∧ z ≤ 4 ∧ hMn p z ∧ S = S') := by
  refine yT_pad 1 ?_
  show yT xPr G LY xC67 0 [some (vi p), none] [] S d _
  obtain ⟨d, rfl⟩ : ∃ q, d = q + 1 := ⟨d - 1, by omega⟩
  refine r_const (i := 0) (u := 0) (z := 0) rfl rfl ?_
  refine r_store (i := 1) (u := 1) (w := 0) (L1 := [some (vi p), some (vi 0)]) rfl rfl rfl rfl ?_
  exact lp67_2 hI h_p   hd _ 0 ⟨by omega, by omega⟩ (by first | exact hm_0 | exact hm_s q_0 (by unfold dg; omega)) (Int.lt_succ_toNat _)
/-- ProxyForge$Kinds.width -/
theorem sp70 {G : xk} {S : yS} {d : Nat} (hI : yI S) {k : Int} (h_k : -2147483648 ≤ k ∧ k ≤ 2147483647) (hd : 0 ≤ d) : yT xPr G LY xC70 0 [some (vi k)] [] S d (fun r S' => ∃ z : Int, r = (1, vi z) ∧ 0 ≤ z ∧ z ≤ 2 ∧ z = wid k ∧ S = S') := by
  refine yT_pad 0 ?_
  show yT xPr G LY xC70 0 [some (vi k)] [] S d _
  refine r_load (i := 0) (u := 0) (w := 0) rfl rfl rfl ?_
  refine z_ne (i := 1) (v := 4) rfl ⟨by omega, by omega⟩ (fun h1 => ?_) (fun h2 => ?_)
  · refine r_load (i := 4) (u := 0) (w := 0) rfl rfl rfl ?_
    refine r_const (i := 5) (u := 2) (z := 2) rfl rfl ?_
    refine c_ne (i := 6) (v := 9) rfl ⟨by omega, by omega⟩ ⟨by omega, by omega⟩ (fun h3 => ?_) (fun h4 => ?_)
    · refine r_const (i := 9) (u := 1) (z := 1) rfl rfl ?_
      exact r_retI (i := 10) rfl ⟨1, rfl, by omega, by omega, (by first | exact (if_pos (by omega)).symm | exact ((if_neg (by omega)).trans (if_pos (by omega))).symm | exact ((if_neg (by omega)).trans (if_neg (by omega))).symm), rfl⟩
    · refine r_const (i := 7) (u := 2) (z := 2) rfl rfl ?_
      refine r_goto (i := 8) (v := 10) rfl ?_
      exact r_retI (i := 10) rfl ⟨2, rfl, by omega, by omega, (by first | exact (if_pos (by omega)).symm | exact ((if_neg (by omega)).trans (if_pos (by omega))).symm | exact ((if_neg (by omega)).trans (if_neg (by omega))).symm), rfl⟩
  · refine r_const (i := 2) (u := 0) (z := 0) rfl rfl ?_
    exact r_retI (i := 3) rfl ⟨0, rfl, by omega, by omega, (by first | exact (if_pos (by omega)).symm | exact ((if_neg (by omega)).trans (if_pos (by omega))).symm | exact ((if_neg (by omega)).trans (if_neg (by omega))).symm), rfl⟩
theorem lp71_4 {G : xk} {d : Nat} {S : yS} (hI : yI S) {p : Int} (h_p : -2147483648 ≤ p ∧ p ≤ 2147483647) (hd : 1 ≤ d + 1) : ∀ (n : Nat), ∀ (n0 k : Int) (h_n0 : 0 ≤ n0 ∧ n0 ≤ 8) (h_k : 0 ≤ k ∧ k ≤ 4) (q_0 : n0 ≤ 2 * k) (q_1 : n0 = wdA p k.toNat) (hn : 4 - k < (n : Nat)), yT xPr G LY xC71 4 [some (vi p), some (vi n0), some (vi k)] [] S (d + 1) (fun r S' => ∃ z : Int, r = (1, vi z) ∧ 0 ≤ z ∧ z ≤ 8 ∧ z = wdA p 4 ∧ S = S') := by
  intro n
  induction n with
  | zero => intro n0 k h_n0 h_k q_0 q_1 hn; exact absurd hn (by omega)
  | succ n ih =>
    intro n0 k h_n0 h_k q_0 q_1 hn
    refine r_load (i := 4) (u := 2) (w := 0) rfl rfl rfl ?_
    refine r_const (i := 5) (u := 4) (z := 4) rfl rfl ?_
    refine c_ge (i := 6) (v := 16) rfl ⟨by omega, by omega⟩ ⟨by omega, by omega⟩ (fun h1 => ?_) (fun h2 => ?_)
    · refine r_load (i := 16) (u := 1) (w := 0) rfl rfl rfl ?_
      exact r_retI (i := 17) rfl ⟨n0, rfl, by omega, by omega, (by rw [q_1, show k = 4 by omega]; rfl), rfl⟩
    · refine r_load (i := 7) (u := 1) (w := 0) rfl rfl rfl ?_
      refine r_load (i := 8) (u := 0) (w := 0) rfl rfl rfl ?_
      refine r_load (i := 9) (u := 2) (w := 0) rfl rfl rfl ?_
      refine r_call (i := 10) (u := 65535) (v := 66) (w := 0) (b := 2) (na := 514) (C2 := xC66) (as := [vi p, vi k]) (s := [vi n0]) rfl rfl rfl rfl rfl rfl rfl (sp66 (p := p) (k := k) hI ⟨by omega, by omega⟩ ⟨by omega, by omega⟩   (by omega)) (fun r3 S4 hq5 => ?_)
      obtain ⟨z6, rfl, h7, h8, h9, rfl⟩ := hq5
      refine Or.inr (Or.inl ⟨rfl, ?_⟩)
      refine r_call (i := 11) (u := 65535) (v := 70) (w := 0) (b := 2) (na := 257) (C2 := xC70) (as := [vi z6]) (s := [vi n0]) rfl rfl rfl rfl rfl rfl rfl (sp70 (k := z6) hI ⟨by omega, by omega⟩   (by omega)) (fun r10 S11 hq12 => ?_)
      obtain ⟨z13, rfl, h14, h15, wd16, rfl⟩ := hq12
      refine Or.inr (Or.inl ⟨rfl, ?_⟩)
      refine r_iadd (i := 12) rfl ?_
      refine r_store (i := 13) (u := 1) (w := 0) (L1 := [some (vi p), some (vi (n0 + z13)), some (vi k)]) rfl rfl rfl rfl ?_
      refine r_iinc (i := 14) (u := 1) (v := 2) (s := 1) (L1 := [some (vi p), some (vi (n0 + z13)), some (vi (k + 1))]) rfl rfl rfl rfl rfl ?_
      refine r_goto (i := 15) (v := 4) rfl ?_
      exact ih (n0 + z13) (k + 1) ⟨by omega, by omega⟩ ⟨by omega, by omega⟩ (by omega) (by exact wd_s q_1 wd16 (show _ = dg p k by unfold dg; omega) (by omega)) (by omega)
/-- ProxyForge$Kinds.widthOfAll -/
theorem sp71 {G : xk} {S : yS} {d : Nat} (hI : yI S) {p : Int} (h_p : -2147483648 ≤ p ∧ p ≤ 2147483647) (hd : 1 ≤ d) : yT xPr G LY xC71 0 [some (vi p)] [] S d (fun r S' => ∃ z : Int, r = (1, vi z) ∧ 0 ≤ z ∧ z ≤ 8 ∧ z = wdA p 4 ∧ S = S') := by
  refine yT_pad 2 ?_
  show yT xPr G LY xC71 0 [some (vi p), none, none] [] S d _
  obtain ⟨d, rfl⟩ : ∃ q, d = q + 1 := ⟨d - 1, by omega⟩
  refine r_const (i := 0) (u := 0) (z := 0) rfl rfl ?_
  refine r_store (i := 1) (u := 1) (w := 0) (L1 := [some (vi p), some (vi 0), none]) rfl rfl rfl rfl ?_
  refine r_const (i := 2) (u := 0) (z := 0) rfl rfl ?_
  refine r_store (i := 3) (u := 2) (w := 0) (L1 := [some (vi p), some (vi 0), some (vi 0)]) rfl rfl rfl rfl ?_
  exact lp71_4 hI h_p   hd _ 0 0 ⟨by omega, by omega⟩ ⟨by omega, by omega⟩ (by omega) (by exact rfl) (Int.lt_succ_toNat _)
/-- ProxyForge$Kinds.boxClass -/
theorem sp64 {G : xk} {S : yS} {d : Nat} (hI : yI S) {k : Int} (h_k : -2147483648 ≤ k ∧ k ≤ 2147483647) (hd : 0 ≤ d) : yT xPr G LY xC64 0 [some (vi k)] [] S d (fun r S' => ∃ z : Nat, r = (1, (6, z)) ∧ yStr z ∧ slen z ≤ 17 ∧ strl z = bxN k ∧ S = S') := by
  refine yT_pad 0 ?_
  show yT xPr G LY xC64 0 [some (vi k)] [] S d _
  refine r_load (i := 0) (u := 0) (w := 0) rfl rfl rfl ?_
  refine r_const (i := 1) (u := 1) (z := 1) rfl rfl ?_
  refine c_ne (i := 2) (v := 5) rfl ⟨by omega, by omega⟩ ⟨by omega, by omega⟩ (fun h1 => ?_) (fun h2 => ?_)
  · refine r_load (i := 5) (u := 0) (w := 0) rfl rfl rfl ?_
    refine r_const (i := 6) (u := 2) (z := 2) rfl rfl ?_
    refine c_ne (i := 7) (v := 10) rfl ⟨by omega, by omega⟩ ⟨by omega, by omega⟩ (fun h3 => ?_) (fun h4 => ?_)
    · refine r_str (i := 10) (v := 17) rfl ?_
      have h5 := slv17
      exact r_retA (i := 11) rfl rfl ⟨17, rfl, ⟨by decide, by decide⟩, (by omega), (by first | exact (if_pos (by omega)).symm | exact ((if_neg (by omega)).trans (if_pos (by omega))).symm | exact ((if_neg (by omega)).trans (if_neg (by omega))).symm), rfl⟩
    · refine r_str (i := 8) (v := 16) rfl ?_
      have h6 := slv16
      refine r_goto (i := 9) (v := 11) rfl ?_
      exact r_retA (i := 11) rfl rfl ⟨16, rfl, ⟨by decide, by decide⟩, (by omega), (by first | exact (if_pos (by omega)).symm | exact ((if_neg (by omega)).trans (if_pos (by omega))).symm | exact ((if_neg (by omega)).trans (if_neg (by omega))).symm), rfl⟩
  · refine r_str (i := 3) (v := 15) rfl ?_
    have h7 := slv15
    exact r_retA (i := 4) rfl rfl ⟨15, rfl, ⟨by decide, by decide⟩, (by omega), (by first | exact (if_pos (by omega)).symm | exact ((if_neg (by omega)).trans (if_pos (by omega))).symm | exact ((if_neg (by omega)).trans (if_neg (by omega))).symm), rfl⟩
/-- ProxyForge$Kinds.boxingDescriptor -/
theorem sp65 {G : xk} {S : yS} {d : Nat} (hI : yI S) {k : Int} (h_k : -2147483648 ≤ k ∧ k ≤ 2147483647) (hd : 0 ≤ d) : yT xPr G LY xC65 0 [some (vi k)] [] S d (fun r S' => ∃ z : Nat, r = (1, (6, z)) ∧ yStr z ∧ slen z ≤ 22 ∧ strl z = bxD k ∧ S = S') := by
  refine yT_pad 0 ?_
  show yT xPr G LY xC65 0 [some (vi k)] [] S d _
  refine r_load (i := 0) (u := 0) (w := 0) rfl rfl rfl ?_
  refine r_const (i := 1) (u := 1) (z := 1) rfl rfl ?_
  refine c_ne (i := 2) (v := 5) rfl ⟨by omega, by omega⟩ ⟨by omega, by omega⟩ (fun h1 => ?_) (fun h2 => ?_)
  · refine r_load (i := 5) (u := 0) (w := 0) rfl rfl rfl ?_
    refine r_const (i := 6) (u := 2) (z := 2) rfl rfl ?_
    refine c_ne (i := 7) (v := 10) rfl ⟨by omega, by omega⟩ ⟨by omega, by omega⟩ (fun h3 => ?_) (fun h4 => ?_)
    · refine r_str (i := 10) (v := 21) rfl ?_
      have h5 := slv21
      exact r_retA (i := 11) rfl rfl ⟨21, rfl, ⟨by decide, by decide⟩, (by omega), (by first | exact (if_pos (by omega)).symm | exact ((if_neg (by omega)).trans (if_pos (by omega))).symm | exact ((if_neg (by omega)).trans (if_neg (by omega))).symm), rfl⟩
    · refine r_str (i := 8) (v := 20) rfl ?_
      have h6 := slv20
      refine r_goto (i := 9) (v := 11) rfl ?_
      exact r_retA (i := 11) rfl rfl ⟨20, rfl, ⟨by decide, by decide⟩, (by omega), (by first | exact (if_pos (by omega)).symm | exact ((if_neg (by omega)).trans (if_pos (by omega))).symm | exact ((if_neg (by omega)).trans (if_neg (by omega))).symm), rfl⟩
  · refine r_str (i := 3) (v := 19) rfl ?_
    have h7 := slv19
    exact r_retA (i := 4) rfl rfl ⟨19, rfl, ⟨by decide, by decide⟩, (by omega), (by first | exact (if_pos (by omega)).symm | exact ((if_neg (by omega)).trans (if_pos (by omega))).symm | exact ((if_neg (by omega)).trans (if_neg (by omega))).symm), rfl⟩
/-- ProxyForge$Kinds.unboxingName -/
theorem sp69 {G : xk} {S : yS} {d : Nat} (hI : yI S) {k : Int} (h_k : -2147483648 ≤ k ∧ k ≤ 2147483647) (hd : 0 ≤ d) : yT xPr G LY xC69 0 [some (vi k)] [] S d (fun r S' => ∃ z : Nat, r = (1, (6, z)) ∧ yStr z ∧ slen z ≤ 12 ∧ strl z = ubN k ∧ S = S') := by
  refine yT_pad 0 ?_
  show yT xPr G LY xC69 0 [some (vi k)] [] S d _
  refine r_load (i := 0) (u := 0) (w := 0) rfl rfl rfl ?_
  refine r_const (i := 1) (u := 1) (z := 1) rfl rfl ?_
  refine c_ne (i := 2) (v := 5) rfl ⟨by omega, by omega⟩ ⟨by omega, by omega⟩ (fun h1 => ?_) (fun h2 => ?_)
  · refine r_load (i := 5) (u := 0) (w := 0) rfl rfl rfl ?_
    refine r_const (i := 6) (u := 2) (z := 2) rfl rfl ?_
    refine c_ne (i := 7) (v := 10) rfl ⟨by omega, by omega⟩ ⟨by omega, by omega⟩ (fun h3 => ?_) (fun h4 => ?_)
    · refine r_str (i := 10) (v := 27) rfl ?_
      have h5 := slv27
      exact r_retA (i := 11) rfl rfl ⟨27, rfl, ⟨by decide, by decide⟩, (by omega), (by first | exact (if_pos (by omega)).symm | exact ((if_neg (by omega)).trans (if_pos (by omega))).symm | exact ((if_neg (by omega)).trans (if_neg (by omega))).symm), rfl⟩
    · refine r_str (i := 8) (v := 26) rfl ?_
      have h6 := slv26
      refine r_goto (i := 9) (v := 11) rfl ?_
      exact r_retA (i := 11) rfl rfl ⟨26, rfl, ⟨by decide, by decide⟩, (by omega), (by first | exact (if_pos (by omega)).symm | exact ((if_neg (by omega)).trans (if_pos (by omega))).symm | exact ((if_neg (by omega)).trans (if_neg (by omega))).symm), rfl⟩
  · refine r_str (i := 3) (v := 25) rfl ?_
    have h7 := slv25
    exact r_retA (i := 4) rfl rfl ⟨25, rfl, ⟨by decide, by decide⟩, (by omega), (by first | exact (if_pos (by omega)).symm | exact ((if_neg (by omega)).trans (if_pos (by omega))).symm | exact ((if_neg (by omega)).trans (if_neg (by omega))).symm), rfl⟩
/-- ProxyForge$Kinds.unboxingDescriptor -/
theorem sp68 {G : xk} {S : yS} {d : Nat} (hI : yI S) {k : Int} (h_k : -2147483648 ≤ k ∧ k ≤ 2147483647) (hd : 0 ≤ d) : yT xPr G LY xC68 0 [some (vi k)] [] S d (fun r S' => ∃ z : Nat, r = (1, (6, z)) ∧ yStr z ∧ slen z ≤ 3 ∧ strl z = ubD k ∧ S = S') := by
  refine yT_pad 0 ?_
  show yT xPr G LY xC68 0 [some (vi k)] [] S d _
  refine r_load (i := 0) (u := 0) (w := 0) rfl rfl rfl ?_
  refine r_const (i := 1) (u := 1) (z := 1) rfl rfl ?_
  refine c_ne (i := 2) (v := 5) rfl ⟨by omega, by omega⟩ ⟨by omega, by omega⟩ (fun h1 => ?_) (fun h2 => ?_)
  · refine r_load (i := 5) (u := 0) (w := 0) rfl rfl rfl ?_
    refine r_const (i := 6) (u := 2) (z := 2) rfl rfl ?_
    refine c_ne (i := 7) (v := 10) rfl ⟨by omega, by omega⟩ ⟨by omega, by omega⟩ (fun h3 => ?_) (fun h4 => ?_)
    · refine r_str (i := 10) (v := 30) rfl ?_
      have h5 := slv30
      exact r_retA (i := 11) rfl rfl ⟨30, rfl, ⟨by decide, by decide⟩, (by omega), (by first | exact (if_pos (by omega)).symm | exact ((if_neg (by omega)).trans (if_pos (by omega))).symm | exact ((if_neg (by omega)).trans (if_neg (by omega))).symm), rfl⟩
    · refine r_str (i := 8) (v := 29) rfl ?_
      have h6 := slv29
      refine r_goto (i := 9) (v := 11) rfl ?_
      exact r_retA (i := 11) rfl rfl ⟨29, rfl, ⟨by decide, by decide⟩, (by omega), (by first | exact (if_pos (by omega)).symm | exact ((if_neg (by omega)).trans (if_pos (by omega))).symm | exact ((if_neg (by omega)).trans (if_neg (by omega))).symm), rfl⟩
  · refine r_str (i := 3) (v := 28) rfl ?_
    have h7 := slv28
    exact r_retA (i := 4) rfl rfl ⟨28, rfl, ⟨by decide, by decide⟩, (by omega), (by first | exact (if_pos (by omega)).symm | exact ((if_neg (by omega)).trans (if_pos (by omega))).symm | exact ((if_neg (by omega)).trans (if_neg (by omega))).symm), rfl⟩
/-- ProxyForge$Types.has -/
theorem sp131 {G : xk} {S : yS} {d : Nat} (hI : yI S) {t : Int} (h_t : Rl t) (hd : 0 ≤ d) : yT xPr G LY xC131 0 [some ((2, 1)), some (vl t), none] [] S d (fun r S' => ∃ z : Int, r = (1, vi z) ∧ 0 ≤ z ∧ z ≤ 1 ∧ (z = 1 → 0 ≤ t ∧ t < S.f 1 7) ∧ (z = 0 → t < 0 ∨ S.f 1 7 ≤ t) ∧ S = S') := by
  refine yT_pad 0 ?_
  show yT xPr G LY xC131 0 [some ((2, 1)), some (vl t), none] [] S d _
  refine r_load (i := 0) (u := 1) (w := 1) rfl rfl rfl ?_
  refine r_lconst (i := 1) (u := 0) (z := 0) rfl rfl ?_
  refine r_lcmp (i := 2) rfl ⟨by omega, by omega⟩ ⟨by omega, by omega⟩ (fun h1 => ?_) (fun h2 => ?_) (fun h3 => ?_)
  · refine z_lt (i := 3) (v := 12) rfl ⟨by omega, by omega⟩ (fun h4 => ?_) (fun h5 => absurd h5 (by omega))
    refine r_const (i := 12) (u := 0) (z := 0) rfl rfl ?_
    have h6 := hI.f tf1_7
    exact r_retZ (i := 13) rfl (by omega) (by omega) ⟨0, rfl, by omega, by omega, (by omega), (by omega), rfl⟩
  · refine z_lt (i := 3) (v := 12) rfl ⟨by omega, by omega⟩ (fun h7 => absurd h7 (by omega)) (fun h8 => ?_)
    refine r_load (i := 4) (u := 1) (w := 1) rfl rfl rfl ?_
    refine r_load (i := 5) (u := 0) (w := 2) rfl rfl rfl ?_
    have h9 := hI.f tf1_7
    refine r_getf (i := 6) (v := 7) (w := 1) (x := vi (S.f 1 7)) rfl ly1 rfl rfl fun h10 => ?_
    have h10 : Rg (S.f 1 7) := h10
    refine r_i2l (i := 7) rfl ⟨by omega, by omega⟩ ?_
    refine r_lcmp (i := 8) rfl ⟨by omega, by omega⟩ ⟨by omega, by omega⟩ (fun h11 => ?_) (fun h12 => ?_) (fun h13 => ?_)
    · refine z_ge (i := 9) (v := 12) rfl ⟨by omega, by omega⟩ (fun h14 => absurd h14 (by omega)) (fun h15 => ?_)
      refine r_const (i := 10) (u := 1) (z := 1) rfl rfl ?_
      refine r_goto (i := 11) (v := 13) rfl ?_
      exact r_retZ (i := 13) rfl (by omega) (by omega) ⟨1, rfl, by omega, by omega, (by omega), (by omega), rfl⟩
    · refine z_ge (i := 9) (v := 12) rfl ⟨by omega, by omega⟩ (fun h16 => ?_) (fun h17 => absurd h17 (by omega))
      refine r_const (i := 12) (u := 0) (z := 0) rfl rfl ?_
      exact r_retZ (i := 13) rfl (by omega) (by omega) ⟨0, rfl, by omega, by omega, (by omega), (by omega), rfl⟩
    · refine z_ge (i := 9) (v := 12) rfl ⟨by omega, by omega⟩ (fun h18 => ?_) (fun h19 => absurd h19 (by omega))
      refine r_const (i := 12) (u := 0) (z := 0) rfl rfl ?_
      exact r_retZ (i := 13) rfl (by omega) (by omega) ⟨0, rfl, by omega, by omega, (by omega), (by omega), rfl⟩
  · refine z_lt (i := 3) (v := 12) rfl ⟨by omega, by omega⟩ (fun h20 => absurd h20 (by omega)) (fun h21 => ?_)
    refine r_load (i := 4) (u := 1) (w := 1) rfl rfl rfl ?_
    refine r_load (i := 5) (u := 0) (w := 2) rfl rfl rfl ?_
    have h22 := hI.f tf1_7
    refine r_getf (i := 6) (v := 7) (w := 1) (x := vi (S.f 1 7)) rfl ly1 rfl rfl fun h23 => ?_
    have h23 : Rg (S.f 1 7) := h23
    refine r_i2l (i := 7) rfl ⟨by omega, by omega⟩ ?_
    refine r_lcmp (i := 8) rfl ⟨by omega, by omega⟩ ⟨by omega, by omega⟩ (fun h24 => ?_) (fun h25 => ?_) (fun h26 => ?_)
    · refine z_ge (i := 9) (v := 12) rfl ⟨by omega, by omega⟩ (fun h27 => absurd h27 (by omega)) (fun h28 => ?_)
      refine r_const (i := 10) (u := 1) (z := 1) rfl rfl ?_
      refine r_goto (i := 11) (v := 13) rfl ?_
      exact r_retZ (i := 13) rfl (by omega) (by omega) ⟨1, rfl, by omega, by omega, (by omega), (by omega), rfl⟩
    · refine z_ge (i := 9) (v := 12) rfl ⟨by omega, by omega⟩ (fun h29 => ?_) (fun h30 => absurd h30 (by omega))
      refine r_const (i := 12) (u := 0) (z := 0) rfl rfl ?_
      exact r_retZ (i := 13) rfl (by omega) (by omega) ⟨0, rfl, by omega, by omega, (by omega), (by omega), rfl⟩
    · refine z_ge (i := 9) (v := 12) rfl ⟨by omega, by omega⟩ (fun h31 => ?_) (fun h32 => absurd h32 (by omega))
      refine r_const (i := 12) (u := 0) (z := 0) rfl rfl ?_
      exact r_retZ (i := 13) rfl (by omega) (by omega) ⟨0, rfl, by omega, by omega, (by omega), (by omega), rfl⟩
/-- ProxyForge$Types.isMade -/
theorem sp135 {G : xk} {S : yS} {d : Nat} (hI : yI S) {t : Int} (h_t : -2147483648 ≤ t ∧ t ≤ 2147483647) (hd : 0 ≤ d) : yT xPr G LY xC135 0 [some ((2, 1)), some (vi t)] [] S d (fun r S' => ∃ z : Int, r = (1, vi z) ∧ 0 ≤ z ∧ z ≤ 1 ∧ (z = 1 → 4 ≤ t ∧ t < S.f 1 7) ∧ (z = 0 → t < 4 ∨ S.f 1 7 ≤ t) ∧ S = S') := by
  refine yT_pad 0 ?_
  show yT xPr G LY xC135 0 [some ((2, 1)), some (vi t)] [] S d _
  refine r_load (i := 0) (u := 1) (w := 0) rfl rfl rfl ?_
  refine r_const (i := 1) (u := 4) (z := 4) rfl rfl ?_
  refine c_lt (i := 2) (v := 9) rfl ⟨by omega, by omega⟩ ⟨by omega, by omega⟩ (fun h1 => ?_) (fun h2 => ?_)
  · refine r_const (i := 9) (u := 0) (z := 0) rfl rfl ?_
    have h3 := hI.f tf1_7
    exact r_retZ (i := 10) rfl (by omega) (by omega) ⟨0, rfl, by omega, by omega, (by omega), (by omega), rfl⟩
  · refine r_load (i := 3) (u := 1) (w := 0) rfl rfl rfl ?_
    refine r_load (i := 4) (u := 0) (w := 2) rfl rfl rfl ?_
    have h4 := hI.f tf1_7
    refine r_getf (i := 5) (v := 7) (w := 1) (x := vi (S.f 1 7)) rfl ly1 rfl rfl fun h5 => ?_
    have h5 : Rg (S.f 1 7) := h5
    refine c_ge (i := 6) (v := 9) rfl ⟨by omega, by omega⟩ ⟨by omega, by omega⟩ (fun h6 => ?_) (fun h7 => ?_)
    · refine r_const (i := 9) (u := 0) (z := 0) rfl rfl ?_
      exact r_retZ (i := 10) rfl (by omega) (by omega) ⟨0, rfl, by omega, by omega, (by omega), (by omega), rfl⟩
    · refine r_const (i := 7) (u := 1) (z := 1) rfl rfl ?_
      refine r_goto (i := 8) (v := 10) rfl ?_
      exact r_retZ (i := 10) rfl (by omega) (by omega) ⟨1, rfl, by omega, by omega, (by omega), (by omega), rfl⟩
/-- ProxyForge$Types.isBelow -/
theorem sp133 {G : xk} {S : yS} {d : Nat} (hI : yI S) {t : Int} (h_t : 0 ≤ t ∧ t ≤ 19) {o : Int} (h_o : 0 ≤ o ∧ o ≤ 19) (hd : 0 ≤ d) : yT xPr G LY xC133 0 [some ((2, 1)), some (vi t), some (vi o)] [] S d (fun r S' => ∃ z : Int, r = (1, vi z) ∧ 0 ≤ z ∧ z ≤ 1 ∧ (z = 1 → bt (S.a 6 t.toNat) o) ∧ (z = 0 → ¬ bt (S.a 6 t.toNat) o) ∧ S = S') := by
  refine yT_pad 0 ?_
  show yT xPr G LY xC133 0 [some ((2, 1)), some (vi t), some (vi o)] [] S d _
  refine r_load (i := 0) (u := 0) (w := 2) rfl rfl rfl ?_
  refine r_getf (i := 1) (v := 4) (w := 1) (x := (2, 6)) rfl ly1 rfl rfl fun _ => ?_
  refine r_load (i := 2) (u := 1) (w := 0) rfl rfl rfl ?_
  refine a_int (i := 3) rfl ly6 rfl (by omega) (by omega) fun h2 => ?_
  refine r_load (i := 4) (u := 2) (w := 0) rfl rfl rfl ?_
  refine r_iushr (i := 5) rfl (by omega) (by omega) ?_
  have h3 := yshr_rg (S.a 6 t.toNat) o
  refine r_const (i := 6) (u := 1) (z := 1) rfl rfl ?_
  refine r_iand (i := 7) rfl ?_
  have h4 := @yand_c (yshr (S.a 6 t.toNat) o) 1 (by decide) (by decide)
  refine z_eq (i := 8) (v := 11) rfl ⟨by omega, by omega⟩ (fun h5 => ?_) (fun h6 => ?_)
  · refine r_const (i := 11) (u := 0) (z := 0) rfl rfl ?_
    exact r_retZ (i := 12) rfl (by omega) (by omega) ⟨0, rfl, by omega, by omega, (by intro hz; first | exact absurd hz (by omega) | (unfold bt; omega)), (by intro hz; first | exact absurd hz (by omega) | (unfold bt; omega)), rfl⟩
  · refine r_const (i := 9) (u := 1) (z := 1) rfl rfl ?_
    refine r_goto (i := 10) (v := 12) rfl ?_
    exact r_retZ (i := 12) rfl (by omega) (by omega) ⟨1, rfl, by omega, by omega, (by intro hz; first | exact absurd hz (by omega) | (unfold bt; omega)), (by intro hz; first | exact absurd hz (by omega) | (unfold bt; omega)), rfl⟩
/-- ProxyForge$Types.isPublic -/
theorem sp136 {G : xk} {S : yS} {d : Nat} (hI : yI S) {t : Int} (h_t : 0 ≤ t ∧ t ≤ 19) (hd : 0 ≤ d) : yT xPr G LY xC136 0 [some ((2, 1)), some (vi t)] [] S d (fun r S' => ∃ z : Int, r = (1, vi z) ∧ 0 ≤ z ∧ z ≤ 1 ∧ (z = 1 → yand (S.a 3 t.toNat) 1 ≠ 0) ∧ (z = 0 → yand (S.a 3 t.toNat) 1 = 0) ∧ S = S') := by
  refine yT_pad 0 ?_
  show yT xPr G LY xC136 0 [some ((2, 1)), some (vi t)] [] S d _
  refine r_load (i := 0) (u := 0) (w := 2) rfl rfl rfl ?_
  refine r_getf (i := 1) (v := 1) (w := 1) (x := (2, 3)) rfl ly1 rfl rfl fun _ => ?_
  refine r_load (i := 2) (u := 1) (w := 0) rfl rfl rfl ?_
  refine a_int (i := 3) rfl ly3 rfl (by omega) (by omega) fun h2 => ?_
  have h3 := hI.a ta3 t.toNat
  refine r_const (i := 4) (u := 1) (z := 1) rfl rfl ?_
  refine r_iand (i := 5) rfl ?_
  have h4 := @yand_c (S.a 3 t.toNat) 1 (by decide) (by decide)
  refine z_eq (i := 6) (v := 9) rfl ⟨by omega, by omega⟩ (fun h5 => ?_) (fun h6 => ?_)
  · refine r_const (i := 9) (u := 0) (z := 0) rfl rfl ?_
    have h7 := hI.a ta3 t.toNat
    have h8 := hI.a ta3 t.toNat
    exact r_retZ (i := 10) rfl (by omega) (by omega) ⟨0, rfl, by omega, by omega, (by omega), (by omega), rfl⟩
  · refine r_const (i := 7) (u := 1) (z := 1) rfl rfl ?_
    refine r_goto (i := 8) (v := 10) rfl ?_
    have h9 := hI.a ta3 t.toNat
    have h10 := hI.a ta3 t.toNat
    exact r_retZ (i := 10) rfl (by omega) (by omega) ⟨1, rfl, by omega, by omega, (by omega), (by omega), rfl⟩
/-- ProxyForge$Types.isFinal -/
theorem sp134 {G : xk} {S : yS} {d : Nat} (hI : yI S) {t : Int} (h_t : 0 ≤ t ∧ t ≤ 19) (hd : 0 ≤ d) : yT xPr G LY xC134 0 [some ((2, 1)), some (vi t)] [] S d (fun r S' => ∃ z : Int, r = (1, vi z) ∧ 0 ≤ z ∧ z ≤ 1 ∧ (z = 1 → yand (S.a 3 t.toNat) 2 ≠ 0) ∧ (z = 0 → yand (S.a 3 t.toNat) 2 = 0) ∧ S = S') := by
  refine yT_pad 0 ?_
  show yT xPr G LY xC134 0 [some ((2, 1)), some (vi t)] [] S d _
  refine r_load (i := 0) (u := 0) (w := 2) rfl rfl rfl ?_
  refine r_getf (i := 1) (v := 1) (w := 1) (x := (2, 3)) rfl ly1 rfl rfl fun _ => ?_
  refine r_load (i := 2) (u := 1) (w := 0) rfl rfl rfl ?_
  refine a_int (i := 3) rfl ly3 rfl (by omega) (by omega) fun h2 => ?_
  have h3 := hI.a ta3 t.toNat
  refine r_const (i := 4) (u := 2) (z := 2) rfl rfl ?_
  refine r_iand (i := 5) rfl ?_
  have h4 := @yand_c (S.a 3 t.toNat) 2 (by decide) (by decide)
  refine z_eq (i := 6) (v := 9) rfl ⟨by omega, by omega⟩ (fun h5 => ?_) (fun h6 => ?_)
  · refine r_const (i := 9) (u := 0) (z := 0) rfl rfl ?_
    have h7 := hI.a ta3 t.toNat
    have h8 := hI.a ta3 t.toNat
    exact r_retZ (i := 10) rfl (by omega) (by omega) ⟨0, rfl, by omega, by omega, (by omega), (by omega), rfl⟩
  · refine r_const (i := 7) (u := 1) (z := 1) rfl rfl ?_
    refine r_goto (i := 8) (v := 10) rfl ?_
    have h9 := hI.a ta3 t.toNat
    have h10 := hI.a ta3 t.toNat
    exact r_retZ (i := 10) rfl (by omega) (by omega) ⟨1, rfl, by omega, by omega, (by omega), (by omega), rfl⟩
/-- ProxyForge$Types.isAbstract -/
theorem sp132 {G : xk} {S : yS} {d : Nat} (hI : yI S) {t : Int} (h_t : 0 ≤ t ∧ t ≤ 19) (hd : 0 ≤ d) : yT xPr G LY xC132 0 [some ((2, 1)), some (vi t)] [] S d (fun r S' => ∃ z : Int, r = (1, vi z) ∧ 0 ≤ z ∧ z ≤ 1 ∧ (z = 1 → yand (S.a 3 t.toNat) 4 ≠ 0) ∧ (z = 0 → yand (S.a 3 t.toNat) 4 = 0) ∧ S = S') := by
  refine yT_pad 0 ?_
  show yT xPr G LY xC132 0 [some ((2, 1)), some (vi t)] [] S d _
  refine r_load (i := 0) (u := 0) (w := 2) rfl rfl rfl ?_
  refine r_getf (i := 1) (v := 1) (w := 1) (x := (2, 3)) rfl ly1 rfl rfl fun _ => ?_
  refine r_load (i := 2) (u := 1) (w := 0) rfl rfl rfl ?_
  refine a_int (i := 3) rfl ly3 rfl (by omega) (by omega) fun h2 => ?_
  have h3 := hI.a ta3 t.toNat
  refine r_const (i := 4) (u := 4) (z := 4) rfl rfl ?_
  refine r_iand (i := 5) rfl ?_
  have h4 := @yand_c (S.a 3 t.toNat) 4 (by decide) (by decide)
  refine z_eq (i := 6) (v := 9) rfl ⟨by omega, by omega⟩ (fun h5 => ?_) (fun h6 => ?_)
  · refine r_const (i := 9) (u := 0) (z := 0) rfl rfl ?_
    have h7 := hI.a ta3 t.toNat
    have h8 := hI.a ta3 t.toNat
    exact r_retZ (i := 10) rfl (by omega) (by omega) ⟨0, rfl, by omega, by omega, (by omega), (by omega), rfl⟩
  · refine r_const (i := 7) (u := 1) (z := 1) rfl rfl ?_
    refine r_goto (i := 8) (v := 10) rfl ?_
    have h9 := hI.a ta3 t.toNat
    have h10 := hI.a ta3 t.toNat
    exact r_retZ (i := 10) rfl (by omega) (by omega) ⟨1, rfl, by omega, by omega, (by omega), (by omega), rfl⟩
/-- ProxyForge$Types.face -/
theorem sp130 {G : xk} {S : yS} {d : Nat} (hI : yI S) {t : Int} (h_t : 0 ≤ t ∧ t ≤ 19) {k : Int} (h_k : 0 ≤ k ∧ k ≤ 3) (hd : 0 ≤ d) : yT xPr G LY xC130 0 [some ((2, 1)), some (vi t), some (vi k)] [] S d (fun r S' => ∃ z : Int, r = (1, vi z) ∧ 0 ≤ z ∧ z ≤ 19 ∧ z = S.a 8 (4 * t + k).toNat ∧ S = S') := by
  refine yT_pad 0 ?_
  show yT xPr G LY xC130 0 [some ((2, 1)), some (vi t), some (vi k)] [] S d _
  refine r_load (i := 0) (u := 0) (w := 2) rfl rfl rfl ?_
  refine r_getf (i := 1) (v := 6) (w := 1) (x := (2, 8)) rfl ly1 rfl rfl fun _ => ?_
  refine r_load (i := 2) (u := 1) (w := 0) rfl rfl rfl ?_
  refine r_const (i := 3) (u := 4) (z := 4) rfl rfl ?_
  refine r_imul (i := 4) rfl ?_
  refine r_load (i := 5) (u := 2) (w := 0) rfl rfl rfl ?_
  refine r_iadd (i := 6) rfl ?_
  refine a_int (i := 7) rfl ly8 rfl (by omega) (by omega) fun h2 => ?_
  have h3 := hI.a ta8 ((t * 4) + k).toNat
  exact r_retI (i := 8) rfl ⟨S.a 8 ((t * 4) + k).toNat, rfl, by omega, by omega, (by exact congrArg (S.a 8) (congrArg Int.toNat (by omega))), rfl⟩
/-- ProxyForge$Types.mayBe -/
theorem sp137 {G : xk} {S : yS} {d : Nat} (hI : yI S) {b : Int} (h_b : 0 ≤ b ∧ b ≤ 1) {fl : Int} (h_fl : -2147483648 ≤ fl ∧ fl ≤ 2147483647) {p : Int} (h_p : -2147483648 ≤ p ∧ p ≤ 2147483647) {up : Int} (h_up : -2147483648 ≤ up ∧ up ≤ 2147483647) (hd : 1 ≤ d) : yT xPr G LY xC137 0 [some ((2, 1)), some (vi b), some (vi fl), some (vi p), some (vi up)] [] S d (fun r S' => ∃ z : Int, r = (1, vi z) ∧ 0 ≤ z ∧ z ≤ 1 ∧ (z = 1 → 0 ≤ fl ∧ fl ≤ 7 ∧ 0 ≤ p ∧ p ≤ 3 ∧ 0 ≤ up ∧ up < S.f 1 7) ∧ (z = 1 → 0 ≤ fl ∧ fl ≤ 7 ∧ yand fl 6 ≠ 6 ∧ (b = 1 → yand fl 6 = 0 ∧ up = 0) ∧ 0 ≤ p ∧ p ≤ 3 ∧ 0 ≤ up ∧ up < S.f 1 7 ∧ S.a 2 up.toNat = 0 ∧ yand (S.a 3 up.toNat) 2 = 0) ∧ (z = 0 → ¬ (0 ≤ fl ∧ fl ≤ 7 ∧ yand fl 6 ≠ 6 ∧ (b = 1 → yand fl 6 = 0 ∧ up = 0) ∧ 0 ≤ p ∧ p ≤ 3 ∧ 0 ≤ up ∧ up < S.f 1 7 ∧ S.a 2 up.toNat = 0 ∧ yand (S.a 3 up.toNat) 2 = 0)) ∧ S = S') := by
  refine yT_pad 1 ?_
  show yT xPr G LY xC137 0 [some ((2, 1)), some (vi b), some (vi fl), some (vi p), some (vi up), none] [] S d _
  obtain ⟨d, rfl⟩ : ∃ q, d = q + 1 := ⟨d - 1, by omega⟩
  refine r_load (i := 0) (u := 2) (w := 0) rfl rfl rfl ?_
  refine r_const (i := 1) (u := 6) (z := 6) rfl rfl ?_
  refine r_iand (i := 2) rfl ?_
  have h1 := @yand_c fl 6 (by decide) (by decide)
  refine r_store (i := 3) (u := 5) (w := 0) (L1 := [some ((2, 1)), some (vi b), some (vi fl), some (vi p), some (vi up), some (vi (yand fl 6))]) rfl rfl rfl rfl ?_
  refine r_load (i := 4) (u := 2) (w := 0) rfl rfl rfl ?_
  refine z_lt (i := 5) (v := 12) rfl ⟨by omega, by omega⟩ (fun h2 => ?_) (fun h3 => ?_)
  · refine r_const (i := 12) (u := 0) (z := 0) rfl rfl ?_
    have h4 := hI.f tf1_7
    have h5 := hI.a ta3 up.toNat
    have h6 := hI.a ta3 up.toNat
    exact r_retZ (i := 13) rfl (by omega) (by omega) ⟨0, rfl, by omega, by omega, (by omega), (by omega), (by omega), rfl⟩
  · refine r_load (i := 6) (u := 2) (w := 0) rfl rfl rfl ?_
    refine r_const (i := 7) (u := 7) (z := 7) rfl rfl ?_
    refine c_gt (i := 8) (v := 12) rfl ⟨by omega, by omega⟩ ⟨by omega, by omega⟩ (fun h7 => ?_) (fun h8 => ?_)
    · refine r_const (i := 12) (u := 0) (z := 0) rfl rfl ?_
      have h9 := hI.f tf1_7
      have h10 := hI.a ta3 up.toNat
      have h11 := hI.a ta3 up.toNat
      exact r_retZ (i := 13) rfl (by omega) (by omega) ⟨0, rfl, by omega, by omega, (by omega), (by omega), (by omega), rfl⟩
    · refine r_load (i := 9) (u := 5) (w := 0) rfl rfl rfl ?_
      refine r_const (i := 10) (u := 6) (z := 6) rfl rfl ?_
      refine c_ne (i := 11) (v := 14) rfl ⟨by omega, by omega⟩ ⟨by omega, by omega⟩ (fun h12 => ?_) (fun h13 => ?_)
      · refine r_load (i := 14) (u := 1) (w := 0) rfl rfl rfl ?_
        refine z_eq (i := 15) (v := 22) rfl ⟨by omega, by omega⟩ (fun h14 => ?_) (fun h15 => ?_)
        · refine r_load (i := 22) (u := 3) (w := 0) rfl rfl rfl ?_
          refine z_lt (i := 23) (v := 32) rfl ⟨by omega, by omega⟩ (fun h16 => ?_) (fun h17 => ?_)
          · refine r_const (i := 32) (u := 0) (z := 0) rfl rfl ?_
            have h18 := hI.f tf1_7
            have h19 := hI.a ta3 up.toNat
            have h20 := hI.a ta3 up.toNat
            exact r_retZ (i := 33) rfl (by omega) (by omega) ⟨0, rfl, by omega, by omega, (by omega), (by omega), (by omega), rfl⟩
          · refine r_load (i := 24) (u := 3) (w := 0) rfl rfl rfl ?_
            refine r_const (i := 25) (u := 4) (z := 4) rfl rfl ?_
            refine c_ge (i := 26) (v := 32) rfl ⟨by omega, by omega⟩ ⟨by omega, by omega⟩ (fun h21 => ?_) (fun h22 => ?_)
            · refine r_const (i := 32) (u := 0) (z := 0) rfl rfl ?_
              have h23 := hI.f tf1_7
              have h24 := hI.a ta3 up.toNat
              have h25 := hI.a ta3 up.toNat
              exact r_retZ (i := 33) rfl (by omega) (by omega) ⟨0, rfl, by omega, by omega, (by omega), (by omega), (by omega), rfl⟩
            · refine r_load (i := 27) (u := 0) (w := 2) rfl rfl rfl ?_
              refine r_load (i := 28) (u := 4) (w := 0) rfl rfl rfl ?_
              refine r_i2l (i := 29) rfl ⟨by omega, by omega⟩ ?_
              have h26 := hI.f tf1_7
              refine r_call (i := 30) (u := 1) (v := 131) (w := 0) (b := 0) (na := 770) (C2 := xC131) (as := [(2, 1), vl up]) (s := []) rfl rfl rfl rfl rfl rfl rfl (sp131 (t := up) hI ⟨by omega, by omega⟩   (by omega)) (fun r27 S28 hq29 => ?_)
              obtain ⟨z30, rfl, h31, h32, h33, h34, rfl⟩ := hq29
              refine Or.inr (Or.inl ⟨rfl, ?_⟩)
              refine z_ne (i := 31) (v := 34) rfl ⟨by omega, by omega⟩ (fun h35 => ?_) (fun h36 => ?_)
              · refine r_load (i := 34) (u := 0) (w := 2) rfl rfl rfl ?_
                refine r_getf (i := 35) (v := 0) (w := 1) (x := (2, 2)) rfl ly1 rfl rfl fun _ => ?_
                refine r_load (i := 36) (u := 4) (w := 0) rfl rfl rfl ?_
                refine a_bool (i := 37) rfl ly2 rfl (by omega) (by omega) fun h38 => ?_
                refine z_ne (i := 38) (v := 45) rfl ⟨by omega, by omega⟩ (fun h39 => ?_) (fun h40 => ?_)
                · refine r_const (i := 45) (u := 0) (z := 0) rfl rfl ?_
                  have h41 := hI.a ta3 up.toNat
                  have h42 := hI.a ta3 up.toNat
                  exact r_retZ (i := 46) rfl (by omega) (by omega) ⟨0, rfl, by omega, by omega, (by omega), (by omega), (by omega), rfl⟩
                · refine r_load (i := 39) (u := 0) (w := 2) rfl rfl rfl ?_
                  refine r_load (i := 40) (u := 4) (w := 0) rfl rfl rfl ?_
                  have h43 := hI.a ta3 up.toNat
                  have h44 := hI.a ta3 up.toNat
                  refine r_call (i := 41) (u := 1) (v := 134) (w := 0) (b := 0) (na := 514) (C2 := xC134) (as := [(2, 1), vi up]) (s := []) rfl rfl rfl rfl rfl rfl rfl (sp134 (t := up) hI ⟨by omega, by omega⟩   (by omega)) (fun r45 S46 hq47 => ?_)
                  obtain ⟨z48, rfl, h49, h50, h51, h52, rfl⟩ := hq47
                  refine Or.inr (Or.inl ⟨rfl, ?_⟩)
                  refine z_ne (i := 42) (v := 45) rfl ⟨by omega, by omega⟩ (fun h53 => ?_) (fun h54 => ?_)
                  · refine r_const (i := 45) (u := 0) (z := 0) rfl rfl ?_
                    have h55 := hI.a ta3 up.toNat
                    have h56 := hI.a ta3 up.toNat
                    exact r_retZ (i := 46) rfl (by omega) (by omega) ⟨0, rfl, by omega, by omega, (by omega), (by omega), (by omega), rfl⟩
                  · refine r_const (i := 43) (u := 1) (z := 1) rfl rfl ?_
                    refine r_goto (i := 44) (v := 46) rfl ?_
                    have h57 := hI.a ta3 up.toNat
                    have h58 := hI.a ta3 up.toNat
                    exact r_retZ (i := 46) rfl (by omega) (by omega) ⟨1, rfl, by omega, by omega, (by omega), (by omega), (by omega), rfl⟩
              · refine r_const (i := 32) (u := 0) (z := 0) rfl rfl ?_
                have h59 := hI.a ta3 up.toNat
                have h60 := hI.a ta3 up.toNat
                exact r_retZ (i := 33) rfl (by omega) (by omega) ⟨0, rfl, by omega, by omega, (by omega), (by omega), (by omega), rfl⟩
        · refine r_load (i := 16) (u := 5) (w := 0) rfl rfl rfl ?_
          refine z_ne (i := 17) (v := 20) rfl ⟨by omega, by omega⟩ (fun h61 => ?_) (fun h62 => ?_)
          · refine r_const (i := 20) (u := 0) (z := 0) rfl rfl ?_
            have h63 := hI.f tf1_7
            have h64 := hI.a ta3 up.toNat
            have h65 := hI.a ta3 up.toNat
            exact r_retZ (i := 21) rfl (by omega) (by omega) ⟨0, rfl, by omega, by omega, (by omega), (by omega), (by omega), rfl⟩
          · refine r_load (i := 18) (u := 4) (w := 0) rfl rfl rfl ?_
            refine z_eq (i := 19) (v := 22) rfl ⟨by omega, by omega⟩ (fun h66 => ?_) (fun h67 => ?_)
            · refine r_load (i := 22) (u := 3) (w := 0) rfl rfl rfl ?_
              refine z_lt (i := 23) (v := 32) rfl ⟨by omega, by omega⟩ (fun h68 => ?_) (fun h69 => ?_)
              · refine r_const (i := 32) (u := 0) (z := 0) rfl rfl ?_
                have h70 := hI.f tf1_7
                have h71 := hI.a ta3 up.toNat
                have h72 := hI.a ta3 up.toNat
                exact r_retZ (i := 33) rfl (by omega) (by omega) ⟨0, rfl, by omega, by omega, (by omega), (by omega), (by omega), rfl⟩
              · refine r_load (i := 24) (u := 3) (w := 0) rfl rfl rfl ?_
                refine r_const (i := 25) (u := 4) (z := 4) rfl rfl ?_
                refine c_ge (i := 26) (v := 32) rfl ⟨by omega, by omega⟩ ⟨by omega, by omega⟩ (fun h73 => ?_) (fun h74 => ?_)
                · refine r_const (i := 32) (u := 0) (z := 0) rfl rfl ?_
                  have h75 := hI.f tf1_7
                  have h76 := hI.a ta3 up.toNat
                  have h77 := hI.a ta3 up.toNat
                  exact r_retZ (i := 33) rfl (by omega) (by omega) ⟨0, rfl, by omega, by omega, (by omega), (by omega), (by omega), rfl⟩
                · refine r_load (i := 27) (u := 0) (w := 2) rfl rfl rfl ?_
                  refine r_load (i := 28) (u := 4) (w := 0) rfl rfl rfl ?_
                  refine r_i2l (i := 29) rfl ⟨by omega, by omega⟩ ?_
                  have h78 := hI.f tf1_7
                  refine r_call (i := 30) (u := 1) (v := 131) (w := 0) (b := 0) (na := 770) (C2 := xC131) (as := [(2, 1), vl up]) (s := []) rfl rfl rfl rfl rfl rfl rfl (sp131 (t := up) hI ⟨by omega, by omega⟩   (by omega)) (fun r79 S80 hq81 => ?_)
                  obtain ⟨z82, rfl, h83, h84, h85, h86, rfl⟩ := hq81
                  refine Or.inr (Or.inl ⟨rfl, ?_⟩)
                  refine z_ne (i := 31) (v := 34) rfl ⟨by omega, by omega⟩ (fun h87 => ?_) (fun h88 => ?_)
                  · refine r_load (i := 34) (u := 0) (w := 2) rfl rfl rfl ?_
                    refine r_getf (i := 35) (v := 0) (w := 1) (x := (2, 2)) rfl ly1 rfl rfl fun _ => ?_
                    refine r_load (i := 36) (u := 4) (w := 0) rfl rfl rfl ?_
                    refine a_bool (i := 37) rfl ly2 rfl (by omega) (by omega) fun h90 => ?_
                    refine z_ne (i := 38) (v := 45) rfl ⟨by omega, by omega⟩ (fun h91 => ?_) (fun h92 => ?_)
                    · refine r_const (i := 45) (u := 0) (z := 0) rfl rfl ?_
                      have h93 := hI.a ta3 up.toNat
                      have h94 := hI.a ta3 up.toNat
                      exact r_retZ (i := 46) rfl (by omega) (by omega) ⟨0, rfl, by omega, by omega, (by omega), (by omega), (by omega), rfl⟩
                    · refine r_load (i := 39) (u := 0) (w := 2) rfl rfl rfl ?_
                      refine r_load (i := 40) (u := 4) (w := 0) rfl rfl rfl ?_
                      have h95 := hI.a ta3 up.toNat
                      have h96 := hI.a ta3 up.toNat
                      refine r_call (i := 41) (u := 1) (v := 134) (w := 0) (b := 0) (na := 514) (C2 := xC134) (as := [(2, 1), vi up]) (s := []) rfl rfl rfl rfl rfl rfl rfl (sp134 (t := up) hI ⟨by omega, by omega⟩   (by omega)) (fun r97 S98 hq99 => ?_)
                      obtain ⟨z100, rfl, h101, h102, h103, h104, rfl⟩ := hq99
                      refine Or.inr (Or.inl ⟨rfl, ?_⟩)
                      refine z_ne (i := 42) (v := 45) rfl ⟨by omega, by omega⟩ (fun h105 => ?_) (fun h106 => ?_)
                      · refine r_const (i := 45) (u := 0) (z := 0) rfl rfl ?_
                        have h107 := hI.a ta3 up.toNat
                        have h108 := hI.a ta3 up.toNat
                        exact r_retZ (i := 46) rfl (by omega) (by omega) ⟨0, rfl, by omega, by omega, (by omega), (by omega), (by omega), rfl⟩
                      · refine r_const (i := 43) (u := 1) (z := 1) rfl rfl ?_
                        refine r_goto (i := 44) (v := 46) rfl ?_
                        have h109 := hI.a ta3 up.toNat
                        have h110 := hI.a ta3 up.toNat
                        exact r_retZ (i := 46) rfl (by omega) (by omega) ⟨1, rfl, by omega, by omega, (by omega), (by omega), (by omega), rfl⟩
                  · refine r_const (i := 32) (u := 0) (z := 0) rfl rfl ?_
                    have h111 := hI.a ta3 up.toNat
                    have h112 := hI.a ta3 up.toNat
                    exact r_retZ (i := 33) rfl (by omega) (by omega) ⟨0, rfl, by omega, by omega, (by omega), (by omega), (by omega), rfl⟩
            · refine r_const (i := 20) (u := 0) (z := 0) rfl rfl ?_
              have h113 := hI.f tf1_7
              have h114 := hI.a ta3 up.toNat
              have h115 := hI.a ta3 up.toNat
              exact r_retZ (i := 21) rfl (by omega) (by omega) ⟨0, rfl, by omega, by omega, (by omega), (by omega), (by omega), rfl⟩
      · refine r_const (i := 12) (u := 0) (z := 0) rfl rfl ?_
        have h116 := hI.f tf1_7
        have h117 := hI.a ta3 up.toNat
        have h118 := hI.a ta3 up.toNat
        exact r_retZ (i := 13) rfl (by omega) (by omega) ⟨0, rfl, by omega, by omega, (by omega), (by omega), (by omega), rfl⟩
/-- ProxyForge$Types.add -/
theorem sp128 {G : xk} {S : yS} {d : Nat} (hI : yI S) {b : Int} (h_b : 0 ≤ b ∧ b ≤ 1) {fl : Int} (h_fl : 0 ≤ fl ∧ fl ≤ 7) {p : Int} (h_p : 0 ≤ p ∧ p ≤ 4) {up : Int} (h_up : -1 ≤ up ∧ up ≤ 19) (p_0 : S.f 1 7 ≤ 19) (hd : 1 ≤ d) : yT xPr G LY xC128 0 [some ((2, 1)), some (vi b), some (vi fl), some (vi p), some (vi up)] [] S d (fun r S' => ∃ z : Int, r = (1, vi z) ∧ 0 ≤ z ∧ z ≤ 19 ∧ z = S.f 1 7 ∧ cTy S S' b fl p up ∧ (0 ≤ up → up < S.f 1 7 → c6T S S' up) ∧ yI S' ∧ yFr [(1, 7)] [2, 3, 4, 5, 6] S S' ∧ yRm [] S S') := by
  refine yT_pad 1 ?_
  show yT xPr G LY xC128 0 [some ((2, 1)), some (vi b), some (vi fl), some (vi p), some (vi up), none] [] S d _
  obtain ⟨d, rfl⟩ : ∃ q, d = q + 1 := ⟨d - 1, by omega⟩
  have hF : yFr [(1, 7)] [2, 3, 4, 5, 6] S S := yFr.refl S
  have hR : yRm [] S S := yRm.refl S
  have h1 := hI.f tf1_7
  refine r_load (i := 0) (u := 0) (w := 2) rfl rfl rfl ?_
  refine r_getf (i := 1) (v := 7) (w := 1) (x := vi (S.f 1 7)) rfl ly1 rfl rfl fun h2 => ?_
  have h2 : Rg (S.f 1 7) := h2
  refine r_store (i := 2) (u := 5) (w := 0) (L1 := [some ((2, 1)), some (vi b), some (vi fl), some (vi p), some (vi up), some (vi (S.f 1 7))]) rfl rfl rfl rfl ?_
  refine r_load (i := 3) (u := 0) (w := 2) rfl rfl rfl ?_
  refine r_getf (i := 4) (v := 0) (w := 1) (x := (2, 2)) rfl ly1 rfl rfl fun _ => ?_
  refine r_load (i := 5) (u := 5) (w := 0) rfl rfl rfl ?_
  refine r_load (i := 6) (u := 1) (w := 0) rfl rfl rfl ?_
  refine s_bool (i := 7) rfl ly2 rfl (by omega) (by omega) (by omega) (by omega) ?_
  have hI5 := hI.seta0 (b := 2) (j := (S.f 1 7).toNat) (z := b) rfl rfl
  have hF7 := hF.seta (b := 2) (j := (S.f 1 7).toNat) (z := b) rfl
  have hR8 := hR.seta (b := 2) (j := (S.f 1 7).toNat) (z := b)
  refine yT_gen (fun S4 hS6 => ?_)
  rw [hS6] at hI5 hF7 hR8 
  refine r_load (i := 8) (u := 0) (w := 2) rfl rfl rfl ?_
  refine r_getf (i := 9) (v := 1) (w := 1) (x := (2, 3)) rfl ly1 rfl rfl fun _ => ?_
  refine r_load (i := 10) (u := 5) (w := 0) rfl rfl rfl ?_
  refine r_load (i := 11) (u := 2) (w := 0) rfl rfl rfl ?_
  refine s_int (i := 12) rfl ly3 rfl (by omega) (by omega) ⟨by omega, by omega⟩ ?_
  have hI11 := hI5.seta (b := 3) (j := (S.f 1 7).toNat) (z := fl) ta3 rfl (by omega) (by omega)
  have hF13 := hF7.seta (b := 3) (j := (S.f 1 7).toNat) (z := fl) rfl
  have hR14 := hR8.seta (b := 3) (j := (S.f 1 7).toNat) (z := fl)
  refine yT_gen (fun S10 hS12 => ?_)
  rw [hS12] at hI11 hF13 hR14 
  refine r_load (i := 13) (u := 0) (w := 2) rfl rfl rfl ?_
  refine r_getf (i := 14) (v := 2) (w := 1) (x := (2, 4)) rfl ly1 rfl rfl fun _ => ?_
  refine r_load (i := 15) (u := 5) (w := 0) rfl rfl rfl ?_
  refine r_load (i := 16) (u := 3) (w := 0) rfl rfl rfl ?_
  refine s_int (i := 17) rfl ly4 rfl (by omega) (by omega) ⟨by omega, by omega⟩ ?_
  have hI17 := hI11.seta (b := 4) (j := (S.f 1 7).toNat) (z := p) ta4 rfl (by omega) (by omega)
  have hF19 := hF13.seta (b := 4) (j := (S.f 1 7).toNat) (z := p) rfl
  have hR20 := hR14.seta (b := 4) (j := (S.f 1 7).toNat) (z := p)
  refine yT_gen (fun S16 hS18 => ?_)
  rw [hS18] at hI17 hF19 hR20 
  refine r_load (i := 18) (u := 0) (w := 2) rfl rfl rfl ?_
  refine r_getf (i := 19) (v := 3) (w := 1) (x := (2, 5)) rfl ly1 rfl rfl fun _ => ?_
  refine r_load (i := 20) (u := 5) (w := 0) rfl rfl rfl ?_
  refine r_load (i := 21) (u := 4) (w := 0) rfl rfl rfl ?_
  refine s_int (i := 22) rfl ly5 rfl (by omega) (by omega) ⟨by omega, by omega⟩ ?_
  have hI23 := hI17.seta (b := 5) (j := (S.f 1 7).toNat) (z := up) ta5 rfl (by omega) (by omega)
  have hF25 := hF19.seta (b := 5) (j := (S.f 1 7).toNat) (z := up) rfl
  have hR26 := hR20.seta (b := 5) (j := (S.f 1 7).toNat) (z := up)
  refine yT_gen (fun S22 hS24 => ?_)
  rw [hS24] at hI23 hF25 hR26 
  refine r_load (i := 23) (u := 0) (w := 2) rfl rfl rfl ?_
  refine r_getf (i := 24) (v := 4) (w := 1) (x := (2, 6)) rfl ly1 rfl rfl fun _ => ?_
  refine r_load (i := 25) (u := 5) (w := 0) rfl rfl rfl ?_
  refine r_const (i := 26) (u := 1) (z := 1) rfl rfl ?_
  refine r_load (i := 27) (u := 5) (w := 0) rfl rfl rfl ?_
  refine r_shl1 (i := 28) rfl (by omega) (by omega) fun h28 => ?_
  refine s_int (i := 29) rfl ly6 rfl (by omega) (by omega) ⟨by omega, by omega⟩ ?_
  have hI30 := hI23.seta0 (b := 6) (j := (S.f 1 7).toNat) (z := yshl 1 (S.f 1 7)) rfl rfl
  have hF32 := hF25.seta (b := 6) (j := (S.f 1 7).toNat) (z := yshl 1 (S.f 1 7)) rfl
  have hR33 := hR26.seta (b := 6) (j := (S.f 1 7).toNat) (z := yshl 1 (S.f 1 7))
  refine yT_gen (fun S29 hS31 => ?_)
  rw [hS31] at hI30 hF32 hR33 
  refine r_load (i := 30) (u := 0) (w := 2) rfl rfl rfl ?_
  refine r_load (i := 31) (u := 4) (w := 0) rfl rfl rfl ?_
  refine r_i2l (i := 32) rfl ⟨by omega, by omega⟩ ?_
  have h34 := hI30.f tf1_7
  have h35 : S29.f 1 7 = S22.f 1 7 := by rw [← hS31]; rfl
  have h36 : S22.f 1 7 = S16.f 1 7 := by rw [← hS24]; rfl
  have h37 : S16.f 1 7 = S10.f 1 7 := by rw [← hS18]; rfl
  have h38 : S10.f 1 7 = S4.f 1 7 := by rw [← hS12]; rfl
  have h39 : S4.f 1 7 = S.f 1 7 := by rw [← hS6]; rfl
  refine r_call (i := 33) (u := 1) (v := 131) (w := 0) (b := 0) (na := 770) (C2 := xC131) (as := [(2, 1), vl up]) (s := []) rfl rfl rfl rfl rfl rfl rfl (sp131 (t := up) hI30 ⟨by omega, by omega⟩   (by omega)) (fun r40 S41 hq42 => ?_)
  obtain ⟨z43, rfl, h44, h45, h46, h47, rfl⟩ := hq42
  refine Or.inr (Or.inl ⟨rfl, ?_⟩)
  refine z_eq (i := 34) (v := 46) rfl ⟨by omega, by omega⟩ (fun h48 => ?_) (fun h49 => ?_)
  · refine r_load (i := 46) (u := 0) (w := 2) rfl rfl rfl ?_
    refine r_dup (i := 47) rfl rfl ?_
    refine r_getf (i := 48) (v := 7) (w := 1) (x := vi (S29.f 1 7)) rfl ly1 rfl rfl fun h50 => ?_
    have h50 : Rg (S29.f 1 7) := h50
    refine r_const (i := 49) (u := 1) (z := 1) rfl rfl ?_
    refine r_iadd (i := 50) rfl ?_
    refine r_putI (i := 51) (v := 7) (w := 1) rfl ly1 rfl ⟨by omega, by omega⟩ ?_
    have hI52 := hI30.setf (b := 1) (w := 7) (z := (S29.f 1 7) + 1) tf1_7 rfl (by omega) (by omega)
    have hF54 := hF32.setf (b := 1) (w := 7) (z := (S29.f 1 7) + 1) rfl
    have hR55 := hR33.setf (b := 1) (w := 7) (z := (S29.f 1 7) + 1)
    refine yT_gen (fun S51 hS53 => ?_)
    rw [hS53] at hI52 hF54 hR55 
    refine r_load (i := 52) (u := 5) (w := 0) rfl rfl rfl ?_
    have h56 := hI52.f tf1_7
    have h57 : S51.f 1 7 = (S29.f 1 7) + 1 := by rw [← hS53]; exact ysf_eq
    exact r_retI (i := 53) rfl ⟨S.f 1 7, rfl, by omega, by omega, (by omega), (by exact ⟨by subst hS6 hS12 hS18 hS24 hS31 hS53; rfl, fun j => by subst hS6 hS12 hS18 hS24 hS31 hS53; rfl, fun j => by subst hS6 hS12 hS18 hS24 hS31 hS53; rfl, fun j => by subst hS6 hS12 hS18 hS24 hS31 hS53; rfl, fun j => by subst hS6 hS12 hS18 hS24 hS31 hS53; rfl⟩), (by intro u0 u1; exfalso; omega), hI52, hF54, hR55⟩
  · refine r_load (i := 35) (u := 0) (w := 2) rfl rfl rfl ?_
    refine r_getf (i := 36) (v := 4) (w := 1) (x := (2, 6)) rfl ly1 rfl rfl fun _ => ?_
    refine r_load (i := 37) (u := 5) (w := 0) rfl rfl rfl ?_
    refine r_dup2 (i := 38) rfl rfl rfl ?_
    refine a_int (i := 39) rfl ly6 rfl (by omega) (by omega) fun h59 => ?_
    have h60 : S29.a 6 (S.f 1 7).toNat = yshl 1 (S.f 1 7) := by rw [← hS31]; exact ysa_eq
    refine r_load (i := 40) (u := 0) (w := 2) rfl rfl rfl ?_
    refine r_getf (i := 41) (v := 4) (w := 1) (x := (2, 6)) rfl ly1 rfl rfl fun _ => ?_
    refine r_load (i := 42) (u := 4) (w := 0) rfl rfl rfl ?_
    refine a_int (i := 43) rfl ly6 rfl (by omega) (by omega) fun h62 => ?_
    refine r_ior (i := 44) rfl ?_
    have h63 := yor_rg (S29.a 6 (S.f 1 7).toNat) (S29.a 6 up.toNat)
    refine s_int (i := 45) rfl ly6 rfl (by omega) (by omega) ⟨by omega, by omega⟩ ?_
    have hI65 := hI30.seta0 (b := 6) (j := (S.f 1 7).toNat) (z := yor (S29.a 6 (S.f 1 7).toNat) (S29.a 6 up.toNat)) rfl rfl
    have hF67 := hF32.seta (b := 6) (j := (S.f 1 7).toNat) (z := yor (S29.a 6 (S.f 1 7).toNat) (S29.a 6 up.toNat)) rfl
    have hR68 := hR33.seta (b := 6) (j := (S.f 1 7).toNat) (z := yor (S29.a 6 (S.f 1 7).toNat) (S29.a 6 up.toNat))
    refine yT_gen (fun S64 hS66 => ?_)
    rw [hS66] at hI65 hF67 hR68 
    refine r_load (i := 46) (u := 0) (w := 2) rfl rfl rfl ?_
    refine r_dup (i := 47) rfl rfl ?_
    have h69 := hI65.f tf1_7
    have h70 : S64.f 1 7 = S29.f 1 7 := by rw [← hS66]; rfl
    have h71 : S29.f 1 7 = S22.f 1 7 := by rw [← hS31]; rfl
    have h72 : S22.f 1 7 = S16.f 1 7 := by rw [← hS24]; rfl
    have h73 : S16.f 1 7 = S10.f 1 7 := by rw [← hS18]; rfl
    have h74 : S10.f 1 7 = S4.f 1 7 := by rw [← hS12]; rfl
    have h75 : S4.f 1 7 = S.f 1 7 := by rw [← hS6]; rfl
    refine r_getf (i := 48) (v := 7) (w := 1) (x := vi (S64.f 1 7)) rfl ly1 rfl rfl fun h76 => ?_
    have h76 : Rg (S64.f 1 7) := h76
    refine r_const (i := 49) (u := 1) (z := 1) rfl rfl ?_
    refine r_iadd (i := 50) rfl ?_
    refine r_putI (i := 51) (v := 7) (w := 1) rfl ly1 rfl ⟨by omega, by omega⟩ ?_
    have hI78 := hI65.setf (b := 1) (w := 7) (z := (S64.f 1 7) + 1) tf1_7 rfl (by omega) (by omega)
    have hF80 := hF67.setf (b := 1) (w := 7) (z := (S64.f 1 7) + 1) rfl
    have hR81 := hR68.setf (b := 1) (w := 7) (z := (S64.f 1 7) + 1)
    refine yT_gen (fun S77 hS79 => ?_)
    rw [hS79] at hI78 hF80 hR81 
    refine r_load (i := 52) (u := 5) (w := 0) rfl rfl rfl ?_
    have h82 := hI78.f tf1_7
    have h83 : S77.f 1 7 = (S64.f 1 7) + 1 := by rw [← hS79]; exact ysf_eq
    exact r_retI (i := 53) rfl ⟨S.f 1 7, rfl, by omega, by omega, (by omega), (by exact ⟨by subst hS6 hS12 hS18 hS24 hS31 hS66 hS79; rfl, fun j => by subst hS6 hS12 hS18 hS24 hS31 hS66 hS79; rfl, fun j => by subst hS6 hS12 hS18 hS24 hS31 hS66 hS79; rfl, fun j => by subst hS6 hS12 hS18 hS24 hS31 hS66 hS79; rfl, fun j => by subst hS6 hS12 hS18 hS24 hS31 hS66 hS79; rfl⟩), (by intro u0 u1 j; exact (rkf hS79 j).trans (c6_of2 (fun j => ((((rk hS24 (by decide) j).trans (rk hS18 (by decide) j)).trans (rk hS12 (by decide) j)).trans (rk hS6 (by decide) j))) hS31 hS66 rfl (by omega) j)), hI78, hF80, hR81⟩
theorem lp138_17 {G : xk} {d : Nat} {S : yS} (hI : yI S) {t : Int} (h_t : -2147483648 ≤ t ∧ t ≤ 2147483647) {f : Int} (h_f : -2147483648 ≤ f ∧ f ≤ 2147483647) (hd : 1 ≤ d + 1) : ∀ (n : Nat), ∀ (j : Int) (h_j : 0 ≤ j ∧ j ≤ 4) (q_0 : 4 ≤ t ∧ t < S.f 1 7 ∧ 4 ≤ f ∧ f < S.f 1 7) (q_1 : S.a 2 f.toNat ≠ 0) (q_2 : ∀ i : Int, 0 ≤ i → i < j → S.a 8 (4 * t + i).toNat ≠ f) (hn : 4 - j < (n : Nat)), yT xPr G LY xC138 17 [some ((2, 1)), some (vi t), some (vi f), some (vi j)] [] S (d + 1) (fun r S' => ∃ z : Int, r = (1, vi z) ∧ 0 ≤ z ∧ z ≤ 1 ∧ (z = 1 → 4 ≤ t ∧ t < S.f 1 7 ∧ 4 ≤ f ∧ f < S.f 1 7 ∧ S.a 7 t.toNat ≤ 3) ∧ (z = 1 → imC S t f) ∧ (z = 0 → ¬ imC S t f) ∧ S = S') := by
  intro n
  induction n with
  | zero => intro j h_j q_0 q_1 q_2 hn; exact absurd hn (by omega)
  | succ n ih =>
    intro j h_j q_0 q_1 q_2 hn
    have h1 := hI.f tf1_7
    refine r_load (i := 17) (u := 3) (w := 0) rfl rfl rfl ?_
    refine r_load (i := 18) (u := 0) (w := 2) rfl rfl rfl ?_
    refine r_getf (i := 19) (v := 5) (w := 1) (x := (2, 7)) rfl ly1 rfl rfl fun _ => ?_
    refine r_load (i := 20) (u := 1) (w := 0) rfl rfl rfl ?_
    refine a_int (i := 21) rfl ly7 rfl (by omega) (by omega) fun h3 => ?_
    have h4 := hI.a ta7 t.toNat
    refine c_ge (i := 22) (v := 33) rfl ⟨by omega, by omega⟩ ⟨by omega, by omega⟩ (fun h5 => ?_) (fun h6 => ?_)
    · refine r_load (i := 33) (u := 0) (w := 2) rfl rfl rfl ?_
      refine r_getf (i := 34) (v := 5) (w := 1) (x := (2, 7)) rfl ly1 rfl rfl fun _ => ?_
      refine r_load (i := 35) (u := 1) (w := 0) rfl rfl rfl ?_
      refine a_int (i := 36) rfl ly7 rfl (by omega) (by omega) fun h8 => ?_
      have h9 := hI.a ta7 t.toNat
      refine r_const (i := 37) (u := 4) (z := 4) rfl rfl ?_
      refine c_ge (i := 38) (v := 46) rfl ⟨by omega, by omega⟩ ⟨by omega, by omega⟩ (fun h10 => ?_) (fun h11 => ?_)
      · refine r_const (i := 46) (u := 0) (z := 0) rfl rfl ?_
        have h12 := hI.a ta7 t.toNat
        exact r_retZ (i := 47) rfl (by omega) (by omega) ⟨0, rfl, by omega, by omega, (by omega), (by intro hz; first | exact absurd hz (by omega)), (by intro hz; first | exact absurd hz (by omega) | (intro hc; obtain ⟨c1, c2, c3, c4, c5, c6⟩ := hc; first | (exfalso; omega) | exact c4 j (by omega) (by omega) (by omega))), rfl⟩
      · refine r_load (i := 39) (u := 0) (w := 2) rfl rfl rfl ?_
        refine r_load (i := 40) (u := 2) (w := 0) rfl rfl rfl ?_
        refine r_load (i := 41) (u := 1) (w := 0) rfl rfl rfl ?_
        refine r_call (i := 42) (u := 1) (v := 133) (w := 0) (b := 0) (na := 771) (C2 := xC133) (as := [(2, 1), vi f, vi t]) (s := []) rfl rfl rfl rfl rfl rfl rfl (sp133 (t := f) (o := t) hI ⟨by omega, by omega⟩ ⟨by omega, by omega⟩   (by omega)) (fun r13 S14 hq15 => ?_)
        obtain ⟨z16, rfl, h17, h18, yb19, nb20, rfl⟩ := hq15
        refine Or.inr (Or.inl ⟨rfl, ?_⟩)
        refine z_ne (i := 43) (v := 46) rfl ⟨by omega, by omega⟩ (fun h21 => ?_) (fun h22 => ?_)
        · refine r_const (i := 46) (u := 0) (z := 0) rfl rfl ?_
          have h23 := hI.a ta7 t.toNat
          exact r_retZ (i := 47) rfl (by omega) (by omega) ⟨0, rfl, by omega, by omega, (by omega), (by intro hz; first | exact absurd hz (by omega) | exact ⟨by omega, by omega, q_1, fun i i0 i1 => q_2 i i0 (by omega), by omega, nb20 (by omega)⟩), (by intro hz; first | exact absurd hz (by omega) | (intro hc; obtain ⟨c1, c2, c3, c4, c5, c6⟩ := hc; first | (exfalso; omega) | exact c4 j (by omega) (by omega) (by omega) | exact c6 (yb19 (by omega)))), rfl⟩
        · refine r_const (i := 44) (u := 1) (z := 1) rfl rfl ?_
          refine r_goto (i := 45) (v := 47) rfl ?_
          have h24 := hI.a ta7 t.toNat
          exact r_retZ (i := 47) rfl (by omega) (by omega) ⟨1, rfl, by omega, by omega, (by omega), (by intro hz; first | exact absurd hz (by omega) | exact ⟨by omega, by omega, q_1, fun i i0 i1 => q_2 i i0 (by omega), by omega, nb20 (by omega)⟩), (by intro hz; first | exact absurd hz (by omega) | (intro hc; obtain ⟨c1, c2, c3, c4, c5, c6⟩ := hc; first | (exfalso; omega) | exact c4 j (by omega) (by omega) (by omega) | exact c6 (yb19 (by omega)))), rfl⟩
    · refine r_load (i := 23) (u := 0) (w := 2) rfl rfl rfl ?_
      refine r_load (i := 24) (u := 1) (w := 0) rfl rfl rfl ?_
      refine r_load (i := 25) (u := 3) (w := 0) rfl rfl rfl ?_
      refine r_call (i := 26) (u := 1) (v := 130) (w := 0) (b := 0) (na := 771) (C2 := xC130) (as := [(2, 1), vi t, vi j]) (s := []) rfl rfl rfl rfl rfl rfl rfl (sp130 (t := t) (k := j) hI ⟨by omega, by omega⟩ ⟨by omega, by omega⟩   (by omega)) (fun r25 S26 hq27 => ?_)
      obtain ⟨z28, rfl, h29, h30, h31, rfl⟩ := hq27
      refine Or.inr (Or.inl ⟨rfl, ?_⟩)
      refine r_load (i := 27) (u := 2) (w := 0) rfl rfl rfl ?_
      refine c_ne (i := 28) (v := 31) rfl ⟨by omega, by omega⟩ ⟨by omega, by omega⟩ (fun h32 => ?_) (fun h33 => ?_)
      · refine r_iinc (i := 31) (u := 1) (v := 3) (s := 1) (L1 := [some ((2, 1)), some (vi t), some (vi f), some (vi (j + 1))]) rfl rfl rfl rfl rfl ?_
        refine r_goto (i := 32) (v := 17) rfl ?_
        exact ih (j + 1) ⟨by omega, by omega⟩ (by omega) (by omega) (by exact nf_s q_2 (by omega)) (by omega)
      · refine r_const (i := 29) (u := 0) (z := 0) rfl rfl ?_
        have h34 := hI.a ta7 t.toNat
        exact r_retZ (i := 30) rfl (by omega) (by omega) ⟨0, rfl, by omega, by omega, (by omega), (by intro hz; first | exact absurd hz (by omega)), (by intro hz; first | exact absurd hz (by omega) | (intro hc; obtain ⟨c1, c2, c3, c4, c5, c6⟩ := hc; first | (exfalso; omega) | exact c4 j (by omega) (by omega) (by omega))), rfl⟩
/-- ProxyForge$Types.mayImplement -/
theorem sp138 {G : xk} {S : yS} {d : Nat} (hI : yI S) {t : Int} (h_t : -2147483648 ≤ t ∧ t ≤ 2147483647) {f : Int} (h_f : -2147483648 ≤ f ∧ f ≤ 2147483647) (hd : 1 ≤ d) : yT xPr G LY xC138 0 [some ((2, 1)), some (vi t), some (vi f)] [] S d (fun r S' => ∃ z : Int, r = (1, vi z) ∧ 0 ≤ z ∧ z ≤ 1 ∧ (z = 1 → 4 ≤ t ∧ t < S.f 1 7 ∧ 4 ≤ f ∧ f < S.f 1 7 ∧ S.a 7 t.toNat ≤ 3) ∧ (z = 1 → imC S t f) ∧ (z = 0 → ¬ imC S t f) ∧ S = S') := by
  refine yT_pad 1 ?_
  show yT xPr G LY xC138 0 [some ((2, 1)), some (vi t), some (vi f), none] [] S d _
  obtain ⟨d, rfl⟩ : ∃ q, d = q + 1 := ⟨d - 1, by omega⟩
  refine r_load (i := 0) (u := 0) (w := 2) rfl rfl rfl ?_
  refine r_load (i := 1) (u := 1) (w := 0) rfl rfl rfl ?_
  have h1 := hI.f tf1_7
  refine r_call (i := 2) (u := 1) (v := 135) (w := 0) (b := 0) (na := 514) (C2 := xC135) (as := [(2, 1), vi t]) (s := []) rfl rfl rfl rfl rfl rfl rfl (sp135 (t := t) hI ⟨by omega, by omega⟩   (by omega)) (fun r2 S3 hq4 => ?_)
  obtain ⟨z5, rfl, h6, h7, h8, h9, rfl⟩ := hq4
  refine Or.inr (Or.inl ⟨rfl, ?_⟩)
  refine z_eq (i := 3) (v := 13) rfl ⟨by omega, by omega⟩ (fun h10 => ?_) (fun h11 => ?_)
  · refine r_const (i := 13) (u := 0) (z := 0) rfl rfl ?_
    have h12 := hI.a ta7 t.toNat
    exact r_retZ (i := 14) rfl (by omega) (by omega) ⟨0, rfl, by omega, by omega, (by omega), (by intro hz; first | exact absurd hz (by omega)), (by intro hz; first | exact absurd hz (by omega) | (intro hc; obtain ⟨c1, c2, c3, c4, c5, c6⟩ := hc; first | (exfalso; omega))), rfl⟩
  · refine r_load (i := 4) (u := 0) (w := 2) rfl rfl rfl ?_
    refine r_load (i := 5) (u := 2) (w := 0) rfl rfl rfl ?_
    refine r_call (i := 6) (u := 1) (v := 135) (w := 0) (b := 0) (na := 514) (C2 := xC135) (as := [(2, 1), vi f]) (s := []) rfl rfl rfl rfl rfl rfl rfl (sp135 (t := f) hI ⟨by omega, by omega⟩   (by omega)) (fun r13 S14 hq15 => ?_)
    obtain ⟨z16, rfl, h17, h18, h19, h20, rfl⟩ := hq15
    refine Or.inr (Or.inl ⟨rfl, ?_⟩)
    refine z_eq (i := 7) (v := 13) rfl ⟨by omega, by omega⟩ (fun h21 => ?_) (fun h22 => ?_)
    · refine r_const (i := 13) (u := 0) (z := 0) rfl rfl ?_
      have h23 := hI.a ta7 t.toNat
      exact r_retZ (i := 14) rfl (by omega) (by omega) ⟨0, rfl, by omega, by omega, (by omega), (by intro hz; first | exact absurd hz (by omega)), (by intro hz; first | exact absurd hz (by omega) | (intro hc; obtain ⟨c1, c2, c3, c4, c5, c6⟩ := hc; first | (exfalso; omega))), rfl⟩
    · refine r_load (i := 8) (u := 0) (w := 2) rfl rfl rfl ?_
      refine r_getf (i := 9) (v := 0) (w := 1) (x := (2, 2)) rfl ly1 rfl rfl fun _ => ?_
      refine r_load (i := 10) (u := 2) (w := 0) rfl rfl rfl ?_
      refine a_bool (i := 11) rfl ly2 rfl (by omega) (by omega) fun h25 => ?_
      refine z_ne (i := 12) (v := 15) rfl ⟨by omega, by omega⟩ (fun h26 => ?_) (fun h27 => ?_)
      · refine r_const (i := 15) (u := 0) (z := 0) rfl rfl ?_
        refine r_store (i := 16) (u := 3) (w := 0) (L1 := [some ((2, 1)), some (vi t), some (vi f), some (vi 0)]) rfl rfl rfl rfl ?_
        exact lp138_17 hI h_t h_f   hd _ 0 ⟨by omega, by omega⟩ (by omega) (by omega) (by exact nf_0) (Int.lt_succ_toNat _)
      · refine r_const (i := 13) (u := 0) (z := 0) rfl rfl ?_
        have h28 := hI.a ta7 t.toNat
        exact r_retZ (i := 14) rfl (by omega) (by omega) ⟨0, rfl, by omega, by omega, (by omega), (by intro hz; first | exact absurd hz (by omega)), (by intro hz; first | exact absurd hz (by omega) | (intro hc; obtain ⟨c1, c2, c3, c4, c5, c6⟩ := hc; first | (exfalso; omega))), rfl⟩
theorem lp129_22 {G : xk} {d : Nat} {S0 : yS} {t : Int} (h_t : 4 ≤ t ∧ t ≤ 19) {f : Int} (h_f : 4 ≤ f ∧ f ≤ 19) (p_0 : S0.a 7 t.toNat ≤ 3) (p_1 : ¬ bt (S0.a 6 f.toNat) t) (hd : 1 ≤ d + 1) : ∀ (n : Nat), ∀ (S : yS) (hI : yI S) (hF : yFr [] [6, 7, 8] S0 S) (hR : yRm [] S0 S) (j : Int) (h_j : 0 ≤ j ∧ j ≤ 20) (q_0 : cIf S0 S t f) (q_1 : c6F S0 S t f j) (q_2 : j ≤ S.f 1 7) (hn : 20 - j < (n : Nat)), yT xPr G LY xC129 22 [some ((2, 1)), some (vi t), some (vi f), some (vi j)] [] S (d + 1) (fun r S' => r = (0, (0, 0)) ∧ cIm S0 S' t f ∧ yI S' ∧ yFr [] [6, 7, 8] S0 S' ∧ yRm [] S0 S') := by
  intro n
  induction n with
  | zero => intro S hI hF hR j h_j q_0 q_1 q_2 hn; exact absurd hn (by omega)
  | succ n ih =>
    intro S hI hF hR j h_j q_0 q_1 q_2 hn
    have h1 := hI.f tf1_7
    have h2 : S.f 1 7 = S0.f 1 7 := hF.f rfl
    refine r_load (i := 22) (u := 3) (w := 0) rfl rfl rfl ?_
    refine r_load (i := 23) (u := 0) (w := 2) rfl rfl rfl ?_
    refine r_getf (i := 24) (v := 7) (w := 1) (x := vi (S.f 1 7)) rfl ly1 rfl rfl fun h3 => ?_
    have h3 : Rg (S.f 1 7) := h3
    refine c_ge (i := 25) (v := 44) rfl ⟨by omega, by omega⟩ ⟨by omega, by omega⟩ (fun h4 => ?_) (fun h5 => ?_)
    · exact r_ret0 (i := 44) rfl ⟨rfl, (by exact ⟨q_0, (show j = S0.f 1 7 by omega) ▸ q_1⟩), hI, hF, hR⟩
    · refine r_load (i := 26) (u := 0) (w := 2) rfl rfl rfl ?_
      refine r_load (i := 27) (u := 3) (w := 0) rfl rfl rfl ?_
      refine r_load (i := 28) (u := 1) (w := 0) rfl rfl rfl ?_
      refine r_call (i := 29) (u := 1) (v := 133) (w := 0) (b := 0) (na := 771) (C2 := xC133) (as := [(2, 1), vi j, vi t]) (s := []) rfl rfl rfl rfl rfl rfl rfl (sp133 (t := j) (o := t) hI ⟨by omega, by omega⟩ ⟨by omega, by omega⟩   (by omega)) (fun r6 S7 hq8 => ?_)
      obtain ⟨z9, rfl, h10, h11, yb12, nb13, rfl⟩ := hq8
      refine Or.inr (Or.inl ⟨rfl, ?_⟩)
      refine z_eq (i := 30) (v := 42) rfl ⟨by omega, by omega⟩ (fun h14 => ?_) (fun h15 => ?_)
      · refine r_iinc (i := 42) (u := 1) (v := 3) (s := 1) (L1 := [some ((2, 1)), some (vi t), some (vi f), some (vi (j + 1))]) rfl rfl rfl rfl rfl ?_
        refine r_goto (i := 43) (v := 22) rfl ?_
        exact ih S hI hF hR (j + 1) ⟨by omega, by omega⟩ (by exact q_0) (by exact c6F_n q_1 (by omega) (nb13 (by omega))) (by omega) (by omega)
      · refine r_load (i := 31) (u := 0) (w := 2) rfl rfl rfl ?_
        refine r_getf (i := 32) (v := 4) (w := 1) (x := (2, 6)) rfl ly1 rfl rfl fun _ => ?_
        refine r_load (i := 33) (u := 3) (w := 0) rfl rfl rfl ?_
        refine r_dup2 (i := 34) rfl rfl rfl ?_
        refine a_int (i := 35) rfl ly6 rfl (by omega) (by omega) fun h17 => ?_
        refine r_load (i := 36) (u := 0) (w := 2) rfl rfl rfl ?_
        refine r_getf (i := 37) (v := 4) (w := 1) (x := (2, 6)) rfl ly1 rfl rfl fun _ => ?_
        refine r_load (i := 38) (u := 2) (w := 0) rfl rfl rfl ?_
        refine a_int (i := 39) rfl ly6 rfl (by omega) (by omega) fun h19 => ?_
        refine r_ior (i := 40) rfl ?_
        have h20 := yor_rg (S.a 6 j.toNat) (S.a 6 f.toNat)
        refine s_int (i := 41) rfl ly6 rfl (by omega) (by omega) ⟨by omega, by omega⟩ ?_
        have hI22 := hI.seta0 (b := 6) (j := j.toNat) (z := yor (S.a 6 j.toNat) (S.a 6 f.toNat)) rfl rfl
        have hF24 := hF.seta (b := 6) (j := j.toNat) (z := yor (S.a 6 j.toNat) (S.a 6 f.toNat)) rfl
        have hR25 := hR.seta (b := 6) (j := j.toNat) (z := yor (S.a 6 j.toNat) (S.a 6 f.toNat))
        refine yT_gen (fun S21 hS23 => ?_)
        rw [hS23] at hI22 hF24 hR25 
        refine r_iinc (i := 42) (u := 1) (v := 3) (s := 1) (L1 := [some ((2, 1)), some (vi t), some (vi f), some (vi (j + 1))]) rfl rfl rfl rfl rfl ?_
        refine r_goto (i := 43) (v := 22) rfl ?_
        have h26 := hI22.f tf1_7
        have h27 : S21.f 1 7 = S.f 1 7 := by rw [← hS23]; rfl
        have h28 : S.f 1 7 = S0.f 1 7 := hF.f rfl
        exact ih S21 hI22 hF24 hR25 (j + 1) ⟨by omega, by omega⟩ (by rw [← hS23]; exact q_0) (by rw [← hS23]; exact c6F_s q_1 (by omega) p_1 (yb12 (by omega))) (by omega) (by omega)
/-- ProxyForge$Types.addFace -/
theorem sp129 {G : xk} {S : yS} {d : Nat} (hI : yI S) {t : Int} (h_t : 4 ≤ t ∧ t ≤ 19) {f : Int} (h_f : 4 ≤ f ∧ f ≤ 19) (p_0 : S.a 7 t.toNat ≤ 3) (p_1 : ¬ bt (S.a 6 f.toNat) t) (hd : 1 ≤ d) : yT xPr G LY xC129 0 [some ((2, 1)), some (vi t), some (vi f)] [] S d (fun r S' => r = (0, (0, 0)) ∧ cIm S S' t f ∧ yI S' ∧ yFr [] [6, 7, 8] S S' ∧ yRm [] S S') := by
  refine yT_pad 1 ?_
  show yT xPr G LY xC129 0 [some ((2, 1)), some (vi t), some (vi f), none] [] S d _
  obtain ⟨d, rfl⟩ : ∃ q, d = q + 1 := ⟨d - 1, by omega⟩
  have hF : yFr [] [6, 7, 8] S S := yFr.refl S
  have hR : yRm [] S S := yRm.refl S
  have h1 := hI.a ta7 t.toNat
  refine r_load (i := 0) (u := 0) (w := 2) rfl rfl rfl ?_
  refine r_getf (i := 1) (v := 6) (w := 1) (x := (2, 8)) rfl ly1 rfl rfl fun _ => ?_
  refine r_load (i := 2) (u := 1) (w := 0) rfl rfl rfl ?_
  refine r_const (i := 3) (u := 4) (z := 4) rfl rfl ?_
  refine r_imul (i := 4) rfl ?_
  refine r_load (i := 5) (u := 0) (w := 2) rfl rfl rfl ?_
  refine r_getf (i := 6) (v := 5) (w := 1) (x := (2, 7)) rfl ly1 rfl rfl fun _ => ?_
  refine r_load (i := 7) (u := 1) (w := 0) rfl rfl rfl ?_
  refine a_int (i := 8) rfl ly7 rfl (by omega) (by omega) fun h4 => ?_
  have h5 := hI.a ta7 t.toNat
  refine r_iadd (i := 9) rfl ?_
  refine r_load (i := 10) (u := 2) (w := 0) rfl rfl rfl ?_
  refine s_int (i := 11) rfl ly8 rfl (by omega) (by omega) ⟨by omega, by omega⟩ ?_
  have hI7 := hI.seta (b := 8) (j := ((t * 4) + (S.a 7 t.toNat)).toNat) (z := f) ta8 rfl (by omega) (by omega)
  have hF9 := hF.seta (b := 8) (j := ((t * 4) + (S.a 7 t.toNat)).toNat) (z := f) rfl
  have hR10 := hR.seta (b := 8) (j := ((t * 4) + (S.a 7 t.toNat)).toNat) (z := f)
  refine yT_gen (fun S6 hS8 => ?_)
  rw [hS8] at hI7 hF9 hR10 
  refine r_load (i := 12) (u := 0) (w := 2) rfl rfl rfl ?_
  refine r_getf (i := 13) (v := 5) (w := 1) (x := (2, 7)) rfl ly1 rfl rfl fun _ => ?_
  refine r_load (i := 14) (u := 1) (w := 0) rfl rfl rfl ?_
  refine r_dup2 (i := 15) rfl rfl rfl ?_
  refine a_int (i := 16) rfl ly7 rfl (by omega) (by omega) fun h12 => ?_
  have h13 := hI7.a ta7 t.toNat
  have h14 : S6.a 7 t.toNat = S.a 7 t.toNat := by rw [← hS8]; rfl
  refine r_const (i := 17) (u := 1) (z := 1) rfl rfl ?_
  refine r_iadd (i := 18) rfl ?_
  refine s_int (i := 19) rfl ly7 rfl (by omega) (by omega) ⟨by omega, by omega⟩ ?_
  have hI16 := hI7.seta (b := 7) (j := t.toNat) (z := (S6.a 7 t.toNat) + 1) ta7 rfl (by omega) (by omega)
  have hF18 := hF9.seta (b := 7) (j := t.toNat) (z := (S6.a 7 t.toNat) + 1) rfl
  have hR19 := hR10.seta (b := 7) (j := t.toNat) (z := (S6.a 7 t.toNat) + 1)
  refine yT_gen (fun S15 hS17 => ?_)
  rw [hS17] at hI16 hF18 hR19 
  refine r_const (i := 20) (u := 0) (z := 0) rfl rfl ?_
  refine r_store (i := 21) (u := 3) (w := 0) (L1 := [some ((2, 1)), some (vi t), some (vi f), some (vi 0)]) rfl rfl rfl rfl ?_
  have h20 := hI16.f tf1_7
  have h21 : S15.f 1 7 = S6.f 1 7 := by rw [← hS17]; rfl
  have h22 : S6.f 1 7 = S.f 1 7 := by rw [← hS8]; rfl
  exact lp129_22 h_t h_f p_0 p_1 hd _ S15 hI16 hF18 hR19 0 ⟨by omega, by omega⟩ (by exact ⟨fun j => by subst hS8 hS17; rfl, fun j => by subst hS8 hS17; rfl⟩) (by exact c6F_0 (fun j => by subst hS8 hS17; rfl)) (by omega) (Int.lt_succ_toNat _)
/-- ProxyForge$Methods.hasFlag -/
theorem sp76 {G : xk} {S : yS} {d : Nat} (hI : yI S) {m : Int} (h_m : 0 ≤ m ∧ m ≤ 59) {fl : Int} (h_fl : -2147483648 ≤ fl ∧ fl ≤ 2147483647) (hd : 0 ≤ d) : yT xPr G LY xC76 0 [some ((2, 9)), some (vi m), some (vi fl)] [] S d (fun r S' => ∃ z : Int, r = (1, vi z) ∧ 0 ≤ z ∧ z ≤ 1 ∧ (z = 1 → yand (S.a 12 m.toNat) fl ≠ 0) ∧ (z = 0 → yand (S.a 12 m.toNat) fl = 0) ∧ S = S') := by
  refine yT_pad 0 ?_
  show yT xPr G LY xC76 0 [some ((2, 9)), some (vi m), some (vi fl)] [] S d _
  refine r_load (i := 0) (u := 0) (w := 2) rfl rfl rfl ?_
  refine r_getf (i := 1) (v := 3) (w := 2) (x := (2, 12)) rfl ly9 rfl rfl fun _ => ?_
  refine r_load (i := 2) (u := 1) (w := 0) rfl rfl rfl ?_
  refine a_int (i := 3) rfl ly12 rfl (by omega) (by omega) fun h2 => ?_
  have h3 := hI.a ta12 m.toNat
  refine r_load (i := 4) (u := 2) (w := 0) rfl rfl rfl ?_
  refine r_iand (i := 5) rfl ?_
  have h4 := yand_rg (S.a 12 m.toNat) fl
  refine z_eq (i := 6) (v := 9) rfl ⟨by omega, by omega⟩ (fun h5 => ?_) (fun h6 => ?_)
  · refine r_const (i := 9) (u := 0) (z := 0) rfl rfl ?_
    have h7 := hI.a ta12 m.toNat
    have h8 := hI.a ta12 m.toNat
    exact r_retZ (i := 10) rfl (by omega) (by omega) ⟨0, rfl, by omega, by omega, (by omega), (by omega), rfl⟩
  · refine r_const (i := 7) (u := 1) (z := 1) rfl rfl ?_
    refine r_goto (i := 8) (v := 10) rfl ?_
    have h9 := hI.a ta12 m.toNat
    have h10 := hI.a ta12 m.toNat
    exact r_retZ (i := 10) rfl (by omega) (by omega) ⟨1, rfl, by omega, by omega, (by omega), (by omega), rfl⟩
/-- ProxyForge$Methods.isPackage -/
theorem sp80 {G : xk} {S : yS} {d : Nat} (hI : yI S) {m : Int} (h_m : 0 ≤ m ∧ m ≤ 59) (hd : 0 ≤ d) : yT xPr G LY xC80 0 [some ((2, 9)), some (vi m)] [] S d (fun r S' => ∃ z : Int, r = (1, vi z) ∧ 0 ≤ z ∧ z ≤ 1 ∧ (z = 1 → yand (S.a 12 m.toNat) 7 = 0) ∧ (z = 0 → yand (S.a 12 m.toNat) 7 ≠ 0) ∧ S = S') := by
  refine yT_pad 0 ?_
  show yT xPr G LY xC80 0 [some ((2, 9)), some (vi m)] [] S d _
  refine r_load (i := 0) (u := 0) (w := 2) rfl rfl rfl ?_
  refine r_getf (i := 1) (v := 3) (w := 2) (x := (2, 12)) rfl ly9 rfl rfl fun _ => ?_
  refine r_load (i := 2) (u := 1) (w := 0) rfl rfl rfl ?_
  refine a_int (i := 3) rfl ly12 rfl (by omega) (by omega) fun h2 => ?_
  have h3 := hI.a ta12 m.toNat
  refine r_const (i := 4) (u := 7) (z := 7) rfl rfl ?_
  refine r_iand (i := 5) rfl ?_
  have h4 := @yand_c (S.a 12 m.toNat) 7 (by decide) (by decide)
  refine z_ne (i := 6) (v := 9) rfl ⟨by omega, by omega⟩ (fun h5 => ?_) (fun h6 => ?_)
  · refine r_const (i := 9) (u := 0) (z := 0) rfl rfl ?_
    have h7 := hI.a ta12 m.toNat
    have h8 := hI.a ta12 m.toNat
    exact r_retZ (i := 10) rfl (by omega) (by omega) ⟨0, rfl, by omega, by omega, (by omega), (by omega), rfl⟩
  · refine r_const (i := 7) (u := 1) (z := 1) rfl rfl ?_
    refine r_goto (i := 8) (v := 10) rfl ?_
    have h9 := hI.a ta12 m.toNat
    have h10 := hI.a ta12 m.toNat
    exact r_retZ (i := 10) rfl (by omega) (by omega) ⟨1, rfl, by omega, by omega, (by omega), (by omega), rfl⟩
/-- ProxyForge$Methods.isOpenConstructor -/
theorem sp79 {G : xk} {S : yS} {d : Nat} (hI : yI S) {m : Int} (h_m : 0 ≤ m ∧ m ≤ 59) {t : Int} (h_t : -2147483648 ≤ t ∧ t ≤ 2147483647) (hd : 1 ≤ d) : yT xPr G LY xC79 0 [some ((2, 9)), some (vi m), some (vi t)] [] S d (fun r S' => ∃ z : Int, r = (1, vi z) ∧ 0 ≤ z ∧ z ≤ 1 ∧ (z = 1 → opC S m t) ∧ (z = 0 → ¬ opC S m t) ∧ S = S') := by
  refine yT_pad 0 ?_
  show yT xPr G LY xC79 0 [some ((2, 9)), some (vi m), some (vi t)] [] S d _
  obtain ⟨d, rfl⟩ : ∃ q, d = q + 1 := ⟨d - 1, by omega⟩
  refine r_load (i := 0) (u := 0) (w := 2) rfl rfl rfl ?_
  refine r_getf (i := 1) (v := 1) (w := 2) (x := (2, 10)) rfl ly9 rfl rfl fun _ => ?_
  refine r_load (i := 2) (u := 1) (w := 0) rfl rfl rfl ?_
  refine a_int (i := 3) rfl ly10 rfl (by omega) (by omega) fun h2 => ?_
  have h3 := hI.a ta10 m.toNat
  refine r_load (i := 4) (u := 2) (w := 0) rfl rfl rfl ?_
  refine c_ne (i := 5) (v := 19) rfl ⟨by omega, by omega⟩ ⟨by omega, by omega⟩ (fun h4 => ?_) (fun h5 => ?_)
  · refine r_const (i := 19) (u := 0) (z := 0) rfl rfl ?_
    exact r_retZ (i := 20) rfl (by omega) (by omega) ⟨0, rfl, by omega, by omega, (by unfold opC; omega), (by unfold opC; omega), rfl⟩
  · refine r_load (i := 6) (u := 0) (w := 2) rfl rfl rfl ?_
    refine r_getf (i := 7) (v := 2) (w := 2) (x := (2, 11)) rfl ly9 rfl rfl fun _ => ?_
    refine r_load (i := 8) (u := 1) (w := 0) rfl rfl rfl ?_
    refine a_int (i := 9) rfl ly11 rfl (by omega) (by omega) fun h7 => ?_
    have h8 := hI.a ta11 m.toNat
    refine r_const (i := 10) (u := 10) (z := 10) rfl rfl ?_
    refine c_ne (i := 11) (v := 19) rfl ⟨by omega, by omega⟩ ⟨by omega, by omega⟩ (fun h9 => ?_) (fun h10 => ?_)
    · refine r_const (i := 19) (u := 0) (z := 0) rfl rfl ?_
      exact r_retZ (i := 20) rfl (by omega) (by omega) ⟨0, rfl, by omega, by omega, (by unfold opC; omega), (by unfold opC; omega), rfl⟩
    · refine r_load (i := 12) (u := 0) (w := 2) rfl rfl rfl ?_
      refine r_load (i := 13) (u := 1) (w := 0) rfl rfl rfl ?_
      refine r_const (i := 14) (u := 4) (z := 4) rfl rfl ?_
      have h11 := hI.a ta12 m.toNat
      have h12 := hI.a ta12 m.toNat
      refine r_call (i := 15) (u := 2) (v := 76) (w := 0) (b := 0) (na := 771) (C2 := xC76) (as := [(2, 9), vi m, vi 4]) (s := []) rfl rfl rfl rfl rfl rfl rfl (sp76 (m := m) (fl := 4) hI ⟨by omega, by omega⟩ ⟨by omega, by omega⟩   (by omega)) (fun r13 S14 hq15 => ?_)
      obtain ⟨z16, rfl, h17, h18, h19, h20, rfl⟩ := hq15
      refine Or.inr (Or.inl ⟨rfl, ?_⟩)
      refine z_ne (i := 16) (v := 19) rfl ⟨by omega, by omega⟩ (fun h21 => ?_) (fun h22 => ?_)
      · refine r_const (i := 19) (u := 0) (z := 0) rfl rfl ?_
        exact r_retZ (i := 20) rfl (by omega) (by omega) ⟨0, rfl, by omega, by omega, (by unfold opC; omega), (by unfold opC; omega), rfl⟩
      · refine r_const (i := 17) (u := 1) (z := 1) rfl rfl ?_
        refine r_goto (i := 18) (v := 20) rfl ?_
        exact r_retZ (i := 20) rfl (by omega) (by omega) ⟨1, rfl, by omega, by omega, (by unfold opC; omega), (by unfold opC; omega), rfl⟩
theorem lp77_2 {G : xk} {d : Nat} {S : yS} (hI : yI S) {t : Int} (h_t : -2147483648 ≤ t ∧ t ≤ 2147483647) (hd : 2 ≤ d + 1) : ∀ (n : Nat), ∀ (m : Int) (h_m : 0 ≤ m ∧ m ≤ 60) (q_0 : ocN S m t) (hn : 60 - m < (n : Nat)), yT xPr G LY xC77 2 [some ((2, 9)), some (vi t), some (vi m)] [] S (d + 1) (fun r S' => ∃ z : Int, r = (1, vi z) ∧ 0 ≤ z ∧ z ≤ 1 ∧ (z = 1 → ocY S t) ∧ (z = 0 → ocN S (S.f 9 8) t) ∧ S = S') := by
  intro n
  induction n with
  | zero => intro m h_m q_0 hn; exact absurd hn (by omega)
  | succ n ih =>
    intro m h_m q_0 hn
    refine r_load (i := 2) (u := 2) (w := 0) rfl rfl rfl ?_
    refine r_load (i := 3) (u := 0) (w := 2) rfl rfl rfl ?_
    have h1 := hI.f tf9_8
    refine r_getf (i := 4) (v := 8) (w := 2) (x := vi (S.f 9 8)) rfl ly9 rfl rfl fun h2 => ?_
    have h2 : Rg (S.f 9 8) := h2
    refine c_ge (i := 5) (v := 15) rfl ⟨by omega, by omega⟩ ⟨by omega, by omega⟩ (fun h3 => ?_) (fun h4 => ?_)
    · refine r_const (i := 15) (u := 0) (z := 0) rfl rfl ?_
      exact r_retZ (i := 16) rfl (by omega) (by omega) ⟨0, rfl, by omega, by omega, (by intro hz; first | exact absurd hz (by omega)), (by intro hz; first | exact absurd hz (by omega) | exact fun m9 a9 b9 => q_0 m9 a9 (by omega)), rfl⟩
    · refine r_load (i := 6) (u := 0) (w := 2) rfl rfl rfl ?_
      refine r_load (i := 7) (u := 2) (w := 0) rfl rfl rfl ?_
      refine r_load (i := 8) (u := 1) (w := 0) rfl rfl rfl ?_
      refine r_call (i := 9) (u := 2) (v := 79) (w := 0) (b := 0) (na := 771) (C2 := xC79) (as := [(2, 9), vi m, vi t]) (s := []) rfl rfl rfl rfl rfl rfl rfl (sp79 (m := m) (t := t) hI ⟨by omega, by omega⟩ ⟨by omega, by omega⟩   (by omega)) (fun r5 S6 hq7 => ?_)
      obtain ⟨z8, rfl, h9, h10, yo11, no12, rfl⟩ := hq7
      refine Or.inr (Or.inl ⟨rfl, ?_⟩)
      refine z_eq (i := 10) (v := 13) rfl ⟨by omega, by omega⟩ (fun h13 => ?_) (fun h14 => ?_)
      · refine r_iinc (i := 13) (u := 1) (v := 2) (s := 1) (L1 := [some ((2, 9)), some (vi t), some (vi (m + 1))]) rfl rfl rfl rfl rfl ?_
        refine r_goto (i := 14) (v := 2) rfl ?_
        exact ih (m + 1) ⟨by omega, by omega⟩ (by exact ocN_s q_0 (no12 (by omega))) (by omega)
      · refine r_const (i := 11) (u := 1) (z := 1) rfl rfl ?_
        exact r_retZ (i := 12) rfl (by omega) (by omega) ⟨1, rfl, by omega, by omega, (by intro hz; first | exact absurd hz (by omega) | exact ⟨m, by omega, by omega, yo11 (by omega)⟩), (by intro hz; first | exact absurd hz (by omega) | exact fun m9 a9 b9 => q_0 m9 a9 (by omega)), rfl⟩
/-- ProxyForge$Methods.hasOpenConstructor -/
theorem sp77 {G : xk} {S : yS} {d : Nat} (hI : yI S) {t : Int} (h_t : -2147483648 ≤ t ∧ t ≤ 2147483647) (hd : 2 ≤ d) : yT xPr G LY xC77 0 [some ((2, 9)), some (vi t)] [] S d (fun r S' => ∃ z : Int, r = (1, vi z) ∧ 0 ≤ z ∧ z ≤ 1 ∧ (z = 1 → ocY S t) ∧ (z = 0 → ocN S (S.f 9 8) t) ∧ S = S') := by
  refine yT_pad 1 ?_
  show yT xPr G LY xC77 0 [some ((2, 9)), some (vi t), none] [] S d _
  obtain ⟨d, rfl⟩ : ∃ q, d = q + 1 := ⟨d - 1, by omega⟩
  refine r_const (i := 0) (u := 0) (z := 0) rfl rfl ?_
  refine r_store (i := 1) (u := 2) (w := 0) (L1 := [some ((2, 9)), some (vi t), some (vi 0)]) rfl rfl rfl rfl ?_
  exact lp77_2 hI h_t   hd _ 0 ⟨by omega, by omega⟩ (by exact ocN_0) (Int.lt_succ_toNat _)
/-- ProxyForge$Methods.isSame -/
theorem sp81 {G : xk} {S : yS} {d : Nat} (hI : yI S) {m : Int} (h_m : 0 ≤ m ∧ m ≤ 59) {w0 : Int} (h_w0 : -2147483648 ≤ w0 ∧ w0 ≤ 2147483647) {p : Int} (h_p : -2147483648 ≤ p ∧ p ≤ 2147483647) {b : Int} (h_b : -2147483648 ≤ b ∧ b ≤ 2147483647) (hd : 0 ≤ d) : yT xPr G LY xC81 0 [some ((2, 9)), some (vi m), some (vi w0), some (vi p), some (vi b)] [] S d (fun r S' => ∃ z : Int, r = (1, vi z) ∧ 0 ≤ z ∧ z ≤ 1 ∧ (z = 0 → S.a 11 m.toNat ≠ w0 ∨ S.a 13 m.toNat ≠ p ∨ S.a 14 m.toNat ≠ b) ∧ (z = 1 → S.a 11 m.toNat = w0 ∧ S.a 13 m.toNat = p ∧ S.a 14 m.toNat = b) ∧ S = S') := by
  refine yT_pad 0 ?_
  show yT xPr G LY xC81 0 [some ((2, 9)), some (vi m), some (vi w0), some (vi p), some (vi b)] [] S d _
  refine r_load (i := 0) (u := 0) (w := 2) rfl rfl rfl ?_
  refine r_getf (i := 1) (v := 2) (w := 2) (x := (2, 11)) rfl ly9 rfl rfl fun _ => ?_
  refine r_load (i := 2) (u := 1) (w := 0) rfl rfl rfl ?_
  refine a_int (i := 3) rfl ly11 rfl (by omega) (by omega) fun h2 => ?_
  have h3 := hI.a ta11 m.toNat
  refine r_load (i := 4) (u := 2) (w := 0) rfl rfl rfl ?_
  refine c_ne (i := 5) (v := 20) rfl ⟨by omega, by omega⟩ ⟨by omega, by omega⟩ (fun h4 => ?_) (fun h5 => ?_)
  · refine r_const (i := 20) (u := 0) (z := 0) rfl rfl ?_
    have h6 := hI.a ta11 m.toNat
    have h7 := hI.a ta14 m.toNat
    have h8 := hI.a ta11 m.toNat
    have h9 := hI.a ta14 m.toNat
    exact r_retZ (i := 21) rfl (by omega) (by omega) ⟨0, rfl, by omega, by omega, (by omega), (by omega), rfl⟩
  · refine r_load (i := 6) (u := 0) (w := 2) rfl rfl rfl ?_
    refine r_getf (i := 7) (v := 4) (w := 2) (x := (2, 13)) rfl ly9 rfl rfl fun _ => ?_
    refine r_load (i := 8) (u := 1) (w := 0) rfl rfl rfl ?_
    refine a_int (i := 9) rfl ly13 rfl (by omega) (by omega) fun h11 => ?_
    have kp12 := hI.k13 m.toNat
    refine r_load (i := 10) (u := 3) (w := 0) rfl rfl rfl ?_
    refine c_ne (i := 11) (v := 20) rfl ⟨by omega, by omega⟩ ⟨by omega, by omega⟩ (fun h13 => ?_) (fun h14 => ?_)
    · refine r_const (i := 20) (u := 0) (z := 0) rfl rfl ?_
      have h15 := hI.a ta11 m.toNat
      have h16 := hI.a ta14 m.toNat
      have h17 := hI.a ta11 m.toNat
      have h18 := hI.a ta14 m.toNat
      exact r_retZ (i := 21) rfl (by omega) (by omega) ⟨0, rfl, by omega, by omega, (by omega), (by omega), rfl⟩
    · refine r_load (i := 12) (u := 0) (w := 2) rfl rfl rfl ?_
      refine r_getf (i := 13) (v := 5) (w := 2) (x := (2, 14)) rfl ly9 rfl rfl fun _ => ?_
      refine r_load (i := 14) (u := 1) (w := 0) rfl rfl rfl ?_
      refine a_int (i := 15) rfl ly14 rfl (by omega) (by omega) fun h20 => ?_
      have h21 := hI.a ta14 m.toNat
      refine r_load (i := 16) (u := 4) (w := 0) rfl rfl rfl ?_
      refine c_ne (i := 17) (v := 20) rfl ⟨by omega, by omega⟩ ⟨by omega, by omega⟩ (fun h22 => ?_) (fun h23 => ?_)
      · refine r_const (i := 20) (u := 0) (z := 0) rfl rfl ?_
        have h24 := hI.a ta11 m.toNat
        have h25 := hI.a ta14 m.toNat
        have h26 := hI.a ta11 m.toNat
        have h27 := hI.a ta14 m.toNat
        exact r_retZ (i := 21) rfl (by omega) (by omega) ⟨0, rfl, by omega, by omega, (by omega), (by omega), rfl⟩
      · refine r_const (i := 18) (u := 1) (z := 1) rfl rfl ?_
        refine r_goto (i := 19) (v := 21) rfl ?_
        have h28 := hI.a ta11 m.toNat
        have h29 := hI.a ta14 m.toNat
        have h30 := hI.a ta11 m.toNat
        have h31 := hI.a ta14 m.toNat
        exact r_retZ (i := 21) rfl (by omega) (by omega) ⟨1, rfl, by omega, by omega, (by omega), (by omega), rfl⟩
/-- ProxyForge$Methods.isKind -/
theorem sp78 {G : xk} {S : yS} {d : Nat} (hI : yI S) {k : Int} (h_k : -2147483648 ≤ k ∧ k ≤ 2147483647) (hd : 1 ≤ d) : yT xPr G LY xC78 0 [some ((2, 9)), some (vi k)] [] S d (fun r S' => ∃ z : Int, r = (1, vi z) ∧ 0 ≤ z ∧ z ≤ 1 ∧ (z = 1 → 1 ≤ k ∧ k < 4 + S.f 1 7) ∧ (z = 0 → k < 1 ∨ 4 + S.f 1 7 ≤ k) ∧ S = S') := by
  refine yT_pad 0 ?_
  show yT xPr G LY xC78 0 [some ((2, 9)), some (vi k)] [] S d _
  obtain ⟨d, rfl⟩ : ∃ q, d = q + 1 := ⟨d - 1, by omega⟩
  refine r_load (i := 0) (u := 1) (w := 0) rfl rfl rfl ?_
  refine r_const (i := 1) (u := 1) (z := 1) rfl rfl ?_
  refine c_lt (i := 2) (v := 16) rfl ⟨by omega, by omega⟩ ⟨by omega, by omega⟩ (fun h1 => ?_) (fun h2 => ?_)
  · refine r_const (i := 16) (u := 0) (z := 0) rfl rfl ?_
    have h3 := hI.f tf1_7
    exact r_retZ (i := 17) rfl (by omega) (by omega) ⟨0, rfl, by omega, by omega, (by omega), (by omega), rfl⟩
  · refine r_load (i := 3) (u := 1) (w := 0) rfl rfl rfl ?_
    refine r_const (i := 4) (u := 4) (z := 4) rfl rfl ?_
    refine c_lt (i := 5) (v := 14) rfl ⟨by omega, by omega⟩ ⟨by omega, by omega⟩ (fun h4 => ?_) (fun h5 => ?_)
    · refine r_const (i := 14) (u := 1) (z := 1) rfl rfl ?_
      refine r_goto (i := 15) (v := 17) rfl ?_
      have h6 := hI.f tf1_7
      exact r_retZ (i := 17) rfl (by omega) (by omega) ⟨1, rfl, by omega, by omega, (by omega), (by omega), rfl⟩
    · refine r_load (i := 6) (u := 0) (w := 2) rfl rfl rfl ?_
      refine r_getf (i := 7) (v := 0) (w := 2) (x := (2, 1)) rfl ly9 rfl rfl fun _ => ?_
      refine r_load (i := 8) (u := 1) (w := 0) rfl rfl rfl ?_
      refine r_const (i := 9) (u := 4) (z := 4) rfl rfl ?_
      refine r_isub (i := 10) rfl ?_
      refine r_i2l (i := 11) rfl ⟨by omega, by omega⟩ ?_
      have h8 := hI.f tf1_7
      refine r_call (i := 12) (u := 1) (v := 131) (w := 0) (b := 0) (na := 770) (C2 := xC131) (as := [(2, 1), vl (k - 4)]) (s := []) rfl rfl rfl rfl rfl rfl rfl (sp131 (t := k - 4) hI ⟨by omega, by omega⟩   (by omega)) (fun r9 S10 hq11 => ?_)
      obtain ⟨z12, rfl, h13, h14, h15, h16, rfl⟩ := hq11
      refine Or.inr (Or.inl ⟨rfl, ?_⟩)
      refine z_eq (i := 13) (v := 16) rfl ⟨by omega, by omega⟩ (fun h17 => ?_) (fun h18 => ?_)
      · refine r_const (i := 16) (u := 0) (z := 0) rfl rfl ?_
        exact r_retZ (i := 17) rfl (by omega) (by omega) ⟨0, rfl, by omega, by omega, (by omega), (by omega), rfl⟩
      · refine r_const (i := 14) (u := 1) (z := 1) rfl rfl ?_
        refine r_goto (i := 15) (v := 17) rfl ?_
        exact r_retZ (i := 17) rfl (by omega) (by omega) ⟨1, rfl, by omega, by omega, (by omega), (by omega), rfl⟩
theorem lp75_5 {G : xk} {d : Nat} {S : yS} (hI : yI S) {p : Int} (h_p : -2147483648 ≤ p ∧ p ≤ 2147483647) (hd : 2 ≤ d + 1) : ∀ (n : Nat), ∀ (n1 k : Int) (h_n1 : 0 ≤ n1 ∧ n1 ≤ 4) (h_k : 0 ≤ k ∧ k ≤ 4) (q_0 : (1 ≤ k → yand (yshr p (5 * 0)) 31 ≤ 23) ∧ (2 ≤ k → yand (yshr p (5 * 1)) 31 ≤ 23) ∧ (3 ≤ k → yand (yshr p (5 * 2)) 31 ≤ 23) ∧ (4 ≤ k → yand (yshr p (5 * 3)) 31 ≤ 23)) (q_1 : k ≤ n1) (q_2 : hMn p n1) (q_3 : ∀ i : Int, 0 ≤ i → i < k → kdC (S.f 1 7) (dg p i)) (hn : 4 - k < (n : Nat)), yT xPr G LY xC75 5 [some ((2, 9)), some (vi p), some (vi n1), some (vi k)] [] S (d + 1) (fun r S' => ∃ z : Int, r = (1, vi z) ∧ 0 ≤ z ∧ z ≤ 1 ∧ (z = 1 → KP p) ∧ (z = 1 → pkC (S.f 1 7) p) ∧ (z = 0 → ¬ pkC (S.f 1 7) p) ∧ S = S') := by
  intro n
  induction n with
  | zero => intro n1 k h_n1 h_k q_0 q_1 q_2 q_3 hn; exact absurd hn (by omega)
  | succ n ih =>
    intro n1 k h_n1 h_k q_0 q_1 q_2 q_3 hn
    have h1 := hI.f tf1_7
    refine r_load (i := 5) (u := 3) (w := 0) rfl rfl rfl ?_
    refine r_load (i := 6) (u := 2) (w := 0) rfl rfl rfl ?_
    refine c_ge (i := 7) (v := 18) rfl ⟨by omega, by omega⟩ ⟨by omega, by omega⟩ (fun h2 => ?_) (fun h3 => ?_)
    · refine r_load (i := 18) (u := 1) (w := 0) rfl rfl rfl ?_
      refine r_load (i := 19) (u := 2) (w := 0) rfl rfl rfl ?_
      refine r_call (i := 20) (u := 65535) (v := 63) (w := 0) (b := 2) (na := 514) (C2 := xC63) (as := [vi p, vi n1]) (s := []) rfl rfl rfl rfl rfl rfl rfl (sp63 (p := p) (k := n1) hI ⟨by omega, by omega⟩ ⟨by omega, by omega⟩   (by omega)) (fun r4 S5 hq6 => ?_)
      obtain ⟨z7, rfl, h8, h9, h10, rfl⟩ := hq6
      refine Or.inr (Or.inl ⟨rfl, ?_⟩)
      refine z_ne (i := 21) (v := 24) rfl ⟨by omega, by omega⟩ (fun h11 => ?_) (fun h12 => ?_)
      · refine r_const (i := 24) (u := 0) (z := 0) rfl rfl ?_
        exact r_retZ (i := 25) rfl (by omega) (by omega) ⟨0, rfl, by omega, by omega, (by intro hz; first | exact absurd hz (by omega) | exact KP_ab (n := n1) (by omega) (by omega) (by omega) (by omega) (by omega) (by omega) (by omega)), (by intro hz; first | exact absurd hz (by omega) | exact pk_y (n := n1) h_p (by omega) (by omega) (fun i i0 i1 => q_3 i i0 (by omega)) (by omega)), (by intro hz; first | exact absurd hz (by omega) | exact pk_nk (k := k) q_2 (by omega) (by omega) (by omega) (by omega) (by unfold kdC dg; omega) | exact pk_na q_2 (by omega) (by omega) (by omega)), rfl⟩
      · refine r_const (i := 22) (u := 1) (z := 1) rfl rfl ?_
        refine r_goto (i := 23) (v := 25) rfl ?_
        exact r_retZ (i := 25) rfl (by omega) (by omega) ⟨1, rfl, by omega, by omega, (by intro hz; first | exact absurd hz (by omega) | exact KP_ab (n := n1) (by omega) (by omega) (by omega) (by omega) (by omega) (by omega) (by omega)), (by intro hz; first | exact absurd hz (by omega) | exact pk_y (n := n1) h_p (by omega) (by omega) (fun i i0 i1 => q_3 i i0 (by omega)) (by omega)), (by intro hz; first | exact absurd hz (by omega) | exact pk_nk (k := k) q_2 (by omega) (by omega) (by omega) (by omega) (by unfold kdC dg; omega) | exact pk_na q_2 (by omega) (by omega) (by omega)), rfl⟩
    · refine r_load (i := 8) (u := 0) (w := 2) rfl rfl rfl ?_
      refine r_load (i := 9) (u := 1) (w := 0) rfl rfl rfl ?_
      refine r_load (i := 10) (u := 3) (w := 0) rfl rfl rfl ?_
      refine r_call (i := 11) (u := 65535) (v := 66) (w := 0) (b := 2) (na := 514) (C2 := xC66) (as := [vi p, vi k]) (s := [(2, 9)]) rfl rfl rfl rfl rfl rfl rfl (sp66 (p := p) (k := k) hI ⟨by omega, by omega⟩ ⟨by omega, by omega⟩   (by omega)) (fun r13 S14 hq15 => ?_)
      obtain ⟨z16, rfl, h17, h18, h19, rfl⟩ := hq15
      refine Or.inr (Or.inl ⟨rfl, ?_⟩)
      refine r_call (i := 12) (u := 2) (v := 78) (w := 0) (b := 0) (na := 514) (C2 := xC78) (as := [(2, 9), vi z16]) (s := []) rfl rfl rfl rfl rfl rfl rfl (sp78 (k := z16) hI ⟨by omega, by omega⟩   (by omega)) (fun r20 S21 hq22 => ?_)
      obtain ⟨z23, rfl, h24, h25, h26, h27, rfl⟩ := hq22
      refine Or.inr (Or.inl ⟨rfl, ?_⟩)
      refine z_ne (i := 13) (v := 16) rfl ⟨by omega, by omega⟩ (fun h28 => ?_) (fun h29 => ?_)
      · refine r_iinc (i := 16) (u := 1) (v := 3) (s := 1) (L1 := [some ((2, 9)), some (vi p), some (vi n1), some (vi (k + 1))]) rfl rfl rfl rfl rfl ?_
        refine r_goto (i := 17) (v := 5) rfl ?_
        exact ih n1 (k + 1) ⟨by omega, by omega⟩ ⟨by omega, by omega⟩ (by first | omega | (rcases (show k = 0 ∨ k = 1 ∨ k = 2 ∨ k = 3 by omega) with rfl | rfl | rfl | rfl <;> omega)) (by omega) (by exact q_2) (by exact kd_s q_3 (by unfold kdC dg; omega)) (by omega)
      · refine r_const (i := 14) (u := 0) (z := 0) rfl rfl ?_
        exact r_retZ (i := 15) rfl (by omega) (by omega) ⟨0, rfl, by omega, by omega, (by intro hz; first | exact absurd hz (by omega) | exact KP_ab (n := n1) (by omega) (by omega) (by omega) (by omega) (by omega) (by omega) (by omega)), (by intro hz; first | exact absurd hz (by omega) | exact pk_y (n := n1) h_p (by omega) (by omega) (fun i i0 i1 => q_3 i i0 (by omega)) (by omega)), (by intro hz; first | exact absurd hz (by omega) | exact pk_nk (k := k) q_2 (by omega) (by omega) (by omega) (by omega) (by unfold kdC dg; omega) | exact pk_na q_2 (by omega) (by omega) (by omega)), rfl⟩
/-- ProxyForge$Methods.areParameters -/
theorem sp75 {G : xk} {S : yS} {d : Nat} (hI : yI S) {p : Int} (h_p : -2147483648 ≤ p ∧ p ≤ 2147483647) (hd : 2 ≤ d) : yT xPr G LY xC75 0 [some ((2, 9)), some (vi p)] [] S d (fun r S' => ∃ z : Int, r = (1, vi z) ∧ 0 ≤ z ∧ z ≤ 1 ∧ (z = 1 → KP p) ∧ (z = 1 → pkC (S.f 1 7) p) ∧ (z = 0 → ¬ pkC (S.f 1 7) p) ∧ S = S') := by
  refine yT_pad 2 ?_
  show yT xPr G LY xC75 0 [some ((2, 9)), some (vi p), none, none] [] S d _
  obtain ⟨d, rfl⟩ : ∃ q, d = q + 1 := ⟨d - 1, by omega⟩
  refine r_load (i := 0) (u := 1) (w := 0) rfl rfl rfl ?_
  refine r_call (i := 1) (u := 65535) (v := 67) (w := 0) (b := 2) (na := 513) (C2 := xC67) (as := [vi p]) (s := []) rfl rfl rfl rfl rfl rfl rfl (sp67 (p := p) hI ⟨by omega, by omega⟩   (by omega)) (fun r1 S2 hq3 => ?_)
  obtain ⟨z4, rfl, h5, h6, hmn7, rfl⟩ := hq3
  refine Or.inr (Or.inl ⟨rfl, ?_⟩)
  refine r_store (i := 2) (u := 2) (w := 0) (L1 := [some ((2, 9)), some (vi p), some (vi z4), none]) rfl rfl rfl rfl ?_
  refine r_const (i := 3) (u := 0) (z := 0) rfl rfl ?_
  refine r_store (i := 4) (u := 3) (w := 0) (L1 := [some ((2, 9)), some (vi p), some (vi z4), some (vi 0)]) rfl rfl rfl rfl ?_
  have h8 := hI.f tf1_7
  exact lp75_5 hI h_p   hd _ z4 0 ⟨by omega, by omega⟩ ⟨by omega, by omega⟩ (by first | omega | (rcases (show k = 0 ∨ k = 1 ∨ k = 2 ∨ k = 3 by omega) with rfl | rfl | rfl | rfl <;> omega)) (by omega) (by exact hmn7) (by exact kd_0) (Int.lt_succ_toNat _)
/-- ProxyForge$Methods.mayHaveFlags -/
theorem sp84 {G : xk} {S : yS} {d : Nat} (hI : yI S) {t : Int} (h_t : 0 ≤ t ∧ t ≤ 19) {fl : Int} (h_fl : -2147483648 ≤ fl ∧ fl ≤ 2147483647) (hd : 1 ≤ d) : yT xPr G LY xC84 0 [some ((2, 9)), some (vi t), some (vi fl)] [] S d (fun r S' => ∃ z : Int, r = (1, vi z) ∧ 0 ≤ z ∧ z ≤ 1 ∧ (z = 1 → 0 ≤ fl ∧ fl ≤ 63) ∧ (z = 1 → flC S t fl) ∧ (z = 0 → ¬ flC S t fl) ∧ S = S') := by
  refine yT_pad 0 ?_
  show yT xPr G LY xC84 0 [some ((2, 9)), some (vi t), some (vi fl)] [] S d _
  obtain ⟨d, rfl⟩ : ∃ q, d = q + 1 := ⟨d - 1, by omega⟩
  refine r_load (i := 0) (u := 2) (w := 0) rfl rfl rfl ?_
  refine z_lt (i := 1) (v := 11) rfl ⟨by omega, by omega⟩ (fun h1 => ?_) (fun h2 => ?_)
  · refine r_const (i := 11) (u := 0) (z := 0) rfl rfl ?_
    exact r_retZ (i := 12) rfl (by omega) (by omega) ⟨0, rfl, by omega, by omega, (by omega), (by intro hz; first | exact absurd hz (by omega) | (unfold flC; omega)), (by intro hz; first | exact absurd hz (by omega) | (unfold flC; omega)), rfl⟩
  · refine r_load (i := 2) (u := 2) (w := 0) rfl rfl rfl ?_
    refine r_const (i := 3) (u := 63) (z := 63) rfl rfl ?_
    refine c_gt (i := 4) (v := 11) rfl ⟨by omega, by omega⟩ ⟨by omega, by omega⟩ (fun h3 => ?_) (fun h4 => ?_)
    · refine r_const (i := 11) (u := 0) (z := 0) rfl rfl ?_
      exact r_retZ (i := 12) rfl (by omega) (by omega) ⟨0, rfl, by omega, by omega, (by omega), (by intro hz; first | exact absurd hz (by omega) | (unfold flC; omega)), (by intro hz; first | exact absurd hz (by omega) | (unfold flC; omega)), rfl⟩
    · refine r_load (i := 5) (u := 2) (w := 0) rfl rfl rfl ?_
      refine r_const (i := 6) (u := 7) (z := 7) rfl rfl ?_
      refine r_iand (i := 7) rfl ?_
      have h5 := @yand_c fl 7 (by decide) (by decide)
      refine r_call (i := 8) (u := 65535) (v := 267) (w := 0) (b := 2) (na := 257) (C2 := xC267) (as := [vi (yand fl 7)]) (s := []) rfl rfl rfl rfl rfl rfl rfl (sp267 (x := yand fl 7)  ⟨by omega, by omega⟩   (by omega)) (fun r6 S7 hq8 => ?_)
      obtain ⟨z9, rfl, h10, h11, h12, rfl⟩ := hq8
      refine Or.inr (Or.inl ⟨rfl, ?_⟩)
      have bc9 := bcI_7 (x := yand fl 7) (by omega) (by omega)
      refine r_const (i := 9) (u := 1) (z := 1) rfl rfl ?_
      refine c_le (i := 10) (v := 13) rfl ⟨by omega, by omega⟩ ⟨by omega, by omega⟩ (fun h13 => ?_) (fun h14 => ?_)
      · refine r_load (i := 13) (u := 0) (w := 2) rfl rfl rfl ?_
        refine r_getf (i := 14) (v := 0) (w := 2) (x := (2, 1)) rfl ly9 rfl rfl fun _ => ?_
        refine r_getf (i := 15) (v := 0) (w := 1) (x := (2, 2)) rfl ly1 rfl rfl fun _ => ?_
        refine r_load (i := 16) (u := 1) (w := 0) rfl rfl rfl ?_
        refine a_bool (i := 17) rfl ly2 rfl (by omega) (by omega) fun h17 => ?_
        refine z_eq (i := 18) (v := 28) rfl ⟨by omega, by omega⟩ (fun h18 => ?_) (fun h19 => ?_)
        · refine r_load (i := 28) (u := 2) (w := 0) rfl rfl rfl ?_
          refine r_const (i := 29) (u := 32) (z := 32) rfl rfl ?_
          refine r_iand (i := 30) rfl ?_
          have h20 := @yand_c fl 32 (by decide) (by decide)
          refine z_ne (i := 31) (v := 34) rfl ⟨by omega, by omega⟩ (fun h21 => ?_) (fun h22 => ?_)
          · refine r_load (i := 34) (u := 0) (w := 2) rfl rfl rfl ?_
            refine r_getf (i := 35) (v := 0) (w := 2) (x := (2, 1)) rfl ly9 rfl rfl fun _ => ?_
            refine r_load (i := 36) (u := 1) (w := 0) rfl rfl rfl ?_
            have h24 := hI.a ta3 t.toNat
            have h25 := hI.a ta3 t.toNat
            refine r_call (i := 37) (u := 1) (v := 132) (w := 0) (b := 0) (na := 514) (C2 := xC132) (as := [(2, 1), vi t]) (s := []) rfl rfl rfl rfl rfl rfl rfl (sp132 (t := t) hI ⟨by omega, by omega⟩   (by omega)) (fun r26 S27 hq28 => ?_)
            obtain ⟨z29, rfl, h30, h31, h32, h33, rfl⟩ := hq28
            refine Or.inr (Or.inl ⟨rfl, ?_⟩)
            refine z_eq (i := 38) (v := 45) rfl ⟨by omega, by omega⟩ (fun h34 => ?_) (fun h35 => ?_)
            · refine r_const (i := 45) (u := 0) (z := 0) rfl rfl ?_
              exact r_retZ (i := 46) rfl (by omega) (by omega) ⟨0, rfl, by omega, by omega, (by omega), (by intro hz; first | exact absurd hz (by omega) | (unfold flC; omega)), (by intro hz; first | exact absurd hz (by omega) | (unfold flC; omega)), rfl⟩
            · refine r_load (i := 39) (u := 2) (w := 0) rfl rfl rfl ?_
              refine r_const (i := 40) (u := 28) (z := 28) rfl rfl ?_
              refine r_iand (i := 41) rfl ?_
              have h36 := @yand_c fl 28 (by decide) (by decide)
              refine z_ne (i := 42) (v := 45) rfl ⟨by omega, by omega⟩ (fun h37 => ?_) (fun h38 => ?_)
              · refine r_const (i := 45) (u := 0) (z := 0) rfl rfl ?_
                exact r_retZ (i := 46) rfl (by omega) (by omega) ⟨0, rfl, by omega, by omega, (by omega), (by intro hz; first | exact absurd hz (by omega) | (unfold flC; omega)), (by intro hz; first | exact absurd hz (by omega) | (unfold flC; omega)), rfl⟩
              · refine r_const (i := 43) (u := 1) (z := 1) rfl rfl ?_
                refine r_goto (i := 44) (v := 46) rfl ?_
                exact r_retZ (i := 46) rfl (by omega) (by omega) ⟨1, rfl, by omega, by omega, (by omega), (by intro hz; first | exact absurd hz (by omega) | (unfold flC; omega)), (by intro hz; first | exact absurd hz (by omega) | (unfold flC; omega)), rfl⟩
          · refine r_const (i := 32) (u := 1) (z := 1) rfl rfl ?_
            exact r_retZ (i := 33) rfl (by omega) (by omega) ⟨1, rfl, by omega, by omega, (by omega), (by intro hz; first | exact absurd hz (by omega) | (unfold flC; omega)), (by intro hz; first | exact absurd hz (by omega) | (unfold flC; omega)), rfl⟩
        · refine r_load (i := 19) (u := 2) (w := 0) rfl rfl rfl ?_
          refine r_const (i := 20) (u := 4294967263) (z := -33) rfl rfl ?_
          refine r_iand (i := 21) rfl ?_
          have h39 := yand_rg fl (-33)
          refine r_const (i := 22) (u := 1) (z := 1) rfl rfl ?_
          refine c_ne (i := 23) (v := 26) rfl ⟨by omega, by omega⟩ ⟨by omega, by omega⟩ (fun h40 => ?_) (fun h41 => ?_)
          · refine r_const (i := 26) (u := 0) (z := 0) rfl rfl ?_
            exact r_retZ (i := 27) rfl (by omega) (by omega) ⟨0, rfl, by omega, by omega, (by omega), (by intro hz; first | exact absurd hz (by omega) | (unfold flC; omega)), (by intro hz; first | exact absurd hz (by omega) | (unfold flC; omega)), rfl⟩
          · refine r_const (i := 24) (u := 1) (z := 1) rfl rfl ?_
            refine r_goto (i := 25) (v := 27) rfl ?_
            exact r_retZ (i := 27) rfl (by omega) (by omega) ⟨1, rfl, by omega, by omega, (by omega), (by intro hz; first | exact absurd hz (by omega) | (unfold flC; omega)), (by intro hz; first | exact absurd hz (by omega) | (unfold flC; omega)), rfl⟩
      · refine r_const (i := 11) (u := 0) (z := 0) rfl rfl ?_
        exact r_retZ (i := 12) rfl (by omega) (by omega) ⟨0, rfl, by omega, by omega, (by omega), (by intro hz; first | exact absurd hz (by omega) | (unfold flC; omega)), (by intro hz; first | exact absurd hz (by omega) | (unfold flC; omega)), rfl⟩
/-- ProxyForge$Methods.mayConstruct -/
theorem sp83 {G : xk} {S : yS} {d : Nat} (hI : yI S) {t : Int} (h_t : 0 ≤ t ∧ t ≤ 19) {fl : Int} (h_fl : -2147483648 ≤ fl ∧ fl ≤ 2147483647) {b : Int} (h_b : -2147483648 ≤ b ∧ b ≤ 2147483647) (hd : 0 ≤ d) : yT xPr G LY xC83 0 [some ((2, 9)), some (vi t), some (vi fl), some (vi b)] [] S d (fun r S' => ∃ z : Int, r = (1, vi z) ∧ 0 ≤ z ∧ z ≤ 1 ∧ (z = 1 → S.a 2 t.toNat = 0 ∧ yand fl (-8) = 0 ∧ b = 0) ∧ (z = 0 → ¬ (S.a 2 t.toNat = 0 ∧ yand fl (-8) = 0 ∧ b = 0)) ∧ S = S') := by
  refine yT_pad 0 ?_
  show yT xPr G LY xC83 0 [some ((2, 9)), some (vi t), some (vi fl), some (vi b)] [] S d _
  refine r_load (i := 0) (u := 0) (w := 2) rfl rfl rfl ?_
  refine r_getf (i := 1) (v := 0) (w := 2) (x := (2, 1)) rfl ly9 rfl rfl fun _ => ?_
  refine r_getf (i := 2) (v := 0) (w := 1) (x := (2, 2)) rfl ly1 rfl rfl fun _ => ?_
  refine r_load (i := 3) (u := 1) (w := 0) rfl rfl rfl ?_
  refine a_bool (i := 4) rfl ly2 rfl (by omega) (by omega) fun h3 => ?_
  refine z_ne (i := 5) (v := 14) rfl ⟨by omega, by omega⟩ (fun h4 => ?_) (fun h5 => ?_)
  · refine r_const (i := 14) (u := 0) (z := 0) rfl rfl ?_
    exact r_retZ (i := 15) rfl (by omega) (by omega) ⟨0, rfl, by omega, by omega, (by omega), (by omega), rfl⟩
  · refine r_load (i := 6) (u := 2) (w := 0) rfl rfl rfl ?_
    refine r_const (i := 7) (u := 4294967288) (z := -8) rfl rfl ?_
    refine r_iand (i := 8) rfl ?_
    have h6 := yand_rg fl (-8)
    refine z_ne (i := 9) (v := 14) rfl ⟨by omega, by omega⟩ (fun h7 => ?_) (fun h8 => ?_)
    · refine r_const (i := 14) (u := 0) (z := 0) rfl rfl ?_
      exact r_retZ (i := 15) rfl (by omega) (by omega) ⟨0, rfl, by omega, by omega, (by omega), (by omega), rfl⟩
    · refine r_load (i := 10) (u := 3) (w := 0) rfl rfl rfl ?_
      refine z_ne (i := 11) (v := 14) rfl ⟨by omega, by omega⟩ (fun h9 => ?_) (fun h10 => ?_)
      · refine r_const (i := 14) (u := 0) (z := 0) rfl rfl ?_
        exact r_retZ (i := 15) rfl (by omega) (by omega) ⟨0, rfl, by omega, by omega, (by omega), (by omega), rfl⟩
      · refine r_const (i := 12) (u := 1) (z := 1) rfl rfl ?_
        refine r_goto (i := 13) (v := 15) rfl ?_
        exact r_retZ (i := 15) rfl (by omega) (by omega) ⟨1, rfl, by omega, by omega, (by omega), (by omega), rfl⟩
theorem lp82_44 {G : xk} {d : Nat} {S : yS} (hI : yI S) {t : Int} (h_t : -2147483648 ≤ t ∧ t ≤ 2147483647) {w0 : Int} (h_w0 : -2147483648 ≤ w0 ∧ w0 ≤ 2147483647) {fl : Int} (h_fl : -2147483648 ≤ fl ∧ fl ≤ 2147483647) {p : Int} (h_p : -2147483648 ≤ p ∧ p ≤ 2147483647) {b : Int} (h_b : -2147483648 ≤ b ∧ b ≤ 2147483647) (hd : 3 ≤ d + 1) : ∀ (n : Nat), ∀ (m : Int) (h_m : 0 ≤ m ∧ m ≤ 60) (q_0 : 4 ≤ t ∧ t < S.f 1 7) (q_1 : 0 ≤ w0 ∧ w0 ≤ 10) (q_2 : 0 ≤ fl ∧ fl ≤ 63) (q_3 : KP p) (q_4 : 0 ≤ b ∧ b ≤ 23) (q_5 : flC S t fl) (q_6 : pkC (S.f 1 7) p) (q_7 : b = 0 ∨ kdC (S.f 1 7) b) (q_8 : w0 = 10 → S.a 2 t.toNat = 0 ∧ yand fl (-8) = 0 ∧ b = 0) (q_9 : nsC S m t w0 p b) (hn : 60 - m < (n : Nat)), yT xPr G LY xC82 44 [some ((2, 9)), some (vi t), some (vi w0), some (vi fl), some (vi p), some (vi b), some (vi m)] [] S (d + 1) (fun r S' => ∃ z : Int, r = (1, vi z) ∧ 0 ≤ z ∧ z ≤ 1 ∧ (z = 1 → 4 ≤ t ∧ t < S.f 1 7) ∧ (z = 1 → 0 ≤ w0 ∧ w0 ≤ 10) ∧ (z = 1 → 0 ≤ fl ∧ fl ≤ 63) ∧ (z = 1 → KP p) ∧ (z = 1 → 0 ≤ b ∧ b ≤ 23) ∧ (z = 1 → mbC S t w0 fl p b) ∧ (z = 0 → ¬ mbC S t w0 fl p b) ∧ S = S') := by
  intro n
  induction n with
  | zero => intro m h_m q_0 q_1 q_2 q_3 q_4 q_5 q_6 q_7 q_8 q_9 hn; exact absurd hn (by omega)
  | succ n ih =>
    intro m h_m q_0 q_1 q_2 q_3 q_4 q_5 q_6 q_7 q_8 q_9 hn
    have h1 := hI.f tf1_7
    refine r_load (i := 44) (u := 6) (w := 0) rfl rfl rfl ?_
    refine r_load (i := 45) (u := 0) (w := 2) rfl rfl rfl ?_
    have h2 := hI.f tf9_8
    refine r_getf (i := 46) (v := 8) (w := 2) (x := vi (S.f 9 8)) rfl ly9 rfl rfl fun h3 => ?_
    have h3 : Rg (S.f 9 8) := h3
    refine c_ge (i := 47) (v := 65) rfl ⟨by omega, by omega⟩ ⟨by omega, by omega⟩ (fun h4 => ?_) (fun h5 => ?_)
    · refine r_const (i := 65) (u := 1) (z := 1) rfl rfl ?_
      exact r_retZ (i := 66) rfl (by omega) (by omega) ⟨1, rfl, by omega, by omega, (by omega), (by omega), (by omega), (by intro hz; first | exact absurd hz (by omega) | assumption | grind), (by omega), (by intro hz; first | exact absurd hz (by omega) | exact ⟨q_0, q_1, q_5, q_6, q_7, q_8, fun j hj => q_9 j (by omega)⟩), (by intro hz; first | exact absurd hz (by omega) | (intro hc; obtain ⟨c1, c2, c3, c4, c5, c6, c7⟩ := hc; unfold kdC at c5; first | (exfalso; omega) | exact c7 m.toNat (by omega) ⟨by omega, by omega, by omega, by omega⟩)), rfl⟩
    · refine r_load (i := 48) (u := 0) (w := 2) rfl rfl rfl ?_
      refine r_getf (i := 49) (v := 1) (w := 2) (x := (2, 10)) rfl ly9 rfl rfl fun _ => ?_
      refine r_load (i := 50) (u := 6) (w := 0) rfl rfl rfl ?_
      refine a_int (i := 51) rfl ly10 rfl (by omega) (by omega) fun h7 => ?_
      have h8 := hI.a ta10 m.toNat
      refine r_load (i := 52) (u := 1) (w := 0) rfl rfl rfl ?_
      refine c_ne (i := 53) (v := 63) rfl ⟨by omega, by omega⟩ ⟨by omega, by omega⟩ (fun h9 => ?_) (fun h10 => ?_)
      · refine r_iinc (i := 63) (u := 1) (v := 6) (s := 1) (L1 := [some ((2, 9)), some (vi t), some (vi w0), some (vi fl), some (vi p), some (vi b), some (vi (m + 1))]) rfl rfl rfl rfl rfl ?_
        refine r_goto (i := 64) (v := 44) rfl ?_
        exact ih (m + 1) ⟨by omega, by omega⟩ (by omega) (by omega) (by omega) (by first | assumption | grind) (by omega) (by exact q_5) (by exact q_6) (by exact q_7) (by exact q_8) (by exact nsC_s q_9 (by omega) (by omega)) (by omega)
      · refine r_load (i := 54) (u := 0) (w := 2) rfl rfl rfl ?_
        refine r_load (i := 55) (u := 6) (w := 0) rfl rfl rfl ?_
        refine r_load (i := 56) (u := 2) (w := 0) rfl rfl rfl ?_
        refine r_load (i := 57) (u := 4) (w := 0) rfl rfl rfl ?_
        refine r_load (i := 58) (u := 5) (w := 0) rfl rfl rfl ?_
        have h11 := hI.a ta11 m.toNat
        have h12 := hI.a ta14 m.toNat
        have h13 := hI.a ta11 m.toNat
        have h14 := hI.a ta14 m.toNat
        refine r_call (i := 59) (u := 2) (v := 81) (w := 0) (b := 0) (na := 1285) (C2 := xC81) (as := [(2, 9), vi m, vi w0, vi p, vi b]) (s := []) rfl rfl rfl rfl rfl rfl rfl (sp81 (m := m) (w0 := w0) (p := p) (b := b) hI ⟨by omega, by omega⟩ ⟨by omega, by omega⟩ ⟨by omega, by omega⟩ ⟨by omega, by omega⟩   (by omega)) (fun r15 S16 hq17 => ?_)
        obtain ⟨z18, rfl, h19, h20, h21, h22, rfl⟩ := hq17
        refine Or.inr (Or.inl ⟨rfl, ?_⟩)
        refine z_eq (i := 60) (v := 63) rfl ⟨by omega, by omega⟩ (fun h23 => ?_) (fun h24 => ?_)
        · refine r_iinc (i := 63) (u := 1) (v := 6) (s := 1) (L1 := [some ((2, 9)), some (vi t), some (vi w0), some (vi fl), some (vi p), some (vi b), some (vi (m + 1))]) rfl rfl rfl rfl rfl ?_
          refine r_goto (i := 64) (v := 44) rfl ?_
          exact ih (m + 1) ⟨by omega, by omega⟩ (by omega) (by omega) (by omega) (by first | assumption | grind) (by omega) (by exact q_5) (by exact q_6) (by exact q_7) (by exact q_8) (by exact nsC_s q_9 (by omega) (by omega)) (by omega)
        · refine r_const (i := 61) (u := 0) (z := 0) rfl rfl ?_
          exact r_retZ (i := 62) rfl (by omega) (by omega) ⟨0, rfl, by omega, by omega, (by omega), (by omega), (by omega), (by intro hz; first | exact absurd hz (by omega) | assumption | grind), (by omega), (by intro hz; first | exact absurd hz (by omega) | exact ⟨q_0, q_1, q_5, q_6, q_7, q_8, fun j hj => q_9 j (by omega)⟩), (by intro hz; first | exact absurd hz (by omega) | (intro hc; obtain ⟨c1, c2, c3, c4, c5, c6, c7⟩ := hc; unfold kdC at c5; first | (exfalso; omega) | exact c7 m.toNat (by omega) ⟨by omega, by omega, by omega, by omega⟩)), rfl⟩
/-- ProxyForge$Methods.mayBe -/
theorem sp82 {G : xk} {S : yS} {d : Nat} (hI : yI S) {t : Int} (h_t : -2147483648 ≤ t ∧ t ≤ 2147483647) {w0 : Int} (h_w0 : -2147483648 ≤ w0 ∧ w0 ≤ 2147483647) {fl : Int} (h_fl : -2147483648 ≤ fl ∧ fl ≤ 2147483647) {p : Int} (h_p : -2147483648 ≤ p ∧ p ≤ 2147483647) {b : Int} (h_b : -2147483648 ≤ b ∧ b ≤ 2147483647) (hd : 3 ≤ d) : yT xPr G LY xC82 0 [some ((2, 9)), some (vi t), some (vi w0), some (vi fl), some (vi p), some (vi b)] [] S d (fun r S' => ∃ z : Int, r = (1, vi z) ∧ 0 ≤ z ∧ z ≤ 1 ∧ (z = 1 → 4 ≤ t ∧ t < S.f 1 7) ∧ (z = 1 → 0 ≤ w0 ∧ w0 ≤ 10) ∧ (z = 1 → 0 ≤ fl ∧ fl ≤ 63) ∧ (z = 1 → KP p) ∧ (z = 1 → 0 ≤ b ∧ b ≤ 23) ∧ (z = 1 → mbC S t w0 fl p b) ∧ (z = 0 → ¬ mbC S t w0 fl p b) ∧ S = S') := by
  refine yT_pad 1 ?_
  show yT xPr G LY xC82 0 [some ((2, 9)), some (vi t), some (vi w0), some (vi fl), some (vi p), some (vi b), none] [] S d _
  obtain ⟨d, rfl⟩ : ∃ q, d = q + 1 := ⟨d - 1, by omega⟩
  refine r_load (i := 0) (u := 0) (w := 2) rfl rfl rfl ?_
  refine r_getf (i := 1) (v := 0) (w := 2) (x := (2, 1)) rfl ly9 rfl rfl fun _ => ?_
  refine r_load (i := 2) (u := 1) (w := 0) rfl rfl rfl ?_
  have h2 := hI.f tf1_7
  refine r_call (i := 3) (u := 1) (v := 135) (w := 0) (b := 0) (na := 514) (C2 := xC135) (as := [(2, 1), vi t]) (s := []) rfl rfl rfl rfl rfl rfl rfl (sp135 (t := t) hI ⟨by omega, by omega⟩   (by omega)) (fun r3 S4 hq5 => ?_)
  obtain ⟨z6, rfl, h7, h8, h9, h10, rfl⟩ := hq5
  refine Or.inr (Or.inl ⟨rfl, ?_⟩)
  refine z_eq (i := 4) (v := 10) rfl ⟨by omega, by omega⟩ (fun h11 => ?_) (fun h12 => ?_)
  · refine r_const (i := 10) (u := 0) (z := 0) rfl rfl ?_
    exact r_retZ (i := 11) rfl (by omega) (by omega) ⟨0, rfl, by omega, by omega, (by omega), (by omega), (by omega), (by intro hz; first | exact absurd hz (by omega) | assumption | grind), (by omega), (by intro hz; exact absurd hz (by omega)), (by intro hz; first | exact absurd hz (by omega) | (intro hc; obtain ⟨c1, c2, c3, c4, c5, c6, c7⟩ := hc; unfold kdC at c5; first | (exfalso; omega))), rfl⟩
  · refine r_load (i := 5) (u := 2) (w := 0) rfl rfl rfl ?_
    refine z_lt (i := 6) (v := 10) rfl ⟨by omega, by omega⟩ (fun h13 => ?_) (fun h14 => ?_)
    · refine r_const (i := 10) (u := 0) (z := 0) rfl rfl ?_
      exact r_retZ (i := 11) rfl (by omega) (by omega) ⟨0, rfl, by omega, by omega, (by omega), (by omega), (by omega), (by intro hz; first | exact absurd hz (by omega) | assumption | grind), (by omega), (by intro hz; exact absurd hz (by omega)), (by intro hz; first | exact absurd hz (by omega) | (intro hc; obtain ⟨c1, c2, c3, c4, c5, c6, c7⟩ := hc; unfold kdC at c5; first | (exfalso; omega))), rfl⟩
    · refine r_load (i := 7) (u := 2) (w := 0) rfl rfl rfl ?_
      refine r_const (i := 8) (u := 10) (z := 10) rfl rfl ?_
      refine c_le (i := 9) (v := 12) rfl ⟨by omega, by omega⟩ ⟨by omega, by omega⟩ (fun h15 => ?_) (fun h16 => ?_)
      · refine r_load (i := 12) (u := 0) (w := 2) rfl rfl rfl ?_
        refine r_load (i := 13) (u := 1) (w := 0) rfl rfl rfl ?_
        refine r_load (i := 14) (u := 3) (w := 0) rfl rfl rfl ?_
        refine r_call (i := 15) (u := 2) (v := 84) (w := 0) (b := 0) (na := 771) (C2 := xC84) (as := [(2, 9), vi t, vi fl]) (s := []) rfl rfl rfl rfl rfl rfl rfl (sp84 (t := t) (fl := fl) hI ⟨by omega, by omega⟩ ⟨by omega, by omega⟩   (by omega)) (fun r17 S18 hq19 => ?_)
        obtain ⟨z20, rfl, h21, h22, h23, yf24, nf25, rfl⟩ := hq19
        refine Or.inr (Or.inl ⟨rfl, ?_⟩)
        refine z_eq (i := 16) (v := 21) rfl ⟨by omega, by omega⟩ (fun h26 => ?_) (fun h27 => ?_)
        · refine r_const (i := 21) (u := 0) (z := 0) rfl rfl ?_
          exact r_retZ (i := 22) rfl (by omega) (by omega) ⟨0, rfl, by omega, by omega, (by omega), (by omega), (by omega), (by intro hz; first | exact absurd hz (by omega) | assumption | grind), (by omega), (by intro hz; exact absurd hz (by omega)), (by intro hz; first | exact absurd hz (by omega) | (intro hc; obtain ⟨c1, c2, c3, c4, c5, c6, c7⟩ := hc; unfold kdC at c5; first | (exfalso; omega) | exact absurd c3 (nf25 (by omega)))), rfl⟩
        · refine r_load (i := 17) (u := 0) (w := 2) rfl rfl rfl ?_
          refine r_load (i := 18) (u := 4) (w := 0) rfl rfl rfl ?_
          refine r_call (i := 19) (u := 2) (v := 75) (w := 0) (b := 0) (na := 1026) (C2 := xC75) (as := [(2, 9), vi p]) (s := []) rfl rfl rfl rfl rfl rfl rfl (sp75 (p := p) hI ⟨by omega, by omega⟩   (by omega)) (fun r28 S29 hq30 => ?_)
          obtain ⟨z31, rfl, h32, h33, h34, yp35, np36, rfl⟩ := hq30
          refine Or.inr (Or.inl ⟨rfl, ?_⟩)
          refine z_ne (i := 20) (v := 23) rfl ⟨by omega, by omega⟩ (fun h37 => ?_) (fun h38 => ?_)
          · refine r_load (i := 23) (u := 5) (w := 0) rfl rfl rfl ?_
            refine z_eq (i := 24) (v := 31) rfl ⟨by omega, by omega⟩ (fun h39 => ?_) (fun h40 => ?_)
            · refine r_load (i := 31) (u := 2) (w := 0) rfl rfl rfl ?_
              refine r_const (i := 32) (u := 10) (z := 10) rfl rfl ?_
              refine c_ne (i := 33) (v := 42) rfl ⟨by omega, by omega⟩ ⟨by omega, by omega⟩ (fun h41 => ?_) (fun h42 => ?_)
              · refine r_const (i := 42) (u := 0) (z := 0) rfl rfl ?_
                refine r_store (i := 43) (u := 6) (w := 0) (L1 := [some ((2, 9)), some (vi t), some (vi w0), some (vi fl), some (vi p), some (vi b), some (vi 0)]) rfl rfl rfl rfl ?_
                exact lp82_44 hI h_t h_w0 h_fl h_p h_b   hd _ 0 ⟨by omega, by omega⟩ (by omega) (by omega) (by omega) (by first | assumption | grind) (by omega) (by exact yf24 (by omega)) (by exact yp35 (by omega)) (by unfold kdC; omega) (by omega) (by exact nsC_0) (Int.lt_succ_toNat _)
              · refine r_load (i := 34) (u := 0) (w := 2) rfl rfl rfl ?_
                refine r_load (i := 35) (u := 1) (w := 0) rfl rfl rfl ?_
                refine r_load (i := 36) (u := 3) (w := 0) rfl rfl rfl ?_
                refine r_load (i := 37) (u := 5) (w := 0) rfl rfl rfl ?_
                refine r_call (i := 38) (u := 2) (v := 83) (w := 0) (b := 0) (na := 1028) (C2 := xC83) (as := [(2, 9), vi t, vi fl, vi b]) (s := []) rfl rfl rfl rfl rfl rfl rfl (sp83 (t := t) (fl := fl) (b := b) hI ⟨by omega, by omega⟩ ⟨by omega, by omega⟩ ⟨by omega, by omega⟩   (by omega)) (fun r43 S44 hq45 => ?_)
                obtain ⟨z46, rfl, h47, h48, h49, h50, rfl⟩ := hq45
                refine Or.inr (Or.inl ⟨rfl, ?_⟩)
                refine z_ne (i := 39) (v := 42) rfl ⟨by omega, by omega⟩ (fun h51 => ?_) (fun h52 => ?_)
                · refine r_const (i := 42) (u := 0) (z := 0) rfl rfl ?_
                  refine r_store (i := 43) (u := 6) (w := 0) (L1 := [some ((2, 9)), some (vi t), some (vi w0), some (vi fl), some (vi p), some (vi b), some (vi 0)]) rfl rfl rfl rfl ?_
                  exact lp82_44 hI h_t h_w0 h_fl h_p h_b   hd _ 0 ⟨by omega, by omega⟩ (by omega) (by omega) (by omega) (by first | assumption | grind) (by omega) (by exact yf24 (by omega)) (by exact yp35 (by omega)) (by unfold kdC; omega) (by omega) (by exact nsC_0) (Int.lt_succ_toNat _)
                · refine r_const (i := 40) (u := 0) (z := 0) rfl rfl ?_
                  exact r_retZ (i := 41) rfl (by omega) (by omega) ⟨0, rfl, by omega, by omega, (by omega), (by omega), (by omega), (by intro hz; first | exact absurd hz (by omega) | assumption | grind), (by omega), (by intro hz; exact absurd hz (by omega)), (by intro hz; first | exact absurd hz (by omega) | (intro hc; obtain ⟨c1, c2, c3, c4, c5, c6, c7⟩ := hc; unfold kdC at c5; first | (exfalso; omega) | exact absurd c3 (nf25 (by omega)) | exact absurd c4 (np36 (by omega)))), rfl⟩
            · refine r_load (i := 25) (u := 0) (w := 2) rfl rfl rfl ?_
              refine r_load (i := 26) (u := 5) (w := 0) rfl rfl rfl ?_
              refine r_call (i := 27) (u := 2) (v := 78) (w := 0) (b := 0) (na := 514) (C2 := xC78) (as := [(2, 9), vi b]) (s := []) rfl rfl rfl rfl rfl rfl rfl (sp78 (k := b) hI ⟨by omega, by omega⟩   (by omega)) (fun r53 S54 hq55 => ?_)
              obtain ⟨z56, rfl, h57, h58, h59, h60, rfl⟩ := hq55
              refine Or.inr (Or.inl ⟨rfl, ?_⟩)
              refine z_ne (i := 28) (v := 31) rfl ⟨by omega, by omega⟩ (fun h61 => ?_) (fun h62 => ?_)
              · refine r_load (i := 31) (u := 2) (w := 0) rfl rfl rfl ?_
                refine r_const (i := 32) (u := 10) (z := 10) rfl rfl ?_
                refine c_ne (i := 33) (v := 42) rfl ⟨by omega, by omega⟩ ⟨by omega, by omega⟩ (fun h63 => ?_) (fun h64 => ?_)
                · refine r_const (i := 42) (u := 0) (z := 0) rfl rfl ?_
                  refine r_store (i := 43) (u := 6) (w := 0) (L1 := [some ((2, 9)), some (vi t), some (vi w0), some (vi fl), some (vi p), some (vi b), some (vi 0)]) rfl rfl rfl rfl ?_
                  exact lp82_44 hI h_t h_w0 h_fl h_p h_b   hd _ 0 ⟨by omega, by omega⟩ (by omega) (by omega) (by omega) (by first | assumption | grind) (by omega) (by exact yf24 (by omega)) (by exact yp35 (by omega)) (by unfold kdC; omega) (by omega) (by exact nsC_0) (Int.lt_succ_toNat _)
                · refine r_load (i := 34) (u := 0) (w := 2) rfl rfl rfl ?_
                  refine r_load (i := 35) (u := 1) (w := 0) rfl rfl rfl ?_
                  refine r_load (i := 36) (u := 3) (w := 0) rfl rfl rfl ?_
                  refine r_load (i := 37) (u := 5) (w := 0) rfl rfl rfl ?_
                  refine r_call (i := 38) (u := 2) (v := 83) (w := 0) (b := 0) (na := 1028) (C2 := xC83) (as := [(2, 9), vi t, vi fl, vi b]) (s := []) rfl rfl rfl rfl rfl rfl rfl (sp83 (t := t) (fl := fl) (b := b) hI ⟨by omega, by omega⟩ ⟨by omega, by omega⟩ ⟨by omega, by omega⟩   (by omega)) (fun r65 S66 hq67 => ?_)
                  obtain ⟨z68, rfl, h69, h70, h71, h72, rfl⟩ := hq67
                  refine Or.inr (Or.inl ⟨rfl, ?_⟩)
                  refine z_ne (i := 39) (v := 42) rfl ⟨by omega, by omega⟩ (fun h73 => ?_) (fun h74 => ?_)
                  · refine r_const (i := 42) (u := 0) (z := 0) rfl rfl ?_
                    refine r_store (i := 43) (u := 6) (w := 0) (L1 := [some ((2, 9)), some (vi t), some (vi w0), some (vi fl), some (vi p), some (vi b), some (vi 0)]) rfl rfl rfl rfl ?_
                    exact lp82_44 hI h_t h_w0 h_fl h_p h_b   hd _ 0 ⟨by omega, by omega⟩ (by omega) (by omega) (by omega) (by first | assumption | grind) (by omega) (by exact yf24 (by omega)) (by exact yp35 (by omega)) (by unfold kdC; omega) (by omega) (by exact nsC_0) (Int.lt_succ_toNat _)
                  · refine r_const (i := 40) (u := 0) (z := 0) rfl rfl ?_
                    exact r_retZ (i := 41) rfl (by omega) (by omega) ⟨0, rfl, by omega, by omega, (by omega), (by omega), (by omega), (by intro hz; first | exact absurd hz (by omega) | assumption | grind), (by omega), (by intro hz; exact absurd hz (by omega)), (by intro hz; first | exact absurd hz (by omega) | (intro hc; obtain ⟨c1, c2, c3, c4, c5, c6, c7⟩ := hc; unfold kdC at c5; first | (exfalso; omega) | exact absurd c3 (nf25 (by omega)) | exact absurd c4 (np36 (by omega)))), rfl⟩
              · refine r_const (i := 29) (u := 0) (z := 0) rfl rfl ?_
                exact r_retZ (i := 30) rfl (by omega) (by omega) ⟨0, rfl, by omega, by omega, (by omega), (by omega), (by omega), (by intro hz; first | exact absurd hz (by omega) | assumption | grind), (by omega), (by intro hz; exact absurd hz (by omega)), (by intro hz; first | exact absurd hz (by omega) | (intro hc; obtain ⟨c1, c2, c3, c4, c5, c6, c7⟩ := hc; unfold kdC at c5; first | (exfalso; omega) | exact absurd c3 (nf25 (by omega)) | exact absurd c4 (np36 (by omega)))), rfl⟩
          · refine r_const (i := 21) (u := 0) (z := 0) rfl rfl ?_
            exact r_retZ (i := 22) rfl (by omega) (by omega) ⟨0, rfl, by omega, by omega, (by omega), (by omega), (by omega), (by intro hz; first | exact absurd hz (by omega) | assumption | grind), (by omega), (by intro hz; exact absurd hz (by omega)), (by intro hz; first | exact absurd hz (by omega) | (intro hc; obtain ⟨c1, c2, c3, c4, c5, c6, c7⟩ := hc; unfold kdC at c5; first | (exfalso; omega) | exact absurd c3 (nf25 (by omega)) | exact absurd c4 (np36 (by omega)))), rfl⟩
      · refine r_const (i := 10) (u := 0) (z := 0) rfl rfl ?_
        exact r_retZ (i := 11) rfl (by omega) (by omega) ⟨0, rfl, by omega, by omega, (by omega), (by omega), (by omega), (by intro hz; first | exact absurd hz (by omega) | assumption | grind), (by omega), (by intro hz; exact absurd hz (by omega)), (by intro hz; first | exact absurd hz (by omega) | (intro hc; obtain ⟨c1, c2, c3, c4, c5, c6, c7⟩ := hc; unfold kdC at c5; first | (exfalso; omega))), rfl⟩
/-- ProxyForge$Methods.add -/
theorem sp73 {G : xk} {S : yS} {d : Nat} (hI : yI S) {t : Int} (h_t : 0 ≤ t ∧ t ≤ 19) {w0 : Int} (h_w0 : 0 ≤ w0 ∧ w0 ≤ 10) {fl : Int} (h_fl : 0 ≤ fl ∧ fl ≤ 63) {p : Int} (h_p : -2147483648 ≤ p ∧ p ≤ 2147483647) {b : Int} (h_b : 0 ≤ b ∧ b ≤ 23) (p_0 : S.f 9 8 ≤ 59) (p_1 : KP p) (hd : 0 ≤ d) : yT xPr G LY xC73 0 [some ((2, 9)), some (vi t), some (vi w0), some (vi fl), some (vi p), some (vi b)] [] S d (fun r S' => ∃ z : Int, r = (1, vi z) ∧ 0 ≤ z ∧ z ≤ 59 ∧ z = S.f 9 8 ∧ cMe S S' t w0 fl p b ∧ yI S' ∧ yFr [(9, 8)] [10, 11, 12, 13, 14] S S' ∧ yRm [] S S') := by
  refine yT_pad 1 ?_
  show yT xPr G LY xC73 0 [some ((2, 9)), some (vi t), some (vi w0), some (vi fl), some (vi p), some (vi b), none] [] S d _
  have hF : yFr [(9, 8)] [10, 11, 12, 13, 14] S S := yFr.refl S
  have hR : yRm [] S S := yRm.refl S
  have h1 := hI.f tf9_8
  refine r_load (i := 0) (u := 0) (w := 2) rfl rfl rfl ?_
  refine r_getf (i := 1) (v := 8) (w := 2) (x := vi (S.f 9 8)) rfl ly9 rfl rfl fun h2 => ?_
  have h2 : Rg (S.f 9 8) := h2
  refine r_store (i := 2) (u := 6) (w := 0) (L1 := [some ((2, 9)), some (vi t), some (vi w0), some (vi fl), some (vi p), some (vi b), some (vi (S.f 9 8))]) rfl rfl rfl rfl ?_
  refine r_load (i := 3) (u := 0) (w := 2) rfl rfl rfl ?_
  refine r_getf (i := 4) (v := 1) (w := 2) (x := (2, 10)) rfl ly9 rfl rfl fun _ => ?_
  refine r_load (i := 5) (u := 6) (w := 0) rfl rfl rfl ?_
  refine r_load (i := 6) (u := 1) (w := 0) rfl rfl rfl ?_
  refine s_int (i := 7) rfl ly10 rfl (by omega) (by omega) ⟨by omega, by omega⟩ ?_
  have hI5 := hI.seta (b := 10) (j := (S.f 9 8).toNat) (z := t) ta10 rfl (by omega) (by omega)
  have hF7 := hF.seta (b := 10) (j := (S.f 9 8).toNat) (z := t) rfl
  have hR8 := hR.seta (b := 10) (j := (S.f 9 8).toNat) (z := t)
  refine yT_gen (fun S4 hS6 => ?_)
  rw [hS6] at hI5 hF7 hR8 
  refine r_load (i := 8) (u := 0) (w := 2) rfl rfl rfl ?_
  refine r_getf (i := 9) (v := 2) (w := 2) (x := (2, 11)) rfl ly9 rfl rfl fun _ => ?_
  refine r_load (i := 10) (u := 6) (w := 0) rfl rfl rfl ?_
  refine r_load (i := 11) (u := 2) (w := 0) rfl rfl rfl ?_
  refine s_int (i := 12) rfl ly11 rfl (by omega) (by omega) ⟨by omega, by omega⟩ ?_
  have hI11 := hI5.seta (b := 11) (j := (S.f 9 8).toNat) (z := w0) ta11 rfl (by omega) (by omega)
  have hF13 := hF7.seta (b := 11) (j := (S.f 9 8).toNat) (z := w0) rfl
  have hR14 := hR8.seta (b := 11) (j := (S.f 9 8).toNat) (z := w0)
  refine yT_gen (fun S10 hS12 => ?_)
  rw [hS12] at hI11 hF13 hR14 
  refine r_load (i := 13) (u := 0) (w := 2) rfl rfl rfl ?_
  refine r_getf (i := 14) (v := 3) (w := 2) (x := (2, 12)) rfl ly9 rfl rfl fun _ => ?_
  refine r_load (i := 15) (u := 6) (w := 0) rfl rfl rfl ?_
  refine r_load (i := 16) (u := 3) (w := 0) rfl rfl rfl ?_
  refine s_int (i := 17) rfl ly12 rfl (by omega) (by omega) ⟨by omega, by omega⟩ ?_
  have hI17 := hI11.seta (b := 12) (j := (S.f 9 8).toNat) (z := fl) ta12 rfl (by omega) (by omega)
  have hF19 := hF13.seta (b := 12) (j := (S.f 9 8).toNat) (z := fl) rfl
  have hR20 := hR14.seta (b := 12) (j := (S.f 9 8).toNat) (z := fl)
  refine yT_gen (fun S16 hS18 => ?_)
  rw [hS18] at hI17 hF19 hR20 
  refine r_load (i := 18) (u := 0) (w := 2) rfl rfl rfl ?_
  refine r_getf (i := 19) (v := 4) (w := 2) (x := (2, 13)) rfl ly9 rfl rfl fun _ => ?_
  refine r_load (i := 20) (u := 6) (w := 0) rfl rfl rfl ?_
  refine r_load (i := 21) (u := 4) (w := 0) rfl rfl rfl ?_
  refine s_int (i := 22) rfl ly13 rfl (by omega) (by omega) ⟨by omega, by omega⟩ ?_
  have hI23 := hI17.seta13 (j := (S.f 9 8).toNat) (z := p) (by first | assumption | grind)
  have hF25 := hF19.seta (b := 13) (j := (S.f 9 8).toNat) (z := p) rfl
  have hR26 := hR20.seta (b := 13) (j := (S.f 9 8).toNat) (z := p)
  refine yT_gen (fun S22 hS24 => ?_)
  rw [hS24] at hI23 hF25 hR26 
  refine r_load (i := 23) (u := 0) (w := 2) rfl rfl rfl ?_
  refine r_getf (i := 24) (v := 5) (w := 2) (x := (2, 14)) rfl ly9 rfl rfl fun _ => ?_
  refine r_load (i := 25) (u := 6) (w := 0) rfl rfl rfl ?_
  refine r_load (i := 26) (u := 5) (w := 0) rfl rfl rfl ?_
  refine s_int (i := 27) rfl ly14 rfl (by omega) (by omega) ⟨by omega, by omega⟩ ?_
  have hI29 := hI23.seta (b := 14) (j := (S.f 9 8).toNat) (z := b) ta14 rfl (by omega) (by omega)
  have hF31 := hF25.seta (b := 14) (j := (S.f 9 8).toNat) (z := b) rfl
  have hR32 := hR26.seta (b := 14) (j := (S.f 9 8).toNat) (z := b)
  refine yT_gen (fun S28 hS30 => ?_)
  rw [hS30] at hI29 hF31 hR32 
  refine r_load (i := 28) (u := 0) (w := 2) rfl rfl rfl ?_
  refine r_dup (i := 29) rfl rfl ?_
  have h33 := hI29.f tf9_8
  have h34 : S28.f 9 8 = S22.f 9 8 := by rw [← hS30]; rfl
  have h35 : S22.f 9 8 = S16.f 9 8 := by rw [← hS24]; rfl
  have h36 : S16.f 9 8 = S10.f 9 8 := by rw [← hS18]; rfl
  have h37 : S10.f 9 8 = S4.f 9 8 := by rw [← hS12]; rfl
  have h38 : S4.f 9 8 = S.f 9 8 := by rw [← hS6]; rfl
  refine r_getf (i := 30) (v := 8) (w := 2) (x := vi (S28.f 9 8)) rfl ly9 rfl rfl fun h39 => ?_
  have h39 : Rg (S28.f 9 8) := h39
  refine r_const (i := 31) (u := 1) (z := 1) rfl rfl ?_
  refine r_iadd (i := 32) rfl ?_
  refine r_putI (i := 33) (v := 8) (w := 2) rfl ly9 rfl ⟨by omega, by omega⟩ ?_
  have hI41 := hI29.setf (b := 9) (w := 8) (z := (S28.f 9 8) + 1) tf9_8 rfl (by omega) (by omega)
  have hF43 := hF31.setf (b := 9) (w := 8) (z := (S28.f 9 8) + 1) rfl
  have hR44 := hR32.setf (b := 9) (w := 8) (z := (S28.f 9 8) + 1)
  refine yT_gen (fun S40 hS42 => ?_)
  rw [hS42] at hI41 hF43 hR44 
  refine r_load (i := 34) (u := 6) (w := 0) rfl rfl rfl ?_
  exact r_retI (i := 35) rfl ⟨S.f 9 8, rfl, by omega, by omega, (by omega), (by exact ⟨by subst hS6 hS12 hS18 hS24 hS30 hS42; rfl, fun j => by subst hS6 hS12 hS18 hS24 hS30 hS42; rfl, fun j => by subst hS6 hS12 hS18 hS24 hS30 hS42; rfl, fun j => by subst hS6 hS12 hS18 hS24 hS30 hS42; rfl, fun j => by subst hS6 hS12 hS18 hS24 hS30 hS42; rfl, fun j => by subst hS6 hS12 hS18 hS24 hS30 hS42; rfl⟩), hI41, hF43, hR44⟩
/-- ProxyForge$Methods.thrownBy -/
theorem sp86 {G : xk} {S : yS} {d : Nat} (hI : yI S) {m : Int} (h_m : 0 ≤ m ∧ m ≤ 59) {k : Int} (h_k : 0 ≤ k ∧ k ≤ 2) (hd : 0 ≤ d) : yT xPr G LY xC86 0 [some ((2, 9)), some (vi m), some (vi k)] [] S d (fun r S' => ∃ z : Int, r = (1, vi z) ∧ 0 ≤ z ∧ z ≤ 19 ∧ z = S.a 16 (3 * m + k).toNat ∧ S = S') := by
  refine yT_pad 0 ?_
  show yT xPr G LY xC86 0 [some ((2, 9)), some (vi m), some (vi k)] [] S d _
  refine r_load (i := 0) (u := 0) (w := 2) rfl rfl rfl ?_
  refine r_getf (i := 1) (v := 7) (w := 2) (x := (2, 16)) rfl ly9 rfl rfl fun _ => ?_
  refine r_load (i := 2) (u := 1) (w := 0) rfl rfl rfl ?_
  refine r_const (i := 3) (u := 3) (z := 3) rfl rfl ?_
  refine r_imul (i := 4) rfl ?_
  refine r_load (i := 5) (u := 2) (w := 0) rfl rfl rfl ?_
  refine r_iadd (i := 6) rfl ?_
  refine a_int (i := 7) rfl ly16 rfl (by omega) (by omega) fun h2 => ?_
  have h3 := hI.a ta16 ((m * 3) + k).toNat
  exact r_retI (i := 8) rfl ⟨S.a 16 ((m * 3) + k).toNat, rfl, by omega, by omega, (by exact congrArg (S.a 16) (congrArg Int.toNat (by omega))), rfl⟩
theorem lp87_2 {G : xk} {d : Nat} {S : yS} (hI : yI S) {m : Int} (h_m : 0 ≤ m ∧ m ≤ 59) {h0 : Int} (h_h0 : 0 ≤ h0 ∧ h0 ≤ 3) {t : Int} (h_t : -2147483648 ≤ t ∧ t ≤ 2147483647) (hd : 1 ≤ d + 1) : ∀ (n : Nat), ∀ (k : Int) (h_k : 0 ≤ k ∧ k ≤ 3) (q_0 : ∀ i : Int, 0 ≤ i → i < k → S.a 16 (3 * m + i).toNat ≠ t) (hn : 3 - k < (n : Nat)), yT xPr G LY xC87 2 [some ((2, 9)), some (vi m), some (vi h0), some (vi t), some (vi k)] [] S (d + 1) (fun r S' => ∃ z : Int, r = (1, vi z) ∧ 0 ≤ z ∧ z ≤ 1 ∧ (z = 1 → ¬ ∀ i : Int, 0 ≤ i → i < h0 → S.a 16 (3 * m + i).toNat ≠ t) ∧ (z = 0 → ∀ i : Int, 0 ≤ i → i < h0 → S.a 16 (3 * m + i).toNat ≠ t) ∧ S = S') := by
  intro n
  induction n with
  | zero => intro k h_k q_0 hn; exact absurd hn (by omega)
  | succ n ih =>
    intro k h_k q_0 hn
    refine r_load (i := 2) (u := 4) (w := 0) rfl rfl rfl ?_
    refine r_load (i := 3) (u := 2) (w := 0) rfl rfl rfl ?_
    refine c_ge (i := 4) (v := 15) rfl ⟨by omega, by omega⟩ ⟨by omega, by omega⟩ (fun h1 => ?_) (fun h2 => ?_)
    · refine r_const (i := 15) (u := 0) (z := 0) rfl rfl ?_
      exact r_retZ (i := 16) rfl (by omega) (by omega) ⟨0, rfl, by omega, by omega, (by intro hz; first | exact absurd hz (by omega) | exact fun h9 => h9 k (by omega) (by omega) (by omega)), (by intro hz; first | exact absurd hz (by omega) | exact fun i i0 i1 => q_0 i i0 (by omega)), rfl⟩
    · refine r_load (i := 5) (u := 0) (w := 2) rfl rfl rfl ?_
      refine r_load (i := 6) (u := 1) (w := 0) rfl rfl rfl ?_
      refine r_load (i := 7) (u := 4) (w := 0) rfl rfl rfl ?_
      refine r_call (i := 8) (u := 2) (v := 86) (w := 0) (b := 0) (na := 771) (C2 := xC86) (as := [(2, 9), vi m, vi k]) (s := []) rfl rfl rfl rfl rfl rfl rfl (sp86 (m := m) (k := k) hI ⟨by omega, by omega⟩ ⟨by omega, by omega⟩   (by omega)) (fun r3 S4 hq5 => ?_)
      obtain ⟨z6, rfl, h7, h8, h9, rfl⟩ := hq5
      refine Or.inr (Or.inl ⟨rfl, ?_⟩)
      refine r_load (i := 9) (u := 3) (w := 0) rfl rfl rfl ?_
      refine c_ne (i := 10) (v := 13) rfl ⟨by omega, by omega⟩ ⟨by omega, by omega⟩ (fun h10 => ?_) (fun h11 => ?_)
      · refine r_iinc (i := 13) (u := 1) (v := 4) (s := 1) (L1 := [some ((2, 9)), some (vi m), some (vi h0), some (vi t), some (vi (k + 1))]) rfl rfl rfl rfl rfl ?_
        refine r_goto (i := 14) (v := 2) rfl ?_
        exact ih (k + 1) ⟨by omega, by omega⟩ (by exact n3_s q_0 (by omega)) (by omega)
      · refine r_const (i := 11) (u := 1) (z := 1) rfl rfl ?_
        exact r_retZ (i := 12) rfl (by omega) (by omega) ⟨1, rfl, by omega, by omega, (by intro hz; first | exact absurd hz (by omega) | exact fun h9 => h9 k (by omega) (by omega) (by omega)), (by intro hz; first | exact absurd hz (by omega) | exact fun i i0 i1 => q_0 i i0 (by omega)), rfl⟩
/-- ProxyForge$Methods.throwsAmongFirst -/
theorem sp87 {G : xk} {S : yS} {d : Nat} (hI : yI S) {m : Int} (h_m : 0 ≤ m ∧ m ≤ 59) {h0 : Int} (h_h0 : 0 ≤ h0 ∧ h0 ≤ 3) {t : Int} (h_t : -2147483648 ≤ t ∧ t ≤ 2147483647) (hd : 1 ≤ d) : yT xPr G LY xC87 0 [some ((2, 9)), some (vi m), some (vi h0), some (vi t)] [] S d (fun r S' => ∃ z : Int, r = (1, vi z) ∧ 0 ≤ z ∧ z ≤ 1 ∧ (z = 1 → ¬ ∀ i : Int, 0 ≤ i → i < h0 → S.a 16 (3 * m + i).toNat ≠ t) ∧ (z = 0 → ∀ i : Int, 0 ≤ i → i < h0 → S.a 16 (3 * m + i).toNat ≠ t) ∧ S = S') := by
  refine yT_pad 1 ?_
  show yT xPr G LY xC87 0 [some ((2, 9)), some (vi m), some (vi h0), some (vi t), none] [] S d _
  obtain ⟨d, rfl⟩ : ∃ q, d = q + 1 := ⟨d - 1, by omega⟩
  refine r_const (i := 0) (u := 0) (z := 0) rfl rfl ?_
  refine r_store (i := 1) (u := 4) (w := 0) (L1 := [some ((2, 9)), some (vi m), some (vi h0), some (vi t), some (vi 0)]) rfl rfl rfl rfl ?_
  exact lp87_2 hI h_m h_h0 h_t   hd _ 0 ⟨by omega, by omega⟩ (by exact n3_0) (Int.lt_succ_toNat _)
/-- ProxyForge$Methods.mayThrow -/
theorem sp85 {G : xk} {S : yS} {d : Nat} (hI : yI S) {m : Int} (h_m : -2147483648 ≤ m ∧ m ≤ 2147483647) {t : Int} (h_t : -2147483648 ≤ t ∧ t ≤ 2147483647) (hd : 2 ≤ d) : yT xPr G LY xC85 0 [some ((2, 9)), some (vi m), some (vi t)] [] S d (fun r S' => ∃ z : Int, r = (1, vi z) ∧ 0 ≤ z ∧ z ≤ 1 ∧ (z = 1 → 4 ≤ m ∧ m < S.f 9 8 ∧ 0 ≤ t ∧ t < S.f 1 7 ∧ S.a 15 m.toNat ≤ 2) ∧ (z = 1 → thC S m t) ∧ (z = 0 → ¬ thC S m t) ∧ S = S') := by
  refine yT_pad 0 ?_
  show yT xPr G LY xC85 0 [some ((2, 9)), some (vi m), some (vi t)] [] S d _
  obtain ⟨d, rfl⟩ : ∃ q, d = q + 1 := ⟨d - 1, by omega⟩
  refine r_load (i := 0) (u := 1) (w := 0) rfl rfl rfl ?_
  refine r_const (i := 1) (u := 4) (z := 4) rfl rfl ?_
  refine c_lt (i := 2) (v := 7) rfl ⟨by omega, by omega⟩ ⟨by omega, by omega⟩ (fun h1 => ?_) (fun h2 => ?_)
  · refine r_const (i := 7) (u := 0) (z := 0) rfl rfl ?_
    have h3 := hI.f tf9_8
    have h4 := hI.f tf1_7
    have h5 := hI.a ta15 m.toNat
    exact r_retZ (i := 8) rfl (by omega) (by omega) ⟨0, rfl, by omega, by omega, (by omega), (by intro hz; first | exact absurd hz (by omega)), (by intro hz; first | exact absurd hz (by omega) | (intro hc; obtain ⟨c1, c2, c3, c4, c5⟩ := hc; first | (exfalso; omega))), rfl⟩
  · refine r_load (i := 3) (u := 1) (w := 0) rfl rfl rfl ?_
    refine r_load (i := 4) (u := 0) (w := 2) rfl rfl rfl ?_
    have h6 := hI.f tf9_8
    refine r_getf (i := 5) (v := 8) (w := 2) (x := vi (S.f 9 8)) rfl ly9 rfl rfl fun h7 => ?_
    have h7 : Rg (S.f 9 8) := h7
    refine c_lt (i := 6) (v := 9) rfl ⟨by omega, by omega⟩ ⟨by omega, by omega⟩ (fun h8 => ?_) (fun h9 => ?_)
    · refine r_load (i := 9) (u := 0) (w := 2) rfl rfl rfl ?_
      refine r_getf (i := 10) (v := 0) (w := 2) (x := (2, 1)) rfl ly9 rfl rfl fun _ => ?_
      refine r_load (i := 11) (u := 2) (w := 0) rfl rfl rfl ?_
      refine r_i2l (i := 12) rfl ⟨by omega, by omega⟩ ?_
      have h11 := hI.f tf1_7
      refine r_call (i := 13) (u := 1) (v := 131) (w := 0) (b := 0) (na := 770) (C2 := xC131) (as := [(2, 1), vl t]) (s := []) rfl rfl rfl rfl rfl rfl rfl (sp131 (t := t) hI ⟨by omega, by omega⟩   (by omega)) (fun r12 S13 hq14 => ?_)
      obtain ⟨z15, rfl, h16, h17, h18, h19, rfl⟩ := hq14
      refine Or.inr (Or.inl ⟨rfl, ?_⟩)
      refine z_eq (i := 14) (v := 21) rfl ⟨by omega, by omega⟩ (fun h20 => ?_) (fun h21 => ?_)
      · refine r_const (i := 21) (u := 0) (z := 0) rfl rfl ?_
        have h22 := hI.a ta15 m.toNat
        exact r_retZ (i := 22) rfl (by omega) (by omega) ⟨0, rfl, by omega, by omega, (by omega), (by intro hz; first | exact absurd hz (by omega)), (by intro hz; first | exact absurd hz (by omega) | (intro hc; obtain ⟨c1, c2, c3, c4, c5⟩ := hc; first | (exfalso; omega))), rfl⟩
      · refine r_load (i := 15) (u := 0) (w := 2) rfl rfl rfl ?_
        refine r_getf (i := 16) (v := 0) (w := 2) (x := (2, 1)) rfl ly9 rfl rfl fun _ => ?_
        refine r_load (i := 17) (u := 2) (w := 0) rfl rfl rfl ?_
        refine r_const (i := 18) (u := 1) (z := 1) rfl rfl ?_
        refine r_call (i := 19) (u := 1) (v := 133) (w := 0) (b := 0) (na := 771) (C2 := xC133) (as := [(2, 1), vi t, vi 1]) (s := []) rfl rfl rfl rfl rfl rfl rfl (sp133 (t := t) (o := 1) hI ⟨by omega, by omega⟩ ⟨by omega, by omega⟩   (by omega)) (fun r24 S25 hq26 => ?_)
        obtain ⟨z27, rfl, h28, h29, yb30, nb31, rfl⟩ := hq26
        refine Or.inr (Or.inl ⟨rfl, ?_⟩)
        refine z_ne (i := 20) (v := 23) rfl ⟨by omega, by omega⟩ (fun h32 => ?_) (fun h33 => ?_)
        · refine r_load (i := 23) (u := 0) (w := 2) rfl rfl rfl ?_
          refine r_getf (i := 24) (v := 6) (w := 2) (x := (2, 15)) rfl ly9 rfl rfl fun _ => ?_
          refine r_load (i := 25) (u := 1) (w := 0) rfl rfl rfl ?_
          refine a_int (i := 26) rfl ly15 rfl (by omega) (by omega) fun h35 => ?_
          have h36 := hI.a ta15 m.toNat
          refine r_const (i := 27) (u := 3) (z := 3) rfl rfl ?_
          refine c_ge (i := 28) (v := 40) rfl ⟨by omega, by omega⟩ ⟨by omega, by omega⟩ (fun h37 => ?_) (fun h38 => ?_)
          · refine r_const (i := 40) (u := 0) (z := 0) rfl rfl ?_
            have h39 := hI.a ta15 m.toNat
            exact r_retZ (i := 41) rfl (by omega) (by omega) ⟨0, rfl, by omega, by omega, (by omega), (by intro hz; first | exact absurd hz (by omega)), (by intro hz; first | exact absurd hz (by omega) | (intro hc; obtain ⟨c1, c2, c3, c4, c5⟩ := hc; first | (exfalso; omega) | exact nb31 (by omega) c3)), rfl⟩
          · refine r_load (i := 29) (u := 0) (w := 2) rfl rfl rfl ?_
            refine r_load (i := 30) (u := 1) (w := 0) rfl rfl rfl ?_
            refine r_load (i := 31) (u := 0) (w := 2) rfl rfl rfl ?_
            refine r_getf (i := 32) (v := 6) (w := 2) (x := (2, 15)) rfl ly9 rfl rfl fun _ => ?_
            refine r_load (i := 33) (u := 1) (w := 0) rfl rfl rfl ?_
            refine a_int (i := 34) rfl ly15 rfl (by omega) (by omega) fun h41 => ?_
            have h42 := hI.a ta15 m.toNat
            refine r_load (i := 35) (u := 2) (w := 0) rfl rfl rfl ?_
            refine r_call (i := 36) (u := 2) (v := 87) (w := 0) (b := 0) (na := 1284) (C2 := xC87) (as := [(2, 9), vi m, vi (S.a 15 m.toNat), vi t]) (s := []) rfl rfl rfl rfl rfl rfl rfl (sp87 (m := m) (h0 := S.a 15 m.toNat) (t := t) hI ⟨by omega, by omega⟩ ⟨by omega, by omega⟩ ⟨by omega, by omega⟩   (by omega)) (fun r43 S44 hq45 => ?_)
            obtain ⟨z46, rfl, h47, h48, ya49, na50, rfl⟩ := hq45
            refine Or.inr (Or.inl ⟨rfl, ?_⟩)
            refine z_ne (i := 37) (v := 40) rfl ⟨by omega, by omega⟩ (fun h51 => ?_) (fun h52 => ?_)
            · refine r_const (i := 40) (u := 0) (z := 0) rfl rfl ?_
              have h53 := hI.a ta15 m.toNat
              exact r_retZ (i := 41) rfl (by omega) (by omega) ⟨0, rfl, by omega, by omega, (by omega), (by intro hz; first | exact absurd hz (by omega) | exact ⟨by omega, by omega, yb30 (by omega), by omega, na50 (by omega)⟩), (by intro hz; first | exact absurd hz (by omega) | (intro hc; obtain ⟨c1, c2, c3, c4, c5⟩ := hc; first | (exfalso; omega) | exact nb31 (by omega) c3 | exact ya49 (by omega) c5)), rfl⟩
            · refine r_const (i := 38) (u := 1) (z := 1) rfl rfl ?_
              refine r_goto (i := 39) (v := 41) rfl ?_
              have h54 := hI.a ta15 m.toNat
              exact r_retZ (i := 41) rfl (by omega) (by omega) ⟨1, rfl, by omega, by omega, (by omega), (by intro hz; first | exact absurd hz (by omega) | exact ⟨by omega, by omega, yb30 (by omega), by omega, na50 (by omega)⟩), (by intro hz; first | exact absurd hz (by omega) | (intro hc; obtain ⟨c1, c2, c3, c4, c5⟩ := hc; first | (exfalso; omega) | exact nb31 (by omega) c3 | exact ya49 (by omega) c5)), rfl⟩
        · refine r_const (i := 21) (u := 0) (z := 0) rfl rfl ?_
          have h55 := hI.a ta15 m.toNat
          exact r_retZ (i := 22) rfl (by omega) (by omega) ⟨0, rfl, by omega, by omega, (by omega), (by intro hz; first | exact absurd hz (by omega)), (by intro hz; first | exact absurd hz (by omega) | (intro hc; obtain ⟨c1, c2, c3, c4, c5⟩ := hc; first | (exfalso; omega) | exact nb31 (by omega) c3)), rfl⟩
    · refine r_const (i := 7) (u := 0) (z := 0) rfl rfl ?_
      have h56 := hI.f tf1_7
      have h57 := hI.a ta15 m.toNat
      exact r_retZ (i := 8) rfl (by omega) (by omega) ⟨0, rfl, by omega, by omega, (by omega), (by intro hz; first | exact absurd hz (by omega)), (by intro hz; first | exact absurd hz (by omega) | (intro hc; obtain ⟨c1, c2, c3, c4, c5⟩ := hc; first | (exfalso; omega))), rfl⟩
/-- ProxyForge$Methods.addThrown -/
theorem sp74 {G : xk} {S : yS} {d : Nat} (hI : yI S) {m : Int} (h_m : 0 ≤ m ∧ m ≤ 59) {t : Int} (h_t : 0 ≤ t ∧ t ≤ 19) (p_0 : S.a 15 m.toNat ≤ 2) (hd : 0 ≤ d) : yT xPr G LY xC74 0 [some ((2, 9)), some (vi m), some (vi t)] [] S d (fun r S' => r = (0, (0, 0)) ∧ cTh S S' m t ∧ yI S' ∧ yFr [] [15, 16] S S' ∧ yRm [] S S') := by
  refine yT_pad 0 ?_
  show yT xPr G LY xC74 0 [some ((2, 9)), some (vi m), some (vi t)] [] S d _
  have hF : yFr [] [15, 16] S S := yFr.refl S
  have hR : yRm [] S S := yRm.refl S
  have h1 := hI.a ta15 m.toNat
  refine r_load (i := 0) (u := 0) (w := 2) rfl rfl rfl ?_
  refine r_getf (i := 1) (v := 7) (w := 2) (x := (2, 16)) rfl ly9 rfl rfl fun _ => ?_
  refine r_load (i := 2) (u := 1) (w := 0) rfl rfl rfl ?_
  refine r_const (i := 3) (u := 3) (z := 3) rfl rfl ?_
  refine r_imul (i := 4) rfl ?_
  refine r_load (i := 5) (u := 0) (w := 2) rfl rfl rfl ?_
  refine r_getf (i := 6) (v := 6) (w := 2) (x := (2, 15)) rfl ly9 rfl rfl fun _ => ?_
  refine r_load (i := 7) (u := 1) (w := 0) rfl rfl rfl ?_
  refine a_int (i := 8) rfl ly15 rfl (by omega) (by omega) fun h4 => ?_
  have h5 := hI.a ta15 m.toNat
  refine r_iadd (i := 9) rfl ?_
  refine r_load (i := 10) (u := 2) (w := 0) rfl rfl rfl ?_
  refine s_int (i := 11) rfl ly16 rfl (by omega) (by omega) ⟨by omega, by omega⟩ ?_
  have hI7 := hI.seta (b := 16) (j := ((m * 3) + (S.a 15 m.toNat)).toNat) (z := t) ta16 rfl (by omega) (by omega)
  have hF9 := hF.seta (b := 16) (j := ((m * 3) + (S.a 15 m.toNat)).toNat) (z := t) rfl
  have hR10 := hR.seta (b := 16) (j := ((m * 3) + (S.a 15 m.toNat)).toNat) (z := t)
  refine yT_gen (fun S6 hS8 => ?_)
  rw [hS8] at hI7 hF9 hR10 
  refine r_load (i := 12) (u := 0) (w := 2) rfl rfl rfl ?_
  refine r_getf (i := 13) (v := 6) (w := 2) (x := (2, 15)) rfl ly9 rfl rfl fun _ => ?_
  refine r_load (i := 14) (u := 1) (w := 0) rfl rfl rfl ?_
  refine r_dup2 (i := 15) rfl rfl rfl ?_
  refine a_int (i := 16) rfl ly15 rfl (by omega) (by omega) fun h12 => ?_
  have h13 := hI7.a ta15 m.toNat
  have h14 : S6.a 15 m.toNat = S.a 15 m.toNat := by rw [← hS8]; rfl
  refine r_const (i := 17) (u := 1) (z := 1) rfl rfl ?_
  refine r_iadd (i := 18) rfl ?_
  refine s_int (i := 19) rfl ly15 rfl (by omega) (by omega) ⟨by omega, by omega⟩ ?_
  have hI16 := hI7.seta (b := 15) (j := m.toNat) (z := (S6.a 15 m.toNat) + 1) ta15 rfl (by omega) (by omega)
  have hF18 := hF9.seta (b := 15) (j := m.toNat) (z := (S6.a 15 m.toNat) + 1) rfl
  have hR19 := hR10.seta (b := 15) (j := m.toNat) (z := (S6.a 15 m.toNat) + 1)
  refine yT_gen (fun S15 hS17 => ?_)
  rw [hS17] at hI16 hF18 hR19 
  exact r_ret0 (i := 20) rfl ⟨rfl, (by exact ⟨fun j => by subst hS8 hS17; rfl, fun j => by subst hS8 hS17; rfl⟩), hI16, hF18, hR19⟩
/-- ProxyForge$Proxy.has -/
theorem sp101 {G : xk} {S : yS} {d : Nat} (hI : yI S) {k : Int} (h_k : -2147483648 ≤ k ∧ k ≤ 2147483647) (hd : 0 ≤ d) : yT xPr G LY xC101 0 [some ((2, 22)), some (vi k)] [] S d (fun r S' => ∃ z : Int, r = (1, vi z) ∧ 0 ≤ z ∧ z ≤ 1 ∧ (z = 1 → 0 ≤ k ∧ k < S.f 22 3) ∧ (z = 0 → k < 0 ∨ S.f 22 3 ≤ k) ∧ S = S') := by
  refine yT_pad 0 ?_
  show yT xPr G LY xC101 0 [some ((2, 22)), some (vi k)] [] S d _
  refine r_load (i := 0) (u := 1) (w := 0) rfl rfl rfl ?_
  refine z_lt (i := 1) (v := 8) rfl ⟨by omega, by omega⟩ (fun h1 => ?_) (fun h2 => ?_)
  · refine r_const (i := 8) (u := 0) (z := 0) rfl rfl ?_
    have h3 := hI.f tf22_3
    exact r_retZ (i := 9) rfl (by omega) (by omega) ⟨0, rfl, by omega, by omega, (by omega), (by omega), rfl⟩
  · refine r_load (i := 2) (u := 1) (w := 0) rfl rfl rfl ?_
    refine r_load (i := 3) (u := 0) (w := 2) rfl rfl rfl ?_
    have h4 := hI.f tf22_3
    refine r_getf (i := 4) (v := 3) (w := 4) (x := vi (S.f 22 3)) rfl ly22 rfl rfl fun h5 => ?_
    have h5 : Rg (S.f 22 3) := h5
    refine c_ge (i := 5) (v := 8) rfl ⟨by omega, by omega⟩ ⟨by omega, by omega⟩ (fun h6 => ?_) (fun h7 => ?_)
    · refine r_const (i := 8) (u := 0) (z := 0) rfl rfl ?_
      exact r_retZ (i := 9) rfl (by omega) (by omega) ⟨0, rfl, by omega, by omega, (by omega), (by omega), rfl⟩
    · refine r_const (i := 6) (u := 1) (z := 1) rfl rfl ?_
      refine r_goto (i := 7) (v := 9) rfl ?_
      exact r_retZ (i := 9) rfl (by omega) (by omega) ⟨1, rfl, by omega, by omega, (by omega), (by omega), rfl⟩
/-- ProxyForge$Callback.take -/
theorem sp39 {G : xk} {S : yS} {d : Nat} (hI : yI S) {k : Int} (h_k : 0 ≤ k ∧ k ≤ 3) {b : Int} (h_b : 0 ≤ b ∧ b ≤ 23) {v : Int} (h_v : Rl v) (hd : 0 ≤ d) : yT xPr G LY xC39 0 [some ((2, 26)), some (vi k), some (vi b), some (vl v), none] [] S d (fun r S' => r = (0, (0, 0)) ∧ yI S' ∧ yFr [] [27, 28] S S' ∧ yRm [] S S') := by
  refine yT_pad 0 ?_
  show yT xPr G LY xC39 0 [some ((2, 26)), some (vi k), some (vi b), some (vl v), none] [] S d _
  have hF : yFr [] [27, 28] S S := yFr.refl S
  have hR : yRm [] S S := yRm.refl S
  refine r_load (i := 0) (u := 0) (w := 2) rfl rfl rfl ?_
  refine r_getf (i := 1) (v := 0) (w := 5) (x := (2, 27)) rfl ly26 rfl rfl fun _ => ?_
  refine r_load (i := 2) (u := 1) (w := 0) rfl rfl rfl ?_
  refine r_load (i := 3) (u := 2) (w := 0) rfl rfl rfl ?_
  refine s_int (i := 4) rfl ly27 rfl (by omega) (by omega) ⟨by omega, by omega⟩ ?_
  have hI3 := hI.seta (b := 27) (j := k.toNat) (z := b) ta27 rfl (by omega) (by omega)
  have hF5 := hF.seta (b := 27) (j := k.toNat) (z := b) rfl
  have hR6 := hR.seta (b := 27) (j := k.toNat) (z := b)
  refine yT_gen (fun S2 hS4 => ?_)
  rw [hS4] at hI3 hF5 hR6 
  refine r_load (i := 5) (u := 0) (w := 2) rfl rfl rfl ?_
  refine r_getf (i := 6) (v := 1) (w := 5) (x := (2, 28)) rfl ly26 rfl rfl fun _ => ?_
  refine r_load (i := 7) (u := 1) (w := 0) rfl rfl rfl ?_
  refine r_load (i := 8) (u := 3) (w := 1) rfl rfl rfl ?_
  refine r_lastore (i := 9) rfl ly28 (by decide) (by omega) (by omega) ⟨by omega, by omega⟩ ?_
  have hI9 := hI3.seta0 (b := 28) (j := k.toNat) (z := v) rfl rfl
  have hF11 := hF5.seta (b := 28) (j := k.toNat) (z := v) rfl
  have hR12 := hR6.seta (b := 28) (j := k.toNat) (z := v)
  refine yT_gen (fun S8 hS10 => ?_)
  rw [hS10] at hI9 hF11 hR12 
  exact r_ret0 (i := 10) rfl ⟨rfl,  hI9, hF11, hR12⟩
/-- ProxyForge$Callback.learn -/
theorem sp38 {G : xk} {S : yS} {d : Nat} (hI : yI S) {k : Int} (h_k : 0 ≤ k ∧ k ≤ 5) {v : Int} (h_v : Rl v) (p_0 : 4 ≤ k → 0 ≤ v ∧ v ≤ 19) (hd : 0 ≤ d) : yT xPr G LY xC38 0 [some ((2, 26)), some (vi k), some (vl v), none] [] S d (fun r S' => r = (0, (0, 0)) ∧ yI S' ∧ yFr [(26, 4), (26, 5)] [] S S' ∧ yRm [] S S') := by
  refine yT_pad 0 ?_
  show yT xPr G LY xC38 0 [some ((2, 26)), some (vi k), some (vl v), none] [] S d _
  have hF : yFr [(26, 4), (26, 5)] [] S S := yFr.refl S
  have hR : yRm [] S S := yRm.refl S
  refine r_load (i := 0) (u := 0) (w := 2) rfl rfl rfl ?_
  refine r_load (i := 1) (u := 1) (w := 0) rfl rfl rfl ?_
  refine r_putI (i := 2) (v := 4) (w := 5) rfl ly26 rfl ⟨by omega, by omega⟩ ?_
  have hF4 := hF.setf (b := 26) (w := 4) (z := k) rfl
  have hR5 := hR.setf (b := 26) (w := 4) (z := k)
  refine yT_gen (fun S1 hS3 => ?_)
  rw [hS3] at hF4 hR5 
  refine r_load (i := 3) (u := 0) (w := 2) rfl rfl rfl ?_
  refine r_load (i := 4) (u := 2) (w := 1) rfl rfl rfl ?_
  refine r_putL (i := 5) (v := 5) (w := 5) rfl ly26 rfl ⟨by omega, by omega⟩ ?_
  have hI7 := hI.set26 (z := k) (y := v) (by omega) (by omega) (by omega)
  rw [hS3] at hI7
  have hF9 := hF4.setf (b := 26) (w := 5) (z := v) rfl
  have hR10 := hR5.setf (b := 26) (w := 5) (z := v)
  refine yT_gen (fun S6 hS8 => ?_)
  rw [hS8] at hI7 hF9 hR10 
  refine r_load (i := 6) (u := 1) (w := 0) rfl rfl rfl ?_
  refine r_const (i := 7) (u := 1) (z := 1) rfl rfl ?_
  refine c_ne (i := 8) (v := 15) rfl ⟨by omega, by omega⟩ ⟨by omega, by omega⟩ (fun h11 => ?_) (fun h12 => ?_)
  · refine r_load (i := 15) (u := 1) (w := 0) rfl rfl rfl ?_
    refine r_const (i := 16) (u := 3) (z := 3) rfl rfl ?_
    refine c_ne (i := 17) (v := 23) rfl ⟨by omega, by omega⟩ ⟨by omega, by omega⟩ (fun h13 => ?_) (fun h14 => ?_)
    · exact r_ret0 (i := 23) rfl ⟨rfl,  hI7, hF9, hR10⟩
    · refine r_load (i := 18) (u := 0) (w := 2) rfl rfl rfl ?_
      refine r_load (i := 19) (u := 2) (w := 1) rfl rfl rfl ?_
      refine r_lconst (i := 20) (u := 1) (z := 1) rfl rfl ?_
      refine r_land (i := 21) rfl ?_
      have h15 := @yland_c v 1 (by decide) (by decide)
      refine r_putL (i := 22) (v := 5) (w := 5) rfl ly26 rfl ⟨by omega, by omega⟩ ?_
      have h20 := hI7.f tf26_4
      have h21 := hI7.c2
      have h22 : S6.f 26 4 = S1.f 26 4 := by rw [← hS8]; exact ysf_ne (by decide)
      have h23 : S1.f 26 4 = k := by rw [← hS3]; exact ysf_eq
      have hI17 := hI7.set26v (y := yland v 1) (by omega)
      have hF19 := hF9.setf (b := 26) (w := 5) (z := yland v 1) rfl
      have hR24 := hR10.setf (b := 26) (w := 5) (z := yland v 1)
      refine yT_gen (fun S16 hS18 => ?_)
      rw [hS18] at hI17 hF19 hR24 
      exact r_ret0 (i := 23) rfl ⟨rfl,  hI17, hF19, hR24⟩
  · refine r_load (i := 9) (u := 0) (w := 2) rfl rfl rfl ?_
    refine r_load (i := 10) (u := 2) (w := 1) rfl rfl rfl ?_
    refine r_l2i (i := 11) rfl ?_
    rw [vi_sg v]
    have h25 := ysg_fact v
    refine r_i2l (i := 12) rfl ⟨by omega, by omega⟩ ?_
    refine r_putL (i := 13) (v := 5) (w := 5) rfl ly26 rfl ⟨by omega, by omega⟩ ?_
    have h30 := hI7.f tf26_4
    have h31 := hI7.c2
    have h32 : S6.f 26 4 = S1.f 26 4 := by rw [← hS8]; exact ysf_ne (by decide)
    have h33 : S1.f 26 4 = k := by rw [← hS3]; exact ysf_eq
    have hI27 := hI7.set26v (y := ysg v) (by omega)
    have hF29 := hF9.setf (b := 26) (w := 5) (z := ysg v) rfl
    have hR34 := hR10.setf (b := 26) (w := 5) (z := ysg v)
    refine yT_gen (fun S26 hS28 => ?_)
    rw [hS28] at hI27 hF29 hR34 
    refine r_goto (i := 14) (v := 23) rfl ?_
    exact r_ret0 (i := 23) rfl ⟨rfl,  hI27, hF29, hR34⟩
/-- ProxyForge$Caller.end -/
theorem sp43 {G : xk} {S : yS} {d : Nat} (hI : yI S) {w0 : Int} (h_w0 : -2147483648 ≤ w0 ∧ w0 ≤ 2147483647) {v : Int} (h_v : Rl v) (hd : 0 ≤ d) : yT xPr G LY xC43 0 [some ((2, 29)), some (vi w0), some (vl v), none] [] S d (fun r S' => ∃ z : Int, r = (1, vi z) ∧ -2147483648 ≤ z ∧ z ≤ 2147483647 ∧ yI S' ∧ yFr [(29, 5)] [] S S' ∧ yRm [] S S') := by
  refine yT_pad 0 ?_
  show yT xPr G LY xC43 0 [some ((2, 29)), some (vi w0), some (vl v), none] [] S d _
  have hF : yFr [(29, 5)] [] S S := yFr.refl S
  have hR : yRm [] S S := yRm.refl S
  refine r_load (i := 0) (u := 0) (w := 2) rfl rfl rfl ?_
  refine r_load (i := 1) (u := 2) (w := 1) rfl rfl rfl ?_
  refine r_putL (i := 2) (v := 5) (w := 6) rfl ly29 rfl ⟨by omega, by omega⟩ ?_
  have hI2 := hI.setf0 (b := 29) (w := 5) (z := v) rfl rfl
  have hF4 := hF.setf (b := 29) (w := 5) (z := v) rfl
  have hR5 := hR.setf (b := 29) (w := 5) (z := v)
  refine yT_gen (fun S1 hS3 => ?_)
  rw [hS3] at hI2 hF4 hR5 
  refine r_load (i := 3) (u := 1) (w := 0) rfl rfl rfl ?_
  exact r_retI (i := 4) rfl ⟨w0, rfl, by omega, by omega, hI2, hF4, hR5⟩
/-- ProxyForge$Caller.original -/
theorem sp46 {G : xk} {S : yS} {d : Nat} (hI : yI S) {m : Int} (h_m : 0 ≤ m ∧ m ≤ 59) (hd : 1 ≤ d) : yT xPr G LY xC46 0 [some ((2, 29)), some (vi m)] [] S d (fun r S' => ∃ z : Int, r = (1, vi z) ∧ -2147483648 ≤ z ∧ z ≤ 2147483647 ∧ yI S' ∧ yFr [(29, 5)] [] S S' ∧ yRm [] S S') := by
  refine yT_pad 0 ?_
  show yT xPr G LY xC46 0 [some ((2, 29)), some (vi m)] [] S d _
  obtain ⟨d, rfl⟩ : ∃ q, d = q + 1 := ⟨d - 1, by omega⟩
  have hF : yFr [(29, 5)] [] S S := yFr.refl S
  have hR : yRm [] S S := yRm.refl S
  refine r_load (i := 0) (u := 0) (w := 2) rfl rfl rfl ?_
  refine r_getf (i := 1) (v := 1) (w := 6) (x := (2, 9)) rfl ly29 rfl rfl fun _ => ?_
  refine r_load (i := 2) (u := 1) (w := 0) rfl rfl rfl ?_
  refine r_const (i := 3) (u := 32) (z := 32) rfl rfl ?_
  have h2 := hI.a ta12 m.toNat
  have h3 := hI.a ta12 m.toNat
  refine r_call (i := 4) (u := 2) (v := 76) (w := 0) (b := 0) (na := 771) (C2 := xC76) (as := [(2, 9), vi m, vi 32]) (s := []) rfl rfl rfl rfl rfl rfl rfl (sp76 (m := m) (fl := 32) hI ⟨by omega, by omega⟩ ⟨by omega, by omega⟩   (by omega)) (fun r4 S5 hq6 => ?_)
  obtain ⟨z7, rfl, h8, h9, h10, h11, rfl⟩ := hq6
  refine Or.inr (Or.inl ⟨rfl, ?_⟩)
  refine z_eq (i := 5) (v := 11) rfl ⟨by omega, by omega⟩ (fun h12 => ?_) (fun h13 => ?_)
  · refine r_load (i := 11) (u := 0) (w := 2) rfl rfl rfl ?_
    refine r_const (i := 12) (u := 0) (z := 0) rfl rfl ?_
    refine r_load (i := 13) (u := 0) (w := 2) rfl rfl rfl ?_
    refine r_getf (i := 14) (v := 1) (w := 6) (x := (2, 9)) rfl ly29 rfl rfl fun _ => ?_
    refine r_getf (i := 15) (v := 5) (w := 2) (x := (2, 14)) rfl ly9 rfl rfl fun _ => ?_
    refine r_load (i := 16) (u := 1) (w := 0) rfl rfl rfl ?_
    refine a_int (i := 17) rfl ly14 rfl (by omega) (by omega) fun h16 => ?_
    have h17 := hI.a ta14 m.toNat
    refine r_const (i := 18) (u := 4) (z := 4) rfl rfl ?_
    refine c_lt (i := 19) (v := 22) rfl ⟨by omega, by omega⟩ ⟨by omega, by omega⟩ (fun h18 => ?_) (fun h19 => ?_)
    · refine r_lconst (i := 22) (u := 0) (z := 0) rfl rfl ?_
      refine r_call (i := 23) (u := 6) (v := 43) (w := 0) (b := 0) (na := 1027) (C2 := xC43) (as := [(2, 29), vi 0, vl 0]) (s := []) rfl rfl rfl rfl rfl rfl rfl (sp43 (w0 := 0) (v := 0) hI ⟨by omega, by omega⟩ ⟨by omega, by omega⟩   (by omega)) (fun r20 S21 hq22 => ?_)
      obtain ⟨z23, rfl, h24, h25, hI26, hF27, hR28⟩ := hq22
      have hF29 := hF.trans hF27 rfl rfl
      have hR30 := hR.trans hR28 rfl
      refine Or.inr (Or.inl ⟨rfl, ?_⟩)
      exact r_retI (i := 24) rfl ⟨z23, rfl, by omega, by omega, hI26, hF29, hR30⟩
    · refine r_lconst (i := 20) (u := 18446744073709551615) (z := -1) rfl rfl ?_
      refine r_goto (i := 21) (v := 23) rfl ?_
      refine r_call (i := 23) (u := 6) (v := 43) (w := 0) (b := 0) (na := 1027) (C2 := xC43) (as := [(2, 29), vi 0, vl (-1)]) (s := []) rfl rfl rfl rfl rfl rfl rfl (sp43 (w0 := 0) (v := -1) hI ⟨by omega, by omega⟩ ⟨by omega, by omega⟩   (by omega)) (fun r31 S32 hq33 => ?_)
      obtain ⟨z34, rfl, h35, h36, hI37, hF38, hR39⟩ := hq33
      have hF40 := hF.trans hF38 rfl rfl
      have hR41 := hR.trans hR39 rfl
      refine Or.inr (Or.inl ⟨rfl, ?_⟩)
      exact r_retI (i := 24) rfl ⟨z34, rfl, by omega, by omega, hI37, hF40, hR41⟩
  · refine r_load (i := 6) (u := 0) (w := 2) rfl rfl rfl ?_
    refine r_const (i := 7) (u := 5) (z := 5) rfl rfl ?_
    refine r_lconst (i := 8) (u := 0) (z := 0) rfl rfl ?_
    refine r_call (i := 9) (u := 6) (v := 43) (w := 0) (b := 0) (na := 1027) (C2 := xC43) (as := [(2, 29), vi 5, vl 0]) (s := []) rfl rfl rfl rfl rfl rfl rfl (sp43 (w0 := 5) (v := 0) hI ⟨by omega, by omega⟩ ⟨by omega, by omega⟩   (by omega)) (fun r42 S43 hq44 => ?_)
    obtain ⟨z45, rfl, h46, h47, hI48, hF49, hR50⟩ := hq44
    have hF51 := hF.trans hF49 rfl rfl
    have hR52 := hR.trans hR50 rfl
    refine Or.inr (Or.inl ⟨rfl, ?_⟩)
    exact r_retI (i := 10) rfl ⟨z45, rfl, by omega, by omega, hI48, hF51, hR52⟩
/-- ProxyForge$Caller.dispatched -/
theorem sp42 {G : xk} {S : yS} {d : Nat} (hI : yI S) {m : Int} (h_m : 0 ≤ m ∧ m ≤ 59) (hd : 2 ≤ d) : yT xPr G LY xC42 0 [some ((2, 29)), some (vi m)] [] S d (fun r S' => ∃ z : Int, r = (1, vi z) ∧ -2147483648 ≤ z ∧ z ≤ 2147483647 ∧ yI S' ∧ yFr [(29, 5)] [] S S' ∧ yRm [] S S') := by
  refine yT_pad 0 ?_
  show yT xPr G LY xC42 0 [some ((2, 29)), some (vi m)] [] S d _
  obtain ⟨d, rfl⟩ : ∃ q, d = q + 1 := ⟨d - 1, by omega⟩
  have hF : yFr [(29, 5)] [] S S := yFr.refl S
  have hR : yRm [] S S := yRm.refl S
  refine r_load (i := 0) (u := 0) (w := 2) rfl rfl rfl ?_
  refine r_getf (i := 1) (v := 3) (w := 6) (x := (2, 26)) rfl ly29 rfl rfl fun _ => ?_
  have h2 := hI.f tf26_4
  have h3 := hI.c2
  refine r_getf (i := 2) (v := 4) (w := 5) (x := vi (S.f 26 4)) rfl ly26 rfl rfl fun h4 => ?_
  have h4 : Rg (S.f 26 4) := h4
  refine z_ne (i := 3) (v := 9) rfl ⟨by omega, by omega⟩ (fun h5 => ?_) (fun h6 => ?_)
  · refine r_load (i := 9) (u := 0) (w := 2) rfl rfl rfl ?_
    refine r_getf (i := 10) (v := 3) (w := 6) (x := (2, 26)) rfl ly29 rfl rfl fun _ => ?_
    refine r_getf (i := 11) (v := 4) (w := 5) (x := vi (S.f 26 4)) rfl ly26 rfl rfl fun h8 => ?_
    have h8 : Rg (S.f 26 4) := h8
    refine r_const (i := 12) (u := 4) (z := 4) rfl rfl ?_
    refine c_ne (i := 13) (v := 27) rfl ⟨by omega, by omega⟩ ⟨by omega, by omega⟩ (fun h9 => ?_) (fun h10 => ?_)
    · refine r_load (i := 27) (u := 0) (w := 2) rfl rfl rfl ?_
      refine r_const (i := 28) (u := 3) (z := 3) rfl rfl ?_
      refine r_lconst (i := 29) (u := 0) (z := 0) rfl rfl ?_
      refine r_call (i := 30) (u := 6) (v := 43) (w := 0) (b := 0) (na := 1027) (C2 := xC43) (as := [(2, 29), vi 3, vl 0]) (s := []) rfl rfl rfl rfl rfl rfl rfl (sp43 (w0 := 3) (v := 0) hI ⟨by omega, by omega⟩ ⟨by omega, by omega⟩   (by omega)) (fun r11 S12 hq13 => ?_)
      obtain ⟨z14, rfl, h15, h16, hI17, hF18, hR19⟩ := hq13
      have hF20 := hF.trans hF18 rfl rfl
      have hR21 := hR.trans hR19 rfl
      refine Or.inr (Or.inl ⟨rfl, ?_⟩)
      exact r_retI (i := 31) rfl ⟨z14, rfl, by omega, by omega, hI17, hF20, hR21⟩
    · refine r_load (i := 14) (u := 0) (w := 2) rfl rfl rfl ?_
      refine r_getf (i := 15) (v := 0) (w := 6) (x := (2, 1)) rfl ly29 rfl rfl fun _ => ?_
      refine r_load (i := 16) (u := 0) (w := 2) rfl rfl rfl ?_
      refine r_getf (i := 17) (v := 3) (w := 6) (x := (2, 26)) rfl ly29 rfl rfl fun _ => ?_
      have h24 := hI.c2
      refine r_getf (i := 18) (v := 5) (w := 5) (x := vl (S.f 26 5)) rfl ly26 rfl rfl fun h25 => ?_
      have h25 : Rl (S.f 26 5) := h25
      refine r_l2i (i := 19) rfl ?_
      rw [vi_sg (S.f 26 5)]
      have h26 := ysg_fact (S.f 26 5)
      refine r_load (i := 20) (u := 0) (w := 2) rfl rfl rfl ?_
      refine r_getf (i := 21) (v := 1) (w := 6) (x := (2, 9)) rfl ly29 rfl rfl fun _ => ?_
      refine r_getf (i := 22) (v := 1) (w := 2) (x := (2, 10)) rfl ly9 rfl rfl fun _ => ?_
      refine r_load (i := 23) (u := 1) (w := 0) rfl rfl rfl ?_
      refine a_int (i := 24) rfl ly10 rfl (by omega) (by omega) fun h29 => ?_
      have h30 := hI.a ta10 m.toNat
      refine r_call (i := 25) (u := 1) (v := 133) (w := 0) (b := 0) (na := 771) (C2 := xC133) (as := [(2, 1), vi (ysg (S.f 26 5)), vi (S.a 10 m.toNat)]) (s := []) rfl rfl rfl rfl rfl rfl rfl (sp133 (t := ysg (S.f 26 5)) (o := S.a 10 m.toNat) hI ⟨by omega, by omega⟩ ⟨by omega, by omega⟩   (by omega)) (fun r31 S32 hq33 => ?_)
      obtain ⟨z34, rfl, h35, h36, yb37, nb38, rfl⟩ := hq33
      refine Or.inr (Or.inl ⟨rfl, ?_⟩)
      refine z_ne (i := 26) (v := 32) rfl ⟨by omega, by omega⟩ (fun h39 => ?_) (fun h40 => ?_)
      · refine r_load (i := 32) (u := 0) (w := 2) rfl rfl rfl ?_
        refine r_load (i := 33) (u := 1) (w := 0) rfl rfl rfl ?_
        refine r_call (i := 34) (u := 6) (v := 46) (w := 0) (b := 0) (na := 514) (C2 := xC46) (as := [(2, 29), vi m]) (s := []) rfl rfl rfl rfl rfl rfl rfl (sp46 (m := m) hI ⟨by omega, by omega⟩   (by omega)) (fun r41 S42 hq43 => ?_)
        obtain ⟨z44, rfl, h45, h46, hI47, hF48, hR49⟩ := hq43
        have hF50 := hF.trans hF48 rfl rfl
        have hR51 := hR.trans hR49 rfl
        refine Or.inr (Or.inl ⟨rfl, ?_⟩)
        exact r_retI (i := 35) rfl ⟨z44, rfl, by omega, by omega, hI47, hF50, hR51⟩
      · refine r_load (i := 27) (u := 0) (w := 2) rfl rfl rfl ?_
        refine r_const (i := 28) (u := 3) (z := 3) rfl rfl ?_
        refine r_lconst (i := 29) (u := 0) (z := 0) rfl rfl ?_
        refine r_call (i := 30) (u := 6) (v := 43) (w := 0) (b := 0) (na := 1027) (C2 := xC43) (as := [(2, 29), vi 3, vl 0]) (s := []) rfl rfl rfl rfl rfl rfl rfl (sp43 (w0 := 3) (v := 0) hI ⟨by omega, by omega⟩ ⟨by omega, by omega⟩   (by omega)) (fun r52 S53 hq54 => ?_)
        obtain ⟨z55, rfl, h56, h57, hI58, hF59, hR60⟩ := hq54
        have hF61 := hF.trans hF59 rfl rfl
        have hR62 := hR.trans hR60 rfl
        refine Or.inr (Or.inl ⟨rfl, ?_⟩)
        exact r_retI (i := 31) rfl ⟨z55, rfl, by omega, by omega, hI58, hF61, hR62⟩
  · refine r_load (i := 4) (u := 0) (w := 2) rfl rfl rfl ?_
    refine r_const (i := 5) (u := 2) (z := 2) rfl rfl ?_
    refine r_lconst (i := 6) (u := 0) (z := 0) rfl rfl ?_
    refine r_call (i := 7) (u := 6) (v := 43) (w := 0) (b := 0) (na := 1027) (C2 := xC43) (as := [(2, 29), vi 2, vl 0]) (s := []) rfl rfl rfl rfl rfl rfl rfl (sp43 (w0 := 2) (v := 0) hI ⟨by omega, by omega⟩ ⟨by omega, by omega⟩   (by omega)) (fun r63 S64 hq65 => ?_)
    obtain ⟨z66, rfl, h67, h68, hI69, hF70, hR71⟩ := hq65
    have hF72 := hF.trans hF70 rfl rfl
    have hR73 := hR.trans hR71 rfl
    refine Or.inr (Or.inl ⟨rfl, ?_⟩)
    exact r_retI (i := 8) rfl ⟨z66, rfl, by omega, by omega, hI69, hF72, hR73⟩
/-- ProxyForge$Caller.castTo -/
theorem sp41 {G : xk} {S : yS} {d : Nat} (hI : yI S) {t : Int} (h_t : 0 ≤ t ∧ t ≤ 19) (hd : 1 ≤ d) : yT xPr G LY xC41 0 [some ((2, 29)), some (vi t)] [] S d (fun r S' => ∃ z : Int, r = (1, vi z) ∧ -2147483648 ≤ z ∧ z ≤ 2147483647 ∧ yI S' ∧ yFr [(29, 5)] [] S S' ∧ yRm [] S S') := by
  refine yT_pad 1 ?_
  show yT xPr G LY xC41 0 [some ((2, 29)), some (vi t), none] [] S d _
  obtain ⟨d, rfl⟩ : ∃ q, d = q + 1 := ⟨d - 1, by omega⟩
  have hF : yFr [(29, 5)] [] S S := yFr.refl S
  have hR : yRm [] S S := yRm.refl S
  refine r_load (i := 0) (u := 0) (w := 2) rfl rfl rfl ?_
  refine r_getf (i := 1) (v := 3) (w := 6) (x := (2, 26)) rfl ly29 rfl rfl fun _ => ?_
  have h2 := hI.f tf26_4
  have h3 := hI.c2
  refine r_getf (i := 2) (v := 4) (w := 5) (x := vi (S.f 26 4)) rfl ly26 rfl rfl fun h4 => ?_
  have h4 : Rg (S.f 26 4) := h4
  refine z_ne (i := 3) (v := 9) rfl ⟨by omega, by omega⟩ (fun h5 => ?_) (fun h6 => ?_)
  · refine r_load (i := 9) (u := 0) (w := 2) rfl rfl rfl ?_
    refine r_getf (i := 10) (v := 3) (w := 6) (x := (2, 26)) rfl ly29 rfl rfl fun _ => ?_
    refine r_getf (i := 11) (v := 4) (w := 5) (x := vi (S.f 26 4)) rfl ly26 rfl rfl fun h8 => ?_
    have h8 : Rg (S.f 26 4) := h8
    refine r_const (i := 12) (u := 4) (z := 4) rfl rfl ?_
    refine c_ne (i := 13) (v := 37) rfl ⟨by omega, by omega⟩ ⟨by omega, by omega⟩ (fun h9 => ?_) (fun h10 => ?_)
    · refine r_load (i := 37) (u := 1) (w := 0) rfl rfl rfl ?_
      refine z_ne (i := 38) (v := 49) rfl ⟨by omega, by omega⟩ (fun h11 => ?_) (fun h12 => ?_)
      · refine r_load (i := 49) (u := 0) (w := 2) rfl rfl rfl ?_
        refine r_const (i := 50) (u := 3) (z := 3) rfl rfl ?_
        refine r_lconst (i := 51) (u := 0) (z := 0) rfl rfl ?_
        refine r_call (i := 52) (u := 6) (v := 43) (w := 0) (b := 0) (na := 1027) (C2 := xC43) (as := [(2, 29), vi 3, vl 0]) (s := []) rfl rfl rfl rfl rfl rfl rfl (sp43 (w0 := 3) (v := 0) hI ⟨by omega, by omega⟩ ⟨by omega, by omega⟩   (by omega)) (fun r13 S14 hq15 => ?_)
        obtain ⟨z16, rfl, h17, h18, hI19, hF20, hR21⟩ := hq15
        have hF22 := hF.trans hF20 rfl rfl
        have hR23 := hR.trans hR21 rfl
        refine Or.inr (Or.inl ⟨rfl, ?_⟩)
        exact r_retI (i := 53) rfl ⟨z16, rfl, by omega, by omega, hI19, hF22, hR23⟩
      · refine r_load (i := 39) (u := 0) (w := 2) rfl rfl rfl ?_
        refine r_const (i := 40) (u := 0) (z := 0) rfl rfl ?_
        refine r_const (i := 41) (u := 4294967295) (z := -1) rfl rfl ?_
        refine r_load (i := 42) (u := 0) (w := 2) rfl rfl rfl ?_
        refine r_getf (i := 43) (v := 3) (w := 6) (x := (2, 26)) rfl ly29 rfl rfl fun _ => ?_
        refine r_getf (i := 44) (v := 4) (w := 5) (x := vi (S.f 26 4)) rfl ly26 rfl rfl fun h25 => ?_
        have h25 : Rg (S.f 26 4) := h25
        refine r_isub (i := 45) rfl ?_
        refine r_i2l (i := 46) rfl ⟨by omega, by omega⟩ ?_
        refine r_call (i := 47) (u := 6) (v := 43) (w := 0) (b := 0) (na := 1027) (C2 := xC43) (as := [(2, 29), vi 0, vl ((-1) - (S.f 26 4))]) (s := []) rfl rfl rfl rfl rfl rfl rfl (sp43 (w0 := 0) (v := (-1) - (S.f 26 4)) hI ⟨by omega, by omega⟩ ⟨by omega, by omega⟩   (by omega)) (fun r26 S27 hq28 => ?_)
        obtain ⟨z29, rfl, h30, h31, hI32, hF33, hR34⟩ := hq28
        have hF35 := hF.trans hF33 rfl rfl
        have hR36 := hR.trans hR34 rfl
        refine Or.inr (Or.inl ⟨rfl, ?_⟩)
        refine r_goto (i := 48) (v := 53) rfl ?_
        exact r_retI (i := 53) rfl ⟨z29, rfl, by omega, by omega, hI32, hF35, hR36⟩
    · refine r_load (i := 14) (u := 0) (w := 2) rfl rfl rfl ?_
      refine r_getf (i := 15) (v := 0) (w := 6) (x := (2, 1)) rfl ly29 rfl rfl fun _ => ?_
      refine r_load (i := 16) (u := 0) (w := 2) rfl rfl rfl ?_
      refine r_getf (i := 17) (v := 3) (w := 6) (x := (2, 26)) rfl ly29 rfl rfl fun _ => ?_
      have h39 := hI.c2
      refine r_getf (i := 18) (v := 5) (w := 5) (x := vl (S.f 26 5)) rfl ly26 rfl rfl fun h40 => ?_
      have h40 : Rl (S.f 26 5) := h40
      refine r_l2i (i := 19) rfl ?_
      rw [vi_sg (S.f 26 5)]
      have h41 := ysg_fact (S.f 26 5)
      refine r_load (i := 20) (u := 1) (w := 0) rfl rfl rfl ?_
      refine r_call (i := 21) (u := 1) (v := 133) (w := 0) (b := 0) (na := 771) (C2 := xC133) (as := [(2, 1), vi (ysg (S.f 26 5)), vi t]) (s := []) rfl rfl rfl rfl rfl rfl rfl (sp133 (t := ysg (S.f 26 5)) (o := t) hI ⟨by omega, by omega⟩ ⟨by omega, by omega⟩   (by omega)) (fun r42 S43 hq44 => ?_)
      obtain ⟨z45, rfl, h46, h47, yb48, nb49, rfl⟩ := hq44
      refine Or.inr (Or.inl ⟨rfl, ?_⟩)
      refine r_store (i := 22) (u := 2) (w := 0) (L1 := [some ((2, 29)), some (vi t), some (vi z45)]) rfl rfl rfl rfl ?_
      refine r_load (i := 23) (u := 2) (w := 0) rfl rfl rfl ?_
      refine z_eq (i := 24) (v := 32) rfl ⟨by omega, by omega⟩ (fun h50 => ?_) (fun h51 => ?_)
      · refine r_load (i := 32) (u := 0) (w := 2) rfl rfl rfl ?_
        refine r_const (i := 33) (u := 3) (z := 3) rfl rfl ?_
        refine r_lconst (i := 34) (u := 0) (z := 0) rfl rfl ?_
        refine r_call (i := 35) (u := 6) (v := 43) (w := 0) (b := 0) (na := 1027) (C2 := xC43) (as := [(2, 29), vi 3, vl 0]) (s := []) rfl rfl rfl rfl rfl rfl rfl (sp43 (w0 := 3) (v := 0) hI ⟨by omega, by omega⟩ ⟨by omega, by omega⟩   (by omega)) (fun r52 S53 hq54 => ?_)
        obtain ⟨z55, rfl, h56, h57, hI58, hF59, hR60⟩ := hq54
        have hF61 := hF.trans hF59 rfl rfl
        have hR62 := hR.trans hR60 rfl
        refine Or.inr (Or.inl ⟨rfl, ?_⟩)
        exact r_retI (i := 36) rfl ⟨z55, rfl, by omega, by omega, hI58, hF61, hR62⟩
      · refine r_load (i := 25) (u := 0) (w := 2) rfl rfl rfl ?_
        refine r_const (i := 26) (u := 0) (z := 0) rfl rfl ?_
        refine r_load (i := 27) (u := 0) (w := 2) rfl rfl rfl ?_
        refine r_getf (i := 28) (v := 3) (w := 6) (x := (2, 26)) rfl ly29 rfl rfl fun _ => ?_
        refine r_getf (i := 29) (v := 5) (w := 5) (x := vl (S.f 26 5)) rfl ly26 rfl rfl fun h64 => ?_
        have h64 : Rl (S.f 26 5) := h64
        refine r_call (i := 30) (u := 6) (v := 43) (w := 0) (b := 0) (na := 1027) (C2 := xC43) (as := [(2, 29), vi 0, vl (S.f 26 5)]) (s := []) rfl rfl rfl rfl rfl rfl rfl (sp43 (w0 := 0) (v := S.f 26 5) hI ⟨by omega, by omega⟩ ⟨by omega, by omega⟩   (by omega)) (fun r65 S66 hq67 => ?_)
        obtain ⟨z68, rfl, h69, h70, hI71, hF72, hR73⟩ := hq67
        have hF74 := hF.trans hF72 rfl rfl
        have hR75 := hR.trans hR73 rfl
        refine Or.inr (Or.inl ⟨rfl, ?_⟩)
        refine r_goto (i := 31) (v := 36) rfl ?_
        exact r_retI (i := 36) rfl ⟨z68, rfl, by omega, by omega, hI71, hF74, hR75⟩
  · refine r_load (i := 4) (u := 0) (w := 2) rfl rfl rfl ?_
    refine r_const (i := 5) (u := 0) (z := 0) rfl rfl ?_
    refine r_lconst (i := 6) (u := 18446744073709551615) (z := -1) rfl rfl ?_
    refine r_call (i := 7) (u := 6) (v := 43) (w := 0) (b := 0) (na := 1027) (C2 := xC43) (as := [(2, 29), vi 0, vl (-1)]) (s := []) rfl rfl rfl rfl rfl rfl rfl (sp43 (w0 := 0) (v := -1) hI ⟨by omega, by omega⟩ ⟨by omega, by omega⟩   (by omega)) (fun r76 S77 hq78 => ?_)
    obtain ⟨z79, rfl, h80, h81, hI82, hF83, hR84⟩ := hq78
    have hF85 := hF.trans hF83 rfl rfl
    have hR86 := hR.trans hR84 rfl
    refine Or.inr (Or.inl ⟨rfl, ?_⟩)
    exact r_retI (i := 8) rfl ⟨z79, rfl, by omega, by omega, hI82, hF85, hR86⟩
/-- ProxyForge$Caller.unboxed -/
theorem sp48 {G : xk} {S : yS} {d : Nat} (hI : yI S) {b : Int} (h_b : 0 ≤ b ∧ b ≤ 23) (hd : 2 ≤ d) : yT xPr G LY xC48 0 [some ((2, 29)), some (vi b)] [] S d (fun r S' => ∃ z : Int, r = (1, vi z) ∧ -2147483648 ≤ z ∧ z ≤ 2147483647 ∧ yI S' ∧ yFr [(29, 5)] [] S S' ∧ yRm [] S S') := by
  refine yT_pad 0 ?_
  show yT xPr G LY xC48 0 [some ((2, 29)), some (vi b)] [] S d _
  obtain ⟨d, rfl⟩ : ∃ q, d = q + 1 := ⟨d - 1, by omega⟩
  have hF : yFr [(29, 5)] [] S S := yFr.refl S
  have hR : yRm [] S S := yRm.refl S
  refine r_load (i := 0) (u := 1) (w := 0) rfl rfl rfl ?_
  refine z_ne (i := 1) (v := 7) rfl ⟨by omega, by omega⟩ (fun h1 => ?_) (fun h2 => ?_)
  · refine r_load (i := 7) (u := 1) (w := 0) rfl rfl rfl ?_
    refine r_const (i := 8) (u := 4) (z := 4) rfl rfl ?_
    refine c_lt (i := 9) (v := 16) rfl ⟨by omega, by omega⟩ ⟨by omega, by omega⟩ (fun h3 => ?_) (fun h4 => ?_)
    · refine r_load (i := 16) (u := 0) (w := 2) rfl rfl rfl ?_
      refine r_getf (i := 17) (v := 3) (w := 6) (x := (2, 26)) rfl ly29 rfl rfl fun _ => ?_
      have h6 := hI.f tf26_4
      have h7 := hI.c2
      refine r_getf (i := 18) (v := 4) (w := 5) (x := vi (S.f 26 4)) rfl ly26 rfl rfl fun h8 => ?_
      have h8 : Rg (S.f 26 4) := h8
      refine z_ne (i := 19) (v := 25) rfl ⟨by omega, by omega⟩ (fun h9 => ?_) (fun h10 => ?_)
      · refine r_load (i := 25) (u := 0) (w := 2) rfl rfl rfl ?_
        refine r_getf (i := 26) (v := 3) (w := 6) (x := (2, 26)) rfl ly29 rfl rfl fun _ => ?_
        refine r_getf (i := 27) (v := 4) (w := 5) (x := vi (S.f 26 4)) rfl ly26 rfl rfl fun h12 => ?_
        have h12 : Rg (S.f 26 4) := h12
        refine r_load (i := 28) (u := 1) (w := 0) rfl rfl rfl ?_
        refine c_ne (i := 29) (v := 37) rfl ⟨by omega, by omega⟩ ⟨by omega, by omega⟩ (fun h13 => ?_) (fun h14 => ?_)
        · refine r_load (i := 37) (u := 0) (w := 2) rfl rfl rfl ?_
          refine r_const (i := 38) (u := 3) (z := 3) rfl rfl ?_
          refine r_lconst (i := 39) (u := 0) (z := 0) rfl rfl ?_
          refine r_call (i := 40) (u := 6) (v := 43) (w := 0) (b := 0) (na := 1027) (C2 := xC43) (as := [(2, 29), vi 3, vl 0]) (s := []) rfl rfl rfl rfl rfl rfl rfl (sp43 (w0 := 3) (v := 0) hI ⟨by omega, by omega⟩ ⟨by omega, by omega⟩   (by omega)) (fun r15 S16 hq17 => ?_)
          obtain ⟨z18, rfl, h19, h20, hI21, hF22, hR23⟩ := hq17
          have hF24 := hF.trans hF22 rfl rfl
          have hR25 := hR.trans hR23 rfl
          refine Or.inr (Or.inl ⟨rfl, ?_⟩)
          exact r_retI (i := 41) rfl ⟨z18, rfl, by omega, by omega, hI21, hF24, hR25⟩
        · refine r_load (i := 30) (u := 0) (w := 2) rfl rfl rfl ?_
          refine r_const (i := 31) (u := 0) (z := 0) rfl rfl ?_
          refine r_load (i := 32) (u := 0) (w := 2) rfl rfl rfl ?_
          refine r_getf (i := 33) (v := 3) (w := 6) (x := (2, 26)) rfl ly29 rfl rfl fun _ => ?_
          have h27 := hI.c2
          refine r_getf (i := 34) (v := 5) (w := 5) (x := vl (S.f 26 5)) rfl ly26 rfl rfl fun h28 => ?_
          have h28 : Rl (S.f 26 5) := h28
          refine r_call (i := 35) (u := 6) (v := 43) (w := 0) (b := 0) (na := 1027) (C2 := xC43) (as := [(2, 29), vi 0, vl (S.f 26 5)]) (s := []) rfl rfl rfl rfl rfl rfl rfl (sp43 (w0 := 0) (v := S.f 26 5) hI ⟨by omega, by omega⟩ ⟨by omega, by omega⟩   (by omega)) (fun r29 S30 hq31 => ?_)
          obtain ⟨z32, rfl, h33, h34, hI35, hF36, hR37⟩ := hq31
          have hF38 := hF.trans hF36 rfl rfl
          have hR39 := hR.trans hR37 rfl
          refine Or.inr (Or.inl ⟨rfl, ?_⟩)
          refine r_goto (i := 36) (v := 41) rfl ?_
          exact r_retI (i := 41) rfl ⟨z32, rfl, by omega, by omega, hI35, hF38, hR39⟩
      · refine r_load (i := 20) (u := 0) (w := 2) rfl rfl rfl ?_
        refine r_const (i := 21) (u := 2) (z := 2) rfl rfl ?_
        refine r_lconst (i := 22) (u := 0) (z := 0) rfl rfl ?_
        refine r_call (i := 23) (u := 6) (v := 43) (w := 0) (b := 0) (na := 1027) (C2 := xC43) (as := [(2, 29), vi 2, vl 0]) (s := []) rfl rfl rfl rfl rfl rfl rfl (sp43 (w0 := 2) (v := 0) hI ⟨by omega, by omega⟩ ⟨by omega, by omega⟩   (by omega)) (fun r40 S41 hq42 => ?_)
        obtain ⟨z43, rfl, h44, h45, hI46, hF47, hR48⟩ := hq42
        have hF49 := hF.trans hF47 rfl rfl
        have hR50 := hR.trans hR48 rfl
        refine Or.inr (Or.inl ⟨rfl, ?_⟩)
        exact r_retI (i := 24) rfl ⟨z43, rfl, by omega, by omega, hI46, hF49, hR50⟩
    · refine r_load (i := 10) (u := 0) (w := 2) rfl rfl rfl ?_
      refine r_load (i := 11) (u := 1) (w := 0) rfl rfl rfl ?_
      refine r_const (i := 12) (u := 4) (z := 4) rfl rfl ?_
      refine r_isub (i := 13) rfl ?_
      refine r_call (i := 14) (u := 6) (v := 41) (w := 0) (b := 0) (na := 770) (C2 := xC41) (as := [(2, 29), vi (b - 4)]) (s := []) rfl rfl rfl rfl rfl rfl rfl (sp41 (t := b - 4) hI ⟨by omega, by omega⟩   (by omega)) (fun r51 S52 hq53 => ?_)
      obtain ⟨z54, rfl, h55, h56, hI57, hF58, hR59⟩ := hq53
      have hF60 := hF.trans hF58 rfl rfl
      have hR61 := hR.trans hR59 rfl
      refine Or.inr (Or.inl ⟨rfl, ?_⟩)
      exact r_retI (i := 15) rfl ⟨z54, rfl, by omega, by omega, hI57, hF60, hR61⟩
  · refine r_load (i := 2) (u := 0) (w := 2) rfl rfl rfl ?_
    refine r_const (i := 3) (u := 0) (z := 0) rfl rfl ?_
    refine r_lconst (i := 4) (u := 0) (z := 0) rfl rfl ?_
    refine r_call (i := 5) (u := 6) (v := 43) (w := 0) (b := 0) (na := 1027) (C2 := xC43) (as := [(2, 29), vi 0, vl 0]) (s := []) rfl rfl rfl rfl rfl rfl rfl (sp43 (w0 := 0) (v := 0) hI ⟨by omega, by omega⟩ ⟨by omega, by omega⟩   (by omega)) (fun r62 S63 hq64 => ?_)
    obtain ⟨z65, rfl, h66, h67, hI68, hF69, hR70⟩ := hq64
    have hF71 := hF.trans hF69 rfl rfl
    have hR72 := hR.trans hR70 rfl
    refine Or.inr (Or.inl ⟨rfl, ?_⟩)
    exact r_retI (i := 6) rfl ⟨z65, rfl, by omega, by omega, hI68, hF71, hR72⟩
theorem lp45_16 {G : xk} {d : Nat} {S : yS} (hI : yI S) {k : Int} (h_k : 0 ≤ k ∧ k ≤ 23) {t : Int} (h_t : 0 ≤ t ∧ t ≤ 19) (hd : 1 ≤ d + 1) : ∀ (n : Nat), ∀ (j : Int) (h_j : 0 ≤ j ∧ j ≤ 3) (hn : 3 - j < (n : Nat)), yT xPr G LY xC45 16 [some ((2, 29)), some (vi k), some (vi t), some (vi j)] [] S (d + 1) (fun r S' => ∃ z : Int, r = (1, vi z) ∧ 0 ≤ z ∧ z ≤ 1 ∧ S = S') := by
  intro n
  induction n with
  | zero => intro j h_j hn; exact absurd hn (by omega)
  | succ n ih =>
    intro j h_j hn
    refine r_load (i := 16) (u := 3) (w := 0) rfl rfl rfl ?_
    refine r_load (i := 17) (u := 0) (w := 2) rfl rfl rfl ?_
    refine r_getf (i := 18) (v := 2) (w := 6) (x := (2, 22)) rfl ly29 rfl rfl fun _ => ?_
    refine r_getf (i := 19) (v := 2) (w := 4) (x := (2, 25)) rfl ly22 rfl rfl fun _ => ?_
    refine r_load (i := 20) (u := 1) (w := 0) rfl rfl rfl ?_
    refine a_int (i := 21) rfl ly25 rfl (by omega) (by omega) fun h3 => ?_
    have h4 := hI.a ta25 k.toNat
    refine c_ge (i := 22) (v := 41) rfl ⟨by omega, by omega⟩ ⟨by omega, by omega⟩ (fun h5 => ?_) (fun h6 => ?_)
    · refine r_const (i := 41) (u := 0) (z := 0) rfl rfl ?_
      exact r_retZ (i := 42) rfl (by omega) (by omega) ⟨0, rfl, by omega, by omega, rfl⟩
    · refine r_load (i := 23) (u := 0) (w := 2) rfl rfl rfl ?_
      refine r_getf (i := 24) (v := 0) (w := 6) (x := (2, 1)) rfl ly29 rfl rfl fun _ => ?_
      refine r_load (i := 25) (u := 2) (w := 0) rfl rfl rfl ?_
      refine r_load (i := 26) (u := 0) (w := 2) rfl rfl rfl ?_
      refine r_getf (i := 27) (v := 1) (w := 6) (x := (2, 9)) rfl ly29 rfl rfl fun _ => ?_
      refine r_load (i := 28) (u := 0) (w := 2) rfl rfl rfl ?_
      refine r_getf (i := 29) (v := 2) (w := 6) (x := (2, 22)) rfl ly29 rfl rfl fun _ => ?_
      refine r_getf (i := 30) (v := 0) (w := 4) (x := (2, 23)) rfl ly22 rfl rfl fun _ => ?_
      refine r_load (i := 31) (u := 1) (w := 0) rfl rfl rfl ?_
      refine a_int (i := 32) rfl ly23 rfl (by omega) (by omega) fun h11 => ?_
      have h12 := hI.a ta23 k.toNat
      refine r_load (i := 33) (u := 3) (w := 0) rfl rfl rfl ?_
      refine r_call (i := 34) (u := 2) (v := 86) (w := 0) (b := 0) (na := 771) (C2 := xC86) (as := [(2, 9), vi (S.a 23 k.toNat), vi j]) (s := [vi t, (2, 1)]) rfl rfl rfl rfl rfl rfl rfl (sp86 (m := S.a 23 k.toNat) (k := j) hI ⟨by omega, by omega⟩ ⟨by omega, by omega⟩   (by omega)) (fun r13 S14 hq15 => ?_)
      obtain ⟨z16, rfl, h17, h18, h19, rfl⟩ := hq15
      refine Or.inr (Or.inl ⟨rfl, ?_⟩)
      refine r_call (i := 35) (u := 1) (v := 133) (w := 0) (b := 0) (na := 771) (C2 := xC133) (as := [(2, 1), vi t, vi z16]) (s := []) rfl rfl rfl rfl rfl rfl rfl (sp133 (t := t) (o := z16) hI ⟨by omega, by omega⟩ ⟨by omega, by omega⟩   (by omega)) (fun r20 S21 hq22 => ?_)
      obtain ⟨z23, rfl, h24, h25, yb26, nb27, rfl⟩ := hq22
      refine Or.inr (Or.inl ⟨rfl, ?_⟩)
      refine z_eq (i := 36) (v := 39) rfl ⟨by omega, by omega⟩ (fun h28 => ?_) (fun h29 => ?_)
      · refine r_iinc (i := 39) (u := 1) (v := 3) (s := 1) (L1 := [some ((2, 29)), some (vi k), some (vi t), some (vi (j + 1))]) rfl rfl rfl rfl rfl ?_
        refine r_goto (i := 40) (v := 16) rfl ?_
        exact ih (j + 1) ⟨by omega, by omega⟩  (by omega)
      · refine r_const (i := 37) (u := 1) (z := 1) rfl rfl ?_
        exact r_retZ (i := 38) rfl (by omega) (by omega) ⟨1, rfl, by omega, by omega, rfl⟩
/-- ProxyForge$Caller.isDeclared -/
theorem sp45 {G : xk} {S : yS} {d : Nat} (hI : yI S) {k : Int} (h_k : 0 ≤ k ∧ k ≤ 23) {t : Int} (h_t : 0 ≤ t ∧ t ≤ 19) (hd : 1 ≤ d) : yT xPr G LY xC45 0 [some ((2, 29)), some (vi k), some (vi t)] [] S d (fun r S' => ∃ z : Int, r = (1, vi z) ∧ 0 ≤ z ∧ z ≤ 1 ∧ S = S') := by
  refine yT_pad 1 ?_
  show yT xPr G LY xC45 0 [some ((2, 29)), some (vi k), some (vi t), none] [] S d _
  obtain ⟨d, rfl⟩ : ∃ q, d = q + 1 := ⟨d - 1, by omega⟩
  refine r_load (i := 0) (u := 0) (w := 2) rfl rfl rfl ?_
  refine r_getf (i := 1) (v := 0) (w := 6) (x := (2, 1)) rfl ly29 rfl rfl fun _ => ?_
  refine r_load (i := 2) (u := 2) (w := 0) rfl rfl rfl ?_
  refine r_const (i := 3) (u := 2) (z := 2) rfl rfl ?_
  refine r_call (i := 4) (u := 1) (v := 133) (w := 0) (b := 0) (na := 771) (C2 := xC133) (as := [(2, 1), vi t, vi 2]) (s := []) rfl rfl rfl rfl rfl rfl rfl (sp133 (t := t) (o := 2) hI ⟨by omega, by omega⟩ ⟨by omega, by omega⟩   (by omega)) (fun r2 S3 hq4 => ?_)
  obtain ⟨z5, rfl, h6, h7, yb8, nb9, rfl⟩ := hq4
  refine Or.inr (Or.inl ⟨rfl, ?_⟩)
  refine z_ne (i := 5) (v := 12) rfl ⟨by omega, by omega⟩ (fun h10 => ?_) (fun h11 => ?_)
  · refine r_const (i := 12) (u := 1) (z := 1) rfl rfl ?_
    exact r_retZ (i := 13) rfl (by omega) (by omega) ⟨1, rfl, by omega, by omega, rfl⟩
  · refine r_load (i := 6) (u := 0) (w := 2) rfl rfl rfl ?_
    refine r_getf (i := 7) (v := 0) (w := 6) (x := (2, 1)) rfl ly29 rfl rfl fun _ => ?_
    refine r_load (i := 8) (u := 2) (w := 0) rfl rfl rfl ?_
    refine r_const (i := 9) (u := 3) (z := 3) rfl rfl ?_
    refine r_call (i := 10) (u := 1) (v := 133) (w := 0) (b := 0) (na := 771) (C2 := xC133) (as := [(2, 1), vi t, vi 3]) (s := []) rfl rfl rfl rfl rfl rfl rfl (sp133 (t := t) (o := 3) hI ⟨by omega, by omega⟩ ⟨by omega, by omega⟩   (by omega)) (fun r13 S14 hq15 => ?_)
    obtain ⟨z16, rfl, h17, h18, yb19, nb20, rfl⟩ := hq15
    refine Or.inr (Or.inl ⟨rfl, ?_⟩)
    refine z_eq (i := 11) (v := 14) rfl ⟨by omega, by omega⟩ (fun h21 => ?_) (fun h22 => ?_)
    · refine r_const (i := 14) (u := 0) (z := 0) rfl rfl ?_
      refine r_store (i := 15) (u := 3) (w := 0) (L1 := [some ((2, 29)), some (vi k), some (vi t), some (vi 0)]) rfl rfl rfl rfl ?_
      exact lp45_16 hI h_k h_t   hd _ 0 ⟨by omega, by omega⟩  (Int.lt_succ_toNat _)
    · refine r_const (i := 12) (u := 1) (z := 1) rfl rfl ?_
      exact r_retZ (i := 13) rfl (by omega) (by omega) ⟨1, rfl, by omega, by omega, rfl⟩
theorem lp44_7 {G : xk} {d : Nat} {S0 : yS} {p : Int} (h_p : -2147483648 ≤ p ∧ p ≤ 2147483647) (hd : 2 ≤ d + 1) : ∀ (n : Nat), ∀ (S : yS) (hI : yI S) (hF : yFr [(26, 2)] [27, 28] S0 S) (hR : yRm [] S0 S) (k : Int) (h_k : 0 ≤ k ∧ k ≤ 4) (hn : 4 - k < (n : Nat)), yT xPr G LY xC44 7 [some ((2, 29)), some (vi p), some (vi k), none, none, none] [] S (d + 1) (fun r S' => r = (0, (0, 0)) ∧ yI S' ∧ yFr [(26, 2)] [27, 28] S0 S' ∧ yRm [] S0 S') := by
  intro n
  induction n with
  | zero => intro S hI hF hR k h_k hn; exact absurd hn (by omega)
  | succ n ih =>
    intro S hI hF hR k h_k hn
    refine r_load (i := 7) (u := 2) (w := 0) rfl rfl rfl ?_
    refine r_load (i := 8) (u := 0) (w := 2) rfl rfl rfl ?_
    refine r_getf (i := 9) (v := 3) (w := 6) (x := (2, 26)) rfl ly29 rfl rfl fun _ => ?_
    have h2 := hI.f tf26_2
    refine r_getf (i := 10) (v := 2) (w := 5) (x := vi (S.f 26 2)) rfl ly26 rfl rfl fun h3 => ?_
    have h3 : Rg (S.f 26 2) := h3
    refine c_ge (i := 11) (v := 73) rfl ⟨by omega, by omega⟩ ⟨by omega, by omega⟩ (fun h4 => ?_) (fun h5 => ?_)
    · exact r_ret0 (i := 73) rfl ⟨rfl,  hI, hF, hR⟩
    · refine r_load (i := 12) (u := 1) (w := 0) rfl rfl rfl ?_
      refine r_load (i := 13) (u := 2) (w := 0) rfl rfl rfl ?_
      refine r_call (i := 14) (u := 65535) (v := 66) (w := 0) (b := 2) (na := 514) (C2 := xC66) (as := [vi p, vi k]) (s := []) rfl rfl rfl rfl rfl rfl rfl (sp66 (p := p) (k := k) hI ⟨by omega, by omega⟩ ⟨by omega, by omega⟩   (by omega)) (fun r6 S7 hq8 => ?_)
      obtain ⟨z9, rfl, h10, h11, h12, rfl⟩ := hq8
      refine Or.inr (Or.inl ⟨rfl, ?_⟩)
      refine r_store (i := 15) (u := 3) (w := 0) (L1 := [some ((2, 29)), some (vi p), some (vi k), some (vi z9), none, none]) rfl rfl rfl rfl ?_
      refine r_load (i := 16) (u := 0) (w := 2) rfl rfl rfl ?_
      refine r_getf (i := 17) (v := 4) (w := 6) (x := (2, 30)) rfl ly29 rfl rfl fun _ => ?_
      refine r_load (i := 18) (u := 2) (w := 0) rfl rfl rfl ?_
      refine r_laload (i := 19) rfl ly30 (by decide) (by omega) (by omega) fun h14 => ?_
      have h15 : S.a 30 k.toNat = S0.a 30 k.toNat := hF.a rfl _
      refine r_store (i := 20) (u := 4) (w := 1) (L1 := [some ((2, 29)), some (vi p), some (vi k), some (vi z9), some (vl (S.a 30 k.toNat)), none]) rfl rfl rfl rfl ?_
      refine r_load (i := 21) (u := 3) (w := 0) rfl rfl rfl ?_
      refine r_const (i := 22) (u := 1) (z := 1) rfl rfl ?_
      refine c_ne (i := 23) (v := 33) rfl ⟨by omega, by omega⟩ ⟨by omega, by omega⟩ (fun h16 => ?_) (fun h17 => ?_)
      · refine r_load (i := 33) (u := 3) (w := 0) rfl rfl rfl ?_
        refine r_const (i := 34) (u := 2) (z := 2) rfl rfl ?_
        refine c_ne (i := 35) (v := 43) rfl ⟨by omega, by omega⟩ ⟨by omega, by omega⟩ (fun h18 => ?_) (fun h19 => ?_)
        · refine r_load (i := 43) (u := 3) (w := 0) rfl rfl rfl ?_
          refine r_const (i := 44) (u := 3) (z := 3) rfl rfl ?_
          refine c_ne (i := 45) (v := 55) rfl ⟨by omega, by omega⟩ ⟨by omega, by omega⟩ (fun h20 => ?_) (fun h21 => ?_)
          · refine r_load (i := 55) (u := 0) (w := 2) rfl rfl rfl ?_
            refine r_getf (i := 56) (v := 3) (w := 6) (x := (2, 26)) rfl ly29 rfl rfl fun _ => ?_
            refine r_load (i := 57) (u := 2) (w := 0) rfl rfl rfl ?_
            refine r_load (i := 58) (u := 0) (w := 2) rfl rfl rfl ?_
            refine r_getf (i := 59) (v := 0) (w := 6) (x := (2, 1)) rfl ly29 rfl rfl fun _ => ?_
            refine r_load (i := 60) (u := 4) (w := 1) rfl rfl rfl ?_
            have h24 := hI.f tf1_7
            have h25 : S.f 1 7 = S0.f 1 7 := hF.f rfl
            refine r_call (i := 61) (u := 1) (v := 131) (w := 0) (b := 0) (na := 770) (C2 := xC131) (as := [(2, 1), vl (S.a 30 k.toNat)]) (s := [vi k, (2, 26)]) rfl rfl rfl rfl rfl rfl rfl (sp131 (t := S.a 30 k.toNat) hI ⟨by omega, by omega⟩   (by omega)) (fun r26 S27 hq28 => ?_)
            obtain ⟨z29, rfl, h30, h31, h32, h33, rfl⟩ := hq28
            refine Or.inr (Or.inl ⟨rfl, ?_⟩)
            refine z_eq (i := 62) (v := 68) rfl ⟨by omega, by omega⟩ (fun h34 => ?_) (fun h35 => ?_)
            · refine r_const (i := 68) (u := 0) (z := 0) rfl rfl ?_
              refine r_lconst (i := 69) (u := 0) (z := 0) rfl rfl ?_
              refine r_call (i := 70) (u := 5) (v := 39) (w := 0) (b := 0) (na := 1284) (C2 := xC39) (as := [(2, 26), vi k, vi 0, vl 0]) (s := []) rfl rfl rfl rfl rfl rfl rfl (sp39 (k := k) (b := 0) (v := 0) hI ⟨by omega, by omega⟩ ⟨by omega, by omega⟩ ⟨by omega, by omega⟩   (by omega)) (fun r36 S37 hq38 => ?_)
              obtain ⟨rfl, hI39, hF40, hR41⟩ := hq38
              have hF42 := hF.trans hF40 rfl rfl
              have hR43 := hR.trans hR41 rfl
              refine Or.inl ⟨rfl, ?_⟩
              refine r_iinc (i := 71) (u := 1) (v := 2) (s := 1) (L1 := [some ((2, 29)), some (vi p), some (vi (k + 1)), some (vi z9), some (vl (S.a 30 k.toNat)), none]) rfl rfl rfl rfl rfl ?_
              refine r_goto (i := 72) (v := 7) rfl ?_
              refine yT_drop (L1 := [some ((2, 29)), some (vi p), some (vi (k + 1)), none, none, none]) rfl ?_
              exact ih S37 hI39 hF42 hR43 (k + 1) ⟨by omega, by omega⟩  (by omega)
            · refine r_const (i := 63) (u := 4) (z := 4) rfl rfl ?_
              refine r_load (i := 64) (u := 4) (w := 1) rfl rfl rfl ?_
              refine r_l2i (i := 65) rfl ?_
              rw [vi_sg (S.a 30 k.toNat)]
              have h44 := ysg_fact (S.a 30 k.toNat)
              refine r_iadd (i := 66) rfl ?_
              refine r_goto (i := 67) (v := 69) rfl ?_
              refine r_lconst (i := 69) (u := 0) (z := 0) rfl rfl ?_
              refine r_call (i := 70) (u := 5) (v := 39) (w := 0) (b := 0) (na := 1284) (C2 := xC39) (as := [(2, 26), vi k, vi (4 + (ysg (S.a 30 k.toNat))), vl 0]) (s := []) rfl rfl rfl rfl rfl rfl rfl (sp39 (k := k) (b := 4 + (ysg (S.a 30 k.toNat))) (v := 0) hI ⟨by omega, by omega⟩ ⟨by omega, by omega⟩ ⟨by omega, by omega⟩   (by omega)) (fun r45 S46 hq47 => ?_)
              obtain ⟨rfl, hI48, hF49, hR50⟩ := hq47
              have hF51 := hF.trans hF49 rfl rfl
              have hR52 := hR.trans hR50 rfl
              refine Or.inl ⟨rfl, ?_⟩
              refine r_iinc (i := 71) (u := 1) (v := 2) (s := 1) (L1 := [some ((2, 29)), some (vi p), some (vi (k + 1)), some (vi z9), some (vl (S.a 30 k.toNat)), none]) rfl rfl rfl rfl rfl ?_
              refine r_goto (i := 72) (v := 7) rfl ?_
              refine yT_drop (L1 := [some ((2, 29)), some (vi p), some (vi (k + 1)), none, none, none]) rfl ?_
              exact ih S46 hI48 hF51 hR52 (k + 1) ⟨by omega, by omega⟩  (by omega)
          · refine r_load (i := 46) (u := 0) (w := 2) rfl rfl rfl ?_
            refine r_getf (i := 47) (v := 3) (w := 6) (x := (2, 26)) rfl ly29 rfl rfl fun _ => ?_
            refine r_load (i := 48) (u := 2) (w := 0) rfl rfl rfl ?_
            refine r_const (i := 49) (u := 3) (z := 3) rfl rfl ?_
            refine r_load (i := 50) (u := 4) (w := 1) rfl rfl rfl ?_
            refine r_lconst (i := 51) (u := 1) (z := 1) rfl rfl ?_
            refine r_land (i := 52) rfl ?_
            have h54 := @yland_c (S.a 30 k.toNat) 1 (by decide) (by decide)
            refine r_call (i := 53) (u := 5) (v := 39) (w := 0) (b := 0) (na := 1284) (C2 := xC39) (as := [(2, 26), vi k, vi 3, vl (yland (S.a 30 k.toNat) 1)]) (s := []) rfl rfl rfl rfl rfl rfl rfl (sp39 (k := k) (b := 3) (v := yland (S.a 30 k.toNat) 1) hI ⟨by omega, by omega⟩ ⟨by omega, by omega⟩ ⟨by omega, by omega⟩   (by omega)) (fun r55 S56 hq57 => ?_)
            obtain ⟨rfl, hI58, hF59, hR60⟩ := hq57
            have hF61 := hF.trans hF59 rfl rfl
            have hR62 := hR.trans hR60 rfl
            refine Or.inl ⟨rfl, ?_⟩
            refine r_goto (i := 54) (v := 71) rfl ?_
            refine r_iinc (i := 71) (u := 1) (v := 2) (s := 1) (L1 := [some ((2, 29)), some (vi p), some (vi (k + 1)), some (vi z9), some (vl (S.a 30 k.toNat)), none]) rfl rfl rfl rfl rfl ?_
            refine r_goto (i := 72) (v := 7) rfl ?_
            refine yT_drop (L1 := [some ((2, 29)), some (vi p), some (vi (k + 1)), none, none, none]) rfl ?_
            exact ih S56 hI58 hF61 hR62 (k + 1) ⟨by omega, by omega⟩  (by omega)
        · refine r_load (i := 36) (u := 0) (w := 2) rfl rfl rfl ?_
          refine r_getf (i := 37) (v := 3) (w := 6) (x := (2, 26)) rfl ly29 rfl rfl fun _ => ?_
          refine r_load (i := 38) (u := 2) (w := 0) rfl rfl rfl ?_
          refine r_const (i := 39) (u := 2) (z := 2) rfl rfl ?_
          refine r_load (i := 40) (u := 4) (w := 1) rfl rfl rfl ?_
          refine r_call (i := 41) (u := 5) (v := 39) (w := 0) (b := 0) (na := 1284) (C2 := xC39) (as := [(2, 26), vi k, vi 2, vl (S.a 30 k.toNat)]) (s := []) rfl rfl rfl rfl rfl rfl rfl (sp39 (k := k) (b := 2) (v := S.a 30 k.toNat) hI ⟨by omega, by omega⟩ ⟨by omega, by omega⟩ ⟨by omega, by omega⟩   (by omega)) (fun r64 S65 hq66 => ?_)
          obtain ⟨rfl, hI67, hF68, hR69⟩ := hq66
          have hF70 := hF.trans hF68 rfl rfl
          have hR71 := hR.trans hR69 rfl
          refine Or.inl ⟨rfl, ?_⟩
          refine r_goto (i := 42) (v := 71) rfl ?_
          refine r_iinc (i := 71) (u := 1) (v := 2) (s := 1) (L1 := [some ((2, 29)), some (vi p), some (vi (k + 1)), some (vi z9), some (vl (S.a 30 k.toNat)), none]) rfl rfl rfl rfl rfl ?_
          refine r_goto (i := 72) (v := 7) rfl ?_
          refine yT_drop (L1 := [some ((2, 29)), some (vi p), some (vi (k + 1)), none, none, none]) rfl ?_
          exact ih S65 hI67 hF70 hR71 (k + 1) ⟨by omega, by omega⟩  (by omega)
      · refine r_load (i := 24) (u := 0) (w := 2) rfl rfl rfl ?_
        refine r_getf (i := 25) (v := 3) (w := 6) (x := (2, 26)) rfl ly29 rfl rfl fun _ => ?_
        refine r_load (i := 26) (u := 2) (w := 0) rfl rfl rfl ?_
        refine r_const (i := 27) (u := 1) (z := 1) rfl rfl ?_
        refine r_load (i := 28) (u := 4) (w := 1) rfl rfl rfl ?_
        refine r_l2i (i := 29) rfl ?_
        rw [vi_sg (S.a 30 k.toNat)]
        have h73 := ysg_fact (S.a 30 k.toNat)
        refine r_i2l (i := 30) rfl ⟨by omega, by omega⟩ ?_
        refine r_call (i := 31) (u := 5) (v := 39) (w := 0) (b := 0) (na := 1284) (C2 := xC39) (as := [(2, 26), vi k, vi 1, vl (ysg (S.a 30 k.toNat))]) (s := []) rfl rfl rfl rfl rfl rfl rfl (sp39 (k := k) (b := 1) (v := ysg (S.a 30 k.toNat)) hI ⟨by omega, by omega⟩ ⟨by omega, by omega⟩ ⟨by omega, by omega⟩   (by omega)) (fun r74 S75 hq76 => ?_)
        obtain ⟨rfl, hI77, hF78, hR79⟩ := hq76
        have hF80 := hF.trans hF78 rfl rfl
        have hR81 := hR.trans hR79 rfl
        refine Or.inl ⟨rfl, ?_⟩
        refine r_goto (i := 32) (v := 71) rfl ?_
        refine r_iinc (i := 71) (u := 1) (v := 2) (s := 1) (L1 := [some ((2, 29)), some (vi p), some (vi (k + 1)), some (vi z9), some (vl (S.a 30 k.toNat)), none]) rfl rfl rfl rfl rfl ?_
        refine r_goto (i := 72) (v := 7) rfl ?_
        refine yT_drop (L1 := [some ((2, 29)), some (vi p), some (vi (k + 1)), none, none, none]) rfl ?_
        exact ih S75 hI77 hF80 hR81 (k + 1) ⟨by omega, by omega⟩  (by omega)
/-- ProxyForge$Caller.give -/
theorem sp44 {G : xk} {S : yS} {d : Nat} (hI : yI S) {p : Int} (h_p : -2147483648 ≤ p ∧ p ≤ 2147483647) (hd : 2 ≤ d) : yT xPr G LY xC44 0 [some ((2, 29)), some (vi p)] [] S d (fun r S' => r = (0, (0, 0)) ∧ yI S' ∧ yFr [(26, 2)] [27, 28] S S' ∧ yRm [] S S') := by
  refine yT_pad 4 ?_
  show yT xPr G LY xC44 0 [some ((2, 29)), some (vi p), none, none, none, none] [] S d _
  obtain ⟨d, rfl⟩ : ∃ q, d = q + 1 := ⟨d - 1, by omega⟩
  have hF : yFr [(26, 2)] [27, 28] S S := yFr.refl S
  have hR : yRm [] S S := yRm.refl S
  refine r_load (i := 0) (u := 0) (w := 2) rfl rfl rfl ?_
  refine r_getf (i := 1) (v := 3) (w := 6) (x := (2, 26)) rfl ly29 rfl rfl fun _ => ?_
  refine r_load (i := 2) (u := 1) (w := 0) rfl rfl rfl ?_
  refine r_call (i := 3) (u := 65535) (v := 67) (w := 0) (b := 2) (na := 513) (C2 := xC67) (as := [vi p]) (s := [(2, 26)]) rfl rfl rfl rfl rfl rfl rfl (sp67 (p := p) hI ⟨by omega, by omega⟩   (by omega)) (fun r2 S3 hq4 => ?_)
  obtain ⟨z5, rfl, h6, h7, hmn8, rfl⟩ := hq4
  refine Or.inr (Or.inl ⟨rfl, ?_⟩)
  refine r_putI (i := 4) (v := 2) (w := 5) rfl ly26 rfl ⟨by omega, by omega⟩ ?_
  have hI10 := hI.setf (b := 26) (w := 2) (z := z5) tf26_2 rfl (by omega) (by omega)
  have hF12 := hF.setf (b := 26) (w := 2) (z := z5) rfl
  have hR13 := hR.setf (b := 26) (w := 2) (z := z5)
  refine yT_gen (fun S9 hS11 => ?_)
  rw [hS11] at hI10 hF12 hR13 
  refine r_const (i := 5) (u := 0) (z := 0) rfl rfl ?_
  refine r_store (i := 6) (u := 2) (w := 0) (L1 := [some ((2, 29)), some (vi p), some (vi 0), none, none, none]) rfl rfl rfl rfl ?_
  exact lp44_7 h_p  hd _ S9 hI10 hF12 hR13 0 ⟨by omega, by omega⟩  (Int.lt_succ_toNat _)
/-- ProxyForge$Caller.outcome -/
theorem sp47 {G : xk} {S : yS} {d : Nat} (hI : yI S) {k : Int} (h_k : 0 ≤ k ∧ k ≤ 23) (hd : 3 ≤ d) : yT xPr G LY xC47 0 [some ((2, 29)), some (vi k)] [] S d (fun r S' => ∃ z : Int, r = (1, vi z) ∧ -2147483648 ≤ z ∧ z ≤ 2147483647 ∧ yI S' ∧ yFr [(26, 2), (26, 3), (29, 5)] [27, 28] S S' ∧ yRm [] S S') := by
  refine yT_pad 3 ?_
  show yT xPr G LY xC47 0 [some ((2, 29)), some (vi k), none, none, none] [] S d _
  obtain ⟨d, rfl⟩ : ∃ q, d = q + 1 := ⟨d - 1, by omega⟩
  have hF : yFr [(26, 2), (26, 3), (29, 5)] [27, 28] S S := yFr.refl S
  have hR : yRm [] S S := yRm.refl S
  refine r_load (i := 0) (u := 0) (w := 2) rfl rfl rfl ?_
  refine r_getf (i := 1) (v := 2) (w := 6) (x := (2, 22)) rfl ly29 rfl rfl fun _ => ?_
  refine r_getf (i := 2) (v := 0) (w := 4) (x := (2, 23)) rfl ly22 rfl rfl fun _ => ?_
  refine r_load (i := 3) (u := 1) (w := 0) rfl rfl rfl ?_
  refine a_int (i := 4) rfl ly23 rfl (by omega) (by omega) fun h3 => ?_
  have h4 := hI.a ta23 k.toNat
  refine r_store (i := 5) (u := 2) (w := 0) (L1 := [some ((2, 29)), some (vi k), some (vi (S.a 23 k.toNat)), none, none]) rfl rfl rfl rfl ?_
  refine r_load (i := 6) (u := 0) (w := 2) rfl rfl rfl ?_
  refine r_getf (i := 7) (v := 2) (w := 6) (x := (2, 22)) rfl ly29 rfl rfl fun _ => ?_
  refine r_getf (i := 8) (v := 1) (w := 4) (x := (2, 24)) rfl ly22 rfl rfl fun _ => ?_
  refine r_load (i := 9) (u := 1) (w := 0) rfl rfl rfl ?_
  refine a_int (i := 10) rfl ly24 rfl (by omega) (by omega) fun h7 => ?_
  have h8 := hI.a ta24 k.toNat
  refine r_store (i := 11) (u := 3) (w := 0) (L1 := [some ((2, 29)), some (vi k), some (vi (S.a 23 k.toNat)), some (vi (S.a 24 k.toNat)), none]) rfl rfl rfl rfl ?_
  refine r_load (i := 12) (u := 3) (w := 0) rfl rfl rfl ?_
  refine r_const (i := 13) (u := 2) (z := 2) rfl rfl ?_
  refine c_ne (i := 14) (v := 19) rfl ⟨by omega, by omega⟩ ⟨by omega, by omega⟩ (fun h9 => ?_) (fun h10 => ?_)
  · refine r_load (i := 19) (u := 0) (w := 2) rfl rfl rfl ?_
    refine r_getf (i := 20) (v := 3) (w := 6) (x := (2, 26)) rfl ly29 rfl rfl fun _ => ?_
    refine r_load (i := 21) (u := 1) (w := 0) rfl rfl rfl ?_
    refine r_putI (i := 22) (v := 3) (w := 5) rfl ly26 rfl ⟨by omega, by omega⟩ ?_
    have hI13 := hI.setf (b := 26) (w := 3) (z := k) tf26_3 rfl (by omega) (by omega)
    have hF15 := hF.setf (b := 26) (w := 3) (z := k) rfl
    have hR16 := hR.setf (b := 26) (w := 3) (z := k)
    refine yT_gen (fun S12 hS14 => ?_)
    rw [hS14] at hI13 hF15 hR16 
    refine r_load (i := 23) (u := 3) (w := 0) rfl rfl rfl ?_
    refine z_ne (i := 24) (v := 32) rfl ⟨by omega, by omega⟩ (fun h17 => ?_) (fun h18 => ?_)
    · refine r_load (i := 32) (u := 0) (w := 2) rfl rfl rfl ?_
      refine r_getf (i := 33) (v := 3) (w := 6) (x := (2, 26)) rfl ly29 rfl rfl fun _ => ?_
      have h20 := hI13.f tf26_4
      have h21 := hI13.c2
      have h22 : S12.f 26 4 = S.f 26 4 := by rw [← hS14]; exact ysf_ne (by decide)
      refine r_getf (i := 34) (v := 4) (w := 5) (x := vi (S12.f 26 4)) rfl ly26 rfl rfl fun h23 => ?_
      have h23 : Rg (S12.f 26 4) := h23
      refine r_const (i := 35) (u := 5) (z := 5) rfl rfl ?_
      refine c_ne (i := 36) (v := 62) rfl ⟨by omega, by omega⟩ ⟨by omega, by omega⟩ (fun h24 => ?_) (fun h25 => ?_)
      · refine r_load (i := 62) (u := 3) (w := 0) rfl rfl rfl ?_
        refine r_const (i := 63) (u := 3) (z := 3) rfl rfl ?_
        refine c_ne (i := 64) (v := 69) rfl ⟨by omega, by omega⟩ ⟨by omega, by omega⟩ (fun h26 => ?_) (fun h27 => ?_)
        · refine r_load (i := 69) (u := 0) (w := 2) rfl rfl rfl ?_
          refine r_load (i := 70) (u := 0) (w := 2) rfl rfl rfl ?_
          refine r_getf (i := 71) (v := 1) (w := 6) (x := (2, 9)) rfl ly29 rfl rfl fun _ => ?_
          refine r_getf (i := 72) (v := 5) (w := 2) (x := (2, 14)) rfl ly9 rfl rfl fun _ => ?_
          refine r_load (i := 73) (u := 2) (w := 0) rfl rfl rfl ?_
          refine a_int (i := 74) rfl ly14 rfl (by omega) (by omega) fun h30 => ?_
          have h31 := hI13.a ta14 (S.a 23 k.toNat).toNat
          have h32 : S12.a 14 (S.a 23 k.toNat).toNat = S.a 14 (S.a 23 k.toNat).toNat := by rw [← hS14]; rfl
          refine r_call (i := 75) (u := 6) (v := 48) (w := 0) (b := 0) (na := 514) (C2 := xC48) (as := [(2, 29), vi (S12.a 14 (S.a 23 k.toNat).toNat)]) (s := []) rfl rfl rfl rfl rfl rfl rfl (sp48 (b := S12.a 14 (S.a 23 k.toNat).toNat) hI13 ⟨by omega, by omega⟩   (by omega)) (fun r33 S34 hq35 => ?_)
          obtain ⟨z36, rfl, h37, h38, hI39, hF40, hR41⟩ := hq35
          have hF42 := hF15.trans hF40 rfl rfl
          have hR43 := hR16.trans hR41 rfl
          refine Or.inr (Or.inl ⟨rfl, ?_⟩)
          exact r_retI (i := 76) rfl ⟨z36, rfl, by omega, by omega, hI39, hF42, hR43⟩
        · refine r_load (i := 65) (u := 0) (w := 2) rfl rfl rfl ?_
          refine r_load (i := 66) (u := 2) (w := 0) rfl rfl rfl ?_
          refine r_call (i := 67) (u := 6) (v := 42) (w := 0) (b := 0) (na := 514) (C2 := xC42) (as := [(2, 29), vi (S.a 23 k.toNat)]) (s := []) rfl rfl rfl rfl rfl rfl rfl (sp42 (m := S.a 23 k.toNat) hI13 ⟨by omega, by omega⟩   (by omega)) (fun r44 S45 hq46 => ?_)
          obtain ⟨z47, rfl, h48, h49, hI50, hF51, hR52⟩ := hq46
          have hF53 := hF15.trans hF51 rfl rfl
          have hR54 := hR16.trans hR52 rfl
          refine Or.inr (Or.inl ⟨rfl, ?_⟩)
          refine r_goto (i := 68) (v := 76) rfl ?_
          exact r_retI (i := 76) rfl ⟨z47, rfl, by omega, by omega, hI50, hF53, hR54⟩
      · refine r_load (i := 37) (u := 3) (w := 0) rfl rfl rfl ?_
        refine z_ne (i := 38) (v := 49) rfl ⟨by omega, by omega⟩ (fun h55 => ?_) (fun h56 => ?_)
        · refine r_const (i := 49) (u := 0) (z := 0) rfl rfl ?_
          refine r_store (i := 50) (u := 4) (w := 0) (L1 := [some ((2, 29)), some (vi k), some (vi (S.a 23 k.toNat)), some (vi (S.a 24 k.toNat)), some (vi 0)]) rfl rfl rfl rfl ?_
          refine r_load (i := 51) (u := 0) (w := 2) rfl rfl rfl ?_
          refine r_load (i := 52) (u := 4) (w := 0) rfl rfl rfl ?_
          refine z_eq (i := 53) (v := 56) rfl ⟨by omega, by omega⟩ (fun h57 => ?_) (fun h58 => absurd h58 (by omega))
          refine r_const (i := 56) (u := 1) (z := 1) rfl rfl ?_
          refine r_load (i := 57) (u := 0) (w := 2) rfl rfl rfl ?_
          refine r_getf (i := 58) (v := 3) (w := 6) (x := (2, 26)) rfl ly29 rfl rfl fun _ => ?_
          have h60 := hI13.c2
          have h61 : S12.f 26 5 = S.f 26 5 := by rw [← hS14]; exact ysf_ne (by decide)
          refine r_getf (i := 59) (v := 5) (w := 5) (x := vl (S12.f 26 5)) rfl ly26 rfl rfl fun h62 => ?_
          have h62 : Rl (S12.f 26 5) := h62
          refine r_call (i := 60) (u := 6) (v := 43) (w := 0) (b := 0) (na := 1027) (C2 := xC43) (as := [(2, 29), vi 1, vl (S12.f 26 5)]) (s := []) rfl rfl rfl rfl rfl rfl rfl (sp43 (w0 := 1) (v := S12.f 26 5) hI13 ⟨by omega, by omega⟩ ⟨by omega, by omega⟩   (by omega)) (fun r63 S64 hq65 => ?_)
          obtain ⟨z66, rfl, h67, h68, hI69, hF70, hR71⟩ := hq65
          have hF72 := hF15.trans hF70 rfl rfl
          have hR73 := hR16.trans hR71 rfl
          refine Or.inr (Or.inl ⟨rfl, ?_⟩)
          exact r_retI (i := 61) rfl ⟨z66, rfl, by omega, by omega, hI69, hF72, hR73⟩
        · refine r_load (i := 39) (u := 0) (w := 2) rfl rfl rfl ?_
          refine r_load (i := 40) (u := 1) (w := 0) rfl rfl rfl ?_
          refine r_load (i := 41) (u := 0) (w := 2) rfl rfl rfl ?_
          refine r_getf (i := 42) (v := 3) (w := 6) (x := (2, 26)) rfl ly29 rfl rfl fun _ => ?_
          have h75 := hI13.c2
          have h76 : S12.f 26 5 = S.f 26 5 := by rw [← hS14]; exact ysf_ne (by decide)
          refine r_getf (i := 43) (v := 5) (w := 5) (x := vl (S12.f 26 5)) rfl ly26 rfl rfl fun h77 => ?_
          have h77 : Rl (S12.f 26 5) := h77
          refine r_l2i (i := 44) rfl ?_
          rw [vi_sg (S12.f 26 5)]
          have h78 := ysg_fact (S12.f 26 5)
          refine r_call (i := 45) (u := 6) (v := 45) (w := 0) (b := 0) (na := 1027) (C2 := xC45) (as := [(2, 29), vi k, vi (ysg (S12.f 26 5))]) (s := []) rfl rfl rfl rfl rfl rfl rfl (sp45 (k := k) (t := ysg (S12.f 26 5)) hI13 ⟨by omega, by omega⟩ ⟨by omega, by omega⟩   (by omega)) (fun r79 S80 hq81 => ?_)
          obtain ⟨z82, rfl, h83, h84, rfl⟩ := hq81
          refine Or.inr (Or.inl ⟨rfl, ?_⟩)
          refine z_ne (i := 46) (v := 49) rfl ⟨by omega, by omega⟩ (fun h85 => ?_) (fun h86 => ?_)
          · refine r_const (i := 49) (u := 0) (z := 0) rfl rfl ?_
            refine r_store (i := 50) (u := 4) (w := 0) (L1 := [some ((2, 29)), some (vi k), some (vi (S.a 23 k.toNat)), some (vi (S.a 24 k.toNat)), some (vi 0)]) rfl rfl rfl rfl ?_
            refine r_load (i := 51) (u := 0) (w := 2) rfl rfl rfl ?_
            refine r_load (i := 52) (u := 4) (w := 0) rfl rfl rfl ?_
            refine z_eq (i := 53) (v := 56) rfl ⟨by omega, by omega⟩ (fun h87 => ?_) (fun h88 => absurd h88 (by omega))
            refine r_const (i := 56) (u := 1) (z := 1) rfl rfl ?_
            refine r_load (i := 57) (u := 0) (w := 2) rfl rfl rfl ?_
            refine r_getf (i := 58) (v := 3) (w := 6) (x := (2, 26)) rfl ly29 rfl rfl fun _ => ?_
            refine r_getf (i := 59) (v := 5) (w := 5) (x := vl (S12.f 26 5)) rfl ly26 rfl rfl fun h90 => ?_
            have h90 : Rl (S12.f 26 5) := h90
            refine r_call (i := 60) (u := 6) (v := 43) (w := 0) (b := 0) (na := 1027) (C2 := xC43) (as := [(2, 29), vi 1, vl (S12.f 26 5)]) (s := []) rfl rfl rfl rfl rfl rfl rfl (sp43 (w0 := 1) (v := S12.f 26 5) hI13 ⟨by omega, by omega⟩ ⟨by omega, by omega⟩   (by omega)) (fun r91 S92 hq93 => ?_)
            obtain ⟨z94, rfl, h95, h96, hI97, hF98, hR99⟩ := hq93
            have hF100 := hF15.trans hF98 rfl rfl
            have hR101 := hR16.trans hR99 rfl
            refine Or.inr (Or.inl ⟨rfl, ?_⟩)
            exact r_retI (i := 61) rfl ⟨z94, rfl, by omega, by omega, hI97, hF100, hR101⟩
          · refine r_const (i := 47) (u := 1) (z := 1) rfl rfl ?_
            refine r_goto (i := 48) (v := 50) rfl ?_
            refine r_store (i := 50) (u := 4) (w := 0) (L1 := [some ((2, 29)), some (vi k), some (vi (S.a 23 k.toNat)), some (vi (S.a 24 k.toNat)), some (vi 1)]) rfl rfl rfl rfl ?_
            refine r_load (i := 51) (u := 0) (w := 2) rfl rfl rfl ?_
            refine r_load (i := 52) (u := 4) (w := 0) rfl rfl rfl ?_
            refine z_eq (i := 53) (v := 56) rfl ⟨by omega, by omega⟩ (fun h102 => absurd h102 (by omega)) (fun h103 => ?_)
            refine r_const (i := 54) (u := 4) (z := 4) rfl rfl ?_
            refine r_goto (i := 55) (v := 57) rfl ?_
            refine r_load (i := 57) (u := 0) (w := 2) rfl rfl rfl ?_
            refine r_getf (i := 58) (v := 3) (w := 6) (x := (2, 26)) rfl ly29 rfl rfl fun _ => ?_
            refine r_getf (i := 59) (v := 5) (w := 5) (x := vl (S12.f 26 5)) rfl ly26 rfl rfl fun h105 => ?_
            have h105 : Rl (S12.f 26 5) := h105
            refine r_call (i := 60) (u := 6) (v := 43) (w := 0) (b := 0) (na := 1027) (C2 := xC43) (as := [(2, 29), vi 4, vl (S12.f 26 5)]) (s := []) rfl rfl rfl rfl rfl rfl rfl (sp43 (w0 := 4) (v := S12.f 26 5) hI13 ⟨by omega, by omega⟩ ⟨by omega, by omega⟩   (by omega)) (fun r106 S107 hq108 => ?_)
            obtain ⟨z109, rfl, h110, h111, hI112, hF113, hR114⟩ := hq108
            have hF115 := hF15.trans hF113 rfl rfl
            have hR116 := hR16.trans hR114 rfl
            refine Or.inr (Or.inl ⟨rfl, ?_⟩)
            exact r_retI (i := 61) rfl ⟨z109, rfl, by omega, by omega, hI112, hF115, hR116⟩
    · refine r_load (i := 25) (u := 0) (w := 2) rfl rfl rfl ?_
      refine r_load (i := 26) (u := 0) (w := 2) rfl rfl rfl ?_
      refine r_getf (i := 27) (v := 1) (w := 6) (x := (2, 9)) rfl ly29 rfl rfl fun _ => ?_
      refine r_getf (i := 28) (v := 4) (w := 2) (x := (2, 13)) rfl ly9 rfl rfl fun _ => ?_
      refine r_load (i := 29) (u := 2) (w := 0) rfl rfl rfl ?_
      refine a_int (i := 30) rfl ly13 rfl (by omega) (by omega) fun h119 => ?_
      have kp120 := hI13.k13 (S.a 23 k.toNat).toNat
      have h121 : S12.a 13 (S.a 23 k.toNat).toNat = S.a 13 (S.a 23 k.toNat).toNat := by rw [← hS14]; rfl
      refine r_call (i := 31) (u := 6) (v := 44) (w := 0) (b := 0) (na := 1538) (C2 := xC44) (as := [(2, 29), vi (S12.a 13 (S.a 23 k.toNat).toNat)]) (s := []) rfl rfl rfl rfl rfl rfl rfl (sp44 (p := S12.a 13 (S.a 23 k.toNat).toNat) hI13 ⟨by omega, by omega⟩   (by omega)) (fun r122 S123 hq124 => ?_)
      obtain ⟨rfl, hI125, hF126, hR127⟩ := hq124
      have hF128 := hF15.trans hF126 rfl rfl
      have hR129 := hR16.trans hR127 rfl
      refine Or.inl ⟨rfl, ?_⟩
      refine r_load (i := 32) (u := 0) (w := 2) rfl rfl rfl ?_
      refine r_getf (i := 33) (v := 3) (w := 6) (x := (2, 26)) rfl ly29 rfl rfl fun _ => ?_
      have h131 := hI125.f tf26_4
      have h132 := hI125.c2
      have h133 : S123.f 26 4 = S12.f 26 4 := hF126.f rfl
      have h134 : S12.f 26 4 = S.f 26 4 := by rw [← hS14]; exact ysf_ne (by decide)
      refine r_getf (i := 34) (v := 4) (w := 5) (x := vi (S123.f 26 4)) rfl ly26 rfl rfl fun h135 => ?_
      have h135 : Rg (S123.f 26 4) := h135
      refine r_const (i := 35) (u := 5) (z := 5) rfl rfl ?_
      refine c_ne (i := 36) (v := 62) rfl ⟨by omega, by omega⟩ ⟨by omega, by omega⟩ (fun h136 => ?_) (fun h137 => ?_)
      · refine r_load (i := 62) (u := 3) (w := 0) rfl rfl rfl ?_
        refine r_const (i := 63) (u := 3) (z := 3) rfl rfl ?_
        refine c_ne (i := 64) (v := 69) rfl ⟨by omega, by omega⟩ ⟨by omega, by omega⟩ (fun h138 => ?_) (fun h139 => ?_)
        · refine r_load (i := 69) (u := 0) (w := 2) rfl rfl rfl ?_
          refine r_load (i := 70) (u := 0) (w := 2) rfl rfl rfl ?_
          refine r_getf (i := 71) (v := 1) (w := 6) (x := (2, 9)) rfl ly29 rfl rfl fun _ => ?_
          refine r_getf (i := 72) (v := 5) (w := 2) (x := (2, 14)) rfl ly9 rfl rfl fun _ => ?_
          refine r_load (i := 73) (u := 2) (w := 0) rfl rfl rfl ?_
          refine a_int (i := 74) rfl ly14 rfl (by omega) (by omega) fun h142 => ?_
          have h143 := hI125.a ta14 (S.a 23 k.toNat).toNat
          have h144 : S123.a 14 (S.a 23 k.toNat).toNat = S12.a 14 (S.a 23 k.toNat).toNat := hF126.a rfl _
          have h145 : S12.a 14 (S.a 23 k.toNat).toNat = S.a 14 (S.a 23 k.toNat).toNat := by rw [← hS14]; rfl
          refine r_call (i := 75) (u := 6) (v := 48) (w := 0) (b := 0) (na := 514) (C2 := xC48) (as := [(2, 29), vi (S123.a 14 (S.a 23 k.toNat).toNat)]) (s := []) rfl rfl rfl rfl rfl rfl rfl (sp48 (b := S123.a 14 (S.a 23 k.toNat).toNat) hI125 ⟨by omega, by omega⟩   (by omega)) (fun r146 S147 hq148 => ?_)
          obtain ⟨z149, rfl, h150, h151, hI152, hF153, hR154⟩ := hq148
          have hF155 := hF128.trans hF153 rfl rfl
          have hR156 := hR129.trans hR154 rfl
          refine Or.inr (Or.inl ⟨rfl, ?_⟩)
          exact r_retI (i := 76) rfl ⟨z149, rfl, by omega, by omega, hI152, hF155, hR156⟩
        · refine r_load (i := 65) (u := 0) (w := 2) rfl rfl rfl ?_
          refine r_load (i := 66) (u := 2) (w := 0) rfl rfl rfl ?_
          refine r_call (i := 67) (u := 6) (v := 42) (w := 0) (b := 0) (na := 514) (C2 := xC42) (as := [(2, 29), vi (S.a 23 k.toNat)]) (s := []) rfl rfl rfl rfl rfl rfl rfl (sp42 (m := S.a 23 k.toNat) hI125 ⟨by omega, by omega⟩   (by omega)) (fun r157 S158 hq159 => ?_)
          obtain ⟨z160, rfl, h161, h162, hI163, hF164, hR165⟩ := hq159
          have hF166 := hF128.trans hF164 rfl rfl
          have hR167 := hR129.trans hR165 rfl
          refine Or.inr (Or.inl ⟨rfl, ?_⟩)
          refine r_goto (i := 68) (v := 76) rfl ?_
          exact r_retI (i := 76) rfl ⟨z160, rfl, by omega, by omega, hI163, hF166, hR167⟩
      · refine r_load (i := 37) (u := 3) (w := 0) rfl rfl rfl ?_
        refine z_ne (i := 38) (v := 49) rfl ⟨by omega, by omega⟩ (fun h168 => ?_) (fun h169 => ?_)
        · refine r_const (i := 49) (u := 0) (z := 0) rfl rfl ?_
          refine r_store (i := 50) (u := 4) (w := 0) (L1 := [some ((2, 29)), some (vi k), some (vi (S.a 23 k.toNat)), some (vi (S.a 24 k.toNat)), some (vi 0)]) rfl rfl rfl rfl ?_
          refine r_load (i := 51) (u := 0) (w := 2) rfl rfl rfl ?_
          refine r_load (i := 52) (u := 4) (w := 0) rfl rfl rfl ?_
          refine z_eq (i := 53) (v := 56) rfl ⟨by omega, by omega⟩ (fun h170 => ?_) (fun h171 => absurd h171 (by omega))
          refine r_const (i := 56) (u := 1) (z := 1) rfl rfl ?_
          refine r_load (i := 57) (u := 0) (w := 2) rfl rfl rfl ?_
          refine r_getf (i := 58) (v := 3) (w := 6) (x := (2, 26)) rfl ly29 rfl rfl fun _ => ?_
          have h173 := hI125.c2
          have h174 : S123.f 26 5 = S12.f 26 5 := hF126.f rfl
          have h175 : S12.f 26 5 = S.f 26 5 := by rw [← hS14]; exact ysf_ne (by decide)
          refine r_getf (i := 59) (v := 5) (w := 5) (x := vl (S123.f 26 5)) rfl ly26 rfl rfl fun h176 => ?_
          have h176 : Rl (S123.f 26 5) := h176
          refine r_call (i := 60) (u := 6) (v := 43) (w := 0) (b := 0) (na := 1027) (C2 := xC43) (as := [(2, 29), vi 1, vl (S123.f 26 5)]) (s := []) rfl rfl rfl rfl rfl rfl rfl (sp43 (w0 := 1) (v := S123.f 26 5) hI125 ⟨by omega, by omega⟩ ⟨by omega, by omega⟩   (by omega)) (fun r177 S178 hq179 => ?_)
          obtain ⟨z180, rfl, h181, h182, hI183, hF184, hR185⟩ := hq179
          have hF186 := hF128.trans hF184 rfl rfl
          have hR187 := hR129.trans hR185 rfl
          refine Or.inr (Or.inl ⟨rfl, ?_⟩)
          exact r_retI (i := 61) rfl ⟨z180, rfl, by omega, by omega, hI183, hF186, hR187⟩
        · refine r_load (i := 39) (u := 0) (w := 2) rfl rfl rfl ?_
          refine r_load (i := 40) (u := 1) (w := 0) rfl rfl rfl ?_
          refine r_load (i := 41) (u := 0) (w := 2) rfl rfl rfl ?_
          refine r_getf (i := 42) (v := 3) (w := 6) (x := (2, 26)) rfl ly29 rfl rfl fun _ => ?_
          have h189 := hI125.c2
          have h190 : S123.f 26 5 = S12.f 26 5 := hF126.f rfl
          have h191 : S12.f 26 5 = S.f 26 5 := by rw [← hS14]; exact ysf_ne (by decide)
          refine r_getf (i := 43) (v := 5) (w := 5) (x := vl (S123.f 26 5)) rfl ly26 rfl rfl fun h192 => ?_
          have h192 : Rl (S123.f 26 5) := h192
          refine r_l2i (i := 44) rfl ?_
          rw [vi_sg (S123.f 26 5)]
          have h193 := ysg_fact (S123.f 26 5)
          refine r_call (i := 45) (u := 6) (v := 45) (w := 0) (b := 0) (na := 1027) (C2 := xC45) (as := [(2, 29), vi k, vi (ysg (S123.f 26 5))]) (s := []) rfl rfl rfl rfl rfl rfl rfl (sp45 (k := k) (t := ysg (S123.f 26 5)) hI125 ⟨by omega, by omega⟩ ⟨by omega, by omega⟩   (by omega)) (fun r194 S195 hq196 => ?_)
          obtain ⟨z197, rfl, h198, h199, rfl⟩ := hq196
          refine Or.inr (Or.inl ⟨rfl, ?_⟩)
          refine z_ne (i := 46) (v := 49) rfl ⟨by omega, by omega⟩ (fun h200 => ?_) (fun h201 => ?_)
          · refine r_const (i := 49) (u := 0) (z := 0) rfl rfl ?_
            refine r_store (i := 50) (u := 4) (w := 0) (L1 := [some ((2, 29)), some (vi k), some (vi (S.a 23 k.toNat)), some (vi (S.a 24 k.toNat)), some (vi 0)]) rfl rfl rfl rfl ?_
            refine r_load (i := 51) (u := 0) (w := 2) rfl rfl rfl ?_
            refine r_load (i := 52) (u := 4) (w := 0) rfl rfl rfl ?_
            refine z_eq (i := 53) (v := 56) rfl ⟨by omega, by omega⟩ (fun h202 => ?_) (fun h203 => absurd h203 (by omega))
            refine r_const (i := 56) (u := 1) (z := 1) rfl rfl ?_
            refine r_load (i := 57) (u := 0) (w := 2) rfl rfl rfl ?_
            refine r_getf (i := 58) (v := 3) (w := 6) (x := (2, 26)) rfl ly29 rfl rfl fun _ => ?_
            refine r_getf (i := 59) (v := 5) (w := 5) (x := vl (S123.f 26 5)) rfl ly26 rfl rfl fun h205 => ?_
            have h205 : Rl (S123.f 26 5) := h205
            refine r_call (i := 60) (u := 6) (v := 43) (w := 0) (b := 0) (na := 1027) (C2 := xC43) (as := [(2, 29), vi 1, vl (S123.f 26 5)]) (s := []) rfl rfl rfl rfl rfl rfl rfl (sp43 (w0 := 1) (v := S123.f 26 5) hI125 ⟨by omega, by omega⟩ ⟨by omega, by omega⟩   (by omega)) (fun r206 S207 hq208 => ?_)
            obtain ⟨z209, rfl, h210, h211, hI212, hF213, hR214⟩ := hq208
            have hF215 := hF128.trans hF213 rfl rfl
            have hR216 := hR129.trans hR214 rfl
            refine Or.inr (Or.inl ⟨rfl, ?_⟩)
            exact r_retI (i := 61) rfl ⟨z209, rfl, by omega, by omega, hI212, hF215, hR216⟩
          · refine r_const (i := 47) (u := 1) (z := 1) rfl rfl ?_
            refine r_goto (i := 48) (v := 50) rfl ?_
            refine r_store (i := 50) (u := 4) (w := 0) (L1 := [some ((2, 29)), some (vi k), some (vi (S.a 23 k.toNat)), some (vi (S.a 24 k.toNat)), some (vi 1)]) rfl rfl rfl rfl ?_
            refine r_load (i := 51) (u := 0) (w := 2) rfl rfl rfl ?_
            refine r_load (i := 52) (u := 4) (w := 0) rfl rfl rfl ?_
            refine z_eq (i := 53) (v := 56) rfl ⟨by omega, by omega⟩ (fun h217 => absurd h217 (by omega)) (fun h218 => ?_)
            refine r_const (i := 54) (u := 4) (z := 4) rfl rfl ?_
            refine r_goto (i := 55) (v := 57) rfl ?_
            refine r_load (i := 57) (u := 0) (w := 2) rfl rfl rfl ?_
            refine r_getf (i := 58) (v := 3) (w := 6) (x := (2, 26)) rfl ly29 rfl rfl fun _ => ?_
            refine r_getf (i := 59) (v := 5) (w := 5) (x := vl (S123.f 26 5)) rfl ly26 rfl rfl fun h220 => ?_
            have h220 : Rl (S123.f 26 5) := h220
            refine r_call (i := 60) (u := 6) (v := 43) (w := 0) (b := 0) (na := 1027) (C2 := xC43) (as := [(2, 29), vi 4, vl (S123.f 26 5)]) (s := []) rfl rfl rfl rfl rfl rfl rfl (sp43 (w0 := 4) (v := S123.f 26 5) hI125 ⟨by omega, by omega⟩ ⟨by omega, by omega⟩   (by omega)) (fun r221 S222 hq223 => ?_)
            obtain ⟨z224, rfl, h225, h226, hI227, hF228, hR229⟩ := hq223
            have hF230 := hF128.trans hF228 rfl rfl
            have hR231 := hR129.trans hR229 rfl
            refine Or.inr (Or.inl ⟨rfl, ?_⟩)
            exact r_retI (i := 61) rfl ⟨z224, rfl, by omega, by omega, hI227, hF230, hR231⟩
  · refine r_load (i := 15) (u := 0) (w := 2) rfl rfl rfl ?_
    refine r_load (i := 16) (u := 2) (w := 0) rfl rfl rfl ?_
    refine r_call (i := 17) (u := 6) (v := 46) (w := 0) (b := 0) (na := 514) (C2 := xC46) (as := [(2, 29), vi (S.a 23 k.toNat)]) (s := []) rfl rfl rfl rfl rfl rfl rfl (sp46 (m := S.a 23 k.toNat) hI ⟨by omega, by omega⟩   (by omega)) (fun r232 S233 hq234 => ?_)
    obtain ⟨z235, rfl, h236, h237, hI238, hF239, hR240⟩ := hq234
    have hF241 := hF.trans hF239 rfl rfl
    have hR242 := hR.trans hR240 rfl
    refine Or.inr (Or.inl ⟨rfl, ?_⟩)
    exact r_retI (i := 18) rfl ⟨z235, rfl, by omega, by omega, hI238, hF241, hR242⟩
end XNC
