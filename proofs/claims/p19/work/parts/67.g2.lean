set_option linter.unusedVariables false
set_option maxRecDepth 4000
noncomputable section XNC
/-- java/lang/Math.max -/
theorem sp268 {G : xk} {S : yS} {d : Nat}  {x : Int} (h_x : -2147483648 ≤ x ∧ x ≤ 2147483647) {y : Int} (h_y : -2147483648 ≤ y ∧ y ≤ 2147483647) (hd : 0 ≤ d) : yT xPr G LY xC268 0 [some (vi x), some (vi y)] [] S d (fun r S' => ∃ z : Int, r = (1, vi z) ∧ -2147483648 ≤ z ∧ z ≤ 2147483647 ∧ (x ≤ z ∧ y ≤ z) ∧ (z = x ∨ z = y) ∧ S = S') := by
  refine yT_pad 0 ?_
  show yT xPr G LY xC268 0 [some (vi x), some (vi y)] [] S d _
  refine r_load (i := 0) (u := 0) (w := 0) rfl rfl rfl ?_
  refine r_load (i := 1) (u := 1) (w := 0) rfl rfl rfl ?_
  refine c_lt (i := 2) (v := 5) rfl ⟨by omega, by omega⟩ ⟨by omega, by omega⟩ (fun h1 => ?_) (fun h2 => ?_)
  · refine r_load (i := 5) (u := 1) (w := 0) rfl rfl rfl ?_
    exact r_retI (i := 6) rfl ⟨y, rfl, by omega, by omega, (by omega), (by omega), rfl⟩
  · refine r_load (i := 3) (u := 0) (w := 0) rfl rfl rfl ?_
    refine r_goto (i := 4) (v := 6) rfl ?_
    exact r_retI (i := 6) rfl ⟨x, rfl, by omega, by omega, (by omega), (by omega), rfl⟩
/-- java/lang/Math.min -/
theorem sp269 {G : xk} {S : yS} {d : Nat}  {x : Int} (h_x : -2147483648 ≤ x ∧ x ≤ 2147483647) {y : Int} (h_y : -2147483648 ≤ y ∧ y ≤ 2147483647) (hd : 0 ≤ d) : yT xPr G LY xC269 0 [some (vi x), some (vi y)] [] S d (fun r S' => ∃ z : Int, r = (1, vi z) ∧ -2147483648 ≤ z ∧ z ≤ 2147483647 ∧ (z ≤ x ∧ z ≤ y) ∧ (z = x ∨ z = y) ∧ S = S') := by
  refine yT_pad 0 ?_
  show yT xPr G LY xC269 0 [some (vi x), some (vi y)] [] S d _
  refine r_load (i := 0) (u := 0) (w := 0) rfl rfl rfl ?_
  refine r_load (i := 1) (u := 1) (w := 0) rfl rfl rfl ?_
  refine c_gt (i := 2) (v := 5) rfl ⟨by omega, by omega⟩ ⟨by omega, by omega⟩ (fun h1 => ?_) (fun h2 => ?_)
  · refine r_load (i := 5) (u := 1) (w := 0) rfl rfl rfl ?_
    exact r_retI (i := 6) rfl ⟨y, rfl, by omega, by omega, (by omega), (by omega), rfl⟩
  · refine r_load (i := 3) (u := 0) (w := 0) rfl rfl rfl ?_
    refine r_goto (i := 4) (v := 6) rfl ?_
    exact r_retI (i := 6) rfl ⟨x, rfl, by omega, by omega, (by omega), (by omega), rfl⟩
/-- java/lang/String.coder -/
theorem sp272 {G : xk} {S : yS} {d : Nat}  {s : Nat} (h_s : yStr s) (hd : 0 ≤ d) : yT xPr G LY xC272 0 [some ((6, s))] [] S d (fun r S' => ∃ z : Int, r = (1, vi z) ∧ 0 ≤ z ∧ z ≤ 0 ∧ S = S') := by
  refine yT_pad 0 ?_
  show yT xPr G LY xC272 0 [some ((6, s))] [] S d _
  refine r_wordI (i := 0) (w := 1) (z := 1) rfl rfl ?_
  refine z_eq (i := 1) (v := 5) rfl ⟨by omega, by omega⟩ (fun h1 => absurd h1 (by omega)) (fun h2 => ?_)
  refine r_load (i := 2) (u := 0) (w := 2) rfl rfl rfl ?_
  refine s_cod (i := 3) rfl h_s ?_
  refine r_goto (i := 4) (v := 6) rfl ?_
  exact r_retB (i := 6) rfl (by omega) (by omega) ⟨0, rfl, by omega, by omega, rfl⟩
/-- java/lang/String.isLatin1 -/
theorem sp273 {G : xk} {S : yS} {d : Nat}  {s : Nat} (h_s : yStr s) (hd : 0 ≤ d) : yT xPr G LY xC273 0 [some ((6, s))] [] S d (fun r S' => ∃ z : Int, r = (1, vi z) ∧ 1 ≤ z ∧ z ≤ 1 ∧ S = S') := by
  refine yT_pad 0 ?_
  show yT xPr G LY xC273 0 [some ((6, s))] [] S d _
  refine r_wordI (i := 0) (w := 1) (z := 1) rfl rfl ?_
  refine z_eq (i := 1) (v := 7) rfl ⟨by omega, by omega⟩ (fun h1 => absurd h1 (by omega)) (fun h2 => ?_)
  refine r_load (i := 2) (u := 0) (w := 2) rfl rfl rfl ?_
  refine s_cod (i := 3) rfl h_s ?_
  refine z_ne (i := 4) (v := 7) rfl ⟨by omega, by omega⟩ (fun h3 => absurd h3 (by omega)) (fun h4 => ?_)
  refine r_const (i := 5) (u := 1) (z := 1) rfl rfl ?_
  refine r_goto (i := 6) (v := 8) rfl ?_
  exact r_retZ (i := 8) rfl (by omega) (by omega) ⟨1, rfl, by omega, by omega, rfl⟩
/-- java/lang/String.length -/
theorem sp274 {G : xk} {S : yS} {d : Nat}  {s : Nat} (h_s : yStr s) (hd : 1 ≤ d) : yT xPr G LY xC274 0 [some ((6, s))] [] S d (fun r S' => ∃ z : Int, r = (1, vi z) ∧ 0 ≤ z ∧ z ≤ 58 ∧ z = slen s ∧ S = S') := by
  refine yT_pad 0 ?_
  show yT xPr G LY xC274 0 [some ((6, s))] [] S d _
  obtain ⟨d, rfl⟩ : ∃ q, d = q + 1 := ⟨d - 1, by omega⟩
  refine r_load (i := 0) (u := 0) (w := 2) rfl rfl rfl ?_
  refine s_val (i := 1) rfl h_s ?_
  refine s_len (i := 2) rfl h_s ?_
  have h1 := slen_le h_s
  refine r_load (i := 3) (u := 0) (w := 2) rfl rfl rfl ?_
  refine r_call (i := 4) (u := 100) (v := 272) (w := 0) (b := 0) (na := 257) (C2 := xC272) (as := [(6, s)]) (s := [vi (slen s)]) rfl rfl rfl rfl rfl (yrcv_str h_s) rfl (sp272 (s := s)  h_s   (by omega)) (fun r2 S3 hq4 => ?_)
  obtain ⟨z5, rfl, h6, h7, rfl⟩ := hq4
  obtain rfl : z5 = 0 := by omega
  refine Or.inr (Or.inl ⟨rfl, ?_⟩)
  refine r_ishr (i := 5) rfl (by omega) (by omega) (by omega) (by omega) ?_
  have h8 := @yshr_c (slen s) 0 (by omega) (by omega)
  exact r_retI (i := 6) rfl ⟨yshr (slen s) 0, rfl, by omega, by omega, (by exact yshr_0 _ (by omega) (by omega)), rfl⟩
/-- jdk/internal/util/Preconditions.checkIndex -/
theorem sp279 {G : xk} {S : yS} {d : Nat}  {x : Int} (h_x : -2147483648 ≤ x ∧ x ≤ 2147483647) {y : Int} (h_y : -2147483648 ≤ y ∧ y ≤ 2147483647) (p_0 : 0 ≤ x ∧ x < y) (hd : 0 ≤ d) : yT xPr G LY xC279 0 [some (vi x), some (vi y), some ((8, 0))] [] S d (fun r S' => ∃ z : Int, r = (1, vi z) ∧ -2147483648 ≤ z ∧ z ≤ 2147483647 ∧ S = S') := by
  refine yT_pad 0 ?_
  show yT xPr G LY xC279 0 [some (vi x), some (vi y), some ((8, 0))] [] S d _
  refine r_load (i := 0) (u := 0) (w := 0) rfl rfl rfl ?_
  refine z_lt (i := 1) (v := 5) rfl ⟨by omega, by omega⟩ (fun h1 => ?_) (fun h2 => ?_)
  · refine r_load (i := 5) (u := 2) (w := 2) rfl rfl rfl ?_
    refine r_load (i := 6) (u := 0) (w := 0) rfl rfl rfl ?_
    refine r_load (i := 7) (u := 1) (w := 0) rfl rfl rfl ?_
    exfalso; omega
  · refine r_load (i := 2) (u := 0) (w := 0) rfl rfl rfl ?_
    refine r_load (i := 3) (u := 1) (w := 0) rfl rfl rfl ?_
    refine c_lt (i := 4) (v := 10) rfl ⟨by omega, by omega⟩ ⟨by omega, by omega⟩ (fun h3 => ?_) (fun h4 => ?_)
    · refine r_load (i := 10) (u := 0) (w := 0) rfl rfl rfl ?_
      exact r_retI (i := 11) rfl ⟨x, rfl, by omega, by omega, rfl⟩
    · refine r_load (i := 5) (u := 2) (w := 2) rfl rfl rfl ?_
      refine r_load (i := 6) (u := 0) (w := 0) rfl rfl rfl ?_
      refine r_load (i := 7) (u := 1) (w := 0) rfl rfl rfl ?_
      exfalso; omega
/-- java/lang/String.checkIndex -/
theorem sp271 {G : xk} {S : yS} {d : Nat}  {x : Int} (h_x : -2147483648 ≤ x ∧ x ≤ 2147483647) {y : Int} (h_y : -2147483648 ≤ y ∧ y ≤ 2147483647) (p_0 : 0 ≤ x ∧ x < y) (hd : 1 ≤ d) : yT xPr G LY xC271 0 [some (vi x), some (vi y)] [] S d (fun r S' => r = (0, (0, 0)) ∧ S = S') := by
  refine yT_pad 0 ?_
  show yT xPr G LY xC271 0 [some (vi x), some (vi y)] [] S d _
  obtain ⟨d, rfl⟩ : ∃ q, d = q + 1 := ⟨d - 1, by omega⟩
  refine r_load (i := 0) (u := 0) (w := 0) rfl rfl rfl ?_
  refine r_load (i := 1) (u := 1) (w := 0) rfl rfl rfl ?_
  refine r_word (i := 2) (v := 8) (w := 0) rfl ?_
  refine r_call (i := 3) (u := 65535) (v := 279) (w := 0) (b := 2) (na := 771) (C2 := xC279) (as := [vi x, vi y, (8, 0)]) (s := []) rfl rfl rfl rfl rfl rfl rfl (sp279 (x := x) (y := y)  ⟨by omega, by omega⟩ ⟨by omega, by omega⟩ (by omega)  (by omega)) (fun r1 S2 hq3 => ?_)
  obtain ⟨z4, rfl, h5, h6, rfl⟩ := hq3
  refine Or.inr (Or.inl ⟨rfl, ?_⟩)
  refine r_pop (i := 4) rfl rfl ?_
  exact r_ret0 (i := 5) rfl ⟨rfl,  rfl⟩
/-- java/lang/StringLatin1.charAt -/
theorem sp275 {G : xk} {S : yS} {d : Nat}  {s : Nat} (h_s : yStr s) {x : Int} (h_x : -2147483648 ≤ x ∧ x ≤ 2147483647) (p_0 : 0 ≤ x ∧ x < slen s) (hd : 2 ≤ d) : yT xPr G LY xC275 0 [some ((7, s)), some (vi x)] [] S d (fun r S' => ∃ z : Int, r = (1, vi z) ∧ 1 ≤ z ∧ z ≤ 127 ∧ ((xPr.2.1[s]?).getD [])[x.toNat]? = some (vi z) ∧ S = S') := by
  refine yT_pad 0 ?_
  show yT xPr G LY xC275 0 [some ((7, s)), some (vi x)] [] S d _
  obtain ⟨d, rfl⟩ : ∃ q, d = q + 1 := ⟨d - 1, by omega⟩
  refine r_load (i := 0) (u := 1) (w := 0) rfl rfl rfl ?_
  refine r_load (i := 1) (u := 0) (w := 2) rfl rfl rfl ?_
  refine s_len (i := 2) rfl h_s ?_
  have h1 := slen_le h_s
  refine r_call (i := 3) (u := 65535) (v := 271) (w := 0) (b := 2) (na := 514) (C2 := xC271) (as := [vi x, vi (slen s)]) (s := []) rfl rfl rfl rfl rfl rfl rfl (sp271 (x := x) (y := slen s)  ⟨by omega, by omega⟩ ⟨by omega, by omega⟩ (by omega)  (by omega)) (fun r2 S3 hq4 => ?_)
  obtain ⟨rfl, rfl⟩ := hq4
  refine Or.inl ⟨rfl, ?_⟩
  refine r_load (i := 4) (u := 0) (w := 2) rfl rfl rfl ?_
  refine r_load (i := 5) (u := 1) (w := 0) rfl rfl rfl ?_
  refine s_chr (i := 6) rfl h_s (by omega) (by omega) fun q5 h6 h7 h8 => ?_
  refine r_const (i := 7) (u := 255) (z := 255) rfl rfl ?_
  refine r_iand (i := 8) rfl ?_
  have h9 := @yand_c q5 255 (by decide) (by decide)
  have h10 := yand_255 q5
  refine r_i2c (i := 9) rfl ?_
  exact r_retC (i := 10) rfl (by omega) (by omega) ⟨(yand q5 255) % 65536, rfl, by omega, by omega, (by first | assumption | (rw [Int.emod_eq_of_lt (by omega) (by omega), yand_255 _ ⟨by omega, by omega⟩]; assumption)), rfl⟩
/-- java/lang/String.charAt -/
theorem sp270 {G : xk} {S : yS} {d : Nat}  {s : Nat} (h_s : yStr s) {x : Int} (h_x : -2147483648 ≤ x ∧ x ≤ 2147483647) (p_0 : 0 ≤ x ∧ x < slen s) (hd : 3 ≤ d) : yT xPr G LY xC270 0 [some ((6, s)), some (vi x)] [] S d (fun r S' => ∃ z : Int, r = (1, vi z) ∧ 1 ≤ z ∧ z ≤ 127 ∧ ((xPr.2.1[s]?).getD [])[x.toNat]? = some (vi z) ∧ S = S') := by
  refine yT_pad 0 ?_
  show yT xPr G LY xC270 0 [some ((6, s)), some (vi x)] [] S d _
  obtain ⟨d, rfl⟩ : ∃ q, d = q + 1 := ⟨d - 1, by omega⟩
  refine r_load (i := 0) (u := 0) (w := 2) rfl rfl rfl ?_
  refine r_call (i := 1) (u := 100) (v := 273) (w := 0) (b := 0) (na := 257) (C2 := xC273) (as := [(6, s)]) (s := []) rfl rfl rfl rfl rfl (yrcv_str h_s) rfl (sp273 (s := s)  h_s   (by omega)) (fun r1 S2 hq3 => ?_)
  obtain ⟨z4, rfl, h5, h6, rfl⟩ := hq3
  obtain rfl : z4 = 1 := by omega
  refine Or.inr (Or.inl ⟨rfl, ?_⟩)
  refine z_eq (i := 2) (v := 8) rfl ⟨by omega, by omega⟩ (fun h7 => absurd h7 (by omega)) (fun h8 => ?_)
  refine r_load (i := 3) (u := 0) (w := 2) rfl rfl rfl ?_
  refine s_val (i := 4) rfl h_s ?_
  refine r_load (i := 5) (u := 1) (w := 0) rfl rfl rfl ?_
  refine r_call (i := 6) (u := 65535) (v := 275) (w := 0) (b := 2) (na := 514) (C2 := xC275) (as := [(7, s), vi x]) (s := []) rfl rfl rfl rfl rfl rfl rfl (sp275 (s := s) (x := x)  h_s ⟨by omega, by omega⟩ (by omega)  (by omega)) (fun r9 S10 hq11 => ?_)
  obtain ⟨z12, rfl, h13, h14, h15, rfl⟩ := hq11
  refine Or.inr (Or.inl ⟨rfl, ?_⟩)
  exact r_retC (i := 7) rfl (by omega) (by omega) ⟨z12, rfl, by omega, by omega, (by assumption), rfl⟩
end XNC
