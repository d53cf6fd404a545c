set_option linter.unusedVariables false
set_option maxRecDepth 4000
noncomputable section XNC
/-- ProxyForge$Writer.moveDepth -/
theorem sp161 {G : xk} {S : yS} {d : Nat} (hI : yI S) {c : Int} (h_c : -2147483648 ≤ c ∧ c ≤ 2147483647) (hd : 1 ≤ d) : yT xPr G LY xC161 0 [some ((2, 33)), some (vi c)] [] S d (fun r S' => r = (0, (0, 0)) ∧ yI S' ∧ yFr [(33, 14), (33, 15)] [] S S' ∧ yRm [] S S') := by
  refine yT_pad 0 ?_
  show yT xPr G LY xC161 0 [some ((2, 33)), some (vi c)] [] S d _
  obtain ⟨d, rfl⟩ : ∃ q, d = q + 1 := ⟨d - 1, by omega⟩
  have hF : yFr [(33, 14), (33, 15)] [] S S := yFr.refl S
  have hR : yRm [] S S := yRm.refl S
  refine r_load (i := 0) (u := 0) (w := 2) rfl rfl rfl ?_
  refine r_dup (i := 1) rfl rfl ?_
  refine r_getf (i := 2) (v := 14) (w := 8) (x := vi (S.f 33 14)) rfl ly33 rfl rfl fun h1 => ?_
  have h1 : Rg (S.f 33 14) := h1
  refine r_load (i := 3) (u := 1) (w := 0) rfl rfl rfl ?_
  refine r_iadd (i := 4) rfl ?_
  rw [vi_sg ((S.f 33 14) + c)]
  have h2 := ysg_rg ((S.f 33 14) + c)
  refine r_putI (i := 5) (v := 14) (w := 8) rfl ly33 rfl ⟨by omega, by omega⟩ ?_
  have hI4 := hI.setf0 (b := 33) (w := 14) (z := ysg ((S.f 33 14) + c)) rfl rfl
  have hF6 := hF.setf (b := 33) (w := 14) (z := ysg ((S.f 33 14) + c)) rfl
  have hR7 := hR.setf (b := 33) (w := 14) (z := ysg ((S.f 33 14) + c))
  refine yT_gen (fun S3 hS5 => ?_)
  rw [hS5] at hI4 hF6 hR7 
  refine r_load (i := 6) (u := 0) (w := 2) rfl rfl rfl ?_
  refine r_load (i := 7) (u := 0) (w := 2) rfl rfl rfl ?_
  have h8 : S3.f 33 15 = S.f 33 15 := by rw [← hS5]; exact ysf_ne (by decide)
  refine r_getf (i := 8) (v := 15) (w := 8) (x := vi (S3.f 33 15)) rfl ly33 rfl rfl fun h9 => ?_
  have h9 : Rg (S3.f 33 15) := h9
  refine r_load (i := 9) (u := 0) (w := 2) rfl rfl rfl ?_
  have h10 : S3.f 33 14 = ysg ((S.f 33 14) + c) := by rw [← hS5]; exact ysf_eq
  refine r_getf (i := 10) (v := 14) (w := 8) (x := vi (S3.f 33 14)) rfl ly33 rfl rfl fun h11 => ?_
  have h11 : Rg (S3.f 33 14) := h11
  refine r_call (i := 11) (u := 65535) (v := 268) (w := 0) (b := 2) (na := 514) (C2 := xC268) (as := [vi (S3.f 33 15), vi (S3.f 33 14)]) (s := [(2, 33)]) rfl rfl rfl rfl rfl rfl rfl (sp268 (x := S3.f 33 15) (y := S3.f 33 14)  ⟨by omega, by omega⟩ ⟨by omega, by omega⟩   (by omega)) (fun r12 S13 hq14 => ?_)
  obtain ⟨z15, rfl, h16, h17, h18, h19, rfl⟩ := hq14
  refine Or.inr (Or.inl ⟨rfl, ?_⟩)
  refine r_putI (i := 12) (v := 15) (w := 8) rfl ly33 rfl ⟨by omega, by omega⟩ ?_
  have hI21 := hI4.setf0 (b := 33) (w := 15) (z := z15) rfl rfl
  have hF23 := hF6.setf (b := 33) (w := 15) (z := z15) rfl
  have hR24 := hR7.setf (b := 33) (w := 15) (z := z15)
  refine yT_gen (fun S20 hS22 => ?_)
  rw [hS22] at hI21 hF23 hR24 
  exact r_ret0 (i := 13) rfl ⟨rfl,  hI21, hF23, hR24⟩
/-- ProxyForge$Writer.op -/
theorem sp163 {G : xk} {S : yS} {d : Nat} (hI : yI S) {c : Int} (h_c : -2147483648 ≤ c ∧ c ≤ 2147483647) {e : Int} (h_e : -2147483648 ≤ e ∧ e ≤ 2147483647) (p_0 : S.f 34 1 + 1 ≤ 60000) (hd : 5 ≤ d) : yT xPr G LY xC163 0 [some ((2, 33)), some (vi c), some (vi e)] [] S d (fun r S' => r = (0, (0, 0)) ∧ (S.f 34 1 ≤ S'.f 34 1 ∧ S'.f 34 1 ≤ S.f 34 1 + 1) ∧ yI S' ∧ yFr [(33, 14), (33, 15), (34, 1)] [101, 105] S S' ∧ yRm [1] S S') := by
  refine yT_pad 0 ?_
  show yT xPr G LY xC163 0 [some ((2, 33)), some (vi c), some (vi e)] [] S d _
  obtain ⟨d, rfl⟩ : ∃ q, d = q + 1 := ⟨d - 1, by omega⟩
  have hF : yFr [(33, 14), (33, 15), (34, 1)] [101, 105] S S := yFr.refl S
  have hR : yRm [1] S S := yRm.refl S
  have h1 := hI.b1
  refine r_load (i := 0) (u := 0) (w := 2) rfl rfl rfl ?_
  refine r_getf (i := 1) (v := 5) (w := 8) (x := (2, 34)) rfl ly33 rfl rfl fun _ => ?_
  refine r_load (i := 2) (u := 1) (w := 0) rfl rfl rfl ?_
  refine r_call (i := 3) (u := 7) (v := 29) (w := 0) (b := 0) (na := 514) (C2 := xC29) (as := [(2, 34), vi c]) (s := []) rfl rfl rfl rfl rfl rfl rfl (sp29_34 (b := c) hI ⟨by omega, by omega⟩ (by omega)  (by omega)) (fun r3 S4 hq5 => ?_)
  obtain ⟨rfl, h6, hI7, hF8, hR9⟩ := hq5
  have hF10 := hF.trans hF8 rfl rfl
  have hR11 := hR.trans hR9 rfl
  refine Or.inl ⟨rfl, ?_⟩
  refine r_load (i := 4) (u := 0) (w := 2) rfl rfl rfl ?_
  refine r_load (i := 5) (u := 2) (w := 0) rfl rfl rfl ?_
  refine r_call (i := 6) (u := 8) (v := 161) (w := 0) (b := 0) (na := 514) (C2 := xC161) (as := [(2, 33), vi e]) (s := []) rfl rfl rfl rfl rfl rfl rfl (sp161 (c := e) hI7 ⟨by omega, by omega⟩   (by omega)) (fun r12 S13 hq14 => ?_)
  obtain ⟨rfl, hI15, hF16, hR17⟩ := hq14
  have hF18 := hF10.trans hF16 rfl rfl
  have hR19 := hR11.trans hR17 rfl
  refine Or.inl ⟨rfl, ?_⟩
  have h20 := hI15.b1
  have h21 : S13.f 34 1 = S4.f 34 1 := hF16.f rfl
  exact r_ret0 (i := 7) rfl ⟨rfl, (by omega), hI15, hF18, hR19⟩
/-- ProxyForge$Writer.opByte -/
theorem sp164 {G : xk} {S : yS} {d : Nat} (hI : yI S) {c : Int} (h_c : -2147483648 ≤ c ∧ c ≤ 2147483647) {o : Int} (h_o : -2147483648 ≤ o ∧ o ≤ 2147483647) {e : Int} (h_e : -2147483648 ≤ e ∧ e ≤ 2147483647) (p_0 : S.f 34 1 + 2 ≤ 60000) (hd : 5 ≤ d) : yT xPr G LY xC164 0 [some ((2, 33)), some (vi c), some (vi o), some (vi e)] [] S d (fun r S' => r = (0, (0, 0)) ∧ (S.f 34 1 ≤ S'.f 34 1 ∧ S'.f 34 1 ≤ S.f 34 1 + 2) ∧ yI S' ∧ yFr [(33, 14), (33, 15), (34, 1)] [101, 105] S S' ∧ yRm [1] S S') := by
  refine yT_pad 0 ?_
  show yT xPr G LY xC164 0 [some ((2, 33)), some (vi c), some (vi o), some (vi e)] [] S d _
  obtain ⟨d, rfl⟩ : ∃ q, d = q + 1 := ⟨d - 1, by omega⟩
  have hF : yFr [(33, 14), (33, 15), (34, 1)] [101, 105] S S := yFr.refl S
  have hR : yRm [1] S S := yRm.refl S
  have h1 := hI.b1
  refine r_load (i := 0) (u := 0) (w := 2) rfl rfl rfl ?_
  refine r_getf (i := 1) (v := 5) (w := 8) (x := (2, 34)) rfl ly33 rfl rfl fun _ => ?_
  refine r_load (i := 2) (u := 1) (w := 0) rfl rfl rfl ?_
  refine r_call (i := 3) (u := 7) (v := 29) (w := 0) (b := 0) (na := 514) (C2 := xC29) (as := [(2, 34), vi c]) (s := []) rfl rfl rfl rfl rfl rfl rfl (sp29_34 (b := c) hI ⟨by omega, by omega⟩ (by omega)  (by omega)) (fun r3 S4 hq5 => ?_)
  obtain ⟨rfl, h6, hI7, hF8, hR9⟩ := hq5
  have hF10 := hF.trans hF8 rfl rfl
  have hR11 := hR.trans hR9 rfl
  refine Or.inl ⟨rfl, ?_⟩
  refine r_load (i := 4) (u := 0) (w := 2) rfl rfl rfl ?_
  refine r_getf (i := 5) (v := 5) (w := 8) (x := (2, 34)) rfl ly33 rfl rfl fun _ => ?_
  refine r_load (i := 6) (u := 2) (w := 0) rfl rfl rfl ?_
  have h13 := hI7.b1
  refine r_call (i := 7) (u := 7) (v := 29) (w := 0) (b := 0) (na := 514) (C2 := xC29) (as := [(2, 34), vi o]) (s := []) rfl rfl rfl rfl rfl rfl rfl (sp29_34 (b := o) hI7 ⟨by omega, by omega⟩ (by omega)  (by omega)) (fun r14 S15 hq16 => ?_)
  obtain ⟨rfl, h17, hI18, hF19, hR20⟩ := hq16
  have hF21 := hF10.trans hF19 rfl rfl
  have hR22 := hR11.trans hR20 rfl
  refine Or.inl ⟨rfl, ?_⟩
  refine r_load (i := 8) (u := 0) (w := 2) rfl rfl rfl ?_
  refine r_load (i := 9) (u := 3) (w := 0) rfl rfl rfl ?_
  refine r_call (i := 10) (u := 8) (v := 161) (w := 0) (b := 0) (na := 514) (C2 := xC161) (as := [(2, 33), vi e]) (s := []) rfl rfl rfl rfl rfl rfl rfl (sp161 (c := e) hI18 ⟨by omega, by omega⟩   (by omega)) (fun r23 S24 hq25 => ?_)
  obtain ⟨rfl, hI26, hF27, hR28⟩ := hq25
  have hF29 := hF21.trans hF27 rfl rfl
  have hR30 := hR22.trans hR28 rfl
  refine Or.inl ⟨rfl, ?_⟩
  have h31 := hI26.b1
  have h32 : S24.f 34 1 = S15.f 34 1 := hF27.f rfl
  exact r_ret0 (i := 11) rfl ⟨rfl, (by omega), hI26, hF29, hR30⟩
/-- ProxyForge$Writer.opEntry -/
theorem sp165 {G : xk} {S : yS} {d : Nat} (hI : yI S) {c : Int} (h_c : -2147483648 ≤ c ∧ c ≤ 2147483647) {o : Int} (h_o : -2147483648 ≤ o ∧ o ≤ 2147483647) {e : Int} (h_e : -2147483648 ≤ e ∧ e ≤ 2147483647) (p_0 : S.f 34 1 + 3 ≤ 60000) (hd : 5 ≤ d) : yT xPr G LY xC165 0 [some ((2, 33)), some (vi c), some (vi o), some (vi e)] [] S d (fun r S' => r = (0, (0, 0)) ∧ (S.f 34 1 ≤ S'.f 34 1 ∧ S'.f 34 1 ≤ S.f 34 1 + 3) ∧ yI S' ∧ yFr [(33, 14), (33, 15), (34, 1)] [101, 105] S S' ∧ yRm [1] S S') := by
  refine yT_pad 0 ?_
  show yT xPr G LY xC165 0 [some ((2, 33)), some (vi c), some (vi o), some (vi e)] [] S d _
  obtain ⟨d, rfl⟩ : ∃ q, d = q + 1 := ⟨d - 1, by omega⟩
  have hF : yFr [(33, 14), (33, 15), (34, 1)] [101, 105] S S := yFr.refl S
  have hR : yRm [1] S S := yRm.refl S
  have h1 := hI.b1
  refine r_load (i := 0) (u := 0) (w := 2) rfl rfl rfl ?_
  refine r_getf (i := 1) (v := 5) (w := 8) (x := (2, 34)) rfl ly33 rfl rfl fun _ => ?_
  refine r_load (i := 2) (u := 1) (w := 0) rfl rfl rfl ?_
  refine r_load (i := 3) (u := 2) (w := 0) rfl rfl rfl ?_
  refine r_call (i := 4) (u := 7) (v := 35) (w := 0) (b := 0) (na := 771) (C2 := xC35) (as := [(2, 34), vi c, vi o]) (s := []) rfl rfl rfl rfl rfl rfl rfl (sp35_34 (b := c) (c := o) hI ⟨by omega, by omega⟩ ⟨by omega, by omega⟩ (by omega)  (by omega)) (fun r3 S4 hq5 => ?_)
  obtain ⟨rfl, h6, hI7, hF8, hR9⟩ := hq5
  have hF10 := hF.trans hF8 rfl rfl
  have hR11 := hR.trans hR9 rfl
  refine Or.inl ⟨rfl, ?_⟩
  refine r_load (i := 5) (u := 0) (w := 2) rfl rfl rfl ?_
  refine r_load (i := 6) (u := 3) (w := 0) rfl rfl rfl ?_
  refine r_call (i := 7) (u := 8) (v := 161) (w := 0) (b := 0) (na := 514) (C2 := xC161) (as := [(2, 33), vi e]) (s := []) rfl rfl rfl rfl rfl rfl rfl (sp161 (c := e) hI7 ⟨by omega, by omega⟩   (by omega)) (fun r12 S13 hq14 => ?_)
  obtain ⟨rfl, hI15, hF16, hR17⟩ := hq14
  have hF18 := hF10.trans hF16 rfl rfl
  have hR19 := hR11.trans hR17 rfl
  refine Or.inl ⟨rfl, ?_⟩
  have h20 := hI15.b1
  have h21 : S13.f 34 1 = S4.f 34 1 := hF16.f rfl
  exact r_ret0 (i := 8) rfl ⟨rfl, (by omega), hI15, hF18, hR19⟩
/-- ProxyForge$Writer.push -/
theorem sp168 {G : xk} {S : yS} {d : Nat} (hI : yI S) {k : Int} (h_k : 0 ≤ k ∧ k ≤ 100) (p_0 : S.f 34 1 + 2 ≤ 60000) (hd : 6 ≤ d) : yT xPr G LY xC168 0 [some ((2, 33)), some (vi k)] [] S d (fun r S' => r = (0, (0, 0)) ∧ (S.f 34 1 ≤ S'.f 34 1 ∧ S'.f 34 1 ≤ S.f 34 1 + 2) ∧ yI S' ∧ yFr [(33, 14), (33, 15), (34, 1)] [101, 105] S S' ∧ yRm [1] S S') := by
  refine yT_pad 0 ?_
  show yT xPr G LY xC168 0 [some ((2, 33)), some (vi k)] [] S d _
  obtain ⟨d, rfl⟩ : ∃ q, d = q + 1 := ⟨d - 1, by omega⟩
  have hF : yFr [(33, 14), (33, 15), (34, 1)] [101, 105] S S := yFr.refl S
  have hR : yRm [1] S S := yRm.refl S
  have h1 := hI.b1
  refine r_load (i := 0) (u := 1) (w := 0) rfl rfl rfl ?_
  refine r_const (i := 1) (u := 5) (z := 5) rfl rfl ?_
  refine c_gt (i := 2) (v := 10) rfl ⟨by omega, by omega⟩ ⟨by omega, by omega⟩ (fun h2 => ?_) (fun h3 => ?_)
  · refine r_load (i := 10) (u := 0) (w := 2) rfl rfl rfl ?_
    refine r_const (i := 11) (u := 16) (z := 16) rfl rfl ?_
    refine r_load (i := 12) (u := 1) (w := 0) rfl rfl rfl ?_
    refine r_const (i := 13) (u := 1) (z := 1) rfl rfl ?_
    refine r_call (i := 14) (u := 8) (v := 164) (w := 0) (b := 0) (na := 1028) (C2 := xC164) (as := [(2, 33), vi 16, vi k, vi 1]) (s := []) rfl rfl rfl rfl rfl rfl rfl (sp164 (c := 16) (o := k) (e := 1) hI ⟨by omega, by omega⟩ ⟨by omega, by omega⟩ ⟨by omega, by omega⟩ (by omega)  (by omega)) (fun r4 S5 hq6 => ?_)
    obtain ⟨rfl, h7, hI8, hF9, hR10⟩ := hq6
    have hF11 := hF.trans hF9 rfl rfl
    have hR12 := hR.trans hR10 rfl
    refine Or.inl ⟨rfl, ?_⟩
    have h13 := hI8.b1
    exact r_ret0 (i := 15) rfl ⟨rfl, (by omega), hI8, hF11, hR12⟩
  · refine r_load (i := 3) (u := 0) (w := 2) rfl rfl rfl ?_
    refine r_const (i := 4) (u := 3) (z := 3) rfl rfl ?_
    refine r_load (i := 5) (u := 1) (w := 0) rfl rfl rfl ?_
    refine r_iadd (i := 6) rfl ?_
    refine r_const (i := 7) (u := 1) (z := 1) rfl rfl ?_
    refine r_call (i := 8) (u := 8) (v := 163) (w := 0) (b := 0) (na := 771) (C2 := xC163) (as := [(2, 33), vi (3 + k), vi 1]) (s := []) rfl rfl rfl rfl rfl rfl rfl (sp163 (c := 3 + k) (e := 1) hI ⟨by omega, by omega⟩ ⟨by omega, by omega⟩ (by omega)  (by omega)) (fun r14 S15 hq16 => ?_)
    obtain ⟨rfl, h17, hI18, hF19, hR20⟩ := hq16
    have hF21 := hF.trans hF19 rfl rfl
    have hR22 := hR.trans hR20 rfl
    refine Or.inl ⟨rfl, ?_⟩
    refine r_goto (i := 9) (v := 15) rfl ?_
    have h23 := hI18.b1
    exact r_ret0 (i := 15) rfl ⟨rfl, (by omega), hI18, hF21, hR22⟩
/-- ProxyForge$Writer.loadOne -/
theorem sp159 {G : xk} {S : yS} {d : Nat} (hI : yI S) {k : Int} (h_k : -2147483648 ≤ k ∧ k ≤ 2147483647) {l : Int} (h_l : -2147483648 ≤ l ∧ l ≤ 2147483647) (p_0 : S.f 34 1 + 2 ≤ 60000) (hd : 6 ≤ d) : yT xPr G LY xC159 0 [some ((2, 33)), some (vi k), some (vi l)] [] S d (fun r S' => r = (0, (0, 0)) ∧ (S.f 34 1 ≤ S'.f 34 1 ∧ S'.f 34 1 ≤ S.f 34 1 + 2) ∧ yI S' ∧ yFr [(33, 14), (33, 15), (34, 1)] [101, 105] S S' ∧ yRm [1] S S') := by
  refine yT_pad 0 ?_
  show yT xPr G LY xC159 0 [some ((2, 33)), some (vi k), some (vi l)] [] S d _
  obtain ⟨d, rfl⟩ : ∃ q, d = q + 1 := ⟨d - 1, by omega⟩
  have hF : yFr [(33, 14), (33, 15), (34, 1)] [101, 105] S S := yFr.refl S
  have hR : yRm [1] S S := yRm.refl S
  have h1 := hI.b1
  refine r_load (i := 0) (u := 1) (w := 0) rfl rfl rfl ?_
  refine r_const (i := 1) (u := 2) (z := 2) rfl rfl ?_
  refine c_ne (i := 2) (v := 9) rfl ⟨by omega, by omega⟩ ⟨by omega, by omega⟩ (fun h2 => ?_) (fun h3 => ?_)
  · refine r_load (i := 9) (u := 0) (w := 2) rfl rfl rfl ?_
    refine r_load (i := 10) (u := 1) (w := 0) rfl rfl rfl ?_
    refine r_const (i := 11) (u := 4) (z := 4) rfl rfl ?_
    refine c_ge (i := 12) (v := 15) rfl ⟨by omega, by omega⟩ ⟨by omega, by omega⟩ (fun h4 => ?_) (fun h5 => ?_)
    · refine r_const (i := 15) (u := 25) (z := 25) rfl rfl ?_
      refine r_load (i := 16) (u := 2) (w := 0) rfl rfl rfl ?_
      refine r_const (i := 17) (u := 1) (z := 1) rfl rfl ?_
      refine r_call (i := 18) (u := 8) (v := 164) (w := 0) (b := 0) (na := 1028) (C2 := xC164) (as := [(2, 33), vi 25, vi l, vi 1]) (s := []) rfl rfl rfl rfl rfl rfl rfl (sp164 (c := 25) (o := l) (e := 1) hI ⟨by omega, by omega⟩ ⟨by omega, by omega⟩ ⟨by omega, by omega⟩ (by omega)  (by omega)) (fun r6 S7 hq8 => ?_)
      obtain ⟨rfl, h9, hI10, hF11, hR12⟩ := hq8
      have hF13 := hF.trans hF11 rfl rfl
      have hR14 := hR.trans hR12 rfl
      refine Or.inl ⟨rfl, ?_⟩
      have h15 := hI10.b1
      exact r_ret0 (i := 19) rfl ⟨rfl, (by omega), hI10, hF13, hR14⟩
    · refine r_const (i := 13) (u := 21) (z := 21) rfl rfl ?_
      refine r_goto (i := 14) (v := 16) rfl ?_
      refine r_load (i := 16) (u := 2) (w := 0) rfl rfl rfl ?_
      refine r_const (i := 17) (u := 1) (z := 1) rfl rfl ?_
      refine r_call (i := 18) (u := 8) (v := 164) (w := 0) (b := 0) (na := 1028) (C2 := xC164) (as := [(2, 33), vi 21, vi l, vi 1]) (s := []) rfl rfl rfl rfl rfl rfl rfl (sp164 (c := 21) (o := l) (e := 1) hI ⟨by omega, by omega⟩ ⟨by omega, by omega⟩ ⟨by omega, by omega⟩ (by omega)  (by omega)) (fun r16 S17 hq18 => ?_)
      obtain ⟨rfl, h19, hI20, hF21, hR22⟩ := hq18
      have hF23 := hF.trans hF21 rfl rfl
      have hR24 := hR.trans hR22 rfl
      refine Or.inl ⟨rfl, ?_⟩
      have h25 := hI20.b1
      exact r_ret0 (i := 19) rfl ⟨rfl, (by omega), hI20, hF23, hR24⟩
  · refine r_load (i := 3) (u := 0) (w := 2) rfl rfl rfl ?_
    refine r_const (i := 4) (u := 22) (z := 22) rfl rfl ?_
    refine r_load (i := 5) (u := 2) (w := 0) rfl rfl rfl ?_
    refine r_const (i := 6) (u := 2) (z := 2) rfl rfl ?_
    refine r_call (i := 7) (u := 8) (v := 164) (w := 0) (b := 0) (na := 1028) (C2 := xC164) (as := [(2, 33), vi 22, vi l, vi 2]) (s := []) rfl rfl rfl rfl rfl rfl rfl (sp164 (c := 22) (o := l) (e := 2) hI ⟨by omega, by omega⟩ ⟨by omega, by omega⟩ ⟨by omega, by omega⟩ (by omega)  (by omega)) (fun r26 S27 hq28 => ?_)
    obtain ⟨rfl, h29, hI30, hF31, hR32⟩ := hq28
    have hF33 := hF.trans hF31 rfl rfl
    have hR34 := hR.trans hR32 rfl
    refine Or.inl ⟨rfl, ?_⟩
    refine r_goto (i := 8) (v := 19) rfl ?_
    have h35 := hI30.b1
    exact r_ret0 (i := 19) rfl ⟨rfl, (by omega), hI30, hF33, hR34⟩
theorem lp158_7 {G : xk} {d : Nat} {S0 : yS} {p : Int} (h_p : -2147483648 ≤ p ∧ p ≤ 2147483647) {fl : Int} (h_fl : 0 ≤ fl ∧ fl ≤ 10) (p_0 : S0.f 34 1 + 8 ≤ 60000) (hd : 7 ≤ d + 1) : ∀ (n : Nat), ∀ (S : yS) (hI : yI S) (hF : yFr [(33, 14), (33, 15), (34, 1)] [101, 105] S0 S) (hR : yRm [1] S0 S) (lc n1 k : Int) (h_lc : 0 ≤ lc ∧ lc ≤ 100) (h_n1 : 0 ≤ n1 ∧ n1 ≤ 4) (h_k : 0 ≤ k ∧ k ≤ 4) (q_0 : S0.f 34 1 ≤ S.f 34 1 ∧ S.f 34 1 ≤ S0.f 34 1 + 2 * k ∧ S0.f 34 1 + 8 ≤ 60000) (q_1 : lc ≤ 10 + 2 * k) (hn : 4 - k < (n : Nat)), yT xPr G LY xC158 7 [some ((2, 33)), some (vi p), some (vi fl), some (vi lc), some (vi n1), some (vi k), none] [] S (d + 1) (fun r S' => r = (0, (0, 0)) ∧ (S0.f 34 1 ≤ S'.f 34 1 ∧ S'.f 34 1 ≤ S0.f 34 1 + 8) ∧ yI S' ∧ yFr [(33, 14), (33, 15), (34, 1)] [101, 105] S0 S' ∧ yRm [1] S0 S') := by
  intro n
  induction n with
  | zero => intro S hI hF hR lc n1 k h_lc h_n1 h_k q_0 q_1 hn; exact absurd hn (by omega)
  | succ n ih =>
    intro S hI hF hR lc n1 k h_lc h_n1 h_k q_0 q_1 hn
    have h1 := hI.b1
    refine r_load (i := 7) (u := 5) (w := 0) rfl rfl rfl ?_
    refine r_load (i := 8) (u := 4) (w := 0) rfl rfl rfl ?_
    refine c_ge (i := 9) (v := 25) rfl ⟨by omega, by omega⟩ ⟨by omega, by omega⟩ (fun h2 => ?_) (fun h3 => ?_)
    · exact r_ret0 (i := 25) rfl ⟨rfl, (by omega), hI, hF, hR⟩
    · refine r_load (i := 10) (u := 1) (w := 0) rfl rfl rfl ?_
      refine r_load (i := 11) (u := 5) (w := 0) rfl rfl rfl ?_
      refine r_call (i := 12) (u := 65535) (v := 66) (w := 0) (b := 2) (na := 514) (C2 := xC66) (as := [vi p, vi k]) (s := []) rfl rfl rfl rfl rfl rfl rfl (sp66 (p := p) (k := k) hI ⟨by omega, by omega⟩ ⟨by omega, by omega⟩   (by omega)) (fun r4 S5 hq6 => ?_)
      obtain ⟨z7, rfl, h8, h9, h10, rfl⟩ := hq6
      refine Or.inr (Or.inl ⟨rfl, ?_⟩)
      refine r_store (i := 13) (u := 6) (w := 0) (L1 := [some ((2, 33)), some (vi p), some (vi fl), some (vi lc), some (vi n1), some (vi k), some (vi z7)]) rfl rfl rfl rfl ?_
      refine r_load (i := 14) (u := 0) (w := 2) rfl rfl rfl ?_
      refine r_load (i := 15) (u := 6) (w := 0) rfl rfl rfl ?_
      refine r_load (i := 16) (u := 3) (w := 0) rfl rfl rfl ?_
      refine r_call (i := 17) (u := 8) (v := 159) (w := 0) (b := 0) (na := 771) (C2 := xC159) (as := [(2, 33), vi z7, vi lc]) (s := []) rfl rfl rfl rfl rfl rfl rfl (sp159 (k := z7) (l := lc) hI ⟨by omega, by omega⟩ ⟨by omega, by omega⟩ (by omega)  (by omega)) (fun r11 S12 hq13 => ?_)
      obtain ⟨rfl, h14, hI15, hF16, hR17⟩ := hq13
      have hF18 := hF.trans hF16 rfl rfl
      have hR19 := hR.trans hR17 rfl
      refine Or.inl ⟨rfl, ?_⟩
      refine r_load (i := 18) (u := 3) (w := 0) rfl rfl rfl ?_
      refine r_load (i := 19) (u := 6) (w := 0) rfl rfl rfl ?_
      refine r_call (i := 20) (u := 65535) (v := 70) (w := 0) (b := 2) (na := 257) (C2 := xC70) (as := [vi z7]) (s := [vi lc]) rfl rfl rfl rfl rfl rfl rfl (sp70 (k := z7) hI15 ⟨by omega, by omega⟩   (by omega)) (fun r20 S21 hq22 => ?_)
      obtain ⟨z23, rfl, h24, h25, rfl⟩ := hq22
      refine Or.inr (Or.inl ⟨rfl, ?_⟩)
      refine r_iadd (i := 21) rfl ?_
      refine r_store (i := 22) (u := 3) (w := 0) (L1 := [some ((2, 33)), some (vi p), some (vi fl), some (vi (lc + z23)), some (vi n1), some (vi k), some (vi z7)]) rfl rfl rfl rfl ?_
      refine r_iinc (i := 23) (u := 1) (v := 5) (s := 1) (L1 := [some ((2, 33)), some (vi p), some (vi fl), some (vi (lc + z23)), some (vi n1), some (vi (k + 1)), some (vi z7)]) rfl rfl rfl rfl rfl ?_
      refine r_goto (i := 24) (v := 7) rfl ?_
      refine yT_drop (L1 := [some ((2, 33)), some (vi p), some (vi fl), some (vi (lc + z23)), some (vi n1), some (vi (k + 1)), none]) rfl ?_
      have h26 := hI15.b1
      exact ih S12 hI15 hF18 hR19 (lc + z23) n1 (k + 1) ⟨by omega, by omega⟩ ⟨by omega, by omega⟩ ⟨by omega, by omega⟩ (by omega) (by omega) (by omega)
/-- ProxyForge$Writer.load -/
theorem sp158 {G : xk} {S : yS} {d : Nat} (hI : yI S) {p : Int} (h_p : -2147483648 ≤ p ∧ p ≤ 2147483647) {fl : Int} (h_fl : 0 ≤ fl ∧ fl ≤ 10) (p_0 : S.f 34 1 + 8 ≤ 60000) (hd : 7 ≤ d) : yT xPr G LY xC158 0 [some ((2, 33)), some (vi p), some (vi fl)] [] S d (fun r S' => r = (0, (0, 0)) ∧ (S.f 34 1 ≤ S'.f 34 1 ∧ S'.f 34 1 ≤ S.f 34 1 + 8) ∧ yI S' ∧ yFr [(33, 14), (33, 15), (34, 1)] [101, 105] S S' ∧ yRm [1] S S') := by
  refine yT_pad 4 ?_
  show yT xPr G LY xC158 0 [some ((2, 33)), some (vi p), some (vi fl), none, none, none, none] [] S d _
  obtain ⟨d, rfl⟩ : ∃ q, d = q + 1 := ⟨d - 1, by omega⟩
  have hF : yFr [(33, 14), (33, 15), (34, 1)] [101, 105] S S := yFr.refl S
  have hR : yRm [1] S S := yRm.refl S
  have h1 := hI.b1
  refine r_load (i := 0) (u := 2) (w := 0) rfl rfl rfl ?_
  refine r_store (i := 1) (u := 3) (w := 0) (L1 := [some ((2, 33)), some (vi p), some (vi fl), some (vi fl), none, none, none]) rfl rfl rfl rfl ?_
  refine r_load (i := 2) (u := 1) (w := 0) rfl rfl rfl ?_
  refine r_call (i := 3) (u := 65535) (v := 67) (w := 0) (b := 2) (na := 513) (C2 := xC67) (as := [vi p]) (s := []) rfl rfl rfl rfl rfl rfl rfl (sp67 (p := p) hI ⟨by omega, by omega⟩   (by omega)) (fun r2 S3 hq4 => ?_)
  obtain ⟨z5, rfl, h6, h7, hmn8, rfl⟩ := hq4
  refine Or.inr (Or.inl ⟨rfl, ?_⟩)
  refine r_store (i := 4) (u := 4) (w := 0) (L1 := [some ((2, 33)), some (vi p), some (vi fl), some (vi fl), some (vi z5), none, none]) rfl rfl rfl rfl ?_
  refine r_const (i := 5) (u := 0) (z := 0) rfl rfl ?_
  refine r_store (i := 6) (u := 5) (w := 0) (L1 := [some ((2, 33)), some (vi p), some (vi fl), some (vi fl), some (vi z5), some (vi 0), none]) rfl rfl rfl rfl ?_
  exact lp158_7 h_p h_fl p_0 hd _ S hI hF hR fl z5 0 ⟨by omega, by omega⟩ ⟨by omega, by omega⟩ ⟨by omega, by omega⟩ (by omega) (by omega) (Int.lt_succ_toNat _)
/-- ProxyForge$Writer.leave -/
theorem sp157 {G : xk} {S : yS} {d : Nat} (hI : yI S) {k : Int} (h_k : 0 ≤ k ∧ k ≤ 23) (p_0 : S.f 34 1 + 1 ≤ 60000) (hd : 6 ≤ d) : yT xPr G LY xC157 0 [some ((2, 33)), some (vi k)] [] S d (fun r S' => r = (0, (0, 0)) ∧ (S.f 34 1 ≤ S'.f 34 1 ∧ S'.f 34 1 ≤ S.f 34 1 + 1) ∧ yI S' ∧ yFr [(33, 14), (33, 15), (34, 1)] [101, 105] S S' ∧ yRm [1] S S') := by
  refine yT_pad 1 ?_
  show yT xPr G LY xC157 0 [some ((2, 33)), some (vi k), none] [] S d _
  obtain ⟨d, rfl⟩ : ∃ q, d = q + 1 := ⟨d - 1, by omega⟩
  have hF : yFr [(33, 14), (33, 15), (34, 1)] [101, 105] S S := yFr.refl S
  have hR : yRm [1] S S := yRm.refl S
  have h1 := hI.b1
  refine r_load (i := 0) (u := 1) (w := 0) rfl rfl rfl ?_
  refine r_call (i := 1) (u := 65535) (v := 70) (w := 0) (b := 2) (na := 257) (C2 := xC70) (as := [vi k]) (s := []) rfl rfl rfl rfl rfl rfl rfl (sp70 (k := k) hI ⟨by omega, by omega⟩   (by omega)) (fun r2 S3 hq4 => ?_)
  obtain ⟨z5, rfl, h6, h7, rfl⟩ := hq4
  refine Or.inr (Or.inl ⟨rfl, ?_⟩)
  refine r_store (i := 2) (u := 2) (w := 0) (L1 := [some ((2, 33)), some (vi k), some (vi z5)]) rfl rfl rfl rfl ?_
  refine r_load (i := 3) (u := 1) (w := 0) rfl rfl rfl ?_
  refine z_ne (i := 4) (v := 10) rfl ⟨by omega, by omega⟩ (fun h8 => ?_) (fun h9 => ?_)
  · refine r_load (i := 10) (u := 1) (w := 0) rfl rfl rfl ?_
    refine r_const (i := 11) (u := 2) (z := 2) rfl rfl ?_
    refine c_ne (i := 12) (v := 19) rfl ⟨by omega, by omega⟩ ⟨by omega, by omega⟩ (fun h10 => ?_) (fun h11 => ?_)
    · refine r_load (i := 19) (u := 0) (w := 2) rfl rfl rfl ?_
      refine r_load (i := 20) (u := 1) (w := 0) rfl rfl rfl ?_
      refine r_const (i := 21) (u := 4) (z := 4) rfl rfl ?_
      refine c_ge (i := 22) (v := 25) rfl ⟨by omega, by omega⟩ ⟨by omega, by omega⟩ (fun h12 => ?_) (fun h13 => ?_)
      · refine r_const (i := 25) (u := 176) (z := 176) rfl rfl ?_
        refine r_load (i := 26) (u := 2) (w := 0) rfl rfl rfl ?_
        refine r_ineg (i := 27) rfl ?_
        refine r_call (i := 28) (u := 8) (v := 163) (w := 0) (b := 0) (na := 771) (C2 := xC163) (as := [(2, 33), vi 176, vi (-z5)]) (s := []) rfl rfl rfl rfl rfl rfl rfl (sp163 (c := 176) (e := -z5) hI ⟨by omega, by omega⟩ ⟨by omega, by omega⟩ (by omega)  (by omega)) (fun r14 S15 hq16 => ?_)
        obtain ⟨rfl, h17, hI18, hF19, hR20⟩ := hq16
        have hF21 := hF.trans hF19 rfl rfl
        have hR22 := hR.trans hR20 rfl
        refine Or.inl ⟨rfl, ?_⟩
        have h23 := hI18.b1
        exact r_ret0 (i := 29) rfl ⟨rfl, (by omega), hI18, hF21, hR22⟩
      · refine r_const (i := 23) (u := 172) (z := 172) rfl rfl ?_
        refine r_goto (i := 24) (v := 26) rfl ?_
        refine r_load (i := 26) (u := 2) (w := 0) rfl rfl rfl ?_
        refine r_ineg (i := 27) rfl ?_
        refine r_call (i := 28) (u := 8) (v := 163) (w := 0) (b := 0) (na := 771) (C2 := xC163) (as := [(2, 33), vi 172, vi (-z5)]) (s := []) rfl rfl rfl rfl rfl rfl rfl (sp163 (c := 172) (e := -z5) hI ⟨by omega, by omega⟩ ⟨by omega, by omega⟩ (by omega)  (by omega)) (fun r24 S25 hq26 => ?_)
        obtain ⟨rfl, h27, hI28, hF29, hR30⟩ := hq26
        have hF31 := hF.trans hF29 rfl rfl
        have hR32 := hR.trans hR30 rfl
        refine Or.inl ⟨rfl, ?_⟩
        have h33 := hI28.b1
        exact r_ret0 (i := 29) rfl ⟨rfl, (by omega), hI28, hF31, hR32⟩
    · refine r_load (i := 13) (u := 0) (w := 2) rfl rfl rfl ?_
      refine r_const (i := 14) (u := 173) (z := 173) rfl rfl ?_
      refine r_load (i := 15) (u := 2) (w := 0) rfl rfl rfl ?_
      refine r_ineg (i := 16) rfl ?_
      refine r_call (i := 17) (u := 8) (v := 163) (w := 0) (b := 0) (na := 771) (C2 := xC163) (as := [(2, 33), vi 173, vi (-z5)]) (s := []) rfl rfl rfl rfl rfl rfl rfl (sp163 (c := 173) (e := -z5) hI ⟨by omega, by omega⟩ ⟨by omega, by omega⟩ (by omega)  (by omega)) (fun r34 S35 hq36 => ?_)
      obtain ⟨rfl, h37, hI38, hF39, hR40⟩ := hq36
      have hF41 := hF.trans hF39 rfl rfl
      have hR42 := hR.trans hR40 rfl
      refine Or.inl ⟨rfl, ?_⟩
      refine r_goto (i := 18) (v := 29) rfl ?_
      have h43 := hI38.b1
      exact r_ret0 (i := 29) rfl ⟨rfl, (by omega), hI38, hF41, hR42⟩
  · refine r_load (i := 5) (u := 0) (w := 2) rfl rfl rfl ?_
    refine r_const (i := 6) (u := 177) (z := 177) rfl rfl ?_
    refine r_const (i := 7) (u := 0) (z := 0) rfl rfl ?_
    refine r_call (i := 8) (u := 8) (v := 163) (w := 0) (b := 0) (na := 771) (C2 := xC163) (as := [(2, 33), vi 177, vi 0]) (s := []) rfl rfl rfl rfl rfl rfl rfl (sp163 (c := 177) (e := 0) hI ⟨by omega, by omega⟩ ⟨by omega, by omega⟩ (by omega)  (by omega)) (fun r44 S45 hq46 => ?_)
    obtain ⟨rfl, h47, hI48, hF49, hR50⟩ := hq46
    have hF51 := hF.trans hF49 rfl rfl
    have hR52 := hR.trans hR50 rfl
    refine Or.inl ⟨rfl, ?_⟩
    refine r_goto (i := 9) (v := 29) rfl ?_
    have h53 := hI48.b1
    exact r_ret0 (i := 29) rfl ⟨rfl, (by omega), hI48, hF51, hR52⟩
/-- ProxyForge$Writer.cast -/
theorem sp147 {G : xk} {S : yS} {d : Nat} (hI : yI S) {t : Int} (h_t : 0 ≤ t ∧ t ≤ 19) (p_0 : S.f 31 1 + 32 ≤ 60000) (p_1 : S.f 34 1 + 3 ≤ 60000) (e_PL : PL S) (hd : 7 ≤ d) : yT xPr G LY xC147 0 [some ((2, 33)), some (vi t)] [] S d (fun r S' => r = (0, (0, 0)) ∧ (S.f 31 1 ≤ S'.f 31 1 ∧ S'.f 31 1 ≤ S.f 31 1 + 32) ∧ (S.f 34 1 ≤ S'.f 34 1 ∧ S'.f 34 1 ≤ S.f 34 1 + 3) ∧ PL S' ∧ yI S' ∧ yFr [(31, 1), (33, 14), (33, 15), (34, 1), (36, 5)] [37, 100, 101, 102, 103, 105] S S' ∧ yRm [0, 1, 2, 3] S S') := by
  refine yT_pad 0 ?_
  show yT xPr G LY xC147 0 [some ((2, 33)), some (vi t)] [] S d _
  obtain ⟨d, rfl⟩ : ∃ q, d = q + 1 := ⟨d - 1, by omega⟩
  have hF : yFr [(31, 1), (33, 14), (33, 15), (34, 1), (36, 5)] [37, 100, 101, 102, 103, 105] S S := yFr.refl S
  have hR : yRm [0, 1, 2, 3] S S := yRm.refl S
  have h1 := hI.b0
  have h2 := hI.b1
  refine r_load (i := 0) (u := 1) (w := 0) rfl rfl rfl ?_
  refine z_eq (i := 1) (v := 10) rfl ⟨by omega, by omega⟩ (fun h3 => ?_) (fun h4 => ?_)
  · exact r_ret0 (i := 10) rfl ⟨rfl, (by omega), (by omega), e_PL, hI, hF, hR⟩
  · refine r_load (i := 2) (u := 0) (w := 2) rfl rfl rfl ?_
    refine r_const (i := 3) (u := 192) (z := 192) rfl rfl ?_
    refine r_load (i := 4) (u := 0) (w := 2) rfl rfl rfl ?_
    refine r_getf (i := 5) (v := 6) (w := 8) (x := (2, 36)) rfl ly33 rfl rfl fun _ => ?_
    refine r_load (i := 6) (u := 1) (w := 0) rfl rfl rfl ?_
    refine r_call (i := 7) (u := 9) (v := 89) (w := 0) (b := 0) (na := 770) (C2 := xC89) (as := [(2, 36), vi t]) (s := [vi 192, (2, 33)]) rfl rfl rfl rfl rfl rfl rfl (sp89 (t := t) hI ⟨by omega, by omega⟩ (by omega) e_PL (by omega)) (fun r6 S7 hq8 => ?_)
    obtain ⟨z9, rfl, h10, h11, h12, e13, hI14, hF15, hR16⟩ := hq8
    have hF17 := hF.trans hF15 rfl rfl
    have hR18 := hR.trans hR16 rfl
    refine Or.inr (Or.inl ⟨rfl, ?_⟩)
    refine r_const (i := 8) (u := 0) (z := 0) rfl rfl ?_
    have h19 := hI14.b1
    have h20 : S7.f 34 1 = S.f 34 1 := hF15.f rfl
    refine r_call (i := 9) (u := 8) (v := 165) (w := 0) (b := 0) (na := 1028) (C2 := xC165) (as := [(2, 33), vi 192, vi z9, vi 0]) (s := []) rfl rfl rfl rfl rfl rfl rfl (sp165 (c := 192) (o := z9) (e := 0) hI14 ⟨by omega, by omega⟩ ⟨by omega, by omega⟩ ⟨by omega, by omega⟩ (by omega)  (by omega)) (fun r21 S22 hq23 => ?_)
    obtain ⟨rfl, h24, hI25, hF26, hR27⟩ := hq23
    have hF28 := hF17.trans hF26 rfl rfl
    have hR29 := hR18.trans hR27 rfl
    have e30 := PLx.fr e13 hF26 hR27 rfl rfl rfl
    have e31 := PTx.fr e13 hF26 hR27 rfl rfl rfl
    refine Or.inl ⟨rfl, ?_⟩
    have h32 := hI25.b0
    have h33 : S22.f 31 1 = S7.f 31 1 := hF26.f rfl
    have h34 := hI25.b1
    exact r_ret0 (i := 10) rfl ⟨rfl, (by omega), (by omega), e30, hI25, hF28, hR29⟩
/-- ProxyForge$Writer.callbackField -/
theorem sp146 {G : xk} {S : yS} {d : Nat} (hI : yI S) (p_0 : S.f 31 1 + 10 ≤ 60000) (e_PL : PL S) (hd : 7 ≤ d) : yT xPr G LY xC146 0 [some ((2, 33))] [] S d (fun r S' => ∃ z : Int, r = (1, vi z) ∧ 0 ≤ z ∧ z ≤ 200000 ∧ (S.f 31 1 ≤ S'.f 31 1 ∧ S'.f 31 1 ≤ S.f 31 1 + 10) ∧ PL S' ∧ yI S' ∧ yFr [(31, 1), (36, 5)] [37, 100, 102, 103, 105] S S' ∧ yRm [0, 2, 3] S S') := by
  refine yT_pad 0 ?_
  show yT xPr G LY xC146 0 [some ((2, 33))] [] S d _
  obtain ⟨d, rfl⟩ : ∃ q, d = q + 1 := ⟨d - 1, by omega⟩
  have hF : yFr [(31, 1), (36, 5)] [37, 100, 102, 103, 105] S S := yFr.refl S
  have hR : yRm [0, 2, 3] S S := yRm.refl S
  have h1 := hI.b0
  refine r_load (i := 0) (u := 0) (w := 2) rfl rfl rfl ?_
  refine r_getf (i := 1) (v := 6) (w := 8) (x := (2, 36)) rfl ly33 rfl rfl fun _ => ?_
  refine r_const (i := 2) (u := 9) (z := 9) rfl rfl ?_
  refine r_load (i := 3) (u := 0) (w := 2) rfl rfl rfl ?_
  refine r_getf (i := 4) (v := 7) (w := 8) (x := vi (S.f 33 7)) rfl ly33 rfl rfl fun h3 => ?_
  have h3 : Rg (S.f 33 7) := h3
  refine r_load (i := 5) (u := 0) (w := 2) rfl rfl rfl ?_
  refine r_getf (i := 6) (v := 6) (w := 8) (x := (2, 36)) rfl ly33 rfl rfl fun _ => ?_
  refine r_const (i := 7) (u := 12) (z := 12) rfl rfl ?_
  refine r_load (i := 8) (u := 0) (w := 2) rfl rfl rfl ?_
  refine r_getf (i := 9) (v := 8) (w := 8) (x := vi (S.f 33 8)) rfl ly33 rfl rfl fun h5 => ?_
  have h5 : Rg (S.f 33 8) := h5
  refine r_load (i := 10) (u := 0) (w := 2) rfl rfl rfl ?_
  refine r_getf (i := 11) (v := 9) (w := 8) (x := vi (S.f 33 9)) rfl ly33 rfl rfl fun h6 => ?_
  have h6 : Rg (S.f 33 9) := h6
  refine r_call (i := 12) (u := 9) (v := 94) (w := 0) (b := 0) (na := 1284) (C2 := xC94) (as := [(2, 36), vi 12, vi (S.f 33 8), vi (S.f 33 9)]) (s := [vi (S.f 33 7), vi 9, (2, 36)]) rfl rfl rfl rfl rfl rfl rfl (sp94 (w0 := 12) (v := S.f 33 8) (v2 := S.f 33 9) hI ⟨by omega, by omega⟩ ⟨by omega, by omega⟩ ⟨by omega, by omega⟩ (by omega) e_PL (by omega)) (fun r7 S8 hq9 => ?_)
  obtain ⟨z10, rfl, h11, h12, h13, e14, hI15, hF16, hR17⟩ := hq9
  have hF18 := hF.trans hF16 rfl rfl
  have hR19 := hR.trans hR17 rfl
  refine Or.inr (Or.inl ⟨rfl, ?_⟩)
  have h20 := hI15.b0
  refine r_call (i := 13) (u := 9) (v := 94) (w := 0) (b := 0) (na := 1284) (C2 := xC94) (as := [(2, 36), vi 9, vi (S.f 33 7), vi z10]) (s := []) rfl rfl rfl rfl rfl rfl rfl (sp94 (w0 := 9) (v := S.f 33 7) (v2 := z10) hI15 ⟨by omega, by omega⟩ ⟨by omega, by omega⟩ ⟨by omega, by omega⟩ (by omega) e14 (by omega)) (fun r21 S22 hq23 => ?_)
  obtain ⟨z24, rfl, h25, h26, h27, e28, hI29, hF30, hR31⟩ := hq23
  have hF32 := hF18.trans hF30 rfl rfl
  have hR33 := hR19.trans hR31 rfl
  refine Or.inr (Or.inl ⟨rfl, ?_⟩)
  have h34 := hI29.b0
  exact r_retI (i := 14) rfl ⟨z24, rfl, by omega, by omega, (by omega), e28, hI29, hF32, hR33⟩
/-- ProxyForge$Writer.member -/
theorem sp160 {G : xk} {S : yS} {d : Nat} (hI : yI S) {w0 : Int} (h_w0 : -2147483648 ≤ w0 ∧ w0 ≤ 2147483647) {s : Nat} (h_s : yStr s) {s2 : Nat} (h_s2 : yStr s2) {s3 : Nat} (h_s3 : yStr s3) (p_0 : S.f 31 1 + (22 + slen s + slen s2 + slen s3) ≤ 60000) (e_PL : PL S) (hd : 7 ≤ d) : yT xPr G LY xC160 0 [some ((2, 33)), some (vi w0), some ((6, s)), some ((6, s2)), some ((6, s3))] [] S d (fun r S' => ∃ z : Int, r = (1, vi z) ∧ 0 ≤ z ∧ z ≤ 200000 ∧ (S.f 31 1 ≤ S'.f 31 1 ∧ S'.f 31 1 ≤ S.f 31 1 + (22 + slen s + slen s2 + slen s3)) ∧ PL S' ∧ yI S' ∧ yFr [(31, 1), (36, 5)] [37, 100, 102, 103, 105] S S' ∧ yRm [0, 2, 3] S S') := by
  refine yT_pad 3 ?_
  show yT xPr G LY xC160 0 [some ((2, 33)), some (vi w0), some ((6, s)), some ((6, s2)), some ((6, s3)), none, none, none] [] S d _
  obtain ⟨d, rfl⟩ : ∃ q, d = q + 1 := ⟨d - 1, by omega⟩
  have hF : yFr [(31, 1), (36, 5)] [37, 100, 102, 103, 105] S S := yFr.refl S
  have hR : yRm [0, 2, 3] S S := yRm.refl S
  have h1 := hI.b0
  have sl9 := slen_le h_s
  have sl8 := slen_le h_s2
  have sl7 := slen_le h_s3
  refine r_load (i := 0) (u := 0) (w := 2) rfl rfl rfl ?_
  refine r_getf (i := 1) (v := 6) (w := 8) (x := (2, 36)) rfl ly33 rfl rfl fun _ => ?_
  refine r_const (i := 2) (u := 7) (z := 7) rfl rfl ?_
  refine r_load (i := 3) (u := 0) (w := 2) rfl rfl rfl ?_
  refine r_getf (i := 4) (v := 6) (w := 8) (x := (2, 36)) rfl ly33 rfl rfl fun _ => ?_
  refine r_load (i := 5) (u := 2) (w := 2) rfl rfl rfl ?_
  refine r_call (i := 6) (u := 9) (v := 98) (w := 0) (b := 0) (na := 770) (C2 := xC98) (as := [(2, 36), (6, s)]) (s := [vi 7, (2, 36)]) rfl rfl rfl rfl rfl rfl rfl (sp98 (s := s) hI h_s (by omega) e_PL (by omega)) (fun r4 S5 hq6 => ?_)
  obtain ⟨z7, rfl, h8, h9, h10, e11, hI12, hF13, hR14⟩ := hq6
  have hF15 := hF.trans hF13 rfl rfl
  have hR16 := hR.trans hR14 rfl
  refine Or.inr (Or.inl ⟨rfl, ?_⟩)
  have h17 := hI12.b0
  refine r_call (i := 7) (u := 9) (v := 97) (w := 0) (b := 0) (na := 1027) (C2 := xC97) (as := [(2, 36), vi 7, vi z7]) (s := []) rfl rfl rfl rfl rfl rfl rfl (sp97 (w0 := 7) (v := z7) hI12 ⟨by omega, by omega⟩ ⟨by omega, by omega⟩ (by omega) e11 (by omega)) (fun r18 S19 hq20 => ?_)
  obtain ⟨z21, rfl, h22, h23, h24, e25, hI26, hF27, hR28⟩ := hq20
  have hF29 := hF15.trans hF27 rfl rfl
  have hR30 := hR16.trans hR28 rfl
  refine Or.inr (Or.inl ⟨rfl, ?_⟩)
  refine r_store (i := 8) (u := 5) (w := 0) (L1 := [some ((2, 33)), some (vi w0), some ((6, s)), some ((6, s2)), some ((6, s3)), some (vi z21), none, none]) rfl rfl rfl rfl ?_
  refine r_load (i := 9) (u := 0) (w := 2) rfl rfl rfl ?_
  refine r_getf (i := 10) (v := 6) (w := 8) (x := (2, 36)) rfl ly33 rfl rfl fun _ => ?_
  refine r_load (i := 11) (u := 3) (w := 2) rfl rfl rfl ?_
  have h32 := hI26.b0
  refine r_call (i := 12) (u := 9) (v := 98) (w := 0) (b := 0) (na := 770) (C2 := xC98) (as := [(2, 36), (6, s2)]) (s := []) rfl rfl rfl rfl rfl rfl rfl (sp98 (s := s2) hI26 h_s2 (by omega) e25 (by omega)) (fun r33 S34 hq35 => ?_)
  obtain ⟨z36, rfl, h37, h38, h39, e40, hI41, hF42, hR43⟩ := hq35
  have hF44 := hF29.trans hF42 rfl rfl
  have hR45 := hR30.trans hR43 rfl
  refine Or.inr (Or.inl ⟨rfl, ?_⟩)
  refine r_store (i := 13) (u := 6) (w := 0) (L1 := [some ((2, 33)), some (vi w0), some ((6, s)), some ((6, s2)), some ((6, s3)), some (vi z21), some (vi z36), none]) rfl rfl rfl rfl ?_
  refine r_load (i := 14) (u := 0) (w := 2) rfl rfl rfl ?_
  refine r_getf (i := 15) (v := 6) (w := 8) (x := (2, 36)) rfl ly33 rfl rfl fun _ => ?_
  refine r_const (i := 16) (u := 12) (z := 12) rfl rfl ?_
  refine r_load (i := 17) (u := 6) (w := 0) rfl rfl rfl ?_
  refine r_load (i := 18) (u := 0) (w := 2) rfl rfl rfl ?_
  refine r_getf (i := 19) (v := 6) (w := 8) (x := (2, 36)) rfl ly33 rfl rfl fun _ => ?_
  refine r_load (i := 20) (u := 4) (w := 2) rfl rfl rfl ?_
  have h48 := hI41.b0
  refine r_call (i := 21) (u := 9) (v := 98) (w := 0) (b := 0) (na := 770) (C2 := xC98) (as := [(2, 36), (6, s3)]) (s := [vi z36, vi 12, (2, 36)]) rfl rfl rfl rfl rfl rfl rfl (sp98 (s := s3) hI41 h_s3 (by omega) e40 (by omega)) (fun r49 S50 hq51 => ?_)
  obtain ⟨z52, rfl, h53, h54, h55, e56, hI57, hF58, hR59⟩ := hq51
  have hF60 := hF44.trans hF58 rfl rfl
  have hR61 := hR45.trans hR59 rfl
  refine Or.inr (Or.inl ⟨rfl, ?_⟩)
  have h62 := hI57.b0
  refine r_call (i := 22) (u := 9) (v := 94) (w := 0) (b := 0) (na := 1284) (C2 := xC94) (as := [(2, 36), vi 12, vi z36, vi z52]) (s := []) rfl rfl rfl rfl rfl rfl rfl (sp94 (w0 := 12) (v := z36) (v2 := z52) hI57 ⟨by omega, by omega⟩ ⟨by omega, by omega⟩ ⟨by omega, by omega⟩ (by omega) e56 (by omega)) (fun r63 S64 hq65 => ?_)
  obtain ⟨z66, rfl, h67, h68, h69, e70, hI71, hF72, hR73⟩ := hq65
  have hF74 := hF60.trans hF72 rfl rfl
  have hR75 := hR61.trans hR73 rfl
  refine Or.inr (Or.inl ⟨rfl, ?_⟩)
  refine r_store (i := 23) (u := 7) (w := 0) (L1 := [some ((2, 33)), some (vi w0), some ((6, s)), some ((6, s2)), some ((6, s3)), some (vi z21), some (vi z36), some (vi z66)]) rfl rfl rfl rfl ?_
  refine r_load (i := 24) (u := 0) (w := 2) rfl rfl rfl ?_
  refine r_getf (i := 25) (v := 6) (w := 8) (x := (2, 36)) rfl ly33 rfl rfl fun _ => ?_
  refine r_load (i := 26) (u := 1) (w := 0) rfl rfl rfl ?_
  refine r_load (i := 27) (u := 5) (w := 0) rfl rfl rfl ?_
  refine r_load (i := 28) (u := 7) (w := 0) rfl rfl rfl ?_
  have h77 := hI71.b0
  refine r_call (i := 29) (u := 9) (v := 94) (w := 0) (b := 0) (na := 1284) (C2 := xC94) (as := [(2, 36), vi w0, vi z21, vi z66]) (s := []) rfl rfl rfl rfl rfl rfl rfl (sp94 (w0 := w0) (v := z21) (v2 := z66) hI71 ⟨by omega, by omega⟩ ⟨by omega, by omega⟩ ⟨by omega, by omega⟩ (by omega) e70 (by omega)) (fun r78 S79 hq80 => ?_)
  obtain ⟨z81, rfl, h82, h83, h84, e85, hI86, hF87, hR88⟩ := hq80
  have hF89 := hF74.trans hF87 rfl rfl
  have hR90 := hR75.trans hR88 rfl
  refine Or.inr (Or.inl ⟨rfl, ?_⟩)
  have h91 := hI86.b0
  exact r_retI (i := 30) rfl ⟨z81, rfl, by omega, by omega, (by omega), e85, hI86, hF89, hR90⟩
/-- ProxyForge$Writer.ownMember -/
theorem sp167 {G : xk} {S : yS} {d : Nat} (hI : yI S) {w0 : Int} (h_w0 : -2147483648 ≤ w0 ∧ w0 ≤ 2147483647) {t : Int} (h_t : 0 ≤ t ∧ t ≤ 19) (p_0 : S.f 31 1 + 42 ≤ 60000) (e_PL : PL S) (hd : 7 ≤ d) : yT xPr G LY xC167 0 [some ((2, 33)), some (vi w0), some (vi t)] [] S d (fun r S' => ∃ z : Int, r = (1, vi z) ∧ 0 ≤ z ∧ z ≤ 200000 ∧ (S.f 31 1 ≤ S'.f 31 1 ∧ S'.f 31 1 ≤ S.f 31 1 + 42) ∧ PL S' ∧ yI S' ∧ yFr [(31, 1), (36, 5)] [37, 100, 102, 103, 105] S S' ∧ yRm [0, 2, 3] S S') := by
  refine yT_pad 1 ?_
  show yT xPr G LY xC167 0 [some ((2, 33)), some (vi w0), some (vi t), none] [] S d _
  obtain ⟨d, rfl⟩ : ∃ q, d = q + 1 := ⟨d - 1, by omega⟩
  have hF : yFr [(31, 1), (36, 5)] [37, 100, 102, 103, 105] S S := yFr.refl S
  have hR : yRm [0, 2, 3] S S := yRm.refl S
  have h1 := hI.b0
  refine r_load (i := 0) (u := 0) (w := 2) rfl rfl rfl ?_
  refine r_getf (i := 1) (v := 6) (w := 8) (x := (2, 36)) rfl ly33 rfl rfl fun _ => ?_
  refine r_load (i := 2) (u := 2) (w := 0) rfl rfl rfl ?_
  refine r_call (i := 3) (u := 9) (v := 89) (w := 0) (b := 0) (na := 770) (C2 := xC89) (as := [(2, 36), vi t]) (s := []) rfl rfl rfl rfl rfl rfl rfl (sp89 (t := t) hI ⟨by omega, by omega⟩ (by omega) e_PL (by omega)) (fun r3 S4 hq5 => ?_)
  obtain ⟨z6, rfl, h7, h8, h9, e10, hI11, hF12, hR13⟩ := hq5
  have hF14 := hF.trans hF12 rfl rfl
  have hR15 := hR.trans hR13 rfl
  refine Or.inr (Or.inl ⟨rfl, ?_⟩)
  refine r_store (i := 4) (u := 3) (w := 0) (L1 := [some ((2, 33)), some (vi w0), some (vi t), some (vi z6)]) rfl rfl rfl rfl ?_
  refine r_load (i := 5) (u := 0) (w := 2) rfl rfl rfl ?_
  refine r_getf (i := 6) (v := 6) (w := 8) (x := (2, 36)) rfl ly33 rfl rfl fun _ => ?_
  refine r_load (i := 7) (u := 1) (w := 0) rfl rfl rfl ?_
  refine r_load (i := 8) (u := 3) (w := 0) rfl rfl rfl ?_
  refine r_load (i := 9) (u := 0) (w := 2) rfl rfl rfl ?_
  refine r_getf (i := 10) (v := 6) (w := 8) (x := (2, 36)) rfl ly33 rfl rfl fun _ => ?_
  refine r_const (i := 11) (u := 12) (z := 12) rfl rfl ?_
  refine r_load (i := 12) (u := 0) (w := 2) rfl rfl rfl ?_
  have h18 : S4.f 33 10 = S.f 33 10 := hF12.f rfl
  refine r_getf (i := 13) (v := 10) (w := 8) (x := vi (S4.f 33 10)) rfl ly33 rfl rfl fun h19 => ?_
  have h19 : Rg (S4.f 33 10) := h19
  refine r_load (i := 14) (u := 0) (w := 2) rfl rfl rfl ?_
  have h20 : S4.f 33 11 = S.f 33 11 := hF12.f rfl
  refine r_getf (i := 15) (v := 11) (w := 8) (x := vi (S4.f 33 11)) rfl ly33 rfl rfl fun h21 => ?_
  have h21 : Rg (S4.f 33 11) := h21
  have h22 := hI11.b0
  refine r_call (i := 16) (u := 9) (v := 94) (w := 0) (b := 0) (na := 1284) (C2 := xC94) (as := [(2, 36), vi 12, vi (S4.f 33 10), vi (S4.f 33 11)]) (s := [vi z6, vi w0, (2, 36)]) rfl rfl rfl rfl rfl rfl rfl (sp94 (w0 := 12) (v := S4.f 33 10) (v2 := S4.f 33 11) hI11 ⟨by omega, by omega⟩ ⟨by omega, by omega⟩ ⟨by omega, by omega⟩ (by omega) e10 (by omega)) (fun r23 S24 hq25 => ?_)
  obtain ⟨z26, rfl, h27, h28, h29, e30, hI31, hF32, hR33⟩ := hq25
  have hF34 := hF14.trans hF32 rfl rfl
  have hR35 := hR15.trans hR33 rfl
  refine Or.inr (Or.inl ⟨rfl, ?_⟩)
  have h36 := hI31.b0
  refine r_call (i := 17) (u := 9) (v := 94) (w := 0) (b := 0) (na := 1284) (C2 := xC94) (as := [(2, 36), vi w0, vi z6, vi z26]) (s := []) rfl rfl rfl rfl rfl rfl rfl (sp94 (w0 := w0) (v := z6) (v2 := z26) hI31 ⟨by omega, by omega⟩ ⟨by omega, by omega⟩ ⟨by omega, by omega⟩ (by omega) e30 (by omega)) (fun r37 S38 hq39 => ?_)
  obtain ⟨z40, rfl, h41, h42, h43, e44, hI45, hF46, hR47⟩ := hq39
  have hF48 := hF34.trans hF46 rfl rfl
  have hR49 := hR35.trans hR47 rfl
  refine Or.inr (Or.inl ⟨rfl, ?_⟩)
  have h50 := hI45.b0
  exact r_retI (i := 18) rfl ⟨z40, rfl, by omega, by omega, (by omega), e44, hI45, hF48, hR49⟩
/-- ProxyForge$Writer.changeByCall -/
theorem sp148 {G : xk} {S : yS} {d : Nat} (hI : yI S) {m : Int} (h_m : 0 ≤ m ∧ m ≤ 59) (hd : 2 ≤ d) : yT xPr G LY xC148 0 [some ((2, 33)), some (vi m)] [] S d (fun r S' => ∃ z : Int, r = (1, vi z) ∧ -20 ≤ z ∧ z ≤ 20 ∧ S = S') := by
  refine yT_pad 0 ?_
  show yT xPr G LY xC148 0 [some ((2, 33)), some (vi m)] [] S d _
  obtain ⟨d, rfl⟩ : ∃ q, d = q + 1 := ⟨d - 1, by omega⟩
  refine r_load (i := 0) (u := 0) (w := 2) rfl rfl rfl ?_
  refine r_getf (i := 1) (v := 1) (w := 8) (x := (2, 9)) rfl ly33 rfl rfl fun _ => ?_
  refine r_getf (i := 2) (v := 5) (w := 2) (x := (2, 14)) rfl ly9 rfl rfl fun _ => ?_
  refine r_load (i := 3) (u := 1) (w := 0) rfl rfl rfl ?_
  refine a_int (i := 4) rfl ly14 rfl (by omega) (by omega) fun h3 => ?_
  have h4 := hI.a ta14 m.toNat
  refine r_call (i := 5) (u := 65535) (v := 70) (w := 0) (b := 2) (na := 257) (C2 := xC70) (as := [vi (S.a 14 m.toNat)]) (s := []) rfl rfl rfl rfl rfl rfl rfl (sp70 (k := S.a 14 m.toNat) hI ⟨by omega, by omega⟩   (by omega)) (fun r5 S6 hq7 => ?_)
  obtain ⟨z8, rfl, h9, h10, rfl⟩ := hq7
  refine Or.inr (Or.inl ⟨rfl, ?_⟩)
  refine r_const (i := 6) (u := 1) (z := 1) rfl rfl ?_
  refine r_isub (i := 7) rfl ?_
  refine r_load (i := 8) (u := 0) (w := 2) rfl rfl rfl ?_
  refine r_getf (i := 9) (v := 1) (w := 8) (x := (2, 9)) rfl ly33 rfl rfl fun _ => ?_
  refine r_getf (i := 10) (v := 4) (w := 2) (x := (2, 13)) rfl ly9 rfl rfl fun _ => ?_
  refine r_load (i := 11) (u := 1) (w := 0) rfl rfl rfl ?_
  refine a_int (i := 12) rfl ly13 rfl (by omega) (by omega) fun h13 => ?_
  have kp14 := hI.k13 m.toNat
  refine r_call (i := 13) (u := 65535) (v := 71) (w := 0) (b := 2) (na := 769) (C2 := xC71) (as := [vi (S.a 13 m.toNat)]) (s := [vi (z8 - 1)]) rfl rfl rfl rfl rfl rfl rfl (sp71 (p := S.a 13 m.toNat) hI ⟨by omega, by omega⟩   (by omega)) (fun r15 S16 hq17 => ?_)
  obtain ⟨z18, rfl, h19, h20, rfl⟩ := hq17
  refine Or.inr (Or.inl ⟨rfl, ?_⟩)
  refine r_isub (i := 14) rfl ?_
  exact r_retI (i := 15) rfl ⟨(z8 - 1) - z18, rfl, by omega, by omega, rfl⟩
theorem lp150_4 {G : xk} {d : Nat} {S : yS} (hI : yI S)  (hd : 2 ≤ d + 1) : ∀ (n : Nat), ∀ (c0 m : Int) (h_c0 : 0 ≤ c0 ∧ c0 ≤ 60) (h_m : 0 ≤ m ∧ m ≤ 60) (q_0 : c0 ≤ m) (hn : 60 - m < (n : Nat)), yT xPr G LY xC150 4 [some ((2, 33)), some (vi c0), some (vi m)] [] S (d + 1) (fun r S' => ∃ z : Int, r = (1, vi z) ∧ 0 ≤ z ∧ z ≤ 60 ∧ S = S') := by
  intro n
  induction n with
  | zero => intro c0 m h_c0 h_m q_0 hn; exact absurd hn (by omega)
  | succ n ih =>
    intro c0 m h_c0 h_m q_0 hn
    refine r_load (i := 4) (u := 2) (w := 0) rfl rfl rfl ?_
    refine r_load (i := 5) (u := 0) (w := 2) rfl rfl rfl ?_
    refine r_getf (i := 6) (v := 1) (w := 8) (x := (2, 9)) rfl ly33 rfl rfl fun _ => ?_
    have h2 := hI.f tf9_8
    refine r_getf (i := 7) (v := 8) (w := 2) (x := vi (S.f 9 8)) rfl ly9 rfl rfl fun h3 => ?_
    have h3 : Rg (S.f 9 8) := h3
    refine c_ge (i := 8) (v := 20) rfl ⟨by omega, by omega⟩ ⟨by omega, by omega⟩ (fun h4 => ?_) (fun h5 => ?_)
    · refine r_load (i := 20) (u := 1) (w := 0) rfl rfl rfl ?_
      exact r_retI (i := 21) rfl ⟨c0, rfl, by omega, by omega, rfl⟩
    · refine r_load (i := 9) (u := 0) (w := 2) rfl rfl rfl ?_
      refine r_getf (i := 10) (v := 1) (w := 8) (x := (2, 9)) rfl ly33 rfl rfl fun _ => ?_
      refine r_load (i := 11) (u := 2) (w := 0) rfl rfl rfl ?_
      refine r_load (i := 12) (u := 0) (w := 2) rfl rfl rfl ?_
      refine r_getf (i := 13) (v := 2) (w := 8) (x := (2, 17)) rfl ly33 rfl rfl fun _ => ?_
      have h8 := hI.f tf17_6
      refine r_getf (i := 14) (v := 6) (w := 3) (x := vi (S.f 17 6)) rfl ly17 rfl rfl fun h9 => ?_
      have h9 : Rg (S.f 17 6) := h9
      refine r_call (i := 15) (u := 2) (v := 79) (w := 0) (b := 0) (na := 771) (C2 := xC79) (as := [(2, 9), vi m, vi (S.f 17 6)]) (s := []) rfl rfl rfl rfl rfl rfl rfl (sp79 (m := m) (t := S.f 17 6) hI ⟨by omega, by omega⟩ ⟨by omega, by omega⟩   (by omega)) (fun r10 S11 hq12 => ?_)
      obtain ⟨z13, rfl, h14, h15, yo16, no17, rfl⟩ := hq12
      refine Or.inr (Or.inl ⟨rfl, ?_⟩)
      refine z_eq (i := 16) (v := 18) rfl ⟨by omega, by omega⟩ (fun h18 => ?_) (fun h19 => ?_)
      · refine r_iinc (i := 18) (u := 1) (v := 2) (s := 1) (L1 := [some ((2, 33)), some (vi c0), some (vi (m + 1))]) rfl rfl rfl rfl rfl ?_
        refine r_goto (i := 19) (v := 4) rfl ?_
        exact ih c0 (m + 1) ⟨by omega, by omega⟩ ⟨by omega, by omega⟩ (by omega) (by omega)
      · refine r_iinc (i := 17) (u := 1) (v := 1) (s := 1) (L1 := [some ((2, 33)), some (vi (c0 + 1)), some (vi m)]) rfl rfl rfl rfl rfl ?_
        refine r_iinc (i := 18) (u := 1) (v := 2) (s := 1) (L1 := [some ((2, 33)), some (vi (c0 + 1)), some (vi (m + 1))]) rfl rfl rfl rfl rfl ?_
        refine r_goto (i := 19) (v := 4) rfl ?_
        exact ih (c0 + 1) (m + 1) ⟨by omega, by omega⟩ ⟨by omega, by omega⟩ (by omega) (by omega)
/-- ProxyForge$Writer.constructorCount -/
theorem sp150 {G : xk} {S : yS} {d : Nat} (hI : yI S)  (hd : 2 ≤ d) : yT xPr G LY xC150 0 [some ((2, 33))] [] S d (fun r S' => ∃ z : Int, r = (1, vi z) ∧ 0 ≤ z ∧ z ≤ 60 ∧ S = S') := by
  refine yT_pad 2 ?_
  show yT xPr G LY xC150 0 [some ((2, 33)), none, none] [] S d _
  obtain ⟨d, rfl⟩ : ∃ q, d = q + 1 := ⟨d - 1, by omega⟩
  refine r_const (i := 0) (u := 0) (z := 0) rfl rfl ?_
  refine r_store (i := 1) (u := 1) (w := 0) (L1 := [some ((2, 33)), some (vi 0), none]) rfl rfl rfl rfl ?_
  refine r_const (i := 2) (u := 0) (z := 0) rfl rfl ?_
  refine r_store (i := 3) (u := 2) (w := 0) (L1 := [some ((2, 33)), some (vi 0), some (vi 0)]) rfl rfl rfl rfl ?_
  exact lp150_4 hI    hd _ 0 0 ⟨by omega, by omega⟩ ⟨by omega, by omega⟩ (by omega) (Int.lt_succ_toNat _)
/-- ProxyForge$Writer.noHandlers -/
theorem sp162 {G : xk} {S : yS} {d : Nat} (hI : yI S) (p_0 : S.f 34 1 + 4 ≤ 60000) (hd : 6 ≤ d) : yT xPr G LY xC162 0 [some ((2, 33))] [] S d (fun r S' => r = (0, (0, 0)) ∧ (S.f 34 1 ≤ S'.f 34 1 ∧ S'.f 34 1 ≤ S.f 34 1 + 4) ∧ yI S' ∧ yFr [(34, 1)] [101, 105] S S' ∧ yRm [1] S S') := by
  refine yT_pad 0 ?_
  show yT xPr G LY xC162 0 [some ((2, 33))] [] S d _
  obtain ⟨d, rfl⟩ : ∃ q, d = q + 1 := ⟨d - 1, by omega⟩
  have hF : yFr [(34, 1)] [101, 105] S S := yFr.refl S
  have hR : yRm [1] S S := yRm.refl S
  have h1 := hI.b1
  refine r_load (i := 0) (u := 0) (w := 2) rfl rfl rfl ?_
  refine r_getf (i := 1) (v := 5) (w := 8) (x := (2, 34)) rfl ly33 rfl rfl fun _ => ?_
  refine r_const (i := 2) (u := 0) (z := 0) rfl rfl ?_
  refine r_call (i := 3) (u := 7) (v := 36) (w := 0) (b := 0) (na := 514) (C2 := xC36) (as := [(2, 34), vi 0]) (s := []) rfl rfl rfl rfl rfl rfl rfl (sp36_34 (b := 0) hI ⟨by omega, by omega⟩ (by omega)  (by omega)) (fun r3 S4 hq5 => ?_)
  obtain ⟨rfl, h6, hI7, hF8, hR9⟩ := hq5
  have hF10 := hF.trans hF8 rfl rfl
  have hR11 := hR.trans hR9 rfl
  refine Or.inl ⟨rfl, ?_⟩
  refine r_load (i := 4) (u := 0) (w := 2) rfl rfl rfl ?_
  refine r_getf (i := 5) (v := 5) (w := 8) (x := (2, 34)) rfl ly33 rfl rfl fun _ => ?_
  refine r_const (i := 6) (u := 0) (z := 0) rfl rfl ?_
  have h13 := hI7.b1
  refine r_call (i := 7) (u := 7) (v := 36) (w := 0) (b := 0) (na := 514) (C2 := xC36) (as := [(2, 34), vi 0]) (s := []) rfl rfl rfl rfl rfl rfl rfl (sp36_34 (b := 0) hI7 ⟨by omega, by omega⟩ (by omega)  (by omega)) (fun r14 S15 hq16 => ?_)
  obtain ⟨rfl, h17, hI18, hF19, hR20⟩ := hq16
  have hF21 := hF10.trans hF19 rfl rfl
  have hR22 := hR11.trans hR20 rfl
  refine Or.inl ⟨rfl, ?_⟩
  have h23 := hI18.b1
  exact r_ret0 (i := 8) rfl ⟨rfl, (by omega), hI18, hF21, hR22⟩
/-- ProxyForge$Writer.startCode -/
theorem sp171 {G : xk} {S : yS} {d : Nat} (hI : yI S) {lc : Int} (h_lc : -2147483648 ≤ lc ∧ lc ≤ 2147483647) (p_0 : S.f 31 1 + 7 ≤ 60000) (p_1 : S.f 34 1 + 14 ≤ 60000) (e_PL : PL S) (hd : 7 ≤ d) : yT xPr G LY xC171 0 [some ((2, 33)), some (vi lc)] [] S d (fun r S' => r = (0, (0, 0)) ∧ (S.f 31 1 ≤ S'.f 31 1 ∧ S'.f 31 1 ≤ S.f 31 1 + 7) ∧ (S.f 34 1 ≤ S'.f 34 1 ∧ S'.f 34 1 ≤ S.f 34 1 + 14) ∧ (S'.f 33 12 = S.f 34 1 + 6 ∧ S'.f 33 13 = S'.f 33 12 + 8 ∧ S'.f 34 1 = S.f 34 1 + 14) ∧ PL S' ∧ yI S' ∧ yFr [(31, 1), (33, 12), (33, 13), (33, 14), (33, 15), (34, 1), (36, 5)] [37, 100, 101, 102, 103, 105] S S' ∧ yRm [0, 1, 2, 3] S S') := by
  refine yT_pad 0 ?_
  show yT xPr G LY xC171 0 [some ((2, 33)), some (vi lc)] [] S d _
  obtain ⟨d, rfl⟩ : ∃ q, d = q + 1 := ⟨d - 1, by omega⟩
  have hF : yFr [(31, 1), (33, 12), (33, 13), (33, 14), (33, 15), (34, 1), (36, 5)] [37, 100, 101, 102, 103, 105] S S := yFr.refl S
  have hR : yRm [0, 1, 2, 3] S S := yRm.refl S
  have h1 := hI.b0
  have h2 := hI.b1
  refine r_load (i := 0) (u := 0) (w := 2) rfl rfl rfl ?_
  refine r_getf (i := 1) (v := 5) (w := 8) (x := (2, 34)) rfl ly33 rfl rfl fun _ => ?_
  refine r_load (i := 2) (u := 0) (w := 2) rfl rfl rfl ?_
  refine r_getf (i := 3) (v := 6) (w := 8) (x := (2, 36)) rfl ly33 rfl rfl fun _ => ?_
  refine r_str (i := 4) (v := 13) rfl ?_
  have h5 := slv13
  refine r_call (i := 5) (u := 9) (v := 98) (w := 0) (b := 0) (na := 770) (C2 := xC98) (as := [(2, 36), (6, 13)]) (s := [(2, 34)]) rfl rfl rfl rfl rfl rfl rfl (sp98 (s := 13) hI ⟨by decide, by decide⟩ (by omega) e_PL (by omega)) (fun r6 S7 hq8 => ?_)
  obtain ⟨z9, rfl, h10, h11, h12, e13, hI14, hF15, hR16⟩ := hq8
  have hF17 := hF.trans hF15 rfl rfl
  have hR18 := hR.trans hR16 rfl
  refine Or.inr (Or.inl ⟨rfl, ?_⟩)
  have h19 := hI14.b1
  have h20 : S7.f 34 1 = S.f 34 1 := hF15.f rfl
  refine r_call (i := 6) (u := 7) (v := 36) (w := 0) (b := 0) (na := 514) (C2 := xC36) (as := [(2, 34), vi z9]) (s := []) rfl rfl rfl rfl rfl rfl rfl (sp36_34 (b := z9) hI14 ⟨by omega, by omega⟩ (by omega)  (by omega)) (fun r21 S22 hq23 => ?_)
  obtain ⟨rfl, h24, hI25, hF26, hR27⟩ := hq23
  have hF28 := hF17.trans hF26 rfl rfl
  have hR29 := hR18.trans hR27 rfl
  have e30 := PLx.fr e13 hF26 hR27 rfl rfl rfl
  have e31 := PTx.fr e13 hF26 hR27 rfl rfl rfl
  refine Or.inl ⟨rfl, ?_⟩
  refine r_load (i := 7) (u := 0) (w := 2) rfl rfl rfl ?_
  refine r_getf (i := 8) (v := 5) (w := 8) (x := (2, 34)) rfl ly33 rfl rfl fun _ => ?_
  refine r_const (i := 9) (u := 0) (z := 0) rfl rfl ?_
  have h33 := hI25.b1
  refine r_call (i := 10) (u := 7) (v := 24) (w := 0) (b := 0) (na := 514) (C2 := xC24) (as := [(2, 34), vi 0]) (s := []) rfl rfl rfl rfl rfl rfl rfl (sp24_34 (b := 0) hI25 ⟨by omega, by omega⟩ (by omega)  (by omega)) (fun r34 S35 hq36 => ?_)
  obtain ⟨rfl, h37, hI38, hF39, hR40⟩ := hq36
  have hF41 := hF28.trans hF39 rfl rfl
  have hR42 := hR29.trans hR40 rfl
  have e43 := PLx.fr e30 hF39 hR40 rfl rfl rfl
  have e44 := PTx.fr e31 hF39 hR40 rfl rfl rfl
  refine Or.inl ⟨rfl, ?_⟩
  refine r_load (i := 11) (u := 0) (w := 2) rfl rfl rfl ?_
  refine r_load (i := 12) (u := 0) (w := 2) rfl rfl rfl ?_
  refine r_getf (i := 13) (v := 5) (w := 8) (x := (2, 34)) rfl ly33 rfl rfl fun _ => ?_
  have h46 := hI38.b1
  refine r_getf (i := 14) (v := 1) (w := 7) (x := vi (S35.f 34 1)) rfl ly34 rfl rfl fun h47 => ?_
  have h47 : Rg (S35.f 34 1) := h47
  refine r_putI (i := 15) (v := 12) (w := 8) rfl ly33 rfl ⟨by omega, by omega⟩ ?_
  have hI49 := hI38.setf0 (b := 33) (w := 12) (z := S35.f 34 1) rfl rfl
  have hF51 := hF41.setf (b := 33) (w := 12) (z := S35.f 34 1) rfl
  have hR52 := hR42.setf (b := 33) (w := 12) (z := S35.f 34 1)
  have e53 := PLx.setf e43 (b := 33) (w := 12) (z := S35.f 34 1) rfl
  have e54 := PTx.setf e44 (b := 33) (w := 12) (z := S35.f 34 1) rfl
  refine yT_gen (fun S48 hS50 => ?_)
  rw [hS50] at hI49 hF51 hR52 e53 e54
  refine r_load (i := 16) (u := 0) (w := 2) rfl rfl rfl ?_
  refine r_getf (i := 17) (v := 5) (w := 8) (x := (2, 34)) rfl ly33 rfl rfl fun _ => ?_
  refine r_const (i := 18) (u := 0) (z := 0) rfl rfl ?_
  have h56 := hI49.b1
  have h57 : S48.f 34 1 = S35.f 34 1 := by rw [← hS50]; exact ysf_ne (by decide)
  refine r_call (i := 19) (u := 7) (v := 36) (w := 0) (b := 0) (na := 514) (C2 := xC36) (as := [(2, 34), vi 0]) (s := []) rfl rfl rfl rfl rfl rfl rfl (sp36_34 (b := 0) hI49 ⟨by omega, by omega⟩ (by omega)  (by omega)) (fun r58 S59 hq60 => ?_)
  obtain ⟨rfl, h61, hI62, hF63, hR64⟩ := hq60
  have hF65 := hF51.trans hF63 rfl rfl
  have hR66 := hR52.trans hR64 rfl
  have e67 := PLx.fr e53 hF63 hR64 rfl rfl rfl
  have e68 := PTx.fr e54 hF63 hR64 rfl rfl rfl
  refine Or.inl ⟨rfl, ?_⟩
  refine r_load (i := 20) (u := 0) (w := 2) rfl rfl rfl ?_
  refine r_getf (i := 21) (v := 5) (w := 8) (x := (2, 34)) rfl ly33 rfl rfl fun _ => ?_
  refine r_load (i := 22) (u := 1) (w := 0) rfl rfl rfl ?_
  have h70 := hI62.b1
  refine r_call (i := 23) (u := 7) (v := 36) (w := 0) (b := 0) (na := 514) (C2 := xC36) (as := [(2, 34), vi lc]) (s := []) rfl rfl rfl rfl rfl rfl rfl (sp36_34 (b := lc) hI62 ⟨by omega, by omega⟩ (by omega)  (by omega)) (fun r71 S72 hq73 => ?_)
  obtain ⟨rfl, h74, hI75, hF76, hR77⟩ := hq73
  have hF78 := hF65.trans hF76 rfl rfl
  have hR79 := hR66.trans hR77 rfl
  have e80 := PLx.fr e67 hF76 hR77 rfl rfl rfl
  have e81 := PTx.fr e68 hF76 hR77 rfl rfl rfl
  refine Or.inl ⟨rfl, ?_⟩
  refine r_load (i := 24) (u := 0) (w := 2) rfl rfl rfl ?_
  refine r_getf (i := 25) (v := 5) (w := 8) (x := (2, 34)) rfl ly33 rfl rfl fun _ => ?_
  refine r_const (i := 26) (u := 0) (z := 0) rfl rfl ?_
  have h83 := hI75.b1
  refine r_call (i := 27) (u := 7) (v := 24) (w := 0) (b := 0) (na := 514) (C2 := xC24) (as := [(2, 34), vi 0]) (s := []) rfl rfl rfl rfl rfl rfl rfl (sp24_34 (b := 0) hI75 ⟨by omega, by omega⟩ (by omega)  (by omega)) (fun r84 S85 hq86 => ?_)
  obtain ⟨rfl, h87, hI88, hF89, hR90⟩ := hq86
  have hF91 := hF78.trans hF89 rfl rfl
  have hR92 := hR79.trans hR90 rfl
  have e93 := PLx.fr e80 hF89 hR90 rfl rfl rfl
  have e94 := PTx.fr e81 hF89 hR90 rfl rfl rfl
  refine Or.inl ⟨rfl, ?_⟩
  refine r_load (i := 28) (u := 0) (w := 2) rfl rfl rfl ?_
  refine r_load (i := 29) (u := 0) (w := 2) rfl rfl rfl ?_
  refine r_getf (i := 30) (v := 5) (w := 8) (x := (2, 34)) rfl ly33 rfl rfl fun _ => ?_
  have h96 := hI88.b1
  refine r_getf (i := 31) (v := 1) (w := 7) (x := vi (S85.f 34 1)) rfl ly34 rfl rfl fun h97 => ?_
  have h97 : Rg (S85.f 34 1) := h97
  refine r_putI (i := 32) (v := 13) (w := 8) rfl ly33 rfl ⟨by omega, by omega⟩ ?_
  have hI99 := hI88.setf0 (b := 33) (w := 13) (z := S85.f 34 1) rfl rfl
  have hF101 := hF91.setf (b := 33) (w := 13) (z := S85.f 34 1) rfl
  have hR102 := hR92.setf (b := 33) (w := 13) (z := S85.f 34 1)
  have e103 := PLx.setf e93 (b := 33) (w := 13) (z := S85.f 34 1) rfl
  have e104 := PTx.setf e94 (b := 33) (w := 13) (z := S85.f 34 1) rfl
  refine yT_gen (fun S98 hS100 => ?_)
  rw [hS100] at hI99 hF101 hR102 e103 e104
  refine r_load (i := 33) (u := 0) (w := 2) rfl rfl rfl ?_
  refine r_const (i := 34) (u := 0) (z := 0) rfl rfl ?_
  rw [vi_sg (0)]
  have h105 := ysg_rg (0)
  refine r_putI (i := 35) (v := 14) (w := 8) rfl ly33 rfl ⟨by omega, by omega⟩ ?_
  have hI107 := hI99.setf0 (b := 33) (w := 14) (z := ysg 0) rfl rfl
  have hF109 := hF101.setf (b := 33) (w := 14) (z := ysg 0) rfl
  have hR110 := hR102.setf (b := 33) (w := 14) (z := ysg 0)
  have e111 := PLx.setf e103 (b := 33) (w := 14) (z := ysg 0) rfl
  have e112 := PTx.setf e104 (b := 33) (w := 14) (z := ysg 0) rfl
  refine yT_gen (fun S106 hS108 => ?_)
  rw [hS108] at hI107 hF109 hR110 e111 e112
  refine r_load (i := 36) (u := 0) (w := 2) rfl rfl rfl ?_
  refine r_const (i := 37) (u := 0) (z := 0) rfl rfl ?_
  refine r_putI (i := 38) (v := 15) (w := 8) rfl ly33 rfl ⟨by omega, by omega⟩ ?_
  have hI114 := hI107.setf0 (b := 33) (w := 15) (z := 0) rfl rfl
  have hF116 := hF109.setf (b := 33) (w := 15) (z := 0) rfl
  have hR117 := hR110.setf (b := 33) (w := 15) (z := 0)
  have e118 := PLx.setf e111 (b := 33) (w := 15) (z := 0) rfl
  have e119 := PTx.setf e112 (b := 33) (w := 15) (z := 0) rfl
  refine yT_gen (fun S113 hS115 => ?_)
  rw [hS115] at hI114 hF116 hR117 e118 e119
  have h120 := hI114.b0
  have h121 : S113.f 31 1 = S106.f 31 1 := by rw [← hS115]; exact ysf_ne (by decide)
  have h122 : S106.f 31 1 = S98.f 31 1 := by rw [← hS108]; exact ysf_ne (by decide)
  have h123 : S98.f 31 1 = S85.f 31 1 := by rw [← hS100]; exact ysf_ne (by decide)
  have h124 : S85.f 31 1 = S72.f 31 1 := hF89.f rfl
  have h125 : S72.f 31 1 = S59.f 31 1 := hF76.f rfl
  have h126 : S59.f 31 1 = S48.f 31 1 := hF63.f rfl
  have h127 : S48.f 31 1 = S35.f 31 1 := by rw [← hS50]; exact ysf_ne (by decide)
  have h128 : S35.f 31 1 = S22.f 31 1 := hF39.f rfl
  have h129 : S22.f 31 1 = S7.f 31 1 := hF26.f rfl
  have h130 := hI114.b1
  have h131 : S113.f 34 1 = S106.f 34 1 := by rw [← hS115]; exact ysf_ne (by decide)
  have h132 : S106.f 34 1 = S98.f 34 1 := by rw [← hS108]; exact ysf_ne (by decide)
  have h133 : S98.f 34 1 = S85.f 34 1 := by rw [← hS100]; exact ysf_ne (by decide)
  have h134 : S113.f 33 12 = S106.f 33 12 := by rw [← hS115]; exact ysf_ne (by decide)
  have h135 : S106.f 33 12 = S98.f 33 12 := by rw [← hS108]; exact ysf_ne (by decide)
  have h136 : S98.f 33 12 = S85.f 33 12 := by rw [← hS100]; exact ysf_ne (by decide)
  have h137 : S85.f 33 12 = S72.f 33 12 := hF89.f rfl
  have h138 : S72.f 33 12 = S59.f 33 12 := hF76.f rfl
  have h139 : S59.f 33 12 = S48.f 33 12 := hF63.f rfl
  have h140 : S48.f 33 12 = S35.f 34 1 := by rw [← hS50]; exact ysf_eq
  have h141 : S113.f 33 13 = S106.f 33 13 := by rw [← hS115]; exact ysf_ne (by decide)
  have h142 : S106.f 33 13 = S98.f 33 13 := by rw [← hS108]; exact ysf_ne (by decide)
  have h143 : S98.f 33 13 = S85.f 34 1 := by rw [← hS100]; exact ysf_eq
  exact r_ret0 (i := 39) rfl ⟨rfl, (by omega), (by omega), (by omega), e118, hI114, hF116, hR117⟩
/-- ProxyForge$Writer.endInstructions -/
theorem sp153 {G : xk} {S : yS} {d : Nat} (hI : yI S) (p_0 : S.f 34 1 + 0 ≤ 60000) (p_1 : 6 ≤ S.f 33 12 ∧ S.f 33 12 + 8 ≤ S.f 34 1 ∧ S.f 33 13 = S.f 33 12 + 8) (hd : 3 ≤ d) : yT xPr G LY xC153 0 [some ((2, 33))] [] S d (fun r S' => r = (0, (0, 0)) ∧ (S.f 34 1 ≤ S'.f 34 1 ∧ S'.f 34 1 ≤ S.f 34 1 + 0) ∧ yI S' ∧ yFr [] [101] S S' ∧ yRm [] S S') := by
  refine yT_pad 0 ?_
  show yT xPr G LY xC153 0 [some ((2, 33))] [] S d _
  obtain ⟨d, rfl⟩ : ∃ q, d = q + 1 := ⟨d - 1, by omega⟩
  have hF : yFr [] [101] S S := yFr.refl S
  have hR : yRm [] S S := yRm.refl S
  have h1 := hI.b1
  refine r_load (i := 0) (u := 0) (w := 2) rfl rfl rfl ?_
  refine r_getf (i := 1) (v := 5) (w := 8) (x := (2, 34)) rfl ly33 rfl rfl fun _ => ?_
  refine r_load (i := 2) (u := 0) (w := 2) rfl rfl rfl ?_
  refine r_getf (i := 3) (v := 12) (w := 8) (x := vi (S.f 33 12)) rfl ly33 rfl rfl fun h3 => ?_
  have h3 : Rg (S.f 33 12) := h3
  refine r_load (i := 4) (u := 0) (w := 2) rfl rfl rfl ?_
  refine r_getf (i := 5) (v := 15) (w := 8) (x := vi (S.f 33 15)) rfl ly33 rfl rfl fun h4 => ?_
  have h4 : Rg (S.f 33 15) := h4
  have h5 := hI.bn
  have h6 := hI.br
  refine r_call (i := 6) (u := 7) (v := 33) (w := 0) (b := 0) (na := 771) (C2 := xC33) (as := [(2, 34), vi (S.f 33 12), vi (S.f 33 15)]) (s := []) rfl rfl rfl rfl rfl rfl rfl (sp33_34 (k := S.f 33 12) (b := S.f 33 15) hI ⟨by omega, by omega⟩ ⟨by omega, by omega⟩ (by omega)  (by omega)) (fun r7 S8 hq9 => ?_)
  obtain ⟨rfl, hI10, hF11, hR12⟩ := hq9
  have hF13 := hF.trans hF11 rfl rfl
  have hR14 := hR.trans hR12 rfl
  refine Or.inl ⟨rfl, ?_⟩
  refine r_load (i := 7) (u := 0) (w := 2) rfl rfl rfl ?_
  refine r_getf (i := 8) (v := 5) (w := 8) (x := (2, 34)) rfl ly33 rfl rfl fun _ => ?_
  refine r_load (i := 9) (u := 0) (w := 2) rfl rfl rfl ?_
  have h16 : S8.f 33 13 = S.f 33 13 := hF11.f rfl
  refine r_getf (i := 10) (v := 13) (w := 8) (x := vi (S8.f 33 13)) rfl ly33 rfl rfl fun h17 => ?_
  have h17 : Rg (S8.f 33 13) := h17
  refine r_const (i := 11) (u := 4) (z := 4) rfl rfl ?_
  refine r_isub (i := 12) rfl ?_
  refine r_load (i := 13) (u := 0) (w := 2) rfl rfl rfl ?_
  refine r_getf (i := 14) (v := 5) (w := 8) (x := (2, 34)) rfl ly33 rfl rfl fun _ => ?_
  have h19 := hI10.b1
  have h20 : S8.f 34 1 = S.f 34 1 := hF11.f rfl
  refine r_getf (i := 15) (v := 1) (w := 7) (x := vi (S8.f 34 1)) rfl ly34 rfl rfl fun h21 => ?_
  have h21 : Rg (S8.f 34 1) := h21
  refine r_load (i := 16) (u := 0) (w := 2) rfl rfl rfl ?_
  refine r_getf (i := 17) (v := 13) (w := 8) (x := vi (S8.f 33 13)) rfl ly33 rfl rfl fun h22 => ?_
  have h22 : Rg (S8.f 33 13) := h22
  refine r_isub (i := 18) rfl ?_
  have h23 := hI10.bn
  have h24 := hI10.br
  have h25 : S8.n 0 = S.n 0 := hR12.eq rfl rfl
  have h26 : S8.n 1 = S.n 1 := hR12.eq rfl rfl
  have h27 : S8.n 2 = S.n 2 := hR12.eq rfl rfl
  have h28 : S8.n 3 = S.n 3 := hR12.eq rfl rfl
  have h29 : S8.n 4 = S.n 4 := hR12.eq rfl rfl
  refine r_call (i := 19) (u := 7) (v := 32) (w := 0) (b := 0) (na := 771) (C2 := xC32) (as := [(2, 34), vi ((S8.f 33 13) - 4), vi ((S8.f 34 1) - (S8.f 33 13))]) (s := []) rfl rfl rfl rfl rfl rfl rfl (sp32_34 (k := (S8.f 33 13) - 4) (b := (S8.f 34 1) - (S8.f 33 13)) hI10 ⟨by omega, by omega⟩ ⟨by omega, by omega⟩ (by omega)  (by omega)) (fun r30 S31 hq32 => ?_)
  obtain ⟨rfl, hI33, hF34, hR35⟩ := hq32
  have hF36 := hF13.trans hF34 rfl rfl
  have hR37 := hR14.trans hR35 rfl
  refine Or.inl ⟨rfl, ?_⟩
  have h38 := hI33.b1
  have h39 : S31.f 34 1 = S8.f 34 1 := hF34.f rfl
  have h40 : S8.f 34 1 = S.f 34 1 := hF11.f rfl
  exact r_ret0 (i := 20) rfl ⟨rfl, (by omega), hI33, hF36, hR37⟩
/-- ProxyForge$Writer.endCode -/
theorem sp152 {G : xk} {S : yS} {d : Nat} (hI : yI S) (p_0 : S.f 34 1 + 0 ≤ 60000) (p_1 : 6 ≤ S.f 33 12 ∧ S.f 33 12 + 8 ≤ S.f 34 1 ∧ S.f 33 13 = S.f 33 12 + 8) (hd : 3 ≤ d) : yT xPr G LY xC152 0 [some ((2, 33))] [] S d (fun r S' => r = (0, (0, 0)) ∧ (S.f 34 1 ≤ S'.f 34 1 ∧ S'.f 34 1 ≤ S.f 34 1 + 0) ∧ yI S' ∧ yFr [] [101] S S' ∧ yRm [] S S') := by
  refine yT_pad 0 ?_
  show yT xPr G LY xC152 0 [some ((2, 33))] [] S d _
  obtain ⟨d, rfl⟩ : ∃ q, d = q + 1 := ⟨d - 1, by omega⟩
  have hF : yFr [] [101] S S := yFr.refl S
  have hR : yRm [] S S := yRm.refl S
  have h1 := hI.b1
  refine r_load (i := 0) (u := 0) (w := 2) rfl rfl rfl ?_
  refine r_getf (i := 1) (v := 5) (w := 8) (x := (2, 34)) rfl ly33 rfl rfl fun _ => ?_
  refine r_load (i := 2) (u := 0) (w := 2) rfl rfl rfl ?_
  refine r_getf (i := 3) (v := 12) (w := 8) (x := vi (S.f 33 12)) rfl ly33 rfl rfl fun h3 => ?_
  have h3 : Rg (S.f 33 12) := h3
  refine r_const (i := 4) (u := 4) (z := 4) rfl rfl ?_
  refine r_isub (i := 5) rfl ?_
  refine r_load (i := 6) (u := 0) (w := 2) rfl rfl rfl ?_
  refine r_getf (i := 7) (v := 5) (w := 8) (x := (2, 34)) rfl ly33 rfl rfl fun _ => ?_
  refine r_getf (i := 8) (v := 1) (w := 7) (x := vi (S.f 34 1)) rfl ly34 rfl rfl fun h5 => ?_
  have h5 : Rg (S.f 34 1) := h5
  refine r_load (i := 9) (u := 0) (w := 2) rfl rfl rfl ?_
  refine r_getf (i := 10) (v := 12) (w := 8) (x := vi (S.f 33 12)) rfl ly33 rfl rfl fun h6 => ?_
  have h6 : Rg (S.f 33 12) := h6
  refine r_isub (i := 11) rfl ?_
  have h7 := hI.bn
  have h8 := hI.br
  refine r_call (i := 12) (u := 7) (v := 32) (w := 0) (b := 0) (na := 771) (C2 := xC32) (as := [(2, 34), vi ((S.f 33 12) - 4), vi ((S.f 34 1) - (S.f 33 12))]) (s := []) rfl rfl rfl rfl rfl rfl rfl (sp32_34 (k := (S.f 33 12) - 4) (b := (S.f 34 1) - (S.f 33 12)) hI ⟨by omega, by omega⟩ ⟨by omega, by omega⟩ (by omega)  (by omega)) (fun r9 S10 hq11 => ?_)
  obtain ⟨rfl, hI12, hF13, hR14⟩ := hq11
  have hF15 := hF.trans hF13 rfl rfl
  have hR16 := hR.trans hR14 rfl
  refine Or.inl ⟨rfl, ?_⟩
  have h17 := hI12.b1
  have h18 : S10.f 34 1 = S.f 34 1 := hF13.f rfl
  exact r_ret0 (i := 13) rfl ⟨rfl, (by omega), hI12, hF15, hR16⟩
/-- ProxyForge$Writer.addHandler -/
theorem sp140 {G : xk} {S : yS} {d : Nat} (hI : yI S) {to : Int} (h_to : -2147483648 ≤ to ∧ to ≤ 2147483647) {a0 : Int} (h_a0 : -2147483648 ≤ a0 ∧ a0 ≤ 2147483647) {t : Int} (h_t : 0 ≤ t ∧ t ≤ 19) (p_0 : S.f 31 1 + 32 ≤ 60000) (p_1 : S.f 34 1 + 8 ≤ 60000) (e_PL : PL S) (hd : 7 ≤ d) : yT xPr G LY xC140 0 [some ((2, 33)), some (vi to), some (vi a0), some (vi t)] [] S d (fun r S' => r = (0, (0, 0)) ∧ (S.f 31 1 ≤ S'.f 31 1 ∧ S'.f 31 1 ≤ S.f 31 1 + 32) ∧ (S.f 34 1 ≤ S'.f 34 1 ∧ S'.f 34 1 ≤ S.f 34 1 + 8) ∧ PL S' ∧ yI S' ∧ yFr [(31, 1), (34, 1), (36, 5)] [37, 100, 101, 102, 103, 105] S S' ∧ yRm [0, 1, 2, 3] S S') := by
  refine yT_pad 0 ?_
  show yT xPr G LY xC140 0 [some ((2, 33)), some (vi to), some (vi a0), some (vi t)] [] S d _
  obtain ⟨d, rfl⟩ : ∃ q, d = q + 1 := ⟨d - 1, by omega⟩
  have hF : yFr [(31, 1), (34, 1), (36, 5)] [37, 100, 101, 102, 103, 105] S S := yFr.refl S
  have hR : yRm [0, 1, 2, 3] S S := yRm.refl S
  have h1 := hI.b0
  have h2 := hI.b1
  refine r_load (i := 0) (u := 0) (w := 2) rfl rfl rfl ?_
  refine r_getf (i := 1) (v := 5) (w := 8) (x := (2, 34)) rfl ly33 rfl rfl fun _ => ?_
  refine r_const (i := 2) (u := 0) (z := 0) rfl rfl ?_
  refine r_call (i := 3) (u := 7) (v := 36) (w := 0) (b := 0) (na := 514) (C2 := xC36) (as := [(2, 34), vi 0]) (s := []) rfl rfl rfl rfl rfl rfl rfl (sp36_34 (b := 0) hI ⟨by omega, by omega⟩ (by omega)  (by omega)) (fun r4 S5 hq6 => ?_)
  obtain ⟨rfl, h7, hI8, hF9, hR10⟩ := hq6
  have hF11 := hF.trans hF9 rfl rfl
  have hR12 := hR.trans hR10 rfl
  have e13 := PLx.fr e_PL hF9 hR10 rfl rfl rfl
  have e14 := PTx.fr e_PL hF9 hR10 rfl rfl rfl
  refine Or.inl ⟨rfl, ?_⟩
  refine r_load (i := 4) (u := 0) (w := 2) rfl rfl rfl ?_
  refine r_getf (i := 5) (v := 5) (w := 8) (x := (2, 34)) rfl ly33 rfl rfl fun _ => ?_
  refine r_load (i := 6) (u := 1) (w := 0) rfl rfl rfl ?_
  have h16 := hI8.b1
  refine r_call (i := 7) (u := 7) (v := 36) (w := 0) (b := 0) (na := 514) (C2 := xC36) (as := [(2, 34), vi to]) (s := []) rfl rfl rfl rfl rfl rfl rfl (sp36_34 (b := to) hI8 ⟨by omega, by omega⟩ (by omega)  (by omega)) (fun r17 S18 hq19 => ?_)
  obtain ⟨rfl, h20, hI21, hF22, hR23⟩ := hq19
  have hF24 := hF11.trans hF22 rfl rfl
  have hR25 := hR12.trans hR23 rfl
  have e26 := PLx.fr e13 hF22 hR23 rfl rfl rfl
  have e27 := PTx.fr e14 hF22 hR23 rfl rfl rfl
  refine Or.inl ⟨rfl, ?_⟩
  refine r_load (i := 8) (u := 0) (w := 2) rfl rfl rfl ?_
  refine r_getf (i := 9) (v := 5) (w := 8) (x := (2, 34)) rfl ly33 rfl rfl fun _ => ?_
  refine r_load (i := 10) (u := 2) (w := 0) rfl rfl rfl ?_
  have h29 := hI21.b1
  refine r_call (i := 11) (u := 7) (v := 36) (w := 0) (b := 0) (na := 514) (C2 := xC36) (as := [(2, 34), vi a0]) (s := []) rfl rfl rfl rfl rfl rfl rfl (sp36_34 (b := a0) hI21 ⟨by omega, by omega⟩ (by omega)  (by omega)) (fun r30 S31 hq32 => ?_)
  obtain ⟨rfl, h33, hI34, hF35, hR36⟩ := hq32
  have hF37 := hF24.trans hF35 rfl rfl
  have hR38 := hR25.trans hR36 rfl
  have e39 := PLx.fr e26 hF35 hR36 rfl rfl rfl
  have e40 := PTx.fr e27 hF35 hR36 rfl rfl rfl
  refine Or.inl ⟨rfl, ?_⟩
  refine r_load (i := 12) (u := 0) (w := 2) rfl rfl rfl ?_
  refine r_getf (i := 13) (v := 5) (w := 8) (x := (2, 34)) rfl ly33 rfl rfl fun _ => ?_
  refine r_load (i := 14) (u := 0) (w := 2) rfl rfl rfl ?_
  refine r_getf (i := 15) (v := 6) (w := 8) (x := (2, 36)) rfl ly33 rfl rfl fun _ => ?_
  refine r_load (i := 16) (u := 3) (w := 0) rfl rfl rfl ?_
  have h43 := hI34.b0
  have h44 : S31.f 31 1 = S18.f 31 1 := hF35.f rfl
  have h45 : S18.f 31 1 = S5.f 31 1 := hF22.f rfl
  have h46 : S5.f 31 1 = S.f 31 1 := hF9.f rfl
  refine r_call (i := 17) (u := 9) (v := 89) (w := 0) (b := 0) (na := 770) (C2 := xC89) (as := [(2, 36), vi t]) (s := [(2, 34)]) rfl rfl rfl rfl rfl rfl rfl (sp89 (t := t) hI34 ⟨by omega, by omega⟩ (by omega) e39 (by omega)) (fun r47 S48 hq49 => ?_)
  obtain ⟨z50, rfl, h51, h52, h53, e54, hI55, hF56, hR57⟩ := hq49
  have hF58 := hF37.trans hF56 rfl rfl
  have hR59 := hR38.trans hR57 rfl
  refine Or.inr (Or.inl ⟨rfl, ?_⟩)
  have h60 := hI55.b1
  have h61 : S48.f 34 1 = S31.f 34 1 := hF56.f rfl
  refine r_call (i := 18) (u := 7) (v := 36) (w := 0) (b := 0) (na := 514) (C2 := xC36) (as := [(2, 34), vi z50]) (s := []) rfl rfl rfl rfl rfl rfl rfl (sp36_34 (b := z50) hI55 ⟨by omega, by omega⟩ (by omega)  (by omega)) (fun r62 S63 hq64 => ?_)
  obtain ⟨rfl, h65, hI66, hF67, hR68⟩ := hq64
  have hF69 := hF58.trans hF67 rfl rfl
  have hR70 := hR59.trans hR68 rfl
  have e71 := PLx.fr e54 hF67 hR68 rfl rfl rfl
  have e72 := PTx.fr e54 hF67 hR68 rfl rfl rfl
  refine Or.inl ⟨rfl, ?_⟩
  have h73 := hI66.b0
  have h74 : S63.f 31 1 = S48.f 31 1 := hF67.f rfl
  have h75 := hI66.b1
  exact r_ret0 (i := 19) rfl ⟨rfl, (by omega), (by omega), e71, hI66, hF69, hR70⟩
theorem lp155_18 {G : xk} {d : Nat} {S0 : yS} {m : Int} (h_m : 0 ≤ m ∧ m ≤ 59) {h0 : Int} (h_h0 : 0 ≤ h0 ∧ h0 ≤ 3) {rt : Int} (h_rt : 0 ≤ rt ∧ rt ≤ 70000) (p_0 : S0.f 31 1 + 192 ≤ 60000) (p_1 : S0.f 34 1 + 50 ≤ 60000) (hd : 8 ≤ d + 1) : ∀ (n : Nat), ∀ (S : yS) (hI : yI S) (hF : yFr [(31, 1), (34, 1), (36, 5)] [37, 100, 101, 102, 103, 105] S0 S) (hR : yRm [0, 1, 2, 3] S0 S) (e_PL : PL S) (k : Int) (h_k : 0 ≤ k ∧ k ≤ 3) (q_0 : S0.f 34 1 ≤ S.f 34 1 ∧ S.f 34 1 ≤ S0.f 34 1 + 18 + 8 * k ∧ S0.f 34 1 + 50 ≤ 60000) (q_1 : S0.f 31 1 ≤ S.f 31 1 ∧ S.f 31 1 ≤ S0.f 31 1 + 64 + 32 * k ∧ S0.f 31 1 + 192 ≤ 60000) (hn : 3 - k < (n : Nat)), yT xPr G LY xC155 18 [some ((2, 33)), some (vi m), some (vi h0), some (vi rt), some (vi k)] [] S (d + 1) (fun r S' => r = (0, (0, 0)) ∧ (S0.f 31 1 ≤ S'.f 31 1 ∧ S'.f 31 1 ≤ S0.f 31 1 + 192) ∧ (S0.f 34 1 ≤ S'.f 34 1 ∧ S'.f 34 1 ≤ S0.f 34 1 + 50) ∧ PL S' ∧ yI S' ∧ yFr [(31, 1), (34, 1), (36, 5)] [37, 100, 101, 102, 103, 105] S0 S' ∧ yRm [0, 1, 2, 3] S0 S') := by
  intro n
  induction n with
  | zero => intro S hI hF hR e_PL k h_k q_0 q_1 hn; exact absurd hn (by omega)
  | succ n ih =>
    intro S hI hF hR e_PL k h_k q_0 q_1 hn
    have h1 := hI.b1
    have h2 := hI.b0
    refine r_load (i := 18) (u := 4) (w := 0) rfl rfl rfl ?_
    refine r_load (i := 19) (u := 2) (w := 0) rfl rfl rfl ?_
    refine c_ge (i := 20) (v := 32) rfl ⟨by omega, by omega⟩ ⟨by omega, by omega⟩ (fun h3 => ?_) (fun h4 => ?_)
    · refine r_load (i := 32) (u := 0) (w := 2) rfl rfl rfl ?_
      refine r_load (i := 33) (u := 3) (w := 0) rfl rfl rfl ?_
      refine r_load (i := 34) (u := 3) (w := 0) rfl rfl rfl ?_
      refine r_const (i := 35) (u := 1) (z := 1) rfl rfl ?_
      refine r_iadd (i := 36) rfl ?_
      refine r_const (i := 37) (u := 1) (z := 1) rfl rfl ?_
      refine r_call (i := 38) (u := 8) (v := 140) (w := 0) (b := 0) (na := 1028) (C2 := xC140) (as := [(2, 33), vi rt, vi (rt + 1), vi 1]) (s := []) rfl rfl rfl rfl rfl rfl rfl (sp140 (to := rt) (a0 := rt + 1) (t := 1) hI ⟨by omega, by omega⟩ ⟨by omega, by omega⟩ ⟨by omega, by omega⟩ (by omega) (by omega) e_PL (by omega)) (fun r5 S6 hq7 => ?_)
      obtain ⟨rfl, h8, h9, e10, hI11, hF12, hR13⟩ := hq7
      have hF14 := hF.trans hF12 rfl rfl
      have hR15 := hR.trans hR13 rfl
      refine Or.inl ⟨rfl, ?_⟩
      have h16 := hI11.b0
      have h17 := hI11.b1
      exact r_ret0 (i := 39) rfl ⟨rfl, (by omega), (by omega), e10, hI11, hF14, hR15⟩
    · refine r_load (i := 21) (u := 0) (w := 2) rfl rfl rfl ?_
      refine r_load (i := 22) (u := 3) (w := 0) rfl rfl rfl ?_
      refine r_load (i := 23) (u := 3) (w := 0) rfl rfl rfl ?_
      refine r_load (i := 24) (u := 0) (w := 2) rfl rfl rfl ?_
      refine r_getf (i := 25) (v := 1) (w := 8) (x := (2, 9)) rfl ly33 rfl rfl fun _ => ?_
      refine r_load (i := 26) (u := 1) (w := 0) rfl rfl rfl ?_
      refine r_load (i := 27) (u := 4) (w := 0) rfl rfl rfl ?_
      refine r_call (i := 28) (u := 2) (v := 86) (w := 0) (b := 0) (na := 771) (C2 := xC86) (as := [(2, 9), vi m, vi k]) (s := [vi rt, vi rt, (2, 33)]) rfl rfl rfl rfl rfl rfl rfl (sp86 (m := m) (k := k) hI ⟨by omega, by omega⟩ ⟨by omega, by omega⟩   (by omega)) (fun r19 S20 hq21 => ?_)
      obtain ⟨z22, rfl, h23, h24, h25, rfl⟩ := hq21
      refine Or.inr (Or.inl ⟨rfl, ?_⟩)
      refine r_call (i := 29) (u := 8) (v := 140) (w := 0) (b := 0) (na := 1028) (C2 := xC140) (as := [(2, 33), vi rt, vi rt, vi z22]) (s := []) rfl rfl rfl rfl rfl rfl rfl (sp140 (to := rt) (a0 := rt) (t := z22) hI ⟨by omega, by omega⟩ ⟨by omega, by omega⟩ ⟨by omega, by omega⟩ (by omega) (by omega) e_PL (by omega)) (fun r26 S27 hq28 => ?_)
      obtain ⟨rfl, h29, h30, e31, hI32, hF33, hR34⟩ := hq28
      have hF35 := hF.trans hF33 rfl rfl
      have hR36 := hR.trans hR34 rfl
      refine Or.inl ⟨rfl, ?_⟩
      refine r_iinc (i := 30) (u := 1) (v := 4) (s := 1) (L1 := [some ((2, 33)), some (vi m), some (vi h0), some (vi rt), some (vi (k + 1))]) rfl rfl rfl rfl rfl ?_
      refine r_goto (i := 31) (v := 18) rfl ?_
      have h37 := hI32.b1
      have h38 := hI32.b0
      exact ih S27 hI32 hF35 hR36 e31 (k + 1) ⟨by omega, by omega⟩ (by omega) (by omega) (by omega)
/-- ProxyForge$Writer.handlers -/
theorem sp155 {G : xk} {S : yS} {d : Nat} (hI : yI S) {m : Int} (h_m : 0 ≤ m ∧ m ≤ 59) {h0 : Int} (h_h0 : 0 ≤ h0 ∧ h0 ≤ 3) {rt : Int} (h_rt : 0 ≤ rt ∧ rt ≤ 70000) (p_0 : S.f 31 1 + 192 ≤ 60000) (p_1 : S.f 34 1 + 50 ≤ 60000) (e_PL : PL S) (hd : 8 ≤ d) : yT xPr G LY xC155 0 [some ((2, 33)), some (vi m), some (vi h0), some (vi rt)] [] S d (fun r S' => r = (0, (0, 0)) ∧ (S.f 31 1 ≤ S'.f 31 1 ∧ S'.f 31 1 ≤ S.f 31 1 + 192) ∧ (S.f 34 1 ≤ S'.f 34 1 ∧ S'.f 34 1 ≤ S.f 34 1 + 50) ∧ PL S' ∧ yI S' ∧ yFr [(31, 1), (34, 1), (36, 5)] [37, 100, 101, 102, 103, 105] S S' ∧ yRm [0, 1, 2, 3] S S') := by
  refine yT_pad 1 ?_
  show yT xPr G LY xC155 0 [some ((2, 33)), some (vi m), some (vi h0), some (vi rt), none] [] S d _
  obtain ⟨d, rfl⟩ : ∃ q, d = q + 1 := ⟨d - 1, by omega⟩
  have hF : yFr [(31, 1), (34, 1), (36, 5)] [37, 100, 101, 102, 103, 105] S S := yFr.refl S
  have hR : yRm [0, 1, 2, 3] S S := yRm.refl S
  have h1 := hI.b0
  have h2 := hI.b1
  refine r_load (i := 0) (u := 0) (w := 2) rfl rfl rfl ?_
  refine r_getf (i := 1) (v := 5) (w := 8) (x := (2, 34)) rfl ly33 rfl rfl fun _ => ?_
  refine r_const (i := 2) (u := 3) (z := 3) rfl rfl ?_
  refine r_load (i := 3) (u := 2) (w := 0) rfl rfl rfl ?_
  refine r_iadd (i := 4) rfl ?_
  refine r_call (i := 5) (u := 7) (v := 36) (w := 0) (b := 0) (na := 514) (C2 := xC36) (as := [(2, 34), vi (3 + h0)]) (s := []) rfl rfl rfl rfl rfl rfl rfl (sp36_34 (b := 3 + h0) hI ⟨by omega, by omega⟩ (by omega)  (by omega)) (fun r4 S5 hq6 => ?_)
  obtain ⟨rfl, h7, hI8, hF9, hR10⟩ := hq6
  have hF11 := hF.trans hF9 rfl rfl
  have hR12 := hR.trans hR10 rfl
  have e13 := PLx.fr e_PL hF9 hR10 rfl rfl rfl
  have e14 := PTx.fr e_PL hF9 hR10 rfl rfl rfl
  refine Or.inl ⟨rfl, ?_⟩
  refine r_load (i := 6) (u := 0) (w := 2) rfl rfl rfl ?_
  refine r_load (i := 7) (u := 3) (w := 0) rfl rfl rfl ?_
  refine r_load (i := 8) (u := 3) (w := 0) rfl rfl rfl ?_
  refine r_const (i := 9) (u := 2) (z := 2) rfl rfl ?_
  have h15 := hI8.b0
  have h16 : S5.f 31 1 = S.f 31 1 := hF9.f rfl
  have h17 := hI8.b1
  refine r_call (i := 10) (u := 8) (v := 140) (w := 0) (b := 0) (na := 1028) (C2 := xC140) (as := [(2, 33), vi rt, vi rt, vi 2]) (s := []) rfl rfl rfl rfl rfl rfl rfl (sp140 (to := rt) (a0 := rt) (t := 2) hI8 ⟨by omega, by omega⟩ ⟨by omega, by omega⟩ ⟨by omega, by omega⟩ (by omega) (by omega) e13 (by omega)) (fun r18 S19 hq20 => ?_)
  obtain ⟨rfl, h21, h22, e23, hI24, hF25, hR26⟩ := hq20
  have hF27 := hF11.trans hF25 rfl rfl
  have hR28 := hR12.trans hR26 rfl
  refine Or.inl ⟨rfl, ?_⟩
  refine r_load (i := 11) (u := 0) (w := 2) rfl rfl rfl ?_
  refine r_load (i := 12) (u := 3) (w := 0) rfl rfl rfl ?_
  refine r_load (i := 13) (u := 3) (w := 0) rfl rfl rfl ?_
  refine r_const (i := 14) (u := 3) (z := 3) rfl rfl ?_
  have h29 := hI24.b0
  have h30 := hI24.b1
  refine r_call (i := 15) (u := 8) (v := 140) (w := 0) (b := 0) (na := 1028) (C2 := xC140) (as := [(2, 33), vi rt, vi rt, vi 3]) (s := []) rfl rfl rfl rfl rfl rfl rfl (sp140 (to := rt) (a0 := rt) (t := 3) hI24 ⟨by omega, by omega⟩ ⟨by omega, by omega⟩ ⟨by omega, by omega⟩ (by omega) (by omega) e23 (by omega)) (fun r31 S32 hq33 => ?_)
  obtain ⟨rfl, h34, h35, e36, hI37, hF38, hR39⟩ := hq33
  have hF40 := hF27.trans hF38 rfl rfl
  have hR41 := hR28.trans hR39 rfl
  refine Or.inl ⟨rfl, ?_⟩
  refine r_const (i := 16) (u := 0) (z := 0) rfl rfl ?_
  refine r_store (i := 17) (u := 4) (w := 0) (L1 := [some ((2, 33)), some (vi m), some (vi h0), some (vi rt), some (vi 0)]) rfl rfl rfl rfl ?_
  have h42 := hI37.b1
  have h43 := hI37.b0
  exact lp155_18 h_m h_h0 h_rt p_0 p_1 hd _ S32 hI37 hF40 hR41 e36 0 ⟨by omega, by omega⟩ (by omega) (by omega) (Int.lt_succ_toNat _)
/-- ProxyForge$Writer.stackMap -/
theorem sp170 {G : xk} {S : yS} {d : Nat} (hI : yI S) {h0 : Int} (h_h0 : 0 ≤ h0 ∧ h0 ≤ 70000) (p_0 : S.f 31 1 + 48 ≤ 60000) (p_1 : S.f 34 1 + 20 ≤ 60000) (e_PL : PL S) (hd : 7 ≤ d) : yT xPr G LY xC170 0 [some ((2, 33)), some (vi h0)] [] S d (fun r S' => r = (0, (0, 0)) ∧ (S.f 31 1 ≤ S'.f 31 1 ∧ S'.f 31 1 ≤ S.f 31 1 + 48) ∧ (S.f 34 1 ≤ S'.f 34 1 ∧ S'.f 34 1 ≤ S.f 34 1 + 20) ∧ PL S' ∧ yI S' ∧ yFr [(31, 1), (34, 1), (36, 5)] [37, 100, 101, 102, 103, 105] S S' ∧ yRm [0, 1, 2, 3] S S') := by
  refine yT_pad 2 ?_
  show yT xPr G LY xC170 0 [some ((2, 33)), some (vi h0), none, none] [] S d _
  obtain ⟨d, rfl⟩ : ∃ q, d = q + 1 := ⟨d - 1, by omega⟩
  have hF : yFr [(31, 1), (34, 1), (36, 5)] [37, 100, 101, 102, 103, 105] S S := yFr.refl S
  have hR : yRm [0, 1, 2, 3] S S := yRm.refl S
  have h1 := hI.b0
  have h2 := hI.b1
  refine r_load (i := 0) (u := 0) (w := 2) rfl rfl rfl ?_
  refine r_getf (i := 1) (v := 5) (w := 8) (x := (2, 34)) rfl ly33 rfl rfl fun _ => ?_
  refine r_const (i := 2) (u := 1) (z := 1) rfl rfl ?_
  refine r_call (i := 3) (u := 7) (v := 36) (w := 0) (b := 0) (na := 514) (C2 := xC36) (as := [(2, 34), vi 1]) (s := []) rfl rfl rfl rfl rfl rfl rfl (sp36_34 (b := 1) hI ⟨by omega, by omega⟩ (by omega)  (by omega)) (fun r4 S5 hq6 => ?_)
  obtain ⟨rfl, h7, hI8, hF9, hR10⟩ := hq6
  have hF11 := hF.trans hF9 rfl rfl
  have hR12 := hR.trans hR10 rfl
  have e13 := PLx.fr e_PL hF9 hR10 rfl rfl rfl
  have e14 := PTx.fr e_PL hF9 hR10 rfl rfl rfl
  refine Or.inl ⟨rfl, ?_⟩
  refine r_load (i := 4) (u := 0) (w := 2) rfl rfl rfl ?_
  refine r_getf (i := 5) (v := 5) (w := 8) (x := (2, 34)) rfl ly33 rfl rfl fun _ => ?_
  refine r_load (i := 6) (u := 0) (w := 2) rfl rfl rfl ?_
  refine r_getf (i := 7) (v := 6) (w := 8) (x := (2, 36)) rfl ly33 rfl rfl fun _ => ?_
  refine r_str (i := 8) (v := 37) rfl ?_
  have h17 := slv37
  have h18 := hI8.b0
  have h19 : S5.f 31 1 = S.f 31 1 := hF9.f rfl
  refine r_call (i := 9) (u := 9) (v := 98) (w := 0) (b := 0) (na := 770) (C2 := xC98) (as := [(2, 36), (6, 37)]) (s := [(2, 34)]) rfl rfl rfl rfl rfl rfl rfl (sp98 (s := 37) hI8 ⟨by decide, by decide⟩ (by omega) e13 (by omega)) (fun r20 S21 hq22 => ?_)
  obtain ⟨z23, rfl, h24, h25, h26, e27, hI28, hF29, hR30⟩ := hq22
  have hF31 := hF11.trans hF29 rfl rfl
  have hR32 := hR12.trans hR30 rfl
  refine Or.inr (Or.inl ⟨rfl, ?_⟩)
  have h33 := hI28.b1
  have h34 : S21.f 34 1 = S5.f 34 1 := hF29.f rfl
  refine r_call (i := 10) (u := 7) (v := 36) (w := 0) (b := 0) (na := 514) (C2 := xC36) (as := [(2, 34), vi z23]) (s := []) rfl rfl rfl rfl rfl rfl rfl (sp36_34 (b := z23) hI28 ⟨by omega, by omega⟩ (by omega)  (by omega)) (fun r35 S36 hq37 => ?_)
  obtain ⟨rfl, h38, hI39, hF40, hR41⟩ := hq37
  have hF42 := hF31.trans hF40 rfl rfl
  have hR43 := hR32.trans hR41 rfl
  have e44 := PLx.fr e27 hF40 hR41 rfl rfl rfl
  have e45 := PTx.fr e27 hF40 hR41 rfl rfl rfl
  refine Or.inl ⟨rfl, ?_⟩
  refine r_load (i := 11) (u := 0) (w := 2) rfl rfl rfl ?_
  refine r_getf (i := 12) (v := 6) (w := 8) (x := (2, 36)) rfl ly33 rfl rfl fun _ => ?_
  refine r_const (i := 13) (u := 1) (z := 1) rfl rfl ?_
  have h47 := hI39.b0
  have h48 : S36.f 31 1 = S21.f 31 1 := hF40.f rfl
  refine r_call (i := 14) (u := 9) (v := 89) (w := 0) (b := 0) (na := 770) (C2 := xC89) (as := [(2, 36), vi 1]) (s := []) rfl rfl rfl rfl rfl rfl rfl (sp89 (t := 1) hI39 ⟨by omega, by omega⟩ (by omega) e44 (by omega)) (fun r49 S50 hq51 => ?_)
  obtain ⟨z52, rfl, h53, h54, h55, e56, hI57, hF58, hR59⟩ := hq51
  have hF60 := hF42.trans hF58 rfl rfl
  have hR61 := hR43.trans hR59 rfl
  refine Or.inr (Or.inl ⟨rfl, ?_⟩)
  refine r_store (i := 15) (u := 2) (w := 0) (L1 := [some ((2, 33)), some (vi h0), some (vi z52), none]) rfl rfl rfl rfl ?_
  refine r_load (i := 16) (u := 1) (w := 0) rfl rfl rfl ?_
  refine r_const (i := 17) (u := 63) (z := 63) rfl rfl ?_
  refine c_gt (i := 18) (v := 21) rfl ⟨by omega, by omega⟩ ⟨by omega, by omega⟩ (fun h62 => ?_) (fun h63 => ?_)
  · refine r_const (i := 21) (u := 0) (z := 0) rfl rfl ?_
    refine r_store (i := 22) (u := 3) (w := 0) (L1 := [some ((2, 33)), some (vi h0), some (vi z52), some (vi 0)]) rfl rfl rfl rfl ?_
    refine r_load (i := 23) (u := 0) (w := 2) rfl rfl rfl ?_
    refine r_getf (i := 24) (v := 5) (w := 8) (x := (2, 34)) rfl ly33 rfl rfl fun _ => ?_
    refine r_load (i := 25) (u := 3) (w := 0) rfl rfl rfl ?_
    refine z_eq (i := 26) (v := 29) rfl ⟨by omega, by omega⟩ (fun h65 => ?_) (fun h66 => absurd h66 (by omega))
    refine r_const (i := 29) (u := 12) (z := 12) rfl rfl ?_
    have h67 := hI57.b1
    have h68 : S50.f 34 1 = S36.f 34 1 := hF58.f rfl
    refine r_call (i := 30) (u := 7) (v := 24) (w := 0) (b := 0) (na := 514) (C2 := xC24) (as := [(2, 34), vi 12]) (s := []) rfl rfl rfl rfl rfl rfl rfl (sp24_34 (b := 12) hI57 ⟨by omega, by omega⟩ (by omega)  (by omega)) (fun r69 S70 hq71 => ?_)
    obtain ⟨rfl, h72, hI73, hF74, hR75⟩ := hq71
    have hF76 := hF60.trans hF74 rfl rfl
    have hR77 := hR61.trans hR75 rfl
    have e78 := PLx.fr e56 hF74 hR75 rfl rfl rfl
    have e79 := PTx.fr e56 hF74 hR75 rfl rfl rfl
    refine Or.inl ⟨rfl, ?_⟩
    refine r_load (i := 31) (u := 0) (w := 2) rfl rfl rfl ?_
    refine r_getf (i := 32) (v := 5) (w := 8) (x := (2, 34)) rfl ly33 rfl rfl fun _ => ?_
    refine r_const (i := 33) (u := 2) (z := 2) rfl rfl ?_
    have h81 := hI73.b1
    refine r_call (i := 34) (u := 7) (v := 36) (w := 0) (b := 0) (na := 514) (C2 := xC36) (as := [(2, 34), vi 2]) (s := []) rfl rfl rfl rfl rfl rfl rfl (sp36_34 (b := 2) hI73 ⟨by omega, by omega⟩ (by omega)  (by omega)) (fun r82 S83 hq84 => ?_)
    obtain ⟨rfl, h85, hI86, hF87, hR88⟩ := hq84
    have hF89 := hF76.trans hF87 rfl rfl
    have hR90 := hR77.trans hR88 rfl
    have e91 := PLx.fr e78 hF87 hR88 rfl rfl rfl
    have e92 := PTx.fr e79 hF87 hR88 rfl rfl rfl
    refine Or.inl ⟨rfl, ?_⟩
    refine r_load (i := 35) (u := 3) (w := 0) rfl rfl rfl ?_
    refine z_eq (i := 36) (v := 44) rfl ⟨by omega, by omega⟩ (fun h93 => ?_) (fun h94 => absurd h94 (by omega))
    refine r_load (i := 44) (u := 0) (w := 2) rfl rfl rfl ?_
    refine r_getf (i := 45) (v := 5) (w := 8) (x := (2, 34)) rfl ly33 rfl rfl fun _ => ?_
    refine r_const (i := 46) (u := 247) (z := 247) rfl rfl ?_
    refine r_load (i := 47) (u := 1) (w := 0) rfl rfl rfl ?_
    have h96 := hI86.b1
    refine r_call (i := 48) (u := 7) (v := 35) (w := 0) (b := 0) (na := 771) (C2 := xC35) (as := [(2, 34), vi 247, vi h0]) (s := []) rfl rfl rfl rfl rfl rfl rfl (sp35_34 (b := 247) (c := h0) hI86 ⟨by omega, by omega⟩ ⟨by omega, by omega⟩ (by omega)  (by omega)) (fun r97 S98 hq99 => ?_)
    obtain ⟨rfl, h100, hI101, hF102, hR103⟩ := hq99
    have hF104 := hF89.trans hF102 rfl rfl
    have hR105 := hR90.trans hR103 rfl
    have e106 := PLx.fr e91 hF102 hR103 rfl rfl rfl
    have e107 := PTx.fr e92 hF102 hR103 rfl rfl rfl
    refine Or.inl ⟨rfl, ?_⟩
    refine r_load (i := 49) (u := 0) (w := 2) rfl rfl rfl ?_
    refine r_getf (i := 50) (v := 5) (w := 8) (x := (2, 34)) rfl ly33 rfl rfl fun _ => ?_
    refine r_const (i := 51) (u := 7) (z := 7) rfl rfl ?_
    refine r_load (i := 52) (u := 2) (w := 0) rfl rfl rfl ?_
    have h109 := hI101.b1
    refine r_call (i := 53) (u := 7) (v := 35) (w := 0) (b := 0) (na := 771) (C2 := xC35) (as := [(2, 34), vi 7, vi z52]) (s := []) rfl rfl rfl rfl rfl rfl rfl (sp35_34 (b := 7) (c := z52) hI101 ⟨by omega, by omega⟩ ⟨by omega, by omega⟩ (by omega)  (by omega)) (fun r110 S111 hq112 => ?_)
    obtain ⟨rfl, h113, hI114, hF115, hR116⟩ := hq112
    have hF117 := hF104.trans hF115 rfl rfl
    have hR118 := hR105.trans hR116 rfl
    have e119 := PLx.fr e106 hF115 hR116 rfl rfl rfl
    have e120 := PTx.fr e107 hF115 hR116 rfl rfl rfl
    refine Or.inl ⟨rfl, ?_⟩
    refine r_load (i := 54) (u := 0) (w := 2) rfl rfl rfl ?_
    refine r_getf (i := 55) (v := 5) (w := 8) (x := (2, 34)) rfl ly33 rfl rfl fun _ => ?_
    refine r_const (i := 56) (u := 64) (z := 64) rfl rfl ?_
    have h122 := hI114.b1
    refine r_call (i := 57) (u := 7) (v := 29) (w := 0) (b := 0) (na := 514) (C2 := xC29) (as := [(2, 34), vi 64]) (s := []) rfl rfl rfl rfl rfl rfl rfl (sp29_34 (b := 64) hI114 ⟨by omega, by omega⟩ (by omega)  (by omega)) (fun r123 S124 hq125 => ?_)
    obtain ⟨rfl, h126, hI127, hF128, hR129⟩ := hq125
    have hF130 := hF117.trans hF128 rfl rfl
    have hR131 := hR118.trans hR129 rfl
    have e132 := PLx.fr e119 hF128 hR129 rfl rfl rfl
    have e133 := PTx.fr e120 hF128 hR129 rfl rfl rfl
    refine Or.inl ⟨rfl, ?_⟩
    refine r_load (i := 58) (u := 0) (w := 2) rfl rfl rfl ?_
    refine r_getf (i := 59) (v := 5) (w := 8) (x := (2, 34)) rfl ly33 rfl rfl fun _ => ?_
    refine r_const (i := 60) (u := 7) (z := 7) rfl rfl ?_
    refine r_load (i := 61) (u := 2) (w := 0) rfl rfl rfl ?_
    have h135 := hI127.b1
    refine r_call (i := 62) (u := 7) (v := 35) (w := 0) (b := 0) (na := 771) (C2 := xC35) (as := [(2, 34), vi 7, vi z52]) (s := []) rfl rfl rfl rfl rfl rfl rfl (sp35_34 (b := 7) (c := z52) hI127 ⟨by omega, by omega⟩ ⟨by omega, by omega⟩ (by omega)  (by omega)) (fun r136 S137 hq138 => ?_)
    obtain ⟨rfl, h139, hI140, hF141, hR142⟩ := hq138
    have hF143 := hF130.trans hF141 rfl rfl
    have hR144 := hR131.trans hR142 rfl
    have e145 := PLx.fr e132 hF141 hR142 rfl rfl rfl
    have e146 := PTx.fr e133 hF141 hR142 rfl rfl rfl
    refine Or.inl ⟨rfl, ?_⟩
    have h147 := hI140.b0
    have h148 : S137.f 31 1 = S124.f 31 1 := hF141.f rfl
    have h149 : S124.f 31 1 = S111.f 31 1 := hF128.f rfl
    have h150 : S111.f 31 1 = S98.f 31 1 := hF115.f rfl
    have h151 : S98.f 31 1 = S83.f 31 1 := hF102.f rfl
    have h152 : S83.f 31 1 = S70.f 31 1 := hF87.f rfl
    have h153 : S70.f 31 1 = S50.f 31 1 := hF74.f rfl
    have h154 := hI140.b1
    exact r_ret0 (i := 63) rfl ⟨rfl, (by omega), (by omega), e145, hI140, hF143, hR144⟩
  · refine r_const (i := 19) (u := 1) (z := 1) rfl rfl ?_
    refine r_goto (i := 20) (v := 22) rfl ?_
    refine r_store (i := 22) (u := 3) (w := 0) (L1 := [some ((2, 33)), some (vi h0), some (vi z52), some (vi 1)]) rfl rfl rfl rfl ?_
    refine r_load (i := 23) (u := 0) (w := 2) rfl rfl rfl ?_
    refine r_getf (i := 24) (v := 5) (w := 8) (x := (2, 34)) rfl ly33 rfl rfl fun _ => ?_
    refine r_load (i := 25) (u := 3) (w := 0) rfl rfl rfl ?_
    refine z_eq (i := 26) (v := 29) rfl ⟨by omega, by omega⟩ (fun h156 => absurd h156 (by omega)) (fun h157 => ?_)
    refine r_const (i := 27) (u := 10) (z := 10) rfl rfl ?_
    refine r_goto (i := 28) (v := 30) rfl ?_
    have h158 := hI57.b1
    have h159 : S50.f 34 1 = S36.f 34 1 := hF58.f rfl
    refine r_call (i := 30) (u := 7) (v := 24) (w := 0) (b := 0) (na := 514) (C2 := xC24) (as := [(2, 34), vi 10]) (s := []) rfl rfl rfl rfl rfl rfl rfl (sp24_34 (b := 10) hI57 ⟨by omega, by omega⟩ (by omega)  (by omega)) (fun r160 S161 hq162 => ?_)
    obtain ⟨rfl, h163, hI164, hF165, hR166⟩ := hq162
    have hF167 := hF60.trans hF165 rfl rfl
    have hR168 := hR61.trans hR166 rfl
    have e169 := PLx.fr e56 hF165 hR166 rfl rfl rfl
    have e170 := PTx.fr e56 hF165 hR166 rfl rfl rfl
    refine Or.inl ⟨rfl, ?_⟩
    refine r_load (i := 31) (u := 0) (w := 2) rfl rfl rfl ?_
    refine r_getf (i := 32) (v := 5) (w := 8) (x := (2, 34)) rfl ly33 rfl rfl fun _ => ?_
    refine r_const (i := 33) (u := 2) (z := 2) rfl rfl ?_
    have h172 := hI164.b1
    refine r_call (i := 34) (u := 7) (v := 36) (w := 0) (b := 0) (na := 514) (C2 := xC36) (as := [(2, 34), vi 2]) (s := []) rfl rfl rfl rfl rfl rfl rfl (sp36_34 (b := 2) hI164 ⟨by omega, by omega⟩ (by omega)  (by omega)) (fun r173 S174 hq175 => ?_)
    obtain ⟨rfl, h176, hI177, hF178, hR179⟩ := hq175
    have hF180 := hF167.trans hF178 rfl rfl
    have hR181 := hR168.trans hR179 rfl
    have e182 := PLx.fr e169 hF178 hR179 rfl rfl rfl
    have e183 := PTx.fr e170 hF178 hR179 rfl rfl rfl
    refine Or.inl ⟨rfl, ?_⟩
    refine r_load (i := 35) (u := 3) (w := 0) rfl rfl rfl ?_
    refine z_eq (i := 36) (v := 44) rfl ⟨by omega, by omega⟩ (fun h184 => absurd h184 (by omega)) (fun h185 => ?_)
    refine r_load (i := 37) (u := 0) (w := 2) rfl rfl rfl ?_
    refine r_getf (i := 38) (v := 5) (w := 8) (x := (2, 34)) rfl ly33 rfl rfl fun _ => ?_
    refine r_const (i := 39) (u := 64) (z := 64) rfl rfl ?_
    refine r_load (i := 40) (u := 1) (w := 0) rfl rfl rfl ?_
    refine r_iadd (i := 41) rfl ?_
    have h187 := hI177.b1
    refine r_call (i := 42) (u := 7) (v := 29) (w := 0) (b := 0) (na := 514) (C2 := xC29) (as := [(2, 34), vi (64 + h0)]) (s := []) rfl rfl rfl rfl rfl rfl rfl (sp29_34 (b := 64 + h0) hI177 ⟨by omega, by omega⟩ (by omega)  (by omega)) (fun r188 S189 hq190 => ?_)
    obtain ⟨rfl, h191, hI192, hF193, hR194⟩ := hq190
    have hF195 := hF180.trans hF193 rfl rfl
    have hR196 := hR181.trans hR194 rfl
    have e197 := PLx.fr e182 hF193 hR194 rfl rfl rfl
    have e198 := PTx.fr e183 hF193 hR194 rfl rfl rfl
    refine Or.inl ⟨rfl, ?_⟩
    refine r_goto (i := 43) (v := 49) rfl ?_
    refine r_load (i := 49) (u := 0) (w := 2) rfl rfl rfl ?_
    refine r_getf (i := 50) (v := 5) (w := 8) (x := (2, 34)) rfl ly33 rfl rfl fun _ => ?_
    refine r_const (i := 51) (u := 7) (z := 7) rfl rfl ?_
    refine r_load (i := 52) (u := 2) (w := 0) rfl rfl rfl ?_
    have h200 := hI192.b1
    refine r_call (i := 53) (u := 7) (v := 35) (w := 0) (b := 0) (na := 771) (C2 := xC35) (as := [(2, 34), vi 7, vi z52]) (s := []) rfl rfl rfl rfl rfl rfl rfl (sp35_34 (b := 7) (c := z52) hI192 ⟨by omega, by omega⟩ ⟨by omega, by omega⟩ (by omega)  (by omega)) (fun r201 S202 hq203 => ?_)
    obtain ⟨rfl, h204, hI205, hF206, hR207⟩ := hq203
    have hF208 := hF195.trans hF206 rfl rfl
    have hR209 := hR196.trans hR207 rfl
    have e210 := PLx.fr e197 hF206 hR207 rfl rfl rfl
    have e211 := PTx.fr e198 hF206 hR207 rfl rfl rfl
    refine Or.inl ⟨rfl, ?_⟩
    refine r_load (i := 54) (u := 0) (w := 2) rfl rfl rfl ?_
    refine r_getf (i := 55) (v := 5) (w := 8) (x := (2, 34)) rfl ly33 rfl rfl fun _ => ?_
    refine r_const (i := 56) (u := 64) (z := 64) rfl rfl ?_
    have h213 := hI205.b1
    refine r_call (i := 57) (u := 7) (v := 29) (w := 0) (b := 0) (na := 514) (C2 := xC29) (as := [(2, 34), vi 64]) (s := []) rfl rfl rfl rfl rfl rfl rfl (sp29_34 (b := 64) hI205 ⟨by omega, by omega⟩ (by omega)  (by omega)) (fun r214 S215 hq216 => ?_)
    obtain ⟨rfl, h217, hI218, hF219, hR220⟩ := hq216
    have hF221 := hF208.trans hF219 rfl rfl
    have hR222 := hR209.trans hR220 rfl
    have e223 := PLx.fr e210 hF219 hR220 rfl rfl rfl
    have e224 := PTx.fr e211 hF219 hR220 rfl rfl rfl
    refine Or.inl ⟨rfl, ?_⟩
    refine r_load (i := 58) (u := 0) (w := 2) rfl rfl rfl ?_
    refine r_getf (i := 59) (v := 5) (w := 8) (x := (2, 34)) rfl ly33 rfl rfl fun _ => ?_
    refine r_const (i := 60) (u := 7) (z := 7) rfl rfl ?_
    refine r_load (i := 61) (u := 2) (w := 0) rfl rfl rfl ?_
    have h226 := hI218.b1
    refine r_call (i := 62) (u := 7) (v := 35) (w := 0) (b := 0) (na := 771) (C2 := xC35) (as := [(2, 34), vi 7, vi z52]) (s := []) rfl rfl rfl rfl rfl rfl rfl (sp35_34 (b := 7) (c := z52) hI218 ⟨by omega, by omega⟩ ⟨by omega, by omega⟩ (by omega)  (by omega)) (fun r227 S228 hq229 => ?_)
    obtain ⟨rfl, h230, hI231, hF232, hR233⟩ := hq229
    have hF234 := hF221.trans hF232 rfl rfl
    have hR235 := hR222.trans hR233 rfl
    have e236 := PLx.fr e223 hF232 hR233 rfl rfl rfl
    have e237 := PTx.fr e224 hF232 hR233 rfl rfl rfl
    refine Or.inl ⟨rfl, ?_⟩
    have h238 := hI231.b0
    have h239 : S228.f 31 1 = S215.f 31 1 := hF232.f rfl
    have h240 : S215.f 31 1 = S202.f 31 1 := hF219.f rfl
    have h241 : S202.f 31 1 = S189.f 31 1 := hF206.f rfl
    have h242 : S189.f 31 1 = S174.f 31 1 := hF193.f rfl
    have h243 : S174.f 31 1 = S161.f 31 1 := hF178.f rfl
    have h244 : S161.f 31 1 = S50.f 31 1 := hF165.f rfl
    have h245 := hI231.b1
    exact r_ret0 (i := 63) rfl ⟨rfl, (by omega), (by omega), e236, hI231, hF234, hR235⟩
theorem lp154_21 {G : xk} {d : Nat} {S0 : yS} {m : Int} (h_m : 0 ≤ m ∧ m ≤ 59) {h0 : Int} (h_h0 : 0 ≤ h0 ∧ h0 ≤ 3) (p_0 : S0.f 31 1 + 109 ≤ 60000) (p_1 : S0.f 34 1 + 14 ≤ 60000) (hd : 7 ≤ d + 1) : ∀ (n : Nat), ∀ (S : yS) (hI : yI S) (hF : yFr [(31, 1), (34, 1), (36, 5)] [37, 100, 101, 102, 103, 105] S0 S) (hR : yRm [0, 1, 2, 3] S0 S) (e_PL : PL S) (k : Int) (h_k : 0 ≤ k ∧ k ≤ 3) (q_0 : S0.f 34 1 ≤ S.f 34 1 ∧ S.f 34 1 ≤ S0.f 34 1 + 8 + 2 * k ∧ S0.f 34 1 + 14 ≤ 60000) (q_1 : S0.f 31 1 ≤ S.f 31 1 ∧ S.f 31 1 ≤ S0.f 31 1 + 13 + 32 * k ∧ S0.f 31 1 + 109 ≤ 60000) (hn : 3 - k < (n : Nat)), yT xPr G LY xC154 21 [some ((2, 33)), some (vi m), some (vi h0), some (vi k)] [] S (d + 1) (fun r S' => r = (0, (0, 0)) ∧ (S0.f 31 1 ≤ S'.f 31 1 ∧ S'.f 31 1 ≤ S0.f 31 1 + 109) ∧ (S0.f 34 1 ≤ S'.f 34 1 ∧ S'.f 34 1 ≤ S0.f 34 1 + 14) ∧ PL S' ∧ yI S' ∧ yFr [(31, 1), (34, 1), (36, 5)] [37, 100, 101, 102, 103, 105] S0 S' ∧ yRm [0, 1, 2, 3] S0 S') := by
  intro n
  induction n with
  | zero => intro S hI hF hR e_PL k h_k q_0 q_1 hn; exact absurd hn (by omega)
  | succ n ih =>
    intro S hI hF hR e_PL k h_k q_0 q_1 hn
    have h1 := hI.b1
    have h2 := hI.b0
    refine r_load (i := 21) (u := 3) (w := 0) rfl rfl rfl ?_
    refine r_load (i := 22) (u := 2) (w := 0) rfl rfl rfl ?_
    refine c_ge (i := 23) (v := 37) rfl ⟨by omega, by omega⟩ ⟨by omega, by omega⟩ (fun h3 => ?_) (fun h4 => ?_)
    · exact r_ret0 (i := 37) rfl ⟨rfl, (by omega), (by omega), e_PL, hI, hF, hR⟩
    · refine r_load (i := 24) (u := 0) (w := 2) rfl rfl rfl ?_
      refine r_getf (i := 25) (v := 5) (w := 8) (x := (2, 34)) rfl ly33 rfl rfl fun _ => ?_
      refine r_load (i := 26) (u := 0) (w := 2) rfl rfl rfl ?_
      refine r_getf (i := 27) (v := 6) (w := 8) (x := (2, 36)) rfl ly33 rfl rfl fun _ => ?_
      refine r_load (i := 28) (u := 0) (w := 2) rfl rfl rfl ?_
      refine r_getf (i := 29) (v := 1) (w := 8) (x := (2, 9)) rfl ly33 rfl rfl fun _ => ?_
      refine r_load (i := 30) (u := 1) (w := 0) rfl rfl rfl ?_
      refine r_load (i := 31) (u := 3) (w := 0) rfl rfl rfl ?_
      refine r_call (i := 32) (u := 2) (v := 86) (w := 0) (b := 0) (na := 771) (C2 := xC86) (as := [(2, 9), vi m, vi k]) (s := [(2, 36), (2, 34)]) rfl rfl rfl rfl rfl rfl rfl (sp86 (m := m) (k := k) hI ⟨by omega, by omega⟩ ⟨by omega, by omega⟩   (by omega)) (fun r8 S9 hq10 => ?_)
      obtain ⟨z11, rfl, h12, h13, h14, rfl⟩ := hq10
      refine Or.inr (Or.inl ⟨rfl, ?_⟩)
      refine r_call (i := 33) (u := 9) (v := 89) (w := 0) (b := 0) (na := 770) (C2 := xC89) (as := [(2, 36), vi z11]) (s := [(2, 34)]) rfl rfl rfl rfl rfl rfl rfl (sp89 (t := z11) hI ⟨by omega, by omega⟩ (by omega) e_PL (by omega)) (fun r15 S16 hq17 => ?_)
      obtain ⟨z18, rfl, h19, h20, h21, e22, hI23, hF24, hR25⟩ := hq17
      have hF26 := hF.trans hF24 rfl rfl
      have hR27 := hR.trans hR25 rfl
      refine Or.inr (Or.inl ⟨rfl, ?_⟩)
      have h28 := hI23.b1
      have h29 : S16.f 34 1 = S.f 34 1 := hF24.f rfl
      refine r_call (i := 34) (u := 7) (v := 36) (w := 0) (b := 0) (na := 514) (C2 := xC36) (as := [(2, 34), vi z18]) (s := []) rfl rfl rfl rfl rfl rfl rfl (sp36_34 (b := z18) hI23 ⟨by omega, by omega⟩ (by omega)  (by omega)) (fun r30 S31 hq32 => ?_)
      obtain ⟨rfl, h33, hI34, hF35, hR36⟩ := hq32
      have hF37 := hF26.trans hF35 rfl rfl
      have hR38 := hR27.trans hR36 rfl
      have e39 := PLx.fr e22 hF35 hR36 rfl rfl rfl
      have e40 := PTx.fr e22 hF35 hR36 rfl rfl rfl
      refine Or.inl ⟨rfl, ?_⟩
      refine r_iinc (i := 35) (u := 1) (v := 3) (s := 1) (L1 := [some ((2, 33)), some (vi m), some (vi h0), some (vi (k + 1))]) rfl rfl rfl rfl rfl ?_
      refine r_goto (i := 36) (v := 21) rfl ?_
      have h41 := hI34.b1
      have h42 := hI34.b0
      have h43 : S31.f 31 1 = S16.f 31 1 := hF35.f rfl
      exact ih S31 hI34 hF37 hR38 e39 (k + 1) ⟨by omega, by omega⟩ (by omega) (by omega) (by omega)
/-- ProxyForge$Writer.exceptions -/
theorem sp154 {G : xk} {S : yS} {d : Nat} (hI : yI S) {m : Int} (h_m : 0 ≤ m ∧ m ≤ 59) {h0 : Int} (h_h0 : 0 ≤ h0 ∧ h0 ≤ 3) (p_0 : S.f 31 1 + 109 ≤ 60000) (p_1 : S.f 34 1 + 14 ≤ 60000) (e_PL : PL S) (hd : 7 ≤ d) : yT xPr G LY xC154 0 [some ((2, 33)), some (vi m), some (vi h0)] [] S d (fun r S' => r = (0, (0, 0)) ∧ (S.f 31 1 ≤ S'.f 31 1 ∧ S'.f 31 1 ≤ S.f 31 1 + 109) ∧ (S.f 34 1 ≤ S'.f 34 1 ∧ S'.f 34 1 ≤ S.f 34 1 + 14) ∧ PL S' ∧ yI S' ∧ yFr [(31, 1), (34, 1), (36, 5)] [37, 100, 101, 102, 103, 105] S S' ∧ yRm [0, 1, 2, 3] S S') := by
  refine yT_pad 1 ?_
  show yT xPr G LY xC154 0 [some ((2, 33)), some (vi m), some (vi h0), none] [] S d _
  obtain ⟨d, rfl⟩ : ∃ q, d = q + 1 := ⟨d - 1, by omega⟩
  have hF : yFr [(31, 1), (34, 1), (36, 5)] [37, 100, 101, 102, 103, 105] S S := yFr.refl S
  have hR : yRm [0, 1, 2, 3] S S := yRm.refl S
  have h1 := hI.b0
  have h2 := hI.b1
  refine r_load (i := 0) (u := 0) (w := 2) rfl rfl rfl ?_
  refine r_getf (i := 1) (v := 5) (w := 8) (x := (2, 34)) rfl ly33 rfl rfl fun _ => ?_
  refine r_load (i := 2) (u := 0) (w := 2) rfl rfl rfl ?_
  refine r_getf (i := 3) (v := 6) (w := 8) (x := (2, 36)) rfl ly33 rfl rfl fun _ => ?_
  refine r_str (i := 4) (v := 38) rfl ?_
  have h5 := slv38
  refine r_call (i := 5) (u := 9) (v := 98) (w := 0) (b := 0) (na := 770) (C2 := xC98) (as := [(2, 36), (6, 38)]) (s := [(2, 34)]) rfl rfl rfl rfl rfl rfl rfl (sp98 (s := 38) hI ⟨by decide, by decide⟩ (by omega) e_PL (by omega)) (fun r6 S7 hq8 => ?_)
  obtain ⟨z9, rfl, h10, h11, h12, e13, hI14, hF15, hR16⟩ := hq8
  have hF17 := hF.trans hF15 rfl rfl
  have hR18 := hR.trans hR16 rfl
  refine Or.inr (Or.inl ⟨rfl, ?_⟩)
  have h19 := hI14.b1
  have h20 : S7.f 34 1 = S.f 34 1 := hF15.f rfl
  refine r_call (i := 6) (u := 7) (v := 36) (w := 0) (b := 0) (na := 514) (C2 := xC36) (as := [(2, 34), vi z9]) (s := []) rfl rfl rfl rfl rfl rfl rfl (sp36_34 (b := z9) hI14 ⟨by omega, by omega⟩ (by omega)  (by omega)) (fun r21 S22 hq23 => ?_)
  obtain ⟨rfl, h24, hI25, hF26, hR27⟩ := hq23
  have hF28 := hF17.trans hF26 rfl rfl
  have hR29 := hR18.trans hR27 rfl
  have e30 := PLx.fr e13 hF26 hR27 rfl rfl rfl
  have e31 := PTx.fr e13 hF26 hR27 rfl rfl rfl
  refine Or.inl ⟨rfl, ?_⟩
  refine r_load (i := 7) (u := 0) (w := 2) rfl rfl rfl ?_
  refine r_getf (i := 8) (v := 5) (w := 8) (x := (2, 34)) rfl ly33 rfl rfl fun _ => ?_
  refine r_const (i := 9) (u := 2) (z := 2) rfl rfl ?_
  refine r_const (i := 10) (u := 2) (z := 2) rfl rfl ?_
  refine r_load (i := 11) (u := 2) (w := 0) rfl rfl rfl ?_
  refine r_imul (i := 12) rfl ?_
  refine r_iadd (i := 13) rfl ?_
  have h33 := hI25.b1
  refine r_call (i := 14) (u := 7) (v := 24) (w := 0) (b := 0) (na := 514) (C2 := xC24) (as := [(2, 34), vi (2 + (2 * h0))]) (s := []) rfl rfl rfl rfl rfl rfl rfl (sp24_34 (b := 2 + (2 * h0)) hI25 ⟨by omega, by omega⟩ (by omega)  (by omega)) (fun r34 S35 hq36 => ?_)
  obtain ⟨rfl, h37, hI38, hF39, hR40⟩ := hq36
  have hF41 := hF28.trans hF39 rfl rfl
  have hR42 := hR29.trans hR40 rfl
  have e43 := PLx.fr e30 hF39 hR40 rfl rfl rfl
  have e44 := PTx.fr e31 hF39 hR40 rfl rfl rfl
  refine Or.inl ⟨rfl, ?_⟩
  refine r_load (i := 15) (u := 0) (w := 2) rfl rfl rfl ?_
  refine r_getf (i := 16) (v := 5) (w := 8) (x := (2, 34)) rfl ly33 rfl rfl fun _ => ?_
  refine r_load (i := 17) (u := 2) (w := 0) rfl rfl rfl ?_
  have h46 := hI38.b1
  refine r_call (i := 18) (u := 7) (v := 36) (w := 0) (b := 0) (na := 514) (C2 := xC36) (as := [(2, 34), vi h0]) (s := []) rfl rfl rfl rfl rfl rfl rfl (sp36_34 (b := h0) hI38 ⟨by omega, by omega⟩ (by omega)  (by omega)) (fun r47 S48 hq49 => ?_)
  obtain ⟨rfl, h50, hI51, hF52, hR53⟩ := hq49
  have hF54 := hF41.trans hF52 rfl rfl
  have hR55 := hR42.trans hR53 rfl
  have e56 := PLx.fr e43 hF52 hR53 rfl rfl rfl
  have e57 := PTx.fr e44 hF52 hR53 rfl rfl rfl
  refine Or.inl ⟨rfl, ?_⟩
  refine r_const (i := 19) (u := 0) (z := 0) rfl rfl ?_
  refine r_store (i := 20) (u := 3) (w := 0) (L1 := [some ((2, 33)), some (vi m), some (vi h0), some (vi 0)]) rfl rfl rfl rfl ?_
  have h58 := hI51.b1
  have h59 := hI51.b0
  have h60 : S48.f 31 1 = S35.f 31 1 := hF52.f rfl
  have h61 : S35.f 31 1 = S22.f 31 1 := hF39.f rfl
  have h62 : S22.f 31 1 = S7.f 31 1 := hF26.f rfl
  exact lp154_21 h_m h_h0 p_0 p_1 hd _ S48 hI51 hF54 hR55 e56 0 ⟨by omega, by omega⟩ (by omega) (by omega) (Int.lt_succ_toNat _)
/-- ProxyForge$Writer.askNumbered -/
theorem sp141 {G : xk} {S : yS} {d : Nat} (hI : yI S) {k : Int} (h_k : 0 ≤ k ∧ k ≤ 23) {s : Nat} (h_s : yStr s) (p_0 : S.f 31 1 + (64 + slen s) ≤ 60000) (p_1 : S.f 34 1 + 11 ≤ 60000) (e_PL : PL S) (hd : 8 ≤ d) : yT xPr G LY xC141 0 [some ((2, 33)), some (vi k), some ((6, s))] [] S d (fun r S' => r = (0, (0, 0)) ∧ (S.f 31 1 ≤ S'.f 31 1 ∧ S'.f 31 1 ≤ S.f 31 1 + (64 + slen s)) ∧ (S.f 34 1 ≤ S'.f 34 1 ∧ S'.f 34 1 ≤ S.f 34 1 + 11) ∧ PL S' ∧ yI S' ∧ yFr [(31, 1), (33, 14), (33, 15), (34, 1), (36, 5)] [37, 100, 101, 102, 103, 105] S S' ∧ yRm [0, 1, 2, 3] S S') := by
  refine yT_pad 0 ?_
  show yT xPr G LY xC141 0 [some ((2, 33)), some (vi k), some ((6, s))] [] S d _
  obtain ⟨d, rfl⟩ : ∃ q, d = q + 1 := ⟨d - 1, by omega⟩
  have hF : yFr [(31, 1), (33, 14), (33, 15), (34, 1), (36, 5)] [37, 100, 101, 102, 103, 105] S S := yFr.refl S
  have hR : yRm [0, 1, 2, 3] S S := yRm.refl S
  have h1 := hI.b0
  have h2 := hI.b1
  have sl9 := slen_le h_s
  refine r_load (i := 0) (u := 0) (w := 2) rfl rfl rfl ?_
  refine r_const (i := 1) (u := 42) (z := 42) rfl rfl ?_
  refine r_const (i := 2) (u := 1) (z := 1) rfl rfl ?_
  refine r_call (i := 3) (u := 8) (v := 163) (w := 0) (b := 0) (na := 771) (C2 := xC163) (as := [(2, 33), vi 42, vi 1]) (s := []) rfl rfl rfl rfl rfl rfl rfl (sp163 (c := 42) (e := 1) hI ⟨by omega, by omega⟩ ⟨by omega, by omega⟩ (by omega)  (by omega)) (fun r3 S4 hq5 => ?_)
  obtain ⟨rfl, h6, hI7, hF8, hR9⟩ := hq5
  have hF10 := hF.trans hF8 rfl rfl
  have hR11 := hR.trans hR9 rfl
  have e12 := PLx.fr e_PL hF8 hR9 rfl rfl rfl
  have e13 := PTx.fr e_PL hF8 hR9 rfl rfl rfl
  refine Or.inl ⟨rfl, ?_⟩
  refine r_load (i := 4) (u := 0) (w := 2) rfl rfl rfl ?_
  refine r_const (i := 5) (u := 180) (z := 180) rfl rfl ?_
  refine r_load (i := 6) (u := 0) (w := 2) rfl rfl rfl ?_
  have h14 := hI7.b0
  have h15 : S4.f 31 1 = S.f 31 1 := hF8.f rfl
  refine r_call (i := 7) (u := 8) (v := 146) (w := 0) (b := 0) (na := 257) (C2 := xC146) (as := [(2, 33)]) (s := [vi 180, (2, 33)]) rfl rfl rfl rfl rfl rfl rfl (sp146  hI7  (by omega) e12 (by omega)) (fun r16 S17 hq18 => ?_)
  obtain ⟨z19, rfl, h20, h21, h22, e23, hI24, hF25, hR26⟩ := hq18
  have hF27 := hF10.trans hF25 rfl rfl
  have hR28 := hR11.trans hR26 rfl
  refine Or.inr (Or.inl ⟨rfl, ?_⟩)
  refine r_const (i := 8) (u := 0) (z := 0) rfl rfl ?_
  have h29 := hI24.b1
  have h30 : S17.f 34 1 = S4.f 34 1 := hF25.f rfl
  refine r_call (i := 9) (u := 8) (v := 165) (w := 0) (b := 0) (na := 1028) (C2 := xC165) (as := [(2, 33), vi 180, vi z19, vi 0]) (s := []) rfl rfl rfl rfl rfl rfl rfl (sp165 (c := 180) (o := z19) (e := 0) hI24 ⟨by omega, by omega⟩ ⟨by omega, by omega⟩ ⟨by omega, by omega⟩ (by omega)  (by omega)) (fun r31 S32 hq33 => ?_)
  obtain ⟨rfl, h34, hI35, hF36, hR37⟩ := hq33
  have hF38 := hF27.trans hF36 rfl rfl
  have hR39 := hR28.trans hR37 rfl
  have e40 := PLx.fr e23 hF36 hR37 rfl rfl rfl
  have e41 := PTx.fr e23 hF36 hR37 rfl rfl rfl
  refine Or.inl ⟨rfl, ?_⟩
  refine r_load (i := 10) (u := 0) (w := 2) rfl rfl rfl ?_
  refine r_load (i := 11) (u := 1) (w := 0) rfl rfl rfl ?_
  have h42 := hI35.b1
  refine r_call (i := 12) (u := 8) (v := 168) (w := 0) (b := 0) (na := 514) (C2 := xC168) (as := [(2, 33), vi k]) (s := []) rfl rfl rfl rfl rfl rfl rfl (sp168 (k := k) hI35 ⟨by omega, by omega⟩ (by omega)  (by omega)) (fun r43 S44 hq45 => ?_)
  obtain ⟨rfl, h46, hI47, hF48, hR49⟩ := hq45
  have hF50 := hF38.trans hF48 rfl rfl
  have hR51 := hR39.trans hR49 rfl
  have e52 := PLx.fr e40 hF48 hR49 rfl rfl rfl
  have e53 := PTx.fr e41 hF48 hR49 rfl rfl rfl
  refine Or.inl ⟨rfl, ?_⟩
  refine r_load (i := 13) (u := 0) (w := 2) rfl rfl rfl ?_
  refine r_const (i := 14) (u := 185) (z := 185) rfl rfl ?_
  refine r_load (i := 15) (u := 0) (w := 2) rfl rfl rfl ?_
  refine r_const (i := 16) (u := 11) (z := 11) rfl rfl ?_
  refine r_str (i := 17) (v := 22) rfl ?_
  have h54 := slv22
  refine r_load (i := 18) (u := 2) (w := 2) rfl rfl rfl ?_
  refine r_str (i := 19) (v := 32) rfl ?_
  have h55 := slv32
  have h56 := hI47.b0
  have h57 : S44.f 31 1 = S32.f 31 1 := hF48.f rfl
  have h58 : S32.f 31 1 = S17.f 31 1 := hF36.f rfl
  refine r_call (i := 20) (u := 8) (v := 160) (w := 0) (b := 0) (na := 2053) (C2 := xC160) (as := [(2, 33), vi 11, (6, 22), (6, s), (6, 32)]) (s := [vi 185, (2, 33)]) rfl rfl rfl rfl rfl rfl rfl (sp160 (w0 := 11) (s := 22) (s2 := s) (s3 := 32) hI47 ⟨by omega, by omega⟩ ⟨by decide, by decide⟩ h_s ⟨by decide, by decide⟩ (by omega) e52 (by omega)) (fun r59 S60 hq61 => ?_)
  obtain ⟨z62, rfl, h63, h64, h65, e66, hI67, hF68, hR69⟩ := hq61
  have hF70 := hF50.trans hF68 rfl rfl
  have hR71 := hR51.trans hR69 rfl
  refine Or.inr (Or.inl ⟨rfl, ?_⟩)
  refine r_const (i := 21) (u := 4294967295) (z := -1) rfl rfl ?_
  have h72 := hI67.b1
  have h73 : S60.f 34 1 = S44.f 34 1 := hF68.f rfl
  refine r_call (i := 22) (u := 8) (v := 165) (w := 0) (b := 0) (na := 1028) (C2 := xC165) (as := [(2, 33), vi 185, vi z62, vi (-1)]) (s := []) rfl rfl rfl rfl rfl rfl rfl (sp165 (c := 185) (o := z62) (e := -1) hI67 ⟨by omega, by omega⟩ ⟨by omega, by omega⟩ ⟨by omega, by omega⟩ (by omega)  (by omega)) (fun r74 S75 hq76 => ?_)
  obtain ⟨rfl, h77, hI78, hF79, hR80⟩ := hq76
  have hF81 := hF70.trans hF79 rfl rfl
  have hR82 := hR71.trans hR80 rfl
  have e83 := PLx.fr e66 hF79 hR80 rfl rfl rfl
  have e84 := PTx.fr e66 hF79 hR80 rfl rfl rfl
  refine Or.inl ⟨rfl, ?_⟩
  refine r_load (i := 23) (u := 0) (w := 2) rfl rfl rfl ?_
  refine r_getf (i := 24) (v := 5) (w := 8) (x := (2, 34)) rfl ly33 rfl rfl fun _ => ?_
  refine r_const (i := 25) (u := 2) (z := 2) rfl rfl ?_
  have h86 := hI78.b1
  refine r_call (i := 26) (u := 7) (v := 29) (w := 0) (b := 0) (na := 514) (C2 := xC29) (as := [(2, 34), vi 2]) (s := []) rfl rfl rfl rfl rfl rfl rfl (sp29_34 (b := 2) hI78 ⟨by omega, by omega⟩ (by omega)  (by omega)) (fun r87 S88 hq89 => ?_)
  obtain ⟨rfl, h90, hI91, hF92, hR93⟩ := hq89
  have hF94 := hF81.trans hF92 rfl rfl
  have hR95 := hR82.trans hR93 rfl
  have e96 := PLx.fr e83 hF92 hR93 rfl rfl rfl
  have e97 := PTx.fr e84 hF92 hR93 rfl rfl rfl
  refine Or.inl ⟨rfl, ?_⟩
  refine r_load (i := 27) (u := 0) (w := 2) rfl rfl rfl ?_
  refine r_getf (i := 28) (v := 5) (w := 8) (x := (2, 34)) rfl ly33 rfl rfl fun _ => ?_
  refine r_const (i := 29) (u := 0) (z := 0) rfl rfl ?_
  have h99 := hI91.b1
  refine r_call (i := 30) (u := 7) (v := 29) (w := 0) (b := 0) (na := 514) (C2 := xC29) (as := [(2, 34), vi 0]) (s := []) rfl rfl rfl rfl rfl rfl rfl (sp29_34 (b := 0) hI91 ⟨by omega, by omega⟩ (by omega)  (by omega)) (fun r100 S101 hq102 => ?_)
  obtain ⟨rfl, h103, hI104, hF105, hR106⟩ := hq102
  have hF107 := hF94.trans hF105 rfl rfl
  have hR108 := hR95.trans hR106 rfl
  have e109 := PLx.fr e96 hF105 hR106 rfl rfl rfl
  have e110 := PTx.fr e97 hF105 hR106 rfl rfl rfl
  refine Or.inl ⟨rfl, ?_⟩
  have h111 := hI104.b0
  have h112 : S101.f 31 1 = S88.f 31 1 := hF105.f rfl
  have h113 : S88.f 31 1 = S75.f 31 1 := hF92.f rfl
  have h114 : S75.f 31 1 = S60.f 31 1 := hF79.f rfl
  have h115 := hI104.b1
  exact r_ret0 (i := 31) rfl ⟨rfl, (by omega), (by omega), e109, hI104, hF107, hR108⟩
/-- ProxyForge$Writer.unboxed -/
theorem sp172 {G : xk} {S : yS} {d : Nat} (hI : yI S) {k : Int} (h_k : 0 ≤ k ∧ k ≤ 23) (p_0 : S.f 31 1 + 77 ≤ 60000) (p_1 : S.f 34 1 + 7 ≤ 60000) (e_PL : PL S) (hd : 8 ≤ d) : yT xPr G LY xC172 0 [some ((2, 33)), some (vi k)] [] S d (fun r S' => r = (0, (0, 0)) ∧ (S.f 31 1 ≤ S'.f 31 1 ∧ S'.f 31 1 ≤ S.f 31 1 + 77) ∧ (S.f 34 1 ≤ S'.f 34 1 ∧ S'.f 34 1 ≤ S.f 34 1 + 7) ∧ PL S' ∧ yI S' ∧ yFr [(31, 1), (33, 14), (33, 15), (34, 1), (36, 5)] [37, 100, 101, 102, 103, 105] S S' ∧ yRm [0, 1, 2, 3] S S') := by
  refine yT_pad 2 ?_
  show yT xPr G LY xC172 0 [some ((2, 33)), some (vi k), none, none] [] S d _
  obtain ⟨d, rfl⟩ : ∃ q, d = q + 1 := ⟨d - 1, by omega⟩
  have hF : yFr [(31, 1), (33, 14), (33, 15), (34, 1), (36, 5)] [37, 100, 101, 102, 103, 105] S S := yFr.refl S
  have hR : yRm [0, 1, 2, 3] S S := yRm.refl S
  have h1 := hI.b0
  have h2 := hI.b1
  refine r_load (i := 0) (u := 1) (w := 0) rfl rfl rfl ?_
  refine z_ne (i := 1) (v := 7) rfl ⟨by omega, by omega⟩ (fun h3 => ?_) (fun h4 => ?_)
  · refine r_load (i := 7) (u := 1) (w := 0) rfl rfl rfl ?_
    refine r_const (i := 8) (u := 4) (z := 4) rfl rfl ?_
    refine c_lt (i := 9) (v := 16) rfl ⟨by omega, by omega⟩ ⟨by omega, by omega⟩ (fun h5 => ?_) (fun h6 => ?_)
    · refine r_load (i := 16) (u := 1) (w := 0) rfl rfl rfl ?_
      refine r_call (i := 17) (u := 65535) (v := 64) (w := 0) (b := 2) (na := 257) (C2 := xC64) (as := [vi k]) (s := []) rfl rfl rfl rfl rfl rfl rfl (sp64 (k := k) hI ⟨by omega, by omega⟩   (by omega)) (fun r7 S8 hq9 => ?_)
      obtain ⟨z10, rfl, h_z10, h12, rfl⟩ := hq9
      refine Or.inr (Or.inl ⟨rfl, ?_⟩)
      refine r_store (i := 18) (u := 2) (w := 2) (L1 := [some ((2, 33)), some (vi k), some ((6, z10)), none]) rfl rfl rfl rfl ?_
      refine r_load (i := 19) (u := 0) (w := 2) rfl rfl rfl ?_
      refine r_const (i := 20) (u := 192) (z := 192) rfl rfl ?_
      refine r_load (i := 21) (u := 0) (w := 2) rfl rfl rfl ?_
      refine r_getf (i := 22) (v := 6) (w := 8) (x := (2, 36)) rfl ly33 rfl rfl fun _ => ?_
      refine r_const (i := 23) (u := 7) (z := 7) rfl rfl ?_
      refine r_load (i := 24) (u := 0) (w := 2) rfl rfl rfl ?_
      refine r_getf (i := 25) (v := 6) (w := 8) (x := (2, 36)) rfl ly33 rfl rfl fun _ => ?_
      refine r_load (i := 26) (u := 2) (w := 2) rfl rfl rfl ?_
      refine r_call (i := 27) (u := 9) (v := 98) (w := 0) (b := 0) (na := 770) (C2 := xC98) (as := [(2, 36), (6, z10)]) (s := [vi 7, (2, 36), vi 192, (2, 33)]) rfl rfl rfl rfl rfl rfl rfl (sp98 (s := z10) hI h_z10 (by omega) e_PL (by omega)) (fun r15 S16 hq17 => ?_)
      obtain ⟨z18, rfl, h19, h20, h21, e22, hI23, hF24, hR25⟩ := hq17
      have hF26 := hF.trans hF24 rfl rfl
      have hR27 := hR.trans hR25 rfl
      refine Or.inr (Or.inl ⟨rfl, ?_⟩)
      have h28 := hI23.b0
      refine r_call (i := 28) (u := 9) (v := 97) (w := 0) (b := 0) (na := 1027) (C2 := xC97) (as := [(2, 36), vi 7, vi z18]) (s := [vi 192, (2, 33)]) rfl rfl rfl rfl rfl rfl rfl (sp97 (w0 := 7) (v := z18) hI23 ⟨by omega, by omega⟩ ⟨by omega, by omega⟩ (by omega) e22 (by omega)) (fun r29 S30 hq31 => ?_)
      obtain ⟨z32, rfl, h33, h34, h35, e36, hI37, hF38, hR39⟩ := hq31
      have hF40 := hF26.trans hF38 rfl rfl
      have hR41 := hR27.trans hR39 rfl
      refine Or.inr (Or.inl ⟨rfl, ?_⟩)
      refine r_const (i := 29) (u := 0) (z := 0) rfl rfl ?_
      have h42 := hI37.b1
      have h43 : S30.f 34 1 = S16.f 34 1 := hF38.f rfl
      have h44 : S16.f 34 1 = S.f 34 1 := hF24.f rfl
      refine r_call (i := 30) (u := 8) (v := 165) (w := 0) (b := 0) (na := 1028) (C2 := xC165) (as := [(2, 33), vi 192, vi z32, vi 0]) (s := []) rfl rfl rfl rfl rfl rfl rfl (sp165 (c := 192) (o := z32) (e := 0) hI37 ⟨by omega, by omega⟩ ⟨by omega, by omega⟩ ⟨by omega, by omega⟩ (by omega)  (by omega)) (fun r45 S46 hq47 => ?_)
      obtain ⟨rfl, h48, hI49, hF50, hR51⟩ := hq47
      have hF52 := hF40.trans hF50 rfl rfl
      have hR53 := hR41.trans hR51 rfl
      have e54 := PLx.fr e36 hF50 hR51 rfl rfl rfl
      have e55 := PTx.fr e36 hF50 hR51 rfl rfl rfl
      refine Or.inl ⟨rfl, ?_⟩
      refine r_load (i := 31) (u := 0) (w := 2) rfl rfl rfl ?_
      refine r_const (i := 32) (u := 10) (z := 10) rfl rfl ?_
      refine r_load (i := 33) (u := 2) (w := 2) rfl rfl rfl ?_
      refine r_load (i := 34) (u := 1) (w := 0) rfl rfl rfl ?_
      refine r_call (i := 35) (u := 65535) (v := 69) (w := 0) (b := 2) (na := 257) (C2 := xC69) (as := [vi k]) (s := [(6, z10), vi 10, (2, 33)]) rfl rfl rfl rfl rfl rfl rfl (sp69 (k := k) hI49 ⟨by omega, by omega⟩   (by omega)) (fun r56 S57 hq58 => ?_)
      obtain ⟨z59, rfl, h_z59, h61, rfl⟩ := hq58
      refine Or.inr (Or.inl ⟨rfl, ?_⟩)
      refine r_load (i := 36) (u := 1) (w := 0) rfl rfl rfl ?_
      refine r_call (i := 37) (u := 65535) (v := 68) (w := 0) (b := 2) (na := 257) (C2 := xC68) (as := [vi k]) (s := [(6, z59), (6, z10), vi 10, (2, 33)]) rfl rfl rfl rfl rfl rfl rfl (sp68 (k := k) hI49 ⟨by omega, by omega⟩   (by omega)) (fun r62 S63 hq64 => ?_)
      obtain ⟨z65, rfl, h_z65, h67, rfl⟩ := hq64
      refine Or.inr (Or.inl ⟨rfl, ?_⟩)
      have h68 := hI49.b0
      have h69 : S46.f 31 1 = S30.f 31 1 := hF50.f rfl
      refine r_call (i := 38) (u := 8) (v := 160) (w := 0) (b := 0) (na := 2053) (C2 := xC160) (as := [(2, 33), vi 10, (6, z10), (6, z59), (6, z65)]) (s := []) rfl rfl rfl rfl rfl rfl rfl (sp160 (w0 := 10) (s := z10) (s2 := z59) (s3 := z65) hI49 ⟨by omega, by omega⟩ h_z10 h_z59 h_z65 (by omega) e54 (by omega)) (fun r70 S71 hq72 => ?_)
      obtain ⟨z73, rfl, h74, h75, h76, e77, hI78, hF79, hR80⟩ := hq72
      have hF81 := hF52.trans hF79 rfl rfl
      have hR82 := hR53.trans hR80 rfl
      refine Or.inr (Or.inl ⟨rfl, ?_⟩)
      refine r_store (i := 39) (u := 3) (w := 0) (L1 := [some ((2, 33)), some (vi k), some ((6, z10)), some (vi z73)]) rfl rfl rfl rfl ?_
      refine r_load (i := 40) (u := 0) (w := 2) rfl rfl rfl ?_
      refine r_const (i := 41) (u := 182) (z := 182) rfl rfl ?_
      refine r_load (i := 42) (u := 3) (w := 0) rfl rfl rfl ?_
      refine r_load (i := 43) (u := 1) (w := 0) rfl rfl rfl ?_
      refine r_call (i := 44) (u := 65535) (v := 70) (w := 0) (b := 2) (na := 257) (C2 := xC70) (as := [vi k]) (s := [vi z73, vi 182, (2, 33)]) rfl rfl rfl rfl rfl rfl rfl (sp70 (k := k) hI78 ⟨by omega, by omega⟩   (by omega)) (fun r83 S84 hq85 => ?_)
      obtain ⟨z86, rfl, h87, h88, rfl⟩ := hq85
      refine Or.inr (Or.inl ⟨rfl, ?_⟩)
      refine r_const (i := 45) (u := 1) (z := 1) rfl rfl ?_
      refine r_isub (i := 46) rfl ?_
      have h89 := hI78.b1
      have h90 : S71.f 34 1 = S46.f 34 1 := hF79.f rfl
      refine r_call (i := 47) (u := 8) (v := 165) (w := 0) (b := 0) (na := 1028) (C2 := xC165) (as := [(2, 33), vi 182, vi z73, vi (z86 - 1)]) (s := []) rfl rfl rfl rfl rfl rfl rfl (sp165 (c := 182) (o := z73) (e := z86 - 1) hI78 ⟨by omega, by omega⟩ ⟨by omega, by omega⟩ ⟨by omega, by omega⟩ (by omega)  (by omega)) (fun r91 S92 hq93 => ?_)
      obtain ⟨rfl, h94, hI95, hF96, hR97⟩ := hq93
      have hF98 := hF81.trans hF96 rfl rfl
      have hR99 := hR82.trans hR97 rfl
      have e100 := PLx.fr e77 hF96 hR97 rfl rfl rfl
      have e101 := PTx.fr e77 hF96 hR97 rfl rfl rfl
      refine Or.inl ⟨rfl, ?_⟩
      refine r_load (i := 48) (u := 0) (w := 2) rfl rfl rfl ?_
      refine r_load (i := 49) (u := 1) (w := 0) rfl rfl rfl ?_
      have h102 := hI95.b1
      refine r_call (i := 50) (u := 8) (v := 157) (w := 0) (b := 0) (na := 770) (C2 := xC157) (as := [(2, 33), vi k]) (s := []) rfl rfl rfl rfl rfl rfl rfl (sp157 (k := k) hI95 ⟨by omega, by omega⟩ (by omega)  (by omega)) (fun r103 S104 hq105 => ?_)
      obtain ⟨rfl, h106, hI107, hF108, hR109⟩ := hq105
      have hF110 := hF98.trans hF108 rfl rfl
      have hR111 := hR99.trans hR109 rfl
      have e112 := PLx.fr e100 hF108 hR109 rfl rfl rfl
      have e113 := PTx.fr e101 hF108 hR109 rfl rfl rfl
      refine Or.inl ⟨rfl, ?_⟩
      have h114 := hI107.b0
      have h115 : S104.f 31 1 = S92.f 31 1 := hF108.f rfl
      have h116 : S92.f 31 1 = S71.f 31 1 := hF96.f rfl
      have h117 := hI107.b1
      exact r_ret0 (i := 51) rfl ⟨rfl, (by omega), (by omega), e112, hI107, hF110, hR111⟩
    · refine r_load (i := 10) (u := 0) (w := 2) rfl rfl rfl ?_
      refine r_load (i := 11) (u := 1) (w := 0) rfl rfl rfl ?_
      refine r_const (i := 12) (u := 4) (z := 4) rfl rfl ?_
      refine r_isub (i := 13) rfl ?_
      refine r_call (i := 14) (u := 8) (v := 147) (w := 0) (b := 0) (na := 514) (C2 := xC147) (as := [(2, 33), vi (k - 4)]) (s := []) rfl rfl rfl rfl rfl rfl rfl (sp147 (t := k - 4) hI ⟨by omega, by omega⟩ (by omega) (by omega) e_PL (by omega)) (fun r118 S119 hq120 => ?_)
      obtain ⟨rfl, h121, h122, e123, hI124, hF125, hR126⟩ := hq120
      have hF127 := hF.trans hF125 rfl rfl
      have hR128 := hR.trans hR126 rfl
      refine Or.inl ⟨rfl, ?_⟩
      refine r_goto (i := 15) (v := 48) rfl ?_
      refine r_load (i := 48) (u := 0) (w := 2) rfl rfl rfl ?_
      refine r_load (i := 49) (u := 1) (w := 0) rfl rfl rfl ?_
      have h129 := hI124.b1
      refine r_call (i := 50) (u := 8) (v := 157) (w := 0) (b := 0) (na := 770) (C2 := xC157) (as := [(2, 33), vi k]) (s := []) rfl rfl rfl rfl rfl rfl rfl (sp157 (k := k) hI124 ⟨by omega, by omega⟩ (by omega)  (by omega)) (fun r130 S131 hq132 => ?_)
      obtain ⟨rfl, h133, hI134, hF135, hR136⟩ := hq132
      have hF137 := hF127.trans hF135 rfl rfl
      have hR138 := hR128.trans hR136 rfl
      have e139 := PLx.fr e123 hF135 hR136 rfl rfl rfl
      have e140 := PTx.fr e123 hF135 hR136 rfl rfl rfl
      refine Or.inl ⟨rfl, ?_⟩
      have h141 := hI134.b0
      have h142 : S131.f 31 1 = S119.f 31 1 := hF135.f rfl
      have h143 := hI134.b1
      exact r_ret0 (i := 51) rfl ⟨rfl, (by omega), (by omega), e139, hI134, hF137, hR138⟩
  · refine r_load (i := 2) (u := 0) (w := 2) rfl rfl rfl ?_
    refine r_const (i := 3) (u := 87) (z := 87) rfl rfl ?_
    refine r_const (i := 4) (u := 4294967295) (z := -1) rfl rfl ?_
    refine r_call (i := 5) (u := 8) (v := 163) (w := 0) (b := 0) (na := 771) (C2 := xC163) (as := [(2, 33), vi 87, vi (-1)]) (s := []) rfl rfl rfl rfl rfl rfl rfl (sp163 (c := 87) (e := -1) hI ⟨by omega, by omega⟩ ⟨by omega, by omega⟩ (by omega)  (by omega)) (fun r144 S145 hq146 => ?_)
    obtain ⟨rfl, h147, hI148, hF149, hR150⟩ := hq146
    have hF151 := hF.trans hF149 rfl rfl
    have hR152 := hR.trans hR150 rfl
    have e153 := PLx.fr e_PL hF149 hR150 rfl rfl rfl
    have e154 := PTx.fr e_PL hF149 hR150 rfl rfl rfl
    refine Or.inl ⟨rfl, ?_⟩
    refine r_goto (i := 6) (v := 48) rfl ?_
    refine r_load (i := 48) (u := 0) (w := 2) rfl rfl rfl ?_
    refine r_load (i := 49) (u := 1) (w := 0) rfl rfl rfl ?_
    have h155 := hI148.b1
    refine r_call (i := 50) (u := 8) (v := 157) (w := 0) (b := 0) (na := 770) (C2 := xC157) (as := [(2, 33), vi k]) (s := []) rfl rfl rfl rfl rfl rfl rfl (sp157 (k := k) hI148 ⟨by omega, by omega⟩ (by omega)  (by omega)) (fun r156 S157 hq158 => ?_)
    obtain ⟨rfl, h159, hI160, hF161, hR162⟩ := hq158
    have hF163 := hF151.trans hF161 rfl rfl
    have hR164 := hR152.trans hR162 rfl
    have e165 := PLx.fr e153 hF161 hR162 rfl rfl rfl
    have e166 := PTx.fr e154 hF161 hR162 rfl rfl rfl
    refine Or.inl ⟨rfl, ?_⟩
    have h167 := hI160.b0
    have h168 : S157.f 31 1 = S145.f 31 1 := hF161.f rfl
    have h169 : S145.f 31 1 = S.f 31 1 := hF149.f rfl
    have h170 := hI160.b1
    exact r_ret0 (i := 51) rfl ⟨rfl, (by omega), (by omega), e165, hI160, hF163, hR164⟩
/-- ProxyForge$Writer.rethrow -/
theorem sp169 {G : xk} {S : yS} {d : Nat} (hI : yI S) {l0 : Int} (h_l0 : 0 ≤ l0 ∧ l0 ≤ 20) (p_0 : S.f 31 1 + 150 ≤ 60000) (p_1 : S.f 34 1 + 13 ≤ 60000) (e_PL : PL S) (hd : 8 ≤ d) : yT xPr G LY xC169 0 [some ((2, 33)), some (vi l0)] [] S d (fun r S' => r = (0, (0, 0)) ∧ (S.f 31 1 ≤ S'.f 31 1 ∧ S'.f 31 1 ≤ S.f 31 1 + 150) ∧ (S.f 34 1 ≤ S'.f 34 1 ∧ S'.f 34 1 ≤ S.f 34 1 + 13) ∧ PL S' ∧ yI S' ∧ yFr [(31, 1), (33, 14), (33, 15), (34, 1), (36, 5)] [37, 100, 101, 102, 103, 105] S S' ∧ yRm [0, 1, 2, 3] S S') := by
  refine yT_pad 0 ?_
  show yT xPr G LY xC169 0 [some ((2, 33)), some (vi l0)] [] S d _
  obtain ⟨d, rfl⟩ : ∃ q, d = q + 1 := ⟨d - 1, by omega⟩
  have hF : yFr [(31, 1), (33, 14), (33, 15), (34, 1), (36, 5)] [37, 100, 101, 102, 103, 105] S S := yFr.refl S
  have hR : yRm [0, 1, 2, 3] S S := yRm.refl S
  have h1 := hI.b0
  have h2 := hI.b1
  refine r_load (i := 0) (u := 0) (w := 2) rfl rfl rfl ?_
  refine r_const (i := 1) (u := 1) (z := 1) rfl rfl ?_
  rw [vi_sg (1)]
  have h3 := ysg_rg (1)
  refine r_putI (i := 2) (v := 14) (w := 8) rfl ly33 rfl ⟨by omega, by omega⟩ ?_
  have hI5 := hI.setf0 (b := 33) (w := 14) (z := ysg 1) rfl rfl
  have hF7 := hF.setf (b := 33) (w := 14) (z := ysg 1) rfl
  have hR8 := hR.setf (b := 33) (w := 14) (z := ysg 1)
  have e9 := PLx.setf e_PL (b := 33) (w := 14) (z := ysg 1) rfl
  have e10 := PTx.setf e_PL (b := 33) (w := 14) (z := ysg 1) rfl
  refine yT_gen (fun S4 hS6 => ?_)
  rw [hS6] at hI5 hF7 hR8 e9 e10
  refine r_load (i := 3) (u := 0) (w := 2) rfl rfl rfl ?_
  refine r_const (i := 4) (u := 191) (z := 191) rfl rfl ?_
  refine r_const (i := 5) (u := 4294967295) (z := -1) rfl rfl ?_
  have h11 := hI5.b1
  have h12 : S4.f 34 1 = S.f 34 1 := by rw [← hS6]; exact ysf_ne (by decide)
  refine r_call (i := 6) (u := 8) (v := 163) (w := 0) (b := 0) (na := 771) (C2 := xC163) (as := [(2, 33), vi 191, vi (-1)]) (s := []) rfl rfl rfl rfl rfl rfl rfl (sp163 (c := 191) (e := -1) hI5 ⟨by omega, by omega⟩ ⟨by omega, by omega⟩ (by omega)  (by omega)) (fun r13 S14 hq15 => ?_)
  obtain ⟨rfl, h16, hI17, hF18, hR19⟩ := hq15
  have hF20 := hF7.trans hF18 rfl rfl
  have hR21 := hR8.trans hR19 rfl
  have e22 := PLx.fr e9 hF18 hR19 rfl rfl rfl
  have e23 := PTx.fr e10 hF18 hR19 rfl rfl rfl
  refine Or.inl ⟨rfl, ?_⟩
  refine r_load (i := 7) (u := 0) (w := 2) rfl rfl rfl ?_
  refine r_const (i := 8) (u := 1) (z := 1) rfl rfl ?_
  rw [vi_sg (1)]
  have h24 := ysg_rg (1)
  refine r_putI (i := 9) (v := 14) (w := 8) rfl ly33 rfl ⟨by omega, by omega⟩ ?_
  have hI26 := hI17.setf0 (b := 33) (w := 14) (z := ysg 1) rfl rfl
  have hF28 := hF20.setf (b := 33) (w := 14) (z := ysg 1) rfl
  have hR29 := hR21.setf (b := 33) (w := 14) (z := ysg 1)
  have e30 := PLx.setf e22 (b := 33) (w := 14) (z := ysg 1) rfl
  have e31 := PTx.setf e23 (b := 33) (w := 14) (z := ysg 1) rfl
  refine yT_gen (fun S25 hS27 => ?_)
  rw [hS27] at hI26 hF28 hR29 e30 e31
  refine r_load (i := 10) (u := 0) (w := 2) rfl rfl rfl ?_
  refine r_const (i := 11) (u := 58) (z := 58) rfl rfl ?_
  refine r_load (i := 12) (u := 1) (w := 0) rfl rfl rfl ?_
  refine r_const (i := 13) (u := 4294967295) (z := -1) rfl rfl ?_
  have h32 := hI26.b1
  have h33 : S25.f 34 1 = S14.f 34 1 := by rw [← hS27]; exact ysf_ne (by decide)
  refine r_call (i := 14) (u := 8) (v := 164) (w := 0) (b := 0) (na := 1028) (C2 := xC164) (as := [(2, 33), vi 58, vi l0, vi (-1)]) (s := []) rfl rfl rfl rfl rfl rfl rfl (sp164 (c := 58) (o := l0) (e := -1) hI26 ⟨by omega, by omega⟩ ⟨by omega, by omega⟩ ⟨by omega, by omega⟩ (by omega)  (by omega)) (fun r34 S35 hq36 => ?_)
  obtain ⟨rfl, h37, hI38, hF39, hR40⟩ := hq36
  have hF41 := hF28.trans hF39 rfl rfl
  have hR42 := hR29.trans hR40 rfl
  have e43 := PLx.fr e30 hF39 hR40 rfl rfl rfl
  have e44 := PTx.fr e31 hF39 hR40 rfl rfl rfl
  refine Or.inl ⟨rfl, ?_⟩
  refine r_load (i := 15) (u := 0) (w := 2) rfl rfl rfl ?_
  refine r_const (i := 16) (u := 187) (z := 187) rfl rfl ?_
  refine r_load (i := 17) (u := 0) (w := 2) rfl rfl rfl ?_
  refine r_getf (i := 18) (v := 6) (w := 8) (x := (2, 36)) rfl ly33 rfl rfl fun _ => ?_
  refine r_const (i := 19) (u := 7) (z := 7) rfl rfl ?_
  refine r_load (i := 20) (u := 0) (w := 2) rfl rfl rfl ?_
  refine r_getf (i := 21) (v := 6) (w := 8) (x := (2, 36)) rfl ly33 rfl rfl fun _ => ?_
  refine r_str (i := 22) (v := 34) rfl ?_
  have h47 := slv34
  have h48 := hI38.b0
  have h49 : S35.f 31 1 = S25.f 31 1 := hF39.f rfl
  have h50 : S25.f 31 1 = S14.f 31 1 := by rw [← hS27]; exact ysf_ne (by decide)
  have h51 : S14.f 31 1 = S4.f 31 1 := hF18.f rfl
  have h52 : S4.f 31 1 = S.f 31 1 := by rw [← hS6]; exact ysf_ne (by decide)
  refine r_call (i := 23) (u := 9) (v := 98) (w := 0) (b := 0) (na := 770) (C2 := xC98) (as := [(2, 36), (6, 34)]) (s := [vi 7, (2, 36), vi 187, (2, 33)]) rfl rfl rfl rfl rfl rfl rfl (sp98 (s := 34) hI38 ⟨by decide, by decide⟩ (by omega) e43 (by omega)) (fun r53 S54 hq55 => ?_)
  obtain ⟨z56, rfl, h57, h58, h59, e60, hI61, hF62, hR63⟩ := hq55
  have hF64 := hF41.trans hF62 rfl rfl
  have hR65 := hR42.trans hR63 rfl
  refine Or.inr (Or.inl ⟨rfl, ?_⟩)
  have h66 := hI61.b0
  refine r_call (i := 24) (u := 9) (v := 97) (w := 0) (b := 0) (na := 1027) (C2 := xC97) (as := [(2, 36), vi 7, vi z56]) (s := [vi 187, (2, 33)]) rfl rfl rfl rfl rfl rfl rfl (sp97 (w0 := 7) (v := z56) hI61 ⟨by omega, by omega⟩ ⟨by omega, by omega⟩ (by omega) e60 (by omega)) (fun r67 S68 hq69 => ?_)
  obtain ⟨z70, rfl, h71, h72, h73, e74, hI75, hF76, hR77⟩ := hq69
  have hF78 := hF64.trans hF76 rfl rfl
  have hR79 := hR65.trans hR77 rfl
  refine Or.inr (Or.inl ⟨rfl, ?_⟩)
  refine r_const (i := 25) (u := 1) (z := 1) rfl rfl ?_
  have h80 := hI75.b1
  have h81 : S68.f 34 1 = S54.f 34 1 := hF76.f rfl
  have h82 : S54.f 34 1 = S35.f 34 1 := hF62.f rfl
  refine r_call (i := 26) (u := 8) (v := 165) (w := 0) (b := 0) (na := 1028) (C2 := xC165) (as := [(2, 33), vi 187, vi z70, vi 1]) (s := []) rfl rfl rfl rfl rfl rfl rfl (sp165 (c := 187) (o := z70) (e := 1) hI75 ⟨by omega, by omega⟩ ⟨by omega, by omega⟩ ⟨by omega, by omega⟩ (by omega)  (by omega)) (fun r83 S84 hq85 => ?_)
  obtain ⟨rfl, h86, hI87, hF88, hR89⟩ := hq85
  have hF90 := hF78.trans hF88 rfl rfl
  have hR91 := hR79.trans hR89 rfl
  have e92 := PLx.fr e74 hF88 hR89 rfl rfl rfl
  have e93 := PTx.fr e74 hF88 hR89 rfl rfl rfl
  refine Or.inl ⟨rfl, ?_⟩
  refine r_load (i := 27) (u := 0) (w := 2) rfl rfl rfl ?_
  refine r_const (i := 28) (u := 89) (z := 89) rfl rfl ?_
  refine r_const (i := 29) (u := 1) (z := 1) rfl rfl ?_
  have h94 := hI87.b1
  refine r_call (i := 30) (u := 8) (v := 163) (w := 0) (b := 0) (na := 771) (C2 := xC163) (as := [(2, 33), vi 89, vi 1]) (s := []) rfl rfl rfl rfl rfl rfl rfl (sp163 (c := 89) (e := 1) hI87 ⟨by omega, by omega⟩ ⟨by omega, by omega⟩ (by omega)  (by omega)) (fun r95 S96 hq97 => ?_)
  obtain ⟨rfl, h98, hI99, hF100, hR101⟩ := hq97
  have hF102 := hF90.trans hF100 rfl rfl
  have hR103 := hR91.trans hR101 rfl
  have e104 := PLx.fr e92 hF100 hR101 rfl rfl rfl
  have e105 := PTx.fr e93 hF100 hR101 rfl rfl rfl
  refine Or.inl ⟨rfl, ?_⟩
  refine r_load (i := 31) (u := 0) (w := 2) rfl rfl rfl ?_
  refine r_const (i := 32) (u := 25) (z := 25) rfl rfl ?_
  refine r_load (i := 33) (u := 1) (w := 0) rfl rfl rfl ?_
  refine r_const (i := 34) (u := 1) (z := 1) rfl rfl ?_
  have h106 := hI99.b1
  refine r_call (i := 35) (u := 8) (v := 164) (w := 0) (b := 0) (na := 1028) (C2 := xC164) (as := [(2, 33), vi 25, vi l0, vi 1]) (s := []) rfl rfl rfl rfl rfl rfl rfl (sp164 (c := 25) (o := l0) (e := 1) hI99 ⟨by omega, by omega⟩ ⟨by omega, by omega⟩ ⟨by omega, by omega⟩ (by omega)  (by omega)) (fun r107 S108 hq109 => ?_)
  obtain ⟨rfl, h110, hI111, hF112, hR113⟩ := hq109
  have hF114 := hF102.trans hF112 rfl rfl
  have hR115 := hR103.trans hR113 rfl
  have e116 := PLx.fr e104 hF112 hR113 rfl rfl rfl
  have e117 := PTx.fr e105 hF112 hR113 rfl rfl rfl
  refine Or.inl ⟨rfl, ?_⟩
  refine r_load (i := 36) (u := 0) (w := 2) rfl rfl rfl ?_
  refine r_const (i := 37) (u := 183) (z := 183) rfl rfl ?_
  refine r_load (i := 38) (u := 0) (w := 2) rfl rfl rfl ?_
  refine r_const (i := 39) (u := 10) (z := 10) rfl rfl ?_
  refine r_str (i := 40) (v := 34) rfl ?_
  have h118 := slv34
  refine r_str (i := 41) (v := 35) rfl ?_
  have h119 := slv35
  refine r_str (i := 42) (v := 36) rfl ?_
  have h120 := slv36
  have h121 := hI111.b0
  have h122 : S108.f 31 1 = S96.f 31 1 := hF112.f rfl
  have h123 : S96.f 31 1 = S84.f 31 1 := hF100.f rfl
  have h124 : S84.f 31 1 = S68.f 31 1 := hF88.f rfl
  refine r_call (i := 43) (u := 8) (v := 160) (w := 0) (b := 0) (na := 2053) (C2 := xC160) (as := [(2, 33), vi 10, (6, 34), (6, 35), (6, 36)]) (s := [vi 183, (2, 33)]) rfl rfl rfl rfl rfl rfl rfl (sp160 (w0 := 10) (s := 34) (s2 := 35) (s3 := 36) hI111 ⟨by omega, by omega⟩ ⟨by decide, by decide⟩ ⟨by decide, by decide⟩ ⟨by decide, by decide⟩ (by omega) e116 (by omega)) (fun r125 S126 hq127 => ?_)
  obtain ⟨z128, rfl, h129, h130, h131, e132, hI133, hF134, hR135⟩ := hq127
  have hF136 := hF114.trans hF134 rfl rfl
  have hR137 := hR115.trans hR135 rfl
  refine Or.inr (Or.inl ⟨rfl, ?_⟩)
  refine r_const (i := 44) (u := 4294967294) (z := -2) rfl rfl ?_
  have h138 := hI133.b1
  have h139 : S126.f 34 1 = S108.f 34 1 := hF134.f rfl
  refine r_call (i := 45) (u := 8) (v := 165) (w := 0) (b := 0) (na := 1028) (C2 := xC165) (as := [(2, 33), vi 183, vi z128, vi (-2)]) (s := []) rfl rfl rfl rfl rfl rfl rfl (sp165 (c := 183) (o := z128) (e := -2) hI133 ⟨by omega, by omega⟩ ⟨by omega, by omega⟩ ⟨by omega, by omega⟩ (by omega)  (by omega)) (fun r140 S141 hq142 => ?_)
  obtain ⟨rfl, h143, hI144, hF145, hR146⟩ := hq142
  have hF147 := hF136.trans hF145 rfl rfl
  have hR148 := hR137.trans hR146 rfl
  have e149 := PLx.fr e132 hF145 hR146 rfl rfl rfl
  have e150 := PTx.fr e132 hF145 hR146 rfl rfl rfl
  refine Or.inl ⟨rfl, ?_⟩
  refine r_load (i := 46) (u := 0) (w := 2) rfl rfl rfl ?_
  refine r_const (i := 47) (u := 191) (z := 191) rfl rfl ?_
  refine r_const (i := 48) (u := 4294967295) (z := -1) rfl rfl ?_
  have h151 := hI144.b1
  refine r_call (i := 49) (u := 8) (v := 163) (w := 0) (b := 0) (na := 771) (C2 := xC163) (as := [(2, 33), vi 191, vi (-1)]) (s := []) rfl rfl rfl rfl rfl rfl rfl (sp163 (c := 191) (e := -1) hI144 ⟨by omega, by omega⟩ ⟨by omega, by omega⟩ (by omega)  (by omega)) (fun r152 S153 hq154 => ?_)
  obtain ⟨rfl, h155, hI156, hF157, hR158⟩ := hq154
  have hF159 := hF147.trans hF157 rfl rfl
  have hR160 := hR148.trans hR158 rfl
  have e161 := PLx.fr e149 hF157 hR158 rfl rfl rfl
  have e162 := PTx.fr e150 hF157 hR158 rfl rfl rfl
  refine Or.inl ⟨rfl, ?_⟩
  have h163 := hI156.b0
  have h164 : S153.f 31 1 = S141.f 31 1 := hF157.f rfl
  have h165 : S141.f 31 1 = S126.f 31 1 := hF145.f rfl
  have h166 := hI156.b1
  exact r_ret0 (i := 50) rfl ⟨rfl, (by omega), (by omega), e161, hI156, hF159, hR160⟩
/-- ProxyForge$Writer.head -/
theorem sp156 {G : xk} {S : yS} {d : Nat} (hI : yI S) {m : Int} (h_m : 0 ≤ m ∧ m ≤ 59) {mo : Int} (h_mo : 0 ≤ mo ∧ mo ≤ 100) {s : Nat} (h_s : yStr s) {at0 : Int} (h_at0 : -2147483648 ≤ at0 ∧ at0 ≤ 2147483647) (p_0 : S.f 31 1 + (154 + slen s) ≤ 60000) (p_1 : S.f 34 1 + 8 ≤ 60000) (e_PL : PL S) (hd : 8 ≤ d) : yT xPr G LY xC156 0 [some ((2, 33)), some (vi m), some (vi mo), some ((6, s)), some (vi at0)] [] S d (fun r S' => r = (0, (0, 0)) ∧ (S.f 31 1 ≤ S'.f 31 1 ∧ S'.f 31 1 ≤ S.f 31 1 + (154 + slen s)) ∧ (S.f 34 1 ≤ S'.f 34 1 ∧ S'.f 34 1 ≤ S.f 34 1 + 8) ∧ PL S' ∧ yI S' ∧ yFr [(31, 1), (33, 10), (33, 11), (34, 1), (36, 5)] [37, 100, 101, 102, 103, 105] S S' ∧ yRm [0, 1, 2, 3] S S') := by
  refine yT_pad 1 ?_
  show yT xPr G LY xC156 0 [some ((2, 33)), some (vi m), some (vi mo), some ((6, s)), some (vi at0), none] [] S d _
  obtain ⟨d, rfl⟩ : ∃ q, d = q + 1 := ⟨d - 1, by omega⟩
  have hF : yFr [(31, 1), (33, 10), (33, 11), (34, 1), (36, 5)] [37, 100, 101, 102, 103, 105] S S := yFr.refl S
  have hR : yRm [0, 1, 2, 3] S S := yRm.refl S
  have h1 := hI.b0
  have h2 := hI.b1
  have sl9 := slen_le h_s
  refine r_load (i := 0) (u := 0) (w := 2) rfl rfl rfl ?_
  refine r_getf (i := 1) (v := 1) (w := 8) (x := (2, 9)) rfl ly33 rfl rfl fun _ => ?_
  refine r_load (i := 2) (u := 1) (w := 0) rfl rfl rfl ?_
  refine r_const (i := 3) (u := 1) (z := 1) rfl rfl ?_
  have h4 := hI.a ta12 m.toNat
  have h5 := hI.a ta12 m.toNat
  refine r_call (i := 4) (u := 2) (v := 76) (w := 0) (b := 0) (na := 771) (C2 := xC76) (as := [(2, 9), vi m, vi 1]) (s := []) rfl rfl rfl rfl rfl rfl rfl (sp76 (m := m) (fl := 1) hI ⟨by omega, by omega⟩ ⟨by omega, by omega⟩   (by omega)) (fun r6 S7 hq8 => ?_)
  obtain ⟨z9, rfl, h10, h11, h12, h13, rfl⟩ := hq8
  refine Or.inr (Or.inl ⟨rfl, ?_⟩)
  refine z_eq (i := 5) (v := 8) rfl ⟨by omega, by omega⟩ (fun h14 => ?_) (fun h15 => ?_)
  · refine r_const (i := 8) (u := 0) (z := 0) rfl rfl ?_
    refine r_store (i := 9) (u := 5) (w := 0) (L1 := [some ((2, 33)), some (vi m), some (vi mo), some ((6, s)), some (vi at0), some (vi 0)]) rfl rfl rfl rfl ?_
    refine r_load (i := 10) (u := 0) (w := 2) rfl rfl rfl ?_
    refine r_getf (i := 11) (v := 1) (w := 8) (x := (2, 9)) rfl ly33 rfl rfl fun _ => ?_
    refine r_load (i := 12) (u := 1) (w := 0) rfl rfl rfl ?_
    refine r_const (i := 13) (u := 2) (z := 2) rfl rfl ?_
    have h17 := hI.a ta12 m.toNat
    have h18 := hI.a ta12 m.toNat
    refine r_call (i := 14) (u := 2) (v := 76) (w := 0) (b := 0) (na := 771) (C2 := xC76) (as := [(2, 9), vi m, vi 2]) (s := []) rfl rfl rfl rfl rfl rfl rfl (sp76 (m := m) (fl := 2) hI ⟨by omega, by omega⟩ ⟨by omega, by omega⟩   (by omega)) (fun r19 S20 hq21 => ?_)
    obtain ⟨z22, rfl, h23, h24, h25, h26, rfl⟩ := hq21
    refine Or.inr (Or.inl ⟨rfl, ?_⟩)
    refine z_eq (i := 15) (v := 18) rfl ⟨by omega, by omega⟩ (fun h27 => ?_) (fun h28 => ?_)
    · refine r_load (i := 18) (u := 0) (w := 2) rfl rfl rfl ?_
      refine r_load (i := 19) (u := 0) (w := 2) rfl rfl rfl ?_
      refine r_getf (i := 20) (v := 6) (w := 8) (x := (2, 36)) rfl ly33 rfl rfl fun _ => ?_
      refine r_load (i := 21) (u := 0) (w := 2) rfl rfl rfl ?_
      refine r_getf (i := 22) (v := 1) (w := 8) (x := (2, 9)) rfl ly33 rfl rfl fun _ => ?_
      refine r_getf (i := 23) (v := 2) (w := 2) (x := (2, 11)) rfl ly9 rfl rfl fun _ => ?_
      refine r_load (i := 24) (u := 1) (w := 0) rfl rfl rfl ?_
      refine a_int (i := 25) rfl ly11 rfl (by omega) (by omega) fun h32 => ?_
      have h33 := hI.a ta11 m.toNat
      refine r_call (i := 26) (u := 9) (v := 93) (w := 0) (b := 0) (na := 770) (C2 := xC93) (as := [(2, 36), vi (S.a 11 m.toNat)]) (s := [(2, 33)]) rfl rfl rfl rfl rfl rfl rfl (sp93 (w0 := S.a 11 m.toNat) hI ⟨by omega, by omega⟩ (by omega) e_PL (by omega)) (fun r34 S35 hq36 => ?_)
      obtain ⟨z37, rfl, h38, h39, h40, e41, hI42, hF43, hR44⟩ := hq36
      have hF45 := hF.trans hF43 rfl rfl
      have hR46 := hR.trans hR44 rfl
      refine Or.inr (Or.inl ⟨rfl, ?_⟩)
      refine r_putI (i := 27) (v := 10) (w := 8) rfl ly33 rfl ⟨by omega, by omega⟩ ?_
      have hI48 := hI42.setf0 (b := 33) (w := 10) (z := z37) rfl rfl
      have hF50 := hF45.setf (b := 33) (w := 10) (z := z37) rfl
      have hR51 := hR46.setf (b := 33) (w := 10) (z := z37)
      have e52 := PLx.setf e41 (b := 33) (w := 10) (z := z37) rfl
      have e53 := PTx.setf e41 (b := 33) (w := 10) (z := z37) rfl
      refine yT_gen (fun S47 hS49 => ?_)
      rw [hS49] at hI48 hF50 hR51 e52 e53
      refine r_load (i := 28) (u := 0) (w := 2) rfl rfl rfl ?_
      refine r_load (i := 29) (u := 0) (w := 2) rfl rfl rfl ?_
      refine r_getf (i := 30) (v := 6) (w := 8) (x := (2, 36)) rfl ly33 rfl rfl fun _ => ?_
      refine r_load (i := 31) (u := 3) (w := 2) rfl rfl rfl ?_
      refine r_load (i := 32) (u := 0) (w := 2) rfl rfl rfl ?_
      refine r_getf (i := 33) (v := 1) (w := 8) (x := (2, 9)) rfl ly33 rfl rfl fun _ => ?_
      refine r_getf (i := 34) (v := 4) (w := 2) (x := (2, 13)) rfl ly9 rfl rfl fun _ => ?_
      refine r_load (i := 35) (u := 1) (w := 0) rfl rfl rfl ?_
      refine a_int (i := 36) rfl ly13 rfl (by omega) (by omega) fun h57 => ?_
      have kp58 := hI48.k13 m.toNat
      have h59 : S47.a 13 m.toNat = S35.a 13 m.toNat := by rw [← hS49]; rfl
      have h60 : S35.a 13 m.toNat = S.a 13 m.toNat := hF43.a rfl _
      refine r_load (i := 37) (u := 0) (w := 2) rfl rfl rfl ?_
      refine r_getf (i := 38) (v := 1) (w := 8) (x := (2, 9)) rfl ly33 rfl rfl fun _ => ?_
      refine r_getf (i := 39) (v := 5) (w := 2) (x := (2, 14)) rfl ly9 rfl rfl fun _ => ?_
      refine r_load (i := 40) (u := 1) (w := 0) rfl rfl rfl ?_
      refine a_int (i := 41) rfl ly14 rfl (by omega) (by omega) fun h63 => ?_
      have h64 := hI48.a ta14 m.toNat
      have h65 : S47.a 14 m.toNat = S35.a 14 m.toNat := by rw [← hS49]; rfl
      have h66 : S35.a 14 m.toNat = S.a 14 m.toNat := hF43.a rfl _
      have h67 := hI48.b0
      have h68 : S47.f 31 1 = S35.f 31 1 := by rw [← hS49]; exact ysf_ne (by decide)
      refine r_call (i := 42) (u := 9) (v := 91) (w := 0) (b := 0) (na := 1796) (C2 := xC91) (as := [(2, 36), (6, s), vi (S47.a 13 m.toNat), vi (S47.a 14 m.toNat)]) (s := [(2, 33)]) rfl rfl rfl rfl rfl rfl rfl (sp91 (s := s) (p := S47.a 13 m.toNat) (r0 := S47.a 14 m.toNat) hI48 h_s ⟨by omega, by omega⟩ ⟨by omega, by omega⟩ (by omega) (by first | assumption | exact (hI48).k13 _) e52 (by omega)) (fun r69 S70 hq71 => ?_)
      obtain ⟨z72, rfl, h73, h74, h75, e76, hI77, hF78, hR79⟩ := hq71
      have hF80 := hF50.trans hF78 rfl rfl
      have hR81 := hR51.trans hR79 rfl
      refine Or.inr (Or.inl ⟨rfl, ?_⟩)
      refine r_putI (i := 43) (v := 11) (w := 8) rfl ly33 rfl ⟨by omega, by omega⟩ ?_
      have hI83 := hI77.setf0 (b := 33) (w := 11) (z := z72) rfl rfl
      have hF85 := hF80.setf (b := 33) (w := 11) (z := z72) rfl
      have hR86 := hR81.setf (b := 33) (w := 11) (z := z72)
      have e87 := PLx.setf e76 (b := 33) (w := 11) (z := z72) rfl
      have e88 := PTx.setf e76 (b := 33) (w := 11) (z := z72) rfl
      refine yT_gen (fun S82 hS84 => ?_)
      rw [hS84] at hI83 hF85 hR86 e87 e88
      refine r_load (i := 44) (u := 0) (w := 2) rfl rfl rfl ?_
      refine r_getf (i := 45) (v := 5) (w := 8) (x := (2, 34)) rfl ly33 rfl rfl fun _ => ?_
      refine r_load (i := 46) (u := 5) (w := 0) rfl rfl rfl ?_
      refine r_load (i := 47) (u := 2) (w := 0) rfl rfl rfl ?_
      refine r_iadd (i := 48) rfl ?_
      have h90 := hI83.b1
      have h91 : S82.f 34 1 = S70.f 34 1 := by rw [← hS84]; exact ysf_ne (by decide)
      have h92 : S70.f 34 1 = S47.f 34 1 := hF78.f rfl
      have h93 : S47.f 34 1 = S35.f 34 1 := by rw [← hS49]; exact ysf_ne (by decide)
      have h94 : S35.f 34 1 = S.f 34 1 := hF43.f rfl
      refine r_call (i := 49) (u := 7) (v := 36) (w := 0) (b := 0) (na := 514) (C2 := xC36) (as := [(2, 34), vi (0 + mo)]) (s := []) rfl rfl rfl rfl rfl rfl rfl (sp36_34 (b := 0 + mo) hI83 ⟨by omega, by omega⟩ (by omega)  (by omega)) (fun r95 S96 hq97 => ?_)
      obtain ⟨rfl, h98, hI99, hF100, hR101⟩ := hq97
      have hF102 := hF85.trans hF100 rfl rfl
      have hR103 := hR86.trans hR101 rfl
      have e104 := PLx.fr e87 hF100 hR101 rfl rfl rfl
      have e105 := PTx.fr e88 hF100 hR101 rfl rfl rfl
      refine Or.inl ⟨rfl, ?_⟩
      refine r_load (i := 50) (u := 0) (w := 2) rfl rfl rfl ?_
      refine r_getf (i := 51) (v := 5) (w := 8) (x := (2, 34)) rfl ly33 rfl rfl fun _ => ?_
      refine r_load (i := 52) (u := 0) (w := 2) rfl rfl rfl ?_
      have h107 : S96.f 33 10 = S82.f 33 10 := hF100.f rfl
      have h108 : S82.f 33 10 = S70.f 33 10 := by rw [← hS84]; exact ysf_ne (by decide)
      have h109 : S70.f 33 10 = S47.f 33 10 := hF78.f rfl
      have h110 : S47.f 33 10 = z37 := by rw [← hS49]; exact ysf_eq
      refine r_getf (i := 53) (v := 10) (w := 8) (x := vi (S96.f 33 10)) rfl ly33 rfl rfl fun h111 => ?_
      have h111 : Rg (S96.f 33 10) := h111
      have h112 := hI99.b1
      refine r_call (i := 54) (u := 7) (v := 36) (w := 0) (b := 0) (na := 514) (C2 := xC36) (as := [(2, 34), vi (S96.f 33 10)]) (s := []) rfl rfl rfl rfl rfl rfl rfl (sp36_34 (b := S96.f 33 10) hI99 ⟨by omega, by omega⟩ (by omega)  (by omega)) (fun r113 S114 hq115 => ?_)
      obtain ⟨rfl, h116, hI117, hF118, hR119⟩ := hq115
      have hF120 := hF102.trans hF118 rfl rfl
      have hR121 := hR103.trans hR119 rfl
      have e122 := PLx.fr e104 hF118 hR119 rfl rfl rfl
      have e123 := PTx.fr e105 hF118 hR119 rfl rfl rfl
      refine Or.inl ⟨rfl, ?_⟩
      refine r_load (i := 55) (u := 0) (w := 2) rfl rfl rfl ?_
      refine r_getf (i := 56) (v := 5) (w := 8) (x := (2, 34)) rfl ly33 rfl rfl fun _ => ?_
      refine r_load (i := 57) (u := 0) (w := 2) rfl rfl rfl ?_
      have h125 : S114.f 33 11 = S96.f 33 11 := hF118.f rfl
      have h126 : S96.f 33 11 = S82.f 33 11 := hF100.f rfl
      have h127 : S82.f 33 11 = z72 := by rw [← hS84]; exact ysf_eq
      refine r_getf (i := 58) (v := 11) (w := 8) (x := vi (S114.f 33 11)) rfl ly33 rfl rfl fun h128 => ?_
      have h128 : Rg (S114.f 33 11) := h128
      have h129 := hI117.b1
      refine r_call (i := 59) (u := 7) (v := 36) (w := 0) (b := 0) (na := 514) (C2 := xC36) (as := [(2, 34), vi (S114.f 33 11)]) (s := []) rfl rfl rfl rfl rfl rfl rfl (sp36_34 (b := S114.f 33 11) hI117 ⟨by omega, by omega⟩ (by omega)  (by omega)) (fun r130 S131 hq132 => ?_)
      obtain ⟨rfl, h133, hI134, hF135, hR136⟩ := hq132
      have hF137 := hF120.trans hF135 rfl rfl
      have hR138 := hR121.trans hR136 rfl
      have e139 := PLx.fr e122 hF135 hR136 rfl rfl rfl
      have e140 := PTx.fr e123 hF135 hR136 rfl rfl rfl
      refine Or.inl ⟨rfl, ?_⟩
      refine r_load (i := 60) (u := 0) (w := 2) rfl rfl rfl ?_
      refine r_getf (i := 61) (v := 5) (w := 8) (x := (2, 34)) rfl ly33 rfl rfl fun _ => ?_
      refine r_load (i := 62) (u := 4) (w := 0) rfl rfl rfl ?_
      have h142 := hI134.b1
      refine r_call (i := 63) (u := 7) (v := 36) (w := 0) (b := 0) (na := 514) (C2 := xC36) (as := [(2, 34), vi at0]) (s := []) rfl rfl rfl rfl rfl rfl rfl (sp36_34 (b := at0) hI134 ⟨by omega, by omega⟩ (by omega)  (by omega)) (fun r143 S144 hq145 => ?_)
      obtain ⟨rfl, h146, hI147, hF148, hR149⟩ := hq145
      have hF150 := hF137.trans hF148 rfl rfl
      have hR151 := hR138.trans hR149 rfl
      have e152 := PLx.fr e139 hF148 hR149 rfl rfl rfl
      have e153 := PTx.fr e140 hF148 hR149 rfl rfl rfl
      refine Or.inl ⟨rfl, ?_⟩
      have h154 := hI147.b0
      have h155 : S144.f 31 1 = S131.f 31 1 := hF148.f rfl
      have h156 : S131.f 31 1 = S114.f 31 1 := hF135.f rfl
      have h157 : S114.f 31 1 = S96.f 31 1 := hF118.f rfl
      have h158 : S96.f 31 1 = S82.f 31 1 := hF100.f rfl
      have h159 : S82.f 31 1 = S70.f 31 1 := by rw [← hS84]; exact ysf_ne (by decide)
      have h160 := hI147.b1
      exact r_ret0 (i := 64) rfl ⟨rfl, (by omega), (by omega), e152, hI147, hF150, hR151⟩
    · refine r_const (i := 16) (u := 4) (z := 4) rfl rfl ?_
      refine r_store (i := 17) (u := 5) (w := 0) (L1 := [some ((2, 33)), some (vi m), some (vi mo), some ((6, s)), some (vi at0), some (vi 4)]) rfl rfl rfl rfl ?_
      refine r_load (i := 18) (u := 0) (w := 2) rfl rfl rfl ?_
      refine r_load (i := 19) (u := 0) (w := 2) rfl rfl rfl ?_
      refine r_getf (i := 20) (v := 6) (w := 8) (x := (2, 36)) rfl ly33 rfl rfl fun _ => ?_
      refine r_load (i := 21) (u := 0) (w := 2) rfl rfl rfl ?_
      refine r_getf (i := 22) (v := 1) (w := 8) (x := (2, 9)) rfl ly33 rfl rfl fun _ => ?_
      refine r_getf (i := 23) (v := 2) (w := 2) (x := (2, 11)) rfl ly9 rfl rfl fun _ => ?_
      refine r_load (i := 24) (u := 1) (w := 0) rfl rfl rfl ?_
      refine a_int (i := 25) rfl ly11 rfl (by omega) (by omega) fun h164 => ?_
      have h165 := hI.a ta11 m.toNat
      refine r_call (i := 26) (u := 9) (v := 93) (w := 0) (b := 0) (na := 770) (C2 := xC93) (as := [(2, 36), vi (S.a 11 m.toNat)]) (s := [(2, 33)]) rfl rfl rfl rfl rfl rfl rfl (sp93 (w0 := S.a 11 m.toNat) hI ⟨by omega, by omega⟩ (by omega) e_PL (by omega)) (fun r166 S167 hq168 => ?_)
      obtain ⟨z169, rfl, h170, h171, h172, e173, hI174, hF175, hR176⟩ := hq168
      have hF177 := hF.trans hF175 rfl rfl
      have hR178 := hR.trans hR176 rfl
      refine Or.inr (Or.inl ⟨rfl, ?_⟩)
      refine r_putI (i := 27) (v := 10) (w := 8) rfl ly33 rfl ⟨by omega, by omega⟩ ?_
      have hI180 := hI174.setf0 (b := 33) (w := 10) (z := z169) rfl rfl
      have hF182 := hF177.setf (b := 33) (w := 10) (z := z169) rfl
      have hR183 := hR178.setf (b := 33) (w := 10) (z := z169)
      have e184 := PLx.setf e173 (b := 33) (w := 10) (z := z169) rfl
      have e185 := PTx.setf e173 (b := 33) (w := 10) (z := z169) rfl
      refine yT_gen (fun S179 hS181 => ?_)
      rw [hS181] at hI180 hF182 hR183 e184 e185
      refine r_load (i := 28) (u := 0) (w := 2) rfl rfl rfl ?_
      refine r_load (i := 29) (u := 0) (w := 2) rfl rfl rfl ?_
      refine r_getf (i := 30) (v := 6) (w := 8) (x := (2, 36)) rfl ly33 rfl rfl fun _ => ?_
      refine r_load (i := 31) (u := 3) (w := 2) rfl rfl rfl ?_
      refine r_load (i := 32) (u := 0) (w := 2) rfl rfl rfl ?_
      refine r_getf (i := 33) (v := 1) (w := 8) (x := (2, 9)) rfl ly33 rfl rfl fun _ => ?_
      refine r_getf (i := 34) (v := 4) (w := 2) (x := (2, 13)) rfl ly9 rfl rfl fun _ => ?_
      refine r_load (i := 35) (u := 1) (w := 0) rfl rfl rfl ?_
      refine a_int (i := 36) rfl ly13 rfl (by omega) (by omega) fun h189 => ?_
      have kp190 := hI180.k13 m.toNat
      have h191 : S179.a 13 m.toNat = S167.a 13 m.toNat := by rw [← hS181]; rfl
      have h192 : S167.a 13 m.toNat = S.a 13 m.toNat := hF175.a rfl _
      refine r_load (i := 37) (u := 0) (w := 2) rfl rfl rfl ?_
      refine r_getf (i := 38) (v := 1) (w := 8) (x := (2, 9)) rfl ly33 rfl rfl fun _ => ?_
      refine r_getf (i := 39) (v := 5) (w := 2) (x := (2, 14)) rfl ly9 rfl rfl fun _ => ?_
      refine r_load (i := 40) (u := 1) (w := 0) rfl rfl rfl ?_
      refine a_int (i := 41) rfl ly14 rfl (by omega) (by omega) fun h195 => ?_
      have h196 := hI180.a ta14 m.toNat
      have h197 : S179.a 14 m.toNat = S167.a 14 m.toNat := by rw [← hS181]; rfl
      have h198 : S167.a 14 m.toNat = S.a 14 m.toNat := hF175.a rfl _
      have h199 := hI180.b0
      have h200 : S179.f 31 1 = S167.f 31 1 := by rw [← hS181]; exact ysf_ne (by decide)
      refine r_call (i := 42) (u := 9) (v := 91) (w := 0) (b := 0) (na := 1796) (C2 := xC91) (as := [(2, 36), (6, s), vi (S179.a 13 m.toNat), vi (S179.a 14 m.toNat)]) (s := [(2, 33)]) rfl rfl rfl rfl rfl rfl rfl (sp91 (s := s) (p := S179.a 13 m.toNat) (r0 := S179.a 14 m.toNat) hI180 h_s ⟨by omega, by omega⟩ ⟨by omega, by omega⟩ (by omega) (by first | assumption | exact (hI180).k13 _) e184 (by omega)) (fun r201 S202 hq203 => ?_)
      obtain ⟨z204, rfl, h205, h206, h207, e208, hI209, hF210, hR211⟩ := hq203
      have hF212 := hF182.trans hF210 rfl rfl
      have hR213 := hR183.trans hR211 rfl
      refine Or.inr (Or.inl ⟨rfl, ?_⟩)
      refine r_putI (i := 43) (v := 11) (w := 8) rfl ly33 rfl ⟨by omega, by omega⟩ ?_
      have hI215 := hI209.setf0 (b := 33) (w := 11) (z := z204) rfl rfl
      have hF217 := hF212.setf (b := 33) (w := 11) (z := z204) rfl
      have hR218 := hR213.setf (b := 33) (w := 11) (z := z204)
      have e219 := PLx.setf e208 (b := 33) (w := 11) (z := z204) rfl
      have e220 := PTx.setf e208 (b := 33) (w := 11) (z := z204) rfl
      refine yT_gen (fun S214 hS216 => ?_)
      rw [hS216] at hI215 hF217 hR218 e219 e220
      refine r_load (i := 44) (u := 0) (w := 2) rfl rfl rfl ?_
      refine r_getf (i := 45) (v := 5) (w := 8) (x := (2, 34)) rfl ly33 rfl rfl fun _ => ?_
      refine r_load (i := 46) (u := 5) (w := 0) rfl rfl rfl ?_
      refine r_load (i := 47) (u := 2) (w := 0) rfl rfl rfl ?_
      refine r_iadd (i := 48) rfl ?_
      have h222 := hI215.b1
      have h223 : S214.f 34 1 = S202.f 34 1 := by rw [← hS216]; exact ysf_ne (by decide)
      have h224 : S202.f 34 1 = S179.f 34 1 := hF210.f rfl
      have h225 : S179.f 34 1 = S167.f 34 1 := by rw [← hS181]; exact ysf_ne (by decide)
      have h226 : S167.f 34 1 = S.f 34 1 := hF175.f rfl
      refine r_call (i := 49) (u := 7) (v := 36) (w := 0) (b := 0) (na := 514) (C2 := xC36) (as := [(2, 34), vi (4 + mo)]) (s := []) rfl rfl rfl rfl rfl rfl rfl (sp36_34 (b := 4 + mo) hI215 ⟨by omega, by omega⟩ (by omega)  (by omega)) (fun r227 S228 hq229 => ?_)
      obtain ⟨rfl, h230, hI231, hF232, hR233⟩ := hq229
      have hF234 := hF217.trans hF232 rfl rfl
      have hR235 := hR218.trans hR233 rfl
      have e236 := PLx.fr e219 hF232 hR233 rfl rfl rfl
      have e237 := PTx.fr e220 hF232 hR233 rfl rfl rfl
      refine Or.inl ⟨rfl, ?_⟩
      refine r_load (i := 50) (u := 0) (w := 2) rfl rfl rfl ?_
      refine r_getf (i := 51) (v := 5) (w := 8) (x := (2, 34)) rfl ly33 rfl rfl fun _ => ?_
      refine r_load (i := 52) (u := 0) (w := 2) rfl rfl rfl ?_
      have h239 : S228.f 33 10 = S214.f 33 10 := hF232.f rfl
      have h240 : S214.f 33 10 = S202.f 33 10 := by rw [← hS216]; exact ysf_ne (by decide)
      have h241 : S202.f 33 10 = S179.f 33 10 := hF210.f rfl
      have h242 : S179.f 33 10 = z169 := by rw [← hS181]; exact ysf_eq
      refine r_getf (i := 53) (v := 10) (w := 8) (x := vi (S228.f 33 10)) rfl ly33 rfl rfl fun h243 => ?_
      have h243 : Rg (S228.f 33 10) := h243
      have h244 := hI231.b1
      refine r_call (i := 54) (u := 7) (v := 36) (w := 0) (b := 0) (na := 514) (C2 := xC36) (as := [(2, 34), vi (S228.f 33 10)]) (s := []) rfl rfl rfl rfl rfl rfl rfl (sp36_34 (b := S228.f 33 10) hI231 ⟨by omega, by omega⟩ (by omega)  (by omega)) (fun r245 S246 hq247 => ?_)
      obtain ⟨rfl, h248, hI249, hF250, hR251⟩ := hq247
      have hF252 := hF234.trans hF250 rfl rfl
      have hR253 := hR235.trans hR251 rfl
      have e254 := PLx.fr e236 hF250 hR251 rfl rfl rfl
      have e255 := PTx.fr e237 hF250 hR251 rfl rfl rfl
      refine Or.inl ⟨rfl, ?_⟩
      refine r_load (i := 55) (u := 0) (w := 2) rfl rfl rfl ?_
      refine r_getf (i := 56) (v := 5) (w := 8) (x := (2, 34)) rfl ly33 rfl rfl fun _ => ?_
      refine r_load (i := 57) (u := 0) (w := 2) rfl rfl rfl ?_
      have h257 : S246.f 33 11 = S228.f 33 11 := hF250.f rfl
      have h258 : S228.f 33 11 = S214.f 33 11 := hF232.f rfl
      have h259 : S214.f 33 11 = z204 := by rw [← hS216]; exact ysf_eq
      refine r_getf (i := 58) (v := 11) (w := 8) (x := vi (S246.f 33 11)) rfl ly33 rfl rfl fun h260 => ?_
      have h260 : Rg (S246.f 33 11) := h260
      have h261 := hI249.b1
      refine r_call (i := 59) (u := 7) (v := 36) (w := 0) (b := 0) (na := 514) (C2 := xC36) (as := [(2, 34), vi (S246.f 33 11)]) (s := []) rfl rfl rfl rfl rfl rfl rfl (sp36_34 (b := S246.f 33 11) hI249 ⟨by omega, by omega⟩ (by omega)  (by omega)) (fun r262 S263 hq264 => ?_)
      obtain ⟨rfl, h265, hI266, hF267, hR268⟩ := hq264
      have hF269 := hF252.trans hF267 rfl rfl
      have hR270 := hR253.trans hR268 rfl
      have e271 := PLx.fr e254 hF267 hR268 rfl rfl rfl
      have e272 := PTx.fr e255 hF267 hR268 rfl rfl rfl
      refine Or.inl ⟨rfl, ?_⟩
      refine r_load (i := 60) (u := 0) (w := 2) rfl rfl rfl ?_
      refine r_getf (i := 61) (v := 5) (w := 8) (x := (2, 34)) rfl ly33 rfl rfl fun _ => ?_
      refine r_load (i := 62) (u := 4) (w := 0) rfl rfl rfl ?_
      have h274 := hI266.b1
      refine r_call (i := 63) (u := 7) (v := 36) (w := 0) (b := 0) (na := 514) (C2 := xC36) (as := [(2, 34), vi at0]) (s := []) rfl rfl rfl rfl rfl rfl rfl (sp36_34 (b := at0) hI266 ⟨by omega, by omega⟩ (by omega)  (by omega)) (fun r275 S276 hq277 => ?_)
      obtain ⟨rfl, h278, hI279, hF280, hR281⟩ := hq277
      have hF282 := hF269.trans hF280 rfl rfl
      have hR283 := hR270.trans hR281 rfl
      have e284 := PLx.fr e271 hF280 hR281 rfl rfl rfl
      have e285 := PTx.fr e272 hF280 hR281 rfl rfl rfl
      refine Or.inl ⟨rfl, ?_⟩
      have h286 := hI279.b0
      have h287 : S276.f 31 1 = S263.f 31 1 := hF280.f rfl
      have h288 : S263.f 31 1 = S246.f 31 1 := hF267.f rfl
      have h289 : S246.f 31 1 = S228.f 31 1 := hF250.f rfl
      have h290 : S228.f 31 1 = S214.f 31 1 := hF232.f rfl
      have h291 : S214.f 31 1 = S202.f 31 1 := by rw [← hS216]; exact ysf_ne (by decide)
      have h292 := hI279.b1
      exact r_ret0 (i := 64) rfl ⟨rfl, (by omega), (by omega), e284, hI279, hF282, hR283⟩
  · refine r_const (i := 6) (u := 1) (z := 1) rfl rfl ?_
    refine r_goto (i := 7) (v := 9) rfl ?_
    refine r_store (i := 9) (u := 5) (w := 0) (L1 := [some ((2, 33)), some (vi m), some (vi mo), some ((6, s)), some (vi at0), some (vi 1)]) rfl rfl rfl rfl ?_
    refine r_load (i := 10) (u := 0) (w := 2) rfl rfl rfl ?_
    refine r_getf (i := 11) (v := 1) (w := 8) (x := (2, 9)) rfl ly33 rfl rfl fun _ => ?_
    refine r_load (i := 12) (u := 1) (w := 0) rfl rfl rfl ?_
    refine r_const (i := 13) (u := 2) (z := 2) rfl rfl ?_
    have h294 := hI.a ta12 m.toNat
    have h295 := hI.a ta12 m.toNat
    refine r_call (i := 14) (u := 2) (v := 76) (w := 0) (b := 0) (na := 771) (C2 := xC76) (as := [(2, 9), vi m, vi 2]) (s := []) rfl rfl rfl rfl rfl rfl rfl (sp76 (m := m) (fl := 2) hI ⟨by omega, by omega⟩ ⟨by omega, by omega⟩   (by omega)) (fun r296 S297 hq298 => ?_)
    obtain ⟨z299, rfl, h300, h301, h302, h303, rfl⟩ := hq298
    refine Or.inr (Or.inl ⟨rfl, ?_⟩)
    refine z_eq (i := 15) (v := 18) rfl ⟨by omega, by omega⟩ (fun h304 => ?_) (fun h305 => ?_)
    · refine r_load (i := 18) (u := 0) (w := 2) rfl rfl rfl ?_
      refine r_load (i := 19) (u := 0) (w := 2) rfl rfl rfl ?_
      refine r_getf (i := 20) (v := 6) (w := 8) (x := (2, 36)) rfl ly33 rfl rfl fun _ => ?_
      refine r_load (i := 21) (u := 0) (w := 2) rfl rfl rfl ?_
      refine r_getf (i := 22) (v := 1) (w := 8) (x := (2, 9)) rfl ly33 rfl rfl fun _ => ?_
      refine r_getf (i := 23) (v := 2) (w := 2) (x := (2, 11)) rfl ly9 rfl rfl fun _ => ?_
      refine r_load (i := 24) (u := 1) (w := 0) rfl rfl rfl ?_
      refine a_int (i := 25) rfl ly11 rfl (by omega) (by omega) fun h309 => ?_
      have h310 := hI.a ta11 m.toNat
      refine r_call (i := 26) (u := 9) (v := 93) (w := 0) (b := 0) (na := 770) (C2 := xC93) (as := [(2, 36), vi (S.a 11 m.toNat)]) (s := [(2, 33)]) rfl rfl rfl rfl rfl rfl rfl (sp93 (w0 := S.a 11 m.toNat) hI ⟨by omega, by omega⟩ (by omega) e_PL (by omega)) (fun r311 S312 hq313 => ?_)
      obtain ⟨z314, rfl, h315, h316, h317, e318, hI319, hF320, hR321⟩ := hq313
      have hF322 := hF.trans hF320 rfl rfl
      have hR323 := hR.trans hR321 rfl
      refine Or.inr (Or.inl ⟨rfl, ?_⟩)
      refine r_putI (i := 27) (v := 10) (w := 8) rfl ly33 rfl ⟨by omega, by omega⟩ ?_
      have hI325 := hI319.setf0 (b := 33) (w := 10) (z := z314) rfl rfl
      have hF327 := hF322.setf (b := 33) (w := 10) (z := z314) rfl
      have hR328 := hR323.setf (b := 33) (w := 10) (z := z314)
      have e329 := PLx.setf e318 (b := 33) (w := 10) (z := z314) rfl
      have e330 := PTx.setf e318 (b := 33) (w := 10) (z := z314) rfl
      refine yT_gen (fun S324 hS326 => ?_)
      rw [hS326] at hI325 hF327 hR328 e329 e330
      refine r_load (i := 28) (u := 0) (w := 2) rfl rfl rfl ?_
      refine r_load (i := 29) (u := 0) (w := 2) rfl rfl rfl ?_
      refine r_getf (i := 30) (v := 6) (w := 8) (x := (2, 36)) rfl ly33 rfl rfl fun _ => ?_
      refine r_load (i := 31) (u := 3) (w := 2) rfl rfl rfl ?_
      refine r_load (i := 32) (u := 0) (w := 2) rfl rfl rfl ?_
      refine r_getf (i := 33) (v := 1) (w := 8) (x := (2, 9)) rfl ly33 rfl rfl fun _ => ?_
      refine r_getf (i := 34) (v := 4) (w := 2) (x := (2, 13)) rfl ly9 rfl rfl fun _ => ?_
      refine r_load (i := 35) (u := 1) (w := 0) rfl rfl rfl ?_
      refine a_int (i := 36) rfl ly13 rfl (by omega) (by omega) fun h334 => ?_
      have kp335 := hI325.k13 m.toNat
      have h336 : S324.a 13 m.toNat = S312.a 13 m.toNat := by rw [← hS326]; rfl
      have h337 : S312.a 13 m.toNat = S.a 13 m.toNat := hF320.a rfl _
      refine r_load (i := 37) (u := 0) (w := 2) rfl rfl rfl ?_
      refine r_getf (i := 38) (v := 1) (w := 8) (x := (2, 9)) rfl ly33 rfl rfl fun _ => ?_
      refine r_getf (i := 39) (v := 5) (w := 2) (x := (2, 14)) rfl ly9 rfl rfl fun _ => ?_
      refine r_load (i := 40) (u := 1) (w := 0) rfl rfl rfl ?_
      refine a_int (i := 41) rfl ly14 rfl (by omega) (by omega) fun h340 => ?_
      have h341 := hI325.a ta14 m.toNat
      have h342 : S324.a 14 m.toNat = S312.a 14 m.toNat := by rw [← hS326]; rfl
      have h343 : S312.a 14 m.toNat = S.a 14 m.toNat := hF320.a rfl _
      have h344 := hI325.b0
      have h345 : S324.f 31 1 = S312.f 31 1 := by rw [← hS326]; exact ysf_ne (by decide)
      refine r_call (i := 42) (u := 9) (v := 91) (w := 0) (b := 0) (na := 1796) (C2 := xC91) (as := [(2, 36), (6, s), vi (S324.a 13 m.toNat), vi (S324.a 14 m.toNat)]) (s := [(2, 33)]) rfl rfl rfl rfl rfl rfl rfl (sp91 (s := s) (p := S324.a 13 m.toNat) (r0 := S324.a 14 m.toNat) hI325 h_s ⟨by omega, by omega⟩ ⟨by omega, by omega⟩ (by omega) (by first | assumption | exact (hI325).k13 _) e329 (by omega)) (fun r346 S347 hq348 => ?_)
      obtain ⟨z349, rfl, h350, h351, h352, e353, hI354, hF355, hR356⟩ := hq348
      have hF357 := hF327.trans hF355 rfl rfl
      have hR358 := hR328.trans hR356 rfl
      refine Or.inr (Or.inl ⟨rfl, ?_⟩)
      refine r_putI (i := 43) (v := 11) (w := 8) rfl ly33 rfl ⟨by omega, by omega⟩ ?_
      have hI360 := hI354.setf0 (b := 33) (w := 11) (z := z349) rfl rfl
      have hF362 := hF357.setf (b := 33) (w := 11) (z := z349) rfl
      have hR363 := hR358.setf (b := 33) (w := 11) (z := z349)
      have e364 := PLx.setf e353 (b := 33) (w := 11) (z := z349) rfl
      have e365 := PTx.setf e353 (b := 33) (w := 11) (z := z349) rfl
      refine yT_gen (fun S359 hS361 => ?_)
      rw [hS361] at hI360 hF362 hR363 e364 e365
      refine r_load (i := 44) (u := 0) (w := 2) rfl rfl rfl ?_
      refine r_getf (i := 45) (v := 5) (w := 8) (x := (2, 34)) rfl ly33 rfl rfl fun _ => ?_
      refine r_load (i := 46) (u := 5) (w := 0) rfl rfl rfl ?_
      refine r_load (i := 47) (u := 2) (w := 0) rfl rfl rfl ?_
      refine r_iadd (i := 48) rfl ?_
      have h367 := hI360.b1
      have h368 : S359.f 34 1 = S347.f 34 1 := by rw [← hS361]; exact ysf_ne (by decide)
      have h369 : S347.f 34 1 = S324.f 34 1 := hF355.f rfl
      have h370 : S324.f 34 1 = S312.f 34 1 := by rw [← hS326]; exact ysf_ne (by decide)
      have h371 : S312.f 34 1 = S.f 34 1 := hF320.f rfl
      refine r_call (i := 49) (u := 7) (v := 36) (w := 0) (b := 0) (na := 514) (C2 := xC36) (as := [(2, 34), vi (1 + mo)]) (s := []) rfl rfl rfl rfl rfl rfl rfl (sp36_34 (b := 1 + mo) hI360 ⟨by omega, by omega⟩ (by omega)  (by omega)) (fun r372 S373 hq374 => ?_)
      obtain ⟨rfl, h375, hI376, hF377, hR378⟩ := hq374
      have hF379 := hF362.trans hF377 rfl rfl
      have hR380 := hR363.trans hR378 rfl
      have e381 := PLx.fr e364 hF377 hR378 rfl rfl rfl
      have e382 := PTx.fr e365 hF377 hR378 rfl rfl rfl
      refine Or.inl ⟨rfl, ?_⟩
      refine r_load (i := 50) (u := 0) (w := 2) rfl rfl rfl ?_
      refine r_getf (i := 51) (v := 5) (w := 8) (x := (2, 34)) rfl ly33 rfl rfl fun _ => ?_
      refine r_load (i := 52) (u := 0) (w := 2) rfl rfl rfl ?_
      have h384 : S373.f 33 10 = S359.f 33 10 := hF377.f rfl
      have h385 : S359.f 33 10 = S347.f 33 10 := by rw [← hS361]; exact ysf_ne (by decide)
      have h386 : S347.f 33 10 = S324.f 33 10 := hF355.f rfl
      have h387 : S324.f 33 10 = z314 := by rw [← hS326]; exact ysf_eq
      refine r_getf (i := 53) (v := 10) (w := 8) (x := vi (S373.f 33 10)) rfl ly33 rfl rfl fun h388 => ?_
      have h388 : Rg (S373.f 33 10) := h388
      have h389 := hI376.b1
      refine r_call (i := 54) (u := 7) (v := 36) (w := 0) (b := 0) (na := 514) (C2 := xC36) (as := [(2, 34), vi (S373.f 33 10)]) (s := []) rfl rfl rfl rfl rfl rfl rfl (sp36_34 (b := S373.f 33 10) hI376 ⟨by omega, by omega⟩ (by omega)  (by omega)) (fun r390 S391 hq392 => ?_)
      obtain ⟨rfl, h393, hI394, hF395, hR396⟩ := hq392
      have hF397 := hF379.trans hF395 rfl rfl
      have hR398 := hR380.trans hR396 rfl
      have e399 := PLx.fr e381 hF395 hR396 rfl rfl rfl
      have e400 := PTx.fr e382 hF395 hR396 rfl rfl rfl
      refine Or.inl ⟨rfl, ?_⟩
      refine r_load (i := 55) (u := 0) (w := 2) rfl rfl rfl ?_
      refine r_getf (i := 56) (v := 5) (w := 8) (x := (2, 34)) rfl ly33 rfl rfl fun _ => ?_
      refine r_load (i := 57) (u := 0) (w := 2) rfl rfl rfl ?_
      have h402 : S391.f 33 11 = S373.f 33 11 := hF395.f rfl
      have h403 : S373.f 33 11 = S359.f 33 11 := hF377.f rfl
      have h404 : S359.f 33 11 = z349 := by rw [← hS361]; exact ysf_eq
      refine r_getf (i := 58) (v := 11) (w := 8) (x := vi (S391.f 33 11)) rfl ly33 rfl rfl fun h405 => ?_
      have h405 : Rg (S391.f 33 11) := h405
      have h406 := hI394.b1
      refine r_call (i := 59) (u := 7) (v := 36) (w := 0) (b := 0) (na := 514) (C2 := xC36) (as := [(2, 34), vi (S391.f 33 11)]) (s := []) rfl rfl rfl rfl rfl rfl rfl (sp36_34 (b := S391.f 33 11) hI394 ⟨by omega, by omega⟩ (by omega)  (by omega)) (fun r407 S408 hq409 => ?_)
      obtain ⟨rfl, h410, hI411, hF412, hR413⟩ := hq409
      have hF414 := hF397.trans hF412 rfl rfl
      have hR415 := hR398.trans hR413 rfl
      have e416 := PLx.fr e399 hF412 hR413 rfl rfl rfl
      have e417 := PTx.fr e400 hF412 hR413 rfl rfl rfl
      refine Or.inl ⟨rfl, ?_⟩
      refine r_load (i := 60) (u := 0) (w := 2) rfl rfl rfl ?_
      refine r_getf (i := 61) (v := 5) (w := 8) (x := (2, 34)) rfl ly33 rfl rfl fun _ => ?_
      refine r_load (i := 62) (u := 4) (w := 0) rfl rfl rfl ?_
      have h419 := hI411.b1
      refine r_call (i := 63) (u := 7) (v := 36) (w := 0) (b := 0) (na := 514) (C2 := xC36) (as := [(2, 34), vi at0]) (s := []) rfl rfl rfl rfl rfl rfl rfl (sp36_34 (b := at0) hI411 ⟨by omega, by omega⟩ (by omega)  (by omega)) (fun r420 S421 hq422 => ?_)
      obtain ⟨rfl, h423, hI424, hF425, hR426⟩ := hq422
      have hF427 := hF414.trans hF425 rfl rfl
      have hR428 := hR415.trans hR426 rfl
      have e429 := PLx.fr e416 hF425 hR426 rfl rfl rfl
      have e430 := PTx.fr e417 hF425 hR426 rfl rfl rfl
      refine Or.inl ⟨rfl, ?_⟩
      have h431 := hI424.b0
      have h432 : S421.f 31 1 = S408.f 31 1 := hF425.f rfl
      have h433 : S408.f 31 1 = S391.f 31 1 := hF412.f rfl
      have h434 : S391.f 31 1 = S373.f 31 1 := hF395.f rfl
      have h435 : S373.f 31 1 = S359.f 31 1 := hF377.f rfl
      have h436 : S359.f 31 1 = S347.f 31 1 := by rw [← hS361]; exact ysf_ne (by decide)
      have h437 := hI424.b1
      exact r_ret0 (i := 64) rfl ⟨rfl, (by omega), (by omega), e429, hI424, hF427, hR428⟩
    · refine r_const (i := 16) (u := 4) (z := 4) rfl rfl ?_
      refine r_store (i := 17) (u := 5) (w := 0) (L1 := [some ((2, 33)), some (vi m), some (vi mo), some ((6, s)), some (vi at0), some (vi 4)]) rfl rfl rfl rfl ?_
      refine r_load (i := 18) (u := 0) (w := 2) rfl rfl rfl ?_
      refine r_load (i := 19) (u := 0) (w := 2) rfl rfl rfl ?_
      refine r_getf (i := 20) (v := 6) (w := 8) (x := (2, 36)) rfl ly33 rfl rfl fun _ => ?_
      refine r_load (i := 21) (u := 0) (w := 2) rfl rfl rfl ?_
      refine r_getf (i := 22) (v := 1) (w := 8) (x := (2, 9)) rfl ly33 rfl rfl fun _ => ?_
      refine r_getf (i := 23) (v := 2) (w := 2) (x := (2, 11)) rfl ly9 rfl rfl fun _ => ?_
      refine r_load (i := 24) (u := 1) (w := 0) rfl rfl rfl ?_
      refine a_int (i := 25) rfl ly11 rfl (by omega) (by omega) fun h441 => ?_
      have h442 := hI.a ta11 m.toNat
      refine r_call (i := 26) (u := 9) (v := 93) (w := 0) (b := 0) (na := 770) (C2 := xC93) (as := [(2, 36), vi (S.a 11 m.toNat)]) (s := [(2, 33)]) rfl rfl rfl rfl rfl rfl rfl (sp93 (w0 := S.a 11 m.toNat) hI ⟨by omega, by omega⟩ (by omega) e_PL (by omega)) (fun r443 S444 hq445 => ?_)
      obtain ⟨z446, rfl, h447, h448, h449, e450, hI451, hF452, hR453⟩ := hq445
      have hF454 := hF.trans hF452 rfl rfl
      have hR455 := hR.trans hR453 rfl
      refine Or.inr (Or.inl ⟨rfl, ?_⟩)
      refine r_putI (i := 27) (v := 10) (w := 8) rfl ly33 rfl ⟨by omega, by omega⟩ ?_
      have hI457 := hI451.setf0 (b := 33) (w := 10) (z := z446) rfl rfl
      have hF459 := hF454.setf (b := 33) (w := 10) (z := z446) rfl
      have hR460 := hR455.setf (b := 33) (w := 10) (z := z446)
      have e461 := PLx.setf e450 (b := 33) (w := 10) (z := z446) rfl
      have e462 := PTx.setf e450 (b := 33) (w := 10) (z := z446) rfl
      refine yT_gen (fun S456 hS458 => ?_)
      rw [hS458] at hI457 hF459 hR460 e461 e462
      refine r_load (i := 28) (u := 0) (w := 2) rfl rfl rfl ?_
      refine r_load (i := 29) (u := 0) (w := 2) rfl rfl rfl ?_
      refine r_getf (i := 30) (v := 6) (w := 8) (x := (2, 36)) rfl ly33 rfl rfl fun _ => ?_
      refine r_load (i := 31) (u := 3) (w := 2) rfl rfl rfl ?_
      refine r_load (i := 32) (u := 0) (w := 2) rfl rfl rfl ?_
      refine r_getf (i := 33) (v := 1) (w := 8) (x := (2, 9)) rfl ly33 rfl rfl fun _ => ?_
      refine r_getf (i := 34) (v := 4) (w := 2) (x := (2, 13)) rfl ly9 rfl rfl fun _ => ?_
      refine r_load (i := 35) (u := 1) (w := 0) rfl rfl rfl ?_
      refine a_int (i := 36) rfl ly13 rfl (by omega) (by omega) fun h466 => ?_
      have kp467 := hI457.k13 m.toNat
      have h468 : S456.a 13 m.toNat = S444.a 13 m.toNat := by rw [← hS458]; rfl
      have h469 : S444.a 13 m.toNat = S.a 13 m.toNat := hF452.a rfl _
      refine r_load (i := 37) (u := 0) (w := 2) rfl rfl rfl ?_
      refine r_getf (i := 38) (v := 1) (w := 8) (x := (2, 9)) rfl ly33 rfl rfl fun _ => ?_
      refine r_getf (i := 39) (v := 5) (w := 2) (x := (2, 14)) rfl ly9 rfl rfl fun _ => ?_
      refine r_load (i := 40) (u := 1) (w := 0) rfl rfl rfl ?_
      refine a_int (i := 41) rfl ly14 rfl (by omega) (by omega) fun h472 => ?_
      have h473 := hI457.a ta14 m.toNat
      have h474 : S456.a 14 m.toNat = S444.a 14 m.toNat := by rw [← hS458]; rfl
      have h475 : S444.a 14 m.toNat = S.a 14 m.toNat := hF452.a rfl _
      have h476 := hI457.b0
      have h477 : S456.f 31 1 = S444.f 31 1 := by rw [← hS458]; exact ysf_ne (by decide)
      refine r_call (i := 42) (u := 9) (v := 91) (w := 0) (b := 0) (na := 1796) (C2 := xC91) (as := [(2, 36), (6, s), vi (S456.a 13 m.toNat), vi (S456.a 14 m.toNat)]) (s := [(2, 33)]) rfl rfl rfl rfl rfl rfl rfl (sp91 (s := s) (p := S456.a 13 m.toNat) (r0 := S456.a 14 m.toNat) hI457 h_s ⟨by omega, by omega⟩ ⟨by omega, by omega⟩ (by omega) (by first | assumption | exact (hI457).k13 _) e461 (by omega)) (fun r478 S479 hq480 => ?_)
      obtain ⟨z481, rfl, h482, h483, h484, e485, hI486, hF487, hR488⟩ := hq480
      have hF489 := hF459.trans hF487 rfl rfl
      have hR490 := hR460.trans hR488 rfl
      refine Or.inr (Or.inl ⟨rfl, ?_⟩)
      refine r_putI (i := 43) (v := 11) (w := 8) rfl ly33 rfl ⟨by omega, by omega⟩ ?_
      have hI492 := hI486.setf0 (b := 33) (w := 11) (z := z481) rfl rfl
      have hF494 := hF489.setf (b := 33) (w := 11) (z := z481) rfl
      have hR495 := hR490.setf (b := 33) (w := 11) (z := z481)
      have e496 := PLx.setf e485 (b := 33) (w := 11) (z := z481) rfl
      have e497 := PTx.setf e485 (b := 33) (w := 11) (z := z481) rfl
      refine yT_gen (fun S491 hS493 => ?_)
      rw [hS493] at hI492 hF494 hR495 e496 e497
      refine r_load (i := 44) (u := 0) (w := 2) rfl rfl rfl ?_
      refine r_getf (i := 45) (v := 5) (w := 8) (x := (2, 34)) rfl ly33 rfl rfl fun _ => ?_
      refine r_load (i := 46) (u := 5) (w := 0) rfl rfl rfl ?_
      refine r_load (i := 47) (u := 2) (w := 0) rfl rfl rfl ?_
      refine r_iadd (i := 48) rfl ?_
      have h499 := hI492.b1
      have h500 : S491.f 34 1 = S479.f 34 1 := by rw [← hS493]; exact ysf_ne (by decide)
      have h501 : S479.f 34 1 = S456.f 34 1 := hF487.f rfl
      have h502 : S456.f 34 1 = S444.f 34 1 := by rw [← hS458]; exact ysf_ne (by decide)
      have h503 : S444.f 34 1 = S.f 34 1 := hF452.f rfl
      refine r_call (i := 49) (u := 7) (v := 36) (w := 0) (b := 0) (na := 514) (C2 := xC36) (as := [(2, 34), vi (4 + mo)]) (s := []) rfl rfl rfl rfl rfl rfl rfl (sp36_34 (b := 4 + mo) hI492 ⟨by omega, by omega⟩ (by omega)  (by omega)) (fun r504 S505 hq506 => ?_)
      obtain ⟨rfl, h507, hI508, hF509, hR510⟩ := hq506
      have hF511 := hF494.trans hF509 rfl rfl
      have hR512 := hR495.trans hR510 rfl
      have e513 := PLx.fr e496 hF509 hR510 rfl rfl rfl
      have e514 := PTx.fr e497 hF509 hR510 rfl rfl rfl
      refine Or.inl ⟨rfl, ?_⟩
      refine r_load (i := 50) (u := 0) (w := 2) rfl rfl rfl ?_
      refine r_getf (i := 51) (v := 5) (w := 8) (x := (2, 34)) rfl ly33 rfl rfl fun _ => ?_
      refine r_load (i := 52) (u := 0) (w := 2) rfl rfl rfl ?_
      have h516 : S505.f 33 10 = S491.f 33 10 := hF509.f rfl
      have h517 : S491.f 33 10 = S479.f 33 10 := by rw [← hS493]; exact ysf_ne (by decide)
      have h518 : S479.f 33 10 = S456.f 33 10 := hF487.f rfl
      have h519 : S456.f 33 10 = z446 := by rw [← hS458]; exact ysf_eq
      refine r_getf (i := 53) (v := 10) (w := 8) (x := vi (S505.f 33 10)) rfl ly33 rfl rfl fun h520 => ?_
      have h520 : Rg (S505.f 33 10) := h520
      have h521 := hI508.b1
      refine r_call (i := 54) (u := 7) (v := 36) (w := 0) (b := 0) (na := 514) (C2 := xC36) (as := [(2, 34), vi (S505.f 33 10)]) (s := []) rfl rfl rfl rfl rfl rfl rfl (sp36_34 (b := S505.f 33 10) hI508 ⟨by omega, by omega⟩ (by omega)  (by omega)) (fun r522 S523 hq524 => ?_)
      obtain ⟨rfl, h525, hI526, hF527, hR528⟩ := hq524
      have hF529 := hF511.trans hF527 rfl rfl
      have hR530 := hR512.trans hR528 rfl
      have e531 := PLx.fr e513 hF527 hR528 rfl rfl rfl
      have e532 := PTx.fr e514 hF527 hR528 rfl rfl rfl
      refine Or.inl ⟨rfl, ?_⟩
      refine r_load (i := 55) (u := 0) (w := 2) rfl rfl rfl ?_
      refine r_getf (i := 56) (v := 5) (w := 8) (x := (2, 34)) rfl ly33 rfl rfl fun _ => ?_
      refine r_load (i := 57) (u := 0) (w := 2) rfl rfl rfl ?_
      have h534 : S523.f 33 11 = S505.f 33 11 := hF527.f rfl
      have h535 : S505.f 33 11 = S491.f 33 11 := hF509.f rfl
      have h536 : S491.f 33 11 = z481 := by rw [← hS493]; exact ysf_eq
      refine r_getf (i := 58) (v := 11) (w := 8) (x := vi (S523.f 33 11)) rfl ly33 rfl rfl fun h537 => ?_
      have h537 : Rg (S523.f 33 11) := h537
      have h538 := hI526.b1
      refine r_call (i := 59) (u := 7) (v := 36) (w := 0) (b := 0) (na := 514) (C2 := xC36) (as := [(2, 34), vi (S523.f 33 11)]) (s := []) rfl rfl rfl rfl rfl rfl rfl (sp36_34 (b := S523.f 33 11) hI526 ⟨by omega, by omega⟩ (by omega)  (by omega)) (fun r539 S540 hq541 => ?_)
      obtain ⟨rfl, h542, hI543, hF544, hR545⟩ := hq541
      have hF546 := hF529.trans hF544 rfl rfl
      have hR547 := hR530.trans hR545 rfl
      have e548 := PLx.fr e531 hF544 hR545 rfl rfl rfl
      have e549 := PTx.fr e532 hF544 hR545 rfl rfl rfl
      refine Or.inl ⟨rfl, ?_⟩
      refine r_load (i := 60) (u := 0) (w := 2) rfl rfl rfl ?_
      refine r_getf (i := 61) (v := 5) (w := 8) (x := (2, 34)) rfl ly33 rfl rfl fun _ => ?_
      refine r_load (i := 62) (u := 4) (w := 0) rfl rfl rfl ?_
      have h551 := hI543.b1
      refine r_call (i := 63) (u := 7) (v := 36) (w := 0) (b := 0) (na := 514) (C2 := xC36) (as := [(2, 34), vi at0]) (s := []) rfl rfl rfl rfl rfl rfl rfl (sp36_34 (b := at0) hI543 ⟨by omega, by omega⟩ (by omega)  (by omega)) (fun r552 S553 hq554 => ?_)
      obtain ⟨rfl, h555, hI556, hF557, hR558⟩ := hq554
      have hF559 := hF546.trans hF557 rfl rfl
      have hR560 := hR547.trans hR558 rfl
      have e561 := PLx.fr e548 hF557 hR558 rfl rfl rfl
      have e562 := PTx.fr e549 hF557 hR558 rfl rfl rfl
      refine Or.inl ⟨rfl, ?_⟩
      have h563 := hI556.b0
      have h564 : S553.f 31 1 = S540.f 31 1 := hF557.f rfl
      have h565 : S540.f 31 1 = S523.f 31 1 := hF544.f rfl
      have h566 : S523.f 31 1 = S505.f 31 1 := hF527.f rfl
      have h567 : S505.f 31 1 = S491.f 31 1 := hF509.f rfl
      have h568 : S491.f 31 1 = S479.f 31 1 := by rw [← hS493]; exact ysf_ne (by decide)
      have h569 := hI556.b1
      exact r_ret0 (i := 64) rfl ⟨rfl, (by omega), (by omega), e561, hI556, hF559, hR560⟩
theorem lp142_42 {G : xk} {d : Nat} {S0 : yS} {k : Int} (h_k : 0 ≤ k ∧ k ≤ 23) {p : Int} (h_p : -2147483648 ≤ p ∧ p ≤ 2147483647) (p_0 : S0.f 31 1 + 407 ≤ 60000) (p_1 : S0.f 34 1 + 53 ≤ 60000) (hd : 8 ≤ d + 1) : ∀ (n : Nat), ∀ (S : yS) (hI : yI S) (hF : yFr [(31, 1), (33, 14), (33, 15), (34, 1), (36, 5)] [37, 100, 101, 102, 103, 105] S0 S) (hR : yRm [0, 1, 2, 3] S0 S) (e_PL : PL S) (n1 lc j : Int) (h_n1 : 0 ≤ n1 ∧ n1 ≤ 4) (h_lc : 0 ≤ lc ∧ lc ≤ 100) (h_j : 0 ≤ j ∧ j ≤ 4) (q_0 : S0.f 34 1 ≤ S.f 34 1 ∧ S.f 34 1 ≤ S0.f 34 1 + 12 + 9 * j ∧ S0.f 34 1 + 53 ≤ 60000) (q_1 : S0.f 31 1 ≤ S.f 31 1 ∧ S.f 31 1 ≤ S0.f 31 1 + 42 + 68 * j ∧ S0.f 31 1 + 407 ≤ 60000) (q_2 : lc ≤ 1 + 2 * j) (hn : 4 - j < (n : Nat)), yT xPr G LY xC142 42 [some ((2, 33)), some (vi k), some (vi p), some (vi n1), some (vi lc), some (vi j), none, none] [] S (d + 1) (fun r S' => r = (0, (0, 0)) ∧ (S0.f 31 1 ≤ S'.f 31 1 ∧ S'.f 31 1 ≤ S0.f 31 1 + 407) ∧ (S0.f 34 1 ≤ S'.f 34 1 ∧ S'.f 34 1 ≤ S0.f 34 1 + 53) ∧ PL S' ∧ yI S' ∧ yFr [(31, 1), (33, 14), (33, 15), (34, 1), (36, 5)] [37, 100, 101, 102, 103, 105] S0 S' ∧ yRm [0, 1, 2, 3] S0 S') := by
  intro n
  induction n with
  | zero => intro S hI hF hR e_PL n1 lc j h_n1 h_lc h_j q_0 q_1 q_2 hn; exact absurd hn (by omega)
  | succ n ih =>
    intro S hI hF hR e_PL n1 lc j h_n1 h_lc h_j q_0 q_1 q_2 hn
    have h1 := hI.b1
    have h2 := hI.b0
    refine r_load (i := 42) (u := 5) (w := 0) rfl rfl rfl ?_
    refine r_load (i := 43) (u := 3) (w := 0) rfl rfl rfl ?_
    refine c_ge (i := 44) (v := 91) rfl ⟨by omega, by omega⟩ ⟨by omega, by omega⟩ (fun h3 => ?_) (fun h4 => ?_)
    · refine r_load (i := 91) (u := 0) (w := 2) rfl rfl rfl ?_
      refine r_const (i := 92) (u := 185) (z := 185) rfl rfl ?_
      refine r_load (i := 93) (u := 0) (w := 2) rfl rfl rfl ?_
      refine r_const (i := 94) (u := 11) (z := 11) rfl rfl ?_
      refine r_str (i := 95) (v := 22) rfl ?_
      have h5 := slv22
      refine r_str (i := 96) (v := 23) rfl ?_
      have h6 := slv23
      refine r_str (i := 97) (v := 24) rfl ?_
      have h7 := slv24
      refine r_call (i := 98) (u := 8) (v := 160) (w := 0) (b := 0) (na := 2053) (C2 := xC160) (as := [(2, 33), vi 11, (6, 22), (6, 23), (6, 24)]) (s := [vi 185, (2, 33)]) rfl rfl rfl rfl rfl rfl rfl (sp160 (w0 := 11) (s := 22) (s2 := 23) (s3 := 24) hI ⟨by omega, by omega⟩ ⟨by decide, by decide⟩ ⟨by decide, by decide⟩ ⟨by decide, by decide⟩ (by omega) e_PL (by omega)) (fun r8 S9 hq10 => ?_)
      obtain ⟨z11, rfl, h12, h13, h14, e15, hI16, hF17, hR18⟩ := hq10
      have hF19 := hF.trans hF17 rfl rfl
      have hR20 := hR.trans hR18 rfl
      refine Or.inr (Or.inl ⟨rfl, ?_⟩)
      refine r_const (i := 99) (u := 4294967293) (z := -3) rfl rfl ?_
      have h21 := hI16.b1
      have h22 : S9.f 34 1 = S.f 34 1 := hF17.f rfl
      refine r_call (i := 100) (u := 8) (v := 165) (w := 0) (b := 0) (na := 1028) (C2 := xC165) (as := [(2, 33), vi 185, vi z11, vi (-3)]) (s := []) rfl rfl rfl rfl rfl rfl rfl (sp165 (c := 185) (o := z11) (e := -3) hI16 ⟨by omega, by omega⟩ ⟨by omega, by omega⟩ ⟨by omega, by omega⟩ (by omega)  (by omega)) (fun r23 S24 hq25 => ?_)
      obtain ⟨rfl, h26, hI27, hF28, hR29⟩ := hq25
      have hF30 := hF19.trans hF28 rfl rfl
      have hR31 := hR20.trans hR29 rfl
      have e32 := PLx.fr e15 hF28 hR29 rfl rfl rfl
      have e33 := PTx.fr e15 hF28 hR29 rfl rfl rfl
      refine Or.inl ⟨rfl, ?_⟩
      refine r_load (i := 101) (u := 0) (w := 2) rfl rfl rfl ?_
      refine r_getf (i := 102) (v := 5) (w := 8) (x := (2, 34)) rfl ly33 rfl rfl fun _ => ?_
      refine r_const (i := 103) (u := 4) (z := 4) rfl rfl ?_
      have h35 := hI27.b1
      refine r_call (i := 104) (u := 7) (v := 29) (w := 0) (b := 0) (na := 514) (C2 := xC29) (as := [(2, 34), vi 4]) (s := []) rfl rfl rfl rfl rfl rfl rfl (sp29_34 (b := 4) hI27 ⟨by omega, by omega⟩ (by omega)  (by omega)) (fun r36 S37 hq38 => ?_)
      obtain ⟨rfl, h39, hI40, hF41, hR42⟩ := hq38
      have hF43 := hF30.trans hF41 rfl rfl
      have hR44 := hR31.trans hR42 rfl
      have e45 := PLx.fr e32 hF41 hR42 rfl rfl rfl
      have e46 := PTx.fr e33 hF41 hR42 rfl rfl rfl
      refine Or.inl ⟨rfl, ?_⟩
      refine r_load (i := 105) (u := 0) (w := 2) rfl rfl rfl ?_
      refine r_getf (i := 106) (v := 5) (w := 8) (x := (2, 34)) rfl ly33 rfl rfl fun _ => ?_
      refine r_const (i := 107) (u := 0) (z := 0) rfl rfl ?_
      have h48 := hI40.b1
      refine r_call (i := 108) (u := 7) (v := 29) (w := 0) (b := 0) (na := 514) (C2 := xC29) (as := [(2, 34), vi 0]) (s := []) rfl rfl rfl rfl rfl rfl rfl (sp29_34 (b := 0) hI40 ⟨by omega, by omega⟩ (by omega)  (by omega)) (fun r49 S50 hq51 => ?_)
      obtain ⟨rfl, h52, hI53, hF54, hR55⟩ := hq51
      have hF56 := hF43.trans hF54 rfl rfl
      have hR57 := hR44.trans hR55 rfl
      have e58 := PLx.fr e45 hF54 hR55 rfl rfl rfl
      have e59 := PTx.fr e46 hF54 hR55 rfl rfl rfl
      refine Or.inl ⟨rfl, ?_⟩
      have h60 := hI53.b0
      have h61 : S50.f 31 1 = S37.f 31 1 := hF54.f rfl
      have h62 : S37.f 31 1 = S24.f 31 1 := hF41.f rfl
      have h63 : S24.f 31 1 = S9.f 31 1 := hF28.f rfl
      have h64 := hI53.b1
      exact r_ret0 (i := 109) rfl ⟨rfl, (by omega), (by omega), e58, hI53, hF56, hR57⟩
    · refine r_load (i := 45) (u := 2) (w := 0) rfl rfl rfl ?_
      refine r_load (i := 46) (u := 5) (w := 0) rfl rfl rfl ?_
      refine r_call (i := 47) (u := 65535) (v := 66) (w := 0) (b := 2) (na := 514) (C2 := xC66) (as := [vi p, vi j]) (s := []) rfl rfl rfl rfl rfl rfl rfl (sp66 (p := p) (k := j) hI ⟨by omega, by omega⟩ ⟨by omega, by omega⟩   (by omega)) (fun r65 S66 hq67 => ?_)
      obtain ⟨z68, rfl, h69, h70, h71, rfl⟩ := hq67
      refine Or.inr (Or.inl ⟨rfl, ?_⟩)
      refine r_store (i := 48) (u := 6) (w := 0) (L1 := [some ((2, 33)), some (vi k), some (vi p), some (vi n1), some (vi lc), some (vi j), some (vi z68), none]) rfl rfl rfl rfl ?_
      refine r_load (i := 49) (u := 0) (w := 2) rfl rfl rfl ?_
      refine r_const (i := 50) (u := 89) (z := 89) rfl rfl ?_
      refine r_const (i := 51) (u := 1) (z := 1) rfl rfl ?_
      refine r_call (i := 52) (u := 8) (v := 163) (w := 0) (b := 0) (na := 771) (C2 := xC163) (as := [(2, 33), vi 89, vi 1]) (s := []) rfl rfl rfl rfl rfl rfl rfl (sp163 (c := 89) (e := 1) hI ⟨by omega, by omega⟩ ⟨by omega, by omega⟩ (by omega)  (by omega)) (fun r72 S73 hq74 => ?_)
      obtain ⟨rfl, h75, hI76, hF77, hR78⟩ := hq74
      have hF79 := hF.trans hF77 rfl rfl
      have hR80 := hR.trans hR78 rfl
      have e81 := PLx.fr e_PL hF77 hR78 rfl rfl rfl
      have e82 := PTx.fr e_PL hF77 hR78 rfl rfl rfl
      refine Or.inl ⟨rfl, ?_⟩
      refine r_load (i := 53) (u := 0) (w := 2) rfl rfl rfl ?_
      refine r_load (i := 54) (u := 5) (w := 0) rfl rfl rfl ?_
      have h83 := hI76.b1
      refine r_call (i := 55) (u := 8) (v := 168) (w := 0) (b := 0) (na := 514) (C2 := xC168) (as := [(2, 33), vi j]) (s := []) rfl rfl rfl rfl rfl rfl rfl (sp168 (k := j) hI76 ⟨by omega, by omega⟩ (by omega)  (by omega)) (fun r84 S85 hq86 => ?_)
      obtain ⟨rfl, h87, hI88, hF89, hR90⟩ := hq86
      have hF91 := hF79.trans hF89 rfl rfl
      have hR92 := hR80.trans hR90 rfl
      have e93 := PLx.fr e81 hF89 hR90 rfl rfl rfl
      have e94 := PTx.fr e82 hF89 hR90 rfl rfl rfl
      refine Or.inl ⟨rfl, ?_⟩
      refine r_load (i := 56) (u := 0) (w := 2) rfl rfl rfl ?_
      refine r_load (i := 57) (u := 6) (w := 0) rfl rfl rfl ?_
      refine r_load (i := 58) (u := 4) (w := 0) rfl rfl rfl ?_
      have h95 := hI88.b1
      refine r_call (i := 59) (u := 8) (v := 159) (w := 0) (b := 0) (na := 771) (C2 := xC159) (as := [(2, 33), vi z68, vi lc]) (s := []) rfl rfl rfl rfl rfl rfl rfl (sp159 (k := z68) (l := lc) hI88 ⟨by omega, by omega⟩ ⟨by omega, by omega⟩ (by omega)  (by omega)) (fun r96 S97 hq98 => ?_)
      obtain ⟨rfl, h99, hI100, hF101, hR102⟩ := hq98
      have hF103 := hF91.trans hF101 rfl rfl
      have hR104 := hR92.trans hR102 rfl
      have e105 := PLx.fr e93 hF101 hR102 rfl rfl rfl
      have e106 := PTx.fr e94 hF101 hR102 rfl rfl rfl
      refine Or.inl ⟨rfl, ?_⟩
      refine r_load (i := 60) (u := 6) (w := 0) rfl rfl rfl ?_
      refine r_const (i := 61) (u := 4) (z := 4) rfl rfl ?_
      refine c_ge (i := 62) (v := 80) rfl ⟨by omega, by omega⟩ ⟨by omega, by omega⟩ (fun h107 => ?_) (fun h108 => ?_)
      · refine r_load (i := 80) (u := 0) (w := 2) rfl rfl rfl ?_
        refine r_const (i := 81) (u := 83) (z := 83) rfl rfl ?_
        refine r_const (i := 82) (u := 4294967293) (z := -3) rfl rfl ?_
        have h109 := hI100.b1
        refine r_call (i := 83) (u := 8) (v := 163) (w := 0) (b := 0) (na := 771) (C2 := xC163) (as := [(2, 33), vi 83, vi (-3)]) (s := []) rfl rfl rfl rfl rfl rfl rfl (sp163 (c := 83) (e := -3) hI100 ⟨by omega, by omega⟩ ⟨by omega, by omega⟩ (by omega)  (by omega)) (fun r110 S111 hq112 => ?_)
        obtain ⟨rfl, h113, hI114, hF115, hR116⟩ := hq112
        have hF117 := hF103.trans hF115 rfl rfl
        have hR118 := hR104.trans hR116 rfl
        have e119 := PLx.fr e105 hF115 hR116 rfl rfl rfl
        have e120 := PTx.fr e106 hF115 hR116 rfl rfl rfl
        refine Or.inl ⟨rfl, ?_⟩
        refine r_load (i := 84) (u := 4) (w := 0) rfl rfl rfl ?_
        refine r_load (i := 85) (u := 6) (w := 0) rfl rfl rfl ?_
        refine r_call (i := 86) (u := 65535) (v := 70) (w := 0) (b := 2) (na := 257) (C2 := xC70) (as := [vi z68]) (s := [vi lc]) rfl rfl rfl rfl rfl rfl rfl (sp70 (k := z68) hI114 ⟨by omega, by omega⟩   (by omega)) (fun r121 S122 hq123 => ?_)
        obtain ⟨z124, rfl, h125, h126, rfl⟩ := hq123
        refine Or.inr (Or.inl ⟨rfl, ?_⟩)
        refine r_iadd (i := 87) rfl ?_
        refine r_store (i := 88) (u := 4) (w := 0) (L1 := [some ((2, 33)), some (vi k), some (vi p), some (vi n1), some (vi (lc + z124)), some (vi j), some (vi z68), none]) rfl rfl rfl rfl ?_
        refine r_iinc (i := 89) (u := 1) (v := 5) (s := 1) (L1 := [some ((2, 33)), some (vi k), some (vi p), some (vi n1), some (vi (lc + z124)), some (vi (j + 1)), some (vi z68), none]) rfl rfl rfl rfl rfl ?_
        refine r_goto (i := 90) (v := 42) rfl ?_
        refine yT_drop (L1 := [some ((2, 33)), some (vi k), some (vi p), some (vi n1), some (vi (lc + z124)), some (vi (j + 1)), none, none]) rfl ?_
        have h127 := hI114.b1
        have h128 := hI114.b0
        have h129 : S111.f 31 1 = S97.f 31 1 := hF115.f rfl
        have h130 : S97.f 31 1 = S85.f 31 1 := hF101.f rfl
        have h131 : S85.f 31 1 = S73.f 31 1 := hF89.f rfl
        have h132 : S73.f 31 1 = S.f 31 1 := hF77.f rfl
        exact ih S111 hI114 hF117 hR118 e119 n1 (lc + z124) (j + 1) ⟨by omega, by omega⟩ ⟨by omega, by omega⟩ ⟨by omega, by omega⟩ (by omega) (by omega) (by omega) (by omega)
      · refine r_load (i := 63) (u := 0) (w := 2) rfl rfl rfl ?_
        refine r_const (i := 64) (u := 10) (z := 10) rfl rfl ?_
        refine r_load (i := 65) (u := 6) (w := 0) rfl rfl rfl ?_
        refine r_call (i := 66) (u := 65535) (v := 64) (w := 0) (b := 2) (na := 257) (C2 := xC64) (as := [vi z68]) (s := [vi 10, (2, 33)]) rfl rfl rfl rfl rfl rfl rfl (sp64 (k := z68) hI100 ⟨by omega, by omega⟩   (by omega)) (fun r133 S134 hq135 => ?_)
        obtain ⟨z136, rfl, h_z136, h138, rfl⟩ := hq135
        refine Or.inr (Or.inl ⟨rfl, ?_⟩)
        refine r_str (i := 67) (v := 18) rfl ?_
        have h139 := slv18
        refine r_load (i := 68) (u := 6) (w := 0) rfl rfl rfl ?_
        refine r_call (i := 69) (u := 65535) (v := 65) (w := 0) (b := 2) (na := 257) (C2 := xC65) (as := [vi z68]) (s := [(6, 18), (6, z136), vi 10, (2, 33)]) rfl rfl rfl rfl rfl rfl rfl (sp65 (k := z68) hI100 ⟨by omega, by omega⟩   (by omega)) (fun r140 S141 hq142 => ?_)
        obtain ⟨z143, rfl, h_z143, h145, rfl⟩ := hq142
        refine Or.inr (Or.inl ⟨rfl, ?_⟩)
        have h146 := hI100.b0
        have h147 : S97.f 31 1 = S85.f 31 1 := hF101.f rfl
        have h148 : S85.f 31 1 = S73.f 31 1 := hF89.f rfl
        have h149 : S73.f 31 1 = S.f 31 1 := hF77.f rfl
        refine r_call (i := 70) (u := 8) (v := 160) (w := 0) (b := 0) (na := 2053) (C2 := xC160) (as := [(2, 33), vi 10, (6, z136), (6, 18), (6, z143)]) (s := []) rfl rfl rfl rfl rfl rfl rfl (sp160 (w0 := 10) (s := z136) (s2 := 18) (s3 := z143) hI100 ⟨by omega, by omega⟩ h_z136 ⟨by decide, by decide⟩ h_z143 (by omega) e105 (by omega)) (fun r150 S151 hq152 => ?_)
        obtain ⟨z153, rfl, h154, h155, h156, e157, hI158, hF159, hR160⟩ := hq152
        have hF161 := hF103.trans hF159 rfl rfl
        have hR162 := hR104.trans hR160 rfl
        refine Or.inr (Or.inl ⟨rfl, ?_⟩)
        refine r_store (i := 71) (u := 7) (w := 0) (L1 := [some ((2, 33)), some (vi k), some (vi p), some (vi n1), some (vi lc), some (vi j), some (vi z68), some (vi z153)]) rfl rfl rfl rfl ?_
        refine r_load (i := 72) (u := 0) (w := 2) rfl rfl rfl ?_
        refine r_const (i := 73) (u := 184) (z := 184) rfl rfl ?_
        refine r_load (i := 74) (u := 7) (w := 0) rfl rfl rfl ?_
        refine r_const (i := 75) (u := 1) (z := 1) rfl rfl ?_
        refine r_load (i := 76) (u := 6) (w := 0) rfl rfl rfl ?_
        refine r_call (i := 77) (u := 65535) (v := 70) (w := 0) (b := 2) (na := 257) (C2 := xC70) (as := [vi z68]) (s := [vi 1, vi z153, vi 184, (2, 33)]) rfl rfl rfl rfl rfl rfl rfl (sp70 (k := z68) hI158 ⟨by omega, by omega⟩   (by omega)) (fun r163 S164 hq165 => ?_)
        obtain ⟨z166, rfl, h167, h168, rfl⟩ := hq165
        refine Or.inr (Or.inl ⟨rfl, ?_⟩)
        refine r_isub (i := 78) rfl ?_
        have h169 := hI158.b1
        have h170 : S151.f 34 1 = S97.f 34 1 := hF159.f rfl
        refine r_call (i := 79) (u := 8) (v := 165) (w := 0) (b := 0) (na := 1028) (C2 := xC165) (as := [(2, 33), vi 184, vi z153, vi (1 - z166)]) (s := []) rfl rfl rfl rfl rfl rfl rfl (sp165 (c := 184) (o := z153) (e := 1 - z166) hI158 ⟨by omega, by omega⟩ ⟨by omega, by omega⟩ ⟨by omega, by omega⟩ (by omega)  (by omega)) (fun r171 S172 hq173 => ?_)
        obtain ⟨rfl, h174, hI175, hF176, hR177⟩ := hq173
        have hF178 := hF161.trans hF176 rfl rfl
        have hR179 := hR162.trans hR177 rfl
        have e180 := PLx.fr e157 hF176 hR177 rfl rfl rfl
        have e181 := PTx.fr e157 hF176 hR177 rfl rfl rfl
        refine Or.inl ⟨rfl, ?_⟩
        refine r_load (i := 80) (u := 0) (w := 2) rfl rfl rfl ?_
        refine r_const (i := 81) (u := 83) (z := 83) rfl rfl ?_
        refine r_const (i := 82) (u := 4294967293) (z := -3) rfl rfl ?_
        have h182 := hI175.b1
        refine r_call (i := 83) (u := 8) (v := 163) (w := 0) (b := 0) (na := 771) (C2 := xC163) (as := [(2, 33), vi 83, vi (-3)]) (s := []) rfl rfl rfl rfl rfl rfl rfl (sp163 (c := 83) (e := -3) hI175 ⟨by omega, by omega⟩ ⟨by omega, by omega⟩ (by omega)  (by omega)) (fun r183 S184 hq185 => ?_)
        obtain ⟨rfl, h186, hI187, hF188, hR189⟩ := hq185
        have hF190 := hF178.trans hF188 rfl rfl
        have hR191 := hR179.trans hR189 rfl
        have e192 := PLx.fr e180 hF188 hR189 rfl rfl rfl
        have e193 := PTx.fr e181 hF188 hR189 rfl rfl rfl
        refine Or.inl ⟨rfl, ?_⟩
        refine r_load (i := 84) (u := 4) (w := 0) rfl rfl rfl ?_
        refine r_load (i := 85) (u := 6) (w := 0) rfl rfl rfl ?_
        refine r_call (i := 86) (u := 65535) (v := 70) (w := 0) (b := 2) (na := 257) (C2 := xC70) (as := [vi z68]) (s := [vi lc]) rfl rfl rfl rfl rfl rfl rfl (sp70 (k := z68) hI187 ⟨by omega, by omega⟩   (by omega)) (fun r194 S195 hq196 => ?_)
        obtain ⟨z197, rfl, h198, h199, rfl⟩ := hq196
        refine Or.inr (Or.inl ⟨rfl, ?_⟩)
        refine r_iadd (i := 87) rfl ?_
        refine r_store (i := 88) (u := 4) (w := 0) (L1 := [some ((2, 33)), some (vi k), some (vi p), some (vi n1), some (vi (lc + z197)), some (vi j), some (vi z68), some (vi z153)]) rfl rfl rfl rfl ?_
        refine r_iinc (i := 89) (u := 1) (v := 5) (s := 1) (L1 := [some ((2, 33)), some (vi k), some (vi p), some (vi n1), some (vi (lc + z197)), some (vi (j + 1)), some (vi z68), some (vi z153)]) rfl rfl rfl rfl rfl ?_
        refine r_goto (i := 90) (v := 42) rfl ?_
        refine yT_drop (L1 := [some ((2, 33)), some (vi k), some (vi p), some (vi n1), some (vi (lc + z197)), some (vi (j + 1)), none, none]) rfl ?_
        have h200 := hI187.b1
        have h201 := hI187.b0
        have h202 : S184.f 31 1 = S172.f 31 1 := hF188.f rfl
        have h203 : S172.f 31 1 = S151.f 31 1 := hF176.f rfl
        exact ih S184 hI187 hF190 hR191 e192 n1 (lc + z197) (j + 1) ⟨by omega, by omega⟩ ⟨by omega, by omega⟩ ⟨by omega, by omega⟩ (by omega) (by omega) (by omega) (by omega)
/-- ProxyForge$Writer.askOn -/
theorem sp142 {G : xk} {S : yS} {d : Nat} (hI : yI S) {k : Int} (h_k : 0 ≤ k ∧ k ≤ 23) {p : Int} (h_p : -2147483648 ≤ p ∧ p ≤ 2147483647) (p_0 : S.f 31 1 + 407 ≤ 60000) (p_1 : S.f 34 1 + 53 ≤ 60000) (e_PL : PL S) (hd : 8 ≤ d) : yT xPr G LY xC142 0 [some ((2, 33)), some (vi k), some (vi p)] [] S d (fun r S' => r = (0, (0, 0)) ∧ (S.f 31 1 ≤ S'.f 31 1 ∧ S'.f 31 1 ≤ S.f 31 1 + 407) ∧ (S.f 34 1 ≤ S'.f 34 1 ∧ S'.f 34 1 ≤ S.f 34 1 + 53) ∧ PL S' ∧ yI S' ∧ yFr [(31, 1), (33, 14), (33, 15), (34, 1), (36, 5)] [37, 100, 101, 102, 103, 105] S S' ∧ yRm [0, 1, 2, 3] S S') := by
  refine yT_pad 5 ?_
  show yT xPr G LY xC142 0 [some ((2, 33)), some (vi k), some (vi p), none, none, none, none, none] [] S d _
  obtain ⟨d, rfl⟩ : ∃ q, d = q + 1 := ⟨d - 1, by omega⟩
  have hF : yFr [(31, 1), (33, 14), (33, 15), (34, 1), (36, 5)] [37, 100, 101, 102, 103, 105] S S := yFr.refl S
  have hR : yRm [0, 1, 2, 3] S S := yRm.refl S
  have h1 := hI.b0
  have h2 := hI.b1
  refine r_load (i := 0) (u := 0) (w := 2) rfl rfl rfl ?_
  refine r_const (i := 1) (u := 42) (z := 42) rfl rfl ?_
  refine r_const (i := 2) (u := 1) (z := 1) rfl rfl ?_
  refine r_call (i := 3) (u := 8) (v := 163) (w := 0) (b := 0) (na := 771) (C2 := xC163) (as := [(2, 33), vi 42, vi 1]) (s := []) rfl rfl rfl rfl rfl rfl rfl (sp163 (c := 42) (e := 1) hI ⟨by omega, by omega⟩ ⟨by omega, by omega⟩ (by omega)  (by omega)) (fun r3 S4 hq5 => ?_)
  obtain ⟨rfl, h6, hI7, hF8, hR9⟩ := hq5
  have hF10 := hF.trans hF8 rfl rfl
  have hR11 := hR.trans hR9 rfl
  have e12 := PLx.fr e_PL hF8 hR9 rfl rfl rfl
  have e13 := PTx.fr e_PL hF8 hR9 rfl rfl rfl
  refine Or.inl ⟨rfl, ?_⟩
  refine r_load (i := 4) (u := 0) (w := 2) rfl rfl rfl ?_
  refine r_const (i := 5) (u := 180) (z := 180) rfl rfl ?_
  refine r_load (i := 6) (u := 0) (w := 2) rfl rfl rfl ?_
  have h14 := hI7.b0
  have h15 : S4.f 31 1 = S.f 31 1 := hF8.f rfl
  refine r_call (i := 7) (u := 8) (v := 146) (w := 0) (b := 0) (na := 257) (C2 := xC146) (as := [(2, 33)]) (s := [vi 180, (2, 33)]) rfl rfl rfl rfl rfl rfl rfl (sp146  hI7  (by omega) e12 (by omega)) (fun r16 S17 hq18 => ?_)
  obtain ⟨z19, rfl, h20, h21, h22, e23, hI24, hF25, hR26⟩ := hq18
  have hF27 := hF10.trans hF25 rfl rfl
  have hR28 := hR11.trans hR26 rfl
  refine Or.inr (Or.inl ⟨rfl, ?_⟩)
  refine r_const (i := 8) (u := 0) (z := 0) rfl rfl ?_
  have h29 := hI24.b1
  have h30 : S17.f 34 1 = S4.f 34 1 := hF25.f rfl
  refine r_call (i := 9) (u := 8) (v := 165) (w := 0) (b := 0) (na := 1028) (C2 := xC165) (as := [(2, 33), vi 180, vi z19, vi 0]) (s := []) rfl rfl rfl rfl rfl rfl rfl (sp165 (c := 180) (o := z19) (e := 0) hI24 ⟨by omega, by omega⟩ ⟨by omega, by omega⟩ ⟨by omega, by omega⟩ (by omega)  (by omega)) (fun r31 S32 hq33 => ?_)
  obtain ⟨rfl, h34, hI35, hF36, hR37⟩ := hq33
  have hF38 := hF27.trans hF36 rfl rfl
  have hR39 := hR28.trans hR37 rfl
  have e40 := PLx.fr e23 hF36 hR37 rfl rfl rfl
  have e41 := PTx.fr e23 hF36 hR37 rfl rfl rfl
  refine Or.inl ⟨rfl, ?_⟩
  refine r_load (i := 10) (u := 0) (w := 2) rfl rfl rfl ?_
  refine r_const (i := 11) (u := 42) (z := 42) rfl rfl ?_
  refine r_const (i := 12) (u := 1) (z := 1) rfl rfl ?_
  have h42 := hI35.b1
  refine r_call (i := 13) (u := 8) (v := 163) (w := 0) (b := 0) (na := 771) (C2 := xC163) (as := [(2, 33), vi 42, vi 1]) (s := []) rfl rfl rfl rfl rfl rfl rfl (sp163 (c := 42) (e := 1) hI35 ⟨by omega, by omega⟩ ⟨by omega, by omega⟩ (by omega)  (by omega)) (fun r43 S44 hq45 => ?_)
  obtain ⟨rfl, h46, hI47, hF48, hR49⟩ := hq45
  have hF50 := hF38.trans hF48 rfl rfl
  have hR51 := hR39.trans hR49 rfl
  have e52 := PLx.fr e40 hF48 hR49 rfl rfl rfl
  have e53 := PTx.fr e41 hF48 hR49 rfl rfl rfl
  refine Or.inl ⟨rfl, ?_⟩
  refine r_load (i := 14) (u := 0) (w := 2) rfl rfl rfl ?_
  refine r_load (i := 15) (u := 1) (w := 0) rfl rfl rfl ?_
  have h54 := hI47.b1
  refine r_call (i := 16) (u := 8) (v := 168) (w := 0) (b := 0) (na := 514) (C2 := xC168) (as := [(2, 33), vi k]) (s := []) rfl rfl rfl rfl rfl rfl rfl (sp168 (k := k) hI47 ⟨by omega, by omega⟩ (by omega)  (by omega)) (fun r55 S56 hq57 => ?_)
  obtain ⟨rfl, h58, hI59, hF60, hR61⟩ := hq57
  have hF62 := hF50.trans hF60 rfl rfl
  have hR63 := hR51.trans hR61 rfl
  have e64 := PLx.fr e52 hF60 hR61 rfl rfl rfl
  have e65 := PTx.fr e53 hF60 hR61 rfl rfl rfl
  refine Or.inl ⟨rfl, ?_⟩
  refine r_load (i := 17) (u := 2) (w := 0) rfl rfl rfl ?_
  refine r_call (i := 18) (u := 65535) (v := 67) (w := 0) (b := 2) (na := 513) (C2 := xC67) (as := [vi p]) (s := []) rfl rfl rfl rfl rfl rfl rfl (sp67 (p := p) hI59 ⟨by omega, by omega⟩   (by omega)) (fun r66 S67 hq68 => ?_)
  obtain ⟨z69, rfl, h70, h71, hmn72, rfl⟩ := hq68
  refine Or.inr (Or.inl ⟨rfl, ?_⟩)
  refine r_store (i := 19) (u := 3) (w := 0) (L1 := [some ((2, 33)), some (vi k), some (vi p), some (vi z69), none, none, none, none]) rfl rfl rfl rfl ?_
  refine r_load (i := 20) (u := 3) (w := 0) rfl rfl rfl ?_
  refine z_ne (i := 21) (v := 27) rfl ⟨by omega, by omega⟩ (fun h73 => ?_) (fun h74 => ?_)
  · refine r_load (i := 27) (u := 0) (w := 2) rfl rfl rfl ?_
    refine r_load (i := 28) (u := 3) (w := 0) rfl rfl rfl ?_
    have h75 := hI59.b1
    refine r_call (i := 29) (u := 8) (v := 168) (w := 0) (b := 0) (na := 514) (C2 := xC168) (as := [(2, 33), vi z69]) (s := []) rfl rfl rfl rfl rfl rfl rfl (sp168 (k := z69) hI59 ⟨by omega, by omega⟩ (by omega)  (by omega)) (fun r76 S77 hq78 => ?_)
    obtain ⟨rfl, h79, hI80, hF81, hR82⟩ := hq78
    have hF83 := hF62.trans hF81 rfl rfl
    have hR84 := hR63.trans hR82 rfl
    have e85 := PLx.fr e64 hF81 hR82 rfl rfl rfl
    have e86 := PTx.fr e65 hF81 hR82 rfl rfl rfl
    refine Or.inl ⟨rfl, ?_⟩
    refine r_load (i := 30) (u := 0) (w := 2) rfl rfl rfl ?_
    refine r_const (i := 31) (u := 189) (z := 189) rfl rfl ?_
    refine r_load (i := 32) (u := 0) (w := 2) rfl rfl rfl ?_
    refine r_getf (i := 33) (v := 6) (w := 8) (x := (2, 36)) rfl ly33 rfl rfl fun _ => ?_
    refine r_const (i := 34) (u := 0) (z := 0) rfl rfl ?_
    have h88 := hI80.b0
    have h89 : S77.f 31 1 = S56.f 31 1 := hF81.f rfl
    have h90 : S56.f 31 1 = S44.f 31 1 := hF60.f rfl
    have h91 : S44.f 31 1 = S32.f 31 1 := hF48.f rfl
    have h92 : S32.f 31 1 = S17.f 31 1 := hF36.f rfl
    refine r_call (i := 35) (u := 9) (v := 89) (w := 0) (b := 0) (na := 770) (C2 := xC89) (as := [(2, 36), vi 0]) (s := [vi 189, (2, 33)]) rfl rfl rfl rfl rfl rfl rfl (sp89 (t := 0) hI80 ⟨by omega, by omega⟩ (by omega) e85 (by omega)) (fun r93 S94 hq95 => ?_)
    obtain ⟨z96, rfl, h97, h98, h99, e100, hI101, hF102, hR103⟩ := hq95
    have hF104 := hF83.trans hF102 rfl rfl
    have hR105 := hR84.trans hR103 rfl
    refine Or.inr (Or.inl ⟨rfl, ?_⟩)
    refine r_const (i := 36) (u := 0) (z := 0) rfl rfl ?_
    have h106 := hI101.b1
    have h107 : S94.f 34 1 = S77.f 34 1 := hF102.f rfl
    refine r_call (i := 37) (u := 8) (v := 165) (w := 0) (b := 0) (na := 1028) (C2 := xC165) (as := [(2, 33), vi 189, vi z96, vi 0]) (s := []) rfl rfl rfl rfl rfl rfl rfl (sp165 (c := 189) (o := z96) (e := 0) hI101 ⟨by omega, by omega⟩ ⟨by omega, by omega⟩ ⟨by omega, by omega⟩ (by omega)  (by omega)) (fun r108 S109 hq110 => ?_)
    obtain ⟨rfl, h111, hI112, hF113, hR114⟩ := hq110
    have hF115 := hF104.trans hF113 rfl rfl
    have hR116 := hR105.trans hR114 rfl
    have e117 := PLx.fr e100 hF113 hR114 rfl rfl rfl
    have e118 := PTx.fr e100 hF113 hR114 rfl rfl rfl
    refine Or.inl ⟨rfl, ?_⟩
    refine r_const (i := 38) (u := 1) (z := 1) rfl rfl ?_
    refine r_store (i := 39) (u := 4) (w := 0) (L1 := [some ((2, 33)), some (vi k), some (vi p), some (vi z69), some (vi 1), none, none, none]) rfl rfl rfl rfl ?_
    refine r_const (i := 40) (u := 0) (z := 0) rfl rfl ?_
    refine r_store (i := 41) (u := 5) (w := 0) (L1 := [some ((2, 33)), some (vi k), some (vi p), some (vi z69), some (vi 1), some (vi 0), none, none]) rfl rfl rfl rfl ?_
    have h119 := hI112.b1
    have h120 := hI112.b0
    have h121 : S109.f 31 1 = S94.f 31 1 := hF113.f rfl
    exact lp142_42 h_k h_p p_0 p_1 hd _ S109 hI112 hF115 hR116 e117 z69 1 0 ⟨by omega, by omega⟩ ⟨by omega, by omega⟩ ⟨by omega, by omega⟩ (by omega) (by omega) (by omega) (Int.lt_succ_toNat _)
  · refine r_load (i := 22) (u := 0) (w := 2) rfl rfl rfl ?_
    refine r_const (i := 23) (u := 1) (z := 1) rfl rfl ?_
    refine r_const (i := 24) (u := 1) (z := 1) rfl rfl ?_
    have h122 := hI59.b1
    refine r_call (i := 25) (u := 8) (v := 163) (w := 0) (b := 0) (na := 771) (C2 := xC163) (as := [(2, 33), vi 1, vi 1]) (s := []) rfl rfl rfl rfl rfl rfl rfl (sp163 (c := 1) (e := 1) hI59 ⟨by omega, by omega⟩ ⟨by omega, by omega⟩ (by omega)  (by omega)) (fun r123 S124 hq125 => ?_)
    obtain ⟨rfl, h126, hI127, hF128, hR129⟩ := hq125
    have hF130 := hF62.trans hF128 rfl rfl
    have hR131 := hR63.trans hR129 rfl
    have e132 := PLx.fr e64 hF128 hR129 rfl rfl rfl
    have e133 := PTx.fr e65 hF128 hR129 rfl rfl rfl
    refine Or.inl ⟨rfl, ?_⟩
    refine r_goto (i := 26) (v := 38) rfl ?_
    refine r_const (i := 38) (u := 1) (z := 1) rfl rfl ?_
    refine r_store (i := 39) (u := 4) (w := 0) (L1 := [some ((2, 33)), some (vi k), some (vi p), some (vi z69), some (vi 1), none, none, none]) rfl rfl rfl rfl ?_
    refine r_const (i := 40) (u := 0) (z := 0) rfl rfl ?_
    refine r_store (i := 41) (u := 5) (w := 0) (L1 := [some ((2, 33)), some (vi k), some (vi p), some (vi z69), some (vi 1), some (vi 0), none, none]) rfl rfl rfl rfl ?_
    have h134 := hI127.b1
    have h135 := hI127.b0
    have h136 : S124.f 31 1 = S56.f 31 1 := hF128.f rfl
    have h137 : S56.f 31 1 = S44.f 31 1 := hF60.f rfl
    have h138 : S44.f 31 1 = S32.f 31 1 := hF48.f rfl
    have h139 : S32.f 31 1 = S17.f 31 1 := hF36.f rfl
    exact lp142_42 h_k h_p p_0 p_1 hd _ S124 hI127 hF130 hR131 e132 z69 1 0 ⟨by omega, by omega⟩ ⟨by omega, by omega⟩ ⟨by omega, by omega⟩ (by omega) (by omega) (by omega) (Int.lt_succ_toNat _)
/-- ProxyForge$Writer.callSuper -/
theorem sp145 {G : xk} {S : yS} {d : Nat} (hI : yI S) {m : Int} (h_m : 0 ≤ m ∧ m ≤ 59) (p_0 : S.f 31 1 + 42 ≤ 60000) (p_1 : S.f 34 1 + 12 ≤ 60000) (e_PL : PL S) (e_FA : FA S) (hd : 8 ≤ d) : yT xPr G LY xC145 0 [some ((2, 33)), some (vi m)] [] S d (fun r S' => r = (0, (0, 0)) ∧ (S.f 31 1 ≤ S'.f 31 1 ∧ S'.f 31 1 ≤ S.f 31 1 + 42) ∧ (S.f 34 1 ≤ S'.f 34 1 ∧ S'.f 34 1 ≤ S.f 34 1 + 12) ∧ PL S' ∧ FA S' ∧ yI S' ∧ yFr [(31, 1), (33, 14), (33, 15), (34, 1), (36, 5)] [37, 100, 101, 102, 103, 105] S S' ∧ yRm [0, 1, 2, 3] S S') := by
  refine yT_pad 1 ?_
  show yT xPr G LY xC145 0 [some ((2, 33)), some (vi m), none] [] S d _
  obtain ⟨d, rfl⟩ : ∃ q, d = q + 1 := ⟨d - 1, by omega⟩
  have hF : yFr [(31, 1), (33, 14), (33, 15), (34, 1), (36, 5)] [37, 100, 101, 102, 103, 105] S S := yFr.refl S
  have hR : yRm [0, 1, 2, 3] S S := yRm.refl S
  have h1 := hI.b0
  have h2 := hI.b1
  refine r_load (i := 0) (u := 0) (w := 2) rfl rfl rfl ?_
  refine r_getf (i := 1) (v := 2) (w := 8) (x := (2, 17)) rfl ly33 rfl rfl fun _ => ?_
  refine r_load (i := 2) (u := 0) (w := 2) rfl rfl rfl ?_
  refine r_getf (i := 3) (v := 1) (w := 8) (x := (2, 9)) rfl ly33 rfl rfl fun _ => ?_
  refine r_getf (i := 4) (v := 1) (w := 2) (x := (2, 10)) rfl ly9 rfl rfl fun _ => ?_
  refine r_load (i := 5) (u := 1) (w := 0) rfl rfl rfl ?_
  refine a_int (i := 6) rfl ly10 rfl (by omega) (by omega) fun h6 => ?_
  have h7 := hI.a ta10 m.toNat
  refine r_call (i := 7) (u := 3) (v := 56) (w := 0) (b := 0) (na := 770) (C2 := xC56) (as := [(2, 17), vi (S.a 10 m.toNat)]) (s := []) rfl rfl rfl rfl rfl rfl rfl (sp56 (t := S.a 10 m.toNat) hI ⟨by omega, by omega⟩  e_FA (by omega)) (fun r8 S9 hq10 => ?_)
  obtain ⟨z11, rfl, h12, h13, rfl⟩ := hq10
  refine Or.inr (Or.inl ⟨rfl, ?_⟩)
  refine r_store (i := 8) (u := 2) (w := 0) (L1 := [some ((2, 33)), some (vi m), some (vi z11)]) rfl rfl rfl rfl ?_
  refine r_load (i := 9) (u := 0) (w := 2) rfl rfl rfl ?_
  refine r_const (i := 10) (u := 42) (z := 42) rfl rfl ?_
  refine r_const (i := 11) (u := 1) (z := 1) rfl rfl ?_
  refine r_call (i := 12) (u := 8) (v := 163) (w := 0) (b := 0) (na := 771) (C2 := xC163) (as := [(2, 33), vi 42, vi 1]) (s := []) rfl rfl rfl rfl rfl rfl rfl (sp163 (c := 42) (e := 1) hI ⟨by omega, by omega⟩ ⟨by omega, by omega⟩ (by omega)  (by omega)) (fun r14 S15 hq16 => ?_)
  obtain ⟨rfl, h17, hI18, hF19, hR20⟩ := hq16
  have hF21 := hF.trans hF19 rfl rfl
  have hR22 := hR.trans hR20 rfl
  have e23 := PLx.fr e_PL hF19 hR20 rfl rfl rfl
  have e24 := FAx.fr e_FA hF19 rfl rfl
  have e25 := PTx.fr e_PL hF19 hR20 rfl rfl rfl
  refine Or.inl ⟨rfl, ?_⟩
  refine r_load (i := 13) (u := 0) (w := 2) rfl rfl rfl ?_
  refine r_load (i := 14) (u := 0) (w := 2) rfl rfl rfl ?_
  refine r_getf (i := 15) (v := 1) (w := 8) (x := (2, 9)) rfl ly33 rfl rfl fun _ => ?_
  refine r_getf (i := 16) (v := 4) (w := 2) (x := (2, 13)) rfl ly9 rfl rfl fun _ => ?_
  refine r_load (i := 17) (u := 1) (w := 0) rfl rfl rfl ?_
  refine a_int (i := 18) rfl ly13 rfl (by omega) (by omega) fun h28 => ?_
  have kp29 := hI18.k13 m.toNat
  have h30 : S15.a 13 m.toNat = S.a 13 m.toNat := hF19.a rfl _
  refine r_const (i := 19) (u := 1) (z := 1) rfl rfl ?_
  have h31 := hI18.b1
  refine r_call (i := 20) (u := 8) (v := 158) (w := 0) (b := 0) (na := 1795) (C2 := xC158) (as := [(2, 33), vi (S15.a 13 m.toNat), vi 1]) (s := []) rfl rfl rfl rfl rfl rfl rfl (sp158 (p := S15.a 13 m.toNat) (fl := 1) hI18 ⟨by omega, by omega⟩ ⟨by omega, by omega⟩ (by omega)  (by omega)) (fun r32 S33 hq34 => ?_)
  obtain ⟨rfl, h35, hI36, hF37, hR38⟩ := hq34
  have hF39 := hF21.trans hF37 rfl rfl
  have hR40 := hR22.trans hR38 rfl
  have e41 := PLx.fr e23 hF37 hR38 rfl rfl rfl
  have e42 := FAx.fr e24 hF37 rfl rfl
  have e43 := PTx.fr e25 hF37 hR38 rfl rfl rfl
  refine Or.inl ⟨rfl, ?_⟩
  refine r_load (i := 21) (u := 2) (w := 0) rfl rfl rfl ?_
  refine r_const (i := 22) (u := 4294967295) (z := -1) rfl rfl ?_
  refine c_ne (i := 23) (v := 37) rfl ⟨by omega, by omega⟩ ⟨by omega, by omega⟩ (fun h44 => ?_) (fun h45 => ?_)
  · refine r_load (i := 37) (u := 0) (w := 2) rfl rfl rfl ?_
    refine r_const (i := 38) (u := 183) (z := 183) rfl rfl ?_
    refine r_load (i := 39) (u := 0) (w := 2) rfl rfl rfl ?_
    refine r_const (i := 40) (u := 11) (z := 11) rfl rfl ?_
    refine r_load (i := 41) (u := 2) (w := 0) rfl rfl rfl ?_
    have h46 := hI36.b0
    have h47 : S33.f 31 1 = S15.f 31 1 := hF37.f rfl
    have h48 : S15.f 31 1 = S.f 31 1 := hF19.f rfl
    refine r_call (i := 42) (u := 8) (v := 167) (w := 0) (b := 0) (na := 1027) (C2 := xC167) (as := [(2, 33), vi 11, vi z11]) (s := [vi 183, (2, 33)]) rfl rfl rfl rfl rfl rfl rfl (sp167 (w0 := 11) (t := z11) hI36 ⟨by omega, by omega⟩ ⟨by omega, by omega⟩ (by omega) e41 (by omega)) (fun r49 S50 hq51 => ?_)
    obtain ⟨z52, rfl, h53, h54, h55, e56, hI57, hF58, hR59⟩ := hq51
    have hF60 := hF39.trans hF58 rfl rfl
    have hR61 := hR40.trans hR59 rfl
    have e62 := FAx.fr e42 hF58 rfl rfl
    refine Or.inr (Or.inl ⟨rfl, ?_⟩)
    refine r_load (i := 43) (u := 0) (w := 2) rfl rfl rfl ?_
    refine r_load (i := 44) (u := 1) (w := 0) rfl rfl rfl ?_
    refine r_call (i := 45) (u := 8) (v := 148) (w := 0) (b := 0) (na := 514) (C2 := xC148) (as := [(2, 33), vi m]) (s := [vi z52, vi 183, (2, 33)]) rfl rfl rfl rfl rfl rfl rfl (sp148 (m := m) hI57 ⟨by omega, by omega⟩   (by omega)) (fun r63 S64 hq65 => ?_)
    obtain ⟨z66, rfl, h67, h68, rfl⟩ := hq65
    refine Or.inr (Or.inl ⟨rfl, ?_⟩)
    have h69 := hI57.b1
    have h70 : S50.f 34 1 = S33.f 34 1 := hF58.f rfl
    refine r_call (i := 46) (u := 8) (v := 165) (w := 0) (b := 0) (na := 1028) (C2 := xC165) (as := [(2, 33), vi 183, vi z52, vi z66]) (s := []) rfl rfl rfl rfl rfl rfl rfl (sp165 (c := 183) (o := z52) (e := z66) hI57 ⟨by omega, by omega⟩ ⟨by omega, by omega⟩ ⟨by omega, by omega⟩ (by omega)  (by omega)) (fun r71 S72 hq73 => ?_)
    obtain ⟨rfl, h74, hI75, hF76, hR77⟩ := hq73
    have hF78 := hF60.trans hF76 rfl rfl
    have hR79 := hR61.trans hR77 rfl
    have e80 := FAx.fr e62 hF76 rfl rfl
    have e81 := PLx.fr e56 hF76 hR77 rfl rfl rfl
    have e82 := PTx.fr e56 hF76 hR77 rfl rfl rfl
    refine Or.inl ⟨rfl, ?_⟩
    have h83 := hI75.b0
    have h84 : S72.f 31 1 = S50.f 31 1 := hF76.f rfl
    have h85 := hI75.b1
    exact r_ret0 (i := 47) rfl ⟨rfl, (by omega), (by omega), e81, e80, hI75, hF78, hR79⟩
  · refine r_load (i := 24) (u := 0) (w := 2) rfl rfl rfl ?_
    refine r_const (i := 25) (u := 183) (z := 183) rfl rfl ?_
    refine r_load (i := 26) (u := 0) (w := 2) rfl rfl rfl ?_
    refine r_const (i := 27) (u := 10) (z := 10) rfl rfl ?_
    refine r_load (i := 28) (u := 0) (w := 2) rfl rfl rfl ?_
    refine r_getf (i := 29) (v := 2) (w := 8) (x := (2, 17)) rfl ly33 rfl rfl fun _ => ?_
    have h87 := hI36.f tf17_6
    have h88 : S33.f 17 6 = S15.f 17 6 := hF37.f rfl
    have h89 : S15.f 17 6 = S.f 17 6 := hF19.f rfl
    refine r_getf (i := 30) (v := 6) (w := 3) (x := vi (S33.f 17 6)) rfl ly17 rfl rfl fun h90 => ?_
    have h90 : Rg (S33.f 17 6) := h90
    have h91 := hI36.b0
    have h92 : S33.f 31 1 = S15.f 31 1 := hF37.f rfl
    have h93 : S15.f 31 1 = S.f 31 1 := hF19.f rfl
    refine r_call (i := 31) (u := 8) (v := 167) (w := 0) (b := 0) (na := 1027) (C2 := xC167) (as := [(2, 33), vi 10, vi (S33.f 17 6)]) (s := [vi 183, (2, 33)]) rfl rfl rfl rfl rfl rfl rfl (sp167 (w0 := 10) (t := S33.f 17 6) hI36 ⟨by omega, by omega⟩ ⟨by omega, by omega⟩ (by omega) e41 (by omega)) (fun r94 S95 hq96 => ?_)
    obtain ⟨z97, rfl, h98, h99, h100, e101, hI102, hF103, hR104⟩ := hq96
    have hF105 := hF39.trans hF103 rfl rfl
    have hR106 := hR40.trans hR104 rfl
    have e107 := FAx.fr e42 hF103 rfl rfl
    refine Or.inr (Or.inl ⟨rfl, ?_⟩)
    refine r_load (i := 32) (u := 0) (w := 2) rfl rfl rfl ?_
    refine r_load (i := 33) (u := 1) (w := 0) rfl rfl rfl ?_
    refine r_call (i := 34) (u := 8) (v := 148) (w := 0) (b := 0) (na := 514) (C2 := xC148) (as := [(2, 33), vi m]) (s := [vi z97, vi 183, (2, 33)]) rfl rfl rfl rfl rfl rfl rfl (sp148 (m := m) hI102 ⟨by omega, by omega⟩   (by omega)) (fun r108 S109 hq110 => ?_)
    obtain ⟨z111, rfl, h112, h113, rfl⟩ := hq110
    refine Or.inr (Or.inl ⟨rfl, ?_⟩)
    have h114 := hI102.b1
    have h115 : S95.f 34 1 = S33.f 34 1 := hF103.f rfl
    refine r_call (i := 35) (u := 8) (v := 165) (w := 0) (b := 0) (na := 1028) (C2 := xC165) (as := [(2, 33), vi 183, vi z97, vi z111]) (s := []) rfl rfl rfl rfl rfl rfl rfl (sp165 (c := 183) (o := z97) (e := z111) hI102 ⟨by omega, by omega⟩ ⟨by omega, by omega⟩ ⟨by omega, by omega⟩ (by omega)  (by omega)) (fun r116 S117 hq118 => ?_)
    obtain ⟨rfl, h119, hI120, hF121, hR122⟩ := hq118
    have hF123 := hF105.trans hF121 rfl rfl
    have hR124 := hR106.trans hR122 rfl
    have e125 := FAx.fr e107 hF121 rfl rfl
    have e126 := PLx.fr e101 hF121 hR122 rfl rfl rfl
    have e127 := PTx.fr e101 hF121 hR122 rfl rfl rfl
    refine Or.inl ⟨rfl, ?_⟩
    refine r_goto (i := 36) (v := 47) rfl ?_
    have h128 := hI120.b0
    have h129 : S117.f 31 1 = S95.f 31 1 := hF121.f rfl
    have h130 := hI120.b1
    exact r_ret0 (i := 47) rfl ⟨rfl, (by omega), (by omega), e126, e125, hI120, hF123, hR124⟩
/-- ProxyForge$Writer.callDispatched -/
theorem sp144 {G : xk} {S : yS} {d : Nat} (hI : yI S) {m : Int} (h_m : 0 ≤ m ∧ m ≤ 59) (p_0 : S.f 31 1 + 74 ≤ 60000) (p_1 : S.f 34 1 + 16 ≤ 60000) (e_PL : PL S) (hd : 8 ≤ d) : yT xPr G LY xC144 0 [some ((2, 33)), some (vi m)] [] S d (fun r S' => r = (0, (0, 0)) ∧ (S.f 31 1 ≤ S'.f 31 1 ∧ S'.f 31 1 ≤ S.f 31 1 + 74) ∧ (S.f 34 1 ≤ S'.f 34 1 ∧ S'.f 34 1 ≤ S.f 34 1 + 16) ∧ PL S' ∧ yI S' ∧ yFr [(31, 1), (33, 14), (33, 15), (34, 1), (36, 5)] [37, 100, 101, 102, 103, 105] S S' ∧ yRm [0, 1, 2, 3] S S') := by
  refine yT_pad 1 ?_
  show yT xPr G LY xC144 0 [some ((2, 33)), some (vi m), none] [] S d _
  obtain ⟨d, rfl⟩ : ∃ q, d = q + 1 := ⟨d - 1, by omega⟩
  have hF : yFr [(31, 1), (33, 14), (33, 15), (34, 1), (36, 5)] [37, 100, 101, 102, 103, 105] S S := yFr.refl S
  have hR : yRm [0, 1, 2, 3] S S := yRm.refl S
  have h1 := hI.b0
  have h2 := hI.b1
  refine r_load (i := 0) (u := 0) (w := 2) rfl rfl rfl ?_
  refine r_getf (i := 1) (v := 1) (w := 8) (x := (2, 9)) rfl ly33 rfl rfl fun _ => ?_
  refine r_getf (i := 2) (v := 1) (w := 2) (x := (2, 10)) rfl ly9 rfl rfl fun _ => ?_
  refine r_load (i := 3) (u := 1) (w := 0) rfl rfl rfl ?_
  refine a_int (i := 4) rfl ly10 rfl (by omega) (by omega) fun h5 => ?_
  have h6 := hI.a ta10 m.toNat
  refine r_store (i := 5) (u := 2) (w := 0) (L1 := [some ((2, 33)), some (vi m), some (vi (S.a 10 m.toNat))]) rfl rfl rfl rfl ?_
  refine r_load (i := 6) (u := 0) (w := 2) rfl rfl rfl ?_
  refine r_load (i := 7) (u := 2) (w := 0) rfl rfl rfl ?_
  refine r_call (i := 8) (u := 8) (v := 147) (w := 0) (b := 0) (na := 514) (C2 := xC147) (as := [(2, 33), vi (S.a 10 m.toNat)]) (s := []) rfl rfl rfl rfl rfl rfl rfl (sp147 (t := S.a 10 m.toNat) hI ⟨by omega, by omega⟩ (by omega) (by omega) e_PL (by omega)) (fun r7 S8 hq9 => ?_)
  obtain ⟨rfl, h10, h11, e12, hI13, hF14, hR15⟩ := hq9
  have hF16 := hF.trans hF14 rfl rfl
  have hR17 := hR.trans hR15 rfl
  refine Or.inl ⟨rfl, ?_⟩
  refine r_load (i := 9) (u := 0) (w := 2) rfl rfl rfl ?_
  refine r_load (i := 10) (u := 0) (w := 2) rfl rfl rfl ?_
  refine r_getf (i := 11) (v := 1) (w := 8) (x := (2, 9)) rfl ly33 rfl rfl fun _ => ?_
  refine r_getf (i := 12) (v := 4) (w := 2) (x := (2, 13)) rfl ly9 rfl rfl fun _ => ?_
  refine r_load (i := 13) (u := 1) (w := 0) rfl rfl rfl ?_
  refine a_int (i := 14) rfl ly13 rfl (by omega) (by omega) fun h20 => ?_
  have kp21 := hI13.k13 m.toNat
  have h22 : S8.a 13 m.toNat = S.a 13 m.toNat := hF14.a rfl _
  refine r_const (i := 15) (u := 1) (z := 1) rfl rfl ?_
  have h23 := hI13.b1
  refine r_call (i := 16) (u := 8) (v := 158) (w := 0) (b := 0) (na := 1795) (C2 := xC158) (as := [(2, 33), vi (S8.a 13 m.toNat), vi 1]) (s := []) rfl rfl rfl rfl rfl rfl rfl (sp158 (p := S8.a 13 m.toNat) (fl := 1) hI13 ⟨by omega, by omega⟩ ⟨by omega, by omega⟩ (by omega)  (by omega)) (fun r24 S25 hq26 => ?_)
  obtain ⟨rfl, h27, hI28, hF29, hR30⟩ := hq26
  have hF31 := hF16.trans hF29 rfl rfl
  have hR32 := hR17.trans hR30 rfl
  have e33 := PLx.fr e12 hF29 hR30 rfl rfl rfl
  have e34 := PTx.fr e12 hF29 hR30 rfl rfl rfl
  refine Or.inl ⟨rfl, ?_⟩
  refine r_load (i := 17) (u := 0) (w := 2) rfl rfl rfl ?_
  refine r_getf (i := 18) (v := 0) (w := 8) (x := (2, 1)) rfl ly33 rfl rfl fun _ => ?_
  refine r_getf (i := 19) (v := 0) (w := 1) (x := (2, 2)) rfl ly1 rfl rfl fun _ => ?_
  refine r_load (i := 20) (u := 2) (w := 0) rfl rfl rfl ?_
  refine a_bool (i := 21) rfl ly2 rfl (by omega) (by omega) fun h37 => ?_
  have h38 : S25.a 2 (S.a 10 m.toNat).toNat = S8.a 2 (S.a 10 m.toNat).toNat := hF29.a rfl _
  have h39 : S8.a 2 (S.a 10 m.toNat).toNat = S.a 2 (S.a 10 m.toNat).toNat := hF14.a rfl _
  refine z_eq (i := 22) (v := 49) rfl ⟨by omega, by omega⟩ (fun h40 => ?_) (fun h41 => ?_)
  · refine r_load (i := 49) (u := 0) (w := 2) rfl rfl rfl ?_
    refine r_const (i := 50) (u := 182) (z := 182) rfl rfl ?_
    refine r_load (i := 51) (u := 0) (w := 2) rfl rfl rfl ?_
    refine r_const (i := 52) (u := 10) (z := 10) rfl rfl ?_
    refine r_load (i := 53) (u := 2) (w := 0) rfl rfl rfl ?_
    have h42 := hI28.b0
    have h43 : S25.f 31 1 = S8.f 31 1 := hF29.f rfl
    refine r_call (i := 54) (u := 8) (v := 167) (w := 0) (b := 0) (na := 1027) (C2 := xC167) (as := [(2, 33), vi 10, vi (S.a 10 m.toNat)]) (s := [vi 182, (2, 33)]) rfl rfl rfl rfl rfl rfl rfl (sp167 (w0 := 10) (t := S.a 10 m.toNat) hI28 ⟨by omega, by omega⟩ ⟨by omega, by omega⟩ (by omega) e33 (by omega)) (fun r44 S45 hq46 => ?_)
    obtain ⟨z47, rfl, h48, h49, h50, e51, hI52, hF53, hR54⟩ := hq46
    have hF55 := hF31.trans hF53 rfl rfl
    have hR56 := hR32.trans hR54 rfl
    refine Or.inr (Or.inl ⟨rfl, ?_⟩)
    refine r_load (i := 55) (u := 0) (w := 2) rfl rfl rfl ?_
    refine r_load (i := 56) (u := 1) (w := 0) rfl rfl rfl ?_
    refine r_call (i := 57) (u := 8) (v := 148) (w := 0) (b := 0) (na := 514) (C2 := xC148) (as := [(2, 33), vi m]) (s := [vi z47, vi 182, (2, 33)]) rfl rfl rfl rfl rfl rfl rfl (sp148 (m := m) hI52 ⟨by omega, by omega⟩   (by omega)) (fun r57 S58 hq59 => ?_)
    obtain ⟨z60, rfl, h61, h62, rfl⟩ := hq59
    refine Or.inr (Or.inl ⟨rfl, ?_⟩)
    have h63 := hI52.b1
    have h64 : S45.f 34 1 = S25.f 34 1 := hF53.f rfl
    refine r_call (i := 58) (u := 8) (v := 165) (w := 0) (b := 0) (na := 1028) (C2 := xC165) (as := [(2, 33), vi 182, vi z47, vi z60]) (s := []) rfl rfl rfl rfl rfl rfl rfl (sp165 (c := 182) (o := z47) (e := z60) hI52 ⟨by omega, by omega⟩ ⟨by omega, by omega⟩ ⟨by omega, by omega⟩ (by omega)  (by omega)) (fun r65 S66 hq67 => ?_)
    obtain ⟨rfl, h68, hI69, hF70, hR71⟩ := hq67
    have hF72 := hF55.trans hF70 rfl rfl
    have hR73 := hR56.trans hR71 rfl
    have e74 := PLx.fr e51 hF70 hR71 rfl rfl rfl
    have e75 := PTx.fr e51 hF70 hR71 rfl rfl rfl
    refine Or.inl ⟨rfl, ?_⟩
    have h76 := hI69.b0
    have h77 : S66.f 31 1 = S45.f 31 1 := hF70.f rfl
    have h78 := hI69.b1
    exact r_ret0 (i := 59) rfl ⟨rfl, (by omega), (by omega), e74, hI69, hF72, hR73⟩
  · refine r_load (i := 23) (u := 0) (w := 2) rfl rfl rfl ?_
    refine r_const (i := 24) (u := 185) (z := 185) rfl rfl ?_
    refine r_load (i := 25) (u := 0) (w := 2) rfl rfl rfl ?_
    refine r_const (i := 26) (u := 11) (z := 11) rfl rfl ?_
    refine r_load (i := 27) (u := 2) (w := 0) rfl rfl rfl ?_
    have h79 := hI28.b0
    have h80 : S25.f 31 1 = S8.f 31 1 := hF29.f rfl
    refine r_call (i := 28) (u := 8) (v := 167) (w := 0) (b := 0) (na := 1027) (C2 := xC167) (as := [(2, 33), vi 11, vi (S.a 10 m.toNat)]) (s := [vi 185, (2, 33)]) rfl rfl rfl rfl rfl rfl rfl (sp167 (w0 := 11) (t := S.a 10 m.toNat) hI28 ⟨by omega, by omega⟩ ⟨by omega, by omega⟩ (by omega) e33 (by omega)) (fun r81 S82 hq83 => ?_)
    obtain ⟨z84, rfl, h85, h86, h87, e88, hI89, hF90, hR91⟩ := hq83
    have hF92 := hF31.trans hF90 rfl rfl
    have hR93 := hR32.trans hR91 rfl
    refine Or.inr (Or.inl ⟨rfl, ?_⟩)
    refine r_load (i := 29) (u := 0) (w := 2) rfl rfl rfl ?_
    refine r_load (i := 30) (u := 1) (w := 0) rfl rfl rfl ?_
    refine r_call (i := 31) (u := 8) (v := 148) (w := 0) (b := 0) (na := 514) (C2 := xC148) (as := [(2, 33), vi m]) (s := [vi z84, vi 185, (2, 33)]) rfl rfl rfl rfl rfl rfl rfl (sp148 (m := m) hI89 ⟨by omega, by omega⟩   (by omega)) (fun r94 S95 hq96 => ?_)
    obtain ⟨z97, rfl, h98, h99, rfl⟩ := hq96
    refine Or.inr (Or.inl ⟨rfl, ?_⟩)
    have h100 := hI89.b1
    have h101 : S82.f 34 1 = S25.f 34 1 := hF90.f rfl
    refine r_call (i := 32) (u := 8) (v := 165) (w := 0) (b := 0) (na := 1028) (C2 := xC165) (as := [(2, 33), vi 185, vi z84, vi z97]) (s := []) rfl rfl rfl rfl rfl rfl rfl (sp165 (c := 185) (o := z84) (e := z97) hI89 ⟨by omega, by omega⟩ ⟨by omega, by omega⟩ ⟨by omega, by omega⟩ (by omega)  (by omega)) (fun r102 S103 hq104 => ?_)
    obtain ⟨rfl, h105, hI106, hF107, hR108⟩ := hq104
    have hF109 := hF92.trans hF107 rfl rfl
    have hR110 := hR93.trans hR108 rfl
    have e111 := PLx.fr e88 hF107 hR108 rfl rfl rfl
    have e112 := PTx.fr e88 hF107 hR108 rfl rfl rfl
    refine Or.inl ⟨rfl, ?_⟩
    refine r_load (i := 33) (u := 0) (w := 2) rfl rfl rfl ?_
    refine r_getf (i := 34) (v := 5) (w := 8) (x := (2, 34)) rfl ly33 rfl rfl fun _ => ?_
    refine r_const (i := 35) (u := 1) (z := 1) rfl rfl ?_
    refine r_load (i := 36) (u := 0) (w := 2) rfl rfl rfl ?_
    refine r_getf (i := 37) (v := 1) (w := 8) (x := (2, 9)) rfl ly33 rfl rfl fun _ => ?_
    refine r_getf (i := 38) (v := 4) (w := 2) (x := (2, 13)) rfl ly9 rfl rfl fun _ => ?_
    refine r_load (i := 39) (u := 1) (w := 0) rfl rfl rfl ?_
    refine a_int (i := 40) rfl ly13 rfl (by omega) (by omega) fun h116 => ?_
    have kp117 := hI106.k13 m.toNat
    have h118 : S103.a 13 m.toNat = S82.a 13 m.toNat := hF107.a rfl _
    have h119 : S82.a 13 m.toNat = S25.a 13 m.toNat := hF90.a rfl _
    have h120 : S25.a 13 m.toNat = S8.a 13 m.toNat := hF29.a rfl _
    have h121 : S8.a 13 m.toNat = S.a 13 m.toNat := hF14.a rfl _
    refine r_call (i := 41) (u := 65535) (v := 71) (w := 0) (b := 2) (na := 769) (C2 := xC71) (as := [vi (S103.a 13 m.toNat)]) (s := [vi 1, (2, 34)]) rfl rfl rfl rfl rfl rfl rfl (sp71 (p := S103.a 13 m.toNat) hI106 ⟨by omega, by omega⟩   (by omega)) (fun r122 S123 hq124 => ?_)
    obtain ⟨z125, rfl, h126, h127, rfl⟩ := hq124
    refine Or.inr (Or.inl ⟨rfl, ?_⟩)
    refine r_iadd (i := 42) rfl ?_
    have h128 := hI106.b1
    refine r_call (i := 43) (u := 7) (v := 29) (w := 0) (b := 0) (na := 514) (C2 := xC29) (as := [(2, 34), vi (1 + z125)]) (s := []) rfl rfl rfl rfl rfl rfl rfl (sp29_34 (b := 1 + z125) hI106 ⟨by omega, by omega⟩ (by omega)  (by omega)) (fun r129 S130 hq131 => ?_)
    obtain ⟨rfl, h132, hI133, hF134, hR135⟩ := hq131
    have hF136 := hF109.trans hF134 rfl rfl
    have hR137 := hR110.trans hR135 rfl
    have e138 := PLx.fr e111 hF134 hR135 rfl rfl rfl
    have e139 := PTx.fr e112 hF134 hR135 rfl rfl rfl
    refine Or.inl ⟨rfl, ?_⟩
    refine r_load (i := 44) (u := 0) (w := 2) rfl rfl rfl ?_
    refine r_getf (i := 45) (v := 5) (w := 8) (x := (2, 34)) rfl ly33 rfl rfl fun _ => ?_
    refine r_const (i := 46) (u := 0) (z := 0) rfl rfl ?_
    have h141 := hI133.b1
    refine r_call (i := 47) (u := 7) (v := 29) (w := 0) (b := 0) (na := 514) (C2 := xC29) (as := [(2, 34), vi 0]) (s := []) rfl rfl rfl rfl rfl rfl rfl (sp29_34 (b := 0) hI133 ⟨by omega, by omega⟩ (by omega)  (by omega)) (fun r142 S143 hq144 => ?_)
    obtain ⟨rfl, h145, hI146, hF147, hR148⟩ := hq144
    have hF149 := hF136.trans hF147 rfl rfl
    have hR150 := hR137.trans hR148 rfl
    have e151 := PLx.fr e138 hF147 hR148 rfl rfl rfl
    have e152 := PTx.fr e139 hF147 hR148 rfl rfl rfl
    refine Or.inl ⟨rfl, ?_⟩
    refine r_goto (i := 48) (v := 59) rfl ?_
    have h153 := hI146.b0
    have h154 : S143.f 31 1 = S130.f 31 1 := hF147.f rfl
    have h155 : S130.f 31 1 = S103.f 31 1 := hF134.f rfl
    have h156 : S103.f 31 1 = S82.f 31 1 := hF107.f rfl
    have h157 := hI146.b1
    exact r_ret0 (i := 59) rfl ⟨rfl, (by omega), (by omega), e151, hI146, hF149, hR150⟩
/-- ProxyForge$Writer.constructor -/
theorem sp149 {G : xk} {S : yS} {d : Nat} (hI : yI S) {m : Int} (h_m : 0 ≤ m ∧ m ≤ 59) (p_0 : S.f 31 1 + 371 ≤ 60000) (p_1 : S.f 34 1 + 44 ≤ 60000) (e_PL : PL S) (hd : 9 ≤ d) : yT xPr G LY xC149 0 [some ((2, 33)), some (vi m)] [] S d (fun r S' => r = (0, (0, 0)) ∧ (S.f 31 1 ≤ S'.f 31 1 ∧ S'.f 31 1 ≤ S.f 31 1 + 371) ∧ (S.f 34 1 ≤ S'.f 34 1 ∧ S'.f 34 1 ≤ S.f 34 1 + 44) ∧ PL S' ∧ yI S' ∧ yFr [(31, 1), (33, 10), (33, 11), (33, 12), (33, 13), (33, 14), (33, 15), (34, 1), (36, 5)] [37, 100, 101, 102, 103, 105] S S' ∧ yRm [0, 1, 2, 3] S S') := by
  refine yT_pad 4 ?_
  show yT xPr G LY xC149 0 [some ((2, 33)), some (vi m), none, none, none, none] [] S d _
  obtain ⟨d, rfl⟩ : ∃ q, d = q + 1 := ⟨d - 1, by omega⟩
  have hF : yFr [(31, 1), (33, 10), (33, 11), (33, 12), (33, 13), (33, 14), (33, 15), (34, 1), (36, 5)] [37, 100, 101, 102, 103, 105] S S := yFr.refl S
  have hR : yRm [0, 1, 2, 3] S S := yRm.refl S
  have h1 := hI.b0
  have h2 := hI.b1
  refine r_load (i := 0) (u := 0) (w := 2) rfl rfl rfl ?_
  refine r_getf (i := 1) (v := 1) (w := 8) (x := (2, 9)) rfl ly33 rfl rfl fun _ => ?_
  refine r_getf (i := 2) (v := 4) (w := 2) (x := (2, 13)) rfl ly9 rfl rfl fun _ => ?_
  refine r_load (i := 3) (u := 1) (w := 0) rfl rfl rfl ?_
  refine a_int (i := 4) rfl ly13 rfl (by omega) (by omega) fun h5 => ?_
  have kp6 := hI.k13 m.toNat
  refine r_store (i := 5) (u := 2) (w := 0) (L1 := [some ((2, 33)), some (vi m), some (vi (S.a 13 m.toNat)), none, none, none]) rfl rfl rfl rfl ?_
  refine r_load (i := 6) (u := 2) (w := 0) rfl rfl rfl ?_
  refine r_call (i := 7) (u := 65535) (v := 71) (w := 0) (b := 2) (na := 769) (C2 := xC71) (as := [vi (S.a 13 m.toNat)]) (s := []) rfl rfl rfl rfl rfl rfl rfl (sp71 (p := S.a 13 m.toNat) hI ⟨by omega, by omega⟩   (by omega)) (fun r7 S8 hq9 => ?_)
  obtain ⟨z10, rfl, h11, h12, rfl⟩ := hq9
  refine Or.inr (Or.inl ⟨rfl, ?_⟩)
  refine r_store (i := 8) (u := 3) (w := 0) (L1 := [some ((2, 33)), some (vi m), some (vi (S.a 13 m.toNat)), some (vi z10), none, none]) rfl rfl rfl rfl ?_
  refine r_load (i := 9) (u := 0) (w := 2) rfl rfl rfl ?_
  refine r_load (i := 10) (u := 1) (w := 0) rfl rfl rfl ?_
  refine r_const (i := 11) (u := 0) (z := 0) rfl rfl ?_
  refine r_str (i := 12) (v := 11) rfl ?_
  have h13 := slv11
  refine r_const (i := 13) (u := 1) (z := 1) rfl rfl ?_
  refine r_call (i := 14) (u := 8) (v := 156) (w := 0) (b := 0) (na := 1541) (C2 := xC156) (as := [(2, 33), vi m, vi 0, (6, 11), vi 1]) (s := []) rfl rfl rfl rfl rfl rfl rfl (sp156 (m := m) (mo := 0) (s := 11) (at0 := 1) hI ⟨by omega, by omega⟩ ⟨by omega, by omega⟩ ⟨by decide, by decide⟩ ⟨by omega, by omega⟩ (by omega) (by omega) e_PL (by omega)) (fun r14 S15 hq16 => ?_)
  obtain ⟨rfl, h17, h18, e19, hI20, hF21, hR22⟩ := hq16
  have hF23 := hF.trans hF21 rfl rfl
  have hR24 := hR.trans hR22 rfl
  refine Or.inl ⟨rfl, ?_⟩
  refine r_load (i := 15) (u := 0) (w := 2) rfl rfl rfl ?_
  refine r_const (i := 16) (u := 2) (z := 2) rfl rfl ?_
  refine r_load (i := 17) (u := 3) (w := 0) rfl rfl rfl ?_
  refine r_iadd (i := 18) rfl ?_
  have h25 := hI20.b0
  have h26 := hI20.b1
  refine r_call (i := 19) (u := 8) (v := 171) (w := 0) (b := 0) (na := 514) (C2 := xC171) (as := [(2, 33), vi (2 + z10)]) (s := []) rfl rfl rfl rfl rfl rfl rfl (sp171 (lc := 2 + z10) hI20 ⟨by omega, by omega⟩ (by omega) (by omega) e19 (by omega)) (fun r27 S28 hq29 => ?_)
  obtain ⟨rfl, h30, h31, h32, e33, hI34, hF35, hR36⟩ := hq29
  have hF37 := hF23.trans hF35 rfl rfl
  have hR38 := hR24.trans hR36 rfl
  refine Or.inl ⟨rfl, ?_⟩
  refine r_load (i := 20) (u := 0) (w := 2) rfl rfl rfl ?_
  refine r_const (i := 21) (u := 42) (z := 42) rfl rfl ?_
  refine r_const (i := 22) (u := 1) (z := 1) rfl rfl ?_
  have h39 := hI34.b1
  refine r_call (i := 23) (u := 8) (v := 163) (w := 0) (b := 0) (na := 771) (C2 := xC163) (as := [(2, 33), vi 42, vi 1]) (s := []) rfl rfl rfl rfl rfl rfl rfl (sp163 (c := 42) (e := 1) hI34 ⟨by omega, by omega⟩ ⟨by omega, by omega⟩ (by omega)  (by omega)) (fun r40 S41 hq42 => ?_)
  obtain ⟨rfl, h43, hI44, hF45, hR46⟩ := hq42
  have hF47 := hF37.trans hF45 rfl rfl
  have hR48 := hR38.trans hR46 rfl
  have e49 := PLx.fr e33 hF45 hR46 rfl rfl rfl
  have e50 := PTx.fr e33 hF45 hR46 rfl rfl rfl
  refine Or.inl ⟨rfl, ?_⟩
  refine r_load (i := 24) (u := 0) (w := 2) rfl rfl rfl ?_
  refine r_const (i := 25) (u := 43) (z := 43) rfl rfl ?_
  refine r_const (i := 26) (u := 1) (z := 1) rfl rfl ?_
  have h51 := hI44.b1
  refine r_call (i := 27) (u := 8) (v := 163) (w := 0) (b := 0) (na := 771) (C2 := xC163) (as := [(2, 33), vi 43, vi 1]) (s := []) rfl rfl rfl rfl rfl rfl rfl (sp163 (c := 43) (e := 1) hI44 ⟨by omega, by omega⟩ ⟨by omega, by omega⟩ (by omega)  (by omega)) (fun r52 S53 hq54 => ?_)
  obtain ⟨rfl, h55, hI56, hF57, hR58⟩ := hq54
  have hF59 := hF47.trans hF57 rfl rfl
  have hR60 := hR48.trans hR58 rfl
  have e61 := PLx.fr e49 hF57 hR58 rfl rfl rfl
  have e62 := PTx.fr e50 hF57 hR58 rfl rfl rfl
  refine Or.inl ⟨rfl, ?_⟩
  refine r_load (i := 28) (u := 0) (w := 2) rfl rfl rfl ?_
  refine r_const (i := 29) (u := 181) (z := 181) rfl rfl ?_
  refine r_load (i := 30) (u := 0) (w := 2) rfl rfl rfl ?_
  have h63 := hI56.b0
  have h64 : S53.f 31 1 = S41.f 31 1 := hF57.f rfl
  have h65 : S41.f 31 1 = S28.f 31 1 := hF45.f rfl
  refine r_call (i := 31) (u := 8) (v := 146) (w := 0) (b := 0) (na := 257) (C2 := xC146) (as := [(2, 33)]) (s := [vi 181, (2, 33)]) rfl rfl rfl rfl rfl rfl rfl (sp146  hI56  (by omega) e61 (by omega)) (fun r66 S67 hq68 => ?_)
  obtain ⟨z69, rfl, h70, h71, h72, e73, hI74, hF75, hR76⟩ := hq68
  have hF77 := hF59.trans hF75 rfl rfl
  have hR78 := hR60.trans hR76 rfl
  refine Or.inr (Or.inl ⟨rfl, ?_⟩)
  refine r_const (i := 32) (u := 4294967294) (z := -2) rfl rfl ?_
  have h79 := hI74.b1
  have h80 : S67.f 34 1 = S53.f 34 1 := hF75.f rfl
  refine r_call (i := 33) (u := 8) (v := 165) (w := 0) (b := 0) (na := 1028) (C2 := xC165) (as := [(2, 33), vi 181, vi z69, vi (-2)]) (s := []) rfl rfl rfl rfl rfl rfl rfl (sp165 (c := 181) (o := z69) (e := -2) hI74 ⟨by omega, by omega⟩ ⟨by omega, by omega⟩ ⟨by omega, by omega⟩ (by omega)  (by omega)) (fun r81 S82 hq83 => ?_)
  obtain ⟨rfl, h84, hI85, hF86, hR87⟩ := hq83
  have hF88 := hF77.trans hF86 rfl rfl
  have hR89 := hR78.trans hR87 rfl
  have e90 := PLx.fr e73 hF86 hR87 rfl rfl rfl
  have e91 := PTx.fr e73 hF86 hR87 rfl rfl rfl
  refine Or.inl ⟨rfl, ?_⟩
  refine r_load (i := 34) (u := 0) (w := 2) rfl rfl rfl ?_
  refine r_const (i := 35) (u := 42) (z := 42) rfl rfl ?_
  refine r_const (i := 36) (u := 1) (z := 1) rfl rfl ?_
  have h92 := hI85.b1
  refine r_call (i := 37) (u := 8) (v := 163) (w := 0) (b := 0) (na := 771) (C2 := xC163) (as := [(2, 33), vi 42, vi 1]) (s := []) rfl rfl rfl rfl rfl rfl rfl (sp163 (c := 42) (e := 1) hI85 ⟨by omega, by omega⟩ ⟨by omega, by omega⟩ (by omega)  (by omega)) (fun r93 S94 hq95 => ?_)
  obtain ⟨rfl, h96, hI97, hF98, hR99⟩ := hq95
  have hF100 := hF88.trans hF98 rfl rfl
  have hR101 := hR89.trans hR99 rfl
  have e102 := PLx.fr e90 hF98 hR99 rfl rfl rfl
  have e103 := PTx.fr e91 hF98 hR99 rfl rfl rfl
  refine Or.inl ⟨rfl, ?_⟩
  refine r_load (i := 38) (u := 0) (w := 2) rfl rfl rfl ?_
  refine r_load (i := 39) (u := 2) (w := 0) rfl rfl rfl ?_
  refine r_const (i := 40) (u := 2) (z := 2) rfl rfl ?_
  have h104 := hI97.b1
  refine r_call (i := 41) (u := 8) (v := 158) (w := 0) (b := 0) (na := 1795) (C2 := xC158) (as := [(2, 33), vi (S.a 13 m.toNat), vi 2]) (s := []) rfl rfl rfl rfl rfl rfl rfl (sp158 (p := S.a 13 m.toNat) (fl := 2) hI97 ⟨by omega, by omega⟩ ⟨by omega, by omega⟩ (by omega)  (by omega)) (fun r105 S106 hq107 => ?_)
  obtain ⟨rfl, h108, hI109, hF110, hR111⟩ := hq107
  have hF112 := hF100.trans hF110 rfl rfl
  have hR113 := hR101.trans hR111 rfl
  have e114 := PLx.fr e102 hF110 hR111 rfl rfl rfl
  have e115 := PTx.fr e103 hF110 hR111 rfl rfl rfl
  refine Or.inl ⟨rfl, ?_⟩
  refine r_load (i := 42) (u := 0) (w := 2) rfl rfl rfl ?_
  refine r_getf (i := 43) (v := 6) (w := 8) (x := (2, 36)) rfl ly33 rfl rfl fun _ => ?_
  refine r_load (i := 44) (u := 0) (w := 2) rfl rfl rfl ?_
  refine r_getf (i := 45) (v := 2) (w := 8) (x := (2, 17)) rfl ly33 rfl rfl fun _ => ?_
  have h118 := hI109.f tf17_6
  have h119 : S106.f 17 6 = S94.f 17 6 := hF110.f rfl
  have h120 : S94.f 17 6 = S82.f 17 6 := hF98.f rfl
  have h121 : S82.f 17 6 = S67.f 17 6 := hF86.f rfl
  have h122 : S67.f 17 6 = S53.f 17 6 := hF75.f rfl
  have h123 : S53.f 17 6 = S41.f 17 6 := hF57.f rfl
  have h124 : S41.f 17 6 = S28.f 17 6 := hF45.f rfl
  have h125 : S28.f 17 6 = S15.f 17 6 := hF35.f rfl
  have h126 : S15.f 17 6 = S.f 17 6 := hF21.f rfl
  refine r_getf (i := 46) (v := 6) (w := 3) (x := vi (S106.f 17 6)) rfl ly17 rfl rfl fun h127 => ?_
  have h127 : Rg (S106.f 17 6) := h127
  have h128 := hI109.b0
  have h129 : S106.f 31 1 = S94.f 31 1 := hF110.f rfl
  have h130 : S94.f 31 1 = S82.f 31 1 := hF98.f rfl
  have h131 : S82.f 31 1 = S67.f 31 1 := hF86.f rfl
  refine r_call (i := 47) (u := 9) (v := 89) (w := 0) (b := 0) (na := 770) (C2 := xC89) (as := [(2, 36), vi (S106.f 17 6)]) (s := []) rfl rfl rfl rfl rfl rfl rfl (sp89 (t := S106.f 17 6) hI109 ⟨by omega, by omega⟩ (by omega) e114 (by omega)) (fun r132 S133 hq134 => ?_)
  obtain ⟨z135, rfl, h136, h137, h138, e139, hI140, hF141, hR142⟩ := hq134
  have hF143 := hF112.trans hF141 rfl rfl
  have hR144 := hR113.trans hR142 rfl
  refine Or.inr (Or.inl ⟨rfl, ?_⟩)
  refine r_store (i := 48) (u := 4) (w := 0) (L1 := [some ((2, 33)), some (vi m), some (vi (S.a 13 m.toNat)), some (vi z10), some (vi z135), none]) rfl rfl rfl rfl ?_
  refine r_load (i := 49) (u := 0) (w := 2) rfl rfl rfl ?_
  refine r_getf (i := 50) (v := 6) (w := 8) (x := (2, 36)) rfl ly33 rfl rfl fun _ => ?_
  refine r_const (i := 51) (u := 12) (z := 12) rfl rfl ?_
  refine r_load (i := 52) (u := 0) (w := 2) rfl rfl rfl ?_
  have h146 : S133.f 33 10 = S106.f 33 10 := hF141.f rfl
  have h147 : S106.f 33 10 = S94.f 33 10 := hF110.f rfl
  have h148 : S94.f 33 10 = S82.f 33 10 := hF98.f rfl
  have h149 : S82.f 33 10 = S67.f 33 10 := hF86.f rfl
  have h150 : S67.f 33 10 = S53.f 33 10 := hF75.f rfl
  have h151 : S53.f 33 10 = S41.f 33 10 := hF57.f rfl
  have h152 : S41.f 33 10 = S28.f 33 10 := hF45.f rfl
  have h153 : S28.f 33 10 = S15.f 33 10 := hF35.f rfl
  refine r_getf (i := 53) (v := 10) (w := 8) (x := vi (S133.f 33 10)) rfl ly33 rfl rfl fun h154 => ?_
  have h154 : Rg (S133.f 33 10) := h154
  refine r_load (i := 54) (u := 0) (w := 2) rfl rfl rfl ?_
  refine r_getf (i := 55) (v := 6) (w := 8) (x := (2, 36)) rfl ly33 rfl rfl fun _ => ?_
  refine r_str (i := 56) (v := 14) rfl ?_
  have h156 := slv14
  refine r_load (i := 57) (u := 2) (w := 0) rfl rfl rfl ?_
  refine r_const (i := 58) (u := 0) (z := 0) rfl rfl ?_
  have h157 := hI140.b0
  refine r_call (i := 59) (u := 9) (v := 91) (w := 0) (b := 0) (na := 1796) (C2 := xC91) (as := [(2, 36), (6, 14), vi (S.a 13 m.toNat), vi 0]) (s := [vi (S133.f 33 10), vi 12, (2, 36)]) rfl rfl rfl rfl rfl rfl rfl (sp91 (s := 14) (p := S.a 13 m.toNat) (r0 := 0) hI140 ⟨by decide, by decide⟩ ⟨by omega, by omega⟩ ⟨by omega, by omega⟩ (by omega) (by first | assumption | exact (hI140).k13 _) e139 (by omega)) (fun r158 S159 hq160 => ?_)
  obtain ⟨z161, rfl, h162, h163, h164, e165, hI166, hF167, hR168⟩ := hq160
  have hF169 := hF143.trans hF167 rfl rfl
  have hR170 := hR144.trans hR168 rfl
  refine Or.inr (Or.inl ⟨rfl, ?_⟩)
  have h171 := hI166.b0
  refine r_call (i := 60) (u := 9) (v := 94) (w := 0) (b := 0) (na := 1284) (C2 := xC94) (as := [(2, 36), vi 12, vi (S133.f 33 10), vi z161]) (s := []) rfl rfl rfl rfl rfl rfl rfl (sp94 (w0 := 12) (v := S133.f 33 10) (v2 := z161) hI166 ⟨by omega, by omega⟩ ⟨by omega, by omega⟩ ⟨by omega, by omega⟩ (by omega) e165 (by omega)) (fun r172 S173 hq174 => ?_)
  obtain ⟨z175, rfl, h176, h177, h178, e179, hI180, hF181, hR182⟩ := hq174
  have hF183 := hF169.trans hF181 rfl rfl
  have hR184 := hR170.trans hR182 rfl
  refine Or.inr (Or.inl ⟨rfl, ?_⟩)
  refine r_store (i := 61) (u := 5) (w := 0) (L1 := [some ((2, 33)), some (vi m), some (vi (S.a 13 m.toNat)), some (vi z10), some (vi z135), some (vi z175)]) rfl rfl rfl rfl ?_
  refine r_load (i := 62) (u := 0) (w := 2) rfl rfl rfl ?_
  refine r_const (i := 63) (u := 183) (z := 183) rfl rfl ?_
  refine r_load (i := 64) (u := 0) (w := 2) rfl rfl rfl ?_
  refine r_getf (i := 65) (v := 6) (w := 8) (x := (2, 36)) rfl ly33 rfl rfl fun _ => ?_
  refine r_const (i := 66) (u := 10) (z := 10) rfl rfl ?_
  refine r_load (i := 67) (u := 4) (w := 0) rfl rfl rfl ?_
  refine r_load (i := 68) (u := 5) (w := 0) rfl rfl rfl ?_
  have h186 := hI180.b0
  refine r_call (i := 69) (u := 9) (v := 94) (w := 0) (b := 0) (na := 1284) (C2 := xC94) (as := [(2, 36), vi 10, vi z135, vi z175]) (s := [vi 183, (2, 33)]) rfl rfl rfl rfl rfl rfl rfl (sp94 (w0 := 10) (v := z135) (v2 := z175) hI180 ⟨by omega, by omega⟩ ⟨by omega, by omega⟩ ⟨by omega, by omega⟩ (by omega) e179 (by omega)) (fun r187 S188 hq189 => ?_)
  obtain ⟨z190, rfl, h191, h192, h193, e194, hI195, hF196, hR197⟩ := hq189
  have hF198 := hF183.trans hF196 rfl rfl
  have hR199 := hR184.trans hR197 rfl
  refine Or.inr (Or.inl ⟨rfl, ?_⟩)
  refine r_const (i := 70) (u := 4294967295) (z := -1) rfl rfl ?_
  refine r_load (i := 71) (u := 3) (w := 0) rfl rfl rfl ?_
  refine r_isub (i := 72) rfl ?_
  have h200 := hI195.b1
  have h201 : S188.f 34 1 = S173.f 34 1 := hF196.f rfl
  have h202 : S173.f 34 1 = S159.f 34 1 := hF181.f rfl
  have h203 : S159.f 34 1 = S133.f 34 1 := hF167.f rfl
  have h204 : S133.f 34 1 = S106.f 34 1 := hF141.f rfl
  refine r_call (i := 73) (u := 8) (v := 165) (w := 0) (b := 0) (na := 1028) (C2 := xC165) (as := [(2, 33), vi 183, vi z190, vi ((-1) - z10)]) (s := []) rfl rfl rfl rfl rfl rfl rfl (sp165 (c := 183) (o := z190) (e := (-1) - z10) hI195 ⟨by omega, by omega⟩ ⟨by omega, by omega⟩ ⟨by omega, by omega⟩ (by omega)  (by omega)) (fun r205 S206 hq207 => ?_)
  obtain ⟨rfl, h208, hI209, hF210, hR211⟩ := hq207
  have hF212 := hF198.trans hF210 rfl rfl
  have hR213 := hR199.trans hR211 rfl
  have e214 := PLx.fr e194 hF210 hR211 rfl rfl rfl
  have e215 := PTx.fr e194 hF210 hR211 rfl rfl rfl
  refine Or.inl ⟨rfl, ?_⟩
  refine r_load (i := 74) (u := 0) (w := 2) rfl rfl rfl ?_
  refine r_const (i := 75) (u := 177) (z := 177) rfl rfl ?_
  refine r_const (i := 76) (u := 0) (z := 0) rfl rfl ?_
  have h216 := hI209.b1
  refine r_call (i := 77) (u := 8) (v := 163) (w := 0) (b := 0) (na := 771) (C2 := xC163) (as := [(2, 33), vi 177, vi 0]) (s := []) rfl rfl rfl rfl rfl rfl rfl (sp163 (c := 177) (e := 0) hI209 ⟨by omega, by omega⟩ ⟨by omega, by omega⟩ (by omega)  (by omega)) (fun r217 S218 hq219 => ?_)
  obtain ⟨rfl, h220, hI221, hF222, hR223⟩ := hq219
  have hF224 := hF212.trans hF222 rfl rfl
  have hR225 := hR213.trans hR223 rfl
  have e226 := PLx.fr e214 hF222 hR223 rfl rfl rfl
  have e227 := PTx.fr e215 hF222 hR223 rfl rfl rfl
  refine Or.inl ⟨rfl, ?_⟩
  refine r_load (i := 78) (u := 0) (w := 2) rfl rfl rfl ?_
  have h228 := hI221.b1
  have h229 : S218.f 33 12 = S206.f 33 12 := hF222.f rfl
  have h230 : S206.f 33 12 = S188.f 33 12 := hF210.f rfl
  have h231 : S188.f 33 12 = S173.f 33 12 := hF196.f rfl
  have h232 : S173.f 33 12 = S159.f 33 12 := hF181.f rfl
  have h233 : S159.f 33 12 = S133.f 33 12 := hF167.f rfl
  have h234 : S133.f 33 12 = S106.f 33 12 := hF141.f rfl
  have h235 : S106.f 33 12 = S94.f 33 12 := hF110.f rfl
  have h236 : S94.f 33 12 = S82.f 33 12 := hF98.f rfl
  have h237 : S82.f 33 12 = S67.f 33 12 := hF86.f rfl
  have h238 : S67.f 33 12 = S53.f 33 12 := hF75.f rfl
  have h239 : S53.f 33 12 = S41.f 33 12 := hF57.f rfl
  have h240 : S41.f 33 12 = S28.f 33 12 := hF45.f rfl
  have h241 : S218.f 33 13 = S206.f 33 13 := hF222.f rfl
  have h242 : S206.f 33 13 = S188.f 33 13 := hF210.f rfl
  have h243 : S188.f 33 13 = S173.f 33 13 := hF196.f rfl
  have h244 : S173.f 33 13 = S159.f 33 13 := hF181.f rfl
  have h245 : S159.f 33 13 = S133.f 33 13 := hF167.f rfl
  have h246 : S133.f 33 13 = S106.f 33 13 := hF141.f rfl
  have h247 : S106.f 33 13 = S94.f 33 13 := hF110.f rfl
  have h248 : S94.f 33 13 = S82.f 33 13 := hF98.f rfl
  have h249 : S82.f 33 13 = S67.f 33 13 := hF86.f rfl
  have h250 : S67.f 33 13 = S53.f 33 13 := hF75.f rfl
  have h251 : S53.f 33 13 = S41.f 33 13 := hF57.f rfl
  have h252 : S41.f 33 13 = S28.f 33 13 := hF45.f rfl
  refine r_call (i := 79) (u := 8) (v := 153) (w := 0) (b := 0) (na := 257) (C2 := xC153) (as := [(2, 33)]) (s := []) rfl rfl rfl rfl rfl rfl rfl (sp153  hI221  (by omega) (by omega)  (by omega)) (fun r253 S254 hq255 => ?_)
  obtain ⟨rfl, h256, hI257, hF258, hR259⟩ := hq255
  have hF260 := hF224.trans hF258 rfl rfl
  have hR261 := hR225.trans hR259 rfl
  have e262 := PLx.fr e226 hF258 hR259 rfl rfl rfl
  have e263 := PTx.fr e227 hF258 hR259 rfl rfl rfl
  refine Or.inl ⟨rfl, ?_⟩
  refine r_load (i := 80) (u := 0) (w := 2) rfl rfl rfl ?_
  have h264 := hI257.b1
  have h265 : S254.f 34 1 = S218.f 34 1 := hF258.f rfl
  refine r_call (i := 81) (u := 8) (v := 162) (w := 0) (b := 0) (na := 257) (C2 := xC162) (as := [(2, 33)]) (s := []) rfl rfl rfl rfl rfl rfl rfl (sp162  hI257  (by omega)  (by omega)) (fun r266 S267 hq268 => ?_)
  obtain ⟨rfl, h269, hI270, hF271, hR272⟩ := hq268
  have hF273 := hF260.trans hF271 rfl rfl
  have hR274 := hR261.trans hR272 rfl
  have e275 := PLx.fr e262 hF271 hR272 rfl rfl rfl
  have e276 := PTx.fr e263 hF271 hR272 rfl rfl rfl
  refine Or.inl ⟨rfl, ?_⟩
  refine r_load (i := 82) (u := 0) (w := 2) rfl rfl rfl ?_
  have h277 := hI270.b1
  have h278 : S267.f 33 12 = S254.f 33 12 := hF271.f rfl
  have h279 : S254.f 33 12 = S218.f 33 12 := hF258.f rfl
  have h280 : S218.f 33 12 = S206.f 33 12 := hF222.f rfl
  have h281 : S206.f 33 12 = S188.f 33 12 := hF210.f rfl
  have h282 : S188.f 33 12 = S173.f 33 12 := hF196.f rfl
  have h283 : S173.f 33 12 = S159.f 33 12 := hF181.f rfl
  have h284 : S159.f 33 12 = S133.f 33 12 := hF167.f rfl
  have h285 : S133.f 33 12 = S106.f 33 12 := hF141.f rfl
  have h286 : S106.f 33 12 = S94.f 33 12 := hF110.f rfl
  have h287 : S94.f 33 12 = S82.f 33 12 := hF98.f rfl
  have h288 : S82.f 33 12 = S67.f 33 12 := hF86.f rfl
  have h289 : S67.f 33 12 = S53.f 33 12 := hF75.f rfl
  have h290 : S53.f 33 12 = S41.f 33 12 := hF57.f rfl
  have h291 : S41.f 33 12 = S28.f 33 12 := hF45.f rfl
  have h292 : S267.f 33 13 = S254.f 33 13 := hF271.f rfl
  have h293 : S254.f 33 13 = S218.f 33 13 := hF258.f rfl
  have h294 : S218.f 33 13 = S206.f 33 13 := hF222.f rfl
  have h295 : S206.f 33 13 = S188.f 33 13 := hF210.f rfl
  have h296 : S188.f 33 13 = S173.f 33 13 := hF196.f rfl
  have h297 : S173.f 33 13 = S159.f 33 13 := hF181.f rfl
  have h298 : S159.f 33 13 = S133.f 33 13 := hF167.f rfl
  have h299 : S133.f 33 13 = S106.f 33 13 := hF141.f rfl
  have h300 : S106.f 33 13 = S94.f 33 13 := hF110.f rfl
  have h301 : S94.f 33 13 = S82.f 33 13 := hF98.f rfl
  have h302 : S82.f 33 13 = S67.f 33 13 := hF86.f rfl
  have h303 : S67.f 33 13 = S53.f 33 13 := hF75.f rfl
  have h304 : S53.f 33 13 = S41.f 33 13 := hF57.f rfl
  have h305 : S41.f 33 13 = S28.f 33 13 := hF45.f rfl
  refine r_call (i := 83) (u := 8) (v := 152) (w := 0) (b := 0) (na := 257) (C2 := xC152) (as := [(2, 33)]) (s := []) rfl rfl rfl rfl rfl rfl rfl (sp152  hI270  (by omega) (by omega)  (by omega)) (fun r306 S307 hq308 => ?_)
  obtain ⟨rfl, h309, hI310, hF311, hR312⟩ := hq308
  have hF313 := hF273.trans hF311 rfl rfl
  have hR314 := hR274.trans hR312 rfl
  have e315 := PLx.fr e275 hF311 hR312 rfl rfl rfl
  have e316 := PTx.fr e276 hF311 hR312 rfl rfl rfl
  refine Or.inl ⟨rfl, ?_⟩
  have h317 := hI310.b0
  have h318 : S307.f 31 1 = S267.f 31 1 := hF311.f rfl
  have h319 : S267.f 31 1 = S254.f 31 1 := hF271.f rfl
  have h320 : S254.f 31 1 = S218.f 31 1 := hF258.f rfl
  have h321 : S218.f 31 1 = S206.f 31 1 := hF222.f rfl
  have h322 : S206.f 31 1 = S188.f 31 1 := hF210.f rfl
  have h323 := hI310.b1
  have h324 : S307.f 34 1 = S267.f 34 1 := hF311.f rfl
  exact r_ret0 (i := 84) rfl ⟨rfl, (by omega), (by omega), e315, hI310, hF313, hR314⟩
end XNC
