set_option linter.unusedVariables false
set_option maxRecDepth 4000
noncomputable section XNC
/-- ProxyForge$Writer.moveDepth -/
theorem sp161 {G : xk} {S : yS} {d : Nat} (hI : yI S) {c : Int} (h_c : -2147483648 ≤ c ∧ c ≤ 2147483647) (hd : 1 ≤ d) : yT xPr G LY xC161 0 [some ((2, 33)), some (vi c)] [] S d (fun r S' => r = (0, (0, 0)) ∧ wQ S S' (wmv c) ∧ yI S' ∧ yFr [(33, 14), (33, 15)] [] S S' ∧ yRm [] S S') := by
  refine yT_pad 0 ?_
  show yT xPr G LY xC161 0 [some ((2, 33)), some (vi c)] [] S d _
  obtain ⟨d, rfl⟩ : ∃ q, d = q + 1 := ⟨d - 1, by omega⟩
  have hF : yFr [(33, 14), (33, 15)] [] S S := yFr.refl S
  have hR : yRm [] S S := yRm.refl S
  refine r_load (i := 0) (u := 0) (w := 2) rfl rfl rfl ?_
  refine r_dup (i := 1) rfl rfl ?_
  refine r_getf (i := 2) (v := 14) (w := 8) (x := vi (S.f 33 14)) rfl ly33 rfl rfl fun h1 => ?_
  have h1 : Rg (S.f 33 14) := h1
  refine r_load (i := 3) (u := 1) (w := 0) rfl rfl rfl ?_
  refine r_iadd (i := 4) rfl ?_
  rw [vi_sg ((S.f 33 14) + c)]
  have h2 := ysg_rg ((S.f 33 14) + c)
  refine r_putI (i := 5) (v := 14) (w := 8) rfl ly33 rfl ⟨by omega, by omega⟩ ?_
  have hI4 := hI.setf0 (b := 33) (w := 14) (z := ysg ((S.f 33 14) + c)) rfl rfl
  have hF6 := hF.setf (b := 33) (w := 14) (z := ysg ((S.f 33 14) + c)) rfl
  have hR7 := hR.setf (b := 33) (w := 14) (z := ysg ((S.f 33 14) + c))
  refine yT_gen (fun S3 hS5 => ?_)
  rw [hS5] at hI4 hF6 hR7 
  refine r_load (i := 6) (u := 0) (w := 2) rfl rfl rfl ?_
  refine r_load (i := 7) (u := 0) (w := 2) rfl rfl rfl ?_
  have h8 : S3.f 33 15 = S.f 33 15 := by rw [← hS5]; exact ysf_ne (by decide)
  refine r_getf (i := 8) (v := 15) (w := 8) (x := vi (S3.f 33 15)) rfl ly33 rfl rfl fun h9 => ?_
  have h9 : Rg (S3.f 33 15) := h9
  refine r_load (i := 9) (u := 0) (w := 2) rfl rfl rfl ?_
  have h10 : S3.f 33 14 = ysg ((S.f 33 14) + c) := by rw [← hS5]; exact ysf_eq
  refine r_getf (i := 10) (v := 14) (w := 8) (x := vi (S3.f 33 14)) rfl ly33 rfl rfl fun h11 => ?_
  have h11 : Rg (S3.f 33 14) := h11
  refine r_call (i := 11) (u := 65535) (v := 268) (w := 0) (b := 2) (na := 514) (C2 := xC268) (as := [vi (S3.f 33 15), vi (S3.f 33 14)]) (s := [(2, 33)]) rfl rfl rfl rfl rfl rfl rfl (sp268 (x := S3.f 33 15) (y := S3.f 33 14)  ⟨by omega, by omega⟩ ⟨by omega, by omega⟩   (by omega)) (fun r12 S13 hq14 => ?_)
  obtain ⟨z15, rfl, h16, h17, h18, h19, rfl⟩ := hq14
  refine Or.inr (Or.inl ⟨rfl, ?_⟩)
  refine r_putI (i := 12) (v := 15) (w := 8) rfl ly33 rfl ⟨by omega, by omega⟩ ?_
  have hI21 := hI4.setf0 (b := 33) (w := 15) (z := z15) rfl rfl
  have hF23 := hF6.setf (b := 33) (w := 15) (z := z15) rfl
  have hR24 := hR7.setf (b := 33) (w := 15) (z := z15)
  refine yT_gen (fun S20 hS22 => ?_)
  rw [hS22] at hI21 hF23 hR24 
  have h25 : S20.f 33 14 = S3.f 33 14 := by rw [← hS22]; exact ysf_ne (by decide)
  have h26 : S3.f 33 14 = ysg ((S.f 33 14) + c) := by rw [← hS5]; exact ysf_eq
  have h27 : S20.f 33 15 = z15 := by rw [← hS22]; exact ysf_eq
  exact r_ret0 (i := 13) rfl ⟨rfl, (by exact wQ_mv (by omega) (by omega) ⟨by subst hS5 hS22; rfl, fun j => by subst hS5 hS22; rfl, by subst hS5 hS22; rfl, fun j => by subst hS5 hS22; rfl, fun j => by subst hS5 hS22; rfl, fun j => by subst hS5 hS22; rfl⟩ (by subst hS5 hS22; rfl) (fun j => by subst hS5 hS22; rfl) ⟨by subst hS5 hS22; rfl, by subst hS5 hS22; rfl, by subst hS5 hS22; rfl, by subst hS5 hS22; rfl, by subst hS5 hS22; rfl⟩), hI21, hF23, hR24⟩
/-- ProxyForge$Writer.op -/
theorem sp163 {G : xk} {S : yS} {d : Nat} (hI : yI S) {c : Int} (h_c : -2147483648 ≤ c ∧ c ≤ 2147483647) {e : Int} (h_e : -2147483648 ≤ e ∧ e ≤ 2147483647) (p_0 : S.f 34 1 + 1 ≤ 60000) (hd : 5 ≤ d) : yT xPr G LY xC163 0 [some ((2, 33)), some (vi c), some (vi e)] [] S d (fun r S' => r = (0, (0, 0)) ∧ (S.f 34 1 ≤ S'.f 34 1 ∧ S'.f 34 1 ≤ S.f 34 1 + 1) ∧ wQ S S' (wop c e) ∧ yI S' ∧ yFr [(33, 14), (33, 15), (34, 1)] [101, 105] S S' ∧ yRm [1] S S') := by
  refine yT_pad 0 ?_
  show yT xPr G LY xC163 0 [some ((2, 33)), some (vi c), some (vi e)] [] S d _
  obtain ⟨d, rfl⟩ : ∃ q, d = q + 1 := ⟨d - 1, by omega⟩
  have hF : yFr [(33, 14), (33, 15), (34, 1)] [101, 105] S S := yFr.refl S
  have hR : yRm [1] S S := yRm.refl S
  have h1 := hI.b1
  refine r_load (i := 0) (u := 0) (w := 2) rfl rfl rfl ?_
  refine r_getf (i := 1) (v := 5) (w := 8) (x := (2, 34)) rfl ly33 rfl rfl fun _ => ?_
  refine r_load (i := 2) (u := 1) (w := 0) rfl rfl rfl ?_
  refine r_call (i := 3) (u := 7) (v := 29) (w := 0) (b := 0) (na := 514) (C2 := xC29) (as := [(2, 34), vi c]) (s := []) rfl rfl rfl rfl rfl rfl rfl (sp29_34 (b := c) hI ⟨by omega, by omega⟩ (by omega)  (by omega)) (fun r3 S4 hq5 => ?_)
  obtain ⟨rfl, h6, bo7, hI8, hF9, hR10⟩ := hq5
  have hF11 := hF.trans hF9 rfl rfl
  have hR12 := hR.trans hR10 rfl
  refine Or.inl ⟨rfl, ?_⟩
  refine r_load (i := 4) (u := 0) (w := 2) rfl rfl rfl ?_
  refine r_load (i := 5) (u := 2) (w := 0) rfl rfl rfl ?_
  refine r_call (i := 6) (u := 8) (v := 161) (w := 0) (b := 0) (na := 514) (C2 := xC161) (as := [(2, 33), vi e]) (s := []) rfl rfl rfl rfl rfl rfl rfl (sp161 (c := e) hI8 ⟨by omega, by omega⟩   (by omega)) (fun r13 S14 hq15 => ?_)
  obtain ⟨rfl, wq16, hI17, hF18, hR19⟩ := hq15
  have hF20 := hF11.trans hF18 rfl rfl
  have hR21 := hR12.trans hR19 rfl
  refine Or.inl ⟨rfl, ?_⟩
  have h22 := hI17.b1
  have h23 : S14.f 34 1 = S4.f 34 1 := hF18.f rfl
  exact r_ret0 (i := 7) rfl ⟨rfl, (by omega), (by intro w9 hw0; have hw1 := wQ_by bo7 (sFl_fr hF9 rfl rfl) (sDp_fr hF9 rfl) _ hw0; have hw2 := wq16 _ hw1; first | (exact hw2)), hI17, hF20, hR21⟩
/-- ProxyForge$Writer.opByte -/
theorem sp164 {G : xk} {S : yS} {d : Nat} (hI : yI S) {c : Int} (h_c : -2147483648 ≤ c ∧ c ≤ 2147483647) {o : Int} (h_o : -2147483648 ≤ o ∧ o ≤ 2147483647) {e : Int} (h_e : -2147483648 ≤ e ∧ e ≤ 2147483647) (p_0 : S.f 34 1 + 2 ≤ 60000) (hd : 5 ≤ d) : yT xPr G LY xC164 0 [some ((2, 33)), some (vi c), some (vi o), some (vi e)] [] S d (fun r S' => r = (0, (0, 0)) ∧ (S.f 34 1 ≤ S'.f 34 1 ∧ S'.f 34 1 ≤ S.f 34 1 + 2) ∧ wQ S S' (wopB c o e) ∧ yI S' ∧ yFr [(33, 14), (33, 15), (34, 1)] [101, 105] S S' ∧ yRm [1] S S') := by
  refine yT_pad 0 ?_
  show yT xPr G LY xC164 0 [some ((2, 33)), some (vi c), some (vi o), some (vi e)] [] S d _
  obtain ⟨d, rfl⟩ : ∃ q, d = q + 1 := ⟨d - 1, by omega⟩
  have hF : yFr [(33, 14), (33, 15), (34, 1)] [101, 105] S S := yFr.refl S
  have hR : yRm [1] S S := yRm.refl S
  have h1 := hI.b1
  refine r_load (i := 0) (u := 0) (w := 2) rfl rfl rfl ?_
  refine r_getf (i := 1) (v := 5) (w := 8) (x := (2, 34)) rfl ly33 rfl rfl fun _ => ?_
  refine r_load (i := 2) (u := 1) (w := 0) rfl rfl rfl ?_
  refine r_call (i := 3) (u := 7) (v := 29) (w := 0) (b := 0) (na := 514) (C2 := xC29) (as := [(2, 34), vi c]) (s := []) rfl rfl rfl rfl rfl rfl rfl (sp29_34 (b := c) hI ⟨by omega, by omega⟩ (by omega)  (by omega)) (fun r3 S4 hq5 => ?_)
  obtain ⟨rfl, h6, bo7, hI8, hF9, hR10⟩ := hq5
  have hF11 := hF.trans hF9 rfl rfl
  have hR12 := hR.trans hR10 rfl
  refine Or.inl ⟨rfl, ?_⟩
  refine r_load (i := 4) (u := 0) (w := 2) rfl rfl rfl ?_
  refine r_getf (i := 5) (v := 5) (w := 8) (x := (2, 34)) rfl ly33 rfl rfl fun _ => ?_
  refine r_load (i := 6) (u := 2) (w := 0) rfl rfl rfl ?_
  have h14 := hI8.b1
  refine r_call (i := 7) (u := 7) (v := 29) (w := 0) (b := 0) (na := 514) (C2 := xC29) (as := [(2, 34), vi o]) (s := []) rfl rfl rfl rfl rfl rfl rfl (sp29_34 (b := o) hI8 ⟨by omega, by omega⟩ (by omega)  (by omega)) (fun r15 S16 hq17 => ?_)
  obtain ⟨rfl, h18, bo19, hI20, hF21, hR22⟩ := hq17
  have hF23 := hF11.trans hF21 rfl rfl
  have hR24 := hR12.trans hR22 rfl
  refine Or.inl ⟨rfl, ?_⟩
  refine r_load (i := 8) (u := 0) (w := 2) rfl rfl rfl ?_
  refine r_load (i := 9) (u := 3) (w := 0) rfl rfl rfl ?_
  refine r_call (i := 10) (u := 8) (v := 161) (w := 0) (b := 0) (na := 514) (C2 := xC161) (as := [(2, 33), vi e]) (s := []) rfl rfl rfl rfl rfl rfl rfl (sp161 (c := e) hI20 ⟨by omega, by omega⟩   (by omega)) (fun r25 S26 hq27 => ?_)
  obtain ⟨rfl, wq28, hI29, hF30, hR31⟩ := hq27
  have hF32 := hF23.trans hF30 rfl rfl
  have hR33 := hR24.trans hR31 rfl
  refine Or.inl ⟨rfl, ?_⟩
  have h34 := hI29.b1
  have h35 : S26.f 34 1 = S16.f 34 1 := hF30.f rfl
  exact r_ret0 (i := 11) rfl ⟨rfl, (by omega), (by intro w9 hw0; have hw1 := wQ_by bo7 (sFl_fr hF9 rfl rfl) (sDp_fr hF9 rfl) _ hw0; have hw2 := wQ_by bo19 (sFl_fr hF21 rfl rfl) (sDp_fr hF21 rfl) _ hw1; have hw3 := wq28 _ hw2; first | (exact hw3)), hI29, hF32, hR33⟩
/-- ProxyForge$Writer.opEntry -/
theorem sp165 {G : xk} {S : yS} {d : Nat} (hI : yI S) {c : Int} (h_c : -2147483648 ≤ c ∧ c ≤ 2147483647) {o : Int} (h_o : -2147483648 ≤ o ∧ o ≤ 2147483647) {e : Int} (h_e : -2147483648 ≤ e ∧ e ≤ 2147483647) (p_0 : S.f 34 1 + 3 ≤ 60000) (hd : 5 ≤ d) : yT xPr G LY xC165 0 [some ((2, 33)), some (vi c), some (vi o), some (vi e)] [] S d (fun r S' => r = (0, (0, 0)) ∧ (S.f 34 1 ≤ S'.f 34 1 ∧ S'.f 34 1 ≤ S.f 34 1 + 3) ∧ wQ S S' (wopE c o e) ∧ yI S' ∧ yFr [(33, 14), (33, 15), (34, 1)] [101, 105] S S' ∧ yRm [1] S S') := by
  refine yT_pad 0 ?_
  show yT xPr G LY xC165 0 [some ((2, 33)), some (vi c), some (vi o), some (vi e)] [] S d _
  obtain ⟨d, rfl⟩ : ∃ q, d = q + 1 := ⟨d - 1, by omega⟩
  have hF : yFr [(33, 14), (33, 15), (34, 1)] [101, 105] S S := yFr.refl S
  have hR : yRm [1] S S := yRm.refl S
  have h1 := hI.b1
  refine r_load (i := 0) (u := 0) (w := 2) rfl rfl rfl ?_
  refine r_getf (i := 1) (v := 5) (w := 8) (x := (2, 34)) rfl ly33 rfl rfl fun _ => ?_
  refine r_load (i := 2) (u := 1) (w := 0) rfl rfl rfl ?_
  refine r_load (i := 3) (u := 2) (w := 0) rfl rfl rfl ?_
  refine r_call (i := 4) (u := 7) (v := 35) (w := 0) (b := 0) (na := 771) (C2 := xC35) (as := [(2, 34), vi c, vi o]) (s := []) rfl rfl rfl rfl rfl rfl rfl (sp35_34 (b := c) (c := o) hI ⟨by omega, by omega⟩ ⟨by omega, by omega⟩ (by omega)  (by omega)) (fun r3 S4 hq5 => ?_)
  obtain ⟨rfl, h6, bth7, hI8, hF9, hR10⟩ := hq5
  have hF11 := hF.trans hF9 rfl rfl
  have hR12 := hR.trans hR10 rfl
  refine Or.inl ⟨rfl, ?_⟩
  refine r_load (i := 5) (u := 0) (w := 2) rfl rfl rfl ?_
  refine r_load (i := 6) (u := 3) (w := 0) rfl rfl rfl ?_
  refine r_call (i := 7) (u := 8) (v := 161) (w := 0) (b := 0) (na := 514) (C2 := xC161) (as := [(2, 33), vi e]) (s := []) rfl rfl rfl rfl rfl rfl rfl (sp161 (c := e) hI8 ⟨by omega, by omega⟩   (by omega)) (fun r13 S14 hq15 => ?_)
  obtain ⟨rfl, wq16, hI17, hF18, hR19⟩ := hq15
  have hF20 := hF11.trans hF18 rfl rfl
  have hR21 := hR12.trans hR19 rfl
  refine Or.inl ⟨rfl, ?_⟩
  have h22 := hI17.b1
  have h23 : S14.f 34 1 = S4.f 34 1 := hF18.f rfl
  exact r_ret0 (i := 8) rfl ⟨rfl, (by omega), (by intro w9 hw0; have hw1 := wQ_b3 bth7 (sFl_fr hF9 rfl rfl) (sDp_fr hF9 rfl) _ hw0; have hw2 := wq16 _ hw1; first | (exact hw2)), hI17, hF20, hR21⟩
/-- ProxyForge$Writer.push -/
theorem sp168 {G : xk} {S : yS} {d : Nat} (hI : yI S) {k : Int} (h_k : 0 ≤ k ∧ k ≤ 100) (p_0 : S.f 34 1 + 2 ≤ 60000) (hd : 6 ≤ d) : yT xPr G LY xC168 0 [some ((2, 33)), some (vi k)] [] S d (fun r S' => r = (0, (0, 0)) ∧ (S.f 34 1 ≤ S'.f 34 1 ∧ S'.f 34 1 ≤ S.f 34 1 + 2) ∧ wQ S S' (wpu k) ∧ yI S' ∧ yFr [(33, 14), (33, 15), (34, 1)] [101, 105] S S' ∧ yRm [1] S S') := by
  refine yT_pad 0 ?_
  show yT xPr G LY xC168 0 [some ((2, 33)), some (vi k)] [] S d _
  obtain ⟨d, rfl⟩ : ∃ q, d = q + 1 := ⟨d - 1, by omega⟩
  have hF : yFr [(33, 14), (33, 15), (34, 1)] [101, 105] S S := yFr.refl S
  have hR : yRm [1] S S := yRm.refl S
  have h1 := hI.b1
  refine r_load (i := 0) (u := 1) (w := 0) rfl rfl rfl ?_
  refine r_const (i := 1) (u := 5) (z := 5) rfl rfl ?_
  refine c_gt (i := 2) (v := 10) rfl ⟨by omega, by omega⟩ ⟨by omega, by omega⟩ (fun h2 => ?_) (fun h3 => ?_)
  · refine r_load (i := 10) (u := 0) (w := 2) rfl rfl rfl ?_
    refine r_const (i := 11) (u := 16) (z := 16) rfl rfl ?_
    refine r_load (i := 12) (u := 1) (w := 0) rfl rfl rfl ?_
    refine r_const (i := 13) (u := 1) (z := 1) rfl rfl ?_
    refine r_call (i := 14) (u := 8) (v := 164) (w := 0) (b := 0) (na := 1028) (C2 := xC164) (as := [(2, 33), vi 16, vi k, vi 1]) (s := []) rfl rfl rfl rfl rfl rfl rfl (sp164 (c := 16) (o := k) (e := 1) hI ⟨by omega, by omega⟩ ⟨by omega, by omega⟩ ⟨by omega, by omega⟩ (by omega)  (by omega)) (fun r4 S5 hq6 => ?_)
    obtain ⟨rfl, h7, wq8, hI9, hF10, hR11⟩ := hq6
    have hF12 := hF.trans hF10 rfl rfl
    have hR13 := hR.trans hR11 rfl
    refine Or.inl ⟨rfl, ?_⟩
    have h14 := hI9.b1
    exact r_ret0 (i := 15) rfl ⟨rfl, (by omega), (by intro w9 hw0; have hw1 := wq8 _ hw0; first | (exact hw1) | (rw [wpu_1 (by omega)]; exact hw1) | (rw [wpu_2 (by omega)]; exact hw1)), hI9, hF12, hR13⟩
  · refine r_load (i := 3) (u := 0) (w := 2) rfl rfl rfl ?_
    refine r_const (i := 4) (u := 3) (z := 3) rfl rfl ?_
    refine r_load (i := 5) (u := 1) (w := 0) rfl rfl rfl ?_
    refine r_iadd (i := 6) rfl ?_
    refine r_const (i := 7) (u := 1) (z := 1) rfl rfl ?_
    refine r_call (i := 8) (u := 8) (v := 163) (w := 0) (b := 0) (na := 771) (C2 := xC163) (as := [(2, 33), vi (3 + k), vi 1]) (s := []) rfl rfl rfl rfl rfl rfl rfl (sp163 (c := 3 + k) (e := 1) hI ⟨by omega, by omega⟩ ⟨by omega, by omega⟩ (by omega)  (by omega)) (fun r15 S16 hq17 => ?_)
    obtain ⟨rfl, h18, wq19, hI20, hF21, hR22⟩ := hq17
    have hF23 := hF.trans hF21 rfl rfl
    have hR24 := hR.trans hR22 rfl
    refine Or.inl ⟨rfl, ?_⟩
    refine r_goto (i := 9) (v := 15) rfl ?_
    have h25 := hI20.b1
    exact r_ret0 (i := 15) rfl ⟨rfl, (by omega), (by intro w9 hw0; have hw1 := wq19 _ hw0; first | (exact hw1) | (rw [wpu_1 (by omega)]; exact hw1) | (rw [wpu_2 (by omega)]; exact hw1)), hI20, hF23, hR24⟩
/-- ProxyForge$Writer.loadOne -/
theorem sp159 {G : xk} {S : yS} {d : Nat} (hI : yI S) {k : Int} (h_k : -2147483648 ≤ k ∧ k ≤ 2147483647) {l : Int} (h_l : -2147483648 ≤ l ∧ l ≤ 2147483647) (p_0 : S.f 34 1 + 2 ≤ 60000) (hd : 6 ≤ d) : yT xPr G LY xC159 0 [some ((2, 33)), some (vi k), some (vi l)] [] S d (fun r S' => r = (0, (0, 0)) ∧ (S.f 34 1 ≤ S'.f 34 1 ∧ S'.f 34 1 ≤ S.f 34 1 + 2) ∧ wQ S S' (wl1 k l) ∧ yI S' ∧ yFr [(33, 14), (33, 15), (34, 1)] [101, 105] S S' ∧ yRm [1] S S') := by
  refine yT_pad 0 ?_
  show yT xPr G LY xC159 0 [some ((2, 33)), some (vi k), some (vi l)] [] S d _
  obtain ⟨d, rfl⟩ : ∃ q, d = q + 1 := ⟨d - 1, by omega⟩
  have hF : yFr [(33, 14), (33, 15), (34, 1)] [101, 105] S S := yFr.refl S
  have hR : yRm [1] S S := yRm.refl S
  have h1 := hI.b1
  refine r_load (i := 0) (u := 1) (w := 0) rfl rfl rfl ?_
  refine r_const (i := 1) (u := 2) (z := 2) rfl rfl ?_
  refine c_ne (i := 2) (v := 9) rfl ⟨by omega, by omega⟩ ⟨by omega, by omega⟩ (fun h2 => ?_) (fun h3 => ?_)
  · refine r_load (i := 9) (u := 0) (w := 2) rfl rfl rfl ?_
    refine r_load (i := 10) (u := 1) (w := 0) rfl rfl rfl ?_
    refine r_const (i := 11) (u := 4) (z := 4) rfl rfl ?_
    refine c_ge (i := 12) (v := 15) rfl ⟨by omega, by omega⟩ ⟨by omega, by omega⟩ (fun h4 => ?_) (fun h5 => ?_)
    · refine r_const (i := 15) (u := 25) (z := 25) rfl rfl ?_
      refine r_load (i := 16) (u := 2) (w := 0) rfl rfl rfl ?_
      refine r_const (i := 17) (u := 1) (z := 1) rfl rfl ?_
      refine r_call (i := 18) (u := 8) (v := 164) (w := 0) (b := 0) (na := 1028) (C2 := xC164) (as := [(2, 33), vi 25, vi l, vi 1]) (s := []) rfl rfl rfl rfl rfl rfl rfl (sp164 (c := 25) (o := l) (e := 1) hI ⟨by omega, by omega⟩ ⟨by omega, by omega⟩ ⟨by omega, by omega⟩ (by omega)  (by omega)) (fun r6 S7 hq8 => ?_)
      obtain ⟨rfl, h9, wq10, hI11, hF12, hR13⟩ := hq8
      have hF14 := hF.trans hF12 rfl rfl
      have hR15 := hR.trans hR13 rfl
      refine Or.inl ⟨rfl, ?_⟩
      have h16 := hI11.b1
      exact r_ret0 (i := 19) rfl ⟨rfl, (by omega), (by intro w9 hw0; have hw1 := wq10 _ hw0; first | (exact hw1) | (rw [wl1_2 (by omega)]; exact hw1) | (rw [wl1_i (by omega) (by omega)]; exact hw1) | (rw [wl1_a (by omega)]; exact hw1)), hI11, hF14, hR15⟩
    · refine r_const (i := 13) (u := 21) (z := 21) rfl rfl ?_
      refine r_goto (i := 14) (v := 16) rfl ?_
      refine r_load (i := 16) (u := 2) (w := 0) rfl rfl rfl ?_
      refine r_const (i := 17) (u := 1) (z := 1) rfl rfl ?_
      refine r_call (i := 18) (u := 8) (v := 164) (w := 0) (b := 0) (na := 1028) (C2 := xC164) (as := [(2, 33), vi 21, vi l, vi 1]) (s := []) rfl rfl rfl rfl rfl rfl rfl (sp164 (c := 21) (o := l) (e := 1) hI ⟨by omega, by omega⟩ ⟨by omega, by omega⟩ ⟨by omega, by omega⟩ (by omega)  (by omega)) (fun r17 S18 hq19 => ?_)
      obtain ⟨rfl, h20, wq21, hI22, hF23, hR24⟩ := hq19
      have hF25 := hF.trans hF23 rfl rfl
      have hR26 := hR.trans hR24 rfl
      refine Or.inl ⟨rfl, ?_⟩
      have h27 := hI22.b1
      exact r_ret0 (i := 19) rfl ⟨rfl, (by omega), (by intro w9 hw0; have hw1 := wq21 _ hw0; first | (exact hw1) | (rw [wl1_2 (by omega)]; exact hw1) | (rw [wl1_i (by omega) (by omega)]; exact hw1) | (rw [wl1_a (by omega)]; exact hw1)), hI22, hF25, hR26⟩
  · refine r_load (i := 3) (u := 0) (w := 2) rfl rfl rfl ?_
    refine r_const (i := 4) (u := 22) (z := 22) rfl rfl ?_
    refine r_load (i := 5) (u := 2) (w := 0) rfl rfl rfl ?_
    refine r_const (i := 6) (u := 2) (z := 2) rfl rfl ?_
    refine r_call (i := 7) (u := 8) (v := 164) (w := 0) (b := 0) (na := 1028) (C2 := xC164) (as := [(2, 33), vi 22, vi l, vi 2]) (s := []) rfl rfl rfl rfl rfl rfl rfl (sp164 (c := 22) (o := l) (e := 2) hI ⟨by omega, by omega⟩ ⟨by omega, by omega⟩ ⟨by omega, by omega⟩ (by omega)  (by omega)) (fun r28 S29 hq30 => ?_)
    obtain ⟨rfl, h31, wq32, hI33, hF34, hR35⟩ := hq30
    have hF36 := hF.trans hF34 rfl rfl
    have hR37 := hR.trans hR35 rfl
    refine Or.inl ⟨rfl, ?_⟩
    refine r_goto (i := 8) (v := 19) rfl ?_
    have h38 := hI33.b1
    exact r_ret0 (i := 19) rfl ⟨rfl, (by omega), (by intro w9 hw0; have hw1 := wq32 _ hw0; first | (exact hw1) | (rw [wl1_2 (by omega)]; exact hw1) | (rw [wl1_i (by omega) (by omega)]; exact hw1) | (rw [wl1_a (by omega)]; exact hw1)), hI33, hF36, hR37⟩
theorem lp158_7 {G : xk} {d : Nat} {S0 : yS} {p : Int} (h_p : -2147483648 ≤ p ∧ p ≤ 2147483647) {fl : Int} (h_fl : 0 ≤ fl ∧ fl ≤ 10) (p_0 : S0.f 34 1 + 8 ≤ 60000) (hd : 7 ≤ d + 1) : ∀ (n : Nat), ∀ (S : yS) (hI : yI S) (hF : yFr [(33, 14), (33, 15), (34, 1)] [101, 105] S0 S) (hR : yRm [1] S0 S) (lc n1 k : Int) (h_lc : 0 ≤ lc ∧ lc ≤ 100) (h_n1 : 0 ≤ n1 ∧ n1 ≤ 4) (h_k : 0 ≤ k ∧ k ≤ 4) (q_0 : S0.f 34 1 ≤ S.f 34 1 ∧ S.f 34 1 ≤ S0.f 34 1 + 2 * k ∧ S0.f 34 1 + 8 ≤ 60000) (q_1 : lc ≤ 10 + 2 * k) (q_2 : wQ S0 S (wld p fl k.toNat)) (q_3 : lc = fl + wdA p k.toNat) (q_4 : n1 = hmn p) (q_5 : k ≤ n1) (hn : 4 - k < (n : Nat)), yT xPr G LY xC158 7 [some ((2, 33)), some (vi p), some (vi fl), some (vi lc), some (vi n1), some (vi k), none] [] S (d + 1) (fun r S' => r = (0, (0, 0)) ∧ (S0.f 34 1 ≤ S'.f 34 1 ∧ S'.f 34 1 ≤ S0.f 34 1 + 8) ∧ wQ S0 S' (wld p fl (hmn p).toNat) ∧ yI S' ∧ yFr [(33, 14), (33, 15), (34, 1)] [101, 105] S0 S' ∧ yRm [1] S0 S') := by
  intro n
  induction n with
  | zero => intro S hI hF hR lc n1 k h_lc h_n1 h_k q_0 q_1 q_2 q_3 q_4 q_5 hn; exact absurd hn (by omega)
  | succ n ih =>
    intro S hI hF hR lc n1 k h_lc h_n1 h_k q_0 q_1 q_2 q_3 q_4 q_5 hn
    have h1 := hI.b1
    refine r_load (i := 7) (u := 5) (w := 0) rfl rfl rfl ?_
    refine r_load (i := 8) (u := 4) (w := 0) rfl rfl rfl ?_
    refine c_ge (i := 9) (v := 25) rfl ⟨by omega, by omega⟩ ⟨by omega, by omega⟩ (fun h2 => ?_) (fun h3 => ?_)
    · exact r_ret0 (i := 25) rfl ⟨rfl, (by omega), (by rw [show hmn p = k by omega]; exact q_2), hI, hF, hR⟩
    · refine r_load (i := 10) (u := 1) (w := 0) rfl rfl rfl ?_
      refine r_load (i := 11) (u := 5) (w := 0) rfl rfl rfl ?_
      refine r_call (i := 12) (u := 65535) (v := 66) (w := 0) (b := 2) (na := 514) (C2 := xC66) (as := [vi p, vi k]) (s := []) rfl rfl rfl rfl rfl rfl rfl (sp66 (p := p) (k := k) hI ⟨by omega, by omega⟩ ⟨by omega, by omega⟩   (by omega)) (fun r4 S5 hq6 => ?_)
      obtain ⟨z7, rfl, h8, h9, h10, rfl⟩ := hq6
      refine Or.inr (Or.inl ⟨rfl, ?_⟩)
      refine r_store (i := 13) (u := 6) (w := 0) (L1 := [some ((2, 33)), some (vi p), some (vi fl), some (vi lc), some (vi n1), some (vi k), some (vi z7)]) rfl rfl rfl rfl ?_
      refine r_load (i := 14) (u := 0) (w := 2) rfl rfl rfl ?_
      refine r_load (i := 15) (u := 6) (w := 0) rfl rfl rfl ?_
      refine r_load (i := 16) (u := 3) (w := 0) rfl rfl rfl ?_
      refine r_call (i := 17) (u := 8) (v := 159) (w := 0) (b := 0) (na := 771) (C2 := xC159) (as := [(2, 33), vi z7, vi lc]) (s := []) rfl rfl rfl rfl rfl rfl rfl (sp159 (k := z7) (l := lc) hI ⟨by omega, by omega⟩ ⟨by omega, by omega⟩ (by omega)  (by omega)) (fun r11 S12 hq13 => ?_)
      obtain ⟨rfl, h14, wq15, hI16, hF17, hR18⟩ := hq13
      have hF19 := hF.trans hF17 rfl rfl
      have hR20 := hR.trans hR18 rfl
      refine Or.inl ⟨rfl, ?_⟩
      refine r_load (i := 18) (u := 3) (w := 0) rfl rfl rfl ?_
      refine r_load (i := 19) (u := 6) (w := 0) rfl rfl rfl ?_
      refine r_call (i := 20) (u := 65535) (v := 70) (w := 0) (b := 2) (na := 257) (C2 := xC70) (as := [vi z7]) (s := [vi lc]) rfl rfl rfl rfl rfl rfl rfl (sp70 (k := z7) hI16 ⟨by omega, by omega⟩   (by omega)) (fun r21 S22 hq23 => ?_)
      obtain ⟨z24, rfl, h25, h26, wd27, rfl⟩ := hq23
      refine Or.inr (Or.inl ⟨rfl, ?_⟩)
      refine r_iadd (i := 21) rfl ?_
      refine r_store (i := 22) (u := 3) (w := 0) (L1 := [some ((2, 33)), some (vi p), some (vi fl), some (vi (lc + z24)), some (vi n1), some (vi k), some (vi z7)]) rfl rfl rfl rfl ?_
      refine r_iinc (i := 23) (u := 1) (v := 5) (s := 1) (L1 := [some ((2, 33)), some (vi p), some (vi fl), some (vi (lc + z24)), some (vi n1), some (vi (k + 1)), some (vi z7)]) rfl rfl rfl rfl rfl ?_
      refine r_goto (i := 24) (v := 7) rfl ?_
      refine yT_drop (L1 := [some ((2, 33)), some (vi p), some (vi fl), some (vi (lc + z24)), some (vi n1), some (vi (k + 1)), none]) rfl ?_
      have h28 := hI16.b1
      exact ih S12 hI16 hF19 hR20 (lc + z24) n1 (k + 1) ⟨by omega, by omega⟩ ⟨by omega, by omega⟩ ⟨by omega, by omega⟩ (by omega) (by omega) (by exact wld_st q_2 wq15 (show _ = dg p k by unfold dg; omega) q_3 (by omega)) (by exact lc_s q_3 wd27 (show _ = dg p k by unfold dg; omega) (by omega)) (by exact q_4) (by omega) (by omega)
/-- ProxyForge$Writer.load -/
theorem sp158 {G : xk} {S : yS} {d : Nat} (hI : yI S) {p : Int} (h_p : -2147483648 ≤ p ∧ p ≤ 2147483647) {fl : Int} (h_fl : 0 ≤ fl ∧ fl ≤ 10) (p_0 : S.f 34 1 + 8 ≤ 60000) (hd : 7 ≤ d) : yT xPr G LY xC158 0 [some ((2, 33)), some (vi p), some (vi fl)] [] S d (fun r S' => r = (0, (0, 0)) ∧ (S.f 34 1 ≤ S'.f 34 1 ∧ S'.f 34 1 ≤ S.f 34 1 + 8) ∧ wQ S S' (wld p fl (hmn p).toNat) ∧ yI S' ∧ yFr [(33, 14), (33, 15), (34, 1)] [101, 105] S S' ∧ yRm [1] S S') := by
  refine yT_pad 4 ?_
  show yT xPr G LY xC158 0 [some ((2, 33)), some (vi p), some (vi fl), none, none, none, none] [] S d _
  obtain ⟨d, rfl⟩ : ∃ q, d = q + 1 := ⟨d - 1, by omega⟩
  have hF : yFr [(33, 14), (33, 15), (34, 1)] [101, 105] S S := yFr.refl S
  have hR : yRm [1] S S := yRm.refl S
  have h1 := hI.b1
  refine r_load (i := 0) (u := 2) (w := 0) rfl rfl rfl ?_
  refine r_store (i := 1) (u := 3) (w := 0) (L1 := [some ((2, 33)), some (vi p), some (vi fl), some (vi fl), none, none, none]) rfl rfl rfl rfl ?_
  refine r_load (i := 2) (u := 1) (w := 0) rfl rfl rfl ?_
  refine r_call (i := 3) (u := 65535) (v := 67) (w := 0) (b := 2) (na := 513) (C2 := xC67) (as := [vi p]) (s := []) rfl rfl rfl rfl rfl rfl rfl (sp67 (p := p) hI ⟨by omega, by omega⟩   (by omega)) (fun r2 S3 hq4 => ?_)
  obtain ⟨z5, rfl, h6, h7, hmn8, rfl⟩ := hq4
  refine Or.inr (Or.inl ⟨rfl, ?_⟩)
  refine r_store (i := 4) (u := 4) (w := 0) (L1 := [some ((2, 33)), some (vi p), some (vi fl), some (vi fl), some (vi z5), none, none]) rfl rfl rfl rfl ?_
  refine r_const (i := 5) (u := 0) (z := 0) rfl rfl ?_
  refine r_store (i := 6) (u := 5) (w := 0) (L1 := [some ((2, 33)), some (vi p), some (vi fl), some (vi fl), some (vi z5), some (vi 0), none]) rfl rfl rfl rfl ?_
  exact lp158_7 h_p h_fl p_0 hd _ S hI hF hR fl z5 0 ⟨by omega, by omega⟩ ⟨by omega, by omega⟩ ⟨by omega, by omega⟩ (by omega) (by omega) (by exact fun w9 hw0 => hw0) (by show fl = fl + 0; omega) (by exact hmn_of hmn8 (by omega) (by omega)) (by omega) (Int.lt_succ_toNat _)
/-- ProxyForge$Writer.leave -/
theorem sp157 {G : xk} {S : yS} {d : Nat} (hI : yI S) {k : Int} (h_k : 0 ≤ k ∧ k ≤ 23) (p_0 : S.f 34 1 + 1 ≤ 60000) (hd : 6 ≤ d) : yT xPr G LY xC157 0 [some ((2, 33)), some (vi k)] [] S d (fun r S' => r = (0, (0, 0)) ∧ (S.f 34 1 ≤ S'.f 34 1 ∧ S'.f 34 1 ≤ S.f 34 1 + 1) ∧ wQ S S' (wlv k) ∧ yI S' ∧ yFr [(33, 14), (33, 15), (34, 1)] [101, 105] S S' ∧ yRm [1] S S') := by
  refine yT_pad 1 ?_
  show yT xPr G LY xC157 0 [some ((2, 33)), some (vi k), none] [] S d _
  obtain ⟨d, rfl⟩ : ∃ q, d = q + 1 := ⟨d - 1, by omega⟩
  have hF : yFr [(33, 14), (33, 15), (34, 1)] [101, 105] S S := yFr.refl S
  have hR : yRm [1] S S := yRm.refl S
  have h1 := hI.b1
  refine r_load (i := 0) (u := 1) (w := 0) rfl rfl rfl ?_
  refine r_call (i := 1) (u := 65535) (v := 70) (w := 0) (b := 2) (na := 257) (C2 := xC70) (as := [vi k]) (s := []) rfl rfl rfl rfl rfl rfl rfl (sp70 (k := k) hI ⟨by omega, by omega⟩   (by omega)) (fun r2 S3 hq4 => ?_)
  obtain ⟨z5, rfl, h6, h7, wd8, rfl⟩ := hq4
  refine Or.inr (Or.inl ⟨rfl, ?_⟩)
  refine r_store (i := 2) (u := 2) (w := 0) (L1 := [some ((2, 33)), some (vi k), some (vi z5)]) rfl rfl rfl rfl ?_
  refine r_load (i := 3) (u := 1) (w := 0) rfl rfl rfl ?_
  refine z_ne (i := 4) (v := 10) rfl ⟨by omega, by omega⟩ (fun h9 => ?_) (fun h10 => ?_)
  · refine r_load (i := 10) (u := 1) (w := 0) rfl rfl rfl ?_
    refine r_const (i := 11) (u := 2) (z := 2) rfl rfl ?_
    refine c_ne (i := 12) (v := 19) rfl ⟨by omega, by omega⟩ ⟨by omega, by omega⟩ (fun h11 => ?_) (fun h12 => ?_)
    · refine r_load (i := 19) (u := 0) (w := 2) rfl rfl rfl ?_
      refine r_load (i := 20) (u := 1) (w := 0) rfl rfl rfl ?_
      refine r_const (i := 21) (u := 4) (z := 4) rfl rfl ?_
      refine c_ge (i := 22) (v := 25) rfl ⟨by omega, by omega⟩ ⟨by omega, by omega⟩ (fun h13 => ?_) (fun h14 => ?_)
      · refine r_const (i := 25) (u := 176) (z := 176) rfl rfl ?_
        refine r_load (i := 26) (u := 2) (w := 0) rfl rfl rfl ?_
        refine r_ineg (i := 27) rfl ?_
        refine r_call (i := 28) (u := 8) (v := 163) (w := 0) (b := 0) (na := 771) (C2 := xC163) (as := [(2, 33), vi 176, vi (-z5)]) (s := []) rfl rfl rfl rfl rfl rfl rfl (sp163 (c := 176) (e := -z5) hI ⟨by omega, by omega⟩ ⟨by omega, by omega⟩ (by omega)  (by omega)) (fun r15 S16 hq17 => ?_)
        obtain ⟨rfl, h18, wq19, hI20, hF21, hR22⟩ := hq17
        have hF23 := hF.trans hF21 rfl rfl
        have hR24 := hR.trans hR22 rfl
        refine Or.inl ⟨rfl, ?_⟩
        have h25 := hI20.b1
        exact r_ret0 (i := 29) rfl ⟨rfl, (by omega), (by intro w9 hw0; have hw1 := wq19 _ hw0; first | (exact hw1) | (rw [wlv_0 (by omega)]; exact hw1) | (rw [wlv_2z (by omega) wd8]; exact hw1) | (rw [wlv_iz (by omega) (by omega) (by omega) wd8]; exact hw1) | (rw [wlv_az (by omega) wd8]; exact hw1)), hI20, hF23, hR24⟩
      · refine r_const (i := 23) (u := 172) (z := 172) rfl rfl ?_
        refine r_goto (i := 24) (v := 26) rfl ?_
        refine r_load (i := 26) (u := 2) (w := 0) rfl rfl rfl ?_
        refine r_ineg (i := 27) rfl ?_
        refine r_call (i := 28) (u := 8) (v := 163) (w := 0) (b := 0) (na := 771) (C2 := xC163) (as := [(2, 33), vi 172, vi (-z5)]) (s := []) rfl rfl rfl rfl rfl rfl rfl (sp163 (c := 172) (e := -z5) hI ⟨by omega, by omega⟩ ⟨by omega, by omega⟩ (by omega)  (by omega)) (fun r26 S27 hq28 => ?_)
        obtain ⟨rfl, h29, wq30, hI31, hF32, hR33⟩ := hq28
        have hF34 := hF.trans hF32 rfl rfl
        have hR35 := hR.trans hR33 rfl
        refine Or.inl ⟨rfl, ?_⟩
        have h36 := hI31.b1
        exact r_ret0 (i := 29) rfl ⟨rfl, (by omega), (by intro w9 hw0; have hw1 := wq30 _ hw0; first | (exact hw1) | (rw [wlv_0 (by omega)]; exact hw1) | (rw [wlv_2z (by omega) wd8]; exact hw1) | (rw [wlv_iz (by omega) (by omega) (by omega) wd8]; exact hw1) | (rw [wlv_az (by omega) wd8]; exact hw1)), hI31, hF34, hR35⟩
    · refine r_load (i := 13) (u := 0) (w := 2) rfl rfl rfl ?_
      refine r_const (i := 14) (u := 173) (z := 173) rfl rfl ?_
      refine r_load (i := 15) (u := 2) (w := 0) rfl rfl rfl ?_
      refine r_ineg (i := 16) rfl ?_
      refine r_call (i := 17) (u := 8) (v := 163) (w := 0) (b := 0) (na := 771) (C2 := xC163) (as := [(2, 33), vi 173, vi (-z5)]) (s := []) rfl rfl rfl rfl rfl rfl rfl (sp163 (c := 173) (e := -z5) hI ⟨by omega, by omega⟩ ⟨by omega, by omega⟩ (by omega)  (by omega)) (fun r37 S38 hq39 => ?_)
      obtain ⟨rfl, h40, wq41, hI42, hF43, hR44⟩ := hq39
      have hF45 := hF.trans hF43 rfl rfl
      have hR46 := hR.trans hR44 rfl
      refine Or.inl ⟨rfl, ?_⟩
      refine r_goto (i := 18) (v := 29) rfl ?_
      have h47 := hI42.b1
      exact r_ret0 (i := 29) rfl ⟨rfl, (by omega), (by intro w9 hw0; have hw1 := wq41 _ hw0; first | (exact hw1) | (rw [wlv_0 (by omega)]; exact hw1) | (rw [wlv_2z (by omega) wd8]; exact hw1) | (rw [wlv_iz (by omega) (by omega) (by omega) wd8]; exact hw1) | (rw [wlv_az (by omega) wd8]; exact hw1)), hI42, hF45, hR46⟩
  · refine r_load (i := 5) (u := 0) (w := 2) rfl rfl rfl ?_
    refine r_const (i := 6) (u := 177) (z := 177) rfl rfl ?_
    refine r_const (i := 7) (u := 0) (z := 0) rfl rfl ?_
    refine r_call (i := 8) (u := 8) (v := 163) (w := 0) (b := 0) (na := 771) (C2 := xC163) (as := [(2, 33), vi 177, vi 0]) (s := []) rfl rfl rfl rfl rfl rfl rfl (sp163 (c := 177) (e := 0) hI ⟨by omega, by omega⟩ ⟨by omega, by omega⟩ (by omega)  (by omega)) (fun r48 S49 hq50 => ?_)
    obtain ⟨rfl, h51, wq52, hI53, hF54, hR55⟩ := hq50
    have hF56 := hF.trans hF54 rfl rfl
    have hR57 := hR.trans hR55 rfl
    refine Or.inl ⟨rfl, ?_⟩
    refine r_goto (i := 9) (v := 29) rfl ?_
    have h58 := hI53.b1
    exact r_ret0 (i := 29) rfl ⟨rfl, (by omega), (by intro w9 hw0; have hw1 := wq52 _ hw0; first | (exact hw1) | (rw [wlv_0 (by omega)]; exact hw1) | (rw [wlv_2z (by omega) wd8]; exact hw1) | (rw [wlv_iz (by omega) (by omega) (by omega) wd8]; exact hw1) | (rw [wlv_az (by omega) wd8]; exact hw1)), hI53, hF56, hR57⟩
/-- ProxyForge$Writer.cast -/
theorem sp147 {G : xk} {S : yS} {d : Nat} (hI : yI S) {t : Int} (h_t : 0 ≤ t ∧ t ≤ 19) (p_0 : S.f 31 1 + 32 ≤ 60000) (p_1 : S.f 34 1 + 3 ≤ 60000) (e_PL : PL S) (hd : 7 ≤ d) : yT xPr G LY xC147 0 [some ((2, 33)), some (vi t)] [] S d (fun r S' => r = (0, (0, 0)) ∧ (S.f 31 1 ≤ S'.f 31 1 ∧ S'.f 31 1 ≤ S.f 31 1 + 32) ∧ (S.f 34 1 ≤ S'.f 34 1 ∧ S'.f 34 1 ≤ S.f 34 1 + 3) ∧ wQ S S' (wcs (pkR 4 S) t) ∧ PL S' ∧ yI S' ∧ yFr [(31, 1), (33, 14), (33, 15), (34, 1), (36, 5)] [37, 100, 101, 102, 103, 105] S S' ∧ yRm [0, 1, 2, 3] S S') := by
  refine yT_pad 0 ?_
  show yT xPr G LY xC147 0 [some ((2, 33)), some (vi t)] [] S d _
  obtain ⟨d, rfl⟩ : ∃ q, d = q + 1 := ⟨d - 1, by omega⟩
  have hF : yFr [(31, 1), (33, 14), (33, 15), (34, 1), (36, 5)] [37, 100, 101, 102, 103, 105] S S := yFr.refl S
  have hR : yRm [0, 1, 2, 3] S S := yRm.refl S
  have h1 := hI.b0
  have h2 := hI.b1
  refine r_load (i := 0) (u := 1) (w := 0) rfl rfl rfl ?_
  refine z_eq (i := 1) (v := 10) rfl ⟨by omega, by omega⟩ (fun h3 => ?_) (fun h4 => ?_)
  · exact r_ret0 (i := 10) rfl ⟨rfl, (by omega), (by omega), (by intro w9 hw0; first | (exact hw0) | (rw [wcs_0 (by omega)]; exact hw0) | (rw [wcs_n (by omega)]; exact hw0)), e_PL, hI, hF, hR⟩
  · refine r_load (i := 2) (u := 0) (w := 2) rfl rfl rfl ?_
    refine r_const (i := 3) (u := 192) (z := 192) rfl rfl ?_
    refine r_load (i := 4) (u := 0) (w := 2) rfl rfl rfl ?_
    refine r_getf (i := 5) (v := 6) (w := 8) (x := (2, 36)) rfl ly33 rfl rfl fun _ => ?_
    refine r_load (i := 6) (u := 1) (w := 0) rfl rfl rfl ?_
    refine r_call (i := 7) (u := 9) (v := 89) (w := 0) (b := 0) (na := 770) (C2 := xC89) (as := [(2, 36), vi t]) (s := [vi 192, (2, 33)]) rfl rfl rfl rfl rfl rfl rfl (sp89 (t := t) hI ⟨by omega, by omega⟩ (by omega) e_PL (by omega)) (fun r6 S7 hq8 => ?_)
    obtain ⟨z9, rfl, h10, h11, h12, wi13, e14, hI15, hF16, hR17⟩ := hq8
    have hF18 := hF.trans hF16 rfl rfl
    have hR19 := hR.trans hR17 rfl
    refine Or.inr (Or.inl ⟨rfl, ?_⟩)
    refine r_const (i := 8) (u := 0) (z := 0) rfl rfl ?_
    have h20 := hI15.b1
    have h21 : S7.f 34 1 = S.f 34 1 := hF16.f rfl
    refine r_call (i := 9) (u := 8) (v := 165) (w := 0) (b := 0) (na := 1028) (C2 := xC165) (as := [(2, 33), vi 192, vi z9, vi 0]) (s := []) rfl rfl rfl rfl rfl rfl rfl (sp165 (c := 192) (o := z9) (e := 0) hI15 ⟨by omega, by omega⟩ ⟨by omega, by omega⟩ ⟨by omega, by omega⟩ (by omega)  (by omega)) (fun r22 S23 hq24 => ?_)
    obtain ⟨rfl, h25, wq26, hI27, hF28, hR29⟩ := hq24
    have hF30 := hF18.trans hF28 rfl rfl
    have hR31 := hR19.trans hR29 rfl
    have e32 := PLx.fr e14 hF28 hR29 rfl rfl rfl
    have e33 := PTx.fr e14 hF28 hR29 rfl rfl rfl
    refine Or.inl ⟨rfl, ?_⟩
    have h34 := hI27.b0
    have h35 : S23.f 31 1 = S7.f 31 1 := hF28.f rfl
    have h36 := hI27.b1
    exact r_ret0 (i := 10) rfl ⟨rfl, (by omega), (by omega), (by intro w9 hw0; obtain ⟨hw1, ew1⟩ := wi13 _ hw0; have hw2 := wq26 _ hw1; subst ew1; first | (exact hw2) | (rw [wcs_0 (by omega)]; exact hw2) | (rw [wcs_n (by omega)]; exact hw2)), e32, hI27, hF30, hR31⟩
/-- ProxyForge$Writer.callbackField -/
theorem sp146 {G : xk} {S : yS} {d : Nat} (hI : yI S) (p_0 : S.f 31 1 + 10 ≤ 60000) (e_PL : PL S) (hd : 7 ≤ d) : yT xPr G LY xC146 0 [some ((2, 33))] [] S d (fun r S' => ∃ z : Int, r = (1, vi z) ∧ 0 ≤ z ∧ z ≤ 20001 ∧ (S.f 31 1 ≤ S'.f 31 1 ∧ S'.f 31 1 ≤ S.f 31 1 + 10) ∧ wJ S S' wfd z ifd ∧ PL S' ∧ yI S' ∧ yFr [(31, 1), (36, 5)] [37, 100, 102, 103, 105] S S' ∧ yRm [0, 2, 3] S S') := by
  refine yT_pad 0 ?_
  show yT xPr G LY xC146 0 [some ((2, 33))] [] S d _
  obtain ⟨d, rfl⟩ : ∃ q, d = q + 1 := ⟨d - 1, by omega⟩
  have hF : yFr [(31, 1), (36, 5)] [37, 100, 102, 103, 105] S S := yFr.refl S
  have hR : yRm [0, 2, 3] S S := yRm.refl S
  have h1 := hI.b0
  refine r_load (i := 0) (u := 0) (w := 2) rfl rfl rfl ?_
  refine r_getf (i := 1) (v := 6) (w := 8) (x := (2, 36)) rfl ly33 rfl rfl fun _ => ?_
  refine r_const (i := 2) (u := 9) (z := 9) rfl rfl ?_
  refine r_load (i := 3) (u := 0) (w := 2) rfl rfl rfl ?_
  refine r_getf (i := 4) (v := 7) (w := 8) (x := vi (S.f 33 7)) rfl ly33 rfl rfl fun h3 => ?_
  have h3 : Rg (S.f 33 7) := h3
  refine r_load (i := 5) (u := 0) (w := 2) rfl rfl rfl ?_
  refine r_getf (i := 6) (v := 6) (w := 8) (x := (2, 36)) rfl ly33 rfl rfl fun _ => ?_
  refine r_const (i := 7) (u := 12) (z := 12) rfl rfl ?_
  refine r_load (i := 8) (u := 0) (w := 2) rfl rfl rfl ?_
  refine r_getf (i := 9) (v := 8) (w := 8) (x := vi (S.f 33 8)) rfl ly33 rfl rfl fun h5 => ?_
  have h5 : Rg (S.f 33 8) := h5
  refine r_load (i := 10) (u := 0) (w := 2) rfl rfl rfl ?_
  refine r_getf (i := 11) (v := 9) (w := 8) (x := vi (S.f 33 9)) rfl ly33 rfl rfl fun h6 => ?_
  have h6 : Rg (S.f 33 9) := h6
  refine r_call (i := 12) (u := 9) (v := 94) (w := 0) (b := 0) (na := 1284) (C2 := xC94) (as := [(2, 36), vi 12, vi (S.f 33 8), vi (S.f 33 9)]) (s := [vi (S.f 33 7), vi 9, (2, 36)]) rfl rfl rfl rfl rfl rfl rfl (sp94 (w0 := 12) (v := S.f 33 8) (v2 := S.f 33 9) hI ⟨by omega, by omega⟩ ⟨by omega, by omega⟩ ⟨by omega, by omega⟩ (by omega) e_PL (by omega)) (fun r7 S8 hq9 => ?_)
  obtain ⟨z10, rfl, h11, h12, h13, pa14, e15, hI16, hF17, hR18⟩ := hq9
  have hF19 := hF.trans hF17 rfl rfl
  have hR20 := hR.trans hR18 rfl
  refine Or.inr (Or.inl ⟨rfl, ?_⟩)
  have h21 := hI16.b0
  refine r_call (i := 13) (u := 9) (v := 94) (w := 0) (b := 0) (na := 1284) (C2 := xC94) (as := [(2, 36), vi 9, vi (S.f 33 7), vi z10]) (s := []) rfl rfl rfl rfl rfl rfl rfl (sp94 (w0 := 9) (v := S.f 33 7) (v2 := z10) hI16 ⟨by omega, by omega⟩ ⟨by omega, by omega⟩ ⟨by omega, by omega⟩ (by omega) e15 (by omega)) (fun r22 S23 hq24 => ?_)
  obtain ⟨z25, rfl, h26, h27, h28, pa29, e30, hI31, hF32, hR33⟩ := hq24
  have hF34 := hF19.trans hF32 rfl rfl
  have hR35 := hR20.trans hR33 rfl
  refine Or.inr (Or.inl ⟨rfl, ?_⟩)
  have h36 := hI31.b0
  exact r_retI (i := 14) rfl ⟨z25, rfl, by omega, by omega, (by omega), (by exact wfd_of (fun a9 b9 c9 d9 => pa14 (by decide) (by decide) a9 b9 c9 d9) (fun a9 b9 => pa29 (by decide) (by decide) a9 b9 (by omega) (by omega))), e30, hI31, hF34, hR35⟩
/-- ProxyForge$Writer.member -/
theorem sp160 {G : xk} {S : yS} {d : Nat} (hI : yI S) {w0 : Int} (h_w0 : -2147483648 ≤ w0 ∧ w0 ≤ 2147483647) {s : Nat} (h_s : yStr s) {s2 : Nat} (h_s2 : yStr s2) {s3 : Nat} (h_s3 : yStr s3) (p_0 : S.f 31 1 + (22 + slen s + slen s2 + slen s3) ≤ 60000) (e_PL : PL S) (hd : 7 ≤ d) : yT xPr G LY xC160 0 [some ((2, 33)), some (vi w0), some ((6, s)), some ((6, s2)), some ((6, s3))] [] S d (fun r S' => ∃ z : Int, r = (1, vi z) ∧ 0 ≤ z ∧ z ≤ 20001 ∧ (S.f 31 1 ≤ S'.f 31 1 ∧ S'.f 31 1 ≤ S.f 31 1 + (22 + slen s + slen s2 + slen s3)) ∧ (9 ≤ w0 → w0 ≤ 12 → wI S S' (wmb w0 (strl s) (strl s2) (strl s3)) z (imb w0 (strl s) (strl s2) (strl s3))) ∧ PL S' ∧ yI S' ∧ yFr [(31, 1), (36, 5)] [37, 100, 102, 103, 105] S S' ∧ yRm [0, 2, 3] S S') := by
  refine yT_pad 3 ?_
  show yT xPr G LY xC160 0 [some ((2, 33)), some (vi w0), some ((6, s)), some ((6, s2)), some ((6, s3)), none, none, none] [] S d _
  obtain ⟨d, rfl⟩ : ∃ q, d = q + 1 := ⟨d - 1, by omega⟩
  have hF : yFr [(31, 1), (36, 5)] [37, 100, 102, 103, 105] S S := yFr.refl S
  have hR : yRm [0, 2, 3] S S := yRm.refl S
  have h1 := hI.b0
  have sl9 := slen_le h_s
  have sl8 := slen_le h_s2
  have sl7 := slen_le h_s3
  refine r_load (i := 0) (u := 0) (w := 2) rfl rfl rfl ?_
  refine r_getf (i := 1) (v := 6) (w := 8) (x := (2, 36)) rfl ly33 rfl rfl fun _ => ?_
  refine r_const (i := 2) (u := 7) (z := 7) rfl rfl ?_
  refine r_load (i := 3) (u := 0) (w := 2) rfl rfl rfl ?_
  refine r_getf (i := 4) (v := 6) (w := 8) (x := (2, 36)) rfl ly33 rfl rfl fun _ => ?_
  refine r_load (i := 5) (u := 2) (w := 2) rfl rfl rfl ?_
  refine r_call (i := 6) (u := 9) (v := 98) (w := 0) (b := 0) (na := 770) (C2 := xC98) (as := [(2, 36), (6, s)]) (s := [vi 7, (2, 36)]) rfl rfl rfl rfl rfl rfl rfl (sp98 (s := s) hI h_s (by omega) e_PL (by omega)) (fun r4 S5 hq6 => ?_)
  obtain ⟨z7, rfl, h8, h9, h10, wi11, e12, hI13, hF14, hR15⟩ := hq6
  have hF16 := hF.trans hF14 rfl rfl
  have hR17 := hR.trans hR15 rfl
  refine Or.inr (Or.inl ⟨rfl, ?_⟩)
  have h18 := hI13.b0
  refine r_call (i := 7) (u := 9) (v := 97) (w := 0) (b := 0) (na := 1027) (C2 := xC97) (as := [(2, 36), vi 7, vi z7]) (s := []) rfl rfl rfl rfl rfl rfl rfl (sp97 (w0 := 7) (v := z7) hI13 ⟨by omega, by omega⟩ ⟨by omega, by omega⟩ (by omega) e12 (by omega)) (fun r19 S20 hq21 => ?_)
  obtain ⟨z22, rfl, h23, h24, h25, si26, e27, hI28, hF29, hR30⟩ := hq21
  have hF31 := hF16.trans hF29 rfl rfl
  have hR32 := hR17.trans hR30 rfl
  refine Or.inr (Or.inl ⟨rfl, ?_⟩)
  refine r_store (i := 8) (u := 5) (w := 0) (L1 := [some ((2, 33)), some (vi w0), some ((6, s)), some ((6, s2)), some ((6, s3)), some (vi z22), none, none]) rfl rfl rfl rfl ?_
  refine r_load (i := 9) (u := 0) (w := 2) rfl rfl rfl ?_
  refine r_getf (i := 10) (v := 6) (w := 8) (x := (2, 36)) rfl ly33 rfl rfl fun _ => ?_
  refine r_load (i := 11) (u := 3) (w := 2) rfl rfl rfl ?_
  have h34 := hI28.b0
  refine r_call (i := 12) (u := 9) (v := 98) (w := 0) (b := 0) (na := 770) (C2 := xC98) (as := [(2, 36), (6, s2)]) (s := []) rfl rfl rfl rfl rfl rfl rfl (sp98 (s := s2) hI28 h_s2 (by omega) e27 (by omega)) (fun r35 S36 hq37 => ?_)
  obtain ⟨z38, rfl, h39, h40, h41, wi42, e43, hI44, hF45, hR46⟩ := hq37
  have hF47 := hF31.trans hF45 rfl rfl
  have hR48 := hR32.trans hR46 rfl
  refine Or.inr (Or.inl ⟨rfl, ?_⟩)
  refine r_store (i := 13) (u := 6) (w := 0) (L1 := [some ((2, 33)), some (vi w0), some ((6, s)), some ((6, s2)), some ((6, s3)), some (vi z22), some (vi z38), none]) rfl rfl rfl rfl ?_
  refine r_load (i := 14) (u := 0) (w := 2) rfl rfl rfl ?_
  refine r_getf (i := 15) (v := 6) (w := 8) (x := (2, 36)) rfl ly33 rfl rfl fun _ => ?_
  refine r_const (i := 16) (u := 12) (z := 12) rfl rfl ?_
  refine r_load (i := 17) (u := 6) (w := 0) rfl rfl rfl ?_
  refine r_load (i := 18) (u := 0) (w := 2) rfl rfl rfl ?_
  refine r_getf (i := 19) (v := 6) (w := 8) (x := (2, 36)) rfl ly33 rfl rfl fun _ => ?_
  refine r_load (i := 20) (u := 4) (w := 2) rfl rfl rfl ?_
  have h51 := hI44.b0
  refine r_call (i := 21) (u := 9) (v := 98) (w := 0) (b := 0) (na := 770) (C2 := xC98) (as := [(2, 36), (6, s3)]) (s := [vi z38, vi 12, (2, 36)]) rfl rfl rfl rfl rfl rfl rfl (sp98 (s := s3) hI44 h_s3 (by omega) e43 (by omega)) (fun r52 S53 hq54 => ?_)
  obtain ⟨z55, rfl, h56, h57, h58, wi59, e60, hI61, hF62, hR63⟩ := hq54
  have hF64 := hF47.trans hF62 rfl rfl
  have hR65 := hR48.trans hR63 rfl
  refine Or.inr (Or.inl ⟨rfl, ?_⟩)
  have h66 := hI61.b0
  refine r_call (i := 22) (u := 9) (v := 94) (w := 0) (b := 0) (na := 1284) (C2 := xC94) (as := [(2, 36), vi 12, vi z38, vi z55]) (s := []) rfl rfl rfl rfl rfl rfl rfl (sp94 (w0 := 12) (v := z38) (v2 := z55) hI61 ⟨by omega, by omega⟩ ⟨by omega, by omega⟩ ⟨by omega, by omega⟩ (by omega) e60 (by omega)) (fun r67 S68 hq69 => ?_)
  obtain ⟨z70, rfl, h71, h72, h73, pa74, e75, hI76, hF77, hR78⟩ := hq69
  have hF79 := hF64.trans hF77 rfl rfl
  have hR80 := hR65.trans hR78 rfl
  refine Or.inr (Or.inl ⟨rfl, ?_⟩)
  refine r_store (i := 23) (u := 7) (w := 0) (L1 := [some ((2, 33)), some (vi w0), some ((6, s)), some ((6, s2)), some ((6, s3)), some (vi z22), some (vi z38), some (vi z70)]) rfl rfl rfl rfl ?_
  refine r_load (i := 24) (u := 0) (w := 2) rfl rfl rfl ?_
  refine r_getf (i := 25) (v := 6) (w := 8) (x := (2, 36)) rfl ly33 rfl rfl fun _ => ?_
  refine r_load (i := 26) (u := 1) (w := 0) rfl rfl rfl ?_
  refine r_load (i := 27) (u := 5) (w := 0) rfl rfl rfl ?_
  refine r_load (i := 28) (u := 7) (w := 0) rfl rfl rfl ?_
  have h82 := hI76.b0
  refine r_call (i := 29) (u := 9) (v := 94) (w := 0) (b := 0) (na := 1284) (C2 := xC94) (as := [(2, 36), vi w0, vi z22, vi z70]) (s := []) rfl rfl rfl rfl rfl rfl rfl (sp94 (w0 := w0) (v := z22) (v2 := z70) hI76 ⟨by omega, by omega⟩ ⟨by omega, by omega⟩ ⟨by omega, by omega⟩ (by omega) e75 (by omega)) (fun r83 S84 hq85 => ?_)
  obtain ⟨z86, rfl, h87, h88, h89, pa90, e91, hI92, hF93, hR94⟩ := hq85
  have hF95 := hF79.trans hF93 rfl rfl
  have hR96 := hR80.trans hR94 rfl
  refine Or.inr (Or.inl ⟨rfl, ?_⟩)
  have h97 := hI92.b0
  exact r_retI (i := 30) rfl ⟨z86, rfl, by omega, by omega, (by omega), (by intro hk9 hl9 w9 hw0; obtain ⟨hw1, ew1⟩ := wi11 _ hw0; obtain ⟨hw2, ew2⟩ := si26 rfl (by omega) (by omega) _ hw1; obtain ⟨hw3, ew3⟩ := wi42 _ hw2; obtain ⟨hw4, ew4⟩ := wi59 _ hw3; obtain ⟨hw5, ew5⟩ := pa74 (by omega) (by omega) (by omega) (by omega) (by omega) (by omega) _ hw4; obtain ⟨hw6, ew6⟩ := pa90 (by omega) (by omega) (by omega) (by omega) (by omega) (by omega) _ hw5; subst ew1; subst ew2; subst ew3; subst ew4; subst ew5; subst ew6; first | (exact ⟨hw6, rfl⟩)), e91, hI92, hF95, hR96⟩
/-- ProxyForge$Writer.ownMember -/
theorem sp167 {G : xk} {S : yS} {d : Nat} (hI : yI S) {w0 : Int} (h_w0 : -2147483648 ≤ w0 ∧ w0 ≤ 2147483647) {t : Int} (h_t : 0 ≤ t ∧ t ≤ 19) (p_0 : S.f 31 1 + 42 ≤ 60000) (e_PL : PL S) (hd : 7 ≤ d) : yT xPr G LY xC167 0 [some ((2, 33)), some (vi w0), some (vi t)] [] S d (fun r S' => ∃ z : Int, r = (1, vi z) ∧ 0 ≤ z ∧ z ≤ 20001 ∧ (S.f 31 1 ≤ S'.f 31 1 ∧ S'.f 31 1 ≤ S.f 31 1 + 42) ∧ (9 ≤ w0 → w0 ≤ 12 → wJ S S' (wom (pkR 4 S) w0 t) z (iom (pkR 4 S) w0 t)) ∧ PL S' ∧ yI S' ∧ yFr [(31, 1), (36, 5)] [37, 100, 102, 103, 105] S S' ∧ yRm [0, 2, 3] S S') := by
  refine yT_pad 1 ?_
  show yT xPr G LY xC167 0 [some ((2, 33)), some (vi w0), some (vi t), none] [] S d _
  obtain ⟨d, rfl⟩ : ∃ q, d = q + 1 := ⟨d - 1, by omega⟩
  have hF : yFr [(31, 1), (36, 5)] [37, 100, 102, 103, 105] S S := yFr.refl S
  have hR : yRm [0, 2, 3] S S := yRm.refl S
  have h1 := hI.b0
  refine r_load (i := 0) (u := 0) (w := 2) rfl rfl rfl ?_
  refine r_getf (i := 1) (v := 6) (w := 8) (x := (2, 36)) rfl ly33 rfl rfl fun _ => ?_
  refine r_load (i := 2) (u := 2) (w := 0) rfl rfl rfl ?_
  refine r_call (i := 3) (u := 9) (v := 89) (w := 0) (b := 0) (na := 770) (C2 := xC89) (as := [(2, 36), vi t]) (s := []) rfl rfl rfl rfl rfl rfl rfl (sp89 (t := t) hI ⟨by omega, by omega⟩ (by omega) e_PL (by omega)) (fun r3 S4 hq5 => ?_)
  obtain ⟨z6, rfl, h7, h8, h9, wi10, e11, hI12, hF13, hR14⟩ := hq5
  have hF15 := hF.trans hF13 rfl rfl
  have hR16 := hR.trans hR14 rfl
  refine Or.inr (Or.inl ⟨rfl, ?_⟩)
  refine r_store (i := 4) (u := 3) (w := 0) (L1 := [some ((2, 33)), some (vi w0), some (vi t), some (vi z6)]) rfl rfl rfl rfl ?_
  refine r_load (i := 5) (u := 0) (w := 2) rfl rfl rfl ?_
  refine r_getf (i := 6) (v := 6) (w := 8) (x := (2, 36)) rfl ly33 rfl rfl fun _ => ?_
  refine r_load (i := 7) (u := 1) (w := 0) rfl rfl rfl ?_
  refine r_load (i := 8) (u := 3) (w := 0) rfl rfl rfl ?_
  refine r_load (i := 9) (u := 0) (w := 2) rfl rfl rfl ?_
  refine r_getf (i := 10) (v := 6) (w := 8) (x := (2, 36)) rfl ly33 rfl rfl fun _ => ?_
  refine r_const (i := 11) (u := 12) (z := 12) rfl rfl ?_
  refine r_load (i := 12) (u := 0) (w := 2) rfl rfl rfl ?_
  have h19 : S4.f 33 10 = S.f 33 10 := hF13.f rfl
  refine r_getf (i := 13) (v := 10) (w := 8) (x := vi (S4.f 33 10)) rfl ly33 rfl rfl fun h20 => ?_
  have h20 : Rg (S4.f 33 10) := h20
  refine r_load (i := 14) (u := 0) (w := 2) rfl rfl rfl ?_
  have h21 : S4.f 33 11 = S.f 33 11 := hF13.f rfl
  refine r_getf (i := 15) (v := 11) (w := 8) (x := vi (S4.f 33 11)) rfl ly33 rfl rfl fun h22 => ?_
  have h22 : Rg (S4.f 33 11) := h22
  have h23 := hI12.b0
  refine r_call (i := 16) (u := 9) (v := 94) (w := 0) (b := 0) (na := 1284) (C2 := xC94) (as := [(2, 36), vi 12, vi (S4.f 33 10), vi (S4.f 33 11)]) (s := [vi z6, vi w0, (2, 36)]) rfl rfl rfl rfl rfl rfl rfl (sp94 (w0 := 12) (v := S4.f 33 10) (v2 := S4.f 33 11) hI12 ⟨by omega, by omega⟩ ⟨by omega, by omega⟩ ⟨by omega, by omega⟩ (by omega) e11 (by omega)) (fun r24 S25 hq26 => ?_)
  obtain ⟨z27, rfl, h28, h29, h30, pa31, e32, hI33, hF34, hR35⟩ := hq26
  have hF36 := hF15.trans hF34 rfl rfl
  have hR37 := hR16.trans hR35 rfl
  refine Or.inr (Or.inl ⟨rfl, ?_⟩)
  have h38 := hI33.b0
  refine r_call (i := 17) (u := 9) (v := 94) (w := 0) (b := 0) (na := 1284) (C2 := xC94) (as := [(2, 36), vi w0, vi z6, vi z27]) (s := []) rfl rfl rfl rfl rfl rfl rfl (sp94 (w0 := w0) (v := z6) (v2 := z27) hI33 ⟨by omega, by omega⟩ ⟨by omega, by omega⟩ ⟨by omega, by omega⟩ (by omega) e32 (by omega)) (fun r39 S40 hq41 => ?_)
  obtain ⟨z42, rfl, h43, h44, h45, pa46, e47, hI48, hF49, hR50⟩ := hq41
  have hF51 := hF36.trans hF49 rfl rfl
  have hR52 := hR37.trans hR50 rfl
  refine Or.inr (Or.inl ⟨rfl, ?_⟩)
  have h53 := hI48.b0
  exact r_retI (i := 18) rfl ⟨z42, rfl, by omega, by omega, (by omega), (by intro hk9 hl9; exact wom_of wi10 (hF13.f rfl) (hF13.f rfl) (fun a9 b9 c9 d9 => pa31 (by decide) (by decide) a9 b9 c9 d9) (pa46 hk9 hl9 (by omega) (by omega) (by omega) (by omega))), e47, hI48, hF51, hR52⟩
/-- ProxyForge$Writer.changeByCall -/
theorem sp148 {G : xk} {S : yS} {d : Nat} (hI : yI S) {m : Int} (h_m : 0 ≤ m ∧ m ≤ 59) (hd : 2 ≤ d) : yT xPr G LY xC148 0 [some ((2, 33)), some (vi m)] [] S d (fun r S' => ∃ z : Int, r = (1, vi z) ∧ -20 ≤ z ∧ z ≤ 20 ∧ z = chg (S.a 13 m.toNat) (S.a 14 m.toNat) ∧ S = S') := by
  refine yT_pad 0 ?_
  show yT xPr G LY xC148 0 [some ((2, 33)), some (vi m)] [] S d _
  obtain ⟨d, rfl⟩ : ∃ q, d = q + 1 := ⟨d - 1, by omega⟩
  refine r_load (i := 0) (u := 0) (w := 2) rfl rfl rfl ?_
  refine r_getf (i := 1) (v := 1) (w := 8) (x := (2, 9)) rfl ly33 rfl rfl fun _ => ?_
  refine r_getf (i := 2) (v := 5) (w := 2) (x := (2, 14)) rfl ly9 rfl rfl fun _ => ?_
  refine r_load (i := 3) (u := 1) (w := 0) rfl rfl rfl ?_
  refine a_int (i := 4) rfl ly14 rfl (by omega) (by omega) fun h3 => ?_
  have h4 := hI.a ta14 m.toNat
  refine r_call (i := 5) (u := 65535) (v := 70) (w := 0) (b := 2) (na := 257) (C2 := xC70) (as := [vi (S.a 14 m.toNat)]) (s := []) rfl rfl rfl rfl rfl rfl rfl (sp70 (k := S.a 14 m.toNat) hI ⟨by omega, by omega⟩   (by omega)) (fun r5 S6 hq7 => ?_)
  obtain ⟨z8, rfl, h9, h10, wd11, rfl⟩ := hq7
  refine Or.inr (Or.inl ⟨rfl, ?_⟩)
  refine r_const (i := 6) (u := 1) (z := 1) rfl rfl ?_
  refine r_isub (i := 7) rfl ?_
  refine r_load (i := 8) (u := 0) (w := 2) rfl rfl rfl ?_
  refine r_getf (i := 9) (v := 1) (w := 8) (x := (2, 9)) rfl ly33 rfl rfl fun _ => ?_
  refine r_getf (i := 10) (v := 4) (w := 2) (x := (2, 13)) rfl ly9 rfl rfl fun _ => ?_
  refine r_load (i := 11) (u := 1) (w := 0) rfl rfl rfl ?_
  refine a_int (i := 12) rfl ly13 rfl (by omega) (by omega) fun h14 => ?_
  have kp15 := hI.k13 m.toNat
  refine r_call (i := 13) (u := 65535) (v := 71) (w := 0) (b := 2) (na := 769) (C2 := xC71) (as := [vi (S.a 13 m.toNat)]) (s := [vi (z8 - 1)]) rfl rfl rfl rfl rfl rfl rfl (sp71 (p := S.a 13 m.toNat) hI ⟨by omega, by omega⟩   (by omega)) (fun r16 S17 hq18 => ?_)
  obtain ⟨z19, rfl, h20, h21, wda22, rfl⟩ := hq18
  refine Or.inr (Or.inl ⟨rfl, ?_⟩)
  refine r_isub (i := 14) rfl ?_
  have h23 := hI.a ta14 m.toNat
  exact r_retI (i := 15) rfl ⟨(z8 - 1) - z19, rfl, by omega, by omega, (by unfold chg; rw [← wd11, ← wda22]), rfl⟩
theorem lp150_4 {G : xk} {d : Nat} {S : yS} (hI : yI S)  (hd : 2 ≤ d + 1) : ∀ (n : Nat), ∀ (c0 m : Int) (h_c0 : 0 ≤ c0 ∧ c0 ≤ 60) (h_m : 0 ≤ m ∧ m ≤ 60) (q_0 : c0 ≤ m) (q_1 : c0 = occ (oPn (dK S)) m.toNat) (q_2 : m ≤ S.f 9 8) (hn : 60 - m < (n : Nat)), yT xPr G LY xC150 4 [some ((2, 33)), some (vi c0), some (vi m)] [] S (d + 1) (fun r S' => ∃ z : Int, r = (1, vi z) ∧ 0 ≤ z ∧ z ≤ 60 ∧ z = occ (oPn (dK S)) ((dK S).2 9 8).toNat ∧ S = S') := by
  intro n
  induction n with
  | zero => intro c0 m h_c0 h_m q_0 q_1 q_2 hn; exact absurd hn (by omega)
  | succ n ih =>
    intro c0 m h_c0 h_m q_0 q_1 q_2 hn
    have h1 := hI.f tf9_8
    refine r_load (i := 4) (u := 2) (w := 0) rfl rfl rfl ?_
    refine r_load (i := 5) (u := 0) (w := 2) rfl rfl rfl ?_
    refine r_getf (i := 6) (v := 1) (w := 8) (x := (2, 9)) rfl ly33 rfl rfl fun _ => ?_
    refine r_getf (i := 7) (v := 8) (w := 2) (x := vi (S.f 9 8)) rfl ly9 rfl rfl fun h3 => ?_
    have h3 : Rg (S.f 9 8) := h3
    refine c_ge (i := 8) (v := 20) rfl ⟨by omega, by omega⟩ ⟨by omega, by omega⟩ (fun h4 => ?_) (fun h5 => ?_)
    · refine r_load (i := 20) (u := 1) (w := 0) rfl rfl rfl ?_
      exact r_retI (i := 21) rfl ⟨c0, rfl, by omega, by omega, (by rw [show ((dK S).2 9 8).toNat = m.toNat from (show (S.f 9 8).toNat = m.toNat by omega)]; exact q_1), rfl⟩
    · refine r_load (i := 9) (u := 0) (w := 2) rfl rfl rfl ?_
      refine r_getf (i := 10) (v := 1) (w := 8) (x := (2, 9)) rfl ly33 rfl rfl fun _ => ?_
      refine r_load (i := 11) (u := 2) (w := 0) rfl rfl rfl ?_
      refine r_load (i := 12) (u := 0) (w := 2) rfl rfl rfl ?_
      refine r_getf (i := 13) (v := 2) (w := 8) (x := (2, 17)) rfl ly33 rfl rfl fun _ => ?_
      have h8 := hI.f tf17_6
      refine r_getf (i := 14) (v := 6) (w := 3) (x := vi (S.f 17 6)) rfl ly17 rfl rfl fun h9 => ?_
      have h9 : Rg (S.f 17 6) := h9
      refine r_call (i := 15) (u := 2) (v := 79) (w := 0) (b := 0) (na := 771) (C2 := xC79) (as := [(2, 9), vi m, vi (S.f 17 6)]) (s := []) rfl rfl rfl rfl rfl rfl rfl (sp79 (m := m) (t := S.f 17 6) hI ⟨by omega, by omega⟩ ⟨by omega, by omega⟩   (by omega)) (fun r10 S11 hq12 => ?_)
      obtain ⟨z13, rfl, h14, h15, yo16, no17, rfl⟩ := hq12
      refine Or.inr (Or.inl ⟨rfl, ?_⟩)
      refine z_eq (i := 16) (v := 18) rfl ⟨by omega, by omega⟩ (fun h18 => ?_) (fun h19 => ?_)
      · refine r_iinc (i := 18) (u := 1) (v := 2) (s := 1) (L1 := [some ((2, 33)), some (vi c0), some (vi (m + 1))]) rfl rfl rfl rfl rfl ?_
        refine r_goto (i := 19) (v := 4) rfl ?_
        exact ih c0 (m + 1) ⟨by omega, by omega⟩ ⟨by omega, by omega⟩ (by omega) (by first | exact occ_y (by omega) q_1 (opn_y (yo16 (by omega)) rfl) | exact occ_n (by omega) q_1 (opn_n (no17 (by omega)) rfl)) (by omega) (by omega)
      · refine r_iinc (i := 17) (u := 1) (v := 1) (s := 1) (L1 := [some ((2, 33)), some (vi (c0 + 1)), some (vi m)]) rfl rfl rfl rfl rfl ?_
        refine r_iinc (i := 18) (u := 1) (v := 2) (s := 1) (L1 := [some ((2, 33)), some (vi (c0 + 1)), some (vi (m + 1))]) rfl rfl rfl rfl rfl ?_
        refine r_goto (i := 19) (v := 4) rfl ?_
        exact ih (c0 + 1) (m + 1) ⟨by omega, by omega⟩ ⟨by omega, by omega⟩ (by omega) (by first | exact occ_y (by omega) q_1 (opn_y (yo16 (by omega)) rfl) | exact occ_n (by omega) q_1 (opn_n (no17 (by omega)) rfl)) (by omega) (by omega)
/-- ProxyForge$Writer.constructorCount -/
theorem sp150 {G : xk} {S : yS} {d : Nat} (hI : yI S)  (hd : 2 ≤ d) : yT xPr G LY xC150 0 [some ((2, 33))] [] S d (fun r S' => ∃ z : Int, r = (1, vi z) ∧ 0 ≤ z ∧ z ≤ 60 ∧ z = occ (oPn (dK S)) ((dK S).2 9 8).toNat ∧ S = S') := by
  refine yT_pad 2 ?_
  show yT xPr G LY xC150 0 [some ((2, 33)), none, none] [] S d _
  obtain ⟨d, rfl⟩ : ∃ q, d = q + 1 := ⟨d - 1, by omega⟩
  refine r_const (i := 0) (u := 0) (z := 0) rfl rfl ?_
  refine r_store (i := 1) (u := 1) (w := 0) (L1 := [some ((2, 33)), some (vi 0), none]) rfl rfl rfl rfl ?_
  refine r_const (i := 2) (u := 0) (z := 0) rfl rfl ?_
  refine r_store (i := 3) (u := 2) (w := 0) (L1 := [some ((2, 33)), some (vi 0), some (vi 0)]) rfl rfl rfl rfl ?_
  have h1 := hI.f tf9_8
  exact lp150_4 hI    hd _ 0 0 ⟨by omega, by omega⟩ ⟨by omega, by omega⟩ (by omega) (by exact rfl) (by omega) (Int.lt_succ_toNat _)
/-- ProxyForge$Writer.noHandlers -/
theorem sp162 {G : xk} {S : yS} {d : Nat} (hI : yI S) (p_0 : S.f 34 1 + 4 ≤ 60000) (hd : 6 ≤ d) : yT xPr G LY xC162 0 [some ((2, 33))] [] S d (fun r S' => r = (0, (0, 0)) ∧ (S.f 34 1 ≤ S'.f 34 1 ∧ S'.f 34 1 ≤ S.f 34 1 + 4) ∧ wQ S S' (fun w => wby (tw 0) (wby (tw 0) w)) ∧ yI S' ∧ yFr [(34, 1)] [101, 105] S S' ∧ yRm [1] S S') := by
  refine yT_pad 0 ?_
  show yT xPr G LY xC162 0 [some ((2, 33))] [] S d _
  obtain ⟨d, rfl⟩ : ∃ q, d = q + 1 := ⟨d - 1, by omega⟩
  have hF : yFr [(34, 1)] [101, 105] S S := yFr.refl S
  have hR : yRm [1] S S := yRm.refl S
  have h1 := hI.b1
  refine r_load (i := 0) (u := 0) (w := 2) rfl rfl rfl ?_
  refine r_getf (i := 1) (v := 5) (w := 8) (x := (2, 34)) rfl ly33 rfl rfl fun _ => ?_
  refine r_const (i := 2) (u := 0) (z := 0) rfl rfl ?_
  refine r_call (i := 3) (u := 7) (v := 36) (w := 0) (b := 0) (na := 514) (C2 := xC36) (as := [(2, 34), vi 0]) (s := []) rfl rfl rfl rfl rfl rfl rfl (sp36_34 (b := 0) hI ⟨by omega, by omega⟩ (by omega)  (by omega)) (fun r3 S4 hq5 => ?_)
  obtain ⟨rfl, h6, btw7, hI8, hF9, hR10⟩ := hq5
  have hF11 := hF.trans hF9 rfl rfl
  have hR12 := hR.trans hR10 rfl
  refine Or.inl ⟨rfl, ?_⟩
  refine r_load (i := 4) (u := 0) (w := 2) rfl rfl rfl ?_
  refine r_getf (i := 5) (v := 5) (w := 8) (x := (2, 34)) rfl ly33 rfl rfl fun _ => ?_
  refine r_const (i := 6) (u := 0) (z := 0) rfl rfl ?_
  have h14 := hI8.b1
  refine r_call (i := 7) (u := 7) (v := 36) (w := 0) (b := 0) (na := 514) (C2 := xC36) (as := [(2, 34), vi 0]) (s := []) rfl rfl rfl rfl rfl rfl rfl (sp36_34 (b := 0) hI8 ⟨by omega, by omega⟩ (by omega)  (by omega)) (fun r15 S16 hq17 => ?_)
  obtain ⟨rfl, h18, btw19, hI20, hF21, hR22⟩ := hq17
  have hF23 := hF11.trans hF21 rfl rfl
  have hR24 := hR12.trans hR22 rfl
  refine Or.inl ⟨rfl, ?_⟩
  have h25 := hI20.b1
  exact r_ret0 (i := 8) rfl ⟨rfl, (by omega), (by intro w9 hw0; have hw1 := wQ_by btw7 (sFl_fr hF9 rfl rfl) (sDp_fr hF9 rfl) _ hw0; have hw2 := wQ_by btw19 (sFl_fr hF21 rfl rfl) (sDp_fr hF21 rfl) _ hw1; first | (exact hw2)), hI20, hF23, hR24⟩
/-- ProxyForge$Writer.startCode -/
theorem sp171 {G : xk} {S : yS} {d : Nat} (hI : yI S) {lc : Int} (h_lc : -2147483648 ≤ lc ∧ lc ≤ 2147483647) (p_0 : S.f 31 1 + 7 ≤ 60000) (p_1 : S.f 34 1 + 14 ≤ 60000) (e_PL : PL S) (hd : 7 ≤ d) : yT xPr G LY xC171 0 [some ((2, 33)), some (vi lc)] [] S d (fun r S' => r = (0, (0, 0)) ∧ (S.f 31 1 ≤ S'.f 31 1 ∧ S'.f 31 1 ≤ S.f 31 1 + 7) ∧ (S.f 34 1 ≤ S'.f 34 1 ∧ S'.f 34 1 ≤ S.f 34 1 + 14) ∧ (S'.f 33 12 = S.f 34 1 + 6 ∧ S'.f 33 13 = S'.f 33 12 + 8 ∧ S'.f 34 1 = S.f 34 1 + 14) ∧ wQ S S' (wsc lc) ∧ PL S' ∧ yI S' ∧ yFr [(31, 1), (33, 12), (33, 13), (33, 14), (33, 15), (34, 1), (36, 5)] [37, 100, 101, 102, 103, 105] S S' ∧ yRm [0, 1, 2, 3] S S') := by
  refine yT_pad 0 ?_
  show yT xPr G LY xC171 0 [some ((2, 33)), some (vi lc)] [] S d _
  obtain ⟨d, rfl⟩ : ∃ q, d = q + 1 := ⟨d - 1, by omega⟩
  have hF : yFr [(31, 1), (33, 12), (33, 13), (33, 14), (33, 15), (34, 1), (36, 5)] [37, 100, 101, 102, 103, 105] S S := yFr.refl S
  have hR : yRm [0, 1, 2, 3] S S := yRm.refl S
  have h1 := hI.b0
  have h2 := hI.b1
  refine r_load (i := 0) (u := 0) (w := 2) rfl rfl rfl ?_
  refine r_getf (i := 1) (v := 5) (w := 8) (x := (2, 34)) rfl ly33 rfl rfl fun _ => ?_
  refine r_load (i := 2) (u := 0) (w := 2) rfl rfl rfl ?_
  refine r_getf (i := 3) (v := 6) (w := 8) (x := (2, 36)) rfl ly33 rfl rfl fun _ => ?_
  refine r_str (i := 4) (v := 13) rfl ?_
  have h5 := slv13
  refine r_call (i := 5) (u := 9) (v := 98) (w := 0) (b := 0) (na := 770) (C2 := xC98) (as := [(2, 36), (6, 13)]) (s := [(2, 34)]) rfl rfl rfl rfl rfl rfl rfl (sp98 (s := 13) hI ⟨by decide, by decide⟩ (by omega) e_PL (by omega)) (fun r6 S7 hq8 => ?_)
  obtain ⟨z9, rfl, h10, h11, h12, wi13, e14, hI15, hF16, hR17⟩ := hq8
  have hF18 := hF.trans hF16 rfl rfl
  have hR19 := hR.trans hR17 rfl
  refine Or.inr (Or.inl ⟨rfl, ?_⟩)
  have h20 := hI15.b1
  have h21 : S7.f 34 1 = S.f 34 1 := hF16.f rfl
  refine r_call (i := 6) (u := 7) (v := 36) (w := 0) (b := 0) (na := 514) (C2 := xC36) (as := [(2, 34), vi z9]) (s := []) rfl rfl rfl rfl rfl rfl rfl (sp36_34 (b := z9) hI15 ⟨by omega, by omega⟩ (by omega)  (by omega)) (fun r22 S23 hq24 => ?_)
  obtain ⟨rfl, h25, btw26, hI27, hF28, hR29⟩ := hq24
  have hF30 := hF18.trans hF28 rfl rfl
  have hR31 := hR19.trans hR29 rfl
  have e32 := PLx.fr e14 hF28 hR29 rfl rfl rfl
  have e33 := PTx.fr e14 hF28 hR29 rfl rfl rfl
  refine Or.inl ⟨rfl, ?_⟩
  refine r_load (i := 7) (u := 0) (w := 2) rfl rfl rfl ?_
  refine r_getf (i := 8) (v := 5) (w := 8) (x := (2, 34)) rfl ly33 rfl rfl fun _ => ?_
  refine r_const (i := 9) (u := 0) (z := 0) rfl rfl ?_
  have h35 := hI27.b1
  refine r_call (i := 10) (u := 7) (v := 24) (w := 0) (b := 0) (na := 514) (C2 := xC24) (as := [(2, 34), vi 0]) (s := []) rfl rfl rfl rfl rfl rfl rfl (sp24_34 (b := 0) hI27 ⟨by omega, by omega⟩ (by omega)  (by omega)) (fun r36 S37 hq38 => ?_)
  obtain ⟨rfl, h39, bfo40, hI41, hF42, hR43⟩ := hq38
  have hF44 := hF30.trans hF42 rfl rfl
  have hR45 := hR31.trans hR43 rfl
  have e46 := PLx.fr e32 hF42 hR43 rfl rfl rfl
  have e47 := PTx.fr e33 hF42 hR43 rfl rfl rfl
  refine Or.inl ⟨rfl, ?_⟩
  refine r_load (i := 11) (u := 0) (w := 2) rfl rfl rfl ?_
  refine r_load (i := 12) (u := 0) (w := 2) rfl rfl rfl ?_
  refine r_getf (i := 13) (v := 5) (w := 8) (x := (2, 34)) rfl ly33 rfl rfl fun _ => ?_
  have h49 := hI41.b1
  refine r_getf (i := 14) (v := 1) (w := 7) (x := vi (S37.f 34 1)) rfl ly34 rfl rfl fun h50 => ?_
  have h50 : Rg (S37.f 34 1) := h50
  refine r_putI (i := 15) (v := 12) (w := 8) rfl ly33 rfl ⟨by omega, by omega⟩ ?_
  have hI52 := hI41.setf0 (b := 33) (w := 12) (z := S37.f 34 1) rfl rfl
  have hF54 := hF44.setf (b := 33) (w := 12) (z := S37.f 34 1) rfl
  have hR55 := hR45.setf (b := 33) (w := 12) (z := S37.f 34 1)
  have e56 := PLx.setf e46 (b := 33) (w := 12) (z := S37.f 34 1) rfl
  have e57 := PTx.setf e47 (b := 33) (w := 12) (z := S37.f 34 1) rfl
  refine yT_gen (fun S51 hS53 => ?_)
  rw [hS53] at hI52 hF54 hR55 e56 e57
  refine r_load (i := 16) (u := 0) (w := 2) rfl rfl rfl ?_
  refine r_getf (i := 17) (v := 5) (w := 8) (x := (2, 34)) rfl ly33 rfl rfl fun _ => ?_
  refine r_const (i := 18) (u := 0) (z := 0) rfl rfl ?_
  have h59 := hI52.b1
  have h60 : S51.f 34 1 = S37.f 34 1 := by rw [← hS53]; exact ysf_ne (by decide)
  refine r_call (i := 19) (u := 7) (v := 36) (w := 0) (b := 0) (na := 514) (C2 := xC36) (as := [(2, 34), vi 0]) (s := []) rfl rfl rfl rfl rfl rfl rfl (sp36_34 (b := 0) hI52 ⟨by omega, by omega⟩ (by omega)  (by omega)) (fun r61 S62 hq63 => ?_)
  obtain ⟨rfl, h64, btw65, hI66, hF67, hR68⟩ := hq63
  have hF69 := hF54.trans hF67 rfl rfl
  have hR70 := hR55.trans hR68 rfl
  have e71 := PLx.fr e56 hF67 hR68 rfl rfl rfl
  have e72 := PTx.fr e57 hF67 hR68 rfl rfl rfl
  refine Or.inl ⟨rfl, ?_⟩
  refine r_load (i := 20) (u := 0) (w := 2) rfl rfl rfl ?_
  refine r_getf (i := 21) (v := 5) (w := 8) (x := (2, 34)) rfl ly33 rfl rfl fun _ => ?_
  refine r_load (i := 22) (u := 1) (w := 0) rfl rfl rfl ?_
  have h74 := hI66.b1
  refine r_call (i := 23) (u := 7) (v := 36) (w := 0) (b := 0) (na := 514) (C2 := xC36) (as := [(2, 34), vi lc]) (s := []) rfl rfl rfl rfl rfl rfl rfl (sp36_34 (b := lc) hI66 ⟨by omega, by omega⟩ (by omega)  (by omega)) (fun r75 S76 hq77 => ?_)
  obtain ⟨rfl, h78, btw79, hI80, hF81, hR82⟩ := hq77
  have hF83 := hF69.trans hF81 rfl rfl
  have hR84 := hR70.trans hR82 rfl
  have e85 := PLx.fr e71 hF81 hR82 rfl rfl rfl
  have e86 := PTx.fr e72 hF81 hR82 rfl rfl rfl
  refine Or.inl ⟨rfl, ?_⟩
  refine r_load (i := 24) (u := 0) (w := 2) rfl rfl rfl ?_
  refine r_getf (i := 25) (v := 5) (w := 8) (x := (2, 34)) rfl ly33 rfl rfl fun _ => ?_
  refine r_const (i := 26) (u := 0) (z := 0) rfl rfl ?_
  have h88 := hI80.b1
  refine r_call (i := 27) (u := 7) (v := 24) (w := 0) (b := 0) (na := 514) (C2 := xC24) (as := [(2, 34), vi 0]) (s := []) rfl rfl rfl rfl rfl rfl rfl (sp24_34 (b := 0) hI80 ⟨by omega, by omega⟩ (by omega)  (by omega)) (fun r89 S90 hq91 => ?_)
  obtain ⟨rfl, h92, bfo93, hI94, hF95, hR96⟩ := hq91
  have hF97 := hF83.trans hF95 rfl rfl
  have hR98 := hR84.trans hR96 rfl
  have e99 := PLx.fr e85 hF95 hR96 rfl rfl rfl
  have e100 := PTx.fr e86 hF95 hR96 rfl rfl rfl
  refine Or.inl ⟨rfl, ?_⟩
  refine r_load (i := 28) (u := 0) (w := 2) rfl rfl rfl ?_
  refine r_load (i := 29) (u := 0) (w := 2) rfl rfl rfl ?_
  refine r_getf (i := 30) (v := 5) (w := 8) (x := (2, 34)) rfl ly33 rfl rfl fun _ => ?_
  have h102 := hI94.b1
  refine r_getf (i := 31) (v := 1) (w := 7) (x := vi (S90.f 34 1)) rfl ly34 rfl rfl fun h103 => ?_
  have h103 : Rg (S90.f 34 1) := h103
  refine r_putI (i := 32) (v := 13) (w := 8) rfl ly33 rfl ⟨by omega, by omega⟩ ?_
  have hI105 := hI94.setf0 (b := 33) (w := 13) (z := S90.f 34 1) rfl rfl
  have hF107 := hF97.setf (b := 33) (w := 13) (z := S90.f 34 1) rfl
  have hR108 := hR98.setf (b := 33) (w := 13) (z := S90.f 34 1)
  have e109 := PLx.setf e99 (b := 33) (w := 13) (z := S90.f 34 1) rfl
  have e110 := PTx.setf e100 (b := 33) (w := 13) (z := S90.f 34 1) rfl
  refine yT_gen (fun S104 hS106 => ?_)
  rw [hS106] at hI105 hF107 hR108 e109 e110
  refine r_load (i := 33) (u := 0) (w := 2) rfl rfl rfl ?_
  refine r_const (i := 34) (u := 0) (z := 0) rfl rfl ?_
  rw [vi_sg (0)]
  have h111 := ysg_rg (0)
  refine r_putI (i := 35) (v := 14) (w := 8) rfl ly33 rfl ⟨by omega, by omega⟩ ?_
  have hI113 := hI105.setf0 (b := 33) (w := 14) (z := ysg 0) rfl rfl
  have hF115 := hF107.setf (b := 33) (w := 14) (z := ysg 0) rfl
  have hR116 := hR108.setf (b := 33) (w := 14) (z := ysg 0)
  have e117 := PLx.setf e109 (b := 33) (w := 14) (z := ysg 0) rfl
  have e118 := PTx.setf e110 (b := 33) (w := 14) (z := ysg 0) rfl
  refine yT_gen (fun S112 hS114 => ?_)
  rw [hS114] at hI113 hF115 hR116 e117 e118
  refine r_load (i := 36) (u := 0) (w := 2) rfl rfl rfl ?_
  refine r_const (i := 37) (u := 0) (z := 0) rfl rfl ?_
  refine r_putI (i := 38) (v := 15) (w := 8) rfl ly33 rfl ⟨by omega, by omega⟩ ?_
  have hI120 := hI113.setf0 (b := 33) (w := 15) (z := 0) rfl rfl
  have hF122 := hF115.setf (b := 33) (w := 15) (z := 0) rfl
  have hR123 := hR116.setf (b := 33) (w := 15) (z := 0)
  have e124 := PLx.setf e117 (b := 33) (w := 15) (z := 0) rfl
  have e125 := PTx.setf e118 (b := 33) (w := 15) (z := 0) rfl
  refine yT_gen (fun S119 hS121 => ?_)
  rw [hS121] at hI120 hF122 hR123 e124 e125
  have h126 := hI120.b0
  have h127 : S119.f 31 1 = S112.f 31 1 := by rw [← hS121]; exact ysf_ne (by decide)
  have h128 : S112.f 31 1 = S104.f 31 1 := by rw [← hS114]; exact ysf_ne (by decide)
  have h129 : S104.f 31 1 = S90.f 31 1 := by rw [← hS106]; exact ysf_ne (by decide)
  have h130 : S90.f 31 1 = S76.f 31 1 := hF95.f rfl
  have h131 : S76.f 31 1 = S62.f 31 1 := hF81.f rfl
  have h132 : S62.f 31 1 = S51.f 31 1 := hF67.f rfl
  have h133 : S51.f 31 1 = S37.f 31 1 := by rw [← hS53]; exact ysf_ne (by decide)
  have h134 : S37.f 31 1 = S23.f 31 1 := hF42.f rfl
  have h135 : S23.f 31 1 = S7.f 31 1 := hF28.f rfl
  have h136 := hI120.b1
  have h137 : S119.f 34 1 = S112.f 34 1 := by rw [← hS121]; exact ysf_ne (by decide)
  have h138 : S112.f 34 1 = S104.f 34 1 := by rw [← hS114]; exact ysf_ne (by decide)
  have h139 : S104.f 34 1 = S90.f 34 1 := by rw [← hS106]; exact ysf_ne (by decide)
  have h140 : S119.f 33 12 = S112.f 33 12 := by rw [← hS121]; exact ysf_ne (by decide)
  have h141 : S112.f 33 12 = S104.f 33 12 := by rw [← hS114]; exact ysf_ne (by decide)
  have h142 : S104.f 33 12 = S90.f 33 12 := by rw [← hS106]; exact ysf_ne (by decide)
  have h143 : S90.f 33 12 = S76.f 33 12 := hF95.f rfl
  have h144 : S76.f 33 12 = S62.f 33 12 := hF81.f rfl
  have h145 : S62.f 33 12 = S51.f 33 12 := hF67.f rfl
  have h146 : S51.f 33 12 = S37.f 34 1 := by rw [← hS53]; exact ysf_eq
  have h147 : S119.f 33 13 = S112.f 33 13 := by rw [← hS121]; exact ysf_ne (by decide)
  have h148 : S112.f 33 13 = S104.f 33 13 := by rw [← hS114]; exact ysf_ne (by decide)
  have h149 : S104.f 33 13 = S90.f 34 1 := by rw [← hS106]; exact ysf_eq
  exact r_ret0 (i := 39) rfl ⟨rfl, (by omega), (by omega), (by omega), (by intro w9 hw0; obtain ⟨hw1, ew1⟩ := wi13 _ hw0; have hw2 := wQ_by btw26 (sFl_fr hF28 rfl rfl) (sDp_fr hF28 rfl) _ hw1; have hw3 := wQ_by bfo40 (sFl_fr hF42 rfl rfl) (sDp_fr hF42 rfl) _ hw2; have hw4 := wQ_f hS53 (by decide) _ hw3; have hw5 := wQ_by btw65 (sFl_fr hF67 rfl rfl) (sDp_fr hF67 rfl) _ hw4; have hw6 := wQ_by btw79 (sFl_fr hF81 rfl rfl) (sDp_fr hF81 rfl) _ hw5; have hw7 := wQ_by bfo93 (sFl_fr hF95 rfl rfl) (sDp_fr hF95 rfl) _ hw6; have hw8 := wQ_f hS106 (by decide) _ hw7; have hw9 := wQ_14 hS114 _ hw8; have hw10 := wQ_15 hS121 _ hw9; subst ew1; first | (exact hw10)), e124, hI120, hF122, hR123⟩
/-- ProxyForge$Writer.endInstructions -/
theorem sp153 {G : xk} {S : yS} {d : Nat} (hI : yI S) (p_0 : S.f 34 1 + 0 ≤ 60000) (p_1 : 6 ≤ S.f 33 12 ∧ S.f 33 12 + 8 ≤ S.f 34 1 ∧ S.f 33 13 = S.f 33 12 + 8) (hd : 3 ≤ d) : yT xPr G LY xC153 0 [some ((2, 33))] [] S d (fun r S' => r = (0, (0, 0)) ∧ (S.f 34 1 ≤ S'.f 34 1 ∧ S'.f 34 1 ≤ S.f 34 1 + 0) ∧ wQ S S' (wei (S.f 33 12)) ∧ yI S' ∧ yFr [] [101] S S' ∧ yRm [] S S') := by
  refine yT_pad 0 ?_
  show yT xPr G LY xC153 0 [some ((2, 33))] [] S d _
  obtain ⟨d, rfl⟩ : ∃ q, d = q + 1 := ⟨d - 1, by omega⟩
  have hF : yFr [] [101] S S := yFr.refl S
  have hR : yRm [] S S := yRm.refl S
  have h1 := hI.b1
  refine r_load (i := 0) (u := 0) (w := 2) rfl rfl rfl ?_
  refine r_getf (i := 1) (v := 5) (w := 8) (x := (2, 34)) rfl ly33 rfl rfl fun _ => ?_
  refine r_load (i := 2) (u := 0) (w := 2) rfl rfl rfl ?_
  refine r_getf (i := 3) (v := 12) (w := 8) (x := vi (S.f 33 12)) rfl ly33 rfl rfl fun h3 => ?_
  have h3 : Rg (S.f 33 12) := h3
  refine r_load (i := 4) (u := 0) (w := 2) rfl rfl rfl ?_
  refine r_getf (i := 5) (v := 15) (w := 8) (x := vi (S.f 33 15)) rfl ly33 rfl rfl fun h4 => ?_
  have h4 : Rg (S.f 33 15) := h4
  have h5 := hI.bn
  have h6 := hI.br
  refine r_call (i := 6) (u := 7) (v := 33) (w := 0) (b := 0) (na := 771) (C2 := xC33) (as := [(2, 34), vi (S.f 33 12), vi (S.f 33 15)]) (s := []) rfl rfl rfl rfl rfl rfl rfl (sp33_34 (k := S.f 33 12) (b := S.f 33 15) hI ⟨by omega, by omega⟩ ⟨by omega, by omega⟩ (by omega)  (by omega)) (fun r7 S8 hq9 => ?_)
  obtain ⟨rfl, bsw10, hI11, hF12, hR13⟩ := hq9
  have hF14 := hF.trans hF12 rfl rfl
  have hR15 := hR.trans hR13 rfl
  refine Or.inl ⟨rfl, ?_⟩
  refine r_load (i := 7) (u := 0) (w := 2) rfl rfl rfl ?_
  refine r_getf (i := 8) (v := 5) (w := 8) (x := (2, 34)) rfl ly33 rfl rfl fun _ => ?_
  refine r_load (i := 9) (u := 0) (w := 2) rfl rfl rfl ?_
  have h17 : S8.f 33 13 = S.f 33 13 := hF12.f rfl
  refine r_getf (i := 10) (v := 13) (w := 8) (x := vi (S8.f 33 13)) rfl ly33 rfl rfl fun h18 => ?_
  have h18 : Rg (S8.f 33 13) := h18
  refine r_const (i := 11) (u := 4) (z := 4) rfl rfl ?_
  refine r_isub (i := 12) rfl ?_
  refine r_load (i := 13) (u := 0) (w := 2) rfl rfl rfl ?_
  refine r_getf (i := 14) (v := 5) (w := 8) (x := (2, 34)) rfl ly33 rfl rfl fun _ => ?_
  have h20 := hI11.b1
  have h21 : S8.f 34 1 = S.f 34 1 := hF12.f rfl
  refine r_getf (i := 15) (v := 1) (w := 7) (x := vi (S8.f 34 1)) rfl ly34 rfl rfl fun h22 => ?_
  have h22 : Rg (S8.f 34 1) := h22
  refine r_load (i := 16) (u := 0) (w := 2) rfl rfl rfl ?_
  refine r_getf (i := 17) (v := 13) (w := 8) (x := vi (S8.f 33 13)) rfl ly33 rfl rfl fun h23 => ?_
  have h23 : Rg (S8.f 33 13) := h23
  refine r_isub (i := 18) rfl ?_
  have h24 := hI11.bn
  have h25 := hI11.br
  have h26 : S8.n 0 = S.n 0 := hR13.eq rfl rfl
  have h27 : S8.n 1 = S.n 1 := hR13.eq rfl rfl
  have h28 : S8.n 2 = S.n 2 := hR13.eq rfl rfl
  have h29 : S8.n 3 = S.n 3 := hR13.eq rfl rfl
  have h30 : S8.n 4 = S.n 4 := hR13.eq rfl rfl
  refine r_call (i := 19) (u := 7) (v := 32) (w := 0) (b := 0) (na := 771) (C2 := xC32) (as := [(2, 34), vi ((S8.f 33 13) - 4), vi ((S8.f 34 1) - (S8.f 33 13))]) (s := []) rfl rfl rfl rfl rfl rfl rfl (sp32_34 (k := (S8.f 33 13) - 4) (b := (S8.f 34 1) - (S8.f 33 13)) hI11 ⟨by omega, by omega⟩ ⟨by omega, by omega⟩ (by omega)  (by omega)) (fun r31 S32 hq33 => ?_)
  obtain ⟨rfl, bsf34, hI35, hF36, hR37⟩ := hq33
  have hF38 := hF14.trans hF36 rfl rfl
  have hR39 := hR15.trans hR37 rfl
  refine Or.inl ⟨rfl, ?_⟩
  have h40 := hI35.b1
  have h41 : S32.f 34 1 = S8.f 34 1 := hF36.f rfl
  have h42 : S8.f 34 1 = S.f 34 1 := hF12.f rfl
  have h43 : S32.f 33 12 = S8.f 33 12 := hF36.f rfl
  have h44 : S8.f 33 12 = S.f 33 12 := hF12.f rfl
  exact r_ret0 (i := 20) rfl ⟨rfl, (by omega), (by exact wQ_ei rfl (by omega) (by omega) bsw10 bsf34 (hF12.f rfl) (hF12.f rfl) (sFl_fr hF38 rfl rfl) (sDp_fr hF38 rfl)), hI35, hF38, hR39⟩
/-- ProxyForge$Writer.endCode -/
theorem sp152 {G : xk} {S : yS} {d : Nat} (hI : yI S) (p_0 : S.f 34 1 + 0 ≤ 60000) (p_1 : 6 ≤ S.f 33 12 ∧ S.f 33 12 + 8 ≤ S.f 34 1 ∧ S.f 33 13 = S.f 33 12 + 8) (hd : 3 ≤ d) : yT xPr G LY xC152 0 [some ((2, 33))] [] S d (fun r S' => r = (0, (0, 0)) ∧ (S.f 34 1 ≤ S'.f 34 1 ∧ S'.f 34 1 ≤ S.f 34 1 + 0) ∧ wQ S S' (wec (S.f 33 12)) ∧ yI S' ∧ yFr [] [101] S S' ∧ yRm [] S S') := by
  refine yT_pad 0 ?_
  show yT xPr G LY xC152 0 [some ((2, 33))] [] S d _
  obtain ⟨d, rfl⟩ : ∃ q, d = q + 1 := ⟨d - 1, by omega⟩
  have hF : yFr [] [101] S S := yFr.refl S
  have hR : yRm [] S S := yRm.refl S
  have h1 := hI.b1
  refine r_load (i := 0) (u := 0) (w := 2) rfl rfl rfl ?_
  refine r_getf (i := 1) (v := 5) (w := 8) (x := (2, 34)) rfl ly33 rfl rfl fun _ => ?_
  refine r_load (i := 2) (u := 0) (w := 2) rfl rfl rfl ?_
  refine r_getf (i := 3) (v := 12) (w := 8) (x := vi (S.f 33 12)) rfl ly33 rfl rfl fun h3 => ?_
  have h3 : Rg (S.f 33 12) := h3
  refine r_const (i := 4) (u := 4) (z := 4) rfl rfl ?_
  refine r_isub (i := 5) rfl ?_
  refine r_load (i := 6) (u := 0) (w := 2) rfl rfl rfl ?_
  refine r_getf (i := 7) (v := 5) (w := 8) (x := (2, 34)) rfl ly33 rfl rfl fun _ => ?_
  refine r_getf (i := 8) (v := 1) (w := 7) (x := vi (S.f 34 1)) rfl ly34 rfl rfl fun h5 => ?_
  have h5 : Rg (S.f 34 1) := h5
  refine r_load (i := 9) (u := 0) (w := 2) rfl rfl rfl ?_
  refine r_getf (i := 10) (v := 12) (w := 8) (x := vi (S.f 33 12)) rfl ly33 rfl rfl fun h6 => ?_
  have h6 : Rg (S.f 33 12) := h6
  refine r_isub (i := 11) rfl ?_
  have h7 := hI.bn
  have h8 := hI.br
  refine r_call (i := 12) (u := 7) (v := 32) (w := 0) (b := 0) (na := 771) (C2 := xC32) (as := [(2, 34), vi ((S.f 33 12) - 4), vi ((S.f 34 1) - (S.f 33 12))]) (s := []) rfl rfl rfl rfl rfl rfl rfl (sp32_34 (k := (S.f 33 12) - 4) (b := (S.f 34 1) - (S.f 33 12)) hI ⟨by omega, by omega⟩ ⟨by omega, by omega⟩ (by omega)  (by omega)) (fun r9 S10 hq11 => ?_)
  obtain ⟨rfl, bsf12, hI13, hF14, hR15⟩ := hq11
  have hF16 := hF.trans hF14 rfl rfl
  have hR17 := hR.trans hR15 rfl
  refine Or.inl ⟨rfl, ?_⟩
  have h18 := hI13.b1
  have h19 : S10.f 34 1 = S.f 34 1 := hF14.f rfl
  have h20 : S10.f 33 12 = S.f 33 12 := hF14.f rfl
  exact r_ret0 (i := 13) rfl ⟨rfl, (by omega), (by exact wQ_ec rfl (by omega) bsf12 (sFl_fr hF16 rfl rfl) (sDp_fr hF16 rfl)), hI13, hF16, hR17⟩
/-- ProxyForge$Writer.addHandler -/
theorem sp140 {G : xk} {S : yS} {d : Nat} (hI : yI S) {to : Int} (h_to : -2147483648 ≤ to ∧ to ≤ 2147483647) {a0 : Int} (h_a0 : -2147483648 ≤ a0 ∧ a0 ≤ 2147483647) {t : Int} (h_t : 0 ≤ t ∧ t ≤ 19) (p_0 : S.f 31 1 + 32 ≤ 60000) (p_1 : S.f 34 1 + 8 ≤ 60000) (e_PL : PL S) (hd : 7 ≤ d) : yT xPr G LY xC140 0 [some ((2, 33)), some (vi to), some (vi a0), some (vi t)] [] S d (fun r S' => r = (0, (0, 0)) ∧ (S.f 31 1 ≤ S'.f 31 1 ∧ S'.f 31 1 ≤ S.f 31 1 + 32) ∧ (S.f 34 1 ≤ S'.f 34 1 ∧ S'.f 34 1 ≤ S.f 34 1 + 8) ∧ wQ S S' (wah (pkR 4 S) to a0 t) ∧ PL S' ∧ yI S' ∧ yFr [(31, 1), (34, 1), (36, 5)] [37, 100, 101, 102, 103, 105] S S' ∧ yRm [0, 1, 2, 3] S S') := by
  refine yT_pad 0 ?_
  show yT xPr G LY xC140 0 [some ((2, 33)), some (vi to), some (vi a0), some (vi t)] [] S d _
  obtain ⟨d, rfl⟩ : ∃ q, d = q + 1 := ⟨d - 1, by omega⟩
  have hF : yFr [(31, 1), (34, 1), (36, 5)] [37, 100, 101, 102, 103, 105] S S := yFr.refl S
  have hR : yRm [0, 1, 2, 3] S S := yRm.refl S
  have h1 := hI.b0
  have h2 := hI.b1
  refine r_load (i := 0) (u := 0) (w := 2) rfl rfl rfl ?_
  refine r_getf (i := 1) (v := 5) (w := 8) (x := (2, 34)) rfl ly33 rfl rfl fun _ => ?_
  refine r_const (i := 2) (u := 0) (z := 0) rfl rfl ?_
  refine r_call (i := 3) (u := 7) (v := 36) (w := 0) (b := 0) (na := 514) (C2 := xC36) (as := [(2, 34), vi 0]) (s := []) rfl rfl rfl rfl rfl rfl rfl (sp36_34 (b := 0) hI ⟨by omega, by omega⟩ (by omega)  (by omega)) (fun r4 S5 hq6 => ?_)
  obtain ⟨rfl, h7, btw8, hI9, hF10, hR11⟩ := hq6
  have hF12 := hF.trans hF10 rfl rfl
  have hR13 := hR.trans hR11 rfl
  have e14 := PLx.fr e_PL hF10 hR11 rfl rfl rfl
  have e15 := PTx.fr e_PL hF10 hR11 rfl rfl rfl
  refine Or.inl ⟨rfl, ?_⟩
  refine r_load (i := 4) (u := 0) (w := 2) rfl rfl rfl ?_
  refine r_getf (i := 5) (v := 5) (w := 8) (x := (2, 34)) rfl ly33 rfl rfl fun _ => ?_
  refine r_load (i := 6) (u := 1) (w := 0) rfl rfl rfl ?_
  have h17 := hI9.b1
  refine r_call (i := 7) (u := 7) (v := 36) (w := 0) (b := 0) (na := 514) (C2 := xC36) (as := [(2, 34), vi to]) (s := []) rfl rfl rfl rfl rfl rfl rfl (sp36_34 (b := to) hI9 ⟨by omega, by omega⟩ (by omega)  (by omega)) (fun r18 S19 hq20 => ?_)
  obtain ⟨rfl, h21, btw22, hI23, hF24, hR25⟩ := hq20
  have hF26 := hF12.trans hF24 rfl rfl
  have hR27 := hR13.trans hR25 rfl
  have e28 := PLx.fr e14 hF24 hR25 rfl rfl rfl
  have e29 := PTx.fr e15 hF24 hR25 rfl rfl rfl
  refine Or.inl ⟨rfl, ?_⟩
  refine r_load (i := 8) (u := 0) (w := 2) rfl rfl rfl ?_
  refine r_getf (i := 9) (v := 5) (w := 8) (x := (2, 34)) rfl ly33 rfl rfl fun _ => ?_
  refine r_load (i := 10) (u := 2) (w := 0) rfl rfl rfl ?_
  have h31 := hI23.b1
  refine r_call (i := 11) (u := 7) (v := 36) (w := 0) (b := 0) (na := 514) (C2 := xC36) (as := [(2, 34), vi a0]) (s := []) rfl rfl rfl rfl rfl rfl rfl (sp36_34 (b := a0) hI23 ⟨by omega, by omega⟩ (by omega)  (by omega)) (fun r32 S33 hq34 => ?_)
  obtain ⟨rfl, h35, btw36, hI37, hF38, hR39⟩ := hq34
  have hF40 := hF26.trans hF38 rfl rfl
  have hR41 := hR27.trans hR39 rfl
  have e42 := PLx.fr e28 hF38 hR39 rfl rfl rfl
  have e43 := PTx.fr e29 hF38 hR39 rfl rfl rfl
  refine Or.inl ⟨rfl, ?_⟩
  refine r_load (i := 12) (u := 0) (w := 2) rfl rfl rfl ?_
  refine r_getf (i := 13) (v := 5) (w := 8) (x := (2, 34)) rfl ly33 rfl rfl fun _ => ?_
  refine r_load (i := 14) (u := 0) (w := 2) rfl rfl rfl ?_
  refine r_getf (i := 15) (v := 6) (w := 8) (x := (2, 36)) rfl ly33 rfl rfl fun _ => ?_
  refine r_load (i := 16) (u := 3) (w := 0) rfl rfl rfl ?_
  have h46 := hI37.b0
  have h47 : S33.f 31 1 = S19.f 31 1 := hF38.f rfl
  have h48 : S19.f 31 1 = S5.f 31 1 := hF24.f rfl
  have h49 : S5.f 31 1 = S.f 31 1 := hF10.f rfl
  refine r_call (i := 17) (u := 9) (v := 89) (w := 0) (b := 0) (na := 770) (C2 := xC89) (as := [(2, 36), vi t]) (s := [(2, 34)]) rfl rfl rfl rfl rfl rfl rfl (sp89 (t := t) hI37 ⟨by omega, by omega⟩ (by omega) e42 (by omega)) (fun r50 S51 hq52 => ?_)
  obtain ⟨z53, rfl, h54, h55, h56, wi57, e58, hI59, hF60, hR61⟩ := hq52
  have hF62 := hF40.trans hF60 rfl rfl
  have hR63 := hR41.trans hR61 rfl
  refine Or.inr (Or.inl ⟨rfl, ?_⟩)
  have h64 := hI59.b1
  have h65 : S51.f 34 1 = S33.f 34 1 := hF60.f rfl
  refine r_call (i := 18) (u := 7) (v := 36) (w := 0) (b := 0) (na := 514) (C2 := xC36) (as := [(2, 34), vi z53]) (s := []) rfl rfl rfl rfl rfl rfl rfl (sp36_34 (b := z53) hI59 ⟨by omega, by omega⟩ (by omega)  (by omega)) (fun r66 S67 hq68 => ?_)
  obtain ⟨rfl, h69, btw70, hI71, hF72, hR73⟩ := hq68
  have hF74 := hF62.trans hF72 rfl rfl
  have hR75 := hR63.trans hR73 rfl
  have e76 := PLx.fr e58 hF72 hR73 rfl rfl rfl
  have e77 := PTx.fr e58 hF72 hR73 rfl rfl rfl
  refine Or.inl ⟨rfl, ?_⟩
  have h78 := hI71.b0
  have h79 : S67.f 31 1 = S51.f 31 1 := hF72.f rfl
  have h80 := hI71.b1
  exact r_ret0 (i := 19) rfl ⟨rfl, (by omega), (by omega), (by intro w9 hw0; have hw1 := wQ_by btw8 (sFl_fr hF10 rfl rfl) (sDp_fr hF10 rfl) _ hw0; have hw2 := wQ_by btw22 (sFl_fr hF24 rfl rfl) (sDp_fr hF24 rfl) _ hw1; have hw3 := wQ_by btw36 (sFl_fr hF38 rfl rfl) (sDp_fr hF38 rfl) _ hw2; obtain ⟨hw4, ew4⟩ := wi57 _ hw3; rw [((pkR_fr hF38 rfl).trans ((pkR_fr hF24 rfl).trans (pkR_fr hF10 rfl)))] at hw4 ew4; have hw5 := wQ_by btw70 (sFl_fr hF72 rfl rfl) (sDp_fr hF72 rfl) _ hw4; subst ew4; first | (exact hw5)), e76, hI71, hF74, hR75⟩
theorem lp155_18 {G : xk} {d : Nat} {S0 : yS} {m : Int} (h_m : 0 ≤ m ∧ m ≤ 59) {h0 : Int} (h_h0 : 0 ≤ h0 ∧ h0 ≤ 3) {rt : Int} (h_rt : 0 ≤ rt ∧ rt ≤ 70000) (p_0 : S0.f 31 1 + 192 ≤ 60000) (p_1 : S0.f 34 1 + 50 ≤ 60000) (hd : 8 ≤ d + 1) : ∀ (n : Nat), ∀ (S : yS) (hI : yI S) (hF : yFr [(31, 1), (34, 1), (36, 5)] [37, 100, 101, 102, 103, 105] S0 S) (hR : yRm [0, 1, 2, 3] S0 S) (e_PL : PL S) (k : Int) (h_k : 0 ≤ k ∧ k ≤ 3) (q_0 : S0.f 34 1 ≤ S.f 34 1 ∧ S.f 34 1 ≤ S0.f 34 1 + 18 + 8 * k ∧ S0.f 34 1 + 50 ≤ 60000) (q_1 : S0.f 31 1 ≤ S.f 31 1 ∧ S.f 31 1 ≤ S0.f 31 1 + 64 + 32 * k ∧ S0.f 31 1 + 192 ≤ 60000) (q_2 : wQ S0 S (fun w => whs (pkR 4 S0) (thR S0 m) rt k.toNat (wah (pkR 4 S0) rt rt 3 (wah (pkR 4 S0) rt rt 2 (wby (tw (3 + h0)) w))))) (q_3 : k ≤ h0) (hn : 3 - k < (n : Nat)), yT xPr G LY xC155 18 [some ((2, 33)), some (vi m), some (vi h0), some (vi rt), some (vi k)] [] S (d + 1) (fun r S' => r = (0, (0, 0)) ∧ (S0.f 31 1 ≤ S'.f 31 1 ∧ S'.f 31 1 ≤ S0.f 31 1 + 192) ∧ (S0.f 34 1 ≤ S'.f 34 1 ∧ S'.f 34 1 ≤ S0.f 34 1 + 50) ∧ wQ S0 S' (wha (pkR 4 S0) (thR S0 m) h0 rt) ∧ PL S' ∧ yI S' ∧ yFr [(31, 1), (34, 1), (36, 5)] [37, 100, 101, 102, 103, 105] S0 S' ∧ yRm [0, 1, 2, 3] S0 S') := by
  intro n
  induction n with
  | zero => intro S hI hF hR e_PL k h_k q_0 q_1 q_2 q_3 hn; exact absurd hn (by omega)
  | succ n ih =>
    intro S hI hF hR e_PL k h_k q_0 q_1 q_2 q_3 hn
    have h1 := hI.b1
    have h2 := hI.b0
    refine r_load (i := 18) (u := 4) (w := 0) rfl rfl rfl ?_
    refine r_load (i := 19) (u := 2) (w := 0) rfl rfl rfl ?_
    refine c_ge (i := 20) (v := 32) rfl ⟨by omega, by omega⟩ ⟨by omega, by omega⟩ (fun h3 => ?_) (fun h4 => ?_)
    · refine r_load (i := 32) (u := 0) (w := 2) rfl rfl rfl ?_
      refine r_load (i := 33) (u := 3) (w := 0) rfl rfl rfl ?_
      refine r_load (i := 34) (u := 3) (w := 0) rfl rfl rfl ?_
      refine r_const (i := 35) (u := 1) (z := 1) rfl rfl ?_
      refine r_iadd (i := 36) rfl ?_
      refine r_const (i := 37) (u := 1) (z := 1) rfl rfl ?_
      refine r_call (i := 38) (u := 8) (v := 140) (w := 0) (b := 0) (na := 1028) (C2 := xC140) (as := [(2, 33), vi rt, vi (rt + 1), vi 1]) (s := []) rfl rfl rfl rfl rfl rfl rfl (sp140 (to := rt) (a0 := rt + 1) (t := 1) hI ⟨by omega, by omega⟩ ⟨by omega, by omega⟩ ⟨by omega, by omega⟩ (by omega) (by omega) e_PL (by omega)) (fun r5 S6 hq7 => ?_)
      obtain ⟨rfl, h8, h9, wq10, e11, hI12, hF13, hR14⟩ := hq7
      have hF15 := hF.trans hF13 rfl rfl
      have hR16 := hR.trans hR14 rfl
      refine Or.inl ⟨rfl, ?_⟩
      have h17 := hI12.b0
      have h18 := hI12.b1
      exact r_ret0 (i := 39) rfl ⟨rfl, (by omega), (by omega), (by exact fun w9 hw0 => cW_c (wq10 _ (q_2 _ hw0)) (wha_eq (pkR_fr hF rfl) (by omega))), e11, hI12, hF15, hR16⟩
    · refine r_load (i := 21) (u := 0) (w := 2) rfl rfl rfl ?_
      refine r_load (i := 22) (u := 3) (w := 0) rfl rfl rfl ?_
      refine r_load (i := 23) (u := 3) (w := 0) rfl rfl rfl ?_
      refine r_load (i := 24) (u := 0) (w := 2) rfl rfl rfl ?_
      refine r_getf (i := 25) (v := 1) (w := 8) (x := (2, 9)) rfl ly33 rfl rfl fun _ => ?_
      refine r_load (i := 26) (u := 1) (w := 0) rfl rfl rfl ?_
      refine r_load (i := 27) (u := 4) (w := 0) rfl rfl rfl ?_
      refine r_call (i := 28) (u := 2) (v := 86) (w := 0) (b := 0) (na := 771) (C2 := xC86) (as := [(2, 9), vi m, vi k]) (s := [vi rt, vi rt, (2, 33)]) rfl rfl rfl rfl rfl rfl rfl (sp86 (m := m) (k := k) hI ⟨by omega, by omega⟩ ⟨by omega, by omega⟩   (by omega)) (fun r20 S21 hq22 => ?_)
      obtain ⟨z23, rfl, h24, h25, h26, rfl⟩ := hq22
      refine Or.inr (Or.inl ⟨rfl, ?_⟩)
      refine r_call (i := 29) (u := 8) (v := 140) (w := 0) (b := 0) (na := 1028) (C2 := xC140) (as := [(2, 33), vi rt, vi rt, vi z23]) (s := []) rfl rfl rfl rfl rfl rfl rfl (sp140 (to := rt) (a0 := rt) (t := z23) hI ⟨by omega, by omega⟩ ⟨by omega, by omega⟩ ⟨by omega, by omega⟩ (by omega) (by omega) e_PL (by omega)) (fun r27 S28 hq29 => ?_)
      obtain ⟨rfl, h30, h31, wq32, e33, hI34, hF35, hR36⟩ := hq29
      have hF37 := hF.trans hF35 rfl rfl
      have hR38 := hR.trans hR36 rfl
      refine Or.inl ⟨rfl, ?_⟩
      refine r_iinc (i := 30) (u := 1) (v := 4) (s := 1) (L1 := [some ((2, 33)), some (vi m), some (vi h0), some (vi rt), some (vi (k + 1))]) rfl rfl rfl rfl rfl ?_
      refine r_goto (i := 31) (v := 18) rfl ?_
      have h39 := hI34.b1
      have h40 := hI34.b0
      exact ih S28 hI34 hF37 hR38 e33 (k + 1) ⟨by omega, by omega⟩ (by omega) (by omega) (by exact whs_st q_2 wq32 (pkR_fr hF rfl) (by omega) (by have f9 := hF.a (b := 16) rfl (3 * m + k).toNat; unfold thR; omega)) (by omega) (by omega)
/-- ProxyForge$Writer.handlers -/
theorem sp155 {G : xk} {S : yS} {d : Nat} (hI : yI S) {m : Int} (h_m : 0 ≤ m ∧ m ≤ 59) {h0 : Int} (h_h0 : 0 ≤ h0 ∧ h0 ≤ 3) {rt : Int} (h_rt : 0 ≤ rt ∧ rt ≤ 70000) (p_0 : S.f 31 1 + 192 ≤ 60000) (p_1 : S.f 34 1 + 50 ≤ 60000) (e_PL : PL S) (hd : 8 ≤ d) : yT xPr G LY xC155 0 [some ((2, 33)), some (vi m), some (vi h0), some (vi rt)] [] S d (fun r S' => r = (0, (0, 0)) ∧ (S.f 31 1 ≤ S'.f 31 1 ∧ S'.f 31 1 ≤ S.f 31 1 + 192) ∧ (S.f 34 1 ≤ S'.f 34 1 ∧ S'.f 34 1 ≤ S.f 34 1 + 50) ∧ wQ S S' (wha (pkR 4 S) (thR S m) h0 rt) ∧ PL S' ∧ yI S' ∧ yFr [(31, 1), (34, 1), (36, 5)] [37, 100, 101, 102, 103, 105] S S' ∧ yRm [0, 1, 2, 3] S S') := by
  refine yT_pad 1 ?_
  show yT xPr G LY xC155 0 [some ((2, 33)), some (vi m), some (vi h0), some (vi rt), none] [] S d _
  obtain ⟨d, rfl⟩ : ∃ q, d = q + 1 := ⟨d - 1, by omega⟩
  have hF : yFr [(31, 1), (34, 1), (36, 5)] [37, 100, 101, 102, 103, 105] S S := yFr.refl S
  have hR : yRm [0, 1, 2, 3] S S := yRm.refl S
  have h1 := hI.b0
  have h2 := hI.b1
  refine r_load (i := 0) (u := 0) (w := 2) rfl rfl rfl ?_
  refine r_getf (i := 1) (v := 5) (w := 8) (x := (2, 34)) rfl ly33 rfl rfl fun _ => ?_
  refine r_const (i := 2) (u := 3) (z := 3) rfl rfl ?_
  refine r_load (i := 3) (u := 2) (w := 0) rfl rfl rfl ?_
  refine r_iadd (i := 4) rfl ?_
  refine r_call (i := 5) (u := 7) (v := 36) (w := 0) (b := 0) (na := 514) (C2 := xC36) (as := [(2, 34), vi (3 + h0)]) (s := []) rfl rfl rfl rfl rfl rfl rfl (sp36_34 (b := 3 + h0) hI ⟨by omega, by omega⟩ (by omega)  (by omega)) (fun r4 S5 hq6 => ?_)
  obtain ⟨rfl, h7, btw8, hI9, hF10, hR11⟩ := hq6
  have hF12 := hF.trans hF10 rfl rfl
  have hR13 := hR.trans hR11 rfl
  have e14 := PLx.fr e_PL hF10 hR11 rfl rfl rfl
  have e15 := PTx.fr e_PL hF10 hR11 rfl rfl rfl
  refine Or.inl ⟨rfl, ?_⟩
  refine r_load (i := 6) (u := 0) (w := 2) rfl rfl rfl ?_
  refine r_load (i := 7) (u := 3) (w := 0) rfl rfl rfl ?_
  refine r_load (i := 8) (u := 3) (w := 0) rfl rfl rfl ?_
  refine r_const (i := 9) (u := 2) (z := 2) rfl rfl ?_
  have h16 := hI9.b0
  have h17 : S5.f 31 1 = S.f 31 1 := hF10.f rfl
  have h18 := hI9.b1
  refine r_call (i := 10) (u := 8) (v := 140) (w := 0) (b := 0) (na := 1028) (C2 := xC140) (as := [(2, 33), vi rt, vi rt, vi 2]) (s := []) rfl rfl rfl rfl rfl rfl rfl (sp140 (to := rt) (a0 := rt) (t := 2) hI9 ⟨by omega, by omega⟩ ⟨by omega, by omega⟩ ⟨by omega, by omega⟩ (by omega) (by omega) e14 (by omega)) (fun r19 S20 hq21 => ?_)
  obtain ⟨rfl, h22, h23, wq24, e25, hI26, hF27, hR28⟩ := hq21
  have hF29 := hF12.trans hF27 rfl rfl
  have hR30 := hR13.trans hR28 rfl
  refine Or.inl ⟨rfl, ?_⟩
  refine r_load (i := 11) (u := 0) (w := 2) rfl rfl rfl ?_
  refine r_load (i := 12) (u := 3) (w := 0) rfl rfl rfl ?_
  refine r_load (i := 13) (u := 3) (w := 0) rfl rfl rfl ?_
  refine r_const (i := 14) (u := 3) (z := 3) rfl rfl ?_
  have h31 := hI26.b0
  have h32 := hI26.b1
  refine r_call (i := 15) (u := 8) (v := 140) (w := 0) (b := 0) (na := 1028) (C2 := xC140) (as := [(2, 33), vi rt, vi rt, vi 3]) (s := []) rfl rfl rfl rfl rfl rfl rfl (sp140 (to := rt) (a0 := rt) (t := 3) hI26 ⟨by omega, by omega⟩ ⟨by omega, by omega⟩ ⟨by omega, by omega⟩ (by omega) (by omega) e25 (by omega)) (fun r33 S34 hq35 => ?_)
  obtain ⟨rfl, h36, h37, wq38, e39, hI40, hF41, hR42⟩ := hq35
  have hF43 := hF29.trans hF41 rfl rfl
  have hR44 := hR30.trans hR42 rfl
  refine Or.inl ⟨rfl, ?_⟩
  refine r_const (i := 16) (u := 0) (z := 0) rfl rfl ?_
  refine r_store (i := 17) (u := 4) (w := 0) (L1 := [some ((2, 33)), some (vi m), some (vi h0), some (vi rt), some (vi 0)]) rfl rfl rfl rfl ?_
  have h45 := hI40.b1
  have h46 := hI40.b0
  exact lp155_18 h_m h_h0 h_rt p_0 p_1 hd _ S34 hI40 hF43 hR44 e39 0 ⟨by omega, by omega⟩ (by omega) (by omega) (by intro w9 hw0; have hw1 := wQ_by btw8 (sFl_fr hF10 rfl rfl) (sDp_fr hF10 rfl) _ hw0; have hw2 := wq24 _ hw1; have hw3 := wq38 _ hw2; rw [(pkR_fr (b := 4) hF10 rfl)] at hw2; rw [(pkR_fr (b := 4) hF10 rfl), ((pkR_fr (b := 4) hF27 rfl).trans (pkR_fr (b := 4) hF10 rfl))] at hw3; exact hw3) (by omega) (Int.lt_succ_toNat _)
/-- ProxyForge$Writer.stackMap -/
theorem sp170 {G : xk} {S : yS} {d : Nat} (hI : yI S) {h0 : Int} (h_h0 : 0 ≤ h0 ∧ h0 ≤ 70000) (p_0 : S.f 31 1 + 48 ≤ 60000) (p_1 : S.f 34 1 + 20 ≤ 60000) (e_PL : PL S) (hd : 7 ≤ d) : yT xPr G LY xC170 0 [some ((2, 33)), some (vi h0)] [] S d (fun r S' => r = (0, (0, 0)) ∧ (S.f 31 1 ≤ S'.f 31 1 ∧ S'.f 31 1 ≤ S.f 31 1 + 48) ∧ (S.f 34 1 ≤ S'.f 34 1 ∧ S'.f 34 1 ≤ S.f 34 1 + 20) ∧ wQ S S' (wsm (pkR 4 S) h0) ∧ PL S' ∧ yI S' ∧ yFr [(31, 1), (34, 1), (36, 5)] [37, 100, 101, 102, 103, 105] S S' ∧ yRm [0, 1, 2, 3] S S') := by
  refine yT_pad 2 ?_
  show yT xPr G LY xC170 0 [some ((2, 33)), some (vi h0), none, none] [] S d _
  obtain ⟨d, rfl⟩ : ∃ q, d = q + 1 := ⟨d - 1, by omega⟩
  have hF : yFr [(31, 1), (34, 1), (36, 5)] [37, 100, 101, 102, 103, 105] S S := yFr.refl S
  have hR : yRm [0, 1, 2, 3] S S := yRm.refl S
  have h1 := hI.b0
  have h2 := hI.b1
  refine r_load (i := 0) (u := 0) (w := 2) rfl rfl rfl ?_
  refine r_getf (i := 1) (v := 5) (w := 8) (x := (2, 34)) rfl ly33 rfl rfl fun _ => ?_
  refine r_const (i := 2) (u := 1) (z := 1) rfl rfl ?_
  refine r_call (i := 3) (u := 7) (v := 36) (w := 0) (b := 0) (na := 514) (C2 := xC36) (as := [(2, 34), vi 1]) (s := []) rfl rfl rfl rfl rfl rfl rfl (sp36_34 (b := 1) hI ⟨by omega, by omega⟩ (by omega)  (by omega)) (fun r4 S5 hq6 => ?_)
  obtain ⟨rfl, h7, btw8, hI9, hF10, hR11⟩ := hq6
  have hF12 := hF.trans hF10 rfl rfl
  have hR13 := hR.trans hR11 rfl
  have e14 := PLx.fr e_PL hF10 hR11 rfl rfl rfl
  have e15 := PTx.fr e_PL hF10 hR11 rfl rfl rfl
  refine Or.inl ⟨rfl, ?_⟩
  refine r_load (i := 4) (u := 0) (w := 2) rfl rfl rfl ?_
  refine r_getf (i := 5) (v := 5) (w := 8) (x := (2, 34)) rfl ly33 rfl rfl fun _ => ?_
  refine r_load (i := 6) (u := 0) (w := 2) rfl rfl rfl ?_
  refine r_getf (i := 7) (v := 6) (w := 8) (x := (2, 36)) rfl ly33 rfl rfl fun _ => ?_
  refine r_str (i := 8) (v := 37) rfl ?_
  have h18 := slv37
  have h19 := hI9.b0
  have h20 : S5.f 31 1 = S.f 31 1 := hF10.f rfl
  refine r_call (i := 9) (u := 9) (v := 98) (w := 0) (b := 0) (na := 770) (C2 := xC98) (as := [(2, 36), (6, 37)]) (s := [(2, 34)]) rfl rfl rfl rfl rfl rfl rfl (sp98 (s := 37) hI9 ⟨by decide, by decide⟩ (by omega) e14 (by omega)) (fun r21 S22 hq23 => ?_)
  obtain ⟨z24, rfl, h25, h26, h27, wi28, e29, hI30, hF31, hR32⟩ := hq23
  have hF33 := hF12.trans hF31 rfl rfl
  have hR34 := hR13.trans hR32 rfl
  refine Or.inr (Or.inl ⟨rfl, ?_⟩)
  have h35 := hI30.b1
  have h36 : S22.f 34 1 = S5.f 34 1 := hF31.f rfl
  refine r_call (i := 10) (u := 7) (v := 36) (w := 0) (b := 0) (na := 514) (C2 := xC36) (as := [(2, 34), vi z24]) (s := []) rfl rfl rfl rfl rfl rfl rfl (sp36_34 (b := z24) hI30 ⟨by omega, by omega⟩ (by omega)  (by omega)) (fun r37 S38 hq39 => ?_)
  obtain ⟨rfl, h40, btw41, hI42, hF43, hR44⟩ := hq39
  have hF45 := hF33.trans hF43 rfl rfl
  have hR46 := hR34.trans hR44 rfl
  have e47 := PLx.fr e29 hF43 hR44 rfl rfl rfl
  have e48 := PTx.fr e29 hF43 hR44 rfl rfl rfl
  refine Or.inl ⟨rfl, ?_⟩
  refine r_load (i := 11) (u := 0) (w := 2) rfl rfl rfl ?_
  refine r_getf (i := 12) (v := 6) (w := 8) (x := (2, 36)) rfl ly33 rfl rfl fun _ => ?_
  refine r_const (i := 13) (u := 1) (z := 1) rfl rfl ?_
  have h50 := hI42.b0
  have h51 : S38.f 31 1 = S22.f 31 1 := hF43.f rfl
  refine r_call (i := 14) (u := 9) (v := 89) (w := 0) (b := 0) (na := 770) (C2 := xC89) (as := [(2, 36), vi 1]) (s := []) rfl rfl rfl rfl rfl rfl rfl (sp89 (t := 1) hI42 ⟨by omega, by omega⟩ (by omega) e47 (by omega)) (fun r52 S53 hq54 => ?_)
  obtain ⟨z55, rfl, h56, h57, h58, wi59, e60, hI61, hF62, hR63⟩ := hq54
  have hF64 := hF45.trans hF62 rfl rfl
  have hR65 := hR46.trans hR63 rfl
  refine Or.inr (Or.inl ⟨rfl, ?_⟩)
  refine r_store (i := 15) (u := 2) (w := 0) (L1 := [some ((2, 33)), some (vi h0), some (vi z55), none]) rfl rfl rfl rfl ?_
  refine r_load (i := 16) (u := 1) (w := 0) rfl rfl rfl ?_
  refine r_const (i := 17) (u := 63) (z := 63) rfl rfl ?_
  refine c_gt (i := 18) (v := 21) rfl ⟨by omega, by omega⟩ ⟨by omega, by omega⟩ (fun h66 => ?_) (fun h67 => ?_)
  · refine r_const (i := 21) (u := 0) (z := 0) rfl rfl ?_
    refine r_store (i := 22) (u := 3) (w := 0) (L1 := [some ((2, 33)), some (vi h0), some (vi z55), some (vi 0)]) rfl rfl rfl rfl ?_
    refine r_load (i := 23) (u := 0) (w := 2) rfl rfl rfl ?_
    refine r_getf (i := 24) (v := 5) (w := 8) (x := (2, 34)) rfl ly33 rfl rfl fun _ => ?_
    refine r_load (i := 25) (u := 3) (w := 0) rfl rfl rfl ?_
    refine z_eq (i := 26) (v := 29) rfl ⟨by omega, by omega⟩ (fun h69 => ?_) (fun h70 => absurd h70 (by omega))
    refine r_const (i := 29) (u := 12) (z := 12) rfl rfl ?_
    have h71 := hI61.b1
    have h72 : S53.f 34 1 = S38.f 34 1 := hF62.f rfl
    refine r_call (i := 30) (u := 7) (v := 24) (w := 0) (b := 0) (na := 514) (C2 := xC24) (as := [(2, 34), vi 12]) (s := []) rfl rfl rfl rfl rfl rfl rfl (sp24_34 (b := 12) hI61 ⟨by omega, by omega⟩ (by omega)  (by omega)) (fun r73 S74 hq75 => ?_)
    obtain ⟨rfl, h76, bfo77, hI78, hF79, hR80⟩ := hq75
    have hF81 := hF64.trans hF79 rfl rfl
    have hR82 := hR65.trans hR80 rfl
    have e83 := PLx.fr e60 hF79 hR80 rfl rfl rfl
    have e84 := PTx.fr e60 hF79 hR80 rfl rfl rfl
    refine Or.inl ⟨rfl, ?_⟩
    refine r_load (i := 31) (u := 0) (w := 2) rfl rfl rfl ?_
    refine r_getf (i := 32) (v := 5) (w := 8) (x := (2, 34)) rfl ly33 rfl rfl fun _ => ?_
    refine r_const (i := 33) (u := 2) (z := 2) rfl rfl ?_
    have h86 := hI78.b1
    refine r_call (i := 34) (u := 7) (v := 36) (w := 0) (b := 0) (na := 514) (C2 := xC36) (as := [(2, 34), vi 2]) (s := []) rfl rfl rfl rfl rfl rfl rfl (sp36_34 (b := 2) hI78 ⟨by omega, by omega⟩ (by omega)  (by omega)) (fun r87 S88 hq89 => ?_)
    obtain ⟨rfl, h90, btw91, hI92, hF93, hR94⟩ := hq89
    have hF95 := hF81.trans hF93 rfl rfl
    have hR96 := hR82.trans hR94 rfl
    have e97 := PLx.fr e83 hF93 hR94 rfl rfl rfl
    have e98 := PTx.fr e84 hF93 hR94 rfl rfl rfl
    refine Or.inl ⟨rfl, ?_⟩
    refine r_load (i := 35) (u := 3) (w := 0) rfl rfl rfl ?_
    refine z_eq (i := 36) (v := 44) rfl ⟨by omega, by omega⟩ (fun h99 => ?_) (fun h100 => absurd h100 (by omega))
    refine r_load (i := 44) (u := 0) (w := 2) rfl rfl rfl ?_
    refine r_getf (i := 45) (v := 5) (w := 8) (x := (2, 34)) rfl ly33 rfl rfl fun _ => ?_
    refine r_const (i := 46) (u := 247) (z := 247) rfl rfl ?_
    refine r_load (i := 47) (u := 1) (w := 0) rfl rfl rfl ?_
    have h102 := hI92.b1
    refine r_call (i := 48) (u := 7) (v := 35) (w := 0) (b := 0) (na := 771) (C2 := xC35) (as := [(2, 34), vi 247, vi h0]) (s := []) rfl rfl rfl rfl rfl rfl rfl (sp35_34 (b := 247) (c := h0) hI92 ⟨by omega, by omega⟩ ⟨by omega, by omega⟩ (by omega)  (by omega)) (fun r103 S104 hq105 => ?_)
    obtain ⟨rfl, h106, bth107, hI108, hF109, hR110⟩ := hq105
    have hF111 := hF95.trans hF109 rfl rfl
    have hR112 := hR96.trans hR110 rfl
    have e113 := PLx.fr e97 hF109 hR110 rfl rfl rfl
    have e114 := PTx.fr e98 hF109 hR110 rfl rfl rfl
    refine Or.inl ⟨rfl, ?_⟩
    refine r_load (i := 49) (u := 0) (w := 2) rfl rfl rfl ?_
    refine r_getf (i := 50) (v := 5) (w := 8) (x := (2, 34)) rfl ly33 rfl rfl fun _ => ?_
    refine r_const (i := 51) (u := 7) (z := 7) rfl rfl ?_
    refine r_load (i := 52) (u := 2) (w := 0) rfl rfl rfl ?_
    have h116 := hI108.b1
    refine r_call (i := 53) (u := 7) (v := 35) (w := 0) (b := 0) (na := 771) (C2 := xC35) (as := [(2, 34), vi 7, vi z55]) (s := []) rfl rfl rfl rfl rfl rfl rfl (sp35_34 (b := 7) (c := z55) hI108 ⟨by omega, by omega⟩ ⟨by omega, by omega⟩ (by omega)  (by omega)) (fun r117 S118 hq119 => ?_)
    obtain ⟨rfl, h120, bth121, hI122, hF123, hR124⟩ := hq119
    have hF125 := hF111.trans hF123 rfl rfl
    have hR126 := hR112.trans hR124 rfl
    have e127 := PLx.fr e113 hF123 hR124 rfl rfl rfl
    have e128 := PTx.fr e114 hF123 hR124 rfl rfl rfl
    refine Or.inl ⟨rfl, ?_⟩
    refine r_load (i := 54) (u := 0) (w := 2) rfl rfl rfl ?_
    refine r_getf (i := 55) (v := 5) (w := 8) (x := (2, 34)) rfl ly33 rfl rfl fun _ => ?_
    refine r_const (i := 56) (u := 64) (z := 64) rfl rfl ?_
    have h130 := hI122.b1
    refine r_call (i := 57) (u := 7) (v := 29) (w := 0) (b := 0) (na := 514) (C2 := xC29) (as := [(2, 34), vi 64]) (s := []) rfl rfl rfl rfl rfl rfl rfl (sp29_34 (b := 64) hI122 ⟨by omega, by omega⟩ (by omega)  (by omega)) (fun r131 S132 hq133 => ?_)
    obtain ⟨rfl, h134, bo135, hI136, hF137, hR138⟩ := hq133
    have hF139 := hF125.trans hF137 rfl rfl
    have hR140 := hR126.trans hR138 rfl
    have e141 := PLx.fr e127 hF137 hR138 rfl rfl rfl
    have e142 := PTx.fr e128 hF137 hR138 rfl rfl rfl
    refine Or.inl ⟨rfl, ?_⟩
    refine r_load (i := 58) (u := 0) (w := 2) rfl rfl rfl ?_
    refine r_getf (i := 59) (v := 5) (w := 8) (x := (2, 34)) rfl ly33 rfl rfl fun _ => ?_
    refine r_const (i := 60) (u := 7) (z := 7) rfl rfl ?_
    refine r_load (i := 61) (u := 2) (w := 0) rfl rfl rfl ?_
    have h144 := hI136.b1
    refine r_call (i := 62) (u := 7) (v := 35) (w := 0) (b := 0) (na := 771) (C2 := xC35) (as := [(2, 34), vi 7, vi z55]) (s := []) rfl rfl rfl rfl rfl rfl rfl (sp35_34 (b := 7) (c := z55) hI136 ⟨by omega, by omega⟩ ⟨by omega, by omega⟩ (by omega)  (by omega)) (fun r145 S146 hq147 => ?_)
    obtain ⟨rfl, h148, bth149, hI150, hF151, hR152⟩ := hq147
    have hF153 := hF139.trans hF151 rfl rfl
    have hR154 := hR140.trans hR152 rfl
    have e155 := PLx.fr e141 hF151 hR152 rfl rfl rfl
    have e156 := PTx.fr e142 hF151 hR152 rfl rfl rfl
    refine Or.inl ⟨rfl, ?_⟩
    have h157 := hI150.b0
    have h158 : S146.f 31 1 = S132.f 31 1 := hF151.f rfl
    have h159 : S132.f 31 1 = S118.f 31 1 := hF137.f rfl
    have h160 : S118.f 31 1 = S104.f 31 1 := hF123.f rfl
    have h161 : S104.f 31 1 = S88.f 31 1 := hF109.f rfl
    have h162 : S88.f 31 1 = S74.f 31 1 := hF93.f rfl
    have h163 : S74.f 31 1 = S53.f 31 1 := hF79.f rfl
    have h164 := hI150.b1
    exact r_ret0 (i := 63) rfl ⟨rfl, (by omega), (by omega), (by intro w9 hw0; have hw1 := wQ_by btw8 (sFl_fr hF10 rfl rfl) (sDp_fr hF10 rfl) _ hw0; obtain ⟨hw2, ew2⟩ := wi28 _ hw1; have hw3 := wQ_by btw41 (sFl_fr hF43 rfl rfl) (sDp_fr hF43 rfl) _ hw2; obtain ⟨hw4, ew4⟩ := wi59 _ hw3; rw [((pkR_fr (b := 4) hF43 rfl).trans ((pkR_fr (b := 4) hF31 rfl).trans (pkR_fr (b := 4) hF10 rfl)))] at hw4 ew4; have hw5 := wQ_by bfo77 (sFl_fr hF79 rfl rfl) (sDp_fr hF79 rfl) _ hw4; have hw6 := wQ_by btw91 (sFl_fr hF93 rfl rfl) (sDp_fr hF93 rfl) _ hw5; have hw7 := wQ_b3 bth107 (sFl_fr hF109 rfl rfl) (sDp_fr hF109 rfl) _ hw6; have hw8 := wQ_b3 bth121 (sFl_fr hF123 rfl rfl) (sDp_fr hF123 rfl) _ hw7; have hw9 := wQ_by bo135 (sFl_fr hF137 rfl rfl) (sDp_fr hF137 rfl) _ hw8; have hw10 := wQ_b3 bth149 (sFl_fr hF151 rfl rfl) (sDp_fr hF151 rfl) _ hw9; subst ew2; subst ew4; first | (rw [wsm_s (by omega)]; exact hw10) | (rw [wsm_l (by omega)]; exact hw10)), e155, hI150, hF153, hR154⟩
  · refine r_const (i := 19) (u := 1) (z := 1) rfl rfl ?_
    refine r_goto (i := 20) (v := 22) rfl ?_
    refine r_store (i := 22) (u := 3) (w := 0) (L1 := [some ((2, 33)), some (vi h0), some (vi z55), some (vi 1)]) rfl rfl rfl rfl ?_
    refine r_load (i := 23) (u := 0) (w := 2) rfl rfl rfl ?_
    refine r_getf (i := 24) (v := 5) (w := 8) (x := (2, 34)) rfl ly33 rfl rfl fun _ => ?_
    refine r_load (i := 25) (u := 3) (w := 0) rfl rfl rfl ?_
    refine z_eq (i := 26) (v := 29) rfl ⟨by omega, by omega⟩ (fun h166 => absurd h166 (by omega)) (fun h167 => ?_)
    refine r_const (i := 27) (u := 10) (z := 10) rfl rfl ?_
    refine r_goto (i := 28) (v := 30) rfl ?_
    have h168 := hI61.b1
    have h169 : S53.f 34 1 = S38.f 34 1 := hF62.f rfl
    refine r_call (i := 30) (u := 7) (v := 24) (w := 0) (b := 0) (na := 514) (C2 := xC24) (as := [(2, 34), vi 10]) (s := []) rfl rfl rfl rfl rfl rfl rfl (sp24_34 (b := 10) hI61 ⟨by omega, by omega⟩ (by omega)  (by omega)) (fun r170 S171 hq172 => ?_)
    obtain ⟨rfl, h173, bfo174, hI175, hF176, hR177⟩ := hq172
    have hF178 := hF64.trans hF176 rfl rfl
    have hR179 := hR65.trans hR177 rfl
    have e180 := PLx.fr e60 hF176 hR177 rfl rfl rfl
    have e181 := PTx.fr e60 hF176 hR177 rfl rfl rfl
    refine Or.inl ⟨rfl, ?_⟩
    refine r_load (i := 31) (u := 0) (w := 2) rfl rfl rfl ?_
    refine r_getf (i := 32) (v := 5) (w := 8) (x := (2, 34)) rfl ly33 rfl rfl fun _ => ?_
    refine r_const (i := 33) (u := 2) (z := 2) rfl rfl ?_
    have h183 := hI175.b1
    refine r_call (i := 34) (u := 7) (v := 36) (w := 0) (b := 0) (na := 514) (C2 := xC36) (as := [(2, 34), vi 2]) (s := []) rfl rfl rfl rfl rfl rfl rfl (sp36_34 (b := 2) hI175 ⟨by omega, by omega⟩ (by omega)  (by omega)) (fun r184 S185 hq186 => ?_)
    obtain ⟨rfl, h187, btw188, hI189, hF190, hR191⟩ := hq186
    have hF192 := hF178.trans hF190 rfl rfl
    have hR193 := hR179.trans hR191 rfl
    have e194 := PLx.fr e180 hF190 hR191 rfl rfl rfl
    have e195 := PTx.fr e181 hF190 hR191 rfl rfl rfl
    refine Or.inl ⟨rfl, ?_⟩
    refine r_load (i := 35) (u := 3) (w := 0) rfl rfl rfl ?_
    refine z_eq (i := 36) (v := 44) rfl ⟨by omega, by omega⟩ (fun h196 => absurd h196 (by omega)) (fun h197 => ?_)
    refine r_load (i := 37) (u := 0) (w := 2) rfl rfl rfl ?_
    refine r_getf (i := 38) (v := 5) (w := 8) (x := (2, 34)) rfl ly33 rfl rfl fun _ => ?_
    refine r_const (i := 39) (u := 64) (z := 64) rfl rfl ?_
    refine r_load (i := 40) (u := 1) (w := 0) rfl rfl rfl ?_
    refine r_iadd (i := 41) rfl ?_
    have h199 := hI189.b1
    refine r_call (i := 42) (u := 7) (v := 29) (w := 0) (b := 0) (na := 514) (C2 := xC29) (as := [(2, 34), vi (64 + h0)]) (s := []) rfl rfl rfl rfl rfl rfl rfl (sp29_34 (b := 64 + h0) hI189 ⟨by omega, by omega⟩ (by omega)  (by omega)) (fun r200 S201 hq202 => ?_)
    obtain ⟨rfl, h203, bo204, hI205, hF206, hR207⟩ := hq202
    have hF208 := hF192.trans hF206 rfl rfl
    have hR209 := hR193.trans hR207 rfl
    have e210 := PLx.fr e194 hF206 hR207 rfl rfl rfl
    have e211 := PTx.fr e195 hF206 hR207 rfl rfl rfl
    refine Or.inl ⟨rfl, ?_⟩
    refine r_goto (i := 43) (v := 49) rfl ?_
    refine r_load (i := 49) (u := 0) (w := 2) rfl rfl rfl ?_
    refine r_getf (i := 50) (v := 5) (w := 8) (x := (2, 34)) rfl ly33 rfl rfl fun _ => ?_
    refine r_const (i := 51) (u := 7) (z := 7) rfl rfl ?_
    refine r_load (i := 52) (u := 2) (w := 0) rfl rfl rfl ?_
    have h213 := hI205.b1
    refine r_call (i := 53) (u := 7) (v := 35) (w := 0) (b := 0) (na := 771) (C2 := xC35) (as := [(2, 34), vi 7, vi z55]) (s := []) rfl rfl rfl rfl rfl rfl rfl (sp35_34 (b := 7) (c := z55) hI205 ⟨by omega, by omega⟩ ⟨by omega, by omega⟩ (by omega)  (by omega)) (fun r214 S215 hq216 => ?_)
    obtain ⟨rfl, h217, bth218, hI219, hF220, hR221⟩ := hq216
    have hF222 := hF208.trans hF220 rfl rfl
    have hR223 := hR209.trans hR221 rfl
    have e224 := PLx.fr e210 hF220 hR221 rfl rfl rfl
    have e225 := PTx.fr e211 hF220 hR221 rfl rfl rfl
    refine Or.inl ⟨rfl, ?_⟩
    refine r_load (i := 54) (u := 0) (w := 2) rfl rfl rfl ?_
    refine r_getf (i := 55) (v := 5) (w := 8) (x := (2, 34)) rfl ly33 rfl rfl fun _ => ?_
    refine r_const (i := 56) (u := 64) (z := 64) rfl rfl ?_
    have h227 := hI219.b1
    refine r_call (i := 57) (u := 7) (v := 29) (w := 0) (b := 0) (na := 514) (C2 := xC29) (as := [(2, 34), vi 64]) (s := []) rfl rfl rfl rfl rfl rfl rfl (sp29_34 (b := 64) hI219 ⟨by omega, by omega⟩ (by omega)  (by omega)) (fun r228 S229 hq230 => ?_)
    obtain ⟨rfl, h231, bo232, hI233, hF234, hR235⟩ := hq230
    have hF236 := hF222.trans hF234 rfl rfl
    have hR237 := hR223.trans hR235 rfl
    have e238 := PLx.fr e224 hF234 hR235 rfl rfl rfl
    have e239 := PTx.fr e225 hF234 hR235 rfl rfl rfl
    refine Or.inl ⟨rfl, ?_⟩
    refine r_load (i := 58) (u := 0) (w := 2) rfl rfl rfl ?_
    refine r_getf (i := 59) (v := 5) (w := 8) (x := (2, 34)) rfl ly33 rfl rfl fun _ => ?_
    refine r_const (i := 60) (u := 7) (z := 7) rfl rfl ?_
    refine r_load (i := 61) (u := 2) (w := 0) rfl rfl rfl ?_
    have h241 := hI233.b1
    refine r_call (i := 62) (u := 7) (v := 35) (w := 0) (b := 0) (na := 771) (C2 := xC35) (as := [(2, 34), vi 7, vi z55]) (s := []) rfl rfl rfl rfl rfl rfl rfl (sp35_34 (b := 7) (c := z55) hI233 ⟨by omega, by omega⟩ ⟨by omega, by omega⟩ (by omega)  (by omega)) (fun r242 S243 hq244 => ?_)
    obtain ⟨rfl, h245, bth246, hI247, hF248, hR249⟩ := hq244
    have hF250 := hF236.trans hF248 rfl rfl
    have hR251 := hR237.trans hR249 rfl
    have e252 := PLx.fr e238 hF248 hR249 rfl rfl rfl
    have e253 := PTx.fr e239 hF248 hR249 rfl rfl rfl
    refine Or.inl ⟨rfl, ?_⟩
    have h254 := hI247.b0
    have h255 : S243.f 31 1 = S229.f 31 1 := hF248.f rfl
    have h256 : S229.f 31 1 = S215.f 31 1 := hF234.f rfl
    have h257 : S215.f 31 1 = S201.f 31 1 := hF220.f rfl
    have h258 : S201.f 31 1 = S185.f 31 1 := hF206.f rfl
    have h259 : S185.f 31 1 = S171.f 31 1 := hF190.f rfl
    have h260 : S171.f 31 1 = S53.f 31 1 := hF176.f rfl
    have h261 := hI247.b1
    exact r_ret0 (i := 63) rfl ⟨rfl, (by omega), (by omega), (by intro w9 hw0; have hw1 := wQ_by btw8 (sFl_fr hF10 rfl rfl) (sDp_fr hF10 rfl) _ hw0; obtain ⟨hw2, ew2⟩ := wi28 _ hw1; have hw3 := wQ_by btw41 (sFl_fr hF43 rfl rfl) (sDp_fr hF43 rfl) _ hw2; obtain ⟨hw4, ew4⟩ := wi59 _ hw3; rw [((pkR_fr (b := 4) hF43 rfl).trans ((pkR_fr (b := 4) hF31 rfl).trans (pkR_fr (b := 4) hF10 rfl)))] at hw4 ew4; have hw5 := wQ_by bfo174 (sFl_fr hF176 rfl rfl) (sDp_fr hF176 rfl) _ hw4; have hw6 := wQ_by btw188 (sFl_fr hF190 rfl rfl) (sDp_fr hF190 rfl) _ hw5; have hw7 := wQ_by bo204 (sFl_fr hF206 rfl rfl) (sDp_fr hF206 rfl) _ hw6; have hw8 := wQ_b3 bth218 (sFl_fr hF220 rfl rfl) (sDp_fr hF220 rfl) _ hw7; have hw9 := wQ_by bo232 (sFl_fr hF234 rfl rfl) (sDp_fr hF234 rfl) _ hw8; have hw10 := wQ_b3 bth246 (sFl_fr hF248 rfl rfl) (sDp_fr hF248 rfl) _ hw9; subst ew2; subst ew4; first | (rw [wsm_s (by omega)]; exact hw10) | (rw [wsm_l (by omega)]; exact hw10)), e252, hI247, hF250, hR251⟩
theorem lp154_21 {G : xk} {d : Nat} {S0 : yS} {m : Int} (h_m : 0 ≤ m ∧ m ≤ 59) {h0 : Int} (h_h0 : 0 ≤ h0 ∧ h0 ≤ 3) (p_0 : S0.f 31 1 + 109 ≤ 60000) (p_1 : S0.f 34 1 + 14 ≤ 60000) (hd : 7 ≤ d + 1) : ∀ (n : Nat), ∀ (S : yS) (hI : yI S) (hF : yFr [(31, 1), (34, 1), (36, 5)] [37, 100, 101, 102, 103, 105] S0 S) (hR : yRm [0, 1, 2, 3] S0 S) (e_PL : PL S) (k : Int) (h_k : 0 ≤ k ∧ k ≤ 3) (q_0 : S0.f 34 1 ≤ S.f 34 1 ∧ S.f 34 1 ≤ S0.f 34 1 + 8 + 2 * k ∧ S0.f 34 1 + 14 ≤ 60000) (q_1 : S0.f 31 1 ≤ S.f 31 1 ∧ S.f 31 1 ≤ S0.f 31 1 + 13 + 32 * k ∧ S0.f 31 1 + 109 ≤ 60000) (q_2 : wQ S0 S (fun w => we0 (pkR 4 S0) (thR S0 m) k.toNat (we1 h0 w))) (q_3 : k ≤ h0) (hn : 3 - k < (n : Nat)), yT xPr G LY xC154 21 [some ((2, 33)), some (vi m), some (vi h0), some (vi k)] [] S (d + 1) (fun r S' => r = (0, (0, 0)) ∧ (S0.f 31 1 ≤ S'.f 31 1 ∧ S'.f 31 1 ≤ S0.f 31 1 + 109) ∧ (S0.f 34 1 ≤ S'.f 34 1 ∧ S'.f 34 1 ≤ S0.f 34 1 + 14) ∧ wQ S0 S' (wex (pkR 4 S0) (thR S0 m) h0) ∧ PL S' ∧ yI S' ∧ yFr [(31, 1), (34, 1), (36, 5)] [37, 100, 101, 102, 103, 105] S0 S' ∧ yRm [0, 1, 2, 3] S0 S') := by
  intro n
  induction n with
  | zero => intro S hI hF hR e_PL k h_k q_0 q_1 q_2 q_3 hn; exact absurd hn (by omega)
  | succ n ih =>
    intro S hI hF hR e_PL k h_k q_0 q_1 q_2 q_3 hn
    have h1 := hI.b1
    have h2 := hI.b0
    refine r_load (i := 21) (u := 3) (w := 0) rfl rfl rfl ?_
    refine r_load (i := 22) (u := 2) (w := 0) rfl rfl rfl ?_
    refine c_ge (i := 23) (v := 37) rfl ⟨by omega, by omega⟩ ⟨by omega, by omega⟩ (fun h3 => ?_) (fun h4 => ?_)
    · exact r_ret0 (i := 37) rfl ⟨rfl, (by omega), (by omega), (by rw [show h0 = k by omega] at q_2 ⊢; exact q_2), e_PL, hI, hF, hR⟩
    · refine r_load (i := 24) (u := 0) (w := 2) rfl rfl rfl ?_
      refine r_getf (i := 25) (v := 5) (w := 8) (x := (2, 34)) rfl ly33 rfl rfl fun _ => ?_
      refine r_load (i := 26) (u := 0) (w := 2) rfl rfl rfl ?_
      refine r_getf (i := 27) (v := 6) (w := 8) (x := (2, 36)) rfl ly33 rfl rfl fun _ => ?_
      refine r_load (i := 28) (u := 0) (w := 2) rfl rfl rfl ?_
      refine r_getf (i := 29) (v := 1) (w := 8) (x := (2, 9)) rfl ly33 rfl rfl fun _ => ?_
      refine r_load (i := 30) (u := 1) (w := 0) rfl rfl rfl ?_
      refine r_load (i := 31) (u := 3) (w := 0) rfl rfl rfl ?_
      refine r_call (i := 32) (u := 2) (v := 86) (w := 0) (b := 0) (na := 771) (C2 := xC86) (as := [(2, 9), vi m, vi k]) (s := [(2, 36), (2, 34)]) rfl rfl rfl rfl rfl rfl rfl (sp86 (m := m) (k := k) hI ⟨by omega, by omega⟩ ⟨by omega, by omega⟩   (by omega)) (fun r8 S9 hq10 => ?_)
      obtain ⟨z11, rfl, h12, h13, h14, rfl⟩ := hq10
      refine Or.inr (Or.inl ⟨rfl, ?_⟩)
      refine r_call (i := 33) (u := 9) (v := 89) (w := 0) (b := 0) (na := 770) (C2 := xC89) (as := [(2, 36), vi z11]) (s := [(2, 34)]) rfl rfl rfl rfl rfl rfl rfl (sp89 (t := z11) hI ⟨by omega, by omega⟩ (by omega) e_PL (by omega)) (fun r15 S16 hq17 => ?_)
      obtain ⟨z18, rfl, h19, h20, h21, wi22, e23, hI24, hF25, hR26⟩ := hq17
      have hF27 := hF.trans hF25 rfl rfl
      have hR28 := hR.trans hR26 rfl
      refine Or.inr (Or.inl ⟨rfl, ?_⟩)
      have h29 := hI24.b1
      have h30 : S16.f 34 1 = S.f 34 1 := hF25.f rfl
      refine r_call (i := 34) (u := 7) (v := 36) (w := 0) (b := 0) (na := 514) (C2 := xC36) (as := [(2, 34), vi z18]) (s := []) rfl rfl rfl rfl rfl rfl rfl (sp36_34 (b := z18) hI24 ⟨by omega, by omega⟩ (by omega)  (by omega)) (fun r31 S32 hq33 => ?_)
      obtain ⟨rfl, h34, btw35, hI36, hF37, hR38⟩ := hq33
      have hF39 := hF27.trans hF37 rfl rfl
      have hR40 := hR28.trans hR38 rfl
      have e41 := PLx.fr e23 hF37 hR38 rfl rfl rfl
      have e42 := PTx.fr e23 hF37 hR38 rfl rfl rfl
      refine Or.inl ⟨rfl, ?_⟩
      refine r_iinc (i := 35) (u := 1) (v := 3) (s := 1) (L1 := [some ((2, 33)), some (vi m), some (vi h0), some (vi (k + 1))]) rfl rfl rfl rfl rfl ?_
      refine r_goto (i := 36) (v := 21) rfl ?_
      have h43 := hI36.b1
      have h44 := hI36.b0
      have h45 : S32.f 31 1 = S16.f 31 1 := hF37.f rfl
      exact ih S32 hI36 hF39 hR40 e41 (k + 1) ⟨by omega, by omega⟩ (by omega) (by omega) (by intro w9 hw0; obtain ⟨hw1, ew1⟩ := wi22 _ (q_2 _ hw0); have hw2 := wQ_by btw35 (sFl_fr hF37 rfl rfl) (sDp_fr hF37 rfl) _ hw1; subst ew1; exact cW_c hw2 (we0_eq (pkR_fr hF rfl) (by omega) (by have f9 := hF.a (b := 16) rfl (3 * m + k).toNat; unfold thR; omega))) (by omega) (by omega)
/-- ProxyForge$Writer.exceptions -/
theorem sp154 {G : xk} {S : yS} {d : Nat} (hI : yI S) {m : Int} (h_m : 0 ≤ m ∧ m ≤ 59) {h0 : Int} (h_h0 : 0 ≤ h0 ∧ h0 ≤ 3) (p_0 : S.f 31 1 + 109 ≤ 60000) (p_1 : S.f 34 1 + 14 ≤ 60000) (e_PL : PL S) (hd : 7 ≤ d) : yT xPr G LY xC154 0 [some ((2, 33)), some (vi m), some (vi h0)] [] S d (fun r S' => r = (0, (0, 0)) ∧ (S.f 31 1 ≤ S'.f 31 1 ∧ S'.f 31 1 ≤ S.f 31 1 + 109) ∧ (S.f 34 1 ≤ S'.f 34 1 ∧ S'.f 34 1 ≤ S.f 34 1 + 14) ∧ wQ S S' (wex (pkR 4 S) (thR S m) h0) ∧ PL S' ∧ yI S' ∧ yFr [(31, 1), (34, 1), (36, 5)] [37, 100, 101, 102, 103, 105] S S' ∧ yRm [0, 1, 2, 3] S S') := by
  refine yT_pad 1 ?_
  show yT xPr G LY xC154 0 [some ((2, 33)), some (vi m), some (vi h0), none] [] S d _
  obtain ⟨d, rfl⟩ : ∃ q, d = q + 1 := ⟨d - 1, by omega⟩
  have hF : yFr [(31, 1), (34, 1), (36, 5)] [37, 100, 101, 102, 103, 105] S S := yFr.refl S
  have hR : yRm [0, 1, 2, 3] S S := yRm.refl S
  have h1 := hI.b0
  have h2 := hI.b1
  refine r_load (i := 0) (u := 0) (w := 2) rfl rfl rfl ?_
  refine r_getf (i := 1) (v := 5) (w := 8) (x := (2, 34)) rfl ly33 rfl rfl fun _ => ?_
  refine r_load (i := 2) (u := 0) (w := 2) rfl rfl rfl ?_
  refine r_getf (i := 3) (v := 6) (w := 8) (x := (2, 36)) rfl ly33 rfl rfl fun _ => ?_
  refine r_str (i := 4) (v := 38) rfl ?_
  have h5 := slv38
  refine r_call (i := 5) (u := 9) (v := 98) (w := 0) (b := 0) (na := 770) (C2 := xC98) (as := [(2, 36), (6, 38)]) (s := [(2, 34)]) rfl rfl rfl rfl rfl rfl rfl (sp98 (s := 38) hI ⟨by decide, by decide⟩ (by omega) e_PL (by omega)) (fun r6 S7 hq8 => ?_)
  obtain ⟨z9, rfl, h10, h11, h12, wi13, e14, hI15, hF16, hR17⟩ := hq8
  have hF18 := hF.trans hF16 rfl rfl
  have hR19 := hR.trans hR17 rfl
  refine Or.inr (Or.inl ⟨rfl, ?_⟩)
  have h20 := hI15.b1
  have h21 : S7.f 34 1 = S.f 34 1 := hF16.f rfl
  refine r_call (i := 6) (u := 7) (v := 36) (w := 0) (b := 0) (na := 514) (C2 := xC36) (as := [(2, 34), vi z9]) (s := []) rfl rfl rfl rfl rfl rfl rfl (sp36_34 (b := z9) hI15 ⟨by omega, by omega⟩ (by omega)  (by omega)) (fun r22 S23 hq24 => ?_)
  obtain ⟨rfl, h25, btw26, hI27, hF28, hR29⟩ := hq24
  have hF30 := hF18.trans hF28 rfl rfl
  have hR31 := hR19.trans hR29 rfl
  have e32 := PLx.fr e14 hF28 hR29 rfl rfl rfl
  have e33 := PTx.fr e14 hF28 hR29 rfl rfl rfl
  refine Or.inl ⟨rfl, ?_⟩
  refine r_load (i := 7) (u := 0) (w := 2) rfl rfl rfl ?_
  refine r_getf (i := 8) (v := 5) (w := 8) (x := (2, 34)) rfl ly33 rfl rfl fun _ => ?_
  refine r_const (i := 9) (u := 2) (z := 2) rfl rfl ?_
  refine r_const (i := 10) (u := 2) (z := 2) rfl rfl ?_
  refine r_load (i := 11) (u := 2) (w := 0) rfl rfl rfl ?_
  refine r_imul (i := 12) rfl ?_
  refine r_iadd (i := 13) rfl ?_
  have h35 := hI27.b1
  refine r_call (i := 14) (u := 7) (v := 24) (w := 0) (b := 0) (na := 514) (C2 := xC24) (as := [(2, 34), vi (2 + (2 * h0))]) (s := []) rfl rfl rfl rfl rfl rfl rfl (sp24_34 (b := 2 + (2 * h0)) hI27 ⟨by omega, by omega⟩ (by omega)  (by omega)) (fun r36 S37 hq38 => ?_)
  obtain ⟨rfl, h39, bfo40, hI41, hF42, hR43⟩ := hq38
  have hF44 := hF30.trans hF42 rfl rfl
  have hR45 := hR31.trans hR43 rfl
  have e46 := PLx.fr e32 hF42 hR43 rfl rfl rfl
  have e47 := PTx.fr e33 hF42 hR43 rfl rfl rfl
  refine Or.inl ⟨rfl, ?_⟩
  refine r_load (i := 15) (u := 0) (w := 2) rfl rfl rfl ?_
  refine r_getf (i := 16) (v := 5) (w := 8) (x := (2, 34)) rfl ly33 rfl rfl fun _ => ?_
  refine r_load (i := 17) (u := 2) (w := 0) rfl rfl rfl ?_
  have h49 := hI41.b1
  refine r_call (i := 18) (u := 7) (v := 36) (w := 0) (b := 0) (na := 514) (C2 := xC36) (as := [(2, 34), vi h0]) (s := []) rfl rfl rfl rfl rfl rfl rfl (sp36_34 (b := h0) hI41 ⟨by omega, by omega⟩ (by omega)  (by omega)) (fun r50 S51 hq52 => ?_)
  obtain ⟨rfl, h53, btw54, hI55, hF56, hR57⟩ := hq52
  have hF58 := hF44.trans hF56 rfl rfl
  have hR59 := hR45.trans hR57 rfl
  have e60 := PLx.fr e46 hF56 hR57 rfl rfl rfl
  have e61 := PTx.fr e47 hF56 hR57 rfl rfl rfl
  refine Or.inl ⟨rfl, ?_⟩
  refine r_const (i := 19) (u := 0) (z := 0) rfl rfl ?_
  refine r_store (i := 20) (u := 3) (w := 0) (L1 := [some ((2, 33)), some (vi m), some (vi h0), some (vi 0)]) rfl rfl rfl rfl ?_
  have h62 := hI55.b1
  have h63 := hI55.b0
  have h64 : S51.f 31 1 = S37.f 31 1 := hF56.f rfl
  have h65 : S37.f 31 1 = S23.f 31 1 := hF42.f rfl
  have h66 : S23.f 31 1 = S7.f 31 1 := hF28.f rfl
  exact lp154_21 h_m h_h0 p_0 p_1 hd _ S51 hI55 hF58 hR59 e60 0 ⟨by omega, by omega⟩ (by omega) (by omega) (by intro w9 hw0; obtain ⟨hw1, ew1⟩ := wi13 _ hw0; have hw2 := wQ_by btw26 (sFl_fr hF28 rfl rfl) (sDp_fr hF28 rfl) _ hw1; have hw3 := wQ_by bfo40 (sFl_fr hF42 rfl rfl) (sDp_fr hF42 rfl) _ hw2; have hw4 := wQ_by btw54 (sFl_fr hF56 rfl rfl) (sDp_fr hF56 rfl) _ hw3; subst ew1; exact hw4) (by omega) (Int.lt_succ_toNat _)
/-- ProxyForge$Writer.askNumbered -/
theorem sp141 {G : xk} {S : yS} {d : Nat} (hI : yI S) {k : Int} (h_k : 0 ≤ k ∧ k ≤ 23) {s : Nat} (h_s : yStr s) (p_0 : S.f 31 1 + (64 + slen s) ≤ 60000) (p_1 : S.f 34 1 + 11 ≤ 60000) (e_PL : PL S) (hd : 8 ≤ d) : yT xPr G LY xC141 0 [some ((2, 33)), some (vi k), some ((6, s))] [] S d (fun r S' => r = (0, (0, 0)) ∧ (S.f 31 1 ≤ S'.f 31 1 ∧ S'.f 31 1 ≤ S.f 31 1 + (64 + slen s)) ∧ (S.f 34 1 ≤ S'.f 34 1 ∧ S'.f 34 1 ≤ S.f 34 1 + 11) ∧ wK S S' (wan k (strl s)) ∧ PL S' ∧ yI S' ∧ yFr [(31, 1), (33, 14), (33, 15), (34, 1), (36, 5)] [37, 100, 101, 102, 103, 105] S S' ∧ yRm [0, 1, 2, 3] S S') := by
  refine yT_pad 0 ?_
  show yT xPr G LY xC141 0 [some ((2, 33)), some (vi k), some ((6, s))] [] S d _
  obtain ⟨d, rfl⟩ : ∃ q, d = q + 1 := ⟨d - 1, by omega⟩
  have hF : yFr [(31, 1), (33, 14), (33, 15), (34, 1), (36, 5)] [37, 100, 101, 102, 103, 105] S S := yFr.refl S
  have hR : yRm [0, 1, 2, 3] S S := yRm.refl S
  have h1 := hI.b0
  have h2 := hI.b1
  have sl9 := slen_le h_s
  refine r_load (i := 0) (u := 0) (w := 2) rfl rfl rfl ?_
  refine r_const (i := 1) (u := 42) (z := 42) rfl rfl ?_
  refine r_const (i := 2) (u := 1) (z := 1) rfl rfl ?_
  refine r_call (i := 3) (u := 8) (v := 163) (w := 0) (b := 0) (na := 771) (C2 := xC163) (as := [(2, 33), vi 42, vi 1]) (s := []) rfl rfl rfl rfl rfl rfl rfl (sp163 (c := 42) (e := 1) hI ⟨by omega, by omega⟩ ⟨by omega, by omega⟩ (by omega)  (by omega)) (fun r3 S4 hq5 => ?_)
  obtain ⟨rfl, h6, wq7, hI8, hF9, hR10⟩ := hq5
  have hF11 := hF.trans hF9 rfl rfl
  have hR12 := hR.trans hR10 rfl
  have e13 := PLx.fr e_PL hF9 hR10 rfl rfl rfl
  have e14 := PTx.fr e_PL hF9 hR10 rfl rfl rfl
  refine Or.inl ⟨rfl, ?_⟩
  refine r_load (i := 4) (u := 0) (w := 2) rfl rfl rfl ?_
  refine r_const (i := 5) (u := 180) (z := 180) rfl rfl ?_
  refine r_load (i := 6) (u := 0) (w := 2) rfl rfl rfl ?_
  have h15 := hI8.b0
  have h16 : S4.f 31 1 = S.f 31 1 := hF9.f rfl
  refine r_call (i := 7) (u := 8) (v := 146) (w := 0) (b := 0) (na := 257) (C2 := xC146) (as := [(2, 33)]) (s := [vi 180, (2, 33)]) rfl rfl rfl rfl rfl rfl rfl (sp146  hI8  (by omega) e13 (by omega)) (fun r17 S18 hq19 => ?_)
  obtain ⟨z20, rfl, h21, h22, h23, wj24, e25, hI26, hF27, hR28⟩ := hq19
  have hF29 := hF11.trans hF27 rfl rfl
  have hR30 := hR12.trans hR28 rfl
  refine Or.inr (Or.inl ⟨rfl, ?_⟩)
  refine r_const (i := 8) (u := 0) (z := 0) rfl rfl ?_
  have h31 := hI26.b1
  have h32 : S18.f 34 1 = S4.f 34 1 := hF27.f rfl
  refine r_call (i := 9) (u := 8) (v := 165) (w := 0) (b := 0) (na := 1028) (C2 := xC165) (as := [(2, 33), vi 180, vi z20, vi 0]) (s := []) rfl rfl rfl rfl rfl rfl rfl (sp165 (c := 180) (o := z20) (e := 0) hI26 ⟨by omega, by omega⟩ ⟨by omega, by omega⟩ ⟨by omega, by omega⟩ (by omega)  (by omega)) (fun r33 S34 hq35 => ?_)
  obtain ⟨rfl, h36, wq37, hI38, hF39, hR40⟩ := hq35
  have hF41 := hF29.trans hF39 rfl rfl
  have hR42 := hR30.trans hR40 rfl
  have e43 := PLx.fr e25 hF39 hR40 rfl rfl rfl
  have e44 := PTx.fr e25 hF39 hR40 rfl rfl rfl
  refine Or.inl ⟨rfl, ?_⟩
  refine r_load (i := 10) (u := 0) (w := 2) rfl rfl rfl ?_
  refine r_load (i := 11) (u := 1) (w := 0) rfl rfl rfl ?_
  have h45 := hI38.b1
  refine r_call (i := 12) (u := 8) (v := 168) (w := 0) (b := 0) (na := 514) (C2 := xC168) (as := [(2, 33), vi k]) (s := []) rfl rfl rfl rfl rfl rfl rfl (sp168 (k := k) hI38 ⟨by omega, by omega⟩ (by omega)  (by omega)) (fun r46 S47 hq48 => ?_)
  obtain ⟨rfl, h49, wq50, hI51, hF52, hR53⟩ := hq48
  have hF54 := hF41.trans hF52 rfl rfl
  have hR55 := hR42.trans hR53 rfl
  have e56 := PLx.fr e43 hF52 hR53 rfl rfl rfl
  have e57 := PTx.fr e44 hF52 hR53 rfl rfl rfl
  refine Or.inl ⟨rfl, ?_⟩
  refine r_load (i := 13) (u := 0) (w := 2) rfl rfl rfl ?_
  refine r_const (i := 14) (u := 185) (z := 185) rfl rfl ?_
  refine r_load (i := 15) (u := 0) (w := 2) rfl rfl rfl ?_
  refine r_const (i := 16) (u := 11) (z := 11) rfl rfl ?_
  refine r_str (i := 17) (v := 22) rfl ?_
  have h58 := slv22
  refine r_load (i := 18) (u := 2) (w := 2) rfl rfl rfl ?_
  refine r_str (i := 19) (v := 32) rfl ?_
  have h59 := slv32
  have h60 := hI51.b0
  have h61 : S47.f 31 1 = S34.f 31 1 := hF52.f rfl
  have h62 : S34.f 31 1 = S18.f 31 1 := hF39.f rfl
  refine r_call (i := 20) (u := 8) (v := 160) (w := 0) (b := 0) (na := 2053) (C2 := xC160) (as := [(2, 33), vi 11, (6, 22), (6, s), (6, 32)]) (s := [vi 185, (2, 33)]) rfl rfl rfl rfl rfl rfl rfl (sp160 (w0 := 11) (s := 22) (s2 := s) (s3 := 32) hI51 ⟨by omega, by omega⟩ ⟨by decide, by decide⟩ h_s ⟨by decide, by decide⟩ (by omega) e56 (by omega)) (fun r63 S64 hq65 => ?_)
  obtain ⟨z66, rfl, h67, h68, h69, mb70, e71, hI72, hF73, hR74⟩ := hq65
  have hF75 := hF54.trans hF73 rfl rfl
  have hR76 := hR55.trans hR74 rfl
  refine Or.inr (Or.inl ⟨rfl, ?_⟩)
  refine r_const (i := 21) (u := 4294967295) (z := -1) rfl rfl ?_
  have h77 := hI72.b1
  have h78 : S64.f 34 1 = S47.f 34 1 := hF73.f rfl
  refine r_call (i := 22) (u := 8) (v := 165) (w := 0) (b := 0) (na := 1028) (C2 := xC165) (as := [(2, 33), vi 185, vi z66, vi (-1)]) (s := []) rfl rfl rfl rfl rfl rfl rfl (sp165 (c := 185) (o := z66) (e := -1) hI72 ⟨by omega, by omega⟩ ⟨by omega, by omega⟩ ⟨by omega, by omega⟩ (by omega)  (by omega)) (fun r79 S80 hq81 => ?_)
  obtain ⟨rfl, h82, wq83, hI84, hF85, hR86⟩ := hq81
  have hF87 := hF75.trans hF85 rfl rfl
  have hR88 := hR76.trans hR86 rfl
  have e89 := PLx.fr e71 hF85 hR86 rfl rfl rfl
  have e90 := PTx.fr e71 hF85 hR86 rfl rfl rfl
  refine Or.inl ⟨rfl, ?_⟩
  refine r_load (i := 23) (u := 0) (w := 2) rfl rfl rfl ?_
  refine r_getf (i := 24) (v := 5) (w := 8) (x := (2, 34)) rfl ly33 rfl rfl fun _ => ?_
  refine r_const (i := 25) (u := 2) (z := 2) rfl rfl ?_
  have h92 := hI84.b1
  refine r_call (i := 26) (u := 7) (v := 29) (w := 0) (b := 0) (na := 514) (C2 := xC29) (as := [(2, 34), vi 2]) (s := []) rfl rfl rfl rfl rfl rfl rfl (sp29_34 (b := 2) hI84 ⟨by omega, by omega⟩ (by omega)  (by omega)) (fun r93 S94 hq95 => ?_)
  obtain ⟨rfl, h96, bo97, hI98, hF99, hR100⟩ := hq95
  have hF101 := hF87.trans hF99 rfl rfl
  have hR102 := hR88.trans hR100 rfl
  have e103 := PLx.fr e89 hF99 hR100 rfl rfl rfl
  have e104 := PTx.fr e90 hF99 hR100 rfl rfl rfl
  refine Or.inl ⟨rfl, ?_⟩
  refine r_load (i := 27) (u := 0) (w := 2) rfl rfl rfl ?_
  refine r_getf (i := 28) (v := 5) (w := 8) (x := (2, 34)) rfl ly33 rfl rfl fun _ => ?_
  refine r_const (i := 29) (u := 0) (z := 0) rfl rfl ?_
  have h106 := hI98.b1
  refine r_call (i := 30) (u := 7) (v := 29) (w := 0) (b := 0) (na := 514) (C2 := xC29) (as := [(2, 34), vi 0]) (s := []) rfl rfl rfl rfl rfl rfl rfl (sp29_34 (b := 0) hI98 ⟨by omega, by omega⟩ (by omega)  (by omega)) (fun r107 S108 hq109 => ?_)
  obtain ⟨rfl, h110, bo111, hI112, hF113, hR114⟩ := hq109
  have hF115 := hF101.trans hF113 rfl rfl
  have hR116 := hR102.trans hR114 rfl
  have e117 := PLx.fr e103 hF113 hR114 rfl rfl rfl
  have e118 := PTx.fr e104 hF113 hR114 rfl rfl rfl
  refine Or.inl ⟨rfl, ?_⟩
  have h119 := hI112.b0
  have h120 : S108.f 31 1 = S94.f 31 1 := hF113.f rfl
  have h121 : S94.f 31 1 = S80.f 31 1 := hF99.f rfl
  have h122 : S80.f 31 1 = S64.f 31 1 := hF85.f rfl
  have h123 := hI112.b1
  exact r_ret0 (i := 31) rfl ⟨rfl, (by omega), (by omega), (by intro w9 hw0 hq9; have hw1 := wq7 _ hw0; obtain ⟨hw2, ew2⟩ := wj24 _ hw1 (okQ_e (by simp only [g_an, g_ak, g_ub, g_su, g_di, g_ah, g_sc, g_mx, g_ei, g_ec, g_by, g_mv, g_dp, g_op, g_oB, g_oE, g_pt, g_cl, g_m2, g_mb, g_fd, g_gf, g_om, g_20, g_pu, g_l1, g_lv, g_cs, g_bx, g_ld, g_ao, g_a0]) hq9); have hw3 := wq37 _ hw2; have hw4 := wq50 _ hw3; obtain ⟨hw5, ew5⟩ := mb70 (by decide) (by decide) _ hw4; have hw6 := wq83 _ hw5; have hw7 := wQ_by bo97 (sFl_fr hF99 rfl rfl) (sDp_fr hF99 rfl) _ hw6; have hw8 := wQ_by bo111 (sFl_fr hF113 rfl rfl) (sDp_fr hF113 rfl) _ hw7; subst ew2; subst ew5; first | (exact hw8)), e117, hI112, hF115, hR116⟩
/-- ProxyForge$Writer.unboxed -/
theorem sp172 {G : xk} {S : yS} {d : Nat} (hI : yI S) {k : Int} (h_k : 0 ≤ k ∧ k ≤ 23) (p_0 : S.f 31 1 + 77 ≤ 60000) (p_1 : S.f 34 1 + 7 ≤ 60000) (e_PL : PL S) (hd : 8 ≤ d) : yT xPr G LY xC172 0 [some ((2, 33)), some (vi k)] [] S d (fun r S' => r = (0, (0, 0)) ∧ (S.f 31 1 ≤ S'.f 31 1 ∧ S'.f 31 1 ≤ S.f 31 1 + 77) ∧ (S.f 34 1 ≤ S'.f 34 1 ∧ S'.f 34 1 ≤ S.f 34 1 + 7) ∧ wQ S S' (wub (pkR 4 S) k) ∧ PL S' ∧ yI S' ∧ yFr [(31, 1), (33, 14), (33, 15), (34, 1), (36, 5)] [37, 100, 101, 102, 103, 105] S S' ∧ yRm [0, 1, 2, 3] S S') := by
  refine yT_pad 2 ?_
  show yT xPr G LY xC172 0 [some ((2, 33)), some (vi k), none, none] [] S d _
  obtain ⟨d, rfl⟩ : ∃ q, d = q + 1 := ⟨d - 1, by omega⟩
  have hF : yFr [(31, 1), (33, 14), (33, 15), (34, 1), (36, 5)] [37, 100, 101, 102, 103, 105] S S := yFr.refl S
  have hR : yRm [0, 1, 2, 3] S S := yRm.refl S
  have h1 := hI.b0
  have h2 := hI.b1
  refine r_load (i := 0) (u := 1) (w := 0) rfl rfl rfl ?_
  refine z_ne (i := 1) (v := 7) rfl ⟨by omega, by omega⟩ (fun h3 => ?_) (fun h4 => ?_)
  · refine r_load (i := 7) (u := 1) (w := 0) rfl rfl rfl ?_
    refine r_const (i := 8) (u := 4) (z := 4) rfl rfl ?_
    refine c_lt (i := 9) (v := 16) rfl ⟨by omega, by omega⟩ ⟨by omega, by omega⟩ (fun h5 => ?_) (fun h6 => ?_)
    · refine r_load (i := 16) (u := 1) (w := 0) rfl rfl rfl ?_
      refine r_call (i := 17) (u := 65535) (v := 64) (w := 0) (b := 2) (na := 257) (C2 := xC64) (as := [vi k]) (s := []) rfl rfl rfl rfl rfl rfl rfl (sp64 (k := k) hI ⟨by omega, by omega⟩   (by omega)) (fun r7 S8 hq9 => ?_)
      obtain ⟨z10, rfl, h_z10, h12, sbx13, rfl⟩ := hq9
      refine Or.inr (Or.inl ⟨rfl, ?_⟩)
      refine r_store (i := 18) (u := 2) (w := 2) (L1 := [some ((2, 33)), some (vi k), some ((6, z10)), none]) rfl rfl rfl rfl ?_
      refine r_load (i := 19) (u := 0) (w := 2) rfl rfl rfl ?_
      refine r_const (i := 20) (u := 192) (z := 192) rfl rfl ?_
      refine r_load (i := 21) (u := 0) (w := 2) rfl rfl rfl ?_
      refine r_getf (i := 22) (v := 6) (w := 8) (x := (2, 36)) rfl ly33 rfl rfl fun _ => ?_
      refine r_const (i := 23) (u := 7) (z := 7) rfl rfl ?_
      refine r_load (i := 24) (u := 0) (w := 2) rfl rfl rfl ?_
      refine r_getf (i := 25) (v := 6) (w := 8) (x := (2, 36)) rfl ly33 rfl rfl fun _ => ?_
      refine r_load (i := 26) (u := 2) (w := 2) rfl rfl rfl ?_
      refine r_call (i := 27) (u := 9) (v := 98) (w := 0) (b := 0) (na := 770) (C2 := xC98) (as := [(2, 36), (6, z10)]) (s := [vi 7, (2, 36), vi 192, (2, 33)]) rfl rfl rfl rfl rfl rfl rfl (sp98 (s := z10) hI h_z10 (by omega) e_PL (by omega)) (fun r16 S17 hq18 => ?_)
      obtain ⟨z19, rfl, h20, h21, h22, wi23, e24, hI25, hF26, hR27⟩ := hq18
      have hF28 := hF.trans hF26 rfl rfl
      have hR29 := hR.trans hR27 rfl
      refine Or.inr (Or.inl ⟨rfl, ?_⟩)
      have h30 := hI25.b0
      refine r_call (i := 28) (u := 9) (v := 97) (w := 0) (b := 0) (na := 1027) (C2 := xC97) (as := [(2, 36), vi 7, vi z19]) (s := [vi 192, (2, 33)]) rfl rfl rfl rfl rfl rfl rfl (sp97 (w0 := 7) (v := z19) hI25 ⟨by omega, by omega⟩ ⟨by omega, by omega⟩ (by omega) e24 (by omega)) (fun r31 S32 hq33 => ?_)
      obtain ⟨z34, rfl, h35, h36, h37, si38, e39, hI40, hF41, hR42⟩ := hq33
      have hF43 := hF28.trans hF41 rfl rfl
      have hR44 := hR29.trans hR42 rfl
      refine Or.inr (Or.inl ⟨rfl, ?_⟩)
      refine r_const (i := 29) (u := 0) (z := 0) rfl rfl ?_
      have h45 := hI40.b1
      have h46 : S32.f 34 1 = S17.f 34 1 := hF41.f rfl
      have h47 : S17.f 34 1 = S.f 34 1 := hF26.f rfl
      refine r_call (i := 30) (u := 8) (v := 165) (w := 0) (b := 0) (na := 1028) (C2 := xC165) (as := [(2, 33), vi 192, vi z34, vi 0]) (s := []) rfl rfl rfl rfl rfl rfl rfl (sp165 (c := 192) (o := z34) (e := 0) hI40 ⟨by omega, by omega⟩ ⟨by omega, by omega⟩ ⟨by omega, by omega⟩ (by omega)  (by omega)) (fun r48 S49 hq50 => ?_)
      obtain ⟨rfl, h51, wq52, hI53, hF54, hR55⟩ := hq50
      have hF56 := hF43.trans hF54 rfl rfl
      have hR57 := hR44.trans hR55 rfl
      have e58 := PLx.fr e39 hF54 hR55 rfl rfl rfl
      have e59 := PTx.fr e39 hF54 hR55 rfl rfl rfl
      refine Or.inl ⟨rfl, ?_⟩
      refine r_load (i := 31) (u := 0) (w := 2) rfl rfl rfl ?_
      refine r_const (i := 32) (u := 10) (z := 10) rfl rfl ?_
      refine r_load (i := 33) (u := 2) (w := 2) rfl rfl rfl ?_
      refine r_load (i := 34) (u := 1) (w := 0) rfl rfl rfl ?_
      refine r_call (i := 35) (u := 65535) (v := 69) (w := 0) (b := 2) (na := 257) (C2 := xC69) (as := [vi k]) (s := [(6, z10), vi 10, (2, 33)]) rfl rfl rfl rfl rfl rfl rfl (sp69 (k := k) hI53 ⟨by omega, by omega⟩   (by omega)) (fun r60 S61 hq62 => ?_)
      obtain ⟨z63, rfl, h_z63, h65, sun66, rfl⟩ := hq62
      refine Or.inr (Or.inl ⟨rfl, ?_⟩)
      refine r_load (i := 36) (u := 1) (w := 0) rfl rfl rfl ?_
      refine r_call (i := 37) (u := 65535) (v := 68) (w := 0) (b := 2) (na := 257) (C2 := xC68) (as := [vi k]) (s := [(6, z63), (6, z10), vi 10, (2, 33)]) rfl rfl rfl rfl rfl rfl rfl (sp68 (k := k) hI53 ⟨by omega, by omega⟩   (by omega)) (fun r67 S68 hq69 => ?_)
      obtain ⟨z70, rfl, h_z70, h72, sud73, rfl⟩ := hq69
      refine Or.inr (Or.inl ⟨rfl, ?_⟩)
      have h74 := hI53.b0
      have h75 : S49.f 31 1 = S32.f 31 1 := hF54.f rfl
      refine r_call (i := 38) (u := 8) (v := 160) (w := 0) (b := 0) (na := 2053) (C2 := xC160) (as := [(2, 33), vi 10, (6, z10), (6, z63), (6, z70)]) (s := []) rfl rfl rfl rfl rfl rfl rfl (sp160 (w0 := 10) (s := z10) (s2 := z63) (s3 := z70) hI53 ⟨by omega, by omega⟩ h_z10 h_z63 h_z70 (by omega) e58 (by omega)) (fun r76 S77 hq78 => ?_)
      obtain ⟨z79, rfl, h80, h81, h82, mb83, e84, hI85, hF86, hR87⟩ := hq78
      have hF88 := hF56.trans hF86 rfl rfl
      have hR89 := hR57.trans hR87 rfl
      refine Or.inr (Or.inl ⟨rfl, ?_⟩)
      refine r_store (i := 39) (u := 3) (w := 0) (L1 := [some ((2, 33)), some (vi k), some ((6, z10)), some (vi z79)]) rfl rfl rfl rfl ?_
      refine r_load (i := 40) (u := 0) (w := 2) rfl rfl rfl ?_
      refine r_const (i := 41) (u := 182) (z := 182) rfl rfl ?_
      refine r_load (i := 42) (u := 3) (w := 0) rfl rfl rfl ?_
      refine r_load (i := 43) (u := 1) (w := 0) rfl rfl rfl ?_
      refine r_call (i := 44) (u := 65535) (v := 70) (w := 0) (b := 2) (na := 257) (C2 := xC70) (as := [vi k]) (s := [vi z79, vi 182, (2, 33)]) rfl rfl rfl rfl rfl rfl rfl (sp70 (k := k) hI85 ⟨by omega, by omega⟩   (by omega)) (fun r90 S91 hq92 => ?_)
      obtain ⟨z93, rfl, h94, h95, wd96, rfl⟩ := hq92
      refine Or.inr (Or.inl ⟨rfl, ?_⟩)
      refine r_const (i := 45) (u := 1) (z := 1) rfl rfl ?_
      refine r_isub (i := 46) rfl ?_
      have h97 := hI85.b1
      have h98 : S77.f 34 1 = S49.f 34 1 := hF86.f rfl
      refine r_call (i := 47) (u := 8) (v := 165) (w := 0) (b := 0) (na := 1028) (C2 := xC165) (as := [(2, 33), vi 182, vi z79, vi (z93 - 1)]) (s := []) rfl rfl rfl rfl rfl rfl rfl (sp165 (c := 182) (o := z79) (e := z93 - 1) hI85 ⟨by omega, by omega⟩ ⟨by omega, by omega⟩ ⟨by omega, by omega⟩ (by omega)  (by omega)) (fun r99 S100 hq101 => ?_)
      obtain ⟨rfl, h102, wq103, hI104, hF105, hR106⟩ := hq101
      have hF107 := hF88.trans hF105 rfl rfl
      have hR108 := hR89.trans hR106 rfl
      have e109 := PLx.fr e84 hF105 hR106 rfl rfl rfl
      have e110 := PTx.fr e84 hF105 hR106 rfl rfl rfl
      refine Or.inl ⟨rfl, ?_⟩
      refine r_load (i := 48) (u := 0) (w := 2) rfl rfl rfl ?_
      refine r_load (i := 49) (u := 1) (w := 0) rfl rfl rfl ?_
      have h111 := hI104.b1
      refine r_call (i := 50) (u := 8) (v := 157) (w := 0) (b := 0) (na := 770) (C2 := xC157) (as := [(2, 33), vi k]) (s := []) rfl rfl rfl rfl rfl rfl rfl (sp157 (k := k) hI104 ⟨by omega, by omega⟩ (by omega)  (by omega)) (fun r112 S113 hq114 => ?_)
      obtain ⟨rfl, h115, wq116, hI117, hF118, hR119⟩ := hq114
      have hF120 := hF107.trans hF118 rfl rfl
      have hR121 := hR108.trans hR119 rfl
      have e122 := PLx.fr e109 hF118 hR119 rfl rfl rfl
      have e123 := PTx.fr e110 hF118 hR119 rfl rfl rfl
      refine Or.inl ⟨rfl, ?_⟩
      have h124 := hI117.b0
      have h125 : S113.f 31 1 = S100.f 31 1 := hF118.f rfl
      have h126 : S100.f 31 1 = S77.f 31 1 := hF105.f rfl
      have h127 := hI117.b1
      exact r_ret0 (i := 51) rfl ⟨rfl, (by omega), (by omega), (by intro w9 hw0; obtain ⟨hw1, ew1⟩ := wi23 _ hw0; obtain ⟨hw2, ew2⟩ := si38 rfl (by omega) (by omega) _ hw1; have hw3 := wq52 _ hw2; obtain ⟨hw4, ew4⟩ := mb83 (by decide) (by decide) _ hw3; have hw5 := wq103 _ hw4; have hw6 := wq116 _ hw5; subst ew1; subst ew2; subst ew4; first | (exact hw6) | (rw [wub_b (by omega) (by omega) sbx13 sun66 sud73 wd96]; exact hw6)), e122, hI117, hF120, hR121⟩
    · refine r_load (i := 10) (u := 0) (w := 2) rfl rfl rfl ?_
      refine r_load (i := 11) (u := 1) (w := 0) rfl rfl rfl ?_
      refine r_const (i := 12) (u := 4) (z := 4) rfl rfl ?_
      refine r_isub (i := 13) rfl ?_
      refine r_call (i := 14) (u := 8) (v := 147) (w := 0) (b := 0) (na := 514) (C2 := xC147) (as := [(2, 33), vi (k - 4)]) (s := []) rfl rfl rfl rfl rfl rfl rfl (sp147 (t := k - 4) hI ⟨by omega, by omega⟩ (by omega) (by omega) e_PL (by omega)) (fun r128 S129 hq130 => ?_)
      obtain ⟨rfl, h131, h132, wq133, e134, hI135, hF136, hR137⟩ := hq130
      have hF138 := hF.trans hF136 rfl rfl
      have hR139 := hR.trans hR137 rfl
      refine Or.inl ⟨rfl, ?_⟩
      refine r_goto (i := 15) (v := 48) rfl ?_
      refine r_load (i := 48) (u := 0) (w := 2) rfl rfl rfl ?_
      refine r_load (i := 49) (u := 1) (w := 0) rfl rfl rfl ?_
      have h140 := hI135.b1
      refine r_call (i := 50) (u := 8) (v := 157) (w := 0) (b := 0) (na := 770) (C2 := xC157) (as := [(2, 33), vi k]) (s := []) rfl rfl rfl rfl rfl rfl rfl (sp157 (k := k) hI135 ⟨by omega, by omega⟩ (by omega)  (by omega)) (fun r141 S142 hq143 => ?_)
      obtain ⟨rfl, h144, wq145, hI146, hF147, hR148⟩ := hq143
      have hF149 := hF138.trans hF147 rfl rfl
      have hR150 := hR139.trans hR148 rfl
      have e151 := PLx.fr e134 hF147 hR148 rfl rfl rfl
      have e152 := PTx.fr e134 hF147 hR148 rfl rfl rfl
      refine Or.inl ⟨rfl, ?_⟩
      have h153 := hI146.b0
      have h154 : S142.f 31 1 = S129.f 31 1 := hF147.f rfl
      have h155 := hI146.b1
      exact r_ret0 (i := 51) rfl ⟨rfl, (by omega), (by omega), (by intro w9 hw0; have hw1 := wq133 _ hw0; have hw2 := wq145 _ hw1; first | (exact hw2) | (rw [wub_0 (by omega)]; exact hw2) | (rw [wub_4 (by omega)]; exact hw2)), e151, hI146, hF149, hR150⟩
  · refine r_load (i := 2) (u := 0) (w := 2) rfl rfl rfl ?_
    refine r_const (i := 3) (u := 87) (z := 87) rfl rfl ?_
    refine r_const (i := 4) (u := 4294967295) (z := -1) rfl rfl ?_
    refine r_call (i := 5) (u := 8) (v := 163) (w := 0) (b := 0) (na := 771) (C2 := xC163) (as := [(2, 33), vi 87, vi (-1)]) (s := []) rfl rfl rfl rfl rfl rfl rfl (sp163 (c := 87) (e := -1) hI ⟨by omega, by omega⟩ ⟨by omega, by omega⟩ (by omega)  (by omega)) (fun r156 S157 hq158 => ?_)
    obtain ⟨rfl, h159, wq160, hI161, hF162, hR163⟩ := hq158
    have hF164 := hF.trans hF162 rfl rfl
    have hR165 := hR.trans hR163 rfl
    have e166 := PLx.fr e_PL hF162 hR163 rfl rfl rfl
    have e167 := PTx.fr e_PL hF162 hR163 rfl rfl rfl
    refine Or.inl ⟨rfl, ?_⟩
    refine r_goto (i := 6) (v := 48) rfl ?_
    refine r_load (i := 48) (u := 0) (w := 2) rfl rfl rfl ?_
    refine r_load (i := 49) (u := 1) (w := 0) rfl rfl rfl ?_
    have h168 := hI161.b1
    refine r_call (i := 50) (u := 8) (v := 157) (w := 0) (b := 0) (na := 770) (C2 := xC157) (as := [(2, 33), vi k]) (s := []) rfl rfl rfl rfl rfl rfl rfl (sp157 (k := k) hI161 ⟨by omega, by omega⟩ (by omega)  (by omega)) (fun r169 S170 hq171 => ?_)
    obtain ⟨rfl, h172, wq173, hI174, hF175, hR176⟩ := hq171
    have hF177 := hF164.trans hF175 rfl rfl
    have hR178 := hR165.trans hR176 rfl
    have e179 := PLx.fr e166 hF175 hR176 rfl rfl rfl
    have e180 := PTx.fr e167 hF175 hR176 rfl rfl rfl
    refine Or.inl ⟨rfl, ?_⟩
    have h181 := hI174.b0
    have h182 : S170.f 31 1 = S157.f 31 1 := hF175.f rfl
    have h183 : S157.f 31 1 = S.f 31 1 := hF162.f rfl
    have h184 := hI174.b1
    exact r_ret0 (i := 51) rfl ⟨rfl, (by omega), (by omega), (by intro w9 hw0; have hw1 := wq160 _ hw0; have hw2 := wq173 _ hw1; first | (exact hw2) | (rw [wub_0 (by omega)]; exact hw2) | (rw [wub_4 (by omega)]; exact hw2)), e179, hI174, hF177, hR178⟩
/-- ProxyForge$Writer.rethrow -/
theorem sp169 {G : xk} {S : yS} {d : Nat} (hI : yI S) {l0 : Int} (h_l0 : 0 ≤ l0 ∧ l0 ≤ 20) (p_0 : S.f 31 1 + 150 ≤ 60000) (p_1 : S.f 34 1 + 13 ≤ 60000) (e_PL : PL S) (hd : 8 ≤ d) : yT xPr G LY xC169 0 [some ((2, 33)), some (vi l0)] [] S d (fun r S' => r = (0, (0, 0)) ∧ (S.f 31 1 ≤ S'.f 31 1 ∧ S'.f 31 1 ≤ S.f 31 1 + 150) ∧ (S.f 34 1 ≤ S'.f 34 1 ∧ S'.f 34 1 ≤ S.f 34 1 + 13) ∧ wQ S S' (wre l0) ∧ PL S' ∧ yI S' ∧ yFr [(31, 1), (33, 14), (33, 15), (34, 1), (36, 5)] [37, 100, 101, 102, 103, 105] S S' ∧ yRm [0, 1, 2, 3] S S') := by
  refine yT_pad 0 ?_
  show yT xPr G LY xC169 0 [some ((2, 33)), some (vi l0)] [] S d _
  obtain ⟨d, rfl⟩ : ∃ q, d = q + 1 := ⟨d - 1, by omega⟩
  have hF : yFr [(31, 1), (33, 14), (33, 15), (34, 1), (36, 5)] [37, 100, 101, 102, 103, 105] S S := yFr.refl S
  have hR : yRm [0, 1, 2, 3] S S := yRm.refl S
  have h1 := hI.b0
  have h2 := hI.b1
  refine r_load (i := 0) (u := 0) (w := 2) rfl rfl rfl ?_
  refine r_const (i := 1) (u := 1) (z := 1) rfl rfl ?_
  rw [vi_sg (1)]
  have h3 := ysg_rg (1)
  refine r_putI (i := 2) (v := 14) (w := 8) rfl ly33 rfl ⟨by omega, by omega⟩ ?_
  have hI5 := hI.setf0 (b := 33) (w := 14) (z := ysg 1) rfl rfl
  have hF7 := hF.setf (b := 33) (w := 14) (z := ysg 1) rfl
  have hR8 := hR.setf (b := 33) (w := 14) (z := ysg 1)
  have e9 := PLx.setf e_PL (b := 33) (w := 14) (z := ysg 1) rfl
  have e10 := PTx.setf e_PL (b := 33) (w := 14) (z := ysg 1) rfl
  refine yT_gen (fun S4 hS6 => ?_)
  rw [hS6] at hI5 hF7 hR8 e9 e10
  refine r_load (i := 3) (u := 0) (w := 2) rfl rfl rfl ?_
  refine r_const (i := 4) (u := 191) (z := 191) rfl rfl ?_
  refine r_const (i := 5) (u := 4294967295) (z := -1) rfl rfl ?_
  have h11 := hI5.b1
  have h12 : S4.f 34 1 = S.f 34 1 := by rw [← hS6]; exact ysf_ne (by decide)
  refine r_call (i := 6) (u := 8) (v := 163) (w := 0) (b := 0) (na := 771) (C2 := xC163) (as := [(2, 33), vi 191, vi (-1)]) (s := []) rfl rfl rfl rfl rfl rfl rfl (sp163 (c := 191) (e := -1) hI5 ⟨by omega, by omega⟩ ⟨by omega, by omega⟩ (by omega)  (by omega)) (fun r13 S14 hq15 => ?_)
  obtain ⟨rfl, h16, wq17, hI18, hF19, hR20⟩ := hq15
  have hF21 := hF7.trans hF19 rfl rfl
  have hR22 := hR8.trans hR20 rfl
  have e23 := PLx.fr e9 hF19 hR20 rfl rfl rfl
  have e24 := PTx.fr e10 hF19 hR20 rfl rfl rfl
  refine Or.inl ⟨rfl, ?_⟩
  refine r_load (i := 7) (u := 0) (w := 2) rfl rfl rfl ?_
  refine r_const (i := 8) (u := 1) (z := 1) rfl rfl ?_
  rw [vi_sg (1)]
  have h25 := ysg_rg (1)
  refine r_putI (i := 9) (v := 14) (w := 8) rfl ly33 rfl ⟨by omega, by omega⟩ ?_
  have hI27 := hI18.setf0 (b := 33) (w := 14) (z := ysg 1) rfl rfl
  have hF29 := hF21.setf (b := 33) (w := 14) (z := ysg 1) rfl
  have hR30 := hR22.setf (b := 33) (w := 14) (z := ysg 1)
  have e31 := PLx.setf e23 (b := 33) (w := 14) (z := ysg 1) rfl
  have e32 := PTx.setf e24 (b := 33) (w := 14) (z := ysg 1) rfl
  refine yT_gen (fun S26 hS28 => ?_)
  rw [hS28] at hI27 hF29 hR30 e31 e32
  refine r_load (i := 10) (u := 0) (w := 2) rfl rfl rfl ?_
  refine r_const (i := 11) (u := 58) (z := 58) rfl rfl ?_
  refine r_load (i := 12) (u := 1) (w := 0) rfl rfl rfl ?_
  refine r_const (i := 13) (u := 4294967295) (z := -1) rfl rfl ?_
  have h33 := hI27.b1
  have h34 : S26.f 34 1 = S14.f 34 1 := by rw [← hS28]; exact ysf_ne (by decide)
  refine r_call (i := 14) (u := 8) (v := 164) (w := 0) (b := 0) (na := 1028) (C2 := xC164) (as := [(2, 33), vi 58, vi l0, vi (-1)]) (s := []) rfl rfl rfl rfl rfl rfl rfl (sp164 (c := 58) (o := l0) (e := -1) hI27 ⟨by omega, by omega⟩ ⟨by omega, by omega⟩ ⟨by omega, by omega⟩ (by omega)  (by omega)) (fun r35 S36 hq37 => ?_)
  obtain ⟨rfl, h38, wq39, hI40, hF41, hR42⟩ := hq37
  have hF43 := hF29.trans hF41 rfl rfl
  have hR44 := hR30.trans hR42 rfl
  have e45 := PLx.fr e31 hF41 hR42 rfl rfl rfl
  have e46 := PTx.fr e32 hF41 hR42 rfl rfl rfl
  refine Or.inl ⟨rfl, ?_⟩
  refine r_load (i := 15) (u := 0) (w := 2) rfl rfl rfl ?_
  refine r_const (i := 16) (u := 187) (z := 187) rfl rfl ?_
  refine r_load (i := 17) (u := 0) (w := 2) rfl rfl rfl ?_
  refine r_getf (i := 18) (v := 6) (w := 8) (x := (2, 36)) rfl ly33 rfl rfl fun _ => ?_
  refine r_const (i := 19) (u := 7) (z := 7) rfl rfl ?_
  refine r_load (i := 20) (u := 0) (w := 2) rfl rfl rfl ?_
  refine r_getf (i := 21) (v := 6) (w := 8) (x := (2, 36)) rfl ly33 rfl rfl fun _ => ?_
  refine r_str (i := 22) (v := 34) rfl ?_
  have h49 := slv34
  have h50 := hI40.b0
  have h51 : S36.f 31 1 = S26.f 31 1 := hF41.f rfl
  have h52 : S26.f 31 1 = S14.f 31 1 := by rw [← hS28]; exact ysf_ne (by decide)
  have h53 : S14.f 31 1 = S4.f 31 1 := hF19.f rfl
  have h54 : S4.f 31 1 = S.f 31 1 := by rw [← hS6]; exact ysf_ne (by decide)
  refine r_call (i := 23) (u := 9) (v := 98) (w := 0) (b := 0) (na := 770) (C2 := xC98) (as := [(2, 36), (6, 34)]) (s := [vi 7, (2, 36), vi 187, (2, 33)]) rfl rfl rfl rfl rfl rfl rfl (sp98 (s := 34) hI40 ⟨by decide, by decide⟩ (by omega) e45 (by omega)) (fun r55 S56 hq57 => ?_)
  obtain ⟨z58, rfl, h59, h60, h61, wi62, e63, hI64, hF65, hR66⟩ := hq57
  have hF67 := hF43.trans hF65 rfl rfl
  have hR68 := hR44.trans hR66 rfl
  refine Or.inr (Or.inl ⟨rfl, ?_⟩)
  have h69 := hI64.b0
  refine r_call (i := 24) (u := 9) (v := 97) (w := 0) (b := 0) (na := 1027) (C2 := xC97) (as := [(2, 36), vi 7, vi z58]) (s := [vi 187, (2, 33)]) rfl rfl rfl rfl rfl rfl rfl (sp97 (w0 := 7) (v := z58) hI64 ⟨by omega, by omega⟩ ⟨by omega, by omega⟩ (by omega) e63 (by omega)) (fun r70 S71 hq72 => ?_)
  obtain ⟨z73, rfl, h74, h75, h76, si77, e78, hI79, hF80, hR81⟩ := hq72
  have hF82 := hF67.trans hF80 rfl rfl
  have hR83 := hR68.trans hR81 rfl
  refine Or.inr (Or.inl ⟨rfl, ?_⟩)
  refine r_const (i := 25) (u := 1) (z := 1) rfl rfl ?_
  have h84 := hI79.b1
  have h85 : S71.f 34 1 = S56.f 34 1 := hF80.f rfl
  have h86 : S56.f 34 1 = S36.f 34 1 := hF65.f rfl
  refine r_call (i := 26) (u := 8) (v := 165) (w := 0) (b := 0) (na := 1028) (C2 := xC165) (as := [(2, 33), vi 187, vi z73, vi 1]) (s := []) rfl rfl rfl rfl rfl rfl rfl (sp165 (c := 187) (o := z73) (e := 1) hI79 ⟨by omega, by omega⟩ ⟨by omega, by omega⟩ ⟨by omega, by omega⟩ (by omega)  (by omega)) (fun r87 S88 hq89 => ?_)
  obtain ⟨rfl, h90, wq91, hI92, hF93, hR94⟩ := hq89
  have hF95 := hF82.trans hF93 rfl rfl
  have hR96 := hR83.trans hR94 rfl
  have e97 := PLx.fr e78 hF93 hR94 rfl rfl rfl
  have e98 := PTx.fr e78 hF93 hR94 rfl rfl rfl
  refine Or.inl ⟨rfl, ?_⟩
  refine r_load (i := 27) (u := 0) (w := 2) rfl rfl rfl ?_
  refine r_const (i := 28) (u := 89) (z := 89) rfl rfl ?_
  refine r_const (i := 29) (u := 1) (z := 1) rfl rfl ?_
  have h99 := hI92.b1
  refine r_call (i := 30) (u := 8) (v := 163) (w := 0) (b := 0) (na := 771) (C2 := xC163) (as := [(2, 33), vi 89, vi 1]) (s := []) rfl rfl rfl rfl rfl rfl rfl (sp163 (c := 89) (e := 1) hI92 ⟨by omega, by omega⟩ ⟨by omega, by omega⟩ (by omega)  (by omega)) (fun r100 S101 hq102 => ?_)
  obtain ⟨rfl, h103, wq104, hI105, hF106, hR107⟩ := hq102
  have hF108 := hF95.trans hF106 rfl rfl
  have hR109 := hR96.trans hR107 rfl
  have e110 := PLx.fr e97 hF106 hR107 rfl rfl rfl
  have e111 := PTx.fr e98 hF106 hR107 rfl rfl rfl
  refine Or.inl ⟨rfl, ?_⟩
  refine r_load (i := 31) (u := 0) (w := 2) rfl rfl rfl ?_
  refine r_const (i := 32) (u := 25) (z := 25) rfl rfl ?_
  refine r_load (i := 33) (u := 1) (w := 0) rfl rfl rfl ?_
  refine r_const (i := 34) (u := 1) (z := 1) rfl rfl ?_
  have h112 := hI105.b1
  refine r_call (i := 35) (u := 8) (v := 164) (w := 0) (b := 0) (na := 1028) (C2 := xC164) (as := [(2, 33), vi 25, vi l0, vi 1]) (s := []) rfl rfl rfl rfl rfl rfl rfl (sp164 (c := 25) (o := l0) (e := 1) hI105 ⟨by omega, by omega⟩ ⟨by omega, by omega⟩ ⟨by omega, by omega⟩ (by omega)  (by omega)) (fun r113 S114 hq115 => ?_)
  obtain ⟨rfl, h116, wq117, hI118, hF119, hR120⟩ := hq115
  have hF121 := hF108.trans hF119 rfl rfl
  have hR122 := hR109.trans hR120 rfl
  have e123 := PLx.fr e110 hF119 hR120 rfl rfl rfl
  have e124 := PTx.fr e111 hF119 hR120 rfl rfl rfl
  refine Or.inl ⟨rfl, ?_⟩
  refine r_load (i := 36) (u := 0) (w := 2) rfl rfl rfl ?_
  refine r_const (i := 37) (u := 183) (z := 183) rfl rfl ?_
  refine r_load (i := 38) (u := 0) (w := 2) rfl rfl rfl ?_
  refine r_const (i := 39) (u := 10) (z := 10) rfl rfl ?_
  refine r_str (i := 40) (v := 34) rfl ?_
  have h125 := slv34
  refine r_str (i := 41) (v := 35) rfl ?_
  have h126 := slv35
  refine r_str (i := 42) (v := 36) rfl ?_
  have h127 := slv36
  have h128 := hI118.b0
  have h129 : S114.f 31 1 = S101.f 31 1 := hF119.f rfl
  have h130 : S101.f 31 1 = S88.f 31 1 := hF106.f rfl
  have h131 : S88.f 31 1 = S71.f 31 1 := hF93.f rfl
  refine r_call (i := 43) (u := 8) (v := 160) (w := 0) (b := 0) (na := 2053) (C2 := xC160) (as := [(2, 33), vi 10, (6, 34), (6, 35), (6, 36)]) (s := [vi 183, (2, 33)]) rfl rfl rfl rfl rfl rfl rfl (sp160 (w0 := 10) (s := 34) (s2 := 35) (s3 := 36) hI118 ⟨by omega, by omega⟩ ⟨by decide, by decide⟩ ⟨by decide, by decide⟩ ⟨by decide, by decide⟩ (by omega) e123 (by omega)) (fun r132 S133 hq134 => ?_)
  obtain ⟨z135, rfl, h136, h137, h138, mb139, e140, hI141, hF142, hR143⟩ := hq134
  have hF144 := hF121.trans hF142 rfl rfl
  have hR145 := hR122.trans hR143 rfl
  refine Or.inr (Or.inl ⟨rfl, ?_⟩)
  refine r_const (i := 44) (u := 4294967294) (z := -2) rfl rfl ?_
  have h146 := hI141.b1
  have h147 : S133.f 34 1 = S114.f 34 1 := hF142.f rfl
  refine r_call (i := 45) (u := 8) (v := 165) (w := 0) (b := 0) (na := 1028) (C2 := xC165) (as := [(2, 33), vi 183, vi z135, vi (-2)]) (s := []) rfl rfl rfl rfl rfl rfl rfl (sp165 (c := 183) (o := z135) (e := -2) hI141 ⟨by omega, by omega⟩ ⟨by omega, by omega⟩ ⟨by omega, by omega⟩ (by omega)  (by omega)) (fun r148 S149 hq150 => ?_)
  obtain ⟨rfl, h151, wq152, hI153, hF154, hR155⟩ := hq150
  have hF156 := hF144.trans hF154 rfl rfl
  have hR157 := hR145.trans hR155 rfl
  have e158 := PLx.fr e140 hF154 hR155 rfl rfl rfl
  have e159 := PTx.fr e140 hF154 hR155 rfl rfl rfl
  refine Or.inl ⟨rfl, ?_⟩
  refine r_load (i := 46) (u := 0) (w := 2) rfl rfl rfl ?_
  refine r_const (i := 47) (u := 191) (z := 191) rfl rfl ?_
  refine r_const (i := 48) (u := 4294967295) (z := -1) rfl rfl ?_
  have h160 := hI153.b1
  refine r_call (i := 49) (u := 8) (v := 163) (w := 0) (b := 0) (na := 771) (C2 := xC163) (as := [(2, 33), vi 191, vi (-1)]) (s := []) rfl rfl rfl rfl rfl rfl rfl (sp163 (c := 191) (e := -1) hI153 ⟨by omega, by omega⟩ ⟨by omega, by omega⟩ (by omega)  (by omega)) (fun r161 S162 hq163 => ?_)
  obtain ⟨rfl, h164, wq165, hI166, hF167, hR168⟩ := hq163
  have hF169 := hF156.trans hF167 rfl rfl
  have hR170 := hR157.trans hR168 rfl
  have e171 := PLx.fr e158 hF167 hR168 rfl rfl rfl
  have e172 := PTx.fr e159 hF167 hR168 rfl rfl rfl
  refine Or.inl ⟨rfl, ?_⟩
  have h173 := hI166.b0
  have h174 : S162.f 31 1 = S149.f 31 1 := hF167.f rfl
  have h175 : S149.f 31 1 = S133.f 31 1 := hF154.f rfl
  have h176 := hI166.b1
  exact r_ret0 (i := 50) rfl ⟨rfl, (by omega), (by omega), (by intro w9 hw0; have hw1 := wQ_14 hS6 _ hw0; have hw2 := wq17 _ hw1; have hw3 := wQ_14 hS28 _ hw2; have hw4 := wq39 _ hw3; obtain ⟨hw5, ew5⟩ := wi62 _ hw4; obtain ⟨hw6, ew6⟩ := si77 rfl (by omega) (by omega) _ hw5; have hw7 := wq91 _ hw6; have hw8 := wq104 _ hw7; have hw9 := wq117 _ hw8; obtain ⟨hw10, ew10⟩ := mb139 (by decide) (by decide) _ hw9; have hw11 := wq152 _ hw10; have hw12 := wq165 _ hw11; subst ew5; subst ew6; subst ew10; first | (exact hw12)), e171, hI166, hF169, hR170⟩
/-- ProxyForge$Writer.head -/
theorem sp156 {G : xk} {S : yS} {d : Nat} (hI : yI S) {m : Int} (h_m : 0 ≤ m ∧ m ≤ 59) {mo : Int} (h_mo : 0 ≤ mo ∧ mo ≤ 100) {s : Nat} (h_s : yStr s) {at0 : Int} (h_at0 : -2147483648 ≤ at0 ∧ at0 ≤ 2147483647) (p_0 : S.f 31 1 + (154 + slen s) ≤ 60000) (p_1 : S.f 34 1 + 8 ≤ 60000) (e_PL : PL S) (hd : 8 ≤ d) : yT xPr G LY xC156 0 [some ((2, 33)), some (vi m), some (vi mo), some ((6, s)), some (vi at0)] [] S d (fun r S' => r = (0, (0, 0)) ∧ (S.f 31 1 ≤ S'.f 31 1 ∧ S'.f 31 1 ≤ S.f 31 1 + (154 + slen s)) ∧ (S.f 34 1 ≤ S'.f 34 1 ∧ S'.f 34 1 ≤ S.f 34 1 + 8) ∧ wQ S S' (whd (acX (S.a 12 m.toNat) + mo) (nmL (S.a 11 m.toNat)) (dsL (pkR 4 S) (strl s) (S.a 13 m.toNat) (S.a 14 m.toNat)) at0) ∧ PL S' ∧ yI S' ∧ yFr [(31, 1), (33, 10), (33, 11), (34, 1), (36, 5)] [37, 100, 101, 102, 103, 105] S S' ∧ yRm [0, 1, 2, 3] S S') := by
  refine yT_pad 1 ?_
  show yT xPr G LY xC156 0 [some ((2, 33)), some (vi m), some (vi mo), some ((6, s)), some (vi at0), none] [] S d _
  obtain ⟨d, rfl⟩ : ∃ q, d = q + 1 := ⟨d - 1, by omega⟩
  have hF : yFr [(31, 1), (33, 10), (33, 11), (34, 1), (36, 5)] [37, 100, 101, 102, 103, 105] S S := yFr.refl S
  have hR : yRm [0, 1, 2, 3] S S := yRm.refl S
  have h1 := hI.b0
  have h2 := hI.b1
  have sl9 := slen_le h_s
  have ha9 := hI.a ta12 m.toNat
  refine r_load (i := 0) (u := 0) (w := 2) rfl rfl rfl ?_
  refine r_getf (i := 1) (v := 1) (w := 8) (x := (2, 9)) rfl ly33 rfl rfl fun _ => ?_
  refine r_load (i := 2) (u := 1) (w := 0) rfl rfl rfl ?_
  refine r_const (i := 3) (u := 1) (z := 1) rfl rfl ?_
  have h4 := hI.a ta12 m.toNat
  have h5 := hI.a ta12 m.toNat
  refine r_call (i := 4) (u := 2) (v := 76) (w := 0) (b := 0) (na := 771) (C2 := xC76) (as := [(2, 9), vi m, vi 1]) (s := []) rfl rfl rfl rfl rfl rfl rfl (sp76 (m := m) (fl := 1) hI ⟨by omega, by omega⟩ ⟨by omega, by omega⟩   (by omega)) (fun r6 S7 hq8 => ?_)
  obtain ⟨z9, rfl, h10, h11, h12, h13, rfl⟩ := hq8
  refine Or.inr (Or.inl ⟨rfl, ?_⟩)
  refine z_eq (i := 5) (v := 8) rfl ⟨by omega, by omega⟩ (fun h14 => ?_) (fun h15 => ?_)
  · refine r_const (i := 8) (u := 0) (z := 0) rfl rfl ?_
    refine r_store (i := 9) (u := 5) (w := 0) (L1 := [some ((2, 33)), some (vi m), some (vi mo), some ((6, s)), some (vi at0), some (vi 0)]) rfl rfl rfl rfl ?_
    refine r_load (i := 10) (u := 0) (w := 2) rfl rfl rfl ?_
    refine r_getf (i := 11) (v := 1) (w := 8) (x := (2, 9)) rfl ly33 rfl rfl fun _ => ?_
    refine r_load (i := 12) (u := 1) (w := 0) rfl rfl rfl ?_
    refine r_const (i := 13) (u := 2) (z := 2) rfl rfl ?_
    have h17 := hI.a ta12 m.toNat
    have h18 := hI.a ta12 m.toNat
    refine r_call (i := 14) (u := 2) (v := 76) (w := 0) (b := 0) (na := 771) (C2 := xC76) (as := [(2, 9), vi m, vi 2]) (s := []) rfl rfl rfl rfl rfl rfl rfl (sp76 (m := m) (fl := 2) hI ⟨by omega, by omega⟩ ⟨by omega, by omega⟩   (by omega)) (fun r19 S20 hq21 => ?_)
    obtain ⟨z22, rfl, h23, h24, h25, h26, rfl⟩ := hq21
    refine Or.inr (Or.inl ⟨rfl, ?_⟩)
    refine z_eq (i := 15) (v := 18) rfl ⟨by omega, by omega⟩ (fun h27 => ?_) (fun h28 => ?_)
    · refine r_load (i := 18) (u := 0) (w := 2) rfl rfl rfl ?_
      refine r_load (i := 19) (u := 0) (w := 2) rfl rfl rfl ?_
      refine r_getf (i := 20) (v := 6) (w := 8) (x := (2, 36)) rfl ly33 rfl rfl fun _ => ?_
      refine r_load (i := 21) (u := 0) (w := 2) rfl rfl rfl ?_
      refine r_getf (i := 22) (v := 1) (w := 8) (x := (2, 9)) rfl ly33 rfl rfl fun _ => ?_
      refine r_getf (i := 23) (v := 2) (w := 2) (x := (2, 11)) rfl ly9 rfl rfl fun _ => ?_
      refine r_load (i := 24) (u := 1) (w := 0) rfl rfl rfl ?_
      refine a_int (i := 25) rfl ly11 rfl (by omega) (by omega) fun h32 => ?_
      have h33 := hI.a ta11 m.toNat
      refine r_call (i := 26) (u := 9) (v := 93) (w := 0) (b := 0) (na := 770) (C2 := xC93) (as := [(2, 36), vi (S.a 11 m.toNat)]) (s := [(2, 33)]) rfl rfl rfl rfl rfl rfl rfl (sp93 (w0 := S.a 11 m.toNat) hI ⟨by omega, by omega⟩ (by omega) e_PL (by omega)) (fun r34 S35 hq36 => ?_)
      obtain ⟨z37, rfl, h38, h39, h40, wi41, e42, hI43, hF44, hR45⟩ := hq36
      have hF46 := hF.trans hF44 rfl rfl
      have hR47 := hR.trans hR45 rfl
      refine Or.inr (Or.inl ⟨rfl, ?_⟩)
      refine r_putI (i := 27) (v := 10) (w := 8) rfl ly33 rfl ⟨by omega, by omega⟩ ?_
      have hI49 := hI43.setf0 (b := 33) (w := 10) (z := z37) rfl rfl
      have hF51 := hF46.setf (b := 33) (w := 10) (z := z37) rfl
      have hR52 := hR47.setf (b := 33) (w := 10) (z := z37)
      have e53 := PLx.setf e42 (b := 33) (w := 10) (z := z37) rfl
      have e54 := PTx.setf e42 (b := 33) (w := 10) (z := z37) rfl
      refine yT_gen (fun S48 hS50 => ?_)
      rw [hS50] at hI49 hF51 hR52 e53 e54
      refine r_load (i := 28) (u := 0) (w := 2) rfl rfl rfl ?_
      refine r_load (i := 29) (u := 0) (w := 2) rfl rfl rfl ?_
      refine r_getf (i := 30) (v := 6) (w := 8) (x := (2, 36)) rfl ly33 rfl rfl fun _ => ?_
      refine r_load (i := 31) (u := 3) (w := 2) rfl rfl rfl ?_
      refine r_load (i := 32) (u := 0) (w := 2) rfl rfl rfl ?_
      refine r_getf (i := 33) (v := 1) (w := 8) (x := (2, 9)) rfl ly33 rfl rfl fun _ => ?_
      refine r_getf (i := 34) (v := 4) (w := 2) (x := (2, 13)) rfl ly9 rfl rfl fun _ => ?_
      refine r_load (i := 35) (u := 1) (w := 0) rfl rfl rfl ?_
      refine a_int (i := 36) rfl ly13 rfl (by omega) (by omega) fun h58 => ?_
      have kp59 := hI49.k13 m.toNat
      have h60 : S48.a 13 m.toNat = S35.a 13 m.toNat := by rw [← hS50]; rfl
      have h61 : S35.a 13 m.toNat = S.a 13 m.toNat := hF44.a rfl _
      refine r_load (i := 37) (u := 0) (w := 2) rfl rfl rfl ?_
      refine r_getf (i := 38) (v := 1) (w := 8) (x := (2, 9)) rfl ly33 rfl rfl fun _ => ?_
      refine r_getf (i := 39) (v := 5) (w := 2) (x := (2, 14)) rfl ly9 rfl rfl fun _ => ?_
      refine r_load (i := 40) (u := 1) (w := 0) rfl rfl rfl ?_
      refine a_int (i := 41) rfl ly14 rfl (by omega) (by omega) fun h64 => ?_
      have h65 := hI49.a ta14 m.toNat
      have h66 : S48.a 14 m.toNat = S35.a 14 m.toNat := by rw [← hS50]; rfl
      have h67 : S35.a 14 m.toNat = S.a 14 m.toNat := hF44.a rfl _
      have h68 := hI49.b0
      have h69 : S48.f 31 1 = S35.f 31 1 := by rw [← hS50]; exact ysf_ne (by decide)
      refine r_call (i := 42) (u := 9) (v := 91) (w := 0) (b := 0) (na := 1796) (C2 := xC91) (as := [(2, 36), (6, s), vi (S48.a 13 m.toNat), vi (S48.a 14 m.toNat)]) (s := [(2, 33)]) rfl rfl rfl rfl rfl rfl rfl (sp91 (s := s) (p := S48.a 13 m.toNat) (r0 := S48.a 14 m.toNat) hI49 h_s ⟨by omega, by omega⟩ ⟨by omega, by omega⟩ (by omega) (by first | assumption | exact (hI49).k13 _) e53 (by omega)) (fun r70 S71 hq72 => ?_)
      obtain ⟨z73, rfl, h74, h75, h76, wi77, e78, hI79, hF80, hR81⟩ := hq72
      have hF82 := hF51.trans hF80 rfl rfl
      have hR83 := hR52.trans hR81 rfl
      refine Or.inr (Or.inl ⟨rfl, ?_⟩)
      refine r_putI (i := 43) (v := 11) (w := 8) rfl ly33 rfl ⟨by omega, by omega⟩ ?_
      have hI85 := hI79.setf0 (b := 33) (w := 11) (z := z73) rfl rfl
      have hF87 := hF82.setf (b := 33) (w := 11) (z := z73) rfl
      have hR88 := hR83.setf (b := 33) (w := 11) (z := z73)
      have e89 := PLx.setf e78 (b := 33) (w := 11) (z := z73) rfl
      have e90 := PTx.setf e78 (b := 33) (w := 11) (z := z73) rfl
      refine yT_gen (fun S84 hS86 => ?_)
      rw [hS86] at hI85 hF87 hR88 e89 e90
      refine r_load (i := 44) (u := 0) (w := 2) rfl rfl rfl ?_
      refine r_getf (i := 45) (v := 5) (w := 8) (x := (2, 34)) rfl ly33 rfl rfl fun _ => ?_
      refine r_load (i := 46) (u := 5) (w := 0) rfl rfl rfl ?_
      refine r_load (i := 47) (u := 2) (w := 0) rfl rfl rfl ?_
      refine r_iadd (i := 48) rfl ?_
      have h92 := hI85.b1
      have h93 : S84.f 34 1 = S71.f 34 1 := by rw [← hS86]; exact ysf_ne (by decide)
      have h94 : S71.f 34 1 = S48.f 34 1 := hF80.f rfl
      have h95 : S48.f 34 1 = S35.f 34 1 := by rw [← hS50]; exact ysf_ne (by decide)
      have h96 : S35.f 34 1 = S.f 34 1 := hF44.f rfl
      refine r_call (i := 49) (u := 7) (v := 36) (w := 0) (b := 0) (na := 514) (C2 := xC36) (as := [(2, 34), vi (0 + mo)]) (s := []) rfl rfl rfl rfl rfl rfl rfl (sp36_34 (b := 0 + mo) hI85 ⟨by omega, by omega⟩ (by omega)  (by omega)) (fun r97 S98 hq99 => ?_)
      obtain ⟨rfl, h100, btw101, hI102, hF103, hR104⟩ := hq99
      have hF105 := hF87.trans hF103 rfl rfl
      have hR106 := hR88.trans hR104 rfl
      have e107 := PLx.fr e89 hF103 hR104 rfl rfl rfl
      have e108 := PTx.fr e90 hF103 hR104 rfl rfl rfl
      refine Or.inl ⟨rfl, ?_⟩
      refine r_load (i := 50) (u := 0) (w := 2) rfl rfl rfl ?_
      refine r_getf (i := 51) (v := 5) (w := 8) (x := (2, 34)) rfl ly33 rfl rfl fun _ => ?_
      refine r_load (i := 52) (u := 0) (w := 2) rfl rfl rfl ?_
      have h110 : S98.f 33 10 = S84.f 33 10 := hF103.f rfl
      have h111 : S84.f 33 10 = S71.f 33 10 := by rw [← hS86]; exact ysf_ne (by decide)
      have h112 : S71.f 33 10 = S48.f 33 10 := hF80.f rfl
      have h113 : S48.f 33 10 = z37 := by rw [← hS50]; exact ysf_eq
      refine r_getf (i := 53) (v := 10) (w := 8) (x := vi (S98.f 33 10)) rfl ly33 rfl rfl fun h114 => ?_
      have h114 : Rg (S98.f 33 10) := h114
      have h115 := hI102.b1
      refine r_call (i := 54) (u := 7) (v := 36) (w := 0) (b := 0) (na := 514) (C2 := xC36) (as := [(2, 34), vi (S98.f 33 10)]) (s := []) rfl rfl rfl rfl rfl rfl rfl (sp36_34 (b := S98.f 33 10) hI102 ⟨by omega, by omega⟩ (by omega)  (by omega)) (fun r116 S117 hq118 => ?_)
      obtain ⟨rfl, h119, btw120, hI121, hF122, hR123⟩ := hq118
      have hF124 := hF105.trans hF122 rfl rfl
      have hR125 := hR106.trans hR123 rfl
      have e126 := PLx.fr e107 hF122 hR123 rfl rfl rfl
      have e127 := PTx.fr e108 hF122 hR123 rfl rfl rfl
      refine Or.inl ⟨rfl, ?_⟩
      refine r_load (i := 55) (u := 0) (w := 2) rfl rfl rfl ?_
      refine r_getf (i := 56) (v := 5) (w := 8) (x := (2, 34)) rfl ly33 rfl rfl fun _ => ?_
      refine r_load (i := 57) (u := 0) (w := 2) rfl rfl rfl ?_
      have h129 : S117.f 33 11 = S98.f 33 11 := hF122.f rfl
      have h130 : S98.f 33 11 = S84.f 33 11 := hF103.f rfl
      have h131 : S84.f 33 11 = z73 := by rw [← hS86]; exact ysf_eq
      refine r_getf (i := 58) (v := 11) (w := 8) (x := vi (S117.f 33 11)) rfl ly33 rfl rfl fun h132 => ?_
      have h132 : Rg (S117.f 33 11) := h132
      have h133 := hI121.b1
      refine r_call (i := 59) (u := 7) (v := 36) (w := 0) (b := 0) (na := 514) (C2 := xC36) (as := [(2, 34), vi (S117.f 33 11)]) (s := []) rfl rfl rfl rfl rfl rfl rfl (sp36_34 (b := S117.f 33 11) hI121 ⟨by omega, by omega⟩ (by omega)  (by omega)) (fun r134 S135 hq136 => ?_)
      obtain ⟨rfl, h137, btw138, hI139, hF140, hR141⟩ := hq136
      have hF142 := hF124.trans hF140 rfl rfl
      have hR143 := hR125.trans hR141 rfl
      have e144 := PLx.fr e126 hF140 hR141 rfl rfl rfl
      have e145 := PTx.fr e127 hF140 hR141 rfl rfl rfl
      refine Or.inl ⟨rfl, ?_⟩
      refine r_load (i := 60) (u := 0) (w := 2) rfl rfl rfl ?_
      refine r_getf (i := 61) (v := 5) (w := 8) (x := (2, 34)) rfl ly33 rfl rfl fun _ => ?_
      refine r_load (i := 62) (u := 4) (w := 0) rfl rfl rfl ?_
      have h147 := hI139.b1
      refine r_call (i := 63) (u := 7) (v := 36) (w := 0) (b := 0) (na := 514) (C2 := xC36) (as := [(2, 34), vi at0]) (s := []) rfl rfl rfl rfl rfl rfl rfl (sp36_34 (b := at0) hI139 ⟨by omega, by omega⟩ (by omega)  (by omega)) (fun r148 S149 hq150 => ?_)
      obtain ⟨rfl, h151, btw152, hI153, hF154, hR155⟩ := hq150
      have hF156 := hF142.trans hF154 rfl rfl
      have hR157 := hR143.trans hR155 rfl
      have e158 := PLx.fr e144 hF154 hR155 rfl rfl rfl
      have e159 := PTx.fr e145 hF154 hR155 rfl rfl rfl
      refine Or.inl ⟨rfl, ?_⟩
      have h160 := hI153.b0
      have h161 : S149.f 31 1 = S135.f 31 1 := hF154.f rfl
      have h162 : S135.f 31 1 = S117.f 31 1 := hF140.f rfl
      have h163 : S117.f 31 1 = S98.f 31 1 := hF122.f rfl
      have h164 : S98.f 31 1 = S84.f 31 1 := hF103.f rfl
      have h165 : S84.f 31 1 = S71.f 31 1 := by rw [← hS86]; exact ysf_ne (by decide)
      have h166 := hI153.b1
      have h167 := hI153.a ta12 m.toNat
      have h168 : S149.a 12 m.toNat = S135.a 12 m.toNat := hF154.a rfl _
      have h169 : S135.a 12 m.toNat = S117.a 12 m.toNat := hF140.a rfl _
      have h170 : S117.a 12 m.toNat = S98.a 12 m.toNat := hF122.a rfl _
      have h171 : S98.a 12 m.toNat = S84.a 12 m.toNat := hF103.a rfl _
      have h172 : S84.a 12 m.toNat = S71.a 12 m.toNat := by rw [← hS86]; rfl
      have h173 : S71.a 12 m.toNat = S48.a 12 m.toNat := hF80.a rfl _
      have h174 := hI153.a ta11 m.toNat
      have h175 : S149.a 11 m.toNat = S135.a 11 m.toNat := hF154.a rfl _
      have h176 : S135.a 11 m.toNat = S117.a 11 m.toNat := hF140.a rfl _
      have h177 : S117.a 11 m.toNat = S98.a 11 m.toNat := hF122.a rfl _
      have h178 : S98.a 11 m.toNat = S84.a 11 m.toNat := hF103.a rfl _
      have h179 : S84.a 11 m.toNat = S71.a 11 m.toNat := by rw [← hS86]; rfl
      have h180 : S71.a 11 m.toNat = S48.a 11 m.toNat := hF80.a rfl _
      have h181 : S149.a 13 m.toNat = S135.a 13 m.toNat := hF154.a rfl _
      have h182 : S135.a 13 m.toNat = S117.a 13 m.toNat := hF140.a rfl _
      have h183 : S117.a 13 m.toNat = S98.a 13 m.toNat := hF122.a rfl _
      have h184 : S98.a 13 m.toNat = S84.a 13 m.toNat := hF103.a rfl _
      have h185 : S84.a 13 m.toNat = S71.a 13 m.toNat := by rw [← hS86]; rfl
      have h186 : S71.a 13 m.toNat = S48.a 13 m.toNat := hF80.a rfl _
      have h187 := hI153.a ta14 m.toNat
      have h188 : S149.a 14 m.toNat = S135.a 14 m.toNat := hF154.a rfl _
      have h189 : S135.a 14 m.toNat = S117.a 14 m.toNat := hF140.a rfl _
      have h190 : S117.a 14 m.toNat = S98.a 14 m.toNat := hF122.a rfl _
      have h191 : S98.a 14 m.toNat = S84.a 14 m.toNat := hF103.a rfl _
      have h192 : S84.a 14 m.toNat = S71.a 14 m.toNat := by rw [← hS86]; rfl
      have h193 : S71.a 14 m.toNat = S48.a 14 m.toNat := hF80.a rfl _
      exact r_ret0 (i := 64) rfl ⟨rfl, (by omega), (by omega), (by intro w9 hw0; obtain ⟨hw1, ew1⟩ := wi41 _ hw0; have hw2 := wQ_10 hS50 hw1 ew1; obtain ⟨hw3, ew3⟩ := wi77 _ hw2; have hw4 := wQ_11 hS86 hw3 ew3; have hw5 := wQ_by btw101 (sFl_fr hF103 rfl rfl) (sDp_fr hF103 rfl) _ hw4; have hw6 := wQ_by btw120 (sFl_fr hF122 rfl rfl) (sDp_fr hF122 rfl) _ hw5; have hw7 := wQ_by btw138 (sFl_fr hF140 rfl rfl) (sDp_fr hF140 rfl) _ hw6; have hw8 := wQ_by btw152 (sFl_fr hF154 rfl rfl) (sDp_fr hF154 rfl) _ hw7; exact cW_c hw8 (whd_eq (by first | exact ac_4 (by omega) | exact ac_1 (by omega) (by omega) | exact ac_0 (by omega) (by omega)) rfl (dsL_c ((show pkR 4 S48 = pkR 4 S35 by rw [← hS50]; rfl).trans (pkR_fr (b := 4) hF44 rfl)) (by omega) (by omega)) (by omega) (by omega))), e158, hI153, hF156, hR157⟩
    · refine r_const (i := 16) (u := 4) (z := 4) rfl rfl ?_
      refine r_store (i := 17) (u := 5) (w := 0) (L1 := [some ((2, 33)), some (vi m), some (vi mo), some ((6, s)), some (vi at0), some (vi 4)]) rfl rfl rfl rfl ?_
      refine r_load (i := 18) (u := 0) (w := 2) rfl rfl rfl ?_
      refine r_load (i := 19) (u := 0) (w := 2) rfl rfl rfl ?_
      refine r_getf (i := 20) (v := 6) (w := 8) (x := (2, 36)) rfl ly33 rfl rfl fun _ => ?_
      refine r_load (i := 21) (u := 0) (w := 2) rfl rfl rfl ?_
      refine r_getf (i := 22) (v := 1) (w := 8) (x := (2, 9)) rfl ly33 rfl rfl fun _ => ?_
      refine r_getf (i := 23) (v := 2) (w := 2) (x := (2, 11)) rfl ly9 rfl rfl fun _ => ?_
      refine r_load (i := 24) (u := 1) (w := 0) rfl rfl rfl ?_
      refine a_int (i := 25) rfl ly11 rfl (by omega) (by omega) fun h197 => ?_
      have h198 := hI.a ta11 m.toNat
      refine r_call (i := 26) (u := 9) (v := 93) (w := 0) (b := 0) (na := 770) (C2 := xC93) (as := [(2, 36), vi (S.a 11 m.toNat)]) (s := [(2, 33)]) rfl rfl rfl rfl rfl rfl rfl (sp93 (w0 := S.a 11 m.toNat) hI ⟨by omega, by omega⟩ (by omega) e_PL (by omega)) (fun r199 S200 hq201 => ?_)
      obtain ⟨z202, rfl, h203, h204, h205, wi206, e207, hI208, hF209, hR210⟩ := hq201
      have hF211 := hF.trans hF209 rfl rfl
      have hR212 := hR.trans hR210 rfl
      refine Or.inr (Or.inl ⟨rfl, ?_⟩)
      refine r_putI (i := 27) (v := 10) (w := 8) rfl ly33 rfl ⟨by omega, by omega⟩ ?_
      have hI214 := hI208.setf0 (b := 33) (w := 10) (z := z202) rfl rfl
      have hF216 := hF211.setf (b := 33) (w := 10) (z := z202) rfl
      have hR217 := hR212.setf (b := 33) (w := 10) (z := z202)
      have e218 := PLx.setf e207 (b := 33) (w := 10) (z := z202) rfl
      have e219 := PTx.setf e207 (b := 33) (w := 10) (z := z202) rfl
      refine yT_gen (fun S213 hS215 => ?_)
      rw [hS215] at hI214 hF216 hR217 e218 e219
      refine r_load (i := 28) (u := 0) (w := 2) rfl rfl rfl ?_
      refine r_load (i := 29) (u := 0) (w := 2) rfl rfl rfl ?_
      refine r_getf (i := 30) (v := 6) (w := 8) (x := (2, 36)) rfl ly33 rfl rfl fun _ => ?_
      refine r_load (i := 31) (u := 3) (w := 2) rfl rfl rfl ?_
      refine r_load (i := 32) (u := 0) (w := 2) rfl rfl rfl ?_
      refine r_getf (i := 33) (v := 1) (w := 8) (x := (2, 9)) rfl ly33 rfl rfl fun _ => ?_
      refine r_getf (i := 34) (v := 4) (w := 2) (x := (2, 13)) rfl ly9 rfl rfl fun _ => ?_
      refine r_load (i := 35) (u := 1) (w := 0) rfl rfl rfl ?_
      refine a_int (i := 36) rfl ly13 rfl (by omega) (by omega) fun h223 => ?_
      have kp224 := hI214.k13 m.toNat
      have h225 : S213.a 13 m.toNat = S200.a 13 m.toNat := by rw [← hS215]; rfl
      have h226 : S200.a 13 m.toNat = S.a 13 m.toNat := hF209.a rfl _
      refine r_load (i := 37) (u := 0) (w := 2) rfl rfl rfl ?_
      refine r_getf (i := 38) (v := 1) (w := 8) (x := (2, 9)) rfl ly33 rfl rfl fun _ => ?_
      refine r_getf (i := 39) (v := 5) (w := 2) (x := (2, 14)) rfl ly9 rfl rfl fun _ => ?_
      refine r_load (i := 40) (u := 1) (w := 0) rfl rfl rfl ?_
      refine a_int (i := 41) rfl ly14 rfl (by omega) (by omega) fun h229 => ?_
      have h230 := hI214.a ta14 m.toNat
      have h231 : S213.a 14 m.toNat = S200.a 14 m.toNat := by rw [← hS215]; rfl
      have h232 : S200.a 14 m.toNat = S.a 14 m.toNat := hF209.a rfl _
      have h233 := hI214.b0
      have h234 : S213.f 31 1 = S200.f 31 1 := by rw [← hS215]; exact ysf_ne (by decide)
      refine r_call (i := 42) (u := 9) (v := 91) (w := 0) (b := 0) (na := 1796) (C2 := xC91) (as := [(2, 36), (6, s), vi (S213.a 13 m.toNat), vi (S213.a 14 m.toNat)]) (s := [(2, 33)]) rfl rfl rfl rfl rfl rfl rfl (sp91 (s := s) (p := S213.a 13 m.toNat) (r0 := S213.a 14 m.toNat) hI214 h_s ⟨by omega, by omega⟩ ⟨by omega, by omega⟩ (by omega) (by first | assumption | exact (hI214).k13 _) e218 (by omega)) (fun r235 S236 hq237 => ?_)
      obtain ⟨z238, rfl, h239, h240, h241, wi242, e243, hI244, hF245, hR246⟩ := hq237
      have hF247 := hF216.trans hF245 rfl rfl
      have hR248 := hR217.trans hR246 rfl
      refine Or.inr (Or.inl ⟨rfl, ?_⟩)
      refine r_putI (i := 43) (v := 11) (w := 8) rfl ly33 rfl ⟨by omega, by omega⟩ ?_
      have hI250 := hI244.setf0 (b := 33) (w := 11) (z := z238) rfl rfl
      have hF252 := hF247.setf (b := 33) (w := 11) (z := z238) rfl
      have hR253 := hR248.setf (b := 33) (w := 11) (z := z238)
      have e254 := PLx.setf e243 (b := 33) (w := 11) (z := z238) rfl
      have e255 := PTx.setf e243 (b := 33) (w := 11) (z := z238) rfl
      refine yT_gen (fun S249 hS251 => ?_)
      rw [hS251] at hI250 hF252 hR253 e254 e255
      refine r_load (i := 44) (u := 0) (w := 2) rfl rfl rfl ?_
      refine r_getf (i := 45) (v := 5) (w := 8) (x := (2, 34)) rfl ly33 rfl rfl fun _ => ?_
      refine r_load (i := 46) (u := 5) (w := 0) rfl rfl rfl ?_
      refine r_load (i := 47) (u := 2) (w := 0) rfl rfl rfl ?_
      refine r_iadd (i := 48) rfl ?_
      have h257 := hI250.b1
      have h258 : S249.f 34 1 = S236.f 34 1 := by rw [← hS251]; exact ysf_ne (by decide)
      have h259 : S236.f 34 1 = S213.f 34 1 := hF245.f rfl
      have h260 : S213.f 34 1 = S200.f 34 1 := by rw [← hS215]; exact ysf_ne (by decide)
      have h261 : S200.f 34 1 = S.f 34 1 := hF209.f rfl
      refine r_call (i := 49) (u := 7) (v := 36) (w := 0) (b := 0) (na := 514) (C2 := xC36) (as := [(2, 34), vi (4 + mo)]) (s := []) rfl rfl rfl rfl rfl rfl rfl (sp36_34 (b := 4 + mo) hI250 ⟨by omega, by omega⟩ (by omega)  (by omega)) (fun r262 S263 hq264 => ?_)
      obtain ⟨rfl, h265, btw266, hI267, hF268, hR269⟩ := hq264
      have hF270 := hF252.trans hF268 rfl rfl
      have hR271 := hR253.trans hR269 rfl
      have e272 := PLx.fr e254 hF268 hR269 rfl rfl rfl
      have e273 := PTx.fr e255 hF268 hR269 rfl rfl rfl
      refine Or.inl ⟨rfl, ?_⟩
      refine r_load (i := 50) (u := 0) (w := 2) rfl rfl rfl ?_
      refine r_getf (i := 51) (v := 5) (w := 8) (x := (2, 34)) rfl ly33 rfl rfl fun _ => ?_
      refine r_load (i := 52) (u := 0) (w := 2) rfl rfl rfl ?_
      have h275 : S263.f 33 10 = S249.f 33 10 := hF268.f rfl
      have h276 : S249.f 33 10 = S236.f 33 10 := by rw [← hS251]; exact ysf_ne (by decide)
      have h277 : S236.f 33 10 = S213.f 33 10 := hF245.f rfl
      have h278 : S213.f 33 10 = z202 := by rw [← hS215]; exact ysf_eq
      refine r_getf (i := 53) (v := 10) (w := 8) (x := vi (S263.f 33 10)) rfl ly33 rfl rfl fun h279 => ?_
      have h279 : Rg (S263.f 33 10) := h279
      have h280 := hI267.b1
      refine r_call (i := 54) (u := 7) (v := 36) (w := 0) (b := 0) (na := 514) (C2 := xC36) (as := [(2, 34), vi (S263.f 33 10)]) (s := []) rfl rfl rfl rfl rfl rfl rfl (sp36_34 (b := S263.f 33 10) hI267 ⟨by omega, by omega⟩ (by omega)  (by omega)) (fun r281 S282 hq283 => ?_)
      obtain ⟨rfl, h284, btw285, hI286, hF287, hR288⟩ := hq283
      have hF289 := hF270.trans hF287 rfl rfl
      have hR290 := hR271.trans hR288 rfl
      have e291 := PLx.fr e272 hF287 hR288 rfl rfl rfl
      have e292 := PTx.fr e273 hF287 hR288 rfl rfl rfl
      refine Or.inl ⟨rfl, ?_⟩
      refine r_load (i := 55) (u := 0) (w := 2) rfl rfl rfl ?_
      refine r_getf (i := 56) (v := 5) (w := 8) (x := (2, 34)) rfl ly33 rfl rfl fun _ => ?_
      refine r_load (i := 57) (u := 0) (w := 2) rfl rfl rfl ?_
      have h294 : S282.f 33 11 = S263.f 33 11 := hF287.f rfl
      have h295 : S263.f 33 11 = S249.f 33 11 := hF268.f rfl
      have h296 : S249.f 33 11 = z238 := by rw [← hS251]; exact ysf_eq
      refine r_getf (i := 58) (v := 11) (w := 8) (x := vi (S282.f 33 11)) rfl ly33 rfl rfl fun h297 => ?_
      have h297 : Rg (S282.f 33 11) := h297
      have h298 := hI286.b1
      refine r_call (i := 59) (u := 7) (v := 36) (w := 0) (b := 0) (na := 514) (C2 := xC36) (as := [(2, 34), vi (S282.f 33 11)]) (s := []) rfl rfl rfl rfl rfl rfl rfl (sp36_34 (b := S282.f 33 11) hI286 ⟨by omega, by omega⟩ (by omega)  (by omega)) (fun r299 S300 hq301 => ?_)
      obtain ⟨rfl, h302, btw303, hI304, hF305, hR306⟩ := hq301
      have hF307 := hF289.trans hF305 rfl rfl
      have hR308 := hR290.trans hR306 rfl
      have e309 := PLx.fr e291 hF305 hR306 rfl rfl rfl
      have e310 := PTx.fr e292 hF305 hR306 rfl rfl rfl
      refine Or.inl ⟨rfl, ?_⟩
      refine r_load (i := 60) (u := 0) (w := 2) rfl rfl rfl ?_
      refine r_getf (i := 61) (v := 5) (w := 8) (x := (2, 34)) rfl ly33 rfl rfl fun _ => ?_
      refine r_load (i := 62) (u := 4) (w := 0) rfl rfl rfl ?_
      have h312 := hI304.b1
      refine r_call (i := 63) (u := 7) (v := 36) (w := 0) (b := 0) (na := 514) (C2 := xC36) (as := [(2, 34), vi at0]) (s := []) rfl rfl rfl rfl rfl rfl rfl (sp36_34 (b := at0) hI304 ⟨by omega, by omega⟩ (by omega)  (by omega)) (fun r313 S314 hq315 => ?_)
      obtain ⟨rfl, h316, btw317, hI318, hF319, hR320⟩ := hq315
      have hF321 := hF307.trans hF319 rfl rfl
      have hR322 := hR308.trans hR320 rfl
      have e323 := PLx.fr e309 hF319 hR320 rfl rfl rfl
      have e324 := PTx.fr e310 hF319 hR320 rfl rfl rfl
      refine Or.inl ⟨rfl, ?_⟩
      have h325 := hI318.b0
      have h326 : S314.f 31 1 = S300.f 31 1 := hF319.f rfl
      have h327 : S300.f 31 1 = S282.f 31 1 := hF305.f rfl
      have h328 : S282.f 31 1 = S263.f 31 1 := hF287.f rfl
      have h329 : S263.f 31 1 = S249.f 31 1 := hF268.f rfl
      have h330 : S249.f 31 1 = S236.f 31 1 := by rw [← hS251]; exact ysf_ne (by decide)
      have h331 := hI318.b1
      have h332 := hI318.a ta12 m.toNat
      have h333 : S314.a 12 m.toNat = S300.a 12 m.toNat := hF319.a rfl _
      have h334 : S300.a 12 m.toNat = S282.a 12 m.toNat := hF305.a rfl _
      have h335 : S282.a 12 m.toNat = S263.a 12 m.toNat := hF287.a rfl _
      have h336 : S263.a 12 m.toNat = S249.a 12 m.toNat := hF268.a rfl _
      have h337 : S249.a 12 m.toNat = S236.a 12 m.toNat := by rw [← hS251]; rfl
      have h338 : S236.a 12 m.toNat = S213.a 12 m.toNat := hF245.a rfl _
      have h339 := hI318.a ta11 m.toNat
      have h340 : S314.a 11 m.toNat = S300.a 11 m.toNat := hF319.a rfl _
      have h341 : S300.a 11 m.toNat = S282.a 11 m.toNat := hF305.a rfl _
      have h342 : S282.a 11 m.toNat = S263.a 11 m.toNat := hF287.a rfl _
      have h343 : S263.a 11 m.toNat = S249.a 11 m.toNat := hF268.a rfl _
      have h344 : S249.a 11 m.toNat = S236.a 11 m.toNat := by rw [← hS251]; rfl
      have h345 : S236.a 11 m.toNat = S213.a 11 m.toNat := hF245.a rfl _
      have h346 : S314.a 13 m.toNat = S300.a 13 m.toNat := hF319.a rfl _
      have h347 : S300.a 13 m.toNat = S282.a 13 m.toNat := hF305.a rfl _
      have h348 : S282.a 13 m.toNat = S263.a 13 m.toNat := hF287.a rfl _
      have h349 : S263.a 13 m.toNat = S249.a 13 m.toNat := hF268.a rfl _
      have h350 : S249.a 13 m.toNat = S236.a 13 m.toNat := by rw [← hS251]; rfl
      have h351 : S236.a 13 m.toNat = S213.a 13 m.toNat := hF245.a rfl _
      have h352 := hI318.a ta14 m.toNat
      have h353 : S314.a 14 m.toNat = S300.a 14 m.toNat := hF319.a rfl _
      have h354 : S300.a 14 m.toNat = S282.a 14 m.toNat := hF305.a rfl _
      have h355 : S282.a 14 m.toNat = S263.a 14 m.toNat := hF287.a rfl _
      have h356 : S263.a 14 m.toNat = S249.a 14 m.toNat := hF268.a rfl _
      have h357 : S249.a 14 m.toNat = S236.a 14 m.toNat := by rw [← hS251]; rfl
      have h358 : S236.a 14 m.toNat = S213.a 14 m.toNat := hF245.a rfl _
      exact r_ret0 (i := 64) rfl ⟨rfl, (by omega), (by omega), (by intro w9 hw0; obtain ⟨hw1, ew1⟩ := wi206 _ hw0; have hw2 := wQ_10 hS215 hw1 ew1; obtain ⟨hw3, ew3⟩ := wi242 _ hw2; have hw4 := wQ_11 hS251 hw3 ew3; have hw5 := wQ_by btw266 (sFl_fr hF268 rfl rfl) (sDp_fr hF268 rfl) _ hw4; have hw6 := wQ_by btw285 (sFl_fr hF287 rfl rfl) (sDp_fr hF287 rfl) _ hw5; have hw7 := wQ_by btw303 (sFl_fr hF305 rfl rfl) (sDp_fr hF305 rfl) _ hw6; have hw8 := wQ_by btw317 (sFl_fr hF319 rfl rfl) (sDp_fr hF319 rfl) _ hw7; exact cW_c hw8 (whd_eq (by first | exact ac_4 (by omega) | exact ac_1 (by omega) (by omega) | exact ac_0 (by omega) (by omega)) rfl (dsL_c ((show pkR 4 S213 = pkR 4 S200 by rw [← hS215]; rfl).trans (pkR_fr (b := 4) hF209 rfl)) (by omega) (by omega)) (by omega) (by omega))), e323, hI318, hF321, hR322⟩
  · refine r_const (i := 6) (u := 1) (z := 1) rfl rfl ?_
    refine r_goto (i := 7) (v := 9) rfl ?_
    refine r_store (i := 9) (u := 5) (w := 0) (L1 := [some ((2, 33)), some (vi m), some (vi mo), some ((6, s)), some (vi at0), some (vi 1)]) rfl rfl rfl rfl ?_
    refine r_load (i := 10) (u := 0) (w := 2) rfl rfl rfl ?_
    refine r_getf (i := 11) (v := 1) (w := 8) (x := (2, 9)) rfl ly33 rfl rfl fun _ => ?_
    refine r_load (i := 12) (u := 1) (w := 0) rfl rfl rfl ?_
    refine r_const (i := 13) (u := 2) (z := 2) rfl rfl ?_
    have h360 := hI.a ta12 m.toNat
    have h361 := hI.a ta12 m.toNat
    refine r_call (i := 14) (u := 2) (v := 76) (w := 0) (b := 0) (na := 771) (C2 := xC76) (as := [(2, 9), vi m, vi 2]) (s := []) rfl rfl rfl rfl rfl rfl rfl (sp76 (m := m) (fl := 2) hI ⟨by omega, by omega⟩ ⟨by omega, by omega⟩   (by omega)) (fun r362 S363 hq364 => ?_)
    obtain ⟨z365, rfl, h366, h367, h368, h369, rfl⟩ := hq364
    refine Or.inr (Or.inl ⟨rfl, ?_⟩)
    refine z_eq (i := 15) (v := 18) rfl ⟨by omega, by omega⟩ (fun h370 => ?_) (fun h371 => ?_)
    · refine r_load (i := 18) (u := 0) (w := 2) rfl rfl rfl ?_
      refine r_load (i := 19) (u := 0) (w := 2) rfl rfl rfl ?_
      refine r_getf (i := 20) (v := 6) (w := 8) (x := (2, 36)) rfl ly33 rfl rfl fun _ => ?_
      refine r_load (i := 21) (u := 0) (w := 2) rfl rfl rfl ?_
      refine r_getf (i := 22) (v := 1) (w := 8) (x := (2, 9)) rfl ly33 rfl rfl fun _ => ?_
      refine r_getf (i := 23) (v := 2) (w := 2) (x := (2, 11)) rfl ly9 rfl rfl fun _ => ?_
      refine r_load (i := 24) (u := 1) (w := 0) rfl rfl rfl ?_
      refine a_int (i := 25) rfl ly11 rfl (by omega) (by omega) fun h375 => ?_
      have h376 := hI.a ta11 m.toNat
      refine r_call (i := 26) (u := 9) (v := 93) (w := 0) (b := 0) (na := 770) (C2 := xC93) (as := [(2, 36), vi (S.a 11 m.toNat)]) (s := [(2, 33)]) rfl rfl rfl rfl rfl rfl rfl (sp93 (w0 := S.a 11 m.toNat) hI ⟨by omega, by omega⟩ (by omega) e_PL (by omega)) (fun r377 S378 hq379 => ?_)
      obtain ⟨z380, rfl, h381, h382, h383, wi384, e385, hI386, hF387, hR388⟩ := hq379
      have hF389 := hF.trans hF387 rfl rfl
      have hR390 := hR.trans hR388 rfl
      refine Or.inr (Or.inl ⟨rfl, ?_⟩)
      refine r_putI (i := 27) (v := 10) (w := 8) rfl ly33 rfl ⟨by omega, by omega⟩ ?_
      have hI392 := hI386.setf0 (b := 33) (w := 10) (z := z380) rfl rfl
      have hF394 := hF389.setf (b := 33) (w := 10) (z := z380) rfl
      have hR395 := hR390.setf (b := 33) (w := 10) (z := z380)
      have e396 := PLx.setf e385 (b := 33) (w := 10) (z := z380) rfl
      have e397 := PTx.setf e385 (b := 33) (w := 10) (z := z380) rfl
      refine yT_gen (fun S391 hS393 => ?_)
      rw [hS393] at hI392 hF394 hR395 e396 e397
      refine r_load (i := 28) (u := 0) (w := 2) rfl rfl rfl ?_
      refine r_load (i := 29) (u := 0) (w := 2) rfl rfl rfl ?_
      refine r_getf (i := 30) (v := 6) (w := 8) (x := (2, 36)) rfl ly33 rfl rfl fun _ => ?_
      refine r_load (i := 31) (u := 3) (w := 2) rfl rfl rfl ?_
      refine r_load (i := 32) (u := 0) (w := 2) rfl rfl rfl ?_
      refine r_getf (i := 33) (v := 1) (w := 8) (x := (2, 9)) rfl ly33 rfl rfl fun _ => ?_
      refine r_getf (i := 34) (v := 4) (w := 2) (x := (2, 13)) rfl ly9 rfl rfl fun _ => ?_
      refine r_load (i := 35) (u := 1) (w := 0) rfl rfl rfl ?_
      refine a_int (i := 36) rfl ly13 rfl (by omega) (by omega) fun h401 => ?_
      have kp402 := hI392.k13 m.toNat
      have h403 : S391.a 13 m.toNat = S378.a 13 m.toNat := by rw [← hS393]; rfl
      have h404 : S378.a 13 m.toNat = S.a 13 m.toNat := hF387.a rfl _
      refine r_load (i := 37) (u := 0) (w := 2) rfl rfl rfl ?_
      refine r_getf (i := 38) (v := 1) (w := 8) (x := (2, 9)) rfl ly33 rfl rfl fun _ => ?_
      refine r_getf (i := 39) (v := 5) (w := 2) (x := (2, 14)) rfl ly9 rfl rfl fun _ => ?_
      refine r_load (i := 40) (u := 1) (w := 0) rfl rfl rfl ?_
      refine a_int (i := 41) rfl ly14 rfl (by omega) (by omega) fun h407 => ?_
      have h408 := hI392.a ta14 m.toNat
      have h409 : S391.a 14 m.toNat = S378.a 14 m.toNat := by rw [← hS393]; rfl
      have h410 : S378.a 14 m.toNat = S.a 14 m.toNat := hF387.a rfl _
      have h411 := hI392.b0
      have h412 : S391.f 31 1 = S378.f 31 1 := by rw [← hS393]; exact ysf_ne (by decide)
      refine r_call (i := 42) (u := 9) (v := 91) (w := 0) (b := 0) (na := 1796) (C2 := xC91) (as := [(2, 36), (6, s), vi (S391.a 13 m.toNat), vi (S391.a 14 m.toNat)]) (s := [(2, 33)]) rfl rfl rfl rfl rfl rfl rfl (sp91 (s := s) (p := S391.a 13 m.toNat) (r0 := S391.a 14 m.toNat) hI392 h_s ⟨by omega, by omega⟩ ⟨by omega, by omega⟩ (by omega) (by first | assumption | exact (hI392).k13 _) e396 (by omega)) (fun r413 S414 hq415 => ?_)
      obtain ⟨z416, rfl, h417, h418, h419, wi420, e421, hI422, hF423, hR424⟩ := hq415
      have hF425 := hF394.trans hF423 rfl rfl
      have hR426 := hR395.trans hR424 rfl
      refine Or.inr (Or.inl ⟨rfl, ?_⟩)
      refine r_putI (i := 43) (v := 11) (w := 8) rfl ly33 rfl ⟨by omega, by omega⟩ ?_
      have hI428 := hI422.setf0 (b := 33) (w := 11) (z := z416) rfl rfl
      have hF430 := hF425.setf (b := 33) (w := 11) (z := z416) rfl
      have hR431 := hR426.setf (b := 33) (w := 11) (z := z416)
      have e432 := PLx.setf e421 (b := 33) (w := 11) (z := z416) rfl
      have e433 := PTx.setf e421 (b := 33) (w := 11) (z := z416) rfl
      refine yT_gen (fun S427 hS429 => ?_)
      rw [hS429] at hI428 hF430 hR431 e432 e433
      refine r_load (i := 44) (u := 0) (w := 2) rfl rfl rfl ?_
      refine r_getf (i := 45) (v := 5) (w := 8) (x := (2, 34)) rfl ly33 rfl rfl fun _ => ?_
      refine r_load (i := 46) (u := 5) (w := 0) rfl rfl rfl ?_
      refine r_load (i := 47) (u := 2) (w := 0) rfl rfl rfl ?_
      refine r_iadd (i := 48) rfl ?_
      have h435 := hI428.b1
      have h436 : S427.f 34 1 = S414.f 34 1 := by rw [← hS429]; exact ysf_ne (by decide)
      have h437 : S414.f 34 1 = S391.f 34 1 := hF423.f rfl
      have h438 : S391.f 34 1 = S378.f 34 1 := by rw [← hS393]; exact ysf_ne (by decide)
      have h439 : S378.f 34 1 = S.f 34 1 := hF387.f rfl
      refine r_call (i := 49) (u := 7) (v := 36) (w := 0) (b := 0) (na := 514) (C2 := xC36) (as := [(2, 34), vi (1 + mo)]) (s := []) rfl rfl rfl rfl rfl rfl rfl (sp36_34 (b := 1 + mo) hI428 ⟨by omega, by omega⟩ (by omega)  (by omega)) (fun r440 S441 hq442 => ?_)
      obtain ⟨rfl, h443, btw444, hI445, hF446, hR447⟩ := hq442
      have hF448 := hF430.trans hF446 rfl rfl
      have hR449 := hR431.trans hR447 rfl
      have e450 := PLx.fr e432 hF446 hR447 rfl rfl rfl
      have e451 := PTx.fr e433 hF446 hR447 rfl rfl rfl
      refine Or.inl ⟨rfl, ?_⟩
      refine r_load (i := 50) (u := 0) (w := 2) rfl rfl rfl ?_
      refine r_getf (i := 51) (v := 5) (w := 8) (x := (2, 34)) rfl ly33 rfl rfl fun _ => ?_
      refine r_load (i := 52) (u := 0) (w := 2) rfl rfl rfl ?_
      have h453 : S441.f 33 10 = S427.f 33 10 := hF446.f rfl
      have h454 : S427.f 33 10 = S414.f 33 10 := by rw [← hS429]; exact ysf_ne (by decide)
      have h455 : S414.f 33 10 = S391.f 33 10 := hF423.f rfl
      have h456 : S391.f 33 10 = z380 := by rw [← hS393]; exact ysf_eq
      refine r_getf (i := 53) (v := 10) (w := 8) (x := vi (S441.f 33 10)) rfl ly33 rfl rfl fun h457 => ?_
      have h457 : Rg (S441.f 33 10) := h457
      have h458 := hI445.b1
      refine r_call (i := 54) (u := 7) (v := 36) (w := 0) (b := 0) (na := 514) (C2 := xC36) (as := [(2, 34), vi (S441.f 33 10)]) (s := []) rfl rfl rfl rfl rfl rfl rfl (sp36_34 (b := S441.f 33 10) hI445 ⟨by omega, by omega⟩ (by omega)  (by omega)) (fun r459 S460 hq461 => ?_)
      obtain ⟨rfl, h462, btw463, hI464, hF465, hR466⟩ := hq461
      have hF467 := hF448.trans hF465 rfl rfl
      have hR468 := hR449.trans hR466 rfl
      have e469 := PLx.fr e450 hF465 hR466 rfl rfl rfl
      have e470 := PTx.fr e451 hF465 hR466 rfl rfl rfl
      refine Or.inl ⟨rfl, ?_⟩
      refine r_load (i := 55) (u := 0) (w := 2) rfl rfl rfl ?_
      refine r_getf (i := 56) (v := 5) (w := 8) (x := (2, 34)) rfl ly33 rfl rfl fun _ => ?_
      refine r_load (i := 57) (u := 0) (w := 2) rfl rfl rfl ?_
      have h472 : S460.f 33 11 = S441.f 33 11 := hF465.f rfl
      have h473 : S441.f 33 11 = S427.f 33 11 := hF446.f rfl
      have h474 : S427.f 33 11 = z416 := by rw [← hS429]; exact ysf_eq
      refine r_getf (i := 58) (v := 11) (w := 8) (x := vi (S460.f 33 11)) rfl ly33 rfl rfl fun h475 => ?_
      have h475 : Rg (S460.f 33 11) := h475
      have h476 := hI464.b1
      refine r_call (i := 59) (u := 7) (v := 36) (w := 0) (b := 0) (na := 514) (C2 := xC36) (as := [(2, 34), vi (S460.f 33 11)]) (s := []) rfl rfl rfl rfl rfl rfl rfl (sp36_34 (b := S460.f 33 11) hI464 ⟨by omega, by omega⟩ (by omega)  (by omega)) (fun r477 S478 hq479 => ?_)
      obtain ⟨rfl, h480, btw481, hI482, hF483, hR484⟩ := hq479
      have hF485 := hF467.trans hF483 rfl rfl
      have hR486 := hR468.trans hR484 rfl
      have e487 := PLx.fr e469 hF483 hR484 rfl rfl rfl
      have e488 := PTx.fr e470 hF483 hR484 rfl rfl rfl
      refine Or.inl ⟨rfl, ?_⟩
      refine r_load (i := 60) (u := 0) (w := 2) rfl rfl rfl ?_
      refine r_getf (i := 61) (v := 5) (w := 8) (x := (2, 34)) rfl ly33 rfl rfl fun _ => ?_
      refine r_load (i := 62) (u := 4) (w := 0) rfl rfl rfl ?_
      have h490 := hI482.b1
      refine r_call (i := 63) (u := 7) (v := 36) (w := 0) (b := 0) (na := 514) (C2 := xC36) (as := [(2, 34), vi at0]) (s := []) rfl rfl rfl rfl rfl rfl rfl (sp36_34 (b := at0) hI482 ⟨by omega, by omega⟩ (by omega)  (by omega)) (fun r491 S492 hq493 => ?_)
      obtain ⟨rfl, h494, btw495, hI496, hF497, hR498⟩ := hq493
      have hF499 := hF485.trans hF497 rfl rfl
      have hR500 := hR486.trans hR498 rfl
      have e501 := PLx.fr e487 hF497 hR498 rfl rfl rfl
      have e502 := PTx.fr e488 hF497 hR498 rfl rfl rfl
      refine Or.inl ⟨rfl, ?_⟩
      have h503 := hI496.b0
      have h504 : S492.f 31 1 = S478.f 31 1 := hF497.f rfl
      have h505 : S478.f 31 1 = S460.f 31 1 := hF483.f rfl
      have h506 : S460.f 31 1 = S441.f 31 1 := hF465.f rfl
      have h507 : S441.f 31 1 = S427.f 31 1 := hF446.f rfl
      have h508 : S427.f 31 1 = S414.f 31 1 := by rw [← hS429]; exact ysf_ne (by decide)
      have h509 := hI496.b1
      have h510 := hI496.a ta12 m.toNat
      have h511 : S492.a 12 m.toNat = S478.a 12 m.toNat := hF497.a rfl _
      have h512 : S478.a 12 m.toNat = S460.a 12 m.toNat := hF483.a rfl _
      have h513 : S460.a 12 m.toNat = S441.a 12 m.toNat := hF465.a rfl _
      have h514 : S441.a 12 m.toNat = S427.a 12 m.toNat := hF446.a rfl _
      have h515 : S427.a 12 m.toNat = S414.a 12 m.toNat := by rw [← hS429]; rfl
      have h516 : S414.a 12 m.toNat = S391.a 12 m.toNat := hF423.a rfl _
      have h517 := hI496.a ta11 m.toNat
      have h518 : S492.a 11 m.toNat = S478.a 11 m.toNat := hF497.a rfl _
      have h519 : S478.a 11 m.toNat = S460.a 11 m.toNat := hF483.a rfl _
      have h520 : S460.a 11 m.toNat = S441.a 11 m.toNat := hF465.a rfl _
      have h521 : S441.a 11 m.toNat = S427.a 11 m.toNat := hF446.a rfl _
      have h522 : S427.a 11 m.toNat = S414.a 11 m.toNat := by rw [← hS429]; rfl
      have h523 : S414.a 11 m.toNat = S391.a 11 m.toNat := hF423.a rfl _
      have h524 : S492.a 13 m.toNat = S478.a 13 m.toNat := hF497.a rfl _
      have h525 : S478.a 13 m.toNat = S460.a 13 m.toNat := hF483.a rfl _
      have h526 : S460.a 13 m.toNat = S441.a 13 m.toNat := hF465.a rfl _
      have h527 : S441.a 13 m.toNat = S427.a 13 m.toNat := hF446.a rfl _
      have h528 : S427.a 13 m.toNat = S414.a 13 m.toNat := by rw [← hS429]; rfl
      have h529 : S414.a 13 m.toNat = S391.a 13 m.toNat := hF423.a rfl _
      have h530 := hI496.a ta14 m.toNat
      have h531 : S492.a 14 m.toNat = S478.a 14 m.toNat := hF497.a rfl _
      have h532 : S478.a 14 m.toNat = S460.a 14 m.toNat := hF483.a rfl _
      have h533 : S460.a 14 m.toNat = S441.a 14 m.toNat := hF465.a rfl _
      have h534 : S441.a 14 m.toNat = S427.a 14 m.toNat := hF446.a rfl _
      have h535 : S427.a 14 m.toNat = S414.a 14 m.toNat := by rw [← hS429]; rfl
      have h536 : S414.a 14 m.toNat = S391.a 14 m.toNat := hF423.a rfl _
      exact r_ret0 (i := 64) rfl ⟨rfl, (by omega), (by omega), (by intro w9 hw0; obtain ⟨hw1, ew1⟩ := wi384 _ hw0; have hw2 := wQ_10 hS393 hw1 ew1; obtain ⟨hw3, ew3⟩ := wi420 _ hw2; have hw4 := wQ_11 hS429 hw3 ew3; have hw5 := wQ_by btw444 (sFl_fr hF446 rfl rfl) (sDp_fr hF446 rfl) _ hw4; have hw6 := wQ_by btw463 (sFl_fr hF465 rfl rfl) (sDp_fr hF465 rfl) _ hw5; have hw7 := wQ_by btw481 (sFl_fr hF483 rfl rfl) (sDp_fr hF483 rfl) _ hw6; have hw8 := wQ_by btw495 (sFl_fr hF497 rfl rfl) (sDp_fr hF497 rfl) _ hw7; exact cW_c hw8 (whd_eq (by first | exact ac_4 (by omega) | exact ac_1 (by omega) (by omega) | exact ac_0 (by omega) (by omega)) rfl (dsL_c ((show pkR 4 S391 = pkR 4 S378 by rw [← hS393]; rfl).trans (pkR_fr (b := 4) hF387 rfl)) (by omega) (by omega)) (by omega) (by omega))), e501, hI496, hF499, hR500⟩
    · refine r_const (i := 16) (u := 4) (z := 4) rfl rfl ?_
      refine r_store (i := 17) (u := 5) (w := 0) (L1 := [some ((2, 33)), some (vi m), some (vi mo), some ((6, s)), some (vi at0), some (vi 4)]) rfl rfl rfl rfl ?_
      refine r_load (i := 18) (u := 0) (w := 2) rfl rfl rfl ?_
      refine r_load (i := 19) (u := 0) (w := 2) rfl rfl rfl ?_
      refine r_getf (i := 20) (v := 6) (w := 8) (x := (2, 36)) rfl ly33 rfl rfl fun _ => ?_
      refine r_load (i := 21) (u := 0) (w := 2) rfl rfl rfl ?_
      refine r_getf (i := 22) (v := 1) (w := 8) (x := (2, 9)) rfl ly33 rfl rfl fun _ => ?_
      refine r_getf (i := 23) (v := 2) (w := 2) (x := (2, 11)) rfl ly9 rfl rfl fun _ => ?_
      refine r_load (i := 24) (u := 1) (w := 0) rfl rfl rfl ?_
      refine a_int (i := 25) rfl ly11 rfl (by omega) (by omega) fun h540 => ?_
      have h541 := hI.a ta11 m.toNat
      refine r_call (i := 26) (u := 9) (v := 93) (w := 0) (b := 0) (na := 770) (C2 := xC93) (as := [(2, 36), vi (S.a 11 m.toNat)]) (s := [(2, 33)]) rfl rfl rfl rfl rfl rfl rfl (sp93 (w0 := S.a 11 m.toNat) hI ⟨by omega, by omega⟩ (by omega) e_PL (by omega)) (fun r542 S543 hq544 => ?_)
      obtain ⟨z545, rfl, h546, h547, h548, wi549, e550, hI551, hF552, hR553⟩ := hq544
      have hF554 := hF.trans hF552 rfl rfl
      have hR555 := hR.trans hR553 rfl
      refine Or.inr (Or.inl ⟨rfl, ?_⟩)
      refine r_putI (i := 27) (v := 10) (w := 8) rfl ly33 rfl ⟨by omega, by omega⟩ ?_
      have hI557 := hI551.setf0 (b := 33) (w := 10) (z := z545) rfl rfl
      have hF559 := hF554.setf (b := 33) (w := 10) (z := z545) rfl
      have hR560 := hR555.setf (b := 33) (w := 10) (z := z545)
      have e561 := PLx.setf e550 (b := 33) (w := 10) (z := z545) rfl
      have e562 := PTx.setf e550 (b := 33) (w := 10) (z := z545) rfl
      refine yT_gen (fun S556 hS558 => ?_)
      rw [hS558] at hI557 hF559 hR560 e561 e562
      refine r_load (i := 28) (u := 0) (w := 2) rfl rfl rfl ?_
      refine r_load (i := 29) (u := 0) (w := 2) rfl rfl rfl ?_
      refine r_getf (i := 30) (v := 6) (w := 8) (x := (2, 36)) rfl ly33 rfl rfl fun _ => ?_
      refine r_load (i := 31) (u := 3) (w := 2) rfl rfl rfl ?_
      refine r_load (i := 32) (u := 0) (w := 2) rfl rfl rfl ?_
      refine r_getf (i := 33) (v := 1) (w := 8) (x := (2, 9)) rfl ly33 rfl rfl fun _ => ?_
      refine r_getf (i := 34) (v := 4) (w := 2) (x := (2, 13)) rfl ly9 rfl rfl fun _ => ?_
      refine r_load (i := 35) (u := 1) (w := 0) rfl rfl rfl ?_
      refine a_int (i := 36) rfl ly13 rfl (by omega) (by omega) fun h566 => ?_
      have kp567 := hI557.k13 m.toNat
      have h568 : S556.a 13 m.toNat = S543.a 13 m.toNat := by rw [← hS558]; rfl
      have h569 : S543.a 13 m.toNat = S.a 13 m.toNat := hF552.a rfl _
      refine r_load (i := 37) (u := 0) (w := 2) rfl rfl rfl ?_
      refine r_getf (i := 38) (v := 1) (w := 8) (x := (2, 9)) rfl ly33 rfl rfl fun _ => ?_
      refine r_getf (i := 39) (v := 5) (w := 2) (x := (2, 14)) rfl ly9 rfl rfl fun _ => ?_
      refine r_load (i := 40) (u := 1) (w := 0) rfl rfl rfl ?_
      refine a_int (i := 41) rfl ly14 rfl (by omega) (by omega) fun h572 => ?_
      have h573 := hI557.a ta14 m.toNat
      have h574 : S556.a 14 m.toNat = S543.a 14 m.toNat := by rw [← hS558]; rfl
      have h575 : S543.a 14 m.toNat = S.a 14 m.toNat := hF552.a rfl _
      have h576 := hI557.b0
      have h577 : S556.f 31 1 = S543.f 31 1 := by rw [← hS558]; exact ysf_ne (by decide)
      refine r_call (i := 42) (u := 9) (v := 91) (w := 0) (b := 0) (na := 1796) (C2 := xC91) (as := [(2, 36), (6, s), vi (S556.a 13 m.toNat), vi (S556.a 14 m.toNat)]) (s := [(2, 33)]) rfl rfl rfl rfl rfl rfl rfl (sp91 (s := s) (p := S556.a 13 m.toNat) (r0 := S556.a 14 m.toNat) hI557 h_s ⟨by omega, by omega⟩ ⟨by omega, by omega⟩ (by omega) (by first | assumption | exact (hI557).k13 _) e561 (by omega)) (fun r578 S579 hq580 => ?_)
      obtain ⟨z581, rfl, h582, h583, h584, wi585, e586, hI587, hF588, hR589⟩ := hq580
      have hF590 := hF559.trans hF588 rfl rfl
      have hR591 := hR560.trans hR589 rfl
      refine Or.inr (Or.inl ⟨rfl, ?_⟩)
      refine r_putI (i := 43) (v := 11) (w := 8) rfl ly33 rfl ⟨by omega, by omega⟩ ?_
      have hI593 := hI587.setf0 (b := 33) (w := 11) (z := z581) rfl rfl
      have hF595 := hF590.setf (b := 33) (w := 11) (z := z581) rfl
      have hR596 := hR591.setf (b := 33) (w := 11) (z := z581)
      have e597 := PLx.setf e586 (b := 33) (w := 11) (z := z581) rfl
      have e598 := PTx.setf e586 (b := 33) (w := 11) (z := z581) rfl
      refine yT_gen (fun S592 hS594 => ?_)
      rw [hS594] at hI593 hF595 hR596 e597 e598
      refine r_load (i := 44) (u := 0) (w := 2) rfl rfl rfl ?_
      refine r_getf (i := 45) (v := 5) (w := 8) (x := (2, 34)) rfl ly33 rfl rfl fun _ => ?_
      refine r_load (i := 46) (u := 5) (w := 0) rfl rfl rfl ?_
      refine r_load (i := 47) (u := 2) (w := 0) rfl rfl rfl ?_
      refine r_iadd (i := 48) rfl ?_
      have h600 := hI593.b1
      have h601 : S592.f 34 1 = S579.f 34 1 := by rw [← hS594]; exact ysf_ne (by decide)
      have h602 : S579.f 34 1 = S556.f 34 1 := hF588.f rfl
      have h603 : S556.f 34 1 = S543.f 34 1 := by rw [← hS558]; exact ysf_ne (by decide)
      have h604 : S543.f 34 1 = S.f 34 1 := hF552.f rfl
      refine r_call (i := 49) (u := 7) (v := 36) (w := 0) (b := 0) (na := 514) (C2 := xC36) (as := [(2, 34), vi (4 + mo)]) (s := []) rfl rfl rfl rfl rfl rfl rfl (sp36_34 (b := 4 + mo) hI593 ⟨by omega, by omega⟩ (by omega)  (by omega)) (fun r605 S606 hq607 => ?_)
      obtain ⟨rfl, h608, btw609, hI610, hF611, hR612⟩ := hq607
      have hF613 := hF595.trans hF611 rfl rfl
      have hR614 := hR596.trans hR612 rfl
      have e615 := PLx.fr e597 hF611 hR612 rfl rfl rfl
      have e616 := PTx.fr e598 hF611 hR612 rfl rfl rfl
      refine Or.inl ⟨rfl, ?_⟩
      refine r_load (i := 50) (u := 0) (w := 2) rfl rfl rfl ?_
      refine r_getf (i := 51) (v := 5) (w := 8) (x := (2, 34)) rfl ly33 rfl rfl fun _ => ?_
      refine r_load (i := 52) (u := 0) (w := 2) rfl rfl rfl ?_
      have h618 : S606.f 33 10 = S592.f 33 10 := hF611.f rfl
      have h619 : S592.f 33 10 = S579.f 33 10 := by rw [← hS594]; exact ysf_ne (by decide)
      have h620 : S579.f 33 10 = S556.f 33 10 := hF588.f rfl
      have h621 : S556.f 33 10 = z545 := by rw [← hS558]; exact ysf_eq
      refine r_getf (i := 53) (v := 10) (w := 8) (x := vi (S606.f 33 10)) rfl ly33 rfl rfl fun h622 => ?_
      have h622 : Rg (S606.f 33 10) := h622
      have h623 := hI610.b1
      refine r_call (i := 54) (u := 7) (v := 36) (w := 0) (b := 0) (na := 514) (C2 := xC36) (as := [(2, 34), vi (S606.f 33 10)]) (s := []) rfl rfl rfl rfl rfl rfl rfl (sp36_34 (b := S606.f 33 10) hI610 ⟨by omega, by omega⟩ (by omega)  (by omega)) (fun r624 S625 hq626 => ?_)
      obtain ⟨rfl, h627, btw628, hI629, hF630, hR631⟩ := hq626
      have hF632 := hF613.trans hF630 rfl rfl
      have hR633 := hR614.trans hR631 rfl
      have e634 := PLx.fr e615 hF630 hR631 rfl rfl rfl
      have e635 := PTx.fr e616 hF630 hR631 rfl rfl rfl
      refine Or.inl ⟨rfl, ?_⟩
      refine r_load (i := 55) (u := 0) (w := 2) rfl rfl rfl ?_
      refine r_getf (i := 56) (v := 5) (w := 8) (x := (2, 34)) rfl ly33 rfl rfl fun _ => ?_
      refine r_load (i := 57) (u := 0) (w := 2) rfl rfl rfl ?_
      have h637 : S625.f 33 11 = S606.f 33 11 := hF630.f rfl
      have h638 : S606.f 33 11 = S592.f 33 11 := hF611.f rfl
      have h639 : S592.f 33 11 = z581 := by rw [← hS594]; exact ysf_eq
      refine r_getf (i := 58) (v := 11) (w := 8) (x := vi (S625.f 33 11)) rfl ly33 rfl rfl fun h640 => ?_
      have h640 : Rg (S625.f 33 11) := h640
      have h641 := hI629.b1
      refine r_call (i := 59) (u := 7) (v := 36) (w := 0) (b := 0) (na := 514) (C2 := xC36) (as := [(2, 34), vi (S625.f 33 11)]) (s := []) rfl rfl rfl rfl rfl rfl rfl (sp36_34 (b := S625.f 33 11) hI629 ⟨by omega, by omega⟩ (by omega)  (by omega)) (fun r642 S643 hq644 => ?_)
      obtain ⟨rfl, h645, btw646, hI647, hF648, hR649⟩ := hq644
      have hF650 := hF632.trans hF648 rfl rfl
      have hR651 := hR633.trans hR649 rfl
      have e652 := PLx.fr e634 hF648 hR649 rfl rfl rfl
      have e653 := PTx.fr e635 hF648 hR649 rfl rfl rfl
      refine Or.inl ⟨rfl, ?_⟩
      refine r_load (i := 60) (u := 0) (w := 2) rfl rfl rfl ?_
      refine r_getf (i := 61) (v := 5) (w := 8) (x := (2, 34)) rfl ly33 rfl rfl fun _ => ?_
      refine r_load (i := 62) (u := 4) (w := 0) rfl rfl rfl ?_
      have h655 := hI647.b1
      refine r_call (i := 63) (u := 7) (v := 36) (w := 0) (b := 0) (na := 514) (C2 := xC36) (as := [(2, 34), vi at0]) (s := []) rfl rfl rfl rfl rfl rfl rfl (sp36_34 (b := at0) hI647 ⟨by omega, by omega⟩ (by omega)  (by omega)) (fun r656 S657 hq658 => ?_)
      obtain ⟨rfl, h659, btw660, hI661, hF662, hR663⟩ := hq658
      have hF664 := hF650.trans hF662 rfl rfl
      have hR665 := hR651.trans hR663 rfl
      have e666 := PLx.fr e652 hF662 hR663 rfl rfl rfl
      have e667 := PTx.fr e653 hF662 hR663 rfl rfl rfl
      refine Or.inl ⟨rfl, ?_⟩
      have h668 := hI661.b0
      have h669 : S657.f 31 1 = S643.f 31 1 := hF662.f rfl
      have h670 : S643.f 31 1 = S625.f 31 1 := hF648.f rfl
      have h671 : S625.f 31 1 = S606.f 31 1 := hF630.f rfl
      have h672 : S606.f 31 1 = S592.f 31 1 := hF611.f rfl
      have h673 : S592.f 31 1 = S579.f 31 1 := by rw [← hS594]; exact ysf_ne (by decide)
      have h674 := hI661.b1
      have h675 := hI661.a ta12 m.toNat
      have h676 : S657.a 12 m.toNat = S643.a 12 m.toNat := hF662.a rfl _
      have h677 : S643.a 12 m.toNat = S625.a 12 m.toNat := hF648.a rfl _
      have h678 : S625.a 12 m.toNat = S606.a 12 m.toNat := hF630.a rfl _
      have h679 : S606.a 12 m.toNat = S592.a 12 m.toNat := hF611.a rfl _
      have h680 : S592.a 12 m.toNat = S579.a 12 m.toNat := by rw [← hS594]; rfl
      have h681 : S579.a 12 m.toNat = S556.a 12 m.toNat := hF588.a rfl _
      have h682 := hI661.a ta11 m.toNat
      have h683 : S657.a 11 m.toNat = S643.a 11 m.toNat := hF662.a rfl _
      have h684 : S643.a 11 m.toNat = S625.a 11 m.toNat := hF648.a rfl _
      have h685 : S625.a 11 m.toNat = S606.a 11 m.toNat := hF630.a rfl _
      have h686 : S606.a 11 m.toNat = S592.a 11 m.toNat := hF611.a rfl _
      have h687 : S592.a 11 m.toNat = S579.a 11 m.toNat := by rw [← hS594]; rfl
      have h688 : S579.a 11 m.toNat = S556.a 11 m.toNat := hF588.a rfl _
      have h689 : S657.a 13 m.toNat = S643.a 13 m.toNat := hF662.a rfl _
      have h690 : S643.a 13 m.toNat = S625.a 13 m.toNat := hF648.a rfl _
      have h691 : S625.a 13 m.toNat = S606.a 13 m.toNat := hF630.a rfl _
      have h692 : S606.a 13 m.toNat = S592.a 13 m.toNat := hF611.a rfl _
      have h693 : S592.a 13 m.toNat = S579.a 13 m.toNat := by rw [← hS594]; rfl
      have h694 : S579.a 13 m.toNat = S556.a 13 m.toNat := hF588.a rfl _
      have h695 := hI661.a ta14 m.toNat
      have h696 : S657.a 14 m.toNat = S643.a 14 m.toNat := hF662.a rfl _
      have h697 : S643.a 14 m.toNat = S625.a 14 m.toNat := hF648.a rfl _
      have h698 : S625.a 14 m.toNat = S606.a 14 m.toNat := hF630.a rfl _
      have h699 : S606.a 14 m.toNat = S592.a 14 m.toNat := hF611.a rfl _
      have h700 : S592.a 14 m.toNat = S579.a 14 m.toNat := by rw [← hS594]; rfl
      have h701 : S579.a 14 m.toNat = S556.a 14 m.toNat := hF588.a rfl _
      exact r_ret0 (i := 64) rfl ⟨rfl, (by omega), (by omega), (by intro w9 hw0; obtain ⟨hw1, ew1⟩ := wi549 _ hw0; have hw2 := wQ_10 hS558 hw1 ew1; obtain ⟨hw3, ew3⟩ := wi585 _ hw2; have hw4 := wQ_11 hS594 hw3 ew3; have hw5 := wQ_by btw609 (sFl_fr hF611 rfl rfl) (sDp_fr hF611 rfl) _ hw4; have hw6 := wQ_by btw628 (sFl_fr hF630 rfl rfl) (sDp_fr hF630 rfl) _ hw5; have hw7 := wQ_by btw646 (sFl_fr hF648 rfl rfl) (sDp_fr hF648 rfl) _ hw6; have hw8 := wQ_by btw660 (sFl_fr hF662 rfl rfl) (sDp_fr hF662 rfl) _ hw7; exact cW_c hw8 (whd_eq (by first | exact ac_4 (by omega) | exact ac_1 (by omega) (by omega) | exact ac_0 (by omega) (by omega)) rfl (dsL_c ((show pkR 4 S556 = pkR 4 S543 by rw [← hS558]; rfl).trans (pkR_fr (b := 4) hF552 rfl)) (by omega) (by omega)) (by omega) (by omega))), e666, hI661, hF664, hR665⟩
theorem lp142_42 {G : xk} {d : Nat} {S0 : yS} {k : Int} (h_k : 0 ≤ k ∧ k ≤ 23) {p : Int} (h_p : -2147483648 ≤ p ∧ p ≤ 2147483647) (p_0 : S0.f 31 1 + 407 ≤ 60000) (p_1 : S0.f 34 1 + 53 ≤ 60000) (hd : 8 ≤ d + 1) : ∀ (n : Nat), ∀ (S : yS) (hI : yI S) (hF : yFr [(31, 1), (33, 14), (33, 15), (34, 1), (36, 5)] [37, 100, 101, 102, 103, 105] S0 S) (hR : yRm [0, 1, 2, 3] S0 S) (e_PL : PL S) (n1 lc j : Int) (h_n1 : 0 ≤ n1 ∧ n1 ≤ 4) (h_lc : 0 ≤ lc ∧ lc ≤ 100) (h_j : 0 ≤ j ∧ j ≤ 4) (q_0 : S0.f 34 1 ≤ S.f 34 1 ∧ S.f 34 1 ≤ S0.f 34 1 + 12 + 9 * j ∧ S0.f 34 1 + 53 ≤ 60000) (q_1 : S0.f 31 1 ≤ S.f 31 1 ∧ S.f 31 1 ≤ S0.f 31 1 + 42 + 68 * j ∧ S0.f 31 1 + 407 ≤ 60000) (q_2 : lc ≤ 1 + 2 * j) (q_3 : wK S0 S (fun w => wao p j.toNat (wa0 (pkR 4 S0) (hmn p) (wpu k (wop 42 1 (wgf w)))))) (q_4 : lc = 1 + wdA p j.toNat) (q_5 : n1 = hmn p) (q_6 : j ≤ n1) (hn : 4 - j < (n : Nat)), yT xPr G LY xC142 42 [some ((2, 33)), some (vi k), some (vi p), some (vi n1), some (vi lc), some (vi j), none, none] [] S (d + 1) (fun r S' => r = (0, (0, 0)) ∧ (S0.f 31 1 ≤ S'.f 31 1 ∧ S'.f 31 1 ≤ S0.f 31 1 + 407) ∧ (S0.f 34 1 ≤ S'.f 34 1 ∧ S'.f 34 1 ≤ S0.f 34 1 + 53) ∧ wK S0 S' (wak (pkR 4 S0) k p) ∧ PL S' ∧ yI S' ∧ yFr [(31, 1), (33, 14), (33, 15), (34, 1), (36, 5)] [37, 100, 101, 102, 103, 105] S0 S' ∧ yRm [0, 1, 2, 3] S0 S') := by
  intro n
  induction n with
  | zero => intro S hI hF hR e_PL n1 lc j h_n1 h_lc h_j q_0 q_1 q_2 q_3 q_4 q_5 q_6 hn; exact absurd hn (by omega)
  | succ n ih =>
    intro S hI hF hR e_PL n1 lc j h_n1 h_lc h_j q_0 q_1 q_2 q_3 q_4 q_5 q_6 hn
    have h1 := hI.b1
    have h2 := hI.b0
    refine r_load (i := 42) (u := 5) (w := 0) rfl rfl rfl ?_
    refine r_load (i := 43) (u := 3) (w := 0) rfl rfl rfl ?_
    refine c_ge (i := 44) (v := 91) rfl ⟨by omega, by omega⟩ ⟨by omega, by omega⟩ (fun h3 => ?_) (fun h4 => ?_)
    · refine r_load (i := 91) (u := 0) (w := 2) rfl rfl rfl ?_
      refine r_const (i := 92) (u := 185) (z := 185) rfl rfl ?_
      refine r_load (i := 93) (u := 0) (w := 2) rfl rfl rfl ?_
      refine r_const (i := 94) (u := 11) (z := 11) rfl rfl ?_
      refine r_str (i := 95) (v := 22) rfl ?_
      have h5 := slv22
      refine r_str (i := 96) (v := 23) rfl ?_
      have h6 := slv23
      refine r_str (i := 97) (v := 24) rfl ?_
      have h7 := slv24
      refine r_call (i := 98) (u := 8) (v := 160) (w := 0) (b := 0) (na := 2053) (C2 := xC160) (as := [(2, 33), vi 11, (6, 22), (6, 23), (6, 24)]) (s := [vi 185, (2, 33)]) rfl rfl rfl rfl rfl rfl rfl (sp160 (w0 := 11) (s := 22) (s2 := 23) (s3 := 24) hI ⟨by omega, by omega⟩ ⟨by decide, by decide⟩ ⟨by decide, by decide⟩ ⟨by decide, by decide⟩ (by omega) e_PL (by omega)) (fun r8 S9 hq10 => ?_)
      obtain ⟨z11, rfl, h12, h13, h14, mb15, e16, hI17, hF18, hR19⟩ := hq10
      have hF20 := hF.trans hF18 rfl rfl
      have hR21 := hR.trans hR19 rfl
      refine Or.inr (Or.inl ⟨rfl, ?_⟩)
      refine r_const (i := 99) (u := 4294967293) (z := -3) rfl rfl ?_
      have h22 := hI17.b1
      have h23 : S9.f 34 1 = S.f 34 1 := hF18.f rfl
      refine r_call (i := 100) (u := 8) (v := 165) (w := 0) (b := 0) (na := 1028) (C2 := xC165) (as := [(2, 33), vi 185, vi z11, vi (-3)]) (s := []) rfl rfl rfl rfl rfl rfl rfl (sp165 (c := 185) (o := z11) (e := -3) hI17 ⟨by omega, by omega⟩ ⟨by omega, by omega⟩ ⟨by omega, by omega⟩ (by omega)  (by omega)) (fun r24 S25 hq26 => ?_)
      obtain ⟨rfl, h27, wq28, hI29, hF30, hR31⟩ := hq26
      have hF32 := hF20.trans hF30 rfl rfl
      have hR33 := hR21.trans hR31 rfl
      have e34 := PLx.fr e16 hF30 hR31 rfl rfl rfl
      have e35 := PTx.fr e16 hF30 hR31 rfl rfl rfl
      refine Or.inl ⟨rfl, ?_⟩
      refine r_load (i := 101) (u := 0) (w := 2) rfl rfl rfl ?_
      refine r_getf (i := 102) (v := 5) (w := 8) (x := (2, 34)) rfl ly33 rfl rfl fun _ => ?_
      refine r_const (i := 103) (u := 4) (z := 4) rfl rfl ?_
      have h37 := hI29.b1
      refine r_call (i := 104) (u := 7) (v := 29) (w := 0) (b := 0) (na := 514) (C2 := xC29) (as := [(2, 34), vi 4]) (s := []) rfl rfl rfl rfl rfl rfl rfl (sp29_34 (b := 4) hI29 ⟨by omega, by omega⟩ (by omega)  (by omega)) (fun r38 S39 hq40 => ?_)
      obtain ⟨rfl, h41, bo42, hI43, hF44, hR45⟩ := hq40
      have hF46 := hF32.trans hF44 rfl rfl
      have hR47 := hR33.trans hR45 rfl
      have e48 := PLx.fr e34 hF44 hR45 rfl rfl rfl
      have e49 := PTx.fr e35 hF44 hR45 rfl rfl rfl
      refine Or.inl ⟨rfl, ?_⟩
      refine r_load (i := 105) (u := 0) (w := 2) rfl rfl rfl ?_
      refine r_getf (i := 106) (v := 5) (w := 8) (x := (2, 34)) rfl ly33 rfl rfl fun _ => ?_
      refine r_const (i := 107) (u := 0) (z := 0) rfl rfl ?_
      have h51 := hI43.b1
      refine r_call (i := 108) (u := 7) (v := 29) (w := 0) (b := 0) (na := 514) (C2 := xC29) (as := [(2, 34), vi 0]) (s := []) rfl rfl rfl rfl rfl rfl rfl (sp29_34 (b := 0) hI43 ⟨by omega, by omega⟩ (by omega)  (by omega)) (fun r52 S53 hq54 => ?_)
      obtain ⟨rfl, h55, bo56, hI57, hF58, hR59⟩ := hq54
      have hF60 := hF46.trans hF58 rfl rfl
      have hR61 := hR47.trans hR59 rfl
      have e62 := PLx.fr e48 hF58 hR59 rfl rfl rfl
      have e63 := PTx.fr e49 hF58 hR59 rfl rfl rfl
      refine Or.inl ⟨rfl, ?_⟩
      have h64 := hI57.b0
      have h65 : S53.f 31 1 = S39.f 31 1 := hF58.f rfl
      have h66 : S39.f 31 1 = S25.f 31 1 := hF44.f rfl
      have h67 : S25.f 31 1 = S9.f 31 1 := hF30.f rfl
      have h68 := hI57.b1
      exact r_ret0 (i := 109) rfl ⟨rfl, (by omega), (by omega), (by intro w9 hw0 hq9; have hwq := q_3 _ hw0 hq9; obtain ⟨hw1, ew1⟩ := mb15 (by decide) (by decide) _ hwq; have hw2 := wq28 _ hw1; have hw3 := wQ_by bo42 (sFl_fr hF44 rfl rfl) (sDp_fr hF44 rfl) _ hw2; have hw4 := wQ_by bo56 (sFl_fr hF58 rfl rfl) (sDp_fr hF58 rfl) _ hw3; subst ew1; rw [show j.toNat = (hmn p).toNat by omega] at hw4; exact hw4), e62, hI57, hF60, hR61⟩
    · refine r_load (i := 45) (u := 2) (w := 0) rfl rfl rfl ?_
      refine r_load (i := 46) (u := 5) (w := 0) rfl rfl rfl ?_
      refine r_call (i := 47) (u := 65535) (v := 66) (w := 0) (b := 2) (na := 514) (C2 := xC66) (as := [vi p, vi j]) (s := []) rfl rfl rfl rfl rfl rfl rfl (sp66 (p := p) (k := j) hI ⟨by omega, by omega⟩ ⟨by omega, by omega⟩   (by omega)) (fun r69 S70 hq71 => ?_)
      obtain ⟨z72, rfl, h73, h74, h75, rfl⟩ := hq71
      refine Or.inr (Or.inl ⟨rfl, ?_⟩)
      refine r_store (i := 48) (u := 6) (w := 0) (L1 := [some ((2, 33)), some (vi k), some (vi p), some (vi n1), some (vi lc), some (vi j), some (vi z72), none]) rfl rfl rfl rfl ?_
      refine r_load (i := 49) (u := 0) (w := 2) rfl rfl rfl ?_
      refine r_const (i := 50) (u := 89) (z := 89) rfl rfl ?_
      refine r_const (i := 51) (u := 1) (z := 1) rfl rfl ?_
      refine r_call (i := 52) (u := 8) (v := 163) (w := 0) (b := 0) (na := 771) (C2 := xC163) (as := [(2, 33), vi 89, vi 1]) (s := []) rfl rfl rfl rfl rfl rfl rfl (sp163 (c := 89) (e := 1) hI ⟨by omega, by omega⟩ ⟨by omega, by omega⟩ (by omega)  (by omega)) (fun r76 S77 hq78 => ?_)
      obtain ⟨rfl, h79, wq80, hI81, hF82, hR83⟩ := hq78
      have hF84 := hF.trans hF82 rfl rfl
      have hR85 := hR.trans hR83 rfl
      have e86 := PLx.fr e_PL hF82 hR83 rfl rfl rfl
      have e87 := PTx.fr e_PL hF82 hR83 rfl rfl rfl
      refine Or.inl ⟨rfl, ?_⟩
      refine r_load (i := 53) (u := 0) (w := 2) rfl rfl rfl ?_
      refine r_load (i := 54) (u := 5) (w := 0) rfl rfl rfl ?_
      have h88 := hI81.b1
      refine r_call (i := 55) (u := 8) (v := 168) (w := 0) (b := 0) (na := 514) (C2 := xC168) (as := [(2, 33), vi j]) (s := []) rfl rfl rfl rfl rfl rfl rfl (sp168 (k := j) hI81 ⟨by omega, by omega⟩ (by omega)  (by omega)) (fun r89 S90 hq91 => ?_)
      obtain ⟨rfl, h92, wq93, hI94, hF95, hR96⟩ := hq91
      have hF97 := hF84.trans hF95 rfl rfl
      have hR98 := hR85.trans hR96 rfl
      have e99 := PLx.fr e86 hF95 hR96 rfl rfl rfl
      have e100 := PTx.fr e87 hF95 hR96 rfl rfl rfl
      refine Or.inl ⟨rfl, ?_⟩
      refine r_load (i := 56) (u := 0) (w := 2) rfl rfl rfl ?_
      refine r_load (i := 57) (u := 6) (w := 0) rfl rfl rfl ?_
      refine r_load (i := 58) (u := 4) (w := 0) rfl rfl rfl ?_
      have h101 := hI94.b1
      refine r_call (i := 59) (u := 8) (v := 159) (w := 0) (b := 0) (na := 771) (C2 := xC159) (as := [(2, 33), vi z72, vi lc]) (s := []) rfl rfl rfl rfl rfl rfl rfl (sp159 (k := z72) (l := lc) hI94 ⟨by omega, by omega⟩ ⟨by omega, by omega⟩ (by omega)  (by omega)) (fun r102 S103 hq104 => ?_)
      obtain ⟨rfl, h105, wq106, hI107, hF108, hR109⟩ := hq104
      have hF110 := hF97.trans hF108 rfl rfl
      have hR111 := hR98.trans hR109 rfl
      have e112 := PLx.fr e99 hF108 hR109 rfl rfl rfl
      have e113 := PTx.fr e100 hF108 hR109 rfl rfl rfl
      refine Or.inl ⟨rfl, ?_⟩
      refine r_load (i := 60) (u := 6) (w := 0) rfl rfl rfl ?_
      refine r_const (i := 61) (u := 4) (z := 4) rfl rfl ?_
      refine c_ge (i := 62) (v := 80) rfl ⟨by omega, by omega⟩ ⟨by omega, by omega⟩ (fun h114 => ?_) (fun h115 => ?_)
      · refine r_load (i := 80) (u := 0) (w := 2) rfl rfl rfl ?_
        refine r_const (i := 81) (u := 83) (z := 83) rfl rfl ?_
        refine r_const (i := 82) (u := 4294967293) (z := -3) rfl rfl ?_
        have h116 := hI107.b1
        refine r_call (i := 83) (u := 8) (v := 163) (w := 0) (b := 0) (na := 771) (C2 := xC163) (as := [(2, 33), vi 83, vi (-3)]) (s := []) rfl rfl rfl rfl rfl rfl rfl (sp163 (c := 83) (e := -3) hI107 ⟨by omega, by omega⟩ ⟨by omega, by omega⟩ (by omega)  (by omega)) (fun r117 S118 hq119 => ?_)
        obtain ⟨rfl, h120, wq121, hI122, hF123, hR124⟩ := hq119
        have hF125 := hF110.trans hF123 rfl rfl
        have hR126 := hR111.trans hR124 rfl
        have e127 := PLx.fr e112 hF123 hR124 rfl rfl rfl
        have e128 := PTx.fr e113 hF123 hR124 rfl rfl rfl
        refine Or.inl ⟨rfl, ?_⟩
        refine r_load (i := 84) (u := 4) (w := 0) rfl rfl rfl ?_
        refine r_load (i := 85) (u := 6) (w := 0) rfl rfl rfl ?_
        refine r_call (i := 86) (u := 65535) (v := 70) (w := 0) (b := 2) (na := 257) (C2 := xC70) (as := [vi z72]) (s := [vi lc]) rfl rfl rfl rfl rfl rfl rfl (sp70 (k := z72) hI122 ⟨by omega, by omega⟩   (by omega)) (fun r129 S130 hq131 => ?_)
        obtain ⟨z132, rfl, h133, h134, wd135, rfl⟩ := hq131
        refine Or.inr (Or.inl ⟨rfl, ?_⟩)
        refine r_iadd (i := 87) rfl ?_
        refine r_store (i := 88) (u := 4) (w := 0) (L1 := [some ((2, 33)), some (vi k), some (vi p), some (vi n1), some (vi (lc + z132)), some (vi j), some (vi z72), none]) rfl rfl rfl rfl ?_
        refine r_iinc (i := 89) (u := 1) (v := 5) (s := 1) (L1 := [some ((2, 33)), some (vi k), some (vi p), some (vi n1), some (vi (lc + z132)), some (vi (j + 1)), some (vi z72), none]) rfl rfl rfl rfl rfl ?_
        refine r_goto (i := 90) (v := 42) rfl ?_
        refine yT_drop (L1 := [some ((2, 33)), some (vi k), some (vi p), some (vi n1), some (vi (lc + z132)), some (vi (j + 1)), none, none]) rfl ?_
        have h136 := hI122.b1
        have h137 := hI122.b0
        have h138 : S118.f 31 1 = S103.f 31 1 := hF123.f rfl
        have h139 : S103.f 31 1 = S90.f 31 1 := hF108.f rfl
        have h140 : S90.f 31 1 = S77.f 31 1 := hF95.f rfl
        have h141 : S77.f 31 1 = S.f 31 1 := hF82.f rfl
        exact ih S118 hI122 hF125 hR126 e127 n1 (lc + z132) (j + 1) ⟨by omega, by omega⟩ ⟨by omega, by omega⟩ ⟨by omega, by omega⟩ (by omega) (by omega) (by omega) (by intro w9 hw0 hq9; have hwq := q_3 _ hw0 hq9; have hw1 := wq80 _ hwq; have hw2 := wq93 _ hw1; have hw3 := wq106 _ hw2; have hw4 := wq121 _ hw3; exact cW_c hw4 (wao_n (by omega) (show _ = dg p j by unfold dg; omega) q_4 (by omega))) (by exact lc_s q_4 wd135 (show _ = dg p j by unfold dg; omega) (by omega)) (by exact q_5) (by omega) (by omega)
      · refine r_load (i := 63) (u := 0) (w := 2) rfl rfl rfl ?_
        refine r_const (i := 64) (u := 10) (z := 10) rfl rfl ?_
        refine r_load (i := 65) (u := 6) (w := 0) rfl rfl rfl ?_
        refine r_call (i := 66) (u := 65535) (v := 64) (w := 0) (b := 2) (na := 257) (C2 := xC64) (as := [vi z72]) (s := [vi 10, (2, 33)]) rfl rfl rfl rfl rfl rfl rfl (sp64 (k := z72) hI107 ⟨by omega, by omega⟩   (by omega)) (fun r142 S143 hq144 => ?_)
        obtain ⟨z145, rfl, h_z145, h147, sbx148, rfl⟩ := hq144
        refine Or.inr (Or.inl ⟨rfl, ?_⟩)
        refine r_str (i := 67) (v := 18) rfl ?_
        have h149 := slv18
        refine r_load (i := 68) (u := 6) (w := 0) rfl rfl rfl ?_
        refine r_call (i := 69) (u := 65535) (v := 65) (w := 0) (b := 2) (na := 257) (C2 := xC65) (as := [vi z72]) (s := [(6, 18), (6, z145), vi 10, (2, 33)]) rfl rfl rfl rfl rfl rfl rfl (sp65 (k := z72) hI107 ⟨by omega, by omega⟩   (by omega)) (fun r150 S151 hq152 => ?_)
        obtain ⟨z153, rfl, h_z153, h155, sbd156, rfl⟩ := hq152
        refine Or.inr (Or.inl ⟨rfl, ?_⟩)
        have h157 := hI107.b0
        have h158 : S103.f 31 1 = S90.f 31 1 := hF108.f rfl
        have h159 : S90.f 31 1 = S77.f 31 1 := hF95.f rfl
        have h160 : S77.f 31 1 = S.f 31 1 := hF82.f rfl
        refine r_call (i := 70) (u := 8) (v := 160) (w := 0) (b := 0) (na := 2053) (C2 := xC160) (as := [(2, 33), vi 10, (6, z145), (6, 18), (6, z153)]) (s := []) rfl rfl rfl rfl rfl rfl rfl (sp160 (w0 := 10) (s := z145) (s2 := 18) (s3 := z153) hI107 ⟨by omega, by omega⟩ h_z145 ⟨by decide, by decide⟩ h_z153 (by omega) e112 (by omega)) (fun r161 S162 hq163 => ?_)
        obtain ⟨z164, rfl, h165, h166, h167, mb168, e169, hI170, hF171, hR172⟩ := hq163
        have hF173 := hF110.trans hF171 rfl rfl
        have hR174 := hR111.trans hR172 rfl
        refine Or.inr (Or.inl ⟨rfl, ?_⟩)
        refine r_store (i := 71) (u := 7) (w := 0) (L1 := [some ((2, 33)), some (vi k), some (vi p), some (vi n1), some (vi lc), some (vi j), some (vi z72), some (vi z164)]) rfl rfl rfl rfl ?_
        refine r_load (i := 72) (u := 0) (w := 2) rfl rfl rfl ?_
        refine r_const (i := 73) (u := 184) (z := 184) rfl rfl ?_
        refine r_load (i := 74) (u := 7) (w := 0) rfl rfl rfl ?_
        refine r_const (i := 75) (u := 1) (z := 1) rfl rfl ?_
        refine r_load (i := 76) (u := 6) (w := 0) rfl rfl rfl ?_
        refine r_call (i := 77) (u := 65535) (v := 70) (w := 0) (b := 2) (na := 257) (C2 := xC70) (as := [vi z72]) (s := [vi 1, vi z164, vi 184, (2, 33)]) rfl rfl rfl rfl rfl rfl rfl (sp70 (k := z72) hI170 ⟨by omega, by omega⟩   (by omega)) (fun r175 S176 hq177 => ?_)
        obtain ⟨z178, rfl, h179, h180, wd181, rfl⟩ := hq177
        refine Or.inr (Or.inl ⟨rfl, ?_⟩)
        refine r_isub (i := 78) rfl ?_
        have h182 := hI170.b1
        have h183 : S162.f 34 1 = S103.f 34 1 := hF171.f rfl
        refine r_call (i := 79) (u := 8) (v := 165) (w := 0) (b := 0) (na := 1028) (C2 := xC165) (as := [(2, 33), vi 184, vi z164, vi (1 - z178)]) (s := []) rfl rfl rfl rfl rfl rfl rfl (sp165 (c := 184) (o := z164) (e := 1 - z178) hI170 ⟨by omega, by omega⟩ ⟨by omega, by omega⟩ ⟨by omega, by omega⟩ (by omega)  (by omega)) (fun r184 S185 hq186 => ?_)
        obtain ⟨rfl, h187, wq188, hI189, hF190, hR191⟩ := hq186
        have hF192 := hF173.trans hF190 rfl rfl
        have hR193 := hR174.trans hR191 rfl
        have e194 := PLx.fr e169 hF190 hR191 rfl rfl rfl
        have e195 := PTx.fr e169 hF190 hR191 rfl rfl rfl
        refine Or.inl ⟨rfl, ?_⟩
        refine r_load (i := 80) (u := 0) (w := 2) rfl rfl rfl ?_
        refine r_const (i := 81) (u := 83) (z := 83) rfl rfl ?_
        refine r_const (i := 82) (u := 4294967293) (z := -3) rfl rfl ?_
        have h196 := hI189.b1
        refine r_call (i := 83) (u := 8) (v := 163) (w := 0) (b := 0) (na := 771) (C2 := xC163) (as := [(2, 33), vi 83, vi (-3)]) (s := []) rfl rfl rfl rfl rfl rfl rfl (sp163 (c := 83) (e := -3) hI189 ⟨by omega, by omega⟩ ⟨by omega, by omega⟩ (by omega)  (by omega)) (fun r197 S198 hq199 => ?_)
        obtain ⟨rfl, h200, wq201, hI202, hF203, hR204⟩ := hq199
        have hF205 := hF192.trans hF203 rfl rfl
        have hR206 := hR193.trans hR204 rfl
        have e207 := PLx.fr e194 hF203 hR204 rfl rfl rfl
        have e208 := PTx.fr e195 hF203 hR204 rfl rfl rfl
        refine Or.inl ⟨rfl, ?_⟩
        refine r_load (i := 84) (u := 4) (w := 0) rfl rfl rfl ?_
        refine r_load (i := 85) (u := 6) (w := 0) rfl rfl rfl ?_
        refine r_call (i := 86) (u := 65535) (v := 70) (w := 0) (b := 2) (na := 257) (C2 := xC70) (as := [vi z72]) (s := [vi lc]) rfl rfl rfl rfl rfl rfl rfl (sp70 (k := z72) hI202 ⟨by omega, by omega⟩   (by omega)) (fun r209 S210 hq211 => ?_)
        obtain ⟨z212, rfl, h213, h214, wd215, rfl⟩ := hq211
        refine Or.inr (Or.inl ⟨rfl, ?_⟩)
        refine r_iadd (i := 87) rfl ?_
        refine r_store (i := 88) (u := 4) (w := 0) (L1 := [some ((2, 33)), some (vi k), some (vi p), some (vi n1), some (vi (lc + z212)), some (vi j), some (vi z72), some (vi z164)]) rfl rfl rfl rfl ?_
        refine r_iinc (i := 89) (u := 1) (v := 5) (s := 1) (L1 := [some ((2, 33)), some (vi k), some (vi p), some (vi n1), some (vi (lc + z212)), some (vi (j + 1)), some (vi z72), some (vi z164)]) rfl rfl rfl rfl rfl ?_
        refine r_goto (i := 90) (v := 42) rfl ?_
        refine yT_drop (L1 := [some ((2, 33)), some (vi k), some (vi p), some (vi n1), some (vi (lc + z212)), some (vi (j + 1)), none, none]) rfl ?_
        have h216 := hI202.b1
        have h217 := hI202.b0
        have h218 : S198.f 31 1 = S185.f 31 1 := hF203.f rfl
        have h219 : S185.f 31 1 = S162.f 31 1 := hF190.f rfl
        exact ih S198 hI202 hF205 hR206 e207 n1 (lc + z212) (j + 1) ⟨by omega, by omega⟩ ⟨by omega, by omega⟩ ⟨by omega, by omega⟩ (by omega) (by omega) (by omega) (by intro w9 hw0 hq9; have hwq := q_3 _ hw0 hq9; have hw1 := wq80 _ hwq; have hw2 := wq93 _ hw1; have hw3 := wq106 _ hw2; obtain ⟨hw4, ew4⟩ := mb168 (by decide) (by decide) _ hw3; have hw5 := wq188 _ hw4; have hw6 := wq201 _ hw5; subst ew4; exact cW_c hw6 (wao_b (by omega) (show _ = dg p j by unfold dg; omega) q_4 (by omega) sbx148 sbd156 wd181)) (by exact lc_s q_4 wd215 (show _ = dg p j by unfold dg; omega) (by omega)) (by exact q_5) (by omega) (by omega)
/-- ProxyForge$Writer.askOn -/
theorem sp142 {G : xk} {S : yS} {d : Nat} (hI : yI S) {k : Int} (h_k : 0 ≤ k ∧ k ≤ 23) {p : Int} (h_p : -2147483648 ≤ p ∧ p ≤ 2147483647) (p_0 : S.f 31 1 + 407 ≤ 60000) (p_1 : S.f 34 1 + 53 ≤ 60000) (e_PL : PL S) (hd : 8 ≤ d) : yT xPr G LY xC142 0 [some ((2, 33)), some (vi k), some (vi p)] [] S d (fun r S' => r = (0, (0, 0)) ∧ (S.f 31 1 ≤ S'.f 31 1 ∧ S'.f 31 1 ≤ S.f 31 1 + 407) ∧ (S.f 34 1 ≤ S'.f 34 1 ∧ S'.f 34 1 ≤ S.f 34 1 + 53) ∧ wK S S' (wak (pkR 4 S) k p) ∧ PL S' ∧ yI S' ∧ yFr [(31, 1), (33, 14), (33, 15), (34, 1), (36, 5)] [37, 100, 101, 102, 103, 105] S S' ∧ yRm [0, 1, 2, 3] S S') := by
  refine yT_pad 5 ?_
  show yT xPr G LY xC142 0 [some ((2, 33)), some (vi k), some (vi p), none, none, none, none, none] [] S d _
  obtain ⟨d, rfl⟩ : ∃ q, d = q + 1 := ⟨d - 1, by omega⟩
  have hF : yFr [(31, 1), (33, 14), (33, 15), (34, 1), (36, 5)] [37, 100, 101, 102, 103, 105] S S := yFr.refl S
  have hR : yRm [0, 1, 2, 3] S S := yRm.refl S
  have h1 := hI.b0
  have h2 := hI.b1
  refine r_load (i := 0) (u := 0) (w := 2) rfl rfl rfl ?_
  refine r_const (i := 1) (u := 42) (z := 42) rfl rfl ?_
  refine r_const (i := 2) (u := 1) (z := 1) rfl rfl ?_
  refine r_call (i := 3) (u := 8) (v := 163) (w := 0) (b := 0) (na := 771) (C2 := xC163) (as := [(2, 33), vi 42, vi 1]) (s := []) rfl rfl rfl rfl rfl rfl rfl (sp163 (c := 42) (e := 1) hI ⟨by omega, by omega⟩ ⟨by omega, by omega⟩ (by omega)  (by omega)) (fun r3 S4 hq5 => ?_)
  obtain ⟨rfl, h6, wq7, hI8, hF9, hR10⟩ := hq5
  have hF11 := hF.trans hF9 rfl rfl
  have hR12 := hR.trans hR10 rfl
  have e13 := PLx.fr e_PL hF9 hR10 rfl rfl rfl
  have e14 := PTx.fr e_PL hF9 hR10 rfl rfl rfl
  refine Or.inl ⟨rfl, ?_⟩
  refine r_load (i := 4) (u := 0) (w := 2) rfl rfl rfl ?_
  refine r_const (i := 5) (u := 180) (z := 180) rfl rfl ?_
  refine r_load (i := 6) (u := 0) (w := 2) rfl rfl rfl ?_
  have h15 := hI8.b0
  have h16 : S4.f 31 1 = S.f 31 1 := hF9.f rfl
  refine r_call (i := 7) (u := 8) (v := 146) (w := 0) (b := 0) (na := 257) (C2 := xC146) (as := [(2, 33)]) (s := [vi 180, (2, 33)]) rfl rfl rfl rfl rfl rfl rfl (sp146  hI8  (by omega) e13 (by omega)) (fun r17 S18 hq19 => ?_)
  obtain ⟨z20, rfl, h21, h22, h23, wj24, e25, hI26, hF27, hR28⟩ := hq19
  have hF29 := hF11.trans hF27 rfl rfl
  have hR30 := hR12.trans hR28 rfl
  refine Or.inr (Or.inl ⟨rfl, ?_⟩)
  refine r_const (i := 8) (u := 0) (z := 0) rfl rfl ?_
  have h31 := hI26.b1
  have h32 : S18.f 34 1 = S4.f 34 1 := hF27.f rfl
  refine r_call (i := 9) (u := 8) (v := 165) (w := 0) (b := 0) (na := 1028) (C2 := xC165) (as := [(2, 33), vi 180, vi z20, vi 0]) (s := []) rfl rfl rfl rfl rfl rfl rfl (sp165 (c := 180) (o := z20) (e := 0) hI26 ⟨by omega, by omega⟩ ⟨by omega, by omega⟩ ⟨by omega, by omega⟩ (by omega)  (by omega)) (fun r33 S34 hq35 => ?_)
  obtain ⟨rfl, h36, wq37, hI38, hF39, hR40⟩ := hq35
  have hF41 := hF29.trans hF39 rfl rfl
  have hR42 := hR30.trans hR40 rfl
  have e43 := PLx.fr e25 hF39 hR40 rfl rfl rfl
  have e44 := PTx.fr e25 hF39 hR40 rfl rfl rfl
  refine Or.inl ⟨rfl, ?_⟩
  refine r_load (i := 10) (u := 0) (w := 2) rfl rfl rfl ?_
  refine r_const (i := 11) (u := 42) (z := 42) rfl rfl ?_
  refine r_const (i := 12) (u := 1) (z := 1) rfl rfl ?_
  have h45 := hI38.b1
  refine r_call (i := 13) (u := 8) (v := 163) (w := 0) (b := 0) (na := 771) (C2 := xC163) (as := [(2, 33), vi 42, vi 1]) (s := []) rfl rfl rfl rfl rfl rfl rfl (sp163 (c := 42) (e := 1) hI38 ⟨by omega, by omega⟩ ⟨by omega, by omega⟩ (by omega)  (by omega)) (fun r46 S47 hq48 => ?_)
  obtain ⟨rfl, h49, wq50, hI51, hF52, hR53⟩ := hq48
  have hF54 := hF41.trans hF52 rfl rfl
  have hR55 := hR42.trans hR53 rfl
  have e56 := PLx.fr e43 hF52 hR53 rfl rfl rfl
  have e57 := PTx.fr e44 hF52 hR53 rfl rfl rfl
  refine Or.inl ⟨rfl, ?_⟩
  refine r_load (i := 14) (u := 0) (w := 2) rfl rfl rfl ?_
  refine r_load (i := 15) (u := 1) (w := 0) rfl rfl rfl ?_
  have h58 := hI51.b1
  refine r_call (i := 16) (u := 8) (v := 168) (w := 0) (b := 0) (na := 514) (C2 := xC168) (as := [(2, 33), vi k]) (s := []) rfl rfl rfl rfl rfl rfl rfl (sp168 (k := k) hI51 ⟨by omega, by omega⟩ (by omega)  (by omega)) (fun r59 S60 hq61 => ?_)
  obtain ⟨rfl, h62, wq63, hI64, hF65, hR66⟩ := hq61
  have hF67 := hF54.trans hF65 rfl rfl
  have hR68 := hR55.trans hR66 rfl
  have e69 := PLx.fr e56 hF65 hR66 rfl rfl rfl
  have e70 := PTx.fr e57 hF65 hR66 rfl rfl rfl
  refine Or.inl ⟨rfl, ?_⟩
  refine r_load (i := 17) (u := 2) (w := 0) rfl rfl rfl ?_
  refine r_call (i := 18) (u := 65535) (v := 67) (w := 0) (b := 2) (na := 513) (C2 := xC67) (as := [vi p]) (s := []) rfl rfl rfl rfl rfl rfl rfl (sp67 (p := p) hI64 ⟨by omega, by omega⟩   (by omega)) (fun r71 S72 hq73 => ?_)
  obtain ⟨z74, rfl, h75, h76, hmn77, rfl⟩ := hq73
  refine Or.inr (Or.inl ⟨rfl, ?_⟩)
  refine r_store (i := 19) (u := 3) (w := 0) (L1 := [some ((2, 33)), some (vi k), some (vi p), some (vi z74), none, none, none, none]) rfl rfl rfl rfl ?_
  refine r_load (i := 20) (u := 3) (w := 0) rfl rfl rfl ?_
  refine z_ne (i := 21) (v := 27) rfl ⟨by omega, by omega⟩ (fun h78 => ?_) (fun h79 => ?_)
  · refine r_load (i := 27) (u := 0) (w := 2) rfl rfl rfl ?_
    refine r_load (i := 28) (u := 3) (w := 0) rfl rfl rfl ?_
    have h80 := hI64.b1
    refine r_call (i := 29) (u := 8) (v := 168) (w := 0) (b := 0) (na := 514) (C2 := xC168) (as := [(2, 33), vi z74]) (s := []) rfl rfl rfl rfl rfl rfl rfl (sp168 (k := z74) hI64 ⟨by omega, by omega⟩ (by omega)  (by omega)) (fun r81 S82 hq83 => ?_)
    obtain ⟨rfl, h84, wq85, hI86, hF87, hR88⟩ := hq83
    have hF89 := hF67.trans hF87 rfl rfl
    have hR90 := hR68.trans hR88 rfl
    have e91 := PLx.fr e69 hF87 hR88 rfl rfl rfl
    have e92 := PTx.fr e70 hF87 hR88 rfl rfl rfl
    refine Or.inl ⟨rfl, ?_⟩
    refine r_load (i := 30) (u := 0) (w := 2) rfl rfl rfl ?_
    refine r_const (i := 31) (u := 189) (z := 189) rfl rfl ?_
    refine r_load (i := 32) (u := 0) (w := 2) rfl rfl rfl ?_
    refine r_getf (i := 33) (v := 6) (w := 8) (x := (2, 36)) rfl ly33 rfl rfl fun _ => ?_
    refine r_const (i := 34) (u := 0) (z := 0) rfl rfl ?_
    have h94 := hI86.b0
    have h95 : S82.f 31 1 = S60.f 31 1 := hF87.f rfl
    have h96 : S60.f 31 1 = S47.f 31 1 := hF65.f rfl
    have h97 : S47.f 31 1 = S34.f 31 1 := hF52.f rfl
    have h98 : S34.f 31 1 = S18.f 31 1 := hF39.f rfl
    refine r_call (i := 35) (u := 9) (v := 89) (w := 0) (b := 0) (na := 770) (C2 := xC89) (as := [(2, 36), vi 0]) (s := [vi 189, (2, 33)]) rfl rfl rfl rfl rfl rfl rfl (sp89 (t := 0) hI86 ⟨by omega, by omega⟩ (by omega) e91 (by omega)) (fun r99 S100 hq101 => ?_)
    obtain ⟨z102, rfl, h103, h104, h105, wi106, e107, hI108, hF109, hR110⟩ := hq101
    have hF111 := hF89.trans hF109 rfl rfl
    have hR112 := hR90.trans hR110 rfl
    refine Or.inr (Or.inl ⟨rfl, ?_⟩)
    refine r_const (i := 36) (u := 0) (z := 0) rfl rfl ?_
    have h113 := hI108.b1
    have h114 : S100.f 34 1 = S82.f 34 1 := hF109.f rfl
    refine r_call (i := 37) (u := 8) (v := 165) (w := 0) (b := 0) (na := 1028) (C2 := xC165) (as := [(2, 33), vi 189, vi z102, vi 0]) (s := []) rfl rfl rfl rfl rfl rfl rfl (sp165 (c := 189) (o := z102) (e := 0) hI108 ⟨by omega, by omega⟩ ⟨by omega, by omega⟩ ⟨by omega, by omega⟩ (by omega)  (by omega)) (fun r115 S116 hq117 => ?_)
    obtain ⟨rfl, h118, wq119, hI120, hF121, hR122⟩ := hq117
    have hF123 := hF111.trans hF121 rfl rfl
    have hR124 := hR112.trans hR122 rfl
    have e125 := PLx.fr e107 hF121 hR122 rfl rfl rfl
    have e126 := PTx.fr e107 hF121 hR122 rfl rfl rfl
    refine Or.inl ⟨rfl, ?_⟩
    refine r_const (i := 38) (u := 1) (z := 1) rfl rfl ?_
    refine r_store (i := 39) (u := 4) (w := 0) (L1 := [some ((2, 33)), some (vi k), some (vi p), some (vi z74), some (vi 1), none, none, none]) rfl rfl rfl rfl ?_
    refine r_const (i := 40) (u := 0) (z := 0) rfl rfl ?_
    refine r_store (i := 41) (u := 5) (w := 0) (L1 := [some ((2, 33)), some (vi k), some (vi p), some (vi z74), some (vi 1), some (vi 0), none, none]) rfl rfl rfl rfl ?_
    have h127 := hI120.b1
    have h128 := hI120.b0
    have h129 : S116.f 31 1 = S100.f 31 1 := hF121.f rfl
    exact lp142_42 h_k h_p p_0 p_1 hd _ S116 hI120 hF123 hR124 e125 z74 1 0 ⟨by omega, by omega⟩ ⟨by omega, by omega⟩ ⟨by omega, by omega⟩ (by omega) (by omega) (by omega) (by intro w9 hw0 hq9; have hw1 := wq7 _ hw0; obtain ⟨hw2, ew2⟩ := wj24 _ hw1 (okQ_e (by simp only [g_an, g_ak, g_ub, g_su, g_di, g_ah, g_sc, g_mx, g_ei, g_ec, g_by, g_mv, g_dp, g_op, g_oB, g_oE, g_pt, g_cl, g_m2, g_mb, g_fd, g_gf, g_om, g_20, g_pu, g_l1, g_lv, g_cs, g_bx, g_ld, g_ao, g_a0]) hq9); have hw3 := wq37 _ hw2; have hw4 := wq50 _ hw3; have hw5 := wq63 _ hw4; have hw6 := wq85 _ hw5; obtain ⟨hw7, ew7⟩ := wi106 _ hw6; rw [((pkR_fr (b := 4) hF87 rfl).trans ((pkR_fr (b := 4) hF65 rfl).trans ((pkR_fr (b := 4) hF52 rfl).trans ((pkR_fr (b := 4) hF39 rfl).trans ((pkR_fr (b := 4) hF27 rfl).trans (pkR_fr (b := 4) hF9 rfl))))))] at hw7 ew7; have hw8 := wq119 _ hw7; subst ew2; subst ew7; exact cW_c hw8 (wa0_n rfl (hmn_of hmn77 (by omega) (by omega)) (by rw [← (hmn_of hmn77 (by omega) (by omega))]; omega))) (by show (1 : Int) = 1 + 0; rfl) (by exact hmn_of hmn77 (by omega) (by omega)) (by omega) (Int.lt_succ_toNat _)
  · refine r_load (i := 22) (u := 0) (w := 2) rfl rfl rfl ?_
    refine r_const (i := 23) (u := 1) (z := 1) rfl rfl ?_
    refine r_const (i := 24) (u := 1) (z := 1) rfl rfl ?_
    have h130 := hI64.b1
    refine r_call (i := 25) (u := 8) (v := 163) (w := 0) (b := 0) (na := 771) (C2 := xC163) (as := [(2, 33), vi 1, vi 1]) (s := []) rfl rfl rfl rfl rfl rfl rfl (sp163 (c := 1) (e := 1) hI64 ⟨by omega, by omega⟩ ⟨by omega, by omega⟩ (by omega)  (by omega)) (fun r131 S132 hq133 => ?_)
    obtain ⟨rfl, h134, wq135, hI136, hF137, hR138⟩ := hq133
    have hF139 := hF67.trans hF137 rfl rfl
    have hR140 := hR68.trans hR138 rfl
    have e141 := PLx.fr e69 hF137 hR138 rfl rfl rfl
    have e142 := PTx.fr e70 hF137 hR138 rfl rfl rfl
    refine Or.inl ⟨rfl, ?_⟩
    refine r_goto (i := 26) (v := 38) rfl ?_
    refine r_const (i := 38) (u := 1) (z := 1) rfl rfl ?_
    refine r_store (i := 39) (u := 4) (w := 0) (L1 := [some ((2, 33)), some (vi k), some (vi p), some (vi z74), some (vi 1), none, none, none]) rfl rfl rfl rfl ?_
    refine r_const (i := 40) (u := 0) (z := 0) rfl rfl ?_
    refine r_store (i := 41) (u := 5) (w := 0) (L1 := [some ((2, 33)), some (vi k), some (vi p), some (vi z74), some (vi 1), some (vi 0), none, none]) rfl rfl rfl rfl ?_
    have h143 := hI136.b1
    have h144 := hI136.b0
    have h145 : S132.f 31 1 = S60.f 31 1 := hF137.f rfl
    have h146 : S60.f 31 1 = S47.f 31 1 := hF65.f rfl
    have h147 : S47.f 31 1 = S34.f 31 1 := hF52.f rfl
    have h148 : S34.f 31 1 = S18.f 31 1 := hF39.f rfl
    exact lp142_42 h_k h_p p_0 p_1 hd _ S132 hI136 hF139 hR140 e141 z74 1 0 ⟨by omega, by omega⟩ ⟨by omega, by omega⟩ ⟨by omega, by omega⟩ (by omega) (by omega) (by omega) (by intro w9 hw0 hq9; have hw1 := wq7 _ hw0; obtain ⟨hw2, ew2⟩ := wj24 _ hw1 (okQ_e (by simp only [g_an, g_ak, g_ub, g_su, g_di, g_ah, g_sc, g_mx, g_ei, g_ec, g_by, g_mv, g_dp, g_op, g_oB, g_oE, g_pt, g_cl, g_m2, g_mb, g_fd, g_gf, g_om, g_20, g_pu, g_l1, g_lv, g_cs, g_bx, g_ld, g_ao, g_a0]) hq9); have hw3 := wq37 _ hw2; have hw4 := wq50 _ hw3; have hw5 := wq63 _ hw4; have hw6 := wq135 _ hw5; subst ew2; exact cW_c hw6 (wa0_0 (by rw [← (hmn_of hmn77 (by omega) (by omega))]; omega))) (by show (1 : Int) = 1 + 0; rfl) (by exact hmn_of hmn77 (by omega) (by omega)) (by omega) (Int.lt_succ_toNat _)
/-- ProxyForge$Writer.callSuper -/
theorem sp145 {G : xk} {S : yS} {d : Nat} (hI : yI S) {m : Int} (h_m : 0 ≤ m ∧ m ≤ 59) (p_0 : S.f 31 1 + 42 ≤ 60000) (p_1 : S.f 34 1 + 12 ≤ 60000) (e_PL : PL S) (e_FA : FA S) (hd : 8 ≤ d) : yT xPr G LY xC145 0 [some ((2, 33)), some (vi m)] [] S d (fun r S' => r = (0, (0, 0)) ∧ (S.f 31 1 ≤ S'.f 31 1 ∧ S'.f 31 1 ≤ S.f 31 1 + 42) ∧ (S.f 34 1 ≤ S'.f 34 1 ∧ S'.f 34 1 ≤ S.f 34 1 + 12) ∧ wK S S' (wsu (pkR 4 S) (S.a 13 m.toNat) (S.a 14 m.toNat) (suT (dK S) (S.a 10 m.toNat)) (suG (dK S) (S.a 10 m.toNat))) ∧ PL S' ∧ FA S' ∧ yI S' ∧ yFr [(31, 1), (33, 14), (33, 15), (34, 1), (36, 5)] [37, 100, 101, 102, 103, 105] S S' ∧ yRm [0, 1, 2, 3] S S') := by
  refine yT_pad 1 ?_
  show yT xPr G LY xC145 0 [some ((2, 33)), some (vi m), none] [] S d _
  obtain ⟨d, rfl⟩ : ∃ q, d = q + 1 := ⟨d - 1, by omega⟩
  have hF : yFr [(31, 1), (33, 14), (33, 15), (34, 1), (36, 5)] [37, 100, 101, 102, 103, 105] S S := yFr.refl S
  have hR : yRm [0, 1, 2, 3] S S := yRm.refl S
  have h1 := hI.b0
  have h2 := hI.b1
  refine r_load (i := 0) (u := 0) (w := 2) rfl rfl rfl ?_
  refine r_getf (i := 1) (v := 2) (w := 8) (x := (2, 17)) rfl ly33 rfl rfl fun _ => ?_
  refine r_load (i := 2) (u := 0) (w := 2) rfl rfl rfl ?_
  refine r_getf (i := 3) (v := 1) (w := 8) (x := (2, 9)) rfl ly33 rfl rfl fun _ => ?_
  refine r_getf (i := 4) (v := 1) (w := 2) (x := (2, 10)) rfl ly9 rfl rfl fun _ => ?_
  refine r_load (i := 5) (u := 1) (w := 0) rfl rfl rfl ?_
  refine a_int (i := 6) rfl ly10 rfl (by omega) (by omega) fun h6 => ?_
  have h7 := hI.a ta10 m.toNat
  refine r_call (i := 7) (u := 3) (v := 56) (w := 0) (b := 0) (na := 770) (C2 := xC56) (as := [(2, 17), vi (S.a 10 m.toNat)]) (s := []) rfl rfl rfl rfl rfl rfl rfl (sp56 (t := S.a 10 m.toNat) hI ⟨by omega, by omega⟩  e_FA (by omega)) (fun r8 S9 hq10 => ?_)
  obtain ⟨z11, rfl, h12, h13, fm14, rfl⟩ := hq10
  refine Or.inr (Or.inl ⟨rfl, ?_⟩)
  refine r_store (i := 8) (u := 2) (w := 0) (L1 := [some ((2, 33)), some (vi m), some (vi z11)]) rfl rfl rfl rfl ?_
  refine r_load (i := 9) (u := 0) (w := 2) rfl rfl rfl ?_
  refine r_const (i := 10) (u := 42) (z := 42) rfl rfl ?_
  refine r_const (i := 11) (u := 1) (z := 1) rfl rfl ?_
  refine r_call (i := 12) (u := 8) (v := 163) (w := 0) (b := 0) (na := 771) (C2 := xC163) (as := [(2, 33), vi 42, vi 1]) (s := []) rfl rfl rfl rfl rfl rfl rfl (sp163 (c := 42) (e := 1) hI ⟨by omega, by omega⟩ ⟨by omega, by omega⟩ (by omega)  (by omega)) (fun r15 S16 hq17 => ?_)
  obtain ⟨rfl, h18, wq19, hI20, hF21, hR22⟩ := hq17
  have hF23 := hF.trans hF21 rfl rfl
  have hR24 := hR.trans hR22 rfl
  have e25 := PLx.fr e_PL hF21 hR22 rfl rfl rfl
  have e26 := FAx.fr e_FA hF21 rfl rfl
  have e27 := PTx.fr e_PL hF21 hR22 rfl rfl rfl
  refine Or.inl ⟨rfl, ?_⟩
  refine r_load (i := 13) (u := 0) (w := 2) rfl rfl rfl ?_
  refine r_load (i := 14) (u := 0) (w := 2) rfl rfl rfl ?_
  refine r_getf (i := 15) (v := 1) (w := 8) (x := (2, 9)) rfl ly33 rfl rfl fun _ => ?_
  refine r_getf (i := 16) (v := 4) (w := 2) (x := (2, 13)) rfl ly9 rfl rfl fun _ => ?_
  refine r_load (i := 17) (u := 1) (w := 0) rfl rfl rfl ?_
  refine a_int (i := 18) rfl ly13 rfl (by omega) (by omega) fun h30 => ?_
  have kp31 := hI20.k13 m.toNat
  have h32 : S16.a 13 m.toNat = S.a 13 m.toNat := hF21.a rfl _
  refine r_const (i := 19) (u := 1) (z := 1) rfl rfl ?_
  have h33 := hI20.b1
  refine r_call (i := 20) (u := 8) (v := 158) (w := 0) (b := 0) (na := 1795) (C2 := xC158) (as := [(2, 33), vi (S16.a 13 m.toNat), vi 1]) (s := []) rfl rfl rfl rfl rfl rfl rfl (sp158 (p := S16.a 13 m.toNat) (fl := 1) hI20 ⟨by omega, by omega⟩ ⟨by omega, by omega⟩ (by omega)  (by omega)) (fun r34 S35 hq36 => ?_)
  obtain ⟨rfl, h37, wq38, hI39, hF40, hR41⟩ := hq36
  have hF42 := hF23.trans hF40 rfl rfl
  have hR43 := hR24.trans hR41 rfl
  have e44 := PLx.fr e25 hF40 hR41 rfl rfl rfl
  have e45 := FAx.fr e26 hF40 rfl rfl
  have e46 := PTx.fr e27 hF40 hR41 rfl rfl rfl
  refine Or.inl ⟨rfl, ?_⟩
  refine r_load (i := 21) (u := 2) (w := 0) rfl rfl rfl ?_
  refine r_const (i := 22) (u := 4294967295) (z := -1) rfl rfl ?_
  refine c_ne (i := 23) (v := 37) rfl ⟨by omega, by omega⟩ ⟨by omega, by omega⟩ (fun h47 => ?_) (fun h48 => ?_)
  · refine r_load (i := 37) (u := 0) (w := 2) rfl rfl rfl ?_
    refine r_const (i := 38) (u := 183) (z := 183) rfl rfl ?_
    refine r_load (i := 39) (u := 0) (w := 2) rfl rfl rfl ?_
    refine r_const (i := 40) (u := 11) (z := 11) rfl rfl ?_
    refine r_load (i := 41) (u := 2) (w := 0) rfl rfl rfl ?_
    have h49 := hI39.b0
    have h50 : S35.f 31 1 = S16.f 31 1 := hF40.f rfl
    have h51 : S16.f 31 1 = S.f 31 1 := hF21.f rfl
    refine r_call (i := 42) (u := 8) (v := 167) (w := 0) (b := 0) (na := 1027) (C2 := xC167) (as := [(2, 33), vi 11, vi z11]) (s := [vi 183, (2, 33)]) rfl rfl rfl rfl rfl rfl rfl (sp167 (w0 := 11) (t := z11) hI39 ⟨by omega, by omega⟩ ⟨by omega, by omega⟩ (by omega) e44 (by omega)) (fun r52 S53 hq54 => ?_)
    obtain ⟨z55, rfl, h56, h57, h58, om59, e60, hI61, hF62, hR63⟩ := hq54
    have hF64 := hF42.trans hF62 rfl rfl
    have hR65 := hR43.trans hR63 rfl
    have e66 := FAx.fr e45 hF62 rfl rfl
    refine Or.inr (Or.inl ⟨rfl, ?_⟩)
    refine r_load (i := 43) (u := 0) (w := 2) rfl rfl rfl ?_
    refine r_load (i := 44) (u := 1) (w := 0) rfl rfl rfl ?_
    have h67 : S53.a 13 m.toNat = S35.a 13 m.toNat := hF62.a rfl _
    have h68 : S35.a 13 m.toNat = S16.a 13 m.toNat := hF40.a rfl _
    have h69 : S16.a 13 m.toNat = S.a 13 m.toNat := hF21.a rfl _
    have h70 := hI61.a ta14 m.toNat
    have h71 : S53.a 14 m.toNat = S35.a 14 m.toNat := hF62.a rfl _
    have h72 : S35.a 14 m.toNat = S16.a 14 m.toNat := hF40.a rfl _
    have h73 : S16.a 14 m.toNat = S.a 14 m.toNat := hF21.a rfl _
    refine r_call (i := 45) (u := 8) (v := 148) (w := 0) (b := 0) (na := 514) (C2 := xC148) (as := [(2, 33), vi m]) (s := [vi z55, vi 183, (2, 33)]) rfl rfl rfl rfl rfl rfl rfl (sp148 (m := m) hI61 ⟨by omega, by omega⟩   (by omega)) (fun r74 S75 hq76 => ?_)
    obtain ⟨z77, rfl, h78, h79, chg80, rfl⟩ := hq76
    refine Or.inr (Or.inl ⟨rfl, ?_⟩)
    have h81 := hI61.b1
    have h82 : S53.f 34 1 = S35.f 34 1 := hF62.f rfl
    refine r_call (i := 46) (u := 8) (v := 165) (w := 0) (b := 0) (na := 1028) (C2 := xC165) (as := [(2, 33), vi 183, vi z55, vi z77]) (s := []) rfl rfl rfl rfl rfl rfl rfl (sp165 (c := 183) (o := z55) (e := z77) hI61 ⟨by omega, by omega⟩ ⟨by omega, by omega⟩ ⟨by omega, by omega⟩ (by omega)  (by omega)) (fun r83 S84 hq85 => ?_)
    obtain ⟨rfl, h86, wq87, hI88, hF89, hR90⟩ := hq85
    have hF91 := hF64.trans hF89 rfl rfl
    have hR92 := hR65.trans hR90 rfl
    have e93 := FAx.fr e66 hF89 rfl rfl
    have e94 := PLx.fr e60 hF89 hR90 rfl rfl rfl
    have e95 := PTx.fr e60 hF89 hR90 rfl rfl rfl
    refine Or.inl ⟨rfl, ?_⟩
    have h96 := hI88.b0
    have h97 : S84.f 31 1 = S53.f 31 1 := hF89.f rfl
    have h98 := hI88.b1
    have h99 : S84.a 13 m.toNat = S53.a 13 m.toNat := hF89.a rfl _
    have h100 : S53.a 13 m.toNat = S35.a 13 m.toNat := hF62.a rfl _
    have h101 : S35.a 13 m.toNat = S16.a 13 m.toNat := hF40.a rfl _
    have h102 : S16.a 13 m.toNat = S.a 13 m.toNat := hF21.a rfl _
    have h103 := hI88.a ta14 m.toNat
    have h104 : S84.a 14 m.toNat = S53.a 14 m.toNat := hF89.a rfl _
    have h105 : S53.a 14 m.toNat = S35.a 14 m.toNat := hF62.a rfl _
    have h106 : S35.a 14 m.toNat = S16.a 14 m.toNat := hF40.a rfl _
    have h107 : S16.a 14 m.toNat = S.a 14 m.toNat := hF21.a rfl _
    have h108 := hI88.a ta10 m.toNat
    have h109 : S84.a 10 m.toNat = S53.a 10 m.toNat := hF89.a rfl _
    have h110 : S53.a 10 m.toNat = S35.a 10 m.toNat := hF62.a rfl _
    have h111 : S35.a 10 m.toNat = S16.a 10 m.toNat := hF40.a rfl _
    have h112 : S16.a 10 m.toNat = S.a 10 m.toNat := hF21.a rfl _
    have h113 := hI88.a ta10 m.toNat
    exact r_ret0 (i := 47) rfl ⟨rfl, (by omega), (by omega), (by intro w9 hw0 hq9; have hw1 := wq19 _ hw0; have hw2 := wq38 _ hw1; obtain ⟨hw3, ew3⟩ := om59 (by decide) (by decide) _ hw2 (okQ_e (by simp only [g_an, g_ak, g_ub, g_su, g_di, g_ah, g_sc, g_mx, g_ei, g_ec, g_by, g_mv, g_dp, g_op, g_oB, g_oE, g_pt, g_cl, g_m2, g_mb, g_fd, g_gf, g_om, g_20, g_pu, g_l1, g_lv, g_cs, g_bx, g_ld, g_ao, g_a0]) hq9); have hw4 := wq87 _ hw3; subst ew3; first | exact cW_c hw4 (wsu_eq ((pkR_fr (b := 4) hF40 rfl).trans (pkR_fr (b := 4) hF21 rfl)) ((show S35.f 17 6 = S.f 17 6 by omega).trans (su_n fm14 (by omega)).1) (su_n fm14 (by omega)).2 (by omega) (chg_c chg80 (by omega) (by omega))) | exact cW_c hw4 (wsu_eq ((pkR_fr (b := 4) hF40 rfl).trans (pkR_fr (b := 4) hF21 rfl)) (su_y fm14 (by omega)).1 (su_y fm14 (by omega)).2 (by omega) (chg_c chg80 (by omega) (by omega)))), e94, e93, hI88, hF91, hR92⟩
  · refine r_load (i := 24) (u := 0) (w := 2) rfl rfl rfl ?_
    refine r_const (i := 25) (u := 183) (z := 183) rfl rfl ?_
    refine r_load (i := 26) (u := 0) (w := 2) rfl rfl rfl ?_
    refine r_const (i := 27) (u := 10) (z := 10) rfl rfl ?_
    refine r_load (i := 28) (u := 0) (w := 2) rfl rfl rfl ?_
    refine r_getf (i := 29) (v := 2) (w := 8) (x := (2, 17)) rfl ly33 rfl rfl fun _ => ?_
    have h115 := hI39.f tf17_6
    have h116 : S35.f 17 6 = S16.f 17 6 := hF40.f rfl
    have h117 : S16.f 17 6 = S.f 17 6 := hF21.f rfl
    refine r_getf (i := 30) (v := 6) (w := 3) (x := vi (S35.f 17 6)) rfl ly17 rfl rfl fun h118 => ?_
    have h118 : Rg (S35.f 17 6) := h118
    have h119 := hI39.b0
    have h120 : S35.f 31 1 = S16.f 31 1 := hF40.f rfl
    have h121 : S16.f 31 1 = S.f 31 1 := hF21.f rfl
    refine r_call (i := 31) (u := 8) (v := 167) (w := 0) (b := 0) (na := 1027) (C2 := xC167) (as := [(2, 33), vi 10, vi (S35.f 17 6)]) (s := [vi 183, (2, 33)]) rfl rfl rfl rfl rfl rfl rfl (sp167 (w0 := 10) (t := S35.f 17 6) hI39 ⟨by omega, by omega⟩ ⟨by omega, by omega⟩ (by omega) e44 (by omega)) (fun r122 S123 hq124 => ?_)
    obtain ⟨z125, rfl, h126, h127, h128, om129, e130, hI131, hF132, hR133⟩ := hq124
    have hF134 := hF42.trans hF132 rfl rfl
    have hR135 := hR43.trans hR133 rfl
    have e136 := FAx.fr e45 hF132 rfl rfl
    refine Or.inr (Or.inl ⟨rfl, ?_⟩)
    refine r_load (i := 32) (u := 0) (w := 2) rfl rfl rfl ?_
    refine r_load (i := 33) (u := 1) (w := 0) rfl rfl rfl ?_
    have h137 : S123.a 13 m.toNat = S35.a 13 m.toNat := hF132.a rfl _
    have h138 : S35.a 13 m.toNat = S16.a 13 m.toNat := hF40.a rfl _
    have h139 : S16.a 13 m.toNat = S.a 13 m.toNat := hF21.a rfl _
    have h140 := hI131.a ta14 m.toNat
    have h141 : S123.a 14 m.toNat = S35.a 14 m.toNat := hF132.a rfl _
    have h142 : S35.a 14 m.toNat = S16.a 14 m.toNat := hF40.a rfl _
    have h143 : S16.a 14 m.toNat = S.a 14 m.toNat := hF21.a rfl _
    refine r_call (i := 34) (u := 8) (v := 148) (w := 0) (b := 0) (na := 514) (C2 := xC148) (as := [(2, 33), vi m]) (s := [vi z125, vi 183, (2, 33)]) rfl rfl rfl rfl rfl rfl rfl (sp148 (m := m) hI131 ⟨by omega, by omega⟩   (by omega)) (fun r144 S145 hq146 => ?_)
    obtain ⟨z147, rfl, h148, h149, chg150, rfl⟩ := hq146
    refine Or.inr (Or.inl ⟨rfl, ?_⟩)
    have h151 := hI131.b1
    have h152 : S123.f 34 1 = S35.f 34 1 := hF132.f rfl
    refine r_call (i := 35) (u := 8) (v := 165) (w := 0) (b := 0) (na := 1028) (C2 := xC165) (as := [(2, 33), vi 183, vi z125, vi z147]) (s := []) rfl rfl rfl rfl rfl rfl rfl (sp165 (c := 183) (o := z125) (e := z147) hI131 ⟨by omega, by omega⟩ ⟨by omega, by omega⟩ ⟨by omega, by omega⟩ (by omega)  (by omega)) (fun r153 S154 hq155 => ?_)
    obtain ⟨rfl, h156, wq157, hI158, hF159, hR160⟩ := hq155
    have hF161 := hF134.trans hF159 rfl rfl
    have hR162 := hR135.trans hR160 rfl
    have e163 := FAx.fr e136 hF159 rfl rfl
    have e164 := PLx.fr e130 hF159 hR160 rfl rfl rfl
    have e165 := PTx.fr e130 hF159 hR160 rfl rfl rfl
    refine Or.inl ⟨rfl, ?_⟩
    refine r_goto (i := 36) (v := 47) rfl ?_
    have h166 := hI158.b0
    have h167 : S154.f 31 1 = S123.f 31 1 := hF159.f rfl
    have h168 := hI158.b1
    have h169 : S154.a 13 m.toNat = S123.a 13 m.toNat := hF159.a rfl _
    have h170 : S123.a 13 m.toNat = S35.a 13 m.toNat := hF132.a rfl _
    have h171 : S35.a 13 m.toNat = S16.a 13 m.toNat := hF40.a rfl _
    have h172 : S16.a 13 m.toNat = S.a 13 m.toNat := hF21.a rfl _
    have h173 := hI158.a ta14 m.toNat
    have h174 : S154.a 14 m.toNat = S123.a 14 m.toNat := hF159.a rfl _
    have h175 : S123.a 14 m.toNat = S35.a 14 m.toNat := hF132.a rfl _
    have h176 : S35.a 14 m.toNat = S16.a 14 m.toNat := hF40.a rfl _
    have h177 : S16.a 14 m.toNat = S.a 14 m.toNat := hF21.a rfl _
    have h178 := hI158.a ta10 m.toNat
    have h179 : S154.a 10 m.toNat = S123.a 10 m.toNat := hF159.a rfl _
    have h180 : S123.a 10 m.toNat = S35.a 10 m.toNat := hF132.a rfl _
    have h181 : S35.a 10 m.toNat = S16.a 10 m.toNat := hF40.a rfl _
    have h182 : S16.a 10 m.toNat = S.a 10 m.toNat := hF21.a rfl _
    have h183 := hI158.a ta10 m.toNat
    exact r_ret0 (i := 47) rfl ⟨rfl, (by omega), (by omega), (by intro w9 hw0 hq9; have hw1 := wq19 _ hw0; have hw2 := wq38 _ hw1; obtain ⟨hw3, ew3⟩ := om129 (by decide) (by decide) _ hw2 (okQ_e (by simp only [g_an, g_ak, g_ub, g_su, g_di, g_ah, g_sc, g_mx, g_ei, g_ec, g_by, g_mv, g_dp, g_op, g_oB, g_oE, g_pt, g_cl, g_m2, g_mb, g_fd, g_gf, g_om, g_20, g_pu, g_l1, g_lv, g_cs, g_bx, g_ld, g_ao, g_a0]) hq9); have hw4 := wq157 _ hw3; subst ew3; first | exact cW_c hw4 (wsu_eq ((pkR_fr (b := 4) hF40 rfl).trans (pkR_fr (b := 4) hF21 rfl)) ((show S35.f 17 6 = S.f 17 6 by omega).trans (su_n fm14 (by omega)).1) (su_n fm14 (by omega)).2 (by omega) (chg_c chg150 (by omega) (by omega))) | exact cW_c hw4 (wsu_eq ((pkR_fr (b := 4) hF40 rfl).trans (pkR_fr (b := 4) hF21 rfl)) (su_y fm14 (by omega)).1 (su_y fm14 (by omega)).2 (by omega) (chg_c chg150 (by omega) (by omega)))), e164, e163, hI158, hF161, hR162⟩
/-- ProxyForge$Writer.callDispatched -/
theorem sp144 {G : xk} {S : yS} {d : Nat} (hI : yI S) {m : Int} (h_m : 0 ≤ m ∧ m ≤ 59) (p_0 : S.f 31 1 + 74 ≤ 60000) (p_1 : S.f 34 1 + 16 ≤ 60000) (e_PL : PL S) (hd : 8 ≤ d) : yT xPr G LY xC144 0 [some ((2, 33)), some (vi m)] [] S d (fun r S' => r = (0, (0, 0)) ∧ (S.f 31 1 ≤ S'.f 31 1 ∧ S'.f 31 1 ≤ S.f 31 1 + 74) ∧ (S.f 34 1 ≤ S'.f 34 1 ∧ S'.f 34 1 ≤ S.f 34 1 + 16) ∧ wK S S' (wdi (pkR 4 S) (S.a 2 (S.a 10 m.toNat).toNat) (S.a 13 m.toNat) (S.a 14 m.toNat) (S.a 10 m.toNat)) ∧ PL S' ∧ yI S' ∧ yFr [(31, 1), (33, 14), (33, 15), (34, 1), (36, 5)] [37, 100, 101, 102, 103, 105] S S' ∧ yRm [0, 1, 2, 3] S S') := by
  refine yT_pad 1 ?_
  show yT xPr G LY xC144 0 [some ((2, 33)), some (vi m), none] [] S d _
  obtain ⟨d, rfl⟩ : ∃ q, d = q + 1 := ⟨d - 1, by omega⟩
  have hF : yFr [(31, 1), (33, 14), (33, 15), (34, 1), (36, 5)] [37, 100, 101, 102, 103, 105] S S := yFr.refl S
  have hR : yRm [0, 1, 2, 3] S S := yRm.refl S
  have h1 := hI.b0
  have h2 := hI.b1
  refine r_load (i := 0) (u := 0) (w := 2) rfl rfl rfl ?_
  refine r_getf (i := 1) (v := 1) (w := 8) (x := (2, 9)) rfl ly33 rfl rfl fun _ => ?_
  refine r_getf (i := 2) (v := 1) (w := 2) (x := (2, 10)) rfl ly9 rfl rfl fun _ => ?_
  refine r_load (i := 3) (u := 1) (w := 0) rfl rfl rfl ?_
  refine a_int (i := 4) rfl ly10 rfl (by omega) (by omega) fun h5 => ?_
  have h6 := hI.a ta10 m.toNat
  refine r_store (i := 5) (u := 2) (w := 0) (L1 := [some ((2, 33)), some (vi m), some (vi (S.a 10 m.toNat))]) rfl rfl rfl rfl ?_
  refine r_load (i := 6) (u := 0) (w := 2) rfl rfl rfl ?_
  refine r_load (i := 7) (u := 2) (w := 0) rfl rfl rfl ?_
  refine r_call (i := 8) (u := 8) (v := 147) (w := 0) (b := 0) (na := 514) (C2 := xC147) (as := [(2, 33), vi (S.a 10 m.toNat)]) (s := []) rfl rfl rfl rfl rfl rfl rfl (sp147 (t := S.a 10 m.toNat) hI ⟨by omega, by omega⟩ (by omega) (by omega) e_PL (by omega)) (fun r7 S8 hq9 => ?_)
  obtain ⟨rfl, h10, h11, wq12, e13, hI14, hF15, hR16⟩ := hq9
  have hF17 := hF.trans hF15 rfl rfl
  have hR18 := hR.trans hR16 rfl
  refine Or.inl ⟨rfl, ?_⟩
  refine r_load (i := 9) (u := 0) (w := 2) rfl rfl rfl ?_
  refine r_load (i := 10) (u := 0) (w := 2) rfl rfl rfl ?_
  refine r_getf (i := 11) (v := 1) (w := 8) (x := (2, 9)) rfl ly33 rfl rfl fun _ => ?_
  refine r_getf (i := 12) (v := 4) (w := 2) (x := (2, 13)) rfl ly9 rfl rfl fun _ => ?_
  refine r_load (i := 13) (u := 1) (w := 0) rfl rfl rfl ?_
  refine a_int (i := 14) rfl ly13 rfl (by omega) (by omega) fun h21 => ?_
  have kp22 := hI14.k13 m.toNat
  have h23 : S8.a 13 m.toNat = S.a 13 m.toNat := hF15.a rfl _
  refine r_const (i := 15) (u := 1) (z := 1) rfl rfl ?_
  have h24 := hI14.b1
  refine r_call (i := 16) (u := 8) (v := 158) (w := 0) (b := 0) (na := 1795) (C2 := xC158) (as := [(2, 33), vi (S8.a 13 m.toNat), vi 1]) (s := []) rfl rfl rfl rfl rfl rfl rfl (sp158 (p := S8.a 13 m.toNat) (fl := 1) hI14 ⟨by omega, by omega⟩ ⟨by omega, by omega⟩ (by omega)  (by omega)) (fun r25 S26 hq27 => ?_)
  obtain ⟨rfl, h28, wq29, hI30, hF31, hR32⟩ := hq27
  have hF33 := hF17.trans hF31 rfl rfl
  have hR34 := hR18.trans hR32 rfl
  have e35 := PLx.fr e13 hF31 hR32 rfl rfl rfl
  have e36 := PTx.fr e13 hF31 hR32 rfl rfl rfl
  refine Or.inl ⟨rfl, ?_⟩
  refine r_load (i := 17) (u := 0) (w := 2) rfl rfl rfl ?_
  refine r_getf (i := 18) (v := 0) (w := 8) (x := (2, 1)) rfl ly33 rfl rfl fun _ => ?_
  refine r_getf (i := 19) (v := 0) (w := 1) (x := (2, 2)) rfl ly1 rfl rfl fun _ => ?_
  refine r_load (i := 20) (u := 2) (w := 0) rfl rfl rfl ?_
  refine a_bool (i := 21) rfl ly2 rfl (by omega) (by omega) fun h39 => ?_
  have h40 : S26.a 2 (S.a 10 m.toNat).toNat = S8.a 2 (S.a 10 m.toNat).toNat := hF31.a rfl _
  have h41 : S8.a 2 (S.a 10 m.toNat).toNat = S.a 2 (S.a 10 m.toNat).toNat := hF15.a rfl _
  refine z_eq (i := 22) (v := 49) rfl ⟨by omega, by omega⟩ (fun h42 => ?_) (fun h43 => ?_)
  · refine r_load (i := 49) (u := 0) (w := 2) rfl rfl rfl ?_
    refine r_const (i := 50) (u := 182) (z := 182) rfl rfl ?_
    refine r_load (i := 51) (u := 0) (w := 2) rfl rfl rfl ?_
    refine r_const (i := 52) (u := 10) (z := 10) rfl rfl ?_
    refine r_load (i := 53) (u := 2) (w := 0) rfl rfl rfl ?_
    have h44 := hI30.b0
    have h45 : S26.f 31 1 = S8.f 31 1 := hF31.f rfl
    refine r_call (i := 54) (u := 8) (v := 167) (w := 0) (b := 0) (na := 1027) (C2 := xC167) (as := [(2, 33), vi 10, vi (S.a 10 m.toNat)]) (s := [vi 182, (2, 33)]) rfl rfl rfl rfl rfl rfl rfl (sp167 (w0 := 10) (t := S.a 10 m.toNat) hI30 ⟨by omega, by omega⟩ ⟨by omega, by omega⟩ (by omega) e35 (by omega)) (fun r46 S47 hq48 => ?_)
    obtain ⟨z49, rfl, h50, h51, h52, om53, e54, hI55, hF56, hR57⟩ := hq48
    have hF58 := hF33.trans hF56 rfl rfl
    have hR59 := hR34.trans hR57 rfl
    refine Or.inr (Or.inl ⟨rfl, ?_⟩)
    refine r_load (i := 55) (u := 0) (w := 2) rfl rfl rfl ?_
    refine r_load (i := 56) (u := 1) (w := 0) rfl rfl rfl ?_
    have h60 : S47.a 13 m.toNat = S26.a 13 m.toNat := hF56.a rfl _
    have h61 : S26.a 13 m.toNat = S8.a 13 m.toNat := hF31.a rfl _
    have h62 : S8.a 13 m.toNat = S.a 13 m.toNat := hF15.a rfl _
    have h63 := hI55.a ta14 m.toNat
    have h64 : S47.a 14 m.toNat = S26.a 14 m.toNat := hF56.a rfl _
    have h65 : S26.a 14 m.toNat = S8.a 14 m.toNat := hF31.a rfl _
    have h66 : S8.a 14 m.toNat = S.a 14 m.toNat := hF15.a rfl _
    refine r_call (i := 57) (u := 8) (v := 148) (w := 0) (b := 0) (na := 514) (C2 := xC148) (as := [(2, 33), vi m]) (s := [vi z49, vi 182, (2, 33)]) rfl rfl rfl rfl rfl rfl rfl (sp148 (m := m) hI55 ⟨by omega, by omega⟩   (by omega)) (fun r67 S68 hq69 => ?_)
    obtain ⟨z70, rfl, h71, h72, chg73, rfl⟩ := hq69
    refine Or.inr (Or.inl ⟨rfl, ?_⟩)
    have h74 := hI55.b1
    have h75 : S47.f 34 1 = S26.f 34 1 := hF56.f rfl
    refine r_call (i := 58) (u := 8) (v := 165) (w := 0) (b := 0) (na := 1028) (C2 := xC165) (as := [(2, 33), vi 182, vi z49, vi z70]) (s := []) rfl rfl rfl rfl rfl rfl rfl (sp165 (c := 182) (o := z49) (e := z70) hI55 ⟨by omega, by omega⟩ ⟨by omega, by omega⟩ ⟨by omega, by omega⟩ (by omega)  (by omega)) (fun r76 S77 hq78 => ?_)
    obtain ⟨rfl, h79, wq80, hI81, hF82, hR83⟩ := hq78
    have hF84 := hF58.trans hF82 rfl rfl
    have hR85 := hR59.trans hR83 rfl
    have e86 := PLx.fr e54 hF82 hR83 rfl rfl rfl
    have e87 := PTx.fr e54 hF82 hR83 rfl rfl rfl
    refine Or.inl ⟨rfl, ?_⟩
    have h88 := hI81.b0
    have h89 : S77.f 31 1 = S47.f 31 1 := hF82.f rfl
    have h90 := hI81.b1
    have h91 := hI81.a ta10 m.toNat
    have h92 : S77.a 10 m.toNat = S47.a 10 m.toNat := hF82.a rfl _
    have h93 : S47.a 10 m.toNat = S26.a 10 m.toNat := hF56.a rfl _
    have h94 : S26.a 10 m.toNat = S8.a 10 m.toNat := hF31.a rfl _
    have h95 : S8.a 10 m.toNat = S.a 10 m.toNat := hF15.a rfl _
    have h96 : S77.a 13 m.toNat = S47.a 13 m.toNat := hF82.a rfl _
    have h97 : S47.a 13 m.toNat = S26.a 13 m.toNat := hF56.a rfl _
    have h98 : S26.a 13 m.toNat = S8.a 13 m.toNat := hF31.a rfl _
    have h99 : S8.a 13 m.toNat = S.a 13 m.toNat := hF15.a rfl _
    have h100 := hI81.a ta14 m.toNat
    have h101 : S77.a 14 m.toNat = S47.a 14 m.toNat := hF82.a rfl _
    have h102 : S47.a 14 m.toNat = S26.a 14 m.toNat := hF56.a rfl _
    have h103 : S26.a 14 m.toNat = S8.a 14 m.toNat := hF31.a rfl _
    have h104 : S8.a 14 m.toNat = S.a 14 m.toNat := hF15.a rfl _
    have h105 := hI81.a ta10 m.toNat
    exact r_ret0 (i := 59) rfl ⟨rfl, (by omega), (by omega), (by intro w9 hw0 hq9; have hw1 := wq12 _ hw0; have hw2 := wq29 _ hw1; obtain ⟨hw3, ew3⟩ := om53 (by decide) (by decide) _ hw2 (okQ_e (by simp only [g_an, g_ak, g_ub, g_su, g_di, g_ah, g_sc, g_mx, g_ei, g_ec, g_by, g_mv, g_dp, g_op, g_oB, g_oE, g_pt, g_cl, g_m2, g_mb, g_fd, g_gf, g_om, g_20, g_pu, g_l1, g_lv, g_cs, g_bx, g_ld, g_ao, g_a0]) hq9); have hw4 := wq80 _ hw3; subst ew3; exact cW_c hw4 (wdi_n (by omega) ((pkR_fr (b := 4) hF31 rfl).trans (pkR_fr (b := 4) hF15 rfl)) (by omega) (chg_c chg73 (by omega) (by omega)))), e86, hI81, hF84, hR85⟩
  · refine r_load (i := 23) (u := 0) (w := 2) rfl rfl rfl ?_
    refine r_const (i := 24) (u := 185) (z := 185) rfl rfl ?_
    refine r_load (i := 25) (u := 0) (w := 2) rfl rfl rfl ?_
    refine r_const (i := 26) (u := 11) (z := 11) rfl rfl ?_
    refine r_load (i := 27) (u := 2) (w := 0) rfl rfl rfl ?_
    have h106 := hI30.b0
    have h107 : S26.f 31 1 = S8.f 31 1 := hF31.f rfl
    refine r_call (i := 28) (u := 8) (v := 167) (w := 0) (b := 0) (na := 1027) (C2 := xC167) (as := [(2, 33), vi 11, vi (S.a 10 m.toNat)]) (s := [vi 185, (2, 33)]) rfl rfl rfl rfl rfl rfl rfl (sp167 (w0 := 11) (t := S.a 10 m.toNat) hI30 ⟨by omega, by omega⟩ ⟨by omega, by omega⟩ (by omega) e35 (by omega)) (fun r108 S109 hq110 => ?_)
    obtain ⟨z111, rfl, h112, h113, h114, om115, e116, hI117, hF118, hR119⟩ := hq110
    have hF120 := hF33.trans hF118 rfl rfl
    have hR121 := hR34.trans hR119 rfl
    refine Or.inr (Or.inl ⟨rfl, ?_⟩)
    refine r_load (i := 29) (u := 0) (w := 2) rfl rfl rfl ?_
    refine r_load (i := 30) (u := 1) (w := 0) rfl rfl rfl ?_
    have h122 : S109.a 13 m.toNat = S26.a 13 m.toNat := hF118.a rfl _
    have h123 : S26.a 13 m.toNat = S8.a 13 m.toNat := hF31.a rfl _
    have h124 : S8.a 13 m.toNat = S.a 13 m.toNat := hF15.a rfl _
    have h125 := hI117.a ta14 m.toNat
    have h126 : S109.a 14 m.toNat = S26.a 14 m.toNat := hF118.a rfl _
    have h127 : S26.a 14 m.toNat = S8.a 14 m.toNat := hF31.a rfl _
    have h128 : S8.a 14 m.toNat = S.a 14 m.toNat := hF15.a rfl _
    refine r_call (i := 31) (u := 8) (v := 148) (w := 0) (b := 0) (na := 514) (C2 := xC148) (as := [(2, 33), vi m]) (s := [vi z111, vi 185, (2, 33)]) rfl rfl rfl rfl rfl rfl rfl (sp148 (m := m) hI117 ⟨by omega, by omega⟩   (by omega)) (fun r129 S130 hq131 => ?_)
    obtain ⟨z132, rfl, h133, h134, chg135, rfl⟩ := hq131
    refine Or.inr (Or.inl ⟨rfl, ?_⟩)
    have h136 := hI117.b1
    have h137 : S109.f 34 1 = S26.f 34 1 := hF118.f rfl
    refine r_call (i := 32) (u := 8) (v := 165) (w := 0) (b := 0) (na := 1028) (C2 := xC165) (as := [(2, 33), vi 185, vi z111, vi z132]) (s := []) rfl rfl rfl rfl rfl rfl rfl (sp165 (c := 185) (o := z111) (e := z132) hI117 ⟨by omega, by omega⟩ ⟨by omega, by omega⟩ ⟨by omega, by omega⟩ (by omega)  (by omega)) (fun r138 S139 hq140 => ?_)
    obtain ⟨rfl, h141, wq142, hI143, hF144, hR145⟩ := hq140
    have hF146 := hF120.trans hF144 rfl rfl
    have hR147 := hR121.trans hR145 rfl
    have e148 := PLx.fr e116 hF144 hR145 rfl rfl rfl
    have e149 := PTx.fr e116 hF144 hR145 rfl rfl rfl
    refine Or.inl ⟨rfl, ?_⟩
    refine r_load (i := 33) (u := 0) (w := 2) rfl rfl rfl ?_
    refine r_getf (i := 34) (v := 5) (w := 8) (x := (2, 34)) rfl ly33 rfl rfl fun _ => ?_
    refine r_const (i := 35) (u := 1) (z := 1) rfl rfl ?_
    refine r_load (i := 36) (u := 0) (w := 2) rfl rfl rfl ?_
    refine r_getf (i := 37) (v := 1) (w := 8) (x := (2, 9)) rfl ly33 rfl rfl fun _ => ?_
    refine r_getf (i := 38) (v := 4) (w := 2) (x := (2, 13)) rfl ly9 rfl rfl fun _ => ?_
    refine r_load (i := 39) (u := 1) (w := 0) rfl rfl rfl ?_
    refine a_int (i := 40) rfl ly13 rfl (by omega) (by omega) fun h153 => ?_
    have kp154 := hI143.k13 m.toNat
    have h155 : S139.a 13 m.toNat = S109.a 13 m.toNat := hF144.a rfl _
    have h156 : S109.a 13 m.toNat = S26.a 13 m.toNat := hF118.a rfl _
    have h157 : S26.a 13 m.toNat = S8.a 13 m.toNat := hF31.a rfl _
    have h158 : S8.a 13 m.toNat = S.a 13 m.toNat := hF15.a rfl _
    refine r_call (i := 41) (u := 65535) (v := 71) (w := 0) (b := 2) (na := 769) (C2 := xC71) (as := [vi (S139.a 13 m.toNat)]) (s := [vi 1, (2, 34)]) rfl rfl rfl rfl rfl rfl rfl (sp71 (p := S139.a 13 m.toNat) hI143 ⟨by omega, by omega⟩   (by omega)) (fun r159 S160 hq161 => ?_)
    obtain ⟨z162, rfl, h163, h164, wda165, rfl⟩ := hq161
    refine Or.inr (Or.inl ⟨rfl, ?_⟩)
    refine r_iadd (i := 42) rfl ?_
    have h166 := hI143.b1
    refine r_call (i := 43) (u := 7) (v := 29) (w := 0) (b := 0) (na := 514) (C2 := xC29) (as := [(2, 34), vi (1 + z162)]) (s := []) rfl rfl rfl rfl rfl rfl rfl (sp29_34 (b := 1 + z162) hI143 ⟨by omega, by omega⟩ (by omega)  (by omega)) (fun r167 S168 hq169 => ?_)
    obtain ⟨rfl, h170, bo171, hI172, hF173, hR174⟩ := hq169
    have hF175 := hF146.trans hF173 rfl rfl
    have hR176 := hR147.trans hR174 rfl
    have e177 := PLx.fr e148 hF173 hR174 rfl rfl rfl
    have e178 := PTx.fr e149 hF173 hR174 rfl rfl rfl
    refine Or.inl ⟨rfl, ?_⟩
    refine r_load (i := 44) (u := 0) (w := 2) rfl rfl rfl ?_
    refine r_getf (i := 45) (v := 5) (w := 8) (x := (2, 34)) rfl ly33 rfl rfl fun _ => ?_
    refine r_const (i := 46) (u := 0) (z := 0) rfl rfl ?_
    have h180 := hI172.b1
    refine r_call (i := 47) (u := 7) (v := 29) (w := 0) (b := 0) (na := 514) (C2 := xC29) (as := [(2, 34), vi 0]) (s := []) rfl rfl rfl rfl rfl rfl rfl (sp29_34 (b := 0) hI172 ⟨by omega, by omega⟩ (by omega)  (by omega)) (fun r181 S182 hq183 => ?_)
    obtain ⟨rfl, h184, bo185, hI186, hF187, hR188⟩ := hq183
    have hF189 := hF175.trans hF187 rfl rfl
    have hR190 := hR176.trans hR188 rfl
    have e191 := PLx.fr e177 hF187 hR188 rfl rfl rfl
    have e192 := PTx.fr e178 hF187 hR188 rfl rfl rfl
    refine Or.inl ⟨rfl, ?_⟩
    refine r_goto (i := 48) (v := 59) rfl ?_
    have h193 := hI186.b0
    have h194 : S182.f 31 1 = S168.f 31 1 := hF187.f rfl
    have h195 : S168.f 31 1 = S139.f 31 1 := hF173.f rfl
    have h196 : S139.f 31 1 = S109.f 31 1 := hF144.f rfl
    have h197 := hI186.b1
    have h198 := hI186.a ta10 m.toNat
    have h199 : S182.a 10 m.toNat = S168.a 10 m.toNat := hF187.a rfl _
    have h200 : S168.a 10 m.toNat = S139.a 10 m.toNat := hF173.a rfl _
    have h201 : S139.a 10 m.toNat = S109.a 10 m.toNat := hF144.a rfl _
    have h202 : S109.a 10 m.toNat = S26.a 10 m.toNat := hF118.a rfl _
    have h203 : S26.a 10 m.toNat = S8.a 10 m.toNat := hF31.a rfl _
    have h204 : S8.a 10 m.toNat = S.a 10 m.toNat := hF15.a rfl _
    have h205 : S182.a 13 m.toNat = S168.a 13 m.toNat := hF187.a rfl _
    have h206 : S168.a 13 m.toNat = S139.a 13 m.toNat := hF173.a rfl _
    have h207 : S139.a 13 m.toNat = S109.a 13 m.toNat := hF144.a rfl _
    have h208 : S109.a 13 m.toNat = S26.a 13 m.toNat := hF118.a rfl _
    have h209 : S26.a 13 m.toNat = S8.a 13 m.toNat := hF31.a rfl _
    have h210 : S8.a 13 m.toNat = S.a 13 m.toNat := hF15.a rfl _
    have h211 := hI186.a ta14 m.toNat
    have h212 : S182.a 14 m.toNat = S168.a 14 m.toNat := hF187.a rfl _
    have h213 : S168.a 14 m.toNat = S139.a 14 m.toNat := hF173.a rfl _
    have h214 : S139.a 14 m.toNat = S109.a 14 m.toNat := hF144.a rfl _
    have h215 : S109.a 14 m.toNat = S26.a 14 m.toNat := hF118.a rfl _
    have h216 : S26.a 14 m.toNat = S8.a 14 m.toNat := hF31.a rfl _
    have h217 : S8.a 14 m.toNat = S.a 14 m.toNat := hF15.a rfl _
    have h218 := hI186.a ta10 m.toNat
    exact r_ret0 (i := 59) rfl ⟨rfl, (by omega), (by omega), (by intro w9 hw0 hq9; have hw1 := wq12 _ hw0; have hw2 := wq29 _ hw1; obtain ⟨hw3, ew3⟩ := om115 (by decide) (by decide) _ hw2 (okQ_e (by simp only [g_an, g_ak, g_ub, g_su, g_di, g_ah, g_sc, g_mx, g_ei, g_ec, g_by, g_mv, g_dp, g_op, g_oB, g_oE, g_pt, g_cl, g_m2, g_mb, g_fd, g_gf, g_om, g_20, g_pu, g_l1, g_lv, g_cs, g_bx, g_ld, g_ao, g_a0]) hq9); have hw4 := wq142 _ hw3; have hw5 := wQ_by bo171 (sFl_fr hF173 rfl rfl) (sDp_fr hF173 rfl) _ hw4; have hw6 := wQ_by bo185 (sFl_fr hF187 rfl rfl) (sDp_fr hF187 rfl) _ hw5; subst ew3; exact cW_c hw6 (wdi_y (by omega) ((pkR_fr (b := 4) hF31 rfl).trans (pkR_fr (b := 4) hF15 rfl)) (by omega) (chg_c chg135 (by omega) (by omega)) (wdA_c wda165 (by omega)))), e191, hI186, hF189, hR190⟩
/-- ProxyForge$Writer.constructor -/
theorem sp149 {G : xk} {S : yS} {d : Nat} (hI : yI S) {m : Int} (h_m : 0 ≤ m ∧ m ≤ 59) (p_0 : S.f 31 1 + 371 ≤ 60000) (p_1 : S.f 34 1 + 44 ≤ 60000) (e_PL : PL S) (hd : 9 ≤ d) : yT xPr G LY xC149 0 [some ((2, 33)), some (vi m)] [] S d (fun r S' => r = (0, (0, 0)) ∧ (S.f 31 1 ≤ S'.f 31 1 ∧ S'.f 31 1 ≤ S.f 31 1 + 371) ∧ (S.f 34 1 ≤ S'.f 34 1 ∧ S'.f 34 1 ≤ S.f 34 1 + 44) ∧ wP S S' (wco (pkR 4 S) (S.f 17 6) (acX (S.a 12 m.toNat)) (S.a 11 m.toNat) (S.a 13 m.toNat) (S.a 14 m.toNat)) ∧ PL S' ∧ yI S' ∧ yFr [(31, 1), (33, 10), (33, 11), (33, 12), (33, 13), (33, 14), (33, 15), (34, 1), (36, 5)] [37, 100, 101, 102, 103, 105] S S' ∧ yRm [0, 1, 2, 3] S S') := by
  refine yT_pad 4 ?_
  show yT xPr G LY xC149 0 [some ((2, 33)), some (vi m), none, none, none, none] [] S d _
  obtain ⟨d, rfl⟩ : ∃ q, d = q + 1 := ⟨d - 1, by omega⟩
  have hF : yFr [(31, 1), (33, 10), (33, 11), (33, 12), (33, 13), (33, 14), (33, 15), (34, 1), (36, 5)] [37, 100, 101, 102, 103, 105] S S := yFr.refl S
  have hR : yRm [0, 1, 2, 3] S S := yRm.refl S
  have h1 := hI.b0
  have h2 := hI.b1
  refine r_load (i := 0) (u := 0) (w := 2) rfl rfl rfl ?_
  refine r_getf (i := 1) (v := 1) (w := 8) (x := (2, 9)) rfl ly33 rfl rfl fun _ => ?_
  refine r_getf (i := 2) (v := 4) (w := 2) (x := (2, 13)) rfl ly9 rfl rfl fun _ => ?_
  refine r_load (i := 3) (u := 1) (w := 0) rfl rfl rfl ?_
  refine a_int (i := 4) rfl ly13 rfl (by omega) (by omega) fun h5 => ?_
  have kp6 := hI.k13 m.toNat
  refine r_store (i := 5) (u := 2) (w := 0) (L1 := [some ((2, 33)), some (vi m), some (vi (S.a 13 m.toNat)), none, none, none]) rfl rfl rfl rfl ?_
  refine r_load (i := 6) (u := 2) (w := 0) rfl rfl rfl ?_
  refine r_call (i := 7) (u := 65535) (v := 71) (w := 0) (b := 2) (na := 769) (C2 := xC71) (as := [vi (S.a 13 m.toNat)]) (s := []) rfl rfl rfl rfl rfl rfl rfl (sp71 (p := S.a 13 m.toNat) hI ⟨by omega, by omega⟩   (by omega)) (fun r7 S8 hq9 => ?_)
  obtain ⟨z10, rfl, h11, h12, wda13, rfl⟩ := hq9
  refine Or.inr (Or.inl ⟨rfl, ?_⟩)
  refine r_store (i := 8) (u := 3) (w := 0) (L1 := [some ((2, 33)), some (vi m), some (vi (S.a 13 m.toNat)), some (vi z10), none, none]) rfl rfl rfl rfl ?_
  refine r_load (i := 9) (u := 0) (w := 2) rfl rfl rfl ?_
  refine r_load (i := 10) (u := 1) (w := 0) rfl rfl rfl ?_
  refine r_const (i := 11) (u := 0) (z := 0) rfl rfl ?_
  refine r_str (i := 12) (v := 11) rfl ?_
  have h14 := slv11
  refine r_const (i := 13) (u := 1) (z := 1) rfl rfl ?_
  have h15 := hI.a ta12 m.toNat
  have h16 := hI.a ta11 m.toNat
  have h17 := hI.a ta14 m.toNat
  refine r_call (i := 14) (u := 8) (v := 156) (w := 0) (b := 0) (na := 1541) (C2 := xC156) (as := [(2, 33), vi m, vi 0, (6, 11), vi 1]) (s := []) rfl rfl rfl rfl rfl rfl rfl (sp156 (m := m) (mo := 0) (s := 11) (at0 := 1) hI ⟨by omega, by omega⟩ ⟨by omega, by omega⟩ ⟨by decide, by decide⟩ ⟨by omega, by omega⟩ (by omega) (by omega) e_PL (by omega)) (fun r18 S19 hq20 => ?_)
  obtain ⟨rfl, h21, h22, whd23, e24, hI25, hF26, hR27⟩ := hq20
  have hF28 := hF.trans hF26 rfl rfl
  have hR29 := hR.trans hR27 rfl
  refine Or.inl ⟨rfl, ?_⟩
  refine r_load (i := 15) (u := 0) (w := 2) rfl rfl rfl ?_
  refine r_const (i := 16) (u := 2) (z := 2) rfl rfl ?_
  refine r_load (i := 17) (u := 3) (w := 0) rfl rfl rfl ?_
  refine r_iadd (i := 18) rfl ?_
  have h30 := hI25.b0
  have h31 := hI25.b1
  refine r_call (i := 19) (u := 8) (v := 171) (w := 0) (b := 0) (na := 514) (C2 := xC171) (as := [(2, 33), vi (2 + z10)]) (s := []) rfl rfl rfl rfl rfl rfl rfl (sp171 (lc := 2 + z10) hI25 ⟨by omega, by omega⟩ (by omega) (by omega) e24 (by omega)) (fun r32 S33 hq34 => ?_)
  obtain ⟨rfl, h35, h36, h37, wq38, e39, hI40, hF41, hR42⟩ := hq34
  have hF43 := hF28.trans hF41 rfl rfl
  have hR44 := hR29.trans hR42 rfl
  refine Or.inl ⟨rfl, ?_⟩
  refine r_load (i := 20) (u := 0) (w := 2) rfl rfl rfl ?_
  refine r_const (i := 21) (u := 42) (z := 42) rfl rfl ?_
  refine r_const (i := 22) (u := 1) (z := 1) rfl rfl ?_
  have h45 := hI40.b1
  refine r_call (i := 23) (u := 8) (v := 163) (w := 0) (b := 0) (na := 771) (C2 := xC163) (as := [(2, 33), vi 42, vi 1]) (s := []) rfl rfl rfl rfl rfl rfl rfl (sp163 (c := 42) (e := 1) hI40 ⟨by omega, by omega⟩ ⟨by omega, by omega⟩ (by omega)  (by omega)) (fun r46 S47 hq48 => ?_)
  obtain ⟨rfl, h49, wq50, hI51, hF52, hR53⟩ := hq48
  have hF54 := hF43.trans hF52 rfl rfl
  have hR55 := hR44.trans hR53 rfl
  have e56 := PLx.fr e39 hF52 hR53 rfl rfl rfl
  have e57 := PTx.fr e39 hF52 hR53 rfl rfl rfl
  refine Or.inl ⟨rfl, ?_⟩
  refine r_load (i := 24) (u := 0) (w := 2) rfl rfl rfl ?_
  refine r_const (i := 25) (u := 43) (z := 43) rfl rfl ?_
  refine r_const (i := 26) (u := 1) (z := 1) rfl rfl ?_
  have h58 := hI51.b1
  refine r_call (i := 27) (u := 8) (v := 163) (w := 0) (b := 0) (na := 771) (C2 := xC163) (as := [(2, 33), vi 43, vi 1]) (s := []) rfl rfl rfl rfl rfl rfl rfl (sp163 (c := 43) (e := 1) hI51 ⟨by omega, by omega⟩ ⟨by omega, by omega⟩ (by omega)  (by omega)) (fun r59 S60 hq61 => ?_)
  obtain ⟨rfl, h62, wq63, hI64, hF65, hR66⟩ := hq61
  have hF67 := hF54.trans hF65 rfl rfl
  have hR68 := hR55.trans hR66 rfl
  have e69 := PLx.fr e56 hF65 hR66 rfl rfl rfl
  have e70 := PTx.fr e57 hF65 hR66 rfl rfl rfl
  refine Or.inl ⟨rfl, ?_⟩
  refine r_load (i := 28) (u := 0) (w := 2) rfl rfl rfl ?_
  refine r_const (i := 29) (u := 181) (z := 181) rfl rfl ?_
  refine r_load (i := 30) (u := 0) (w := 2) rfl rfl rfl ?_
  have h71 := hI64.b0
  have h72 : S60.f 31 1 = S47.f 31 1 := hF65.f rfl
  have h73 : S47.f 31 1 = S33.f 31 1 := hF52.f rfl
  refine r_call (i := 31) (u := 8) (v := 146) (w := 0) (b := 0) (na := 257) (C2 := xC146) (as := [(2, 33)]) (s := [vi 181, (2, 33)]) rfl rfl rfl rfl rfl rfl rfl (sp146  hI64  (by omega) e69 (by omega)) (fun r74 S75 hq76 => ?_)
  obtain ⟨z77, rfl, h78, h79, h80, wj81, e82, hI83, hF84, hR85⟩ := hq76
  have hF86 := hF67.trans hF84 rfl rfl
  have hR87 := hR68.trans hR85 rfl
  refine Or.inr (Or.inl ⟨rfl, ?_⟩)
  refine r_const (i := 32) (u := 4294967294) (z := -2) rfl rfl ?_
  have h88 := hI83.b1
  have h89 : S75.f 34 1 = S60.f 34 1 := hF84.f rfl
  refine r_call (i := 33) (u := 8) (v := 165) (w := 0) (b := 0) (na := 1028) (C2 := xC165) (as := [(2, 33), vi 181, vi z77, vi (-2)]) (s := []) rfl rfl rfl rfl rfl rfl rfl (sp165 (c := 181) (o := z77) (e := -2) hI83 ⟨by omega, by omega⟩ ⟨by omega, by omega⟩ ⟨by omega, by omega⟩ (by omega)  (by omega)) (fun r90 S91 hq92 => ?_)
  obtain ⟨rfl, h93, wq94, hI95, hF96, hR97⟩ := hq92
  have hF98 := hF86.trans hF96 rfl rfl
  have hR99 := hR87.trans hR97 rfl
  have e100 := PLx.fr e82 hF96 hR97 rfl rfl rfl
  have e101 := PTx.fr e82 hF96 hR97 rfl rfl rfl
  refine Or.inl ⟨rfl, ?_⟩
  refine r_load (i := 34) (u := 0) (w := 2) rfl rfl rfl ?_
  refine r_const (i := 35) (u := 42) (z := 42) rfl rfl ?_
  refine r_const (i := 36) (u := 1) (z := 1) rfl rfl ?_
  have h102 := hI95.b1
  refine r_call (i := 37) (u := 8) (v := 163) (w := 0) (b := 0) (na := 771) (C2 := xC163) (as := [(2, 33), vi 42, vi 1]) (s := []) rfl rfl rfl rfl rfl rfl rfl (sp163 (c := 42) (e := 1) hI95 ⟨by omega, by omega⟩ ⟨by omega, by omega⟩ (by omega)  (by omega)) (fun r103 S104 hq105 => ?_)
  obtain ⟨rfl, h106, wq107, hI108, hF109, hR110⟩ := hq105
  have hF111 := hF98.trans hF109 rfl rfl
  have hR112 := hR99.trans hR110 rfl
  have e113 := PLx.fr e100 hF109 hR110 rfl rfl rfl
  have e114 := PTx.fr e101 hF109 hR110 rfl rfl rfl
  refine Or.inl ⟨rfl, ?_⟩
  refine r_load (i := 38) (u := 0) (w := 2) rfl rfl rfl ?_
  refine r_load (i := 39) (u := 2) (w := 0) rfl rfl rfl ?_
  refine r_const (i := 40) (u := 2) (z := 2) rfl rfl ?_
  have h115 := hI108.b1
  refine r_call (i := 41) (u := 8) (v := 158) (w := 0) (b := 0) (na := 1795) (C2 := xC158) (as := [(2, 33), vi (S.a 13 m.toNat), vi 2]) (s := []) rfl rfl rfl rfl rfl rfl rfl (sp158 (p := S.a 13 m.toNat) (fl := 2) hI108 ⟨by omega, by omega⟩ ⟨by omega, by omega⟩ (by omega)  (by omega)) (fun r116 S117 hq118 => ?_)
  obtain ⟨rfl, h119, wq120, hI121, hF122, hR123⟩ := hq118
  have hF124 := hF111.trans hF122 rfl rfl
  have hR125 := hR112.trans hR123 rfl
  have e126 := PLx.fr e113 hF122 hR123 rfl rfl rfl
  have e127 := PTx.fr e114 hF122 hR123 rfl rfl rfl
  refine Or.inl ⟨rfl, ?_⟩
  refine r_load (i := 42) (u := 0) (w := 2) rfl rfl rfl ?_
  refine r_getf (i := 43) (v := 6) (w := 8) (x := (2, 36)) rfl ly33 rfl rfl fun _ => ?_
  refine r_load (i := 44) (u := 0) (w := 2) rfl rfl rfl ?_
  refine r_getf (i := 45) (v := 2) (w := 8) (x := (2, 17)) rfl ly33 rfl rfl fun _ => ?_
  have h130 := hI121.f tf17_6
  have h131 : S117.f 17 6 = S104.f 17 6 := hF122.f rfl
  have h132 : S104.f 17 6 = S91.f 17 6 := hF109.f rfl
  have h133 : S91.f 17 6 = S75.f 17 6 := hF96.f rfl
  have h134 : S75.f 17 6 = S60.f 17 6 := hF84.f rfl
  have h135 : S60.f 17 6 = S47.f 17 6 := hF65.f rfl
  have h136 : S47.f 17 6 = S33.f 17 6 := hF52.f rfl
  have h137 : S33.f 17 6 = S19.f 17 6 := hF41.f rfl
  have h138 : S19.f 17 6 = S.f 17 6 := hF26.f rfl
  refine r_getf (i := 46) (v := 6) (w := 3) (x := vi (S117.f 17 6)) rfl ly17 rfl rfl fun h139 => ?_
  have h139 : Rg (S117.f 17 6) := h139
  have h140 := hI121.b0
  have h141 : S117.f 31 1 = S104.f 31 1 := hF122.f rfl
  have h142 : S104.f 31 1 = S91.f 31 1 := hF109.f rfl
  have h143 : S91.f 31 1 = S75.f 31 1 := hF96.f rfl
  refine r_call (i := 47) (u := 9) (v := 89) (w := 0) (b := 0) (na := 770) (C2 := xC89) (as := [(2, 36), vi (S117.f 17 6)]) (s := []) rfl rfl rfl rfl rfl rfl rfl (sp89 (t := S117.f 17 6) hI121 ⟨by omega, by omega⟩ (by omega) e126 (by omega)) (fun r144 S145 hq146 => ?_)
  obtain ⟨z147, rfl, h148, h149, h150, wi151, e152, hI153, hF154, hR155⟩ := hq146
  have hF156 := hF124.trans hF154 rfl rfl
  have hR157 := hR125.trans hR155 rfl
  refine Or.inr (Or.inl ⟨rfl, ?_⟩)
  refine r_store (i := 48) (u := 4) (w := 0) (L1 := [some ((2, 33)), some (vi m), some (vi (S.a 13 m.toNat)), some (vi z10), some (vi z147), none]) rfl rfl rfl rfl ?_
  refine r_load (i := 49) (u := 0) (w := 2) rfl rfl rfl ?_
  refine r_getf (i := 50) (v := 6) (w := 8) (x := (2, 36)) rfl ly33 rfl rfl fun _ => ?_
  refine r_const (i := 51) (u := 12) (z := 12) rfl rfl ?_
  refine r_load (i := 52) (u := 0) (w := 2) rfl rfl rfl ?_
  have h159 : S145.f 33 10 = S117.f 33 10 := hF154.f rfl
  have h160 : S117.f 33 10 = S104.f 33 10 := hF122.f rfl
  have h161 : S104.f 33 10 = S91.f 33 10 := hF109.f rfl
  have h162 : S91.f 33 10 = S75.f 33 10 := hF96.f rfl
  have h163 : S75.f 33 10 = S60.f 33 10 := hF84.f rfl
  have h164 : S60.f 33 10 = S47.f 33 10 := hF65.f rfl
  have h165 : S47.f 33 10 = S33.f 33 10 := hF52.f rfl
  have h166 : S33.f 33 10 = S19.f 33 10 := hF41.f rfl
  refine r_getf (i := 53) (v := 10) (w := 8) (x := vi (S145.f 33 10)) rfl ly33 rfl rfl fun h167 => ?_
  have h167 : Rg (S145.f 33 10) := h167
  refine r_load (i := 54) (u := 0) (w := 2) rfl rfl rfl ?_
  refine r_getf (i := 55) (v := 6) (w := 8) (x := (2, 36)) rfl ly33 rfl rfl fun _ => ?_
  refine r_str (i := 56) (v := 14) rfl ?_
  have h169 := slv14
  refine r_load (i := 57) (u := 2) (w := 0) rfl rfl rfl ?_
  refine r_const (i := 58) (u := 0) (z := 0) rfl rfl ?_
  have h170 := hI153.b0
  refine r_call (i := 59) (u := 9) (v := 91) (w := 0) (b := 0) (na := 1796) (C2 := xC91) (as := [(2, 36), (6, 14), vi (S.a 13 m.toNat), vi 0]) (s := [vi (S145.f 33 10), vi 12, (2, 36)]) rfl rfl rfl rfl rfl rfl rfl (sp91 (s := 14) (p := S.a 13 m.toNat) (r0 := 0) hI153 ⟨by decide, by decide⟩ ⟨by omega, by omega⟩ ⟨by omega, by omega⟩ (by omega) (by first | assumption | exact (hI153).k13 _) e152 (by omega)) (fun r171 S172 hq173 => ?_)
  obtain ⟨z174, rfl, h175, h176, h177, wi178, e179, hI180, hF181, hR182⟩ := hq173
  have hF183 := hF156.trans hF181 rfl rfl
  have hR184 := hR157.trans hR182 rfl
  refine Or.inr (Or.inl ⟨rfl, ?_⟩)
  have h185 := hI180.b0
  refine r_call (i := 60) (u := 9) (v := 94) (w := 0) (b := 0) (na := 1284) (C2 := xC94) (as := [(2, 36), vi 12, vi (S145.f 33 10), vi z174]) (s := []) rfl rfl rfl rfl rfl rfl rfl (sp94 (w0 := 12) (v := S145.f 33 10) (v2 := z174) hI180 ⟨by omega, by omega⟩ ⟨by omega, by omega⟩ ⟨by omega, by omega⟩ (by omega) e179 (by omega)) (fun r186 S187 hq188 => ?_)
  obtain ⟨z189, rfl, h190, h191, h192, pa193, e194, hI195, hF196, hR197⟩ := hq188
  have hF198 := hF183.trans hF196 rfl rfl
  have hR199 := hR184.trans hR197 rfl
  refine Or.inr (Or.inl ⟨rfl, ?_⟩)
  refine r_store (i := 61) (u := 5) (w := 0) (L1 := [some ((2, 33)), some (vi m), some (vi (S.a 13 m.toNat)), some (vi z10), some (vi z147), some (vi z189)]) rfl rfl rfl rfl ?_
  refine r_load (i := 62) (u := 0) (w := 2) rfl rfl rfl ?_
  refine r_const (i := 63) (u := 183) (z := 183) rfl rfl ?_
  refine r_load (i := 64) (u := 0) (w := 2) rfl rfl rfl ?_
  refine r_getf (i := 65) (v := 6) (w := 8) (x := (2, 36)) rfl ly33 rfl rfl fun _ => ?_
  refine r_const (i := 66) (u := 10) (z := 10) rfl rfl ?_
  refine r_load (i := 67) (u := 4) (w := 0) rfl rfl rfl ?_
  refine r_load (i := 68) (u := 5) (w := 0) rfl rfl rfl ?_
  have h201 := hI195.b0
  refine r_call (i := 69) (u := 9) (v := 94) (w := 0) (b := 0) (na := 1284) (C2 := xC94) (as := [(2, 36), vi 10, vi z147, vi z189]) (s := [vi 183, (2, 33)]) rfl rfl rfl rfl rfl rfl rfl (sp94 (w0 := 10) (v := z147) (v2 := z189) hI195 ⟨by omega, by omega⟩ ⟨by omega, by omega⟩ ⟨by omega, by omega⟩ (by omega) e194 (by omega)) (fun r202 S203 hq204 => ?_)
  obtain ⟨z205, rfl, h206, h207, h208, pa209, e210, hI211, hF212, hR213⟩ := hq204
  have hF214 := hF198.trans hF212 rfl rfl
  have hR215 := hR199.trans hR213 rfl
  refine Or.inr (Or.inl ⟨rfl, ?_⟩)
  refine r_const (i := 70) (u := 4294967295) (z := -1) rfl rfl ?_
  refine r_load (i := 71) (u := 3) (w := 0) rfl rfl rfl ?_
  refine r_isub (i := 72) rfl ?_
  have h216 := hI211.b1
  have h217 : S203.f 34 1 = S187.f 34 1 := hF212.f rfl
  have h218 : S187.f 34 1 = S172.f 34 1 := hF196.f rfl
  have h219 : S172.f 34 1 = S145.f 34 1 := hF181.f rfl
  have h220 : S145.f 34 1 = S117.f 34 1 := hF154.f rfl
  refine r_call (i := 73) (u := 8) (v := 165) (w := 0) (b := 0) (na := 1028) (C2 := xC165) (as := [(2, 33), vi 183, vi z205, vi ((-1) - z10)]) (s := []) rfl rfl rfl rfl rfl rfl rfl (sp165 (c := 183) (o := z205) (e := (-1) - z10) hI211 ⟨by omega, by omega⟩ ⟨by omega, by omega⟩ ⟨by omega, by omega⟩ (by omega)  (by omega)) (fun r221 S222 hq223 => ?_)
  obtain ⟨rfl, h224, wq225, hI226, hF227, hR228⟩ := hq223
  have hF229 := hF214.trans hF227 rfl rfl
  have hR230 := hR215.trans hR228 rfl
  have e231 := PLx.fr e210 hF227 hR228 rfl rfl rfl
  have e232 := PTx.fr e210 hF227 hR228 rfl rfl rfl
  refine Or.inl ⟨rfl, ?_⟩
  refine r_load (i := 74) (u := 0) (w := 2) rfl rfl rfl ?_
  refine r_const (i := 75) (u := 177) (z := 177) rfl rfl ?_
  refine r_const (i := 76) (u := 0) (z := 0) rfl rfl ?_
  have h233 := hI226.b1
  refine r_call (i := 77) (u := 8) (v := 163) (w := 0) (b := 0) (na := 771) (C2 := xC163) (as := [(2, 33), vi 177, vi 0]) (s := []) rfl rfl rfl rfl rfl rfl rfl (sp163 (c := 177) (e := 0) hI226 ⟨by omega, by omega⟩ ⟨by omega, by omega⟩ (by omega)  (by omega)) (fun r234 S235 hq236 => ?_)
  obtain ⟨rfl, h237, wq238, hI239, hF240, hR241⟩ := hq236
  have hF242 := hF229.trans hF240 rfl rfl
  have hR243 := hR230.trans hR241 rfl
  have e244 := PLx.fr e231 hF240 hR241 rfl rfl rfl
  have e245 := PTx.fr e232 hF240 hR241 rfl rfl rfl
  refine Or.inl ⟨rfl, ?_⟩
  refine r_load (i := 78) (u := 0) (w := 2) rfl rfl rfl ?_
  have h246 := hI239.b1
  have h247 : S235.f 33 12 = S222.f 33 12 := hF240.f rfl
  have h248 : S222.f 33 12 = S203.f 33 12 := hF227.f rfl
  have h249 : S203.f 33 12 = S187.f 33 12 := hF212.f rfl
  have h250 : S187.f 33 12 = S172.f 33 12 := hF196.f rfl
  have h251 : S172.f 33 12 = S145.f 33 12 := hF181.f rfl
  have h252 : S145.f 33 12 = S117.f 33 12 := hF154.f rfl
  have h253 : S117.f 33 12 = S104.f 33 12 := hF122.f rfl
  have h254 : S104.f 33 12 = S91.f 33 12 := hF109.f rfl
  have h255 : S91.f 33 12 = S75.f 33 12 := hF96.f rfl
  have h256 : S75.f 33 12 = S60.f 33 12 := hF84.f rfl
  have h257 : S60.f 33 12 = S47.f 33 12 := hF65.f rfl
  have h258 : S47.f 33 12 = S33.f 33 12 := hF52.f rfl
  have h259 : S235.f 33 13 = S222.f 33 13 := hF240.f rfl
  have h260 : S222.f 33 13 = S203.f 33 13 := hF227.f rfl
  have h261 : S203.f 33 13 = S187.f 33 13 := hF212.f rfl
  have h262 : S187.f 33 13 = S172.f 33 13 := hF196.f rfl
  have h263 : S172.f 33 13 = S145.f 33 13 := hF181.f rfl
  have h264 : S145.f 33 13 = S117.f 33 13 := hF154.f rfl
  have h265 : S117.f 33 13 = S104.f 33 13 := hF122.f rfl
  have h266 : S104.f 33 13 = S91.f 33 13 := hF109.f rfl
  have h267 : S91.f 33 13 = S75.f 33 13 := hF96.f rfl
  have h268 : S75.f 33 13 = S60.f 33 13 := hF84.f rfl
  have h269 : S60.f 33 13 = S47.f 33 13 := hF65.f rfl
  have h270 : S47.f 33 13 = S33.f 33 13 := hF52.f rfl
  refine r_call (i := 79) (u := 8) (v := 153) (w := 0) (b := 0) (na := 257) (C2 := xC153) (as := [(2, 33)]) (s := []) rfl rfl rfl rfl rfl rfl rfl (sp153  hI239  (by omega) (by omega)  (by omega)) (fun r271 S272 hq273 => ?_)
  obtain ⟨rfl, h274, wei275, hI276, hF277, hR278⟩ := hq273
  have hF279 := hF242.trans hF277 rfl rfl
  have hR280 := hR243.trans hR278 rfl
  have e281 := PLx.fr e244 hF277 hR278 rfl rfl rfl
  have e282 := PTx.fr e245 hF277 hR278 rfl rfl rfl
  refine Or.inl ⟨rfl, ?_⟩
  refine r_load (i := 80) (u := 0) (w := 2) rfl rfl rfl ?_
  have h283 := hI276.b1
  have h284 : S272.f 34 1 = S235.f 34 1 := hF277.f rfl
  refine r_call (i := 81) (u := 8) (v := 162) (w := 0) (b := 0) (na := 257) (C2 := xC162) (as := [(2, 33)]) (s := []) rfl rfl rfl rfl rfl rfl rfl (sp162  hI276  (by omega)  (by omega)) (fun r285 S286 hq287 => ?_)
  obtain ⟨rfl, h288, wq289, hI290, hF291, hR292⟩ := hq287
  have hF293 := hF279.trans hF291 rfl rfl
  have hR294 := hR280.trans hR292 rfl
  have e295 := PLx.fr e281 hF291 hR292 rfl rfl rfl
  have e296 := PTx.fr e282 hF291 hR292 rfl rfl rfl
  refine Or.inl ⟨rfl, ?_⟩
  refine r_load (i := 82) (u := 0) (w := 2) rfl rfl rfl ?_
  have h297 := hI290.b1
  have h298 : S286.f 33 12 = S272.f 33 12 := hF291.f rfl
  have h299 : S272.f 33 12 = S235.f 33 12 := hF277.f rfl
  have h300 : S235.f 33 12 = S222.f 33 12 := hF240.f rfl
  have h301 : S222.f 33 12 = S203.f 33 12 := hF227.f rfl
  have h302 : S203.f 33 12 = S187.f 33 12 := hF212.f rfl
  have h303 : S187.f 33 12 = S172.f 33 12 := hF196.f rfl
  have h304 : S172.f 33 12 = S145.f 33 12 := hF181.f rfl
  have h305 : S145.f 33 12 = S117.f 33 12 := hF154.f rfl
  have h306 : S117.f 33 12 = S104.f 33 12 := hF122.f rfl
  have h307 : S104.f 33 12 = S91.f 33 12 := hF109.f rfl
  have h308 : S91.f 33 12 = S75.f 33 12 := hF96.f rfl
  have h309 : S75.f 33 12 = S60.f 33 12 := hF84.f rfl
  have h310 : S60.f 33 12 = S47.f 33 12 := hF65.f rfl
  have h311 : S47.f 33 12 = S33.f 33 12 := hF52.f rfl
  have h312 : S286.f 33 13 = S272.f 33 13 := hF291.f rfl
  have h313 : S272.f 33 13 = S235.f 33 13 := hF277.f rfl
  have h314 : S235.f 33 13 = S222.f 33 13 := hF240.f rfl
  have h315 : S222.f 33 13 = S203.f 33 13 := hF227.f rfl
  have h316 : S203.f 33 13 = S187.f 33 13 := hF212.f rfl
  have h317 : S187.f 33 13 = S172.f 33 13 := hF196.f rfl
  have h318 : S172.f 33 13 = S145.f 33 13 := hF181.f rfl
  have h319 : S145.f 33 13 = S117.f 33 13 := hF154.f rfl
  have h320 : S117.f 33 13 = S104.f 33 13 := hF122.f rfl
  have h321 : S104.f 33 13 = S91.f 33 13 := hF109.f rfl
  have h322 : S91.f 33 13 = S75.f 33 13 := hF96.f rfl
  have h323 : S75.f 33 13 = S60.f 33 13 := hF84.f rfl
  have h324 : S60.f 33 13 = S47.f 33 13 := hF65.f rfl
  have h325 : S47.f 33 13 = S33.f 33 13 := hF52.f rfl
  refine r_call (i := 83) (u := 8) (v := 152) (w := 0) (b := 0) (na := 257) (C2 := xC152) (as := [(2, 33)]) (s := []) rfl rfl rfl rfl rfl rfl rfl (sp152  hI290  (by omega) (by omega)  (by omega)) (fun r326 S327 hq328 => ?_)
  obtain ⟨rfl, h329, wec330, hI331, hF332, hR333⟩ := hq328
  have hF334 := hF293.trans hF332 rfl rfl
  have hR335 := hR294.trans hR333 rfl
  have e336 := PLx.fr e295 hF332 hR333 rfl rfl rfl
  have e337 := PTx.fr e296 hF332 hR333 rfl rfl rfl
  refine Or.inl ⟨rfl, ?_⟩
  have h338 := hI331.b0
  have h339 : S327.f 31 1 = S286.f 31 1 := hF332.f rfl
  have h340 : S286.f 31 1 = S272.f 31 1 := hF291.f rfl
  have h341 : S272.f 31 1 = S235.f 31 1 := hF277.f rfl
  have h342 : S235.f 31 1 = S222.f 31 1 := hF240.f rfl
  have h343 : S222.f 31 1 = S203.f 31 1 := hF227.f rfl
  have h344 := hI331.b1
  have h345 : S327.f 34 1 = S286.f 34 1 := hF332.f rfl
  have h346 := hI331.f tf17_6
  have h347 : S327.f 17 6 = S286.f 17 6 := hF332.f rfl
  have h348 : S286.f 17 6 = S272.f 17 6 := hF291.f rfl
  have h349 : S272.f 17 6 = S235.f 17 6 := hF277.f rfl
  have h350 : S235.f 17 6 = S222.f 17 6 := hF240.f rfl
  have h351 : S222.f 17 6 = S203.f 17 6 := hF227.f rfl
  have h352 : S203.f 17 6 = S187.f 17 6 := hF212.f rfl
  have h353 : S187.f 17 6 = S172.f 17 6 := hF196.f rfl
  have h354 : S172.f 17 6 = S145.f 17 6 := hF181.f rfl
  have h355 : S145.f 17 6 = S117.f 17 6 := hF154.f rfl
  have h356 : S117.f 17 6 = S104.f 17 6 := hF122.f rfl
  have h357 : S104.f 17 6 = S91.f 17 6 := hF109.f rfl
  have h358 : S91.f 17 6 = S75.f 17 6 := hF96.f rfl
  have h359 : S75.f 17 6 = S60.f 17 6 := hF84.f rfl
  have h360 : S60.f 17 6 = S47.f 17 6 := hF65.f rfl
  have h361 : S47.f 17 6 = S33.f 17 6 := hF52.f rfl
  have h362 : S33.f 17 6 = S19.f 17 6 := hF41.f rfl
  have h363 : S19.f 17 6 = S.f 17 6 := hF26.f rfl
  have h364 := hI331.a ta12 m.toNat
  have h365 : S327.a 12 m.toNat = S286.a 12 m.toNat := hF332.a rfl _
  have h366 : S286.a 12 m.toNat = S272.a 12 m.toNat := hF291.a rfl _
  have h367 : S272.a 12 m.toNat = S235.a 12 m.toNat := hF277.a rfl _
  have h368 : S235.a 12 m.toNat = S222.a 12 m.toNat := hF240.a rfl _
  have h369 : S222.a 12 m.toNat = S203.a 12 m.toNat := hF227.a rfl _
  have h370 : S203.a 12 m.toNat = S187.a 12 m.toNat := hF212.a rfl _
  have h371 := hI331.a ta11 m.toNat
  have h372 : S327.a 11 m.toNat = S286.a 11 m.toNat := hF332.a rfl _
  have h373 : S286.a 11 m.toNat = S272.a 11 m.toNat := hF291.a rfl _
  have h374 : S272.a 11 m.toNat = S235.a 11 m.toNat := hF277.a rfl _
  have h375 : S235.a 11 m.toNat = S222.a 11 m.toNat := hF240.a rfl _
  have h376 : S222.a 11 m.toNat = S203.a 11 m.toNat := hF227.a rfl _
  have h377 : S203.a 11 m.toNat = S187.a 11 m.toNat := hF212.a rfl _
  have h378 : S327.a 13 m.toNat = S286.a 13 m.toNat := hF332.a rfl _
  have h379 : S286.a 13 m.toNat = S272.a 13 m.toNat := hF291.a rfl _
  have h380 : S272.a 13 m.toNat = S235.a 13 m.toNat := hF277.a rfl _
  have h381 : S235.a 13 m.toNat = S222.a 13 m.toNat := hF240.a rfl _
  have h382 : S222.a 13 m.toNat = S203.a 13 m.toNat := hF227.a rfl _
  have h383 : S203.a 13 m.toNat = S187.a 13 m.toNat := hF212.a rfl _
  have h384 := hI331.a ta14 m.toNat
  have h385 : S327.a 14 m.toNat = S286.a 14 m.toNat := hF332.a rfl _
  have h386 : S286.a 14 m.toNat = S272.a 14 m.toNat := hF291.a rfl _
  have h387 : S272.a 14 m.toNat = S235.a 14 m.toNat := hF277.a rfl _
  have h388 : S235.a 14 m.toNat = S222.a 14 m.toNat := hF240.a rfl _
  have h389 : S222.a 14 m.toNat = S203.a 14 m.toNat := hF227.a rfl _
  have h390 : S203.a 14 m.toNat = S187.a 14 m.toNat := hF212.a rfl _
  exact r_ret0 (i := 84) rfl ⟨rfl, (by omega), (by omega), (by intro w9 hw0 hp9; obtain ⟨hwh, hq9⟩ := cW_hd whd23 hw0 hp9; have ln9 := cW_ln hwh (by omega); have hw1 := wq38 _ hwh; have hw2 := wq50 _ hw1; have hw3 := wq63 _ hw2; obtain ⟨hw4, ew4⟩ := wj81 _ hw3 (okQ_e (by simp only [g_an, g_ak, g_ub, g_su, g_di, g_ah, g_sc, g_mx, g_ei, g_ec, g_by, g_mv, g_dp, g_op, g_oB, g_oE, g_pt, g_cl, g_m2, g_mb, g_fd, g_gf, g_om, g_20, g_pu, g_l1, g_lv, g_cs, g_bx, g_ld, g_ao, g_a0]) hq9); have hw5 := wq94 _ hw4; have hw6 := wq107 _ hw5; have hw7 := wq120 _ hw6; obtain ⟨hw8, ew8⟩ := wi151 _ hw7; obtain ⟨hv1, ev1⟩ := wo_1 hw8 (by simp only [g_an, g_ak, g_ub, g_su, g_di, g_ah, g_sc, g_mx, g_ei, g_ec, g_by, g_mv, g_dp, g_op, g_oB, g_oE, g_pt, g_cl, g_m2, g_mb, g_fd, g_gf, g_om, g_20, g_pu, g_l1, g_lv, g_cs, g_bx, g_ld, g_ao, g_a0]; rfl) nm_ne rfl wi178 (fun a9 b9 c9 d9 => pa193 (by decide) (by decide) a9 b9 c9 d9) (fun a9 b9 => pa209 (by decide) (by decide) (by omega) (by omega) a9 b9); have hv2 := wq225 _ hv1; have hv3 := wq238 _ hv2; have hv4 := wei275 _ hv3; have hv5 := wq289 _ hv4; have hv6 := wec330 _ hv5; subst ew4; subst ew8; subst ev1; exact cW_c hv6 (wco_eq (by unfold coA co1; have e9 := ln9; rw [show acX (S.a 12 m.toNat) + 0 = acX (S.a 12 m.toNat) from Int.add_zero _] at e9; omega) (by unfold coA co1; have e9 := ln9; rw [show acX (S.a 12 m.toNat) + 0 = acX (S.a 12 m.toNat) from Int.add_zero _] at e9; omega) ((pkR_fr (b := 4) hF122 rfl).trans ((pkR_fr (b := 4) hF109 rfl).trans ((pkR_fr (b := 4) hF96 rfl).trans ((pkR_fr (b := 4) hF84 rfl).trans ((pkR_fr (b := 4) hF65 rfl).trans ((pkR_fr (b := 4) hF52 rfl).trans ((pkR_fr (b := 4) hF41 rfl).trans (pkR_fr (b := 4) hF26 rfl)))))))) ((pkR_fr (b := 4) hF154 rfl).trans ((pkR_fr (b := 4) hF122 rfl).trans ((pkR_fr (b := 4) hF109 rfl).trans ((pkR_fr (b := 4) hF96 rfl).trans ((pkR_fr (b := 4) hF84 rfl).trans ((pkR_fr (b := 4) hF65 rfl).trans ((pkR_fr (b := 4) hF52 rfl).trans ((pkR_fr (b := 4) hF41 rfl).trans (pkR_fr (b := 4) hF26 rfl))))))))) (by omega) wda13)), e336, hI331, hF334, hR335⟩
end XNC
