set_option linter.unusedVariables false
set_option maxRecDepth 4000
noncomputable section XNC
/-- ProxyForge$Bytes.has -/
theorem sp27_31 {G : xk} {S : yS} {d : Nat} (hI : yI S) {k : Int} (h_k : -2147483648 ≤ k ∧ k ≤ 2147483647) (hd : 0 ≤ d) : yT xPr G LY xC27 0 [some ((2, 31)), some (vi k)] [] S d (fun r S' => ∃ z : Int, r = (1, vi z) ∧ 0 ≤ z ∧ z ≤ 1 ∧ (z = 1 → 0 ≤ k ∧ k < S.f 31 1) ∧ (z = 0 → k < 0 ∨ S.f 31 1 ≤ k) ∧ S = S') := by
  refine yT_pad 0 ?_
  show yT xPr G LY xC27 0 [some ((2, 31)), some (vi k)] [] S d _
  refine r_load (i := 0) (u := 1) (w := 0) rfl rfl rfl ?_
  refine z_lt (i := 1) (v := 8) rfl ⟨by omega, by omega⟩ (fun h1 => ?_) (fun h2 => ?_)
  · refine r_const (i := 8) (u := 0) (z := 0) rfl rfl ?_
    have h3 := hI.b0
    exact r_retZ (i := 9) rfl (by omega) (by omega) ⟨0, rfl, by omega, by omega, (by omega), (by omega), rfl⟩
  · refine r_load (i := 2) (u := 1) (w := 0) rfl rfl rfl ?_
    refine r_load (i := 3) (u := 0) (w := 2) rfl rfl rfl ?_
    have h4 := hI.b0
    refine r_getf (i := 4) (v := 1) (w := 7) (x := vi (S.f 31 1)) rfl ly31 rfl rfl fun h5 => ?_
    have h5 : Rg (S.f 31 1) := h5
    refine c_ge (i := 5) (v := 8) rfl ⟨by omega, by omega⟩ ⟨by omega, by omega⟩ (fun h6 => ?_) (fun h7 => ?_)
    · refine r_const (i := 8) (u := 0) (z := 0) rfl rfl ?_
      exact r_retZ (i := 9) rfl (by omega) (by omega) ⟨0, rfl, by omega, by omega, (by omega), (by omega), rfl⟩
    · refine r_const (i := 6) (u := 1) (z := 1) rfl rfl ?_
      refine r_goto (i := 7) (v := 9) rfl ?_
      exact r_retZ (i := 9) rfl (by omega) (by omega) ⟨1, rfl, by omega, by omega, (by omega), (by omega), rfl⟩
/-- ProxyForge$Bytes.get -/
theorem sp25_31 {G : xk} {S : yS} {d : Nat} (hI : yI S) {k : Int} (h_k : -2147483648 ≤ k ∧ k ≤ 2147483647) (p_0 : 0 ≤ k ∧ k < S.n 0) (hd : 0 ≤ d) : yT xPr G LY xC25 0 [some ((2, 31)), some (vi k)] [] S d (fun r S' => ∃ z : Int, r = (1, vi z) ∧ 0 ≤ z ∧ z ≤ 255 ∧ z = yand (S.a 100 k.toNat) 255 ∧ S = S') := by
  refine yT_pad 0 ?_
  show yT xPr G LY xC25 0 [some ((2, 31)), some (vi k)] [] S d _
  have h1 := hI.bn
  have h2 := hI.br
  refine r_load (i := 0) (u := 0) (w := 2) rfl rfl rfl ?_
  refine r_getf (i := 1) (v := 0) (w := 7) (x := (2, S.p 0)) rfl ly31 rfl rfl fun _ => ?_
  refine r_load (i := 2) (u := 1) (w := 0) rfl rfl rfl ?_
  refine g_bload (i := 3) (k := 0) rfl rfl rfl (by omega) (by omega) fun h4 => ?_
  have h4 : -128 ≤ S.a 100 k.toNat ∧ S.a 100 k.toNat ≤ 127 := h4
  refine r_const (i := 4) (u := 255) (z := 255) rfl rfl ?_
  refine r_iand (i := 5) rfl ?_
  have h5 := @yand_c (S.a 100 k.toNat) 255 (by decide) (by decide)
  have h6 := yand_255 (S.a 100 k.toNat)
  exact r_retI (i := 6) rfl ⟨yand (S.a 100 k.toNat) 255, rfl, by omega, by omega, (by omega), rfl⟩
/-- ProxyForge$Bytes.set -/
theorem sp31_31 {G : xk} {S : yS} {d : Nat} (hI : yI S) {k : Int} (h_k : -2147483648 ≤ k ∧ k ≤ 2147483647) {b : Int} (h_b : -2147483648 ≤ b ∧ b ≤ 2147483647) (p_0 : 0 ≤ k ∧ k < S.n 0) (hd : 0 ≤ d) : yT xPr G LY xC31 0 [some ((2, 31)), some (vi k), some (vi b)] [] S d (fun r S' => r = (0, (0, 0)) ∧ bl S' 100 (S'.f 31 1) = (bl S 100 (S.f 31 1)).set k.toNat (b % 256) ∧ yI S' ∧ yFr [] [100] S S' ∧ yRm [] S S') := by
  refine yT_pad 0 ?_
  show yT xPr G LY xC31 0 [some ((2, 31)), some (vi k), some (vi b)] [] S d _
  have hF : yFr [] [100] S S := yFr.refl S
  have hR : yRm [] S S := yRm.refl S
  have h1 := hI.bn
  have h2 := hI.br
  refine r_load (i := 0) (u := 0) (w := 2) rfl rfl rfl ?_
  refine r_getf (i := 1) (v := 0) (w := 7) (x := (2, S.p 0)) rfl ly31 rfl rfl fun _ => ?_
  refine r_load (i := 2) (u := 1) (w := 0) rfl rfl rfl ?_
  refine r_load (i := 3) (u := 2) (w := 0) rfl rfl rfl ?_
  refine r_i2b (i := 4) rfl ?_
  have h4 := yby_rg b
  refine g_bstore (i := 5) (k := 0) rfl (Or.inl (by decide)) rfl (by omega) (by omega) ?_
  have hI6 := hI.setg (b := 100) (j := k.toNat) (z := yby (yby b)) rfl rfl
  have hF8 := hF.seta (b := 100) (j := k.toNat) (z := yby (yby b)) rfl
  have hR9 := hR.seta (b := 100) (j := k.toNat) (z := yby (yby b))
  refine yT_gen (fun S5 hS7 => ?_)
  rw [hS7] at hI6 hF8 hR9 
  have h10 := hI6.b0
  have h11 : S5.f 31 1 = S.f 31 1 := by rw [← hS7]; rfl
  exact r_ret0 (i := 6) rfl ⟨rfl, (by rw [show S5.f 31 1 = S.f 31 1 by omega]; exact bl_set (S := S) (v := yby (yby b)) (by rw [yby_m, yby_m]) (fun j => by subst hS7; rfl)), hI6, hF8, hR9⟩
/-- ProxyForge$Bytes.setTwo -/
theorem sp33_31 {G : xk} {S : yS} {d : Nat} (hI : yI S) {k : Int} (h_k : -2147483648 ≤ k ∧ k ≤ 2147483647) {b : Int} (h_b : -2147483648 ≤ b ∧ b ≤ 2147483647) (p_0 : 0 ≤ k ∧ k + 1 < S.n 0) (hd : 1 ≤ d) : yT xPr G LY xC33 0 [some ((2, 31)), some (vi k), some (vi b)] [] S d (fun r S' => r = (0, (0, 0)) ∧ bl S' 100 (S'.f 31 1) = st2 (bl S 100 (S.f 31 1)) k b ∧ yI S' ∧ yFr [] [100] S S' ∧ yRm [] S S') := by
  refine yT_pad 0 ?_
  show yT xPr G LY xC33 0 [some ((2, 31)), some (vi k), some (vi b)] [] S d _
  obtain ⟨d, rfl⟩ : ∃ q, d = q + 1 := ⟨d - 1, by omega⟩
  have hF : yFr [] [100] S S := yFr.refl S
  have hR : yRm [] S S := yRm.refl S
  have h1 := hI.bn
  have h2 := hI.br
  refine r_load (i := 0) (u := 0) (w := 2) rfl rfl rfl ?_
  refine r_load (i := 1) (u := 1) (w := 0) rfl rfl rfl ?_
  refine r_load (i := 2) (u := 2) (w := 0) rfl rfl rfl ?_
  refine r_const (i := 3) (u := 8) (z := 8) rfl rfl ?_
  refine r_iushr (i := 4) rfl (by omega) (by omega) ?_
  have h3 := yshr_rg b 8
  have h4 := hI.b0
  refine r_call (i := 5) (u := 7) (v := 31) (w := 0) (b := 0) (na := 771) (C2 := xC31) (as := [(2, 31), vi k, vi (yshr b 8)]) (s := []) rfl rfl rfl rfl rfl rfl rfl (sp31_31 (k := k) (b := yshr b 8) hI ⟨by omega, by omega⟩ ⟨by omega, by omega⟩ (by omega)  (by omega)) (fun r5 S6 hq7 => ?_)
  obtain ⟨rfl, bs8, hI9, hF10, hR11⟩ := hq7
  have hF12 := hF.trans hF10 rfl rfl
  have hR13 := hR.trans hR11 rfl
  refine Or.inl ⟨rfl, ?_⟩
  refine r_load (i := 6) (u := 0) (w := 2) rfl rfl rfl ?_
  refine r_load (i := 7) (u := 1) (w := 0) rfl rfl rfl ?_
  refine r_const (i := 8) (u := 1) (z := 1) rfl rfl ?_
  refine r_iadd (i := 9) rfl ?_
  refine r_load (i := 10) (u := 2) (w := 0) rfl rfl rfl ?_
  have h14 := hI9.bn
  have h15 := hI9.br
  have h16 : S6.n 0 = S.n 0 := hR11.eq rfl rfl
  have h17 : S6.n 1 = S.n 1 := hR11.eq rfl rfl
  have h18 : S6.n 2 = S.n 2 := hR11.eq rfl rfl
  have h19 : S6.n 3 = S.n 3 := hR11.eq rfl rfl
  have h20 : S6.n 4 = S.n 4 := hR11.eq rfl rfl
  have h21 := hI9.b0
  have h22 : S6.f 31 1 = S.f 31 1 := hF10.f rfl
  refine r_call (i := 11) (u := 7) (v := 31) (w := 0) (b := 0) (na := 771) (C2 := xC31) (as := [(2, 31), vi (k + 1), vi b]) (s := []) rfl rfl rfl rfl rfl rfl rfl (sp31_31 (k := k + 1) (b := b) hI9 ⟨by omega, by omega⟩ ⟨by omega, by omega⟩ (by omega)  (by omega)) (fun r23 S24 hq25 => ?_)
  obtain ⟨rfl, bs26, hI27, hF28, hR29⟩ := hq25
  have hF30 := hF12.trans hF28 rfl rfl
  have hR31 := hR13.trans hR29 rfl
  refine Or.inl ⟨rfl, ?_⟩
  have h32 := hI27.b0
  have h33 : S24.f 31 1 = S6.f 31 1 := hF28.f rfl
  have h34 : S6.f 31 1 = S.f 31 1 := hF10.f rfl
  exact r_ret0 (i := 12) rfl ⟨rfl, (by rw [bs26, bs8, st2_of]), hI27, hF30, hR31⟩
/-- ProxyForge$Bytes.setFour -/
theorem sp32_31 {G : xk} {S : yS} {d : Nat} (hI : yI S) {k : Int} (h_k : -2147483648 ≤ k ∧ k ≤ 2147483647) {b : Int} (h_b : -2147483648 ≤ b ∧ b ≤ 2147483647) (p_0 : 0 ≤ k ∧ k + 3 < S.n 0) (hd : 2 ≤ d) : yT xPr G LY xC32 0 [some ((2, 31)), some (vi k), some (vi b)] [] S d (fun r S' => r = (0, (0, 0)) ∧ bl S' 100 (S'.f 31 1) = st4 (bl S 100 (S.f 31 1)) k b ∧ yI S' ∧ yFr [] [100] S S' ∧ yRm [] S S') := by
  refine yT_pad 0 ?_
  show yT xPr G LY xC32 0 [some ((2, 31)), some (vi k), some (vi b)] [] S d _
  obtain ⟨d, rfl⟩ : ∃ q, d = q + 1 := ⟨d - 1, by omega⟩
  have hF : yFr [] [100] S S := yFr.refl S
  have hR : yRm [] S S := yRm.refl S
  have h1 := hI.bn
  have h2 := hI.br
  refine r_load (i := 0) (u := 0) (w := 2) rfl rfl rfl ?_
  refine r_load (i := 1) (u := 1) (w := 0) rfl rfl rfl ?_
  refine r_load (i := 2) (u := 2) (w := 0) rfl rfl rfl ?_
  refine r_const (i := 3) (u := 16) (z := 16) rfl rfl ?_
  refine r_iushr (i := 4) rfl (by omega) (by omega) ?_
  have h3 := yshr_rg b 16
  have h4 := hI.b0
  refine r_call (i := 5) (u := 7) (v := 33) (w := 0) (b := 0) (na := 771) (C2 := xC33) (as := [(2, 31), vi k, vi (yshr b 16)]) (s := []) rfl rfl rfl rfl rfl rfl rfl (sp33_31 (k := k) (b := yshr b 16) hI ⟨by omega, by omega⟩ ⟨by omega, by omega⟩ (by omega)  (by omega)) (fun r5 S6 hq7 => ?_)
  obtain ⟨rfl, bsw8, hI9, hF10, hR11⟩ := hq7
  have hF12 := hF.trans hF10 rfl rfl
  have hR13 := hR.trans hR11 rfl
  refine Or.inl ⟨rfl, ?_⟩
  refine r_load (i := 6) (u := 0) (w := 2) rfl rfl rfl ?_
  refine r_load (i := 7) (u := 1) (w := 0) rfl rfl rfl ?_
  refine r_const (i := 8) (u := 2) (z := 2) rfl rfl ?_
  refine r_iadd (i := 9) rfl ?_
  refine r_load (i := 10) (u := 2) (w := 0) rfl rfl rfl ?_
  have h14 := hI9.bn
  have h15 := hI9.br
  have h16 : S6.n 0 = S.n 0 := hR11.eq rfl rfl
  have h17 : S6.n 1 = S.n 1 := hR11.eq rfl rfl
  have h18 : S6.n 2 = S.n 2 := hR11.eq rfl rfl
  have h19 : S6.n 3 = S.n 3 := hR11.eq rfl rfl
  have h20 : S6.n 4 = S.n 4 := hR11.eq rfl rfl
  have h21 := hI9.b0
  have h22 : S6.f 31 1 = S.f 31 1 := hF10.f rfl
  refine r_call (i := 11) (u := 7) (v := 33) (w := 0) (b := 0) (na := 771) (C2 := xC33) (as := [(2, 31), vi (k + 2), vi b]) (s := []) rfl rfl rfl rfl rfl rfl rfl (sp33_31 (k := k + 2) (b := b) hI9 ⟨by omega, by omega⟩ ⟨by omega, by omega⟩ (by omega)  (by omega)) (fun r23 S24 hq25 => ?_)
  obtain ⟨rfl, bsw26, hI27, hF28, hR29⟩ := hq25
  have hF30 := hF12.trans hF28 rfl rfl
  have hR31 := hR13.trans hR29 rfl
  refine Or.inl ⟨rfl, ?_⟩
  have h32 := hI27.b0
  have h33 : S24.f 31 1 = S6.f 31 1 := hF28.f rfl
  have h34 : S6.f 31 1 = S.f 31 1 := hF10.f rfl
  exact r_ret0 (i := 12) rfl ⟨rfl, (by rw [bsw26, bsw8, st4_of]), hI27, hF30, hR31⟩
/-- ProxyForge$Bytes.one -/
theorem sp29_31 {G : xk} {S : yS} {d : Nat} (hI : yI S) {b : Int} (h_b : -2147483648 ≤ b ∧ b ≤ 2147483647) (p_0 : S.f 31 1 ≤ 59999) (hd : 4 ≤ d) : yT xPr G LY xC29 0 [some ((2, 31)), some (vi b)] [] S d (fun r S' => r = (0, (0, 0)) ∧ S'.f 31 1 = S.f 31 1 + 1 ∧ bl S' 100 (S'.f 31 1) = bl S 100 (S.f 31 1) ++ [b % 256] ∧ yI S' ∧ yFr [(31, 1)] [100, 105] S S' ∧ yRm [0] S S') := by
  refine yT_pad 0 ?_
  show yT xPr G LY xC29 0 [some ((2, 31)), some (vi b)] [] S d _
  obtain ⟨d, rfl⟩ : ∃ q, d = q + 1 := ⟨d - 1, by omega⟩
  have hF : yFr [(31, 1)] [100, 105] S S := yFr.refl S
  have hR : yRm [0] S S := yRm.refl S
  have h1 := hI.b0
  refine r_load (i := 0) (u := 0) (w := 2) rfl rfl rfl ?_
  refine r_getf (i := 1) (v := 1) (w := 7) (x := vi (S.f 31 1)) rfl ly31 rfl rfl fun h2 => ?_
  have h2 : Rg (S.f 31 1) := h2
  refine r_load (i := 2) (u := 0) (w := 2) rfl rfl rfl ?_
  refine r_getf (i := 3) (v := 0) (w := 7) (x := (2, S.p 0)) rfl ly31 rfl rfl fun _ => ?_
  have h4 := hI.bn
  have h5 := hI.br
  refine g_len (i := 4) (k := 0) rfl rfl (Or.inl (by decide)) (by first | exact Or.inl rfl | exact Or.inr rfl) fun h6 => ?_
  refine c_lt (i := 5) (v := 16) rfl ⟨by omega, by omega⟩ ⟨by omega, by omega⟩ (fun h7 => ?_) (fun h8 => ?_)
  · refine r_load (i := 16) (u := 0) (w := 2) rfl rfl rfl ?_
    refine r_getf (i := 17) (v := 0) (w := 7) (x := (2, S.p 0)) rfl ly31 rfl rfl fun _ => ?_
    refine r_load (i := 18) (u := 0) (w := 2) rfl rfl rfl ?_
    refine r_getf (i := 19) (v := 1) (w := 7) (x := vi (S.f 31 1)) rfl ly31 rfl rfl fun h10 => ?_
    have h10 : Rg (S.f 31 1) := h10
    refine r_load (i := 20) (u := 1) (w := 0) rfl rfl rfl ?_
    refine r_i2b (i := 21) rfl ?_
    have h11 := yby_rg b
    refine g_bstore (i := 22) (k := 0) rfl (Or.inl (by decide)) rfl (by omega) (by omega) ?_
    have hI13 := hI.setg (b := 100) (j := (S.f 31 1).toNat) (z := yby (yby b)) rfl rfl
    have hF15 := hF.seta (b := 100) (j := (S.f 31 1).toNat) (z := yby (yby b)) rfl
    have hR16 := hR.seta (b := 100) (j := (S.f 31 1).toNat) (z := yby (yby b))
    refine yT_gen (fun S12 hS14 => ?_)
    rw [hS14] at hI13 hF15 hR16 
    refine r_load (i := 23) (u := 0) (w := 2) rfl rfl rfl ?_
    refine r_dup (i := 24) rfl rfl ?_
    have h17 := hI13.b0
    have h18 : S12.f 31 1 = S.f 31 1 := by rw [← hS14]; rfl
    refine r_getf (i := 25) (v := 1) (w := 7) (x := vi (S12.f 31 1)) rfl ly31 rfl rfl fun h19 => ?_
    have h19 : Rg (S12.f 31 1) := h19
    refine r_const (i := 26) (u := 1) (z := 1) rfl rfl ?_
    refine r_iadd (i := 27) rfl ?_
    refine r_putI (i := 28) (v := 1) (w := 7) rfl ly31 rfl ⟨by omega, by omega⟩ ?_
    have h24 := hI13.bn
    have h25 := hI13.br
    have h26 : S12.n = S.n := by rw [← hS14]; rfl
    have h27 : S12.n 0 = S.n 0 := congrFun h26 0
    have h28 : S12.n 1 = S.n 1 := congrFun h26 1
    have h29 : S12.n 2 = S.n 2 := congrFun h26 2
    have h30 : S12.n 3 = S.n 3 := congrFun h26 3
    have h31 : S12.n 4 = S.n 4 := congrFun h26 4
    have hI21 := hI13.use0 (z := (S12.f 31 1) + 1) (by omega) (by omega) (by omega)
    have hF23 := hF15.setf (b := 31) (w := 1) (z := (S12.f 31 1) + 1) rfl
    have hR32 := hR16.setf (b := 31) (w := 1) (z := (S12.f 31 1) + 1)
    refine yT_gen (fun S20 hS22 => ?_)
    rw [hS22] at hI21 hF23 hR32 
    have h33 := hI21.b0
    have h34 : S20.f 31 1 = (S12.f 31 1) + 1 := by rw [← hS22]; exact ysf_eq
    exact r_ret0 (i := 29) rfl ⟨rfl, (by omega), (by rw [show S20.f 31 1 = S.f 31 1 + 1 by omega]; exact bl_1 (by omega) (fun j hj => by subst hS14 hS22; exact (ysa_ne (Or.inr (by omega))).trans rfl) (by rw [congrArg (S20.a 100) (show (S.f 31 1).toNat = (S.f 31 1).toNat by omega), show S20.a 100 ((S.f 31 1).toNat) = yby (yby b) from (by subst hS14 hS22; exact ysa_eq), yby_m, yby_m])), hI21, hF23, hR32⟩
  · refine r_load (i := 6) (u := 0) (w := 2) rfl rfl rfl ?_
    refine r_load (i := 7) (u := 0) (w := 2) rfl rfl rfl ?_
    refine r_getf (i := 8) (v := 0) (w := 7) (x := (2, S.p 0)) rfl ly31 rfl rfl fun _ => ?_
    refine r_const (i := 9) (u := 2) (z := 2) rfl rfl ?_
    refine r_load (i := 10) (u := 0) (w := 2) rfl rfl rfl ?_
    refine r_getf (i := 11) (v := 0) (w := 7) (x := (2, S.p 0)) rfl ly31 rfl rfl fun _ => ?_
    refine g_len (i := 12) (k := 0) rfl rfl (Or.inl (by decide)) (by first | exact Or.inl rfl | exact Or.inr rfl) fun h37 => ?_
    refine r_imul (i := 13) rfl ?_
    refine r_grow8 (i := 14) (k := 0) (b := 31) (v := 0) (w := 7) hI rfl rfl rfl rfl ly31 rfl rfl (by decide) rfl (by omega) (by omega) (by omega) (by omega) (by omega) (fun S38 hG39 => ?_)
    have h43 := hG39.n1
    have h44 := hG39.n 1 (by decide) (by decide)
    have h45 := hG39.n 2 (by decide) (by decide)
    have h46 := hG39.n 3 (by decide) (by decide)
    have h47 := hG39.n 4 (by decide) (by decide)
    have hI40 := hI.grow (by decide) hG39 ⟨by omega, by omega, by omega, by omega⟩ (by omega) (by omega) (by omega)
    have hF41 := hF.grow hG39 rfl rfl
    have hR42 := hR.grow hG39 (by decide) rfl (by omega) (by omega)
    refine r_load (i := 16) (u := 0) (w := 2) rfl rfl rfl ?_
    refine r_getf (i := 17) (v := 0) (w := 7) (x := (2, S38.p 0)) rfl ly31 rfl rfl fun _ => ?_
    refine r_load (i := 18) (u := 0) (w := 2) rfl rfl rfl ?_
    have h49 := hI40.b0
    have h50 : S38.f 31 1 = S.f 31 1 := by rw [hG39.f]
    refine r_getf (i := 19) (v := 1) (w := 7) (x := vi (S38.f 31 1)) rfl ly31 rfl rfl fun h51 => ?_
    have h51 : Rg (S38.f 31 1) := h51
    refine r_load (i := 20) (u := 1) (w := 0) rfl rfl rfl ?_
    refine r_i2b (i := 21) rfl ?_
    have h52 := yby_rg b
    have h53 := hI40.bn
    have h54 := hI40.br
    refine g_bstore (i := 22) (k := 0) rfl (Or.inl (by decide)) rfl (by omega) (by omega) ?_
    have hI56 := hI40.setg (b := 100) (j := (S38.f 31 1).toNat) (z := yby (yby b)) rfl rfl
    have hF58 := hF41.seta (b := 100) (j := (S38.f 31 1).toNat) (z := yby (yby b)) rfl
    have hR59 := hR42.seta (b := 100) (j := (S38.f 31 1).toNat) (z := yby (yby b))
    refine yT_gen (fun S55 hS57 => ?_)
    rw [hS57] at hI56 hF58 hR59 
    refine r_load (i := 23) (u := 0) (w := 2) rfl rfl rfl ?_
    refine r_dup (i := 24) rfl rfl ?_
    have h60 := hI56.b0
    have h61 : S55.f 31 1 = S38.f 31 1 := by rw [← hS57]; rfl
    have h62 : S38.f 31 1 = S.f 31 1 := by rw [hG39.f]
    refine r_getf (i := 25) (v := 1) (w := 7) (x := vi (S55.f 31 1)) rfl ly31 rfl rfl fun h63 => ?_
    have h63 : Rg (S55.f 31 1) := h63
    refine r_const (i := 26) (u := 1) (z := 1) rfl rfl ?_
    refine r_iadd (i := 27) rfl ?_
    refine r_putI (i := 28) (v := 1) (w := 7) rfl ly31 rfl ⟨by omega, by omega⟩ ?_
    have h68 := hI56.bn
    have h69 := hI56.br
    have h70 : S55.n = S38.n := by rw [← hS57]; rfl
    have h71 : S55.n 0 = S38.n 0 := congrFun h70 0
    have h72 : S55.n 1 = S38.n 1 := congrFun h70 1
    have h73 : S55.n 2 = S38.n 2 := congrFun h70 2
    have h74 : S55.n 3 = S38.n 3 := congrFun h70 3
    have h75 : S55.n 4 = S38.n 4 := congrFun h70 4
    have hI65 := hI56.use0 (z := (S55.f 31 1) + 1) (by omega) (by omega) (by omega)
    have hF67 := hF58.setf (b := 31) (w := 1) (z := (S55.f 31 1) + 1) rfl
    have hR76 := hR59.setf (b := 31) (w := 1) (z := (S55.f 31 1) + 1)
    refine yT_gen (fun S64 hS66 => ?_)
    rw [hS66] at hI65 hF67 hR76 
    have h77 := hI65.b0
    have h78 : S64.f 31 1 = (S55.f 31 1) + 1 := by rw [← hS66]; exact ysf_eq
    exact r_ret0 (i := 29) rfl ⟨rfl, (by omega), (by rw [show S64.f 31 1 = S.f 31 1 + 1 by omega]; exact bl_1 (by omega) (fun j hj => by subst hS57 hS66; exact (ysa_ne (Or.inr (by omega))).trans (hG39.g j (by omega))) (by rw [congrArg (S64.a 100) (show (S.f 31 1).toNat = (S38.f 31 1).toNat by omega), show S64.a 100 ((S38.f 31 1).toNat) = yby (yby b) from (by subst hS57 hS66; exact ysa_eq), yby_m, yby_m])), hI65, hF67, hR76⟩
/-- ProxyForge$Bytes.two -/
theorem sp36_31 {G : xk} {S : yS} {d : Nat} (hI : yI S) {b : Int} (h_b : -2147483648 ≤ b ∧ b ≤ 2147483647) (p_0 : S.f 31 1 ≤ 59998) (hd : 5 ≤ d) : yT xPr G LY xC36 0 [some ((2, 31)), some (vi b)] [] S d (fun r S' => r = (0, (0, 0)) ∧ S'.f 31 1 = S.f 31 1 + 2 ∧ bl S' 100 (S'.f 31 1) = bl S 100 (S.f 31 1) ++ tw b ∧ yI S' ∧ yFr [(31, 1)] [100, 105] S S' ∧ yRm [0] S S') := by
  refine yT_pad 0 ?_
  show yT xPr G LY xC36 0 [some ((2, 31)), some (vi b)] [] S d _
  obtain ⟨d, rfl⟩ : ∃ q, d = q + 1 := ⟨d - 1, by omega⟩
  have hF : yFr [(31, 1)] [100, 105] S S := yFr.refl S
  have hR : yRm [0] S S := yRm.refl S
  have h1 := hI.b0
  refine r_load (i := 0) (u := 0) (w := 2) rfl rfl rfl ?_
  refine r_load (i := 1) (u := 1) (w := 0) rfl rfl rfl ?_
  refine r_const (i := 2) (u := 8) (z := 8) rfl rfl ?_
  refine r_iushr (i := 3) rfl (by omega) (by omega) ?_
  have h2 := yshr_rg b 8
  refine r_call (i := 4) (u := 7) (v := 29) (w := 0) (b := 0) (na := 514) (C2 := xC29) (as := [(2, 31), vi (yshr b 8)]) (s := []) rfl rfl rfl rfl rfl rfl rfl (sp29_31 (b := yshr b 8) hI ⟨by omega, by omega⟩ (by omega)  (by omega)) (fun r3 S4 hq5 => ?_)
  obtain ⟨rfl, h6, bo7, hI8, hF9, hR10⟩ := hq5
  have hF11 := hF.trans hF9 rfl rfl
  have hR12 := hR.trans hR10 rfl
  refine Or.inl ⟨rfl, ?_⟩
  refine r_load (i := 5) (u := 0) (w := 2) rfl rfl rfl ?_
  refine r_load (i := 6) (u := 1) (w := 0) rfl rfl rfl ?_
  have h13 := hI8.b0
  refine r_call (i := 7) (u := 7) (v := 29) (w := 0) (b := 0) (na := 514) (C2 := xC29) (as := [(2, 31), vi b]) (s := []) rfl rfl rfl rfl rfl rfl rfl (sp29_31 (b := b) hI8 ⟨by omega, by omega⟩ (by omega)  (by omega)) (fun r14 S15 hq16 => ?_)
  obtain ⟨rfl, h17, bo18, hI19, hF20, hR21⟩ := hq16
  have hF22 := hF11.trans hF20 rfl rfl
  have hR23 := hR12.trans hR21 rfl
  refine Or.inl ⟨rfl, ?_⟩
  have h24 := hI19.b0
  exact r_ret0 (i := 8) rfl ⟨rfl, (by omega), (by rw [bo18, bo7, List.append_assoc, tw_of]), hI19, hF22, hR23⟩
/-- ProxyForge$Bytes.three -/
theorem sp35_31 {G : xk} {S : yS} {d : Nat} (hI : yI S) {b : Int} (h_b : -2147483648 ≤ b ∧ b ≤ 2147483647) {c : Int} (h_c : -2147483648 ≤ c ∧ c ≤ 2147483647) (p_0 : S.f 31 1 ≤ 59997) (hd : 4 ≤ d) : yT xPr G LY xC35 0 [some ((2, 31)), some (vi b), some (vi c)] [] S d (fun r S' => r = (0, (0, 0)) ∧ S'.f 31 1 = S.f 31 1 + 3 ∧ bl S' 100 (S'.f 31 1) = bl S 100 (S.f 31 1) ++ ([b % 256] ++ tw c) ∧ yI S' ∧ yFr [(31, 1)] [100, 105] S S' ∧ yRm [0] S S') := by
  refine yT_pad 0 ?_
  show yT xPr G LY xC35 0 [some ((2, 31)), some (vi b), some (vi c)] [] S d _
  obtain ⟨d, rfl⟩ : ∃ q, d = q + 1 := ⟨d - 1, by omega⟩
  have hF : yFr [(31, 1)] [100, 105] S S := yFr.refl S
  have hR : yRm [0] S S := yRm.refl S
  have h1 := hI.b0
  refine r_load (i := 0) (u := 0) (w := 2) rfl rfl rfl ?_
  refine r_getf (i := 1) (v := 0) (w := 7) (x := (2, S.p 0)) rfl ly31 rfl rfl fun _ => ?_
  have h3 := hI.bn
  have h4 := hI.br
  refine g_len (i := 2) (k := 0) rfl rfl (Or.inl (by decide)) (by first | exact Or.inl rfl | exact Or.inr rfl) fun h5 => ?_
  refine r_load (i := 3) (u := 0) (w := 2) rfl rfl rfl ?_
  refine r_getf (i := 4) (v := 1) (w := 7) (x := vi (S.f 31 1)) rfl ly31 rfl rfl fun h6 => ?_
  have h6 : Rg (S.f 31 1) := h6
  refine r_isub (i := 5) rfl ?_
  refine r_const (i := 6) (u := 3) (z := 3) rfl rfl ?_
  refine c_ge (i := 7) (v := 18) rfl ⟨by omega, by omega⟩ ⟨by omega, by omega⟩ (fun h7 => ?_) (fun h8 => ?_)
  · refine r_load (i := 18) (u := 0) (w := 2) rfl rfl rfl ?_
    refine r_getf (i := 19) (v := 0) (w := 7) (x := (2, S.p 0)) rfl ly31 rfl rfl fun _ => ?_
    refine r_load (i := 20) (u := 0) (w := 2) rfl rfl rfl ?_
    refine r_getf (i := 21) (v := 1) (w := 7) (x := vi (S.f 31 1)) rfl ly31 rfl rfl fun h10 => ?_
    have h10 : Rg (S.f 31 1) := h10
    refine r_load (i := 22) (u := 1) (w := 0) rfl rfl rfl ?_
    refine r_i2b (i := 23) rfl ?_
    have h11 := yby_rg b
    refine g_bstore (i := 24) (k := 0) rfl (Or.inl (by decide)) rfl (by omega) (by omega) ?_
    have hI13 := hI.setg (b := 100) (j := (S.f 31 1).toNat) (z := yby (yby b)) rfl rfl
    have hF15 := hF.seta (b := 100) (j := (S.f 31 1).toNat) (z := yby (yby b)) rfl
    have hR16 := hR.seta (b := 100) (j := (S.f 31 1).toNat) (z := yby (yby b))
    refine yT_gen (fun S12 hS14 => ?_)
    rw [hS14] at hI13 hF15 hR16 
    refine r_load (i := 25) (u := 0) (w := 2) rfl rfl rfl ?_
    refine r_getf (i := 26) (v := 0) (w := 7) (x := (2, S12.p 0)) rfl ly31 rfl rfl fun _ => ?_
    refine r_load (i := 27) (u := 0) (w := 2) rfl rfl rfl ?_
    have h18 := hI13.b0
    have h19 : S12.f 31 1 = S.f 31 1 := by rw [← hS14]; rfl
    refine r_getf (i := 28) (v := 1) (w := 7) (x := vi (S12.f 31 1)) rfl ly31 rfl rfl fun h20 => ?_
    have h20 : Rg (S12.f 31 1) := h20
    refine r_const (i := 29) (u := 1) (z := 1) rfl rfl ?_
    refine r_iadd (i := 30) rfl ?_
    refine r_load (i := 31) (u := 2) (w := 0) rfl rfl rfl ?_
    refine r_const (i := 32) (u := 8) (z := 8) rfl rfl ?_
    refine r_iushr (i := 33) rfl (by omega) (by omega) ?_
    have h21 := yshr_rg c 8
    refine r_i2b (i := 34) rfl ?_
    have h22 := yby_rg (yshr c 8)
    have h23 := hI13.bn
    have h24 := hI13.br
    have h25 : S12.n = S.n := by rw [← hS14]; rfl
    have h26 : S12.n 0 = S.n 0 := congrFun h25 0
    have h27 : S12.n 1 = S.n 1 := congrFun h25 1
    have h28 : S12.n 2 = S.n 2 := congrFun h25 2
    have h29 : S12.n 3 = S.n 3 := congrFun h25 3
    have h30 : S12.n 4 = S.n 4 := congrFun h25 4
    refine g_bstore (i := 35) (k := 0) rfl (Or.inl (by decide)) rfl (by omega) (by omega) ?_
    have hI32 := hI13.setg (b := 100) (j := ((S12.f 31 1) + 1).toNat) (z := yby (yby (yshr c 8))) rfl rfl
    have hF34 := hF15.seta (b := 100) (j := ((S12.f 31 1) + 1).toNat) (z := yby (yby (yshr c 8))) rfl
    have hR35 := hR16.seta (b := 100) (j := ((S12.f 31 1) + 1).toNat) (z := yby (yby (yshr c 8)))
    refine yT_gen (fun S31 hS33 => ?_)
    rw [hS33] at hI32 hF34 hR35 
    refine r_load (i := 36) (u := 0) (w := 2) rfl rfl rfl ?_
    refine r_getf (i := 37) (v := 0) (w := 7) (x := (2, S31.p 0)) rfl ly31 rfl rfl fun _ => ?_
    refine r_load (i := 38) (u := 0) (w := 2) rfl rfl rfl ?_
    have h37 := hI32.b0
    have h38 : S31.f 31 1 = S12.f 31 1 := by rw [← hS33]; rfl
    have h39 : S12.f 31 1 = S.f 31 1 := by rw [← hS14]; rfl
    refine r_getf (i := 39) (v := 1) (w := 7) (x := vi (S31.f 31 1)) rfl ly31 rfl rfl fun h40 => ?_
    have h40 : Rg (S31.f 31 1) := h40
    refine r_const (i := 40) (u := 2) (z := 2) rfl rfl ?_
    refine r_iadd (i := 41) rfl ?_
    refine r_load (i := 42) (u := 2) (w := 0) rfl rfl rfl ?_
    refine r_i2b (i := 43) rfl ?_
    have h41 := yby_rg c
    have h42 := hI32.bn
    have h43 := hI32.br
    have h44 : S31.n = S12.n := by rw [← hS33]; rfl
    have h45 : S31.n 0 = S12.n 0 := congrFun h44 0
    have h46 : S31.n 1 = S12.n 1 := congrFun h44 1
    have h47 : S31.n 2 = S12.n 2 := congrFun h44 2
    have h48 : S31.n 3 = S12.n 3 := congrFun h44 3
    have h49 : S31.n 4 = S12.n 4 := congrFun h44 4
    have h50 : S12.n = S.n := by rw [← hS14]; rfl
    have h51 : S12.n 0 = S.n 0 := congrFun h50 0
    have h52 : S12.n 1 = S.n 1 := congrFun h50 1
    have h53 : S12.n 2 = S.n 2 := congrFun h50 2
    have h54 : S12.n 3 = S.n 3 := congrFun h50 3
    have h55 : S12.n 4 = S.n 4 := congrFun h50 4
    refine g_bstore (i := 44) (k := 0) rfl (Or.inl (by decide)) rfl (by omega) (by omega) ?_
    have hI57 := hI32.setg (b := 100) (j := ((S31.f 31 1) + 2).toNat) (z := yby (yby c)) rfl rfl
    have hF59 := hF34.seta (b := 100) (j := ((S31.f 31 1) + 2).toNat) (z := yby (yby c)) rfl
    have hR60 := hR35.seta (b := 100) (j := ((S31.f 31 1) + 2).toNat) (z := yby (yby c))
    refine yT_gen (fun S56 hS58 => ?_)
    rw [hS58] at hI57 hF59 hR60 
    refine r_load (i := 45) (u := 0) (w := 2) rfl rfl rfl ?_
    refine r_dup (i := 46) rfl rfl ?_
    have h61 := hI57.b0
    have h62 : S56.f 31 1 = S31.f 31 1 := by rw [← hS58]; rfl
    have h63 : S31.f 31 1 = S12.f 31 1 := by rw [← hS33]; rfl
    have h64 : S12.f 31 1 = S.f 31 1 := by rw [← hS14]; rfl
    refine r_getf (i := 47) (v := 1) (w := 7) (x := vi (S56.f 31 1)) rfl ly31 rfl rfl fun h65 => ?_
    have h65 : Rg (S56.f 31 1) := h65
    refine r_const (i := 48) (u := 3) (z := 3) rfl rfl ?_
    refine r_iadd (i := 49) rfl ?_
    refine r_putI (i := 50) (v := 1) (w := 7) rfl ly31 rfl ⟨by omega, by omega⟩ ?_
    have h70 := hI57.bn
    have h71 := hI57.br
    have h72 : S56.n = S31.n := by rw [← hS58]; rfl
    have h73 : S56.n 0 = S31.n 0 := congrFun h72 0
    have h74 : S56.n 1 = S31.n 1 := congrFun h72 1
    have h75 : S56.n 2 = S31.n 2 := congrFun h72 2
    have h76 : S56.n 3 = S31.n 3 := congrFun h72 3
    have h77 : S56.n 4 = S31.n 4 := congrFun h72 4
    have h78 : S31.n = S12.n := by rw [← hS33]; rfl
    have h79 : S31.n 0 = S12.n 0 := congrFun h78 0
    have h80 : S31.n 1 = S12.n 1 := congrFun h78 1
    have h81 : S31.n 2 = S12.n 2 := congrFun h78 2
    have h82 : S31.n 3 = S12.n 3 := congrFun h78 3
    have h83 : S31.n 4 = S12.n 4 := congrFun h78 4
    have h84 : S12.n = S.n := by rw [← hS14]; rfl
    have h85 : S12.n 0 = S.n 0 := congrFun h84 0
    have h86 : S12.n 1 = S.n 1 := congrFun h84 1
    have h87 : S12.n 2 = S.n 2 := congrFun h84 2
    have h88 : S12.n 3 = S.n 3 := congrFun h84 3
    have h89 : S12.n 4 = S.n 4 := congrFun h84 4
    have hI67 := hI57.use0 (z := (S56.f 31 1) + 3) (by omega) (by omega) (by omega)
    have hF69 := hF59.setf (b := 31) (w := 1) (z := (S56.f 31 1) + 3) rfl
    have hR90 := hR60.setf (b := 31) (w := 1) (z := (S56.f 31 1) + 3)
    refine yT_gen (fun S66 hS68 => ?_)
    rw [hS68] at hI67 hF69 hR90 
    have h91 := hI67.b0
    have h92 : S66.f 31 1 = (S56.f 31 1) + 3 := by rw [← hS68]; exact ysf_eq
    exact r_ret0 (i := 51) rfl ⟨rfl, (by omega), (by rw [show S66.f 31 1 = S.f 31 1 + 3 by omega]; exact bl_3 (by omega) (fun j hj => by subst hS14 hS33 hS58 hS68; exact (((ysa_ne (Or.inr (by omega))).trans (ysa_ne (Or.inr (by omega)))).trans (ysa_ne (Or.inr (by omega)))).trans rfl) (by rw [congrArg (S66.a 100) (show (S.f 31 1).toNat = (S.f 31 1).toNat by omega), show S66.a 100 ((S.f 31 1).toNat) = yby (yby b) from (by subst hS14 hS33 hS58 hS68; exact ((ysa_ne (Or.inr (by omega))).trans ((ysa_ne (Or.inr (by omega))).trans ysa_eq))), yby_m, yby_m]) (by rw [congrArg (S66.a 100) (show (S.f 31 1 + 1).toNat = ((S12.f 31 1) + 1).toNat by omega), show S66.a 100 (((S12.f 31 1) + 1).toNat) = yby (yby (yshr c 8)) from (by subst hS14 hS33 hS58 hS68; exact ((ysa_ne (Or.inr (by omega))).trans ysa_eq)), yby_m, yby_m, yshr_8]) (by rw [congrArg (S66.a 100) (show (S.f 31 1 + 2).toNat = ((S31.f 31 1) + 2).toNat by omega), show S66.a 100 (((S31.f 31 1) + 2).toNat) = yby (yby c) from (by subst hS14 hS33 hS58 hS68; exact ysa_eq), yby_m, yby_m])), hI67, hF69, hR90⟩
  · refine r_load (i := 8) (u := 0) (w := 2) rfl rfl rfl ?_
    refine r_load (i := 9) (u := 0) (w := 2) rfl rfl rfl ?_
    refine r_getf (i := 10) (v := 0) (w := 7) (x := (2, S.p 0)) rfl ly31 rfl rfl fun _ => ?_
    refine r_const (i := 11) (u := 2) (z := 2) rfl rfl ?_
    refine r_load (i := 12) (u := 0) (w := 2) rfl rfl rfl ?_
    refine r_getf (i := 13) (v := 0) (w := 7) (x := (2, S.p 0)) rfl ly31 rfl rfl fun _ => ?_
    refine g_len (i := 14) (k := 0) rfl rfl (Or.inl (by decide)) (by first | exact Or.inl rfl | exact Or.inr rfl) fun h95 => ?_
    refine r_imul (i := 15) rfl ?_
    refine r_grow8 (i := 16) (k := 0) (b := 31) (v := 0) (w := 7) hI rfl rfl rfl rfl ly31 rfl rfl (by decide) rfl (by omega) (by omega) (by omega) (by omega) (by omega) (fun S96 hG97 => ?_)
    have h101 := hG97.n1
    have h102 := hG97.n 1 (by decide) (by decide)
    have h103 := hG97.n 2 (by decide) (by decide)
    have h104 := hG97.n 3 (by decide) (by decide)
    have h105 := hG97.n 4 (by decide) (by decide)
    have hI98 := hI.grow (by decide) hG97 ⟨by omega, by omega, by omega, by omega⟩ (by omega) (by omega) (by omega)
    have hF99 := hF.grow hG97 rfl rfl
    have hR100 := hR.grow hG97 (by decide) rfl (by omega) (by omega)
    refine r_load (i := 18) (u := 0) (w := 2) rfl rfl rfl ?_
    refine r_getf (i := 19) (v := 0) (w := 7) (x := (2, S96.p 0)) rfl ly31 rfl rfl fun _ => ?_
    refine r_load (i := 20) (u := 0) (w := 2) rfl rfl rfl ?_
    have h107 := hI98.b0
    have h108 : S96.f 31 1 = S.f 31 1 := by rw [hG97.f]
    refine r_getf (i := 21) (v := 1) (w := 7) (x := vi (S96.f 31 1)) rfl ly31 rfl rfl fun h109 => ?_
    have h109 : Rg (S96.f 31 1) := h109
    refine r_load (i := 22) (u := 1) (w := 0) rfl rfl rfl ?_
    refine r_i2b (i := 23) rfl ?_
    have h110 := yby_rg b
    have h111 := hI98.bn
    have h112 := hI98.br
    refine g_bstore (i := 24) (k := 0) rfl (Or.inl (by decide)) rfl (by omega) (by omega) ?_
    have hI114 := hI98.setg (b := 100) (j := (S96.f 31 1).toNat) (z := yby (yby b)) rfl rfl
    have hF116 := hF99.seta (b := 100) (j := (S96.f 31 1).toNat) (z := yby (yby b)) rfl
    have hR117 := hR100.seta (b := 100) (j := (S96.f 31 1).toNat) (z := yby (yby b))
    refine yT_gen (fun S113 hS115 => ?_)
    rw [hS115] at hI114 hF116 hR117 
    refine r_load (i := 25) (u := 0) (w := 2) rfl rfl rfl ?_
    refine r_getf (i := 26) (v := 0) (w := 7) (x := (2, S113.p 0)) rfl ly31 rfl rfl fun _ => ?_
    refine r_load (i := 27) (u := 0) (w := 2) rfl rfl rfl ?_
    have h119 := hI114.b0
    have h120 : S113.f 31 1 = S96.f 31 1 := by rw [← hS115]; rfl
    have h121 : S96.f 31 1 = S.f 31 1 := by rw [hG97.f]
    refine r_getf (i := 28) (v := 1) (w := 7) (x := vi (S113.f 31 1)) rfl ly31 rfl rfl fun h122 => ?_
    have h122 : Rg (S113.f 31 1) := h122
    refine r_const (i := 29) (u := 1) (z := 1) rfl rfl ?_
    refine r_iadd (i := 30) rfl ?_
    refine r_load (i := 31) (u := 2) (w := 0) rfl rfl rfl ?_
    refine r_const (i := 32) (u := 8) (z := 8) rfl rfl ?_
    refine r_iushr (i := 33) rfl (by omega) (by omega) ?_
    have h123 := yshr_rg c 8
    refine r_i2b (i := 34) rfl ?_
    have h124 := yby_rg (yshr c 8)
    have h125 := hI114.bn
    have h126 := hI114.br
    have h127 : S113.n = S96.n := by rw [← hS115]; rfl
    have h128 : S113.n 0 = S96.n 0 := congrFun h127 0
    have h129 : S113.n 1 = S96.n 1 := congrFun h127 1
    have h130 : S113.n 2 = S96.n 2 := congrFun h127 2
    have h131 : S113.n 3 = S96.n 3 := congrFun h127 3
    have h132 : S113.n 4 = S96.n 4 := congrFun h127 4
    refine g_bstore (i := 35) (k := 0) rfl (Or.inl (by decide)) rfl (by omega) (by omega) ?_
    have hI134 := hI114.setg (b := 100) (j := ((S113.f 31 1) + 1).toNat) (z := yby (yby (yshr c 8))) rfl rfl
    have hF136 := hF116.seta (b := 100) (j := ((S113.f 31 1) + 1).toNat) (z := yby (yby (yshr c 8))) rfl
    have hR137 := hR117.seta (b := 100) (j := ((S113.f 31 1) + 1).toNat) (z := yby (yby (yshr c 8)))
    refine yT_gen (fun S133 hS135 => ?_)
    rw [hS135] at hI134 hF136 hR137 
    refine r_load (i := 36) (u := 0) (w := 2) rfl rfl rfl ?_
    refine r_getf (i := 37) (v := 0) (w := 7) (x := (2, S133.p 0)) rfl ly31 rfl rfl fun _ => ?_
    refine r_load (i := 38) (u := 0) (w := 2) rfl rfl rfl ?_
    have h139 := hI134.b0
    have h140 : S133.f 31 1 = S113.f 31 1 := by rw [← hS135]; rfl
    have h141 : S113.f 31 1 = S96.f 31 1 := by rw [← hS115]; rfl
    have h142 : S96.f 31 1 = S.f 31 1 := by rw [hG97.f]
    refine r_getf (i := 39) (v := 1) (w := 7) (x := vi (S133.f 31 1)) rfl ly31 rfl rfl fun h143 => ?_
    have h143 : Rg (S133.f 31 1) := h143
    refine r_const (i := 40) (u := 2) (z := 2) rfl rfl ?_
    refine r_iadd (i := 41) rfl ?_
    refine r_load (i := 42) (u := 2) (w := 0) rfl rfl rfl ?_
    refine r_i2b (i := 43) rfl ?_
    have h144 := yby_rg c
    have h145 := hI134.bn
    have h146 := hI134.br
    have h147 : S133.n = S113.n := by rw [← hS135]; rfl
    have h148 : S133.n 0 = S113.n 0 := congrFun h147 0
    have h149 : S133.n 1 = S113.n 1 := congrFun h147 1
    have h150 : S133.n 2 = S113.n 2 := congrFun h147 2
    have h151 : S133.n 3 = S113.n 3 := congrFun h147 3
    have h152 : S133.n 4 = S113.n 4 := congrFun h147 4
    have h153 : S113.n = S96.n := by rw [← hS115]; rfl
    have h154 : S113.n 0 = S96.n 0 := congrFun h153 0
    have h155 : S113.n 1 = S96.n 1 := congrFun h153 1
    have h156 : S113.n 2 = S96.n 2 := congrFun h153 2
    have h157 : S113.n 3 = S96.n 3 := congrFun h153 3
    have h158 : S113.n 4 = S96.n 4 := congrFun h153 4
    refine g_bstore (i := 44) (k := 0) rfl (Or.inl (by decide)) rfl (by omega) (by omega) ?_
    have hI160 := hI134.setg (b := 100) (j := ((S133.f 31 1) + 2).toNat) (z := yby (yby c)) rfl rfl
    have hF162 := hF136.seta (b := 100) (j := ((S133.f 31 1) + 2).toNat) (z := yby (yby c)) rfl
    have hR163 := hR137.seta (b := 100) (j := ((S133.f 31 1) + 2).toNat) (z := yby (yby c))
    refine yT_gen (fun S159 hS161 => ?_)
    rw [hS161] at hI160 hF162 hR163 
    refine r_load (i := 45) (u := 0) (w := 2) rfl rfl rfl ?_
    refine r_dup (i := 46) rfl rfl ?_
    have h164 := hI160.b0
    have h165 : S159.f 31 1 = S133.f 31 1 := by rw [← hS161]; rfl
    have h166 : S133.f 31 1 = S113.f 31 1 := by rw [← hS135]; rfl
    have h167 : S113.f 31 1 = S96.f 31 1 := by rw [← hS115]; rfl
    have h168 : S96.f 31 1 = S.f 31 1 := by rw [hG97.f]
    refine r_getf (i := 47) (v := 1) (w := 7) (x := vi (S159.f 31 1)) rfl ly31 rfl rfl fun h169 => ?_
    have h169 : Rg (S159.f 31 1) := h169
    refine r_const (i := 48) (u := 3) (z := 3) rfl rfl ?_
    refine r_iadd (i := 49) rfl ?_
    refine r_putI (i := 50) (v := 1) (w := 7) rfl ly31 rfl ⟨by omega, by omega⟩ ?_
    have h174 := hI160.bn
    have h175 := hI160.br
    have h176 : S159.n = S133.n := by rw [← hS161]; rfl
    have h177 : S159.n 0 = S133.n 0 := congrFun h176 0
    have h178 : S159.n 1 = S133.n 1 := congrFun h176 1
    have h179 : S159.n 2 = S133.n 2 := congrFun h176 2
    have h180 : S159.n 3 = S133.n 3 := congrFun h176 3
    have h181 : S159.n 4 = S133.n 4 := congrFun h176 4
    have h182 : S133.n = S113.n := by rw [← hS135]; rfl
    have h183 : S133.n 0 = S113.n 0 := congrFun h182 0
    have h184 : S133.n 1 = S113.n 1 := congrFun h182 1
    have h185 : S133.n 2 = S113.n 2 := congrFun h182 2
    have h186 : S133.n 3 = S113.n 3 := congrFun h182 3
    have h187 : S133.n 4 = S113.n 4 := congrFun h182 4
    have h188 : S113.n = S96.n := by rw [← hS115]; rfl
    have h189 : S113.n 0 = S96.n 0 := congrFun h188 0
    have h190 : S113.n 1 = S96.n 1 := congrFun h188 1
    have h191 : S113.n 2 = S96.n 2 := congrFun h188 2
    have h192 : S113.n 3 = S96.n 3 := congrFun h188 3
    have h193 : S113.n 4 = S96.n 4 := congrFun h188 4
    have hI171 := hI160.use0 (z := (S159.f 31 1) + 3) (by omega) (by omega) (by omega)
    have hF173 := hF162.setf (b := 31) (w := 1) (z := (S159.f 31 1) + 3) rfl
    have hR194 := hR163.setf (b := 31) (w := 1) (z := (S159.f 31 1) + 3)
    refine yT_gen (fun S170 hS172 => ?_)
    rw [hS172] at hI171 hF173 hR194 
    have h195 := hI171.b0
    have h196 : S170.f 31 1 = (S159.f 31 1) + 3 := by rw [← hS172]; exact ysf_eq
    exact r_ret0 (i := 51) rfl ⟨rfl, (by omega), (by rw [show S170.f 31 1 = S.f 31 1 + 3 by omega]; exact bl_3 (by omega) (fun j hj => by subst hS115 hS135 hS161 hS172; exact (((ysa_ne (Or.inr (by omega))).trans (ysa_ne (Or.inr (by omega)))).trans (ysa_ne (Or.inr (by omega)))).trans (hG97.g j (by omega))) (by rw [congrArg (S170.a 100) (show (S.f 31 1).toNat = (S96.f 31 1).toNat by omega), show S170.a 100 ((S96.f 31 1).toNat) = yby (yby b) from (by subst hS115 hS135 hS161 hS172; exact ((ysa_ne (Or.inr (by omega))).trans ((ysa_ne (Or.inr (by omega))).trans ysa_eq))), yby_m, yby_m]) (by rw [congrArg (S170.a 100) (show (S.f 31 1 + 1).toNat = ((S113.f 31 1) + 1).toNat by omega), show S170.a 100 (((S113.f 31 1) + 1).toNat) = yby (yby (yshr c 8)) from (by subst hS115 hS135 hS161 hS172; exact ((ysa_ne (Or.inr (by omega))).trans ysa_eq)), yby_m, yby_m, yshr_8]) (by rw [congrArg (S170.a 100) (show (S.f 31 1 + 2).toNat = ((S133.f 31 1) + 2).toNat by omega), show S170.a 100 (((S133.f 31 1) + 2).toNat) = yby (yby c) from (by subst hS115 hS135 hS161 hS172; exact ysa_eq), yby_m, yby_m])), hI171, hF173, hR194⟩
/-- ProxyForge$Bytes.four -/
theorem sp24_31 {G : xk} {S : yS} {d : Nat} (hI : yI S) {b : Int} (h_b : -2147483648 ≤ b ∧ b ≤ 2147483647) (p_0 : S.f 31 1 ≤ 59996) (hd : 6 ≤ d) : yT xPr G LY xC24 0 [some ((2, 31)), some (vi b)] [] S d (fun r S' => r = (0, (0, 0)) ∧ S'.f 31 1 = S.f 31 1 + 4 ∧ bl S' 100 (S'.f 31 1) = bl S 100 (S.f 31 1) ++ fo b ∧ yI S' ∧ yFr [(31, 1)] [100, 105] S S' ∧ yRm [0] S S') := by
  refine yT_pad 0 ?_
  show yT xPr G LY xC24 0 [some ((2, 31)), some (vi b)] [] S d _
  obtain ⟨d, rfl⟩ : ∃ q, d = q + 1 := ⟨d - 1, by omega⟩
  have hF : yFr [(31, 1)] [100, 105] S S := yFr.refl S
  have hR : yRm [0] S S := yRm.refl S
  have h1 := hI.b0
  refine r_load (i := 0) (u := 0) (w := 2) rfl rfl rfl ?_
  refine r_load (i := 1) (u := 1) (w := 0) rfl rfl rfl ?_
  refine r_const (i := 2) (u := 16) (z := 16) rfl rfl ?_
  refine r_iushr (i := 3) rfl (by omega) (by omega) ?_
  have h2 := yshr_rg b 16
  refine r_call (i := 4) (u := 7) (v := 36) (w := 0) (b := 0) (na := 514) (C2 := xC36) (as := [(2, 31), vi (yshr b 16)]) (s := []) rfl rfl rfl rfl rfl rfl rfl (sp36_31 (b := yshr b 16) hI ⟨by omega, by omega⟩ (by omega)  (by omega)) (fun r3 S4 hq5 => ?_)
  obtain ⟨rfl, h6, btw7, hI8, hF9, hR10⟩ := hq5
  have hF11 := hF.trans hF9 rfl rfl
  have hR12 := hR.trans hR10 rfl
  refine Or.inl ⟨rfl, ?_⟩
  refine r_load (i := 5) (u := 0) (w := 2) rfl rfl rfl ?_
  refine r_load (i := 6) (u := 1) (w := 0) rfl rfl rfl ?_
  have h13 := hI8.b0
  refine r_call (i := 7) (u := 7) (v := 36) (w := 0) (b := 0) (na := 514) (C2 := xC36) (as := [(2, 31), vi b]) (s := []) rfl rfl rfl rfl rfl rfl rfl (sp36_31 (b := b) hI8 ⟨by omega, by omega⟩ (by omega)  (by omega)) (fun r14 S15 hq16 => ?_)
  obtain ⟨rfl, h17, btw18, hI19, hF20, hR21⟩ := hq16
  have hF22 := hF11.trans hF20 rfl rfl
  have hR23 := hR12.trans hR21 rfl
  refine Or.inl ⟨rfl, ?_⟩
  have h24 := hI19.b0
  exact r_ret0 (i := 8) rfl ⟨rfl, (by omega), (by rw [btw18, btw7, List.append_assoc, fo_of]), hI19, hF22, hR23⟩
/-- ProxyForge$Bytes.has -/
theorem sp27_34 {G : xk} {S : yS} {d : Nat} (hI : yI S) {k : Int} (h_k : -2147483648 ≤ k ∧ k ≤ 2147483647) (hd : 0 ≤ d) : yT xPr G LY xC27 0 [some ((2, 34)), some (vi k)] [] S d (fun r S' => ∃ z : Int, r = (1, vi z) ∧ 0 ≤ z ∧ z ≤ 1 ∧ (z = 1 → 0 ≤ k ∧ k < S.f 34 1) ∧ S = S') := by
  refine yT_pad 0 ?_
  show yT xPr G LY xC27 0 [some ((2, 34)), some (vi k)] [] S d _
  refine r_load (i := 0) (u := 1) (w := 0) rfl rfl rfl ?_
  refine z_lt (i := 1) (v := 8) rfl ⟨by omega, by omega⟩ (fun h1 => ?_) (fun h2 => ?_)
  · refine r_const (i := 8) (u := 0) (z := 0) rfl rfl ?_
    have h3 := hI.b1
    exact r_retZ (i := 9) rfl (by omega) (by omega) ⟨0, rfl, by omega, by omega, (by omega), rfl⟩
  · refine r_load (i := 2) (u := 1) (w := 0) rfl rfl rfl ?_
    refine r_load (i := 3) (u := 0) (w := 2) rfl rfl rfl ?_
    have h4 := hI.b1
    refine r_getf (i := 4) (v := 1) (w := 7) (x := vi (S.f 34 1)) rfl ly34 rfl rfl fun h5 => ?_
    have h5 : Rg (S.f 34 1) := h5
    refine c_ge (i := 5) (v := 8) rfl ⟨by omega, by omega⟩ ⟨by omega, by omega⟩ (fun h6 => ?_) (fun h7 => ?_)
    · refine r_const (i := 8) (u := 0) (z := 0) rfl rfl ?_
      exact r_retZ (i := 9) rfl (by omega) (by omega) ⟨0, rfl, by omega, by omega, (by omega), rfl⟩
    · refine r_const (i := 6) (u := 1) (z := 1) rfl rfl ?_
      refine r_goto (i := 7) (v := 9) rfl ?_
      exact r_retZ (i := 9) rfl (by omega) (by omega) ⟨1, rfl, by omega, by omega, (by omega), rfl⟩
/-- ProxyForge$Bytes.get -/
theorem sp25_34 {G : xk} {S : yS} {d : Nat} (hI : yI S) {k : Int} (h_k : -2147483648 ≤ k ∧ k ≤ 2147483647) (p_0 : 0 ≤ k ∧ k < S.n 1) (hd : 0 ≤ d) : yT xPr G LY xC25 0 [some ((2, 34)), some (vi k)] [] S d (fun r S' => ∃ z : Int, r = (1, vi z) ∧ 0 ≤ z ∧ z ≤ 255 ∧ z = yand (S.a 101 k.toNat) 255 ∧ S = S') := by
  refine yT_pad 0 ?_
  show yT xPr G LY xC25 0 [some ((2, 34)), some (vi k)] [] S d _
  have h1 := hI.bn
  have h2 := hI.br
  refine r_load (i := 0) (u := 0) (w := 2) rfl rfl rfl ?_
  refine r_getf (i := 1) (v := 0) (w := 7) (x := (2, S.p 1)) rfl ly34 rfl rfl fun _ => ?_
  refine r_load (i := 2) (u := 1) (w := 0) rfl rfl rfl ?_
  refine g_bload (i := 3) (k := 1) rfl rfl rfl (by omega) (by omega) fun h4 => ?_
  have h4 : -128 ≤ S.a 101 k.toNat ∧ S.a 101 k.toNat ≤ 127 := h4
  refine r_const (i := 4) (u := 255) (z := 255) rfl rfl ?_
  refine r_iand (i := 5) rfl ?_
  have h5 := @yand_c (S.a 101 k.toNat) 255 (by decide) (by decide)
  have h6 := yand_255 (S.a 101 k.toNat)
  exact r_retI (i := 6) rfl ⟨yand (S.a 101 k.toNat) 255, rfl, by omega, by omega, (by omega), rfl⟩
/-- ProxyForge$Bytes.set -/
theorem sp31_34 {G : xk} {S : yS} {d : Nat} (hI : yI S) {k : Int} (h_k : -2147483648 ≤ k ∧ k ≤ 2147483647) {b : Int} (h_b : -2147483648 ≤ b ∧ b ≤ 2147483647) (p_0 : 0 ≤ k ∧ k < S.n 1) (hd : 0 ≤ d) : yT xPr G LY xC31 0 [some ((2, 34)), some (vi k), some (vi b)] [] S d (fun r S' => r = (0, (0, 0)) ∧ bl S' 101 (S'.f 34 1) = (bl S 101 (S.f 34 1)).set k.toNat (b % 256) ∧ yI S' ∧ yFr [] [101] S S' ∧ yRm [] S S') := by
  refine yT_pad 0 ?_
  show yT xPr G LY xC31 0 [some ((2, 34)), some (vi k), some (vi b)] [] S d _
  have hF : yFr [] [101] S S := yFr.refl S
  have hR : yRm [] S S := yRm.refl S
  have h1 := hI.bn
  have h2 := hI.br
  refine r_load (i := 0) (u := 0) (w := 2) rfl rfl rfl ?_
  refine r_getf (i := 1) (v := 0) (w := 7) (x := (2, S.p 1)) rfl ly34 rfl rfl fun _ => ?_
  refine r_load (i := 2) (u := 1) (w := 0) rfl rfl rfl ?_
  refine r_load (i := 3) (u := 2) (w := 0) rfl rfl rfl ?_
  refine r_i2b (i := 4) rfl ?_
  have h4 := yby_rg b
  refine g_bstore (i := 5) (k := 1) rfl (Or.inl (by decide)) rfl (by omega) (by omega) ?_
  have hI6 := hI.setg (b := 101) (j := k.toNat) (z := yby (yby b)) rfl rfl
  have hF8 := hF.seta (b := 101) (j := k.toNat) (z := yby (yby b)) rfl
  have hR9 := hR.seta (b := 101) (j := k.toNat) (z := yby (yby b))
  refine yT_gen (fun S5 hS7 => ?_)
  rw [hS7] at hI6 hF8 hR9 
  have h10 := hI6.b1
  have h11 : S5.f 34 1 = S.f 34 1 := by rw [← hS7]; rfl
  exact r_ret0 (i := 6) rfl ⟨rfl, (by rw [show S5.f 34 1 = S.f 34 1 by omega]; exact bl_set (S := S) (v := yby (yby b)) (by rw [yby_m, yby_m]) (fun j => by subst hS7; rfl)), hI6, hF8, hR9⟩
/-- ProxyForge$Bytes.setTwo -/
theorem sp33_34 {G : xk} {S : yS} {d : Nat} (hI : yI S) {k : Int} (h_k : -2147483648 ≤ k ∧ k ≤ 2147483647) {b : Int} (h_b : -2147483648 ≤ b ∧ b ≤ 2147483647) (p_0 : 0 ≤ k ∧ k + 1 < S.n 1) (hd : 1 ≤ d) : yT xPr G LY xC33 0 [some ((2, 34)), some (vi k), some (vi b)] [] S d (fun r S' => r = (0, (0, 0)) ∧ bl S' 101 (S'.f 34 1) = st2 (bl S 101 (S.f 34 1)) k b ∧ yI S' ∧ yFr [] [101] S S' ∧ yRm [] S S') := by
  refine yT_pad 0 ?_
  show yT xPr G LY xC33 0 [some ((2, 34)), some (vi k), some (vi b)] [] S d _
  obtain ⟨d, rfl⟩ : ∃ q, d = q + 1 := ⟨d - 1, by omega⟩
  have hF : yFr [] [101] S S := yFr.refl S
  have hR : yRm [] S S := yRm.refl S
  have h1 := hI.bn
  have h2 := hI.br
  refine r_load (i := 0) (u := 0) (w := 2) rfl rfl rfl ?_
  refine r_load (i := 1) (u := 1) (w := 0) rfl rfl rfl ?_
  refine r_load (i := 2) (u := 2) (w := 0) rfl rfl rfl ?_
  refine r_const (i := 3) (u := 8) (z := 8) rfl rfl ?_
  refine r_iushr (i := 4) rfl (by omega) (by omega) ?_
  have h3 := yshr_rg b 8
  have h4 := hI.b1
  refine r_call (i := 5) (u := 7) (v := 31) (w := 0) (b := 0) (na := 771) (C2 := xC31) (as := [(2, 34), vi k, vi (yshr b 8)]) (s := []) rfl rfl rfl rfl rfl rfl rfl (sp31_34 (k := k) (b := yshr b 8) hI ⟨by omega, by omega⟩ ⟨by omega, by omega⟩ (by omega)  (by omega)) (fun r5 S6 hq7 => ?_)
  obtain ⟨rfl, bs8, hI9, hF10, hR11⟩ := hq7
  have hF12 := hF.trans hF10 rfl rfl
  have hR13 := hR.trans hR11 rfl
  refine Or.inl ⟨rfl, ?_⟩
  refine r_load (i := 6) (u := 0) (w := 2) rfl rfl rfl ?_
  refine r_load (i := 7) (u := 1) (w := 0) rfl rfl rfl ?_
  refine r_const (i := 8) (u := 1) (z := 1) rfl rfl ?_
  refine r_iadd (i := 9) rfl ?_
  refine r_load (i := 10) (u := 2) (w := 0) rfl rfl rfl ?_
  have h14 := hI9.bn
  have h15 := hI9.br
  have h16 : S6.n 0 = S.n 0 := hR11.eq rfl rfl
  have h17 : S6.n 1 = S.n 1 := hR11.eq rfl rfl
  have h18 : S6.n 2 = S.n 2 := hR11.eq rfl rfl
  have h19 : S6.n 3 = S.n 3 := hR11.eq rfl rfl
  have h20 : S6.n 4 = S.n 4 := hR11.eq rfl rfl
  have h21 := hI9.b1
  have h22 : S6.f 34 1 = S.f 34 1 := hF10.f rfl
  refine r_call (i := 11) (u := 7) (v := 31) (w := 0) (b := 0) (na := 771) (C2 := xC31) (as := [(2, 34), vi (k + 1), vi b]) (s := []) rfl rfl rfl rfl rfl rfl rfl (sp31_34 (k := k + 1) (b := b) hI9 ⟨by omega, by omega⟩ ⟨by omega, by omega⟩ (by omega)  (by omega)) (fun r23 S24 hq25 => ?_)
  obtain ⟨rfl, bs26, hI27, hF28, hR29⟩ := hq25
  have hF30 := hF12.trans hF28 rfl rfl
  have hR31 := hR13.trans hR29 rfl
  refine Or.inl ⟨rfl, ?_⟩
  have h32 := hI27.b1
  have h33 : S24.f 34 1 = S6.f 34 1 := hF28.f rfl
  have h34 : S6.f 34 1 = S.f 34 1 := hF10.f rfl
  exact r_ret0 (i := 12) rfl ⟨rfl, (by rw [bs26, bs8, st2_of]), hI27, hF30, hR31⟩
/-- ProxyForge$Bytes.setFour -/
theorem sp32_34 {G : xk} {S : yS} {d : Nat} (hI : yI S) {k : Int} (h_k : -2147483648 ≤ k ∧ k ≤ 2147483647) {b : Int} (h_b : -2147483648 ≤ b ∧ b ≤ 2147483647) (p_0 : 0 ≤ k ∧ k + 3 < S.n 1) (hd : 2 ≤ d) : yT xPr G LY xC32 0 [some ((2, 34)), some (vi k), some (vi b)] [] S d (fun r S' => r = (0, (0, 0)) ∧ bl S' 101 (S'.f 34 1) = st4 (bl S 101 (S.f 34 1)) k b ∧ yI S' ∧ yFr [] [101] S S' ∧ yRm [] S S') := by
  refine yT_pad 0 ?_
  show yT xPr G LY xC32 0 [some ((2, 34)), some (vi k), some (vi b)] [] S d _
  obtain ⟨d, rfl⟩ : ∃ q, d = q + 1 := ⟨d - 1, by omega⟩
  have hF : yFr [] [101] S S := yFr.refl S
  have hR : yRm [] S S := yRm.refl S
  have h1 := hI.bn
  have h2 := hI.br
  refine r_load (i := 0) (u := 0) (w := 2) rfl rfl rfl ?_
  refine r_load (i := 1) (u := 1) (w := 0) rfl rfl rfl ?_
  refine r_load (i := 2) (u := 2) (w := 0) rfl rfl rfl ?_
  refine r_const (i := 3) (u := 16) (z := 16) rfl rfl ?_
  refine r_iushr (i := 4) rfl (by omega) (by omega) ?_
  have h3 := yshr_rg b 16
  have h4 := hI.b1
  refine r_call (i := 5) (u := 7) (v := 33) (w := 0) (b := 0) (na := 771) (C2 := xC33) (as := [(2, 34), vi k, vi (yshr b 16)]) (s := []) rfl rfl rfl rfl rfl rfl rfl (sp33_34 (k := k) (b := yshr b 16) hI ⟨by omega, by omega⟩ ⟨by omega, by omega⟩ (by omega)  (by omega)) (fun r5 S6 hq7 => ?_)
  obtain ⟨rfl, bsw8, hI9, hF10, hR11⟩ := hq7
  have hF12 := hF.trans hF10 rfl rfl
  have hR13 := hR.trans hR11 rfl
  refine Or.inl ⟨rfl, ?_⟩
  refine r_load (i := 6) (u := 0) (w := 2) rfl rfl rfl ?_
  refine r_load (i := 7) (u := 1) (w := 0) rfl rfl rfl ?_
  refine r_const (i := 8) (u := 2) (z := 2) rfl rfl ?_
  refine r_iadd (i := 9) rfl ?_
  refine r_load (i := 10) (u := 2) (w := 0) rfl rfl rfl ?_
  have h14 := hI9.bn
  have h15 := hI9.br
  have h16 : S6.n 0 = S.n 0 := hR11.eq rfl rfl
  have h17 : S6.n 1 = S.n 1 := hR11.eq rfl rfl
  have h18 : S6.n 2 = S.n 2 := hR11.eq rfl rfl
  have h19 : S6.n 3 = S.n 3 := hR11.eq rfl rfl
  have h20 : S6.n 4 = S.n 4 := hR11.eq rfl rfl
  have h21 := hI9.b1
  have h22 : S6.f 34 1 = S.f 34 1 := hF10.f rfl
  refine r_call (i := 11) (u := 7) (v := 33) (w := 0) (b := 0) (na := 771) (C2 := xC33) (as := [(2, 34), vi (k + 2), vi b]) (s := []) rfl rfl rfl rfl rfl rfl rfl (sp33_34 (k := k + 2) (b := b) hI9 ⟨by omega, by omega⟩ ⟨by omega, by omega⟩ (by omega)  (by omega)) (fun r23 S24 hq25 => ?_)
  obtain ⟨rfl, bsw26, hI27, hF28, hR29⟩ := hq25
  have hF30 := hF12.trans hF28 rfl rfl
  have hR31 := hR13.trans hR29 rfl
  refine Or.inl ⟨rfl, ?_⟩
  have h32 := hI27.b1
  have h33 : S24.f 34 1 = S6.f 34 1 := hF28.f rfl
  have h34 : S6.f 34 1 = S.f 34 1 := hF10.f rfl
  exact r_ret0 (i := 12) rfl ⟨rfl, (by rw [bsw26, bsw8, st4_of]), hI27, hF30, hR31⟩
/-- ProxyForge$Bytes.one -/
theorem sp29_34 {G : xk} {S : yS} {d : Nat} (hI : yI S) {b : Int} (h_b : -2147483648 ≤ b ∧ b ≤ 2147483647) (p_0 : S.f 34 1 ≤ 59999) (hd : 4 ≤ d) : yT xPr G LY xC29 0 [some ((2, 34)), some (vi b)] [] S d (fun r S' => r = (0, (0, 0)) ∧ S'.f 34 1 = S.f 34 1 + 1 ∧ bl S' 101 (S'.f 34 1) = bl S 101 (S.f 34 1) ++ [b % 256] ∧ yI S' ∧ yFr [(34, 1)] [101, 105] S S' ∧ yRm [1] S S') := by
  refine yT_pad 0 ?_
  show yT xPr G LY xC29 0 [some ((2, 34)), some (vi b)] [] S d _
  obtain ⟨d, rfl⟩ : ∃ q, d = q + 1 := ⟨d - 1, by omega⟩
  have hF : yFr [(34, 1)] [101, 105] S S := yFr.refl S
  have hR : yRm [1] S S := yRm.refl S
  have h1 := hI.b1
  refine r_load (i := 0) (u := 0) (w := 2) rfl rfl rfl ?_
  refine r_getf (i := 1) (v := 1) (w := 7) (x := vi (S.f 34 1)) rfl ly34 rfl rfl fun h2 => ?_
  have h2 : Rg (S.f 34 1) := h2
  refine r_load (i := 2) (u := 0) (w := 2) rfl rfl rfl ?_
  refine r_getf (i := 3) (v := 0) (w := 7) (x := (2, S.p 1)) rfl ly34 rfl rfl fun _ => ?_
  have h4 := hI.bn
  have h5 := hI.br
  refine g_len (i := 4) (k := 1) rfl rfl (Or.inl (by decide)) (by first | exact Or.inl rfl | exact Or.inr rfl) fun h6 => ?_
  refine c_lt (i := 5) (v := 16) rfl ⟨by omega, by omega⟩ ⟨by omega, by omega⟩ (fun h7 => ?_) (fun h8 => ?_)
  · refine r_load (i := 16) (u := 0) (w := 2) rfl rfl rfl ?_
    refine r_getf (i := 17) (v := 0) (w := 7) (x := (2, S.p 1)) rfl ly34 rfl rfl fun _ => ?_
    refine r_load (i := 18) (u := 0) (w := 2) rfl rfl rfl ?_
    refine r_getf (i := 19) (v := 1) (w := 7) (x := vi (S.f 34 1)) rfl ly34 rfl rfl fun h10 => ?_
    have h10 : Rg (S.f 34 1) := h10
    refine r_load (i := 20) (u := 1) (w := 0) rfl rfl rfl ?_
    refine r_i2b (i := 21) rfl ?_
    have h11 := yby_rg b
    refine g_bstore (i := 22) (k := 1) rfl (Or.inl (by decide)) rfl (by omega) (by omega) ?_
    have hI13 := hI.setg (b := 101) (j := (S.f 34 1).toNat) (z := yby (yby b)) rfl rfl
    have hF15 := hF.seta (b := 101) (j := (S.f 34 1).toNat) (z := yby (yby b)) rfl
    have hR16 := hR.seta (b := 101) (j := (S.f 34 1).toNat) (z := yby (yby b))
    refine yT_gen (fun S12 hS14 => ?_)
    rw [hS14] at hI13 hF15 hR16 
    refine r_load (i := 23) (u := 0) (w := 2) rfl rfl rfl ?_
    refine r_dup (i := 24) rfl rfl ?_
    have h17 := hI13.b1
    have h18 : S12.f 34 1 = S.f 34 1 := by rw [← hS14]; rfl
    refine r_getf (i := 25) (v := 1) (w := 7) (x := vi (S12.f 34 1)) rfl ly34 rfl rfl fun h19 => ?_
    have h19 : Rg (S12.f 34 1) := h19
    refine r_const (i := 26) (u := 1) (z := 1) rfl rfl ?_
    refine r_iadd (i := 27) rfl ?_
    refine r_putI (i := 28) (v := 1) (w := 7) rfl ly34 rfl ⟨by omega, by omega⟩ ?_
    have h24 := hI13.bn
    have h25 := hI13.br
    have h26 : S12.n = S.n := by rw [← hS14]; rfl
    have h27 : S12.n 0 = S.n 0 := congrFun h26 0
    have h28 : S12.n 1 = S.n 1 := congrFun h26 1
    have h29 : S12.n 2 = S.n 2 := congrFun h26 2
    have h30 : S12.n 3 = S.n 3 := congrFun h26 3
    have h31 : S12.n 4 = S.n 4 := congrFun h26 4
    have hI21 := hI13.use1 (z := (S12.f 34 1) + 1) (by omega) (by omega) (by omega)
    have hF23 := hF15.setf (b := 34) (w := 1) (z := (S12.f 34 1) + 1) rfl
    have hR32 := hR16.setf (b := 34) (w := 1) (z := (S12.f 34 1) + 1)
    refine yT_gen (fun S20 hS22 => ?_)
    rw [hS22] at hI21 hF23 hR32 
    have h33 := hI21.b1
    have h34 : S20.f 34 1 = (S12.f 34 1) + 1 := by rw [← hS22]; exact ysf_eq
    exact r_ret0 (i := 29) rfl ⟨rfl, (by omega), (by rw [show S20.f 34 1 = S.f 34 1 + 1 by omega]; exact bl_1 (by omega) (fun j hj => by subst hS14 hS22; exact (ysa_ne (Or.inr (by omega))).trans rfl) (by rw [congrArg (S20.a 101) (show (S.f 34 1).toNat = (S.f 34 1).toNat by omega), show S20.a 101 ((S.f 34 1).toNat) = yby (yby b) from (by subst hS14 hS22; exact ysa_eq), yby_m, yby_m])), hI21, hF23, hR32⟩
  · refine r_load (i := 6) (u := 0) (w := 2) rfl rfl rfl ?_
    refine r_load (i := 7) (u := 0) (w := 2) rfl rfl rfl ?_
    refine r_getf (i := 8) (v := 0) (w := 7) (x := (2, S.p 1)) rfl ly34 rfl rfl fun _ => ?_
    refine r_const (i := 9) (u := 2) (z := 2) rfl rfl ?_
    refine r_load (i := 10) (u := 0) (w := 2) rfl rfl rfl ?_
    refine r_getf (i := 11) (v := 0) (w := 7) (x := (2, S.p 1)) rfl ly34 rfl rfl fun _ => ?_
    refine g_len (i := 12) (k := 1) rfl rfl (Or.inl (by decide)) (by first | exact Or.inl rfl | exact Or.inr rfl) fun h37 => ?_
    refine r_imul (i := 13) rfl ?_
    refine r_grow8 (i := 14) (k := 1) (b := 34) (v := 0) (w := 7) hI rfl rfl rfl rfl ly34 rfl rfl (by decide) rfl (by omega) (by omega) (by omega) (by omega) (by omega) (fun S38 hG39 => ?_)
    have h43 := hG39.n 0 (by decide) (by decide)
    have h44 := hG39.n1
    have h45 := hG39.n 2 (by decide) (by decide)
    have h46 := hG39.n 3 (by decide) (by decide)
    have h47 := hG39.n 4 (by decide) (by decide)
    have hI40 := hI.grow (by decide) hG39 ⟨by omega, by omega, by omega, by omega⟩ (by omega) (by omega) (by omega)
    have hF41 := hF.grow hG39 rfl rfl
    have hR42 := hR.grow hG39 (by decide) rfl (by omega) (by omega)
    refine r_load (i := 16) (u := 0) (w := 2) rfl rfl rfl ?_
    refine r_getf (i := 17) (v := 0) (w := 7) (x := (2, S38.p 1)) rfl ly34 rfl rfl fun _ => ?_
    refine r_load (i := 18) (u := 0) (w := 2) rfl rfl rfl ?_
    have h49 := hI40.b1
    have h50 : S38.f 34 1 = S.f 34 1 := by rw [hG39.f]
    refine r_getf (i := 19) (v := 1) (w := 7) (x := vi (S38.f 34 1)) rfl ly34 rfl rfl fun h51 => ?_
    have h51 : Rg (S38.f 34 1) := h51
    refine r_load (i := 20) (u := 1) (w := 0) rfl rfl rfl ?_
    refine r_i2b (i := 21) rfl ?_
    have h52 := yby_rg b
    have h53 := hI40.bn
    have h54 := hI40.br
    refine g_bstore (i := 22) (k := 1) rfl (Or.inl (by decide)) rfl (by omega) (by omega) ?_
    have hI56 := hI40.setg (b := 101) (j := (S38.f 34 1).toNat) (z := yby (yby b)) rfl rfl
    have hF58 := hF41.seta (b := 101) (j := (S38.f 34 1).toNat) (z := yby (yby b)) rfl
    have hR59 := hR42.seta (b := 101) (j := (S38.f 34 1).toNat) (z := yby (yby b))
    refine yT_gen (fun S55 hS57 => ?_)
    rw [hS57] at hI56 hF58 hR59 
    refine r_load (i := 23) (u := 0) (w := 2) rfl rfl rfl ?_
    refine r_dup (i := 24) rfl rfl ?_
    have h60 := hI56.b1
    have h61 : S55.f 34 1 = S38.f 34 1 := by rw [← hS57]; rfl
    have h62 : S38.f 34 1 = S.f 34 1 := by rw [hG39.f]
    refine r_getf (i := 25) (v := 1) (w := 7) (x := vi (S55.f 34 1)) rfl ly34 rfl rfl fun h63 => ?_
    have h63 : Rg (S55.f 34 1) := h63
    refine r_const (i := 26) (u := 1) (z := 1) rfl rfl ?_
    refine r_iadd (i := 27) rfl ?_
    refine r_putI (i := 28) (v := 1) (w := 7) rfl ly34 rfl ⟨by omega, by omega⟩ ?_
    have h68 := hI56.bn
    have h69 := hI56.br
    have h70 : S55.n = S38.n := by rw [← hS57]; rfl
    have h71 : S55.n 0 = S38.n 0 := congrFun h70 0
    have h72 : S55.n 1 = S38.n 1 := congrFun h70 1
    have h73 : S55.n 2 = S38.n 2 := congrFun h70 2
    have h74 : S55.n 3 = S38.n 3 := congrFun h70 3
    have h75 : S55.n 4 = S38.n 4 := congrFun h70 4
    have hI65 := hI56.use1 (z := (S55.f 34 1) + 1) (by omega) (by omega) (by omega)
    have hF67 := hF58.setf (b := 34) (w := 1) (z := (S55.f 34 1) + 1) rfl
    have hR76 := hR59.setf (b := 34) (w := 1) (z := (S55.f 34 1) + 1)
    refine yT_gen (fun S64 hS66 => ?_)
    rw [hS66] at hI65 hF67 hR76 
    have h77 := hI65.b1
    have h78 : S64.f 34 1 = (S55.f 34 1) + 1 := by rw [← hS66]; exact ysf_eq
    exact r_ret0 (i := 29) rfl ⟨rfl, (by omega), (by rw [show S64.f 34 1 = S.f 34 1 + 1 by omega]; exact bl_1 (by omega) (fun j hj => by subst hS57 hS66; exact (ysa_ne (Or.inr (by omega))).trans (hG39.g j (by omega))) (by rw [congrArg (S64.a 101) (show (S.f 34 1).toNat = (S38.f 34 1).toNat by omega), show S64.a 101 ((S38.f 34 1).toNat) = yby (yby b) from (by subst hS57 hS66; exact ysa_eq), yby_m, yby_m])), hI65, hF67, hR76⟩
/-- ProxyForge$Bytes.two -/
theorem sp36_34 {G : xk} {S : yS} {d : Nat} (hI : yI S) {b : Int} (h_b : -2147483648 ≤ b ∧ b ≤ 2147483647) (p_0 : S.f 34 1 ≤ 59998) (hd : 5 ≤ d) : yT xPr G LY xC36 0 [some ((2, 34)), some (vi b)] [] S d (fun r S' => r = (0, (0, 0)) ∧ S'.f 34 1 = S.f 34 1 + 2 ∧ bl S' 101 (S'.f 34 1) = bl S 101 (S.f 34 1) ++ tw b ∧ yI S' ∧ yFr [(34, 1)] [101, 105] S S' ∧ yRm [1] S S') := by
  refine yT_pad 0 ?_
  show yT xPr G LY xC36 0 [some ((2, 34)), some (vi b)] [] S d _
  obtain ⟨d, rfl⟩ : ∃ q, d = q + 1 := ⟨d - 1, by omega⟩
  have hF : yFr [(34, 1)] [101, 105] S S := yFr.refl S
  have hR : yRm [1] S S := yRm.refl S
  have h1 := hI.b1
  refine r_load (i := 0) (u := 0) (w := 2) rfl rfl rfl ?_
  refine r_load (i := 1) (u := 1) (w := 0) rfl rfl rfl ?_
  refine r_const (i := 2) (u := 8) (z := 8) rfl rfl ?_
  refine r_iushr (i := 3) rfl (by omega) (by omega) ?_
  have h2 := yshr_rg b 8
  refine r_call (i := 4) (u := 7) (v := 29) (w := 0) (b := 0) (na := 514) (C2 := xC29) (as := [(2, 34), vi (yshr b 8)]) (s := []) rfl rfl rfl rfl rfl rfl rfl (sp29_34 (b := yshr b 8) hI ⟨by omega, by omega⟩ (by omega)  (by omega)) (fun r3 S4 hq5 => ?_)
  obtain ⟨rfl, h6, bo7, hI8, hF9, hR10⟩ := hq5
  have hF11 := hF.trans hF9 rfl rfl
  have hR12 := hR.trans hR10 rfl
  refine Or.inl ⟨rfl, ?_⟩
  refine r_load (i := 5) (u := 0) (w := 2) rfl rfl rfl ?_
  refine r_load (i := 6) (u := 1) (w := 0) rfl rfl rfl ?_
  have h13 := hI8.b1
  refine r_call (i := 7) (u := 7) (v := 29) (w := 0) (b := 0) (na := 514) (C2 := xC29) (as := [(2, 34), vi b]) (s := []) rfl rfl rfl rfl rfl rfl rfl (sp29_34 (b := b) hI8 ⟨by omega, by omega⟩ (by omega)  (by omega)) (fun r14 S15 hq16 => ?_)
  obtain ⟨rfl, h17, bo18, hI19, hF20, hR21⟩ := hq16
  have hF22 := hF11.trans hF20 rfl rfl
  have hR23 := hR12.trans hR21 rfl
  refine Or.inl ⟨rfl, ?_⟩
  have h24 := hI19.b1
  exact r_ret0 (i := 8) rfl ⟨rfl, (by omega), (by rw [bo18, bo7, List.append_assoc, tw_of]), hI19, hF22, hR23⟩
/-- ProxyForge$Bytes.three -/
theorem sp35_34 {G : xk} {S : yS} {d : Nat} (hI : yI S) {b : Int} (h_b : -2147483648 ≤ b ∧ b ≤ 2147483647) {c : Int} (h_c : -2147483648 ≤ c ∧ c ≤ 2147483647) (p_0 : S.f 34 1 ≤ 59997) (hd : 4 ≤ d) : yT xPr G LY xC35 0 [some ((2, 34)), some (vi b), some (vi c)] [] S d (fun r S' => r = (0, (0, 0)) ∧ S'.f 34 1 = S.f 34 1 + 3 ∧ bl S' 101 (S'.f 34 1) = bl S 101 (S.f 34 1) ++ ([b % 256] ++ tw c) ∧ yI S' ∧ yFr [(34, 1)] [101, 105] S S' ∧ yRm [1] S S') := by
  refine yT_pad 0 ?_
  show yT xPr G LY xC35 0 [some ((2, 34)), some (vi b), some (vi c)] [] S d _
  obtain ⟨d, rfl⟩ : ∃ q, d = q + 1 := ⟨d - 1, by omega⟩
  have hF : yFr [(34, 1)] [101, 105] S S := yFr.refl S
  have hR : yRm [1] S S := yRm.refl S
  have h1 := hI.b1
  refine r_load (i := 0) (u := 0) (w := 2) rfl rfl rfl ?_
  refine r_getf (i := 1) (v := 0) (w := 7) (x := (2, S.p 1)) rfl ly34 rfl rfl fun _ => ?_
  have h3 := hI.bn
  have h4 := hI.br
  refine g_len (i := 2) (k := 1) rfl rfl (Or.inl (by decide)) (by first | exact Or.inl rfl | exact Or.inr rfl) fun h5 => ?_
  refine r_load (i := 3) (u := 0) (w := 2) rfl rfl rfl ?_
  refine r_getf (i := 4) (v := 1) (w := 7) (x := vi (S.f 34 1)) rfl ly34 rfl rfl fun h6 => ?_
  have h6 : Rg (S.f 34 1) := h6
  refine r_isub (i := 5) rfl ?_
  refine r_const (i := 6) (u := 3) (z := 3) rfl rfl ?_
  refine c_ge (i := 7) (v := 18) rfl ⟨by omega, by omega⟩ ⟨by omega, by omega⟩ (fun h7 => ?_) (fun h8 => ?_)
  · refine r_load (i := 18) (u := 0) (w := 2) rfl rfl rfl ?_
    refine r_getf (i := 19) (v := 0) (w := 7) (x := (2, S.p 1)) rfl ly34 rfl rfl fun _ => ?_
    refine r_load (i := 20) (u := 0) (w := 2) rfl rfl rfl ?_
    refine r_getf (i := 21) (v := 1) (w := 7) (x := vi (S.f 34 1)) rfl ly34 rfl rfl fun h10 => ?_
    have h10 : Rg (S.f 34 1) := h10
    refine r_load (i := 22) (u := 1) (w := 0) rfl rfl rfl ?_
    refine r_i2b (i := 23) rfl ?_
    have h11 := yby_rg b
    refine g_bstore (i := 24) (k := 1) rfl (Or.inl (by decide)) rfl (by omega) (by omega) ?_
    have hI13 := hI.setg (b := 101) (j := (S.f 34 1).toNat) (z := yby (yby b)) rfl rfl
    have hF15 := hF.seta (b := 101) (j := (S.f 34 1).toNat) (z := yby (yby b)) rfl
    have hR16 := hR.seta (b := 101) (j := (S.f 34 1).toNat) (z := yby (yby b))
    refine yT_gen (fun S12 hS14 => ?_)
    rw [hS14] at hI13 hF15 hR16 
    refine r_load (i := 25) (u := 0) (w := 2) rfl rfl rfl ?_
    refine r_getf (i := 26) (v := 0) (w := 7) (x := (2, S12.p 1)) rfl ly34 rfl rfl fun _ => ?_
    refine r_load (i := 27) (u := 0) (w := 2) rfl rfl rfl ?_
    have h18 := hI13.b1
    have h19 : S12.f 34 1 = S.f 34 1 := by rw [← hS14]; rfl
    refine r_getf (i := 28) (v := 1) (w := 7) (x := vi (S12.f 34 1)) rfl ly34 rfl rfl fun h20 => ?_
    have h20 : Rg (S12.f 34 1) := h20
    refine r_const (i := 29) (u := 1) (z := 1) rfl rfl ?_
    refine r_iadd (i := 30) rfl ?_
    refine r_load (i := 31) (u := 2) (w := 0) rfl rfl rfl ?_
    refine r_const (i := 32) (u := 8) (z := 8) rfl rfl ?_
    refine r_iushr (i := 33) rfl (by omega) (by omega) ?_
    have h21 := yshr_rg c 8
    refine r_i2b (i := 34) rfl ?_
    have h22 := yby_rg (yshr c 8)
    have h23 := hI13.bn
    have h24 := hI13.br
    have h25 : S12.n = S.n := by rw [← hS14]; rfl
    have h26 : S12.n 0 = S.n 0 := congrFun h25 0
    have h27 : S12.n 1 = S.n 1 := congrFun h25 1
    have h28 : S12.n 2 = S.n 2 := congrFun h25 2
    have h29 : S12.n 3 = S.n 3 := congrFun h25 3
    have h30 : S12.n 4 = S.n 4 := congrFun h25 4
    refine g_bstore (i := 35) (k := 1) rfl (Or.inl (by decide)) rfl (by omega) (by omega) ?_
    have hI32 := hI13.setg (b := 101) (j := ((S12.f 34 1) + 1).toNat) (z := yby (yby (yshr c 8))) rfl rfl
    have hF34 := hF15.seta (b := 101) (j := ((S12.f 34 1) + 1).toNat) (z := yby (yby (yshr c 8))) rfl
    have hR35 := hR16.seta (b := 101) (j := ((S12.f 34 1) + 1).toNat) (z := yby (yby (yshr c 8)))
    refine yT_gen (fun S31 hS33 => ?_)
    rw [hS33] at hI32 hF34 hR35 
    refine r_load (i := 36) (u := 0) (w := 2) rfl rfl rfl ?_
    refine r_getf (i := 37) (v := 0) (w := 7) (x := (2, S31.p 1)) rfl ly34 rfl rfl fun _ => ?_
    refine r_load (i := 38) (u := 0) (w := 2) rfl rfl rfl ?_
    have h37 := hI32.b1
    have h38 : S31.f 34 1 = S12.f 34 1 := by rw [← hS33]; rfl
    have h39 : S12.f 34 1 = S.f 34 1 := by rw [← hS14]; rfl
    refine r_getf (i := 39) (v := 1) (w := 7) (x := vi (S31.f 34 1)) rfl ly34 rfl rfl fun h40 => ?_
    have h40 : Rg (S31.f 34 1) := h40
    refine r_const (i := 40) (u := 2) (z := 2) rfl rfl ?_
    refine r_iadd (i := 41) rfl ?_
    refine r_load (i := 42) (u := 2) (w := 0) rfl rfl rfl ?_
    refine r_i2b (i := 43) rfl ?_
    have h41 := yby_rg c
    have h42 := hI32.bn
    have h43 := hI32.br
    have h44 : S31.n = S12.n := by rw [← hS33]; rfl
    have h45 : S31.n 0 = S12.n 0 := congrFun h44 0
    have h46 : S31.n 1 = S12.n 1 := congrFun h44 1
    have h47 : S31.n 2 = S12.n 2 := congrFun h44 2
    have h48 : S31.n 3 = S12.n 3 := congrFun h44 3
    have h49 : S31.n 4 = S12.n 4 := congrFun h44 4
    have h50 : S12.n = S.n := by rw [← hS14]; rfl
    have h51 : S12.n 0 = S.n 0 := congrFun h50 0
    have h52 : S12.n 1 = S.n 1 := congrFun h50 1
    have h53 : S12.n 2 = S.n 2 := congrFun h50 2
    have h54 : S12.n 3 = S.n 3 := congrFun h50 3
    have h55 : S12.n 4 = S.n 4 := congrFun h50 4
    refine g_bstore (i := 44) (k := 1) rfl (Or.inl (by decide)) rfl (by omega) (by omega) ?_
    have hI57 := hI32.setg (b := 101) (j := ((S31.f 34 1) + 2).toNat) (z := yby (yby c)) rfl rfl
    have hF59 := hF34.seta (b := 101) (j := ((S31.f 34 1) + 2).toNat) (z := yby (yby c)) rfl
    have hR60 := hR35.seta (b := 101) (j := ((S31.f 34 1) + 2).toNat) (z := yby (yby c))
    refine yT_gen (fun S56 hS58 => ?_)
    rw [hS58] at hI57 hF59 hR60 
    refine r_load (i := 45) (u := 0) (w := 2) rfl rfl rfl ?_
    refine r_dup (i := 46) rfl rfl ?_
    have h61 := hI57.b1
    have h62 : S56.f 34 1 = S31.f 34 1 := by rw [← hS58]; rfl
    have h63 : S31.f 34 1 = S12.f 34 1 := by rw [← hS33]; rfl
    have h64 : S12.f 34 1 = S.f 34 1 := by rw [← hS14]; rfl
    refine r_getf (i := 47) (v := 1) (w := 7) (x := vi (S56.f 34 1)) rfl ly34 rfl rfl fun h65 => ?_
    have h65 : Rg (S56.f 34 1) := h65
    refine r_const (i := 48) (u := 3) (z := 3) rfl rfl ?_
    refine r_iadd (i := 49) rfl ?_
    refine r_putI (i := 50) (v := 1) (w := 7) rfl ly34 rfl ⟨by omega, by omega⟩ ?_
    have h70 := hI57.bn
    have h71 := hI57.br
    have h72 : S56.n = S31.n := by rw [← hS58]; rfl
    have h73 : S56.n 0 = S31.n 0 := congrFun h72 0
    have h74 : S56.n 1 = S31.n 1 := congrFun h72 1
    have h75 : S56.n 2 = S31.n 2 := congrFun h72 2
    have h76 : S56.n 3 = S31.n 3 := congrFun h72 3
    have h77 : S56.n 4 = S31.n 4 := congrFun h72 4
    have h78 : S31.n = S12.n := by rw [← hS33]; rfl
    have h79 : S31.n 0 = S12.n 0 := congrFun h78 0
    have h80 : S31.n 1 = S12.n 1 := congrFun h78 1
    have h81 : S31.n 2 = S12.n 2 := congrFun h78 2
    have h82 : S31.n 3 = S12.n 3 := congrFun h78 3
    have h83 : S31.n 4 = S12.n 4 := congrFun h78 4
    have h84 : S12.n = S.n := by rw [← hS14]; rfl
    have h85 : S12.n 0 = S.n 0 := congrFun h84 0
    have h86 : S12.n 1 = S.n 1 := congrFun h84 1
    have h87 : S12.n 2 = S.n 2 := congrFun h84 2
    have h88 : S12.n 3 = S.n 3 := congrFun h84 3
    have h89 : S12.n 4 = S.n 4 := congrFun h84 4
    have hI67 := hI57.use1 (z := (S56.f 34 1) + 3) (by omega) (by omega) (by omega)
    have hF69 := hF59.setf (b := 34) (w := 1) (z := (S56.f 34 1) + 3) rfl
    have hR90 := hR60.setf (b := 34) (w := 1) (z := (S56.f 34 1) + 3)
    refine yT_gen (fun S66 hS68 => ?_)
    rw [hS68] at hI67 hF69 hR90 
    have h91 := hI67.b1
    have h92 : S66.f 34 1 = (S56.f 34 1) + 3 := by rw [← hS68]; exact ysf_eq
    exact r_ret0 (i := 51) rfl ⟨rfl, (by omega), (by rw [show S66.f 34 1 = S.f 34 1 + 3 by omega]; exact bl_3 (by omega) (fun j hj => by subst hS14 hS33 hS58 hS68; exact (((ysa_ne (Or.inr (by omega))).trans (ysa_ne (Or.inr (by omega)))).trans (ysa_ne (Or.inr (by omega)))).trans rfl) (by rw [congrArg (S66.a 101) (show (S.f 34 1).toNat = (S.f 34 1).toNat by omega), show S66.a 101 ((S.f 34 1).toNat) = yby (yby b) from (by subst hS14 hS33 hS58 hS68; exact ((ysa_ne (Or.inr (by omega))).trans ((ysa_ne (Or.inr (by omega))).trans ysa_eq))), yby_m, yby_m]) (by rw [congrArg (S66.a 101) (show (S.f 34 1 + 1).toNat = ((S12.f 34 1) + 1).toNat by omega), show S66.a 101 (((S12.f 34 1) + 1).toNat) = yby (yby (yshr c 8)) from (by subst hS14 hS33 hS58 hS68; exact ((ysa_ne (Or.inr (by omega))).trans ysa_eq)), yby_m, yby_m, yshr_8]) (by rw [congrArg (S66.a 101) (show (S.f 34 1 + 2).toNat = ((S31.f 34 1) + 2).toNat by omega), show S66.a 101 (((S31.f 34 1) + 2).toNat) = yby (yby c) from (by subst hS14 hS33 hS58 hS68; exact ysa_eq), yby_m, yby_m])), hI67, hF69, hR90⟩
  · refine r_load (i := 8) (u := 0) (w := 2) rfl rfl rfl ?_
    refine r_load (i := 9) (u := 0) (w := 2) rfl rfl rfl ?_
    refine r_getf (i := 10) (v := 0) (w := 7) (x := (2, S.p 1)) rfl ly34 rfl rfl fun _ => ?_
    refine r_const (i := 11) (u := 2) (z := 2) rfl rfl ?_
    refine r_load (i := 12) (u := 0) (w := 2) rfl rfl rfl ?_
    refine r_getf (i := 13) (v := 0) (w := 7) (x := (2, S.p 1)) rfl ly34 rfl rfl fun _ => ?_
    refine g_len (i := 14) (k := 1) rfl rfl (Or.inl (by decide)) (by first | exact Or.inl rfl | exact Or.inr rfl) fun h95 => ?_
    refine r_imul (i := 15) rfl ?_
    refine r_grow8 (i := 16) (k := 1) (b := 34) (v := 0) (w := 7) hI rfl rfl rfl rfl ly34 rfl rfl (by decide) rfl (by omega) (by omega) (by omega) (by omega) (by omega) (fun S96 hG97 => ?_)
    have h101 := hG97.n 0 (by decide) (by decide)
    have h102 := hG97.n1
    have h103 := hG97.n 2 (by decide) (by decide)
    have h104 := hG97.n 3 (by decide) (by decide)
    have h105 := hG97.n 4 (by decide) (by decide)
    have hI98 := hI.grow (by decide) hG97 ⟨by omega, by omega, by omega, by omega⟩ (by omega) (by omega) (by omega)
    have hF99 := hF.grow hG97 rfl rfl
    have hR100 := hR.grow hG97 (by decide) rfl (by omega) (by omega)
    refine r_load (i := 18) (u := 0) (w := 2) rfl rfl rfl ?_
    refine r_getf (i := 19) (v := 0) (w := 7) (x := (2, S96.p 1)) rfl ly34 rfl rfl fun _ => ?_
    refine r_load (i := 20) (u := 0) (w := 2) rfl rfl rfl ?_
    have h107 := hI98.b1
    have h108 : S96.f 34 1 = S.f 34 1 := by rw [hG97.f]
    refine r_getf (i := 21) (v := 1) (w := 7) (x := vi (S96.f 34 1)) rfl ly34 rfl rfl fun h109 => ?_
    have h109 : Rg (S96.f 34 1) := h109
    refine r_load (i := 22) (u := 1) (w := 0) rfl rfl rfl ?_
    refine r_i2b (i := 23) rfl ?_
    have h110 := yby_rg b
    have h111 := hI98.bn
    have h112 := hI98.br
    refine g_bstore (i := 24) (k := 1) rfl (Or.inl (by decide)) rfl (by omega) (by omega) ?_
    have hI114 := hI98.setg (b := 101) (j := (S96.f 34 1).toNat) (z := yby (yby b)) rfl rfl
    have hF116 := hF99.seta (b := 101) (j := (S96.f 34 1).toNat) (z := yby (yby b)) rfl
    have hR117 := hR100.seta (b := 101) (j := (S96.f 34 1).toNat) (z := yby (yby b))
    refine yT_gen (fun S113 hS115 => ?_)
    rw [hS115] at hI114 hF116 hR117 
    refine r_load (i := 25) (u := 0) (w := 2) rfl rfl rfl ?_
    refine r_getf (i := 26) (v := 0) (w := 7) (x := (2, S113.p 1)) rfl ly34 rfl rfl fun _ => ?_
    refine r_load (i := 27) (u := 0) (w := 2) rfl rfl rfl ?_
    have h119 := hI114.b1
    have h120 : S113.f 34 1 = S96.f 34 1 := by rw [← hS115]; rfl
    have h121 : S96.f 34 1 = S.f 34 1 := by rw [hG97.f]
    refine r_getf (i := 28) (v := 1) (w := 7) (x := vi (S113.f 34 1)) rfl ly34 rfl rfl fun h122 => ?_
    have h122 : Rg (S113.f 34 1) := h122
    refine r_const (i := 29) (u := 1) (z := 1) rfl rfl ?_
    refine r_iadd (i := 30) rfl ?_
    refine r_load (i := 31) (u := 2) (w := 0) rfl rfl rfl ?_
    refine r_const (i := 32) (u := 8) (z := 8) rfl rfl ?_
    refine r_iushr (i := 33) rfl (by omega) (by omega) ?_
    have h123 := yshr_rg c 8
    refine r_i2b (i := 34) rfl ?_
    have h124 := yby_rg (yshr c 8)
    have h125 := hI114.bn
    have h126 := hI114.br
    have h127 : S113.n = S96.n := by rw [← hS115]; rfl
    have h128 : S113.n 0 = S96.n 0 := congrFun h127 0
    have h129 : S113.n 1 = S96.n 1 := congrFun h127 1
    have h130 : S113.n 2 = S96.n 2 := congrFun h127 2
    have h131 : S113.n 3 = S96.n 3 := congrFun h127 3
    have h132 : S113.n 4 = S96.n 4 := congrFun h127 4
    refine g_bstore (i := 35) (k := 1) rfl (Or.inl (by decide)) rfl (by omega) (by omega) ?_
    have hI134 := hI114.setg (b := 101) (j := ((S113.f 34 1) + 1).toNat) (z := yby (yby (yshr c 8))) rfl rfl
    have hF136 := hF116.seta (b := 101) (j := ((S113.f 34 1) + 1).toNat) (z := yby (yby (yshr c 8))) rfl
    have hR137 := hR117.seta (b := 101) (j := ((S113.f 34 1) + 1).toNat) (z := yby (yby (yshr c 8)))
    refine yT_gen (fun S133 hS135 => ?_)
    rw [hS135] at hI134 hF136 hR137 
    refine r_load (i := 36) (u := 0) (w := 2) rfl rfl rfl ?_
    refine r_getf (i := 37) (v := 0) (w := 7) (x := (2, S133.p 1)) rfl ly34 rfl rfl fun _ => ?_
    refine r_load (i := 38) (u := 0) (w := 2) rfl rfl rfl ?_
    have h139 := hI134.b1
    have h140 : S133.f 34 1 = S113.f 34 1 := by rw [← hS135]; rfl
    have h141 : S113.f 34 1 = S96.f 34 1 := by rw [← hS115]; rfl
    have h142 : S96.f 34 1 = S.f 34 1 := by rw [hG97.f]
    refine r_getf (i := 39) (v := 1) (w := 7) (x := vi (S133.f 34 1)) rfl ly34 rfl rfl fun h143 => ?_
    have h143 : Rg (S133.f 34 1) := h143
    refine r_const (i := 40) (u := 2) (z := 2) rfl rfl ?_
    refine r_iadd (i := 41) rfl ?_
    refine r_load (i := 42) (u := 2) (w := 0) rfl rfl rfl ?_
    refine r_i2b (i := 43) rfl ?_
    have h144 := yby_rg c
    have h145 := hI134.bn
    have h146 := hI134.br
    have h147 : S133.n = S113.n := by rw [← hS135]; rfl
    have h148 : S133.n 0 = S113.n 0 := congrFun h147 0
    have h149 : S133.n 1 = S113.n 1 := congrFun h147 1
    have h150 : S133.n 2 = S113.n 2 := congrFun h147 2
    have h151 : S133.n 3 = S113.n 3 := congrFun h147 3
    have h152 : S133.n 4 = S113.n 4 := congrFun h147 4
    have h153 : S113.n = S96.n := by rw [← hS115]; rfl
    have h154 : S113.n 0 = S96.n 0 := congrFun h153 0
    have h155 : S113.n 1 = S96.n 1 := congrFun h153 1
    have h156 : S113.n 2 = S96.n 2 := congrFun h153 2
    have h157 : S113.n 3 = S96.n 3 := congrFun h153 3
    have h158 : S113.n 4 = S96.n 4 := congrFun h153 4
    refine g_bstore (i := 44) (k := 1) rfl (Or.inl (by decide)) rfl (by omega) (by omega) ?_
    have hI160 := hI134.setg (b := 101) (j := ((S133.f 34 1) + 2).toNat) (z := yby (yby c)) rfl rfl
    have hF162 := hF136.seta (b := 101) (j := ((S133.f 34 1) + 2).toNat) (z := yby (yby c)) rfl
    have hR163 := hR137.seta (b := 101) (j := ((S133.f 34 1) + 2).toNat) (z := yby (yby c))
    refine yT_gen (fun S159 hS161 => ?_)
    rw [hS161] at hI160 hF162 hR163 
    refine r_load (i := 45) (u := 0) (w := 2) rfl rfl rfl ?_
    refine r_dup (i := 46) rfl rfl ?_
    have h164 := hI160.b1
    have h165 : S159.f 34 1 = S133.f 34 1 := by rw [← hS161]; rfl
    have h166 : S133.f 34 1 = S113.f 34 1 := by rw [← hS135]; rfl
    have h167 : S113.f 34 1 = S96.f 34 1 := by rw [← hS115]; rfl
    have h168 : S96.f 34 1 = S.f 34 1 := by rw [hG97.f]
    refine r_getf (i := 47) (v := 1) (w := 7) (x := vi (S159.f 34 1)) rfl ly34 rfl rfl fun h169 => ?_
    have h169 : Rg (S159.f 34 1) := h169
    refine r_const (i := 48) (u := 3) (z := 3) rfl rfl ?_
    refine r_iadd (i := 49) rfl ?_
    refine r_putI (i := 50) (v := 1) (w := 7) rfl ly34 rfl ⟨by omega, by omega⟩ ?_
    have h174 := hI160.bn
    have h175 := hI160.br
    have h176 : S159.n = S133.n := by rw [← hS161]; rfl
    have h177 : S159.n 0 = S133.n 0 := congrFun h176 0
    have h178 : S159.n 1 = S133.n 1 := congrFun h176 1
    have h179 : S159.n 2 = S133.n 2 := congrFun h176 2
    have h180 : S159.n 3 = S133.n 3 := congrFun h176 3
    have h181 : S159.n 4 = S133.n 4 := congrFun h176 4
    have h182 : S133.n = S113.n := by rw [← hS135]; rfl
    have h183 : S133.n 0 = S113.n 0 := congrFun h182 0
    have h184 : S133.n 1 = S113.n 1 := congrFun h182 1
    have h185 : S133.n 2 = S113.n 2 := congrFun h182 2
    have h186 : S133.n 3 = S113.n 3 := congrFun h182 3
    have h187 : S133.n 4 = S113.n 4 := congrFun h182 4
    have h188 : S113.n = S96.n := by rw [← hS115]; rfl
    have h189 : S113.n 0 = S96.n 0 := congrFun h188 0
    have h190 : S113.n 1 = S96.n 1 := congrFun h188 1
    have h191 : S113.n 2 = S96.n 2 := congrFun h188 2
    have h192 : S113.n 3 = S96.n 3 := congrFun h188 3
    have h193 : S113.n 4 = S96.n 4 := congrFun h188 4
    have hI171 := hI160.use1 (z := (S159.f 34 1) + 3) (by omega) (by omega) (by omega)
    have hF173 := hF162.setf (b := 34) (w := 1) (z := (S159.f 34 1) + 3) rfl
    have hR194 := hR163.setf (b := 34) (w := 1) (z := (S159.f 34 1) + 3)
    refine yT_gen (fun S170 hS172 => ?_)
    rw [hS172] at hI171 hF173 hR194 
    have h195 := hI171.b1
    have h196 : S170.f 34 1 = (S159.f 34 1) + 3 := by rw [← hS172]; exact ysf_eq
    exact r_ret0 (i := 51) rfl ⟨rfl, (by omega), (by rw [show S170.f 34 1 = S.f 34 1 + 3 by omega]; exact bl_3 (by omega) (fun j hj => by subst hS115 hS135 hS161 hS172; exact (((ysa_ne (Or.inr (by omega))).trans (ysa_ne (Or.inr (by omega)))).trans (ysa_ne (Or.inr (by omega)))).trans (hG97.g j (by omega))) (by rw [congrArg (S170.a 101) (show (S.f 34 1).toNat = (S96.f 34 1).toNat by omega), show S170.a 101 ((S96.f 34 1).toNat) = yby (yby b) from (by subst hS115 hS135 hS161 hS172; exact ((ysa_ne (Or.inr (by omega))).trans ((ysa_ne (Or.inr (by omega))).trans ysa_eq))), yby_m, yby_m]) (by rw [congrArg (S170.a 101) (show (S.f 34 1 + 1).toNat = ((S113.f 34 1) + 1).toNat by omega), show S170.a 101 (((S113.f 34 1) + 1).toNat) = yby (yby (yshr c 8)) from (by subst hS115 hS135 hS161 hS172; exact ((ysa_ne (Or.inr (by omega))).trans ysa_eq)), yby_m, yby_m, yshr_8]) (by rw [congrArg (S170.a 101) (show (S.f 34 1 + 2).toNat = ((S133.f 34 1) + 2).toNat by omega), show S170.a 101 (((S133.f 34 1) + 2).toNat) = yby (yby c) from (by subst hS115 hS135 hS161 hS172; exact ysa_eq), yby_m, yby_m])), hI171, hF173, hR194⟩
/-- ProxyForge$Bytes.four -/
theorem sp24_34 {G : xk} {S : yS} {d : Nat} (hI : yI S) {b : Int} (h_b : -2147483648 ≤ b ∧ b ≤ 2147483647) (p_0 : S.f 34 1 ≤ 59996) (hd : 6 ≤ d) : yT xPr G LY xC24 0 [some ((2, 34)), some (vi b)] [] S d (fun r S' => r = (0, (0, 0)) ∧ S'.f 34 1 = S.f 34 1 + 4 ∧ bl S' 101 (S'.f 34 1) = bl S 101 (S.f 34 1) ++ fo b ∧ yI S' ∧ yFr [(34, 1)] [101, 105] S S' ∧ yRm [1] S S') := by
  refine yT_pad 0 ?_
  show yT xPr G LY xC24 0 [some ((2, 34)), some (vi b)] [] S d _
  obtain ⟨d, rfl⟩ : ∃ q, d = q + 1 := ⟨d - 1, by omega⟩
  have hF : yFr [(34, 1)] [101, 105] S S := yFr.refl S
  have hR : yRm [1] S S := yRm.refl S
  have h1 := hI.b1
  refine r_load (i := 0) (u := 0) (w := 2) rfl rfl rfl ?_
  refine r_load (i := 1) (u := 1) (w := 0) rfl rfl rfl ?_
  refine r_const (i := 2) (u := 16) (z := 16) rfl rfl ?_
  refine r_iushr (i := 3) rfl (by omega) (by omega) ?_
  have h2 := yshr_rg b 16
  refine r_call (i := 4) (u := 7) (v := 36) (w := 0) (b := 0) (na := 514) (C2 := xC36) (as := [(2, 34), vi (yshr b 16)]) (s := []) rfl rfl rfl rfl rfl rfl rfl (sp36_34 (b := yshr b 16) hI ⟨by omega, by omega⟩ (by omega)  (by omega)) (fun r3 S4 hq5 => ?_)
  obtain ⟨rfl, h6, btw7, hI8, hF9, hR10⟩ := hq5
  have hF11 := hF.trans hF9 rfl rfl
  have hR12 := hR.trans hR10 rfl
  refine Or.inl ⟨rfl, ?_⟩
  refine r_load (i := 5) (u := 0) (w := 2) rfl rfl rfl ?_
  refine r_load (i := 6) (u := 1) (w := 0) rfl rfl rfl ?_
  have h13 := hI8.b1
  refine r_call (i := 7) (u := 7) (v := 36) (w := 0) (b := 0) (na := 514) (C2 := xC36) (as := [(2, 34), vi b]) (s := []) rfl rfl rfl rfl rfl rfl rfl (sp36_34 (b := b) hI8 ⟨by omega, by omega⟩ (by omega)  (by omega)) (fun r14 S15 hq16 => ?_)
  obtain ⟨rfl, h17, btw18, hI19, hF20, hR21⟩ := hq16
  have hF22 := hF11.trans hF20 rfl rfl
  have hR23 := hR12.trans hR21 rfl
  refine Or.inl ⟨rfl, ?_⟩
  have h24 := hI19.b1
  exact r_ret0 (i := 8) rfl ⟨rfl, (by omega), (by rw [btw18, btw7, List.append_assoc, fo_of]), hI19, hF22, hR23⟩
/-- ProxyForge$Bytes.getTwo -/
theorem sp26_31 {G : xk} {S : yS} {d : Nat} (hI : yI S) {k : Int} (h_k : -2147483648 ≤ k ∧ k ≤ 2147483647) (p_0 : 0 ≤ k ∧ k + 1 < S.n 0) (hd : 1 ≤ d) : yT xPr G LY xC26 0 [some ((2, 31)), some (vi k)] [] S d (fun r S' => ∃ z : Int, r = (1, vi z) ∧ 0 ≤ z ∧ z ≤ 65535 ∧ S = S') := by
  refine yT_pad 0 ?_
  show yT xPr G LY xC26 0 [some ((2, 31)), some (vi k)] [] S d _
  obtain ⟨d, rfl⟩ : ∃ q, d = q + 1 := ⟨d - 1, by omega⟩
  have h1 := hI.bn
  have h2 := hI.br
  refine r_load (i := 0) (u := 0) (w := 2) rfl rfl rfl ?_
  refine r_load (i := 1) (u := 1) (w := 0) rfl rfl rfl ?_
  refine r_call (i := 2) (u := 7) (v := 25) (w := 0) (b := 0) (na := 514) (C2 := xC25) (as := [(2, 31), vi k]) (s := []) rfl rfl rfl rfl rfl rfl rfl (sp25_31 (k := k) hI ⟨by omega, by omega⟩ (by omega)  (by omega)) (fun r3 S4 hq5 => ?_)
  obtain ⟨z6, rfl, h7, h8, h9, rfl⟩ := hq5
  refine Or.inr (Or.inl ⟨rfl, ?_⟩)
  refine r_const (i := 3) (u := 8) (z := 8) rfl rfl ?_
  refine r_shl8 (i := 4) rfl (by omega) (by omega) fun h10 h11 => ?_
  refine r_load (i := 5) (u := 0) (w := 2) rfl rfl rfl ?_
  refine r_load (i := 6) (u := 1) (w := 0) rfl rfl rfl ?_
  refine r_const (i := 7) (u := 1) (z := 1) rfl rfl ?_
  refine r_iadd (i := 8) rfl ?_
  refine r_call (i := 9) (u := 7) (v := 25) (w := 0) (b := 0) (na := 514) (C2 := xC25) (as := [(2, 31), vi (k + 1)]) (s := [vi (yshl z6 8)]) rfl rfl rfl rfl rfl rfl rfl (sp25_31 (k := k + 1) hI ⟨by omega, by omega⟩ (by omega)  (by omega)) (fun r12 S13 hq14 => ?_)
  obtain ⟨z15, rfl, h16, h17, h18, rfl⟩ := hq14
  refine Or.inr (Or.inl ⟨rfl, ?_⟩)
  have yo9 := @yor_c (yshl z6 8) z15 16 (by decide) (by omega) (by omega) (by omega) (by omega)
  refine r_ior (i := 10) rfl ?_
  have h19 := yor_rg (yshl z6 8) z15
  exact r_retI (i := 11) rfl ⟨yor (yshl z6 8) z15, rfl, by omega, by omega, rfl⟩
theorem lp28_31_25 {G : xk} {d : Nat} {S0 : yS} {s : Nat} (h_s : yStr s) (p_0 : S0.f 31 1 + slen s ≤ 60000) (hd : 4 ≤ d + 1) : ∀ (n : Nat), ∀ (S : yS) (hI : yI S) (hF : yFr [(31, 1)] [100, 105] S0 S) (hR : yRm [0] S0 S) (n1 k : Int) (h_n1 : 0 ≤ n1 ∧ n1 ≤ 58) (h_k : 0 ≤ k ∧ k ≤ 58) (q_0 : n1 = slen s) (q_1 : S.f 31 1 = S0.f 31 1) (q_2 : S.f 31 1 + n1 ≤ S.n 0) (q_3 : k ≤ n1) (q_4 : S0.f 31 1 + slen s ≤ 60000) (q_5 : ltL S0 S s (S0.f 31 1) k) (hn : 58 - k < (n : Nat)), yT xPr G LY xC28 25 [some ((2, 31)), some ((6, s)), some (vi n1), some (vi k)] [] S (d + 1) (fun r S' => r = (0, (0, 0)) ∧ S'.f 31 1 = S0.f 31 1 + slen s ∧ bl S' 100 (S'.f 31 1) = bl S0 100 (S0.f 31 1) ++ strl s ∧ yI S' ∧ yFr [(31, 1)] [100, 105] S0 S' ∧ yRm [0] S0 S') := by
  intro n
  induction n with
  | zero => intro S hI hF hR n1 k h_n1 h_k q_0 q_1 q_2 q_3 q_4 q_5 hn; exact absurd hn (by omega)
  | succ n ih =>
    intro S hI hF hR n1 k h_n1 h_k q_0 q_1 q_2 q_3 q_4 q_5 hn
    have h1 := hI.b0
    have h2 := hI.bn
    have h3 := hI.br
    have h4 : S0.n 0 ≤ S.n 0 := hR.n 0 (by decide)
    have h5 : S.n 1 = S0.n 1 := hR.eq rfl rfl
    have h6 : S.n 2 = S0.n 2 := hR.eq rfl rfl
    have h7 : S.n 3 = S0.n 3 := hR.eq rfl rfl
    have h8 : S.n 4 = S0.n 4 := hR.eq rfl rfl
    refine r_load (i := 25) (u := 3) (w := 0) rfl rfl rfl ?_
    refine r_load (i := 26) (u := 2) (w := 0) rfl rfl rfl ?_
    refine c_ge (i := 27) (v := 41) rfl ⟨by omega, by omega⟩ ⟨by omega, by omega⟩ (fun h9 => ?_) (fun h10 => ?_)
    · refine r_load (i := 41) (u := 0) (w := 2) rfl rfl rfl ?_
      refine r_dup (i := 42) rfl rfl ?_
      refine r_getf (i := 43) (v := 1) (w := 7) (x := vi (S.f 31 1)) rfl ly31 rfl rfl fun h11 => ?_
      have h11 : Rg (S.f 31 1) := h11
      refine r_load (i := 44) (u := 2) (w := 0) rfl rfl rfl ?_
      refine r_iadd (i := 45) rfl ?_
      refine r_putI (i := 46) (v := 1) (w := 7) rfl ly31 rfl ⟨by omega, by omega⟩ ?_
      have hI13 := hI.use0 (z := (S.f 31 1) + n1) (by omega) (by omega) (by omega)
      have hF15 := hF.setf (b := 31) (w := 1) (z := (S.f 31 1) + n1) rfl
      have hR16 := hR.setf (b := 31) (w := 1) (z := (S.f 31 1) + n1)
      refine yT_gen (fun S12 hS14 => ?_)
      rw [hS14] at hI13 hF15 hR16 
      have h17 := hI13.b0
      have h18 : S12.f 31 1 = (S.f 31 1) + n1 := by rw [← hS14]; exact ysf_eq
      exact r_ret0 (i := 47) rfl ⟨rfl, (by omega), (by rw [show S12.f 31 1 = S0.f 31 1 + slen s by omega]; exact ltL_end q_5 (by omega) (by omega) (fun j => by subst hS14; rfl)), hI13, hF15, hR16⟩
    · refine r_load (i := 28) (u := 0) (w := 2) rfl rfl rfl ?_
      refine r_getf (i := 29) (v := 0) (w := 7) (x := (2, S.p 0)) rfl ly31 rfl rfl fun _ => ?_
      refine r_load (i := 30) (u := 0) (w := 2) rfl rfl rfl ?_
      refine r_getf (i := 31) (v := 1) (w := 7) (x := vi (S.f 31 1)) rfl ly31 rfl rfl fun h20 => ?_
      have h20 : Rg (S.f 31 1) := h20
      refine r_load (i := 32) (u := 3) (w := 0) rfl rfl rfl ?_
      refine r_iadd (i := 33) rfl ?_
      refine r_load (i := 34) (u := 1) (w := 2) rfl rfl rfl ?_
      refine r_load (i := 35) (u := 3) (w := 0) rfl rfl rfl ?_
      refine r_call (i := 36) (u := 100) (v := 270) (w := 0) (b := 0) (na := 514) (C2 := xC270) (as := [(6, s), vi k]) (s := [vi ((S.f 31 1) + k), (2, S.p 0)]) rfl rfl rfl rfl rfl (yrcv_str h_s) rfl (sp270 (s := s) (x := k)  h_s ⟨by omega, by omega⟩ (by omega)  (by omega)) (fun r21 S22 hq23 => ?_)
      obtain ⟨z24, rfl, h25, h26, ca027, rfl⟩ := hq23
      refine Or.inr (Or.inl ⟨rfl, ?_⟩)
      refine r_i2b (i := 37) rfl ?_
      have h28 := yby_rg z24
      refine g_bstore (i := 38) (k := 0) rfl (Or.inl (by decide)) rfl (by omega) (by omega) ?_
      have hI30 := hI.setg (b := 100) (j := ((S.f 31 1) + k).toNat) (z := yby (yby z24)) rfl rfl
      have hF32 := hF.seta (b := 100) (j := ((S.f 31 1) + k).toNat) (z := yby (yby z24)) rfl
      have hR33 := hR.seta (b := 100) (j := ((S.f 31 1) + k).toNat) (z := yby (yby z24))
      refine yT_gen (fun S29 hS31 => ?_)
      rw [hS31] at hI30 hF32 hR33 
      refine r_iinc (i := 39) (u := 1) (v := 3) (s := 1) (L1 := [some ((2, 31)), some ((6, s)), some (vi n1), some (vi (k + 1))]) rfl rfl rfl rfl rfl ?_
      refine r_goto (i := 40) (v := 25) rfl ?_
      have h34 := hI30.b0
      have h35 : S29.f 31 1 = S.f 31 1 := by rw [← hS31]; rfl
      have h36 := hI30.bn
      have h37 := hI30.br
      have h38 : S29.n = S.n := by rw [← hS31]; rfl
      have h39 : S29.n 0 = S.n 0 := congrFun h38 0
      have h40 : S29.n 1 = S.n 1 := congrFun h38 1
      have h41 : S29.n 2 = S.n 2 := congrFun h38 2
      have h42 : S29.n 3 = S.n 3 := congrFun h38 3
      have h43 : S29.n 4 = S.n 4 := congrFun h38 4
      have h44 : S0.n 0 ≤ S.n 0 := hR.n 0 (by decide)
      have h45 : S.n 1 = S0.n 1 := hR.eq rfl rfl
      have h46 : S.n 2 = S0.n 2 := hR.eq rfl rfl
      have h47 : S.n 3 = S0.n 3 := hR.eq rfl rfl
      have h48 : S.n 4 = S0.n 4 := hR.eq rfl rfl
      exact ih S29 hI30 hF32 hR33 n1 (k + 1) ⟨by omega, by omega⟩ ⟨by omega, by omega⟩ (by omega) (by omega) (by omega) (by omega) (by omega) (by exact ltL_s q_5 (by omega) (by omega) (by omega) (by omega) ca027 (v := yby (yby z24)) (by rw [yby_m, yby_m]) (fun j => by rw [show (S0.f 31 1 + k).toNat = ((S.f 31 1) + k).toNat by omega]; subst hS31; rfl)) (by omega)
/-- ProxyForge$Bytes.letters -/
theorem sp28_31 {G : xk} {S : yS} {d : Nat} (hI : yI S) {s : Nat} (h_s : yStr s) (p_0 : S.f 31 1 + slen s ≤ 60000) (hd : 4 ≤ d) : yT xPr G LY xC28 0 [some ((2, 31)), some ((6, s))] [] S d (fun r S' => r = (0, (0, 0)) ∧ S'.f 31 1 = S.f 31 1 + slen s ∧ bl S' 100 (S'.f 31 1) = bl S 100 (S.f 31 1) ++ strl s ∧ yI S' ∧ yFr [(31, 1)] [100, 105] S S' ∧ yRm [0] S S') := by
  refine yT_pad 2 ?_
  show yT xPr G LY xC28 0 [some ((2, 31)), some ((6, s)), none, none] [] S d _
  obtain ⟨d, rfl⟩ : ∃ q, d = q + 1 := ⟨d - 1, by omega⟩
  have hF : yFr [(31, 1)] [100, 105] S S := yFr.refl S
  have hR : yRm [0] S S := yRm.refl S
  have h1 := hI.b0
  have sl9 := slen_le h_s
  refine r_load (i := 0) (u := 1) (w := 2) rfl rfl rfl ?_
  refine r_call (i := 1) (u := 100) (v := 274) (w := 0) (b := 0) (na := 257) (C2 := xC274) (as := [(6, s)]) (s := []) rfl rfl rfl rfl rfl (yrcv_str h_s) rfl (sp274 (s := s)  h_s   (by omega)) (fun r2 S3 hq4 => ?_)
  obtain ⟨z5, rfl, h6, h7, h8, rfl⟩ := hq4
  refine Or.inr (Or.inl ⟨rfl, ?_⟩)
  refine r_store (i := 2) (u := 2) (w := 0) (L1 := [some ((2, 31)), some ((6, s)), some (vi z5), none]) rfl rfl rfl rfl ?_
  refine r_load (i := 3) (u := 2) (w := 0) rfl rfl rfl ?_
  refine r_load (i := 4) (u := 0) (w := 2) rfl rfl rfl ?_
  refine r_getf (i := 5) (v := 0) (w := 7) (x := (2, S.p 0)) rfl ly31 rfl rfl fun _ => ?_
  have h10 := hI.bn
  have h11 := hI.br
  refine g_len (i := 6) (k := 0) rfl rfl (Or.inl (by decide)) (by first | exact Or.inl rfl | exact Or.inr rfl) fun h12 => ?_
  refine r_load (i := 7) (u := 0) (w := 2) rfl rfl rfl ?_
  refine r_getf (i := 8) (v := 1) (w := 7) (x := vi (S.f 31 1)) rfl ly31 rfl rfl fun h13 => ?_
  have h13 : Rg (S.f 31 1) := h13
  refine r_isub (i := 9) rfl ?_
  refine c_le (i := 10) (v := 23) rfl ⟨by omega, by omega⟩ ⟨by omega, by omega⟩ (fun h14 => ?_) (fun h15 => ?_)
  · refine r_const (i := 23) (u := 0) (z := 0) rfl rfl ?_
    refine r_store (i := 24) (u := 3) (w := 0) (L1 := [some ((2, 31)), some ((6, s)), some (vi z5), some (vi 0)]) rfl rfl rfl rfl ?_
    exact lp28_31_25 h_s p_0 hd _ S hI hF hR z5 0 ⟨by omega, by omega⟩ ⟨by omega, by omega⟩ (by omega) (by omega) (by omega) (by omega) (by omega) (by exact ltL_0 (fun j hj => rfl)) (Int.lt_succ_toNat _)
  · refine r_load (i := 11) (u := 0) (w := 2) rfl rfl rfl ?_
    refine r_load (i := 12) (u := 0) (w := 2) rfl rfl rfl ?_
    refine r_getf (i := 13) (v := 0) (w := 7) (x := (2, S.p 0)) rfl ly31 rfl rfl fun _ => ?_
    refine r_const (i := 14) (u := 2) (z := 2) rfl rfl ?_
    refine r_load (i := 15) (u := 0) (w := 2) rfl rfl rfl ?_
    refine r_getf (i := 16) (v := 0) (w := 7) (x := (2, S.p 0)) rfl ly31 rfl rfl fun _ => ?_
    refine g_len (i := 17) (k := 0) rfl rfl (Or.inl (by decide)) (by first | exact Or.inl rfl | exact Or.inr rfl) fun h18 => ?_
    refine r_imul (i := 18) rfl ?_
    refine r_load (i := 19) (u := 2) (w := 0) rfl rfl rfl ?_
    refine r_iadd (i := 20) rfl ?_
    refine r_grow8 (i := 21) (k := 0) (b := 31) (v := 0) (w := 7) hI rfl rfl rfl rfl ly31 rfl rfl (by decide) rfl (by omega) (by omega) (by omega) (by omega) (by omega) (fun S19 hG20 => ?_)
    have h24 := hG20.n1
    have h25 := hG20.n 1 (by decide) (by decide)
    have h26 := hG20.n 2 (by decide) (by decide)
    have h27 := hG20.n 3 (by decide) (by decide)
    have h28 := hG20.n 4 (by decide) (by decide)
    have hI21 := hI.grow (by decide) hG20 ⟨by omega, by omega, by omega, by omega⟩ (by omega) (by omega) (by omega)
    have hF22 := hF.grow hG20 rfl rfl
    have hR23 := hR.grow hG20 (by decide) rfl (by omega) (by omega)
    refine r_const (i := 23) (u := 0) (z := 0) rfl rfl ?_
    refine r_store (i := 24) (u := 3) (w := 0) (L1 := [some ((2, 31)), some ((6, s)), some (vi z5), some (vi 0)]) rfl rfl rfl rfl ?_
    have h29 := hI21.b0
    have h30 : S19.f 31 1 = S.f 31 1 := by rw [hG20.f]
    have h31 := hI21.bn
    have h32 := hI21.br
    exact lp28_31_25 h_s p_0 hd _ S19 hI21 hF22 hR23 z5 0 ⟨by omega, by omega⟩ ⟨by omega, by omega⟩ (by omega) (by omega) (by omega) (by omega) (by omega) (by exact ltL_0 (fun j hj => hG20.g j (by omega))) (Int.lt_succ_toNat _)
/-- ProxyForge$Bytes.addAll -/
theorem sp23_31 {G : xk} {S : yS} {d : Nat} (hI : yI S) (p_0 : S.f 31 1 + S.f 34 1 ≤ 60000) (hd : 4 ≤ d) : yT xPr G LY xC23 0 [some ((2, 31)), some ((2, 34))] [] S d (fun r S' => r = (0, (0, 0)) ∧ S'.f 31 1 = S.f 31 1 + S.f 34 1 ∧ bl S' 100 (S'.f 31 1) = bl S 100 (S.f 31 1) ++ bl S 101 (S.f 34 1) ∧ yI S' ∧ yFr [(31, 1)] [100, 105] S S' ∧ yRm [0] S S') := by
  refine yT_pad 1 ?_
  show yT xPr G LY xC23 0 [some ((2, 31)), some ((2, 34)), none] [] S d _
  obtain ⟨d, rfl⟩ : ∃ q, d = q + 1 := ⟨d - 1, by omega⟩
  have hF : yFr [(31, 1)] [100, 105] S S := yFr.refl S
  have hR : yRm [0] S S := yRm.refl S
  have h1 := hI.b0
  have h2 := hI.b1
  refine r_load (i := 0) (u := 1) (w := 2) rfl rfl rfl ?_
  refine r_getf (i := 1) (v := 1) (w := 7) (x := vi (S.f 34 1)) rfl ly34 rfl rfl fun h3 => ?_
  have h3 : Rg (S.f 34 1) := h3
  refine r_store (i := 2) (u := 2) (w := 0) (L1 := [some ((2, 31)), some ((2, 34)), some (vi (S.f 34 1))]) rfl rfl rfl rfl ?_
  refine r_load (i := 3) (u := 2) (w := 0) rfl rfl rfl ?_
  refine r_load (i := 4) (u := 0) (w := 2) rfl rfl rfl ?_
  refine r_getf (i := 5) (v := 0) (w := 7) (x := (2, S.p 0)) rfl ly31 rfl rfl fun _ => ?_
  have h5 := hI.bn
  have h6 := hI.br
  refine g_len (i := 6) (k := 0) rfl rfl (Or.inl (by decide)) (by first | exact Or.inl rfl | exact Or.inr rfl) fun h7 => ?_
  refine r_load (i := 7) (u := 0) (w := 2) rfl rfl rfl ?_
  refine r_getf (i := 8) (v := 1) (w := 7) (x := vi (S.f 31 1)) rfl ly31 rfl rfl fun h8 => ?_
  have h8 : Rg (S.f 31 1) := h8
  refine r_isub (i := 9) rfl ?_
  refine c_le (i := 10) (v := 23) rfl ⟨by omega, by omega⟩ ⟨by omega, by omega⟩ (fun h9 => ?_) (fun h10 => ?_)
  · refine r_load (i := 23) (u := 1) (w := 2) rfl rfl rfl ?_
    refine r_getf (i := 24) (v := 0) (w := 7) (x := (2, S.p 1)) rfl ly34 rfl rfl fun _ => ?_
    refine r_const (i := 25) (u := 0) (z := 0) rfl rfl ?_
    refine r_load (i := 26) (u := 0) (w := 2) rfl rfl rfl ?_
    refine r_getf (i := 27) (v := 0) (w := 7) (x := (2, S.p 0)) rfl ly31 rfl rfl fun _ => ?_
    refine r_load (i := 28) (u := 0) (w := 2) rfl rfl rfl ?_
    refine r_getf (i := 29) (v := 1) (w := 7) (x := vi (S.f 31 1)) rfl ly31 rfl rfl fun h13 => ?_
    have h13 : Rg (S.f 31 1) := h13
    refine r_load (i := 30) (u := 2) (w := 0) rfl rfl rfl ?_
    refine g_copy (i := 31) (k1 := 1) (k2 := 0) rfl rfl rfl (Or.inl (by decide)) (Or.inl (by decide)) (by decide) (by omega) rfl rfl (by first | exact Or.inl rfl | exact Or.inr rfl) (by omega) (by omega) (by omega) (by omega) (by omega) ?_
    have hI15 := hI.cp (k1 := 1) (i0 := (0 : Int).toNat) (k2 := 0) (j0 := (S.f 31 1).toNat) (m := (S.f 34 1).toNat)
    have hF16 := hF.cp (k1 := 1) (i0 := (0 : Int).toNat) (k2 := 0) (j0 := (S.f 31 1).toNat) (m := (S.f 34 1).toNat) rfl
    have hR17 := hR.cp (k1 := 1) (i0 := (0 : Int).toNat) (k2 := 0) (j0 := (S.f 31 1).toNat) (m := (S.f 34 1).toNat)
    refine yT_gen (fun S14 hS18 => ?_)
    rw [hS18] at hI15 hF16 hR17
    refine r_load (i := 32) (u := 0) (w := 2) rfl rfl rfl ?_
    refine r_dup (i := 33) rfl rfl ?_
    have h19 := hI15.b0
    have h20 : S14.f 31 1 = S.f 31 1 := by rw [← hS18]; rfl
    refine r_getf (i := 34) (v := 1) (w := 7) (x := vi (S14.f 31 1)) rfl ly31 rfl rfl fun h21 => ?_
    have h21 : Rg (S14.f 31 1) := h21
    refine r_load (i := 35) (u := 2) (w := 0) rfl rfl rfl ?_
    refine r_iadd (i := 36) rfl ?_
    refine r_putI (i := 37) (v := 1) (w := 7) rfl ly31 rfl ⟨by omega, by omega⟩ ?_
    have h26 := hI15.bn
    have h27 := hI15.br
    have h28 : S14.n = S.n := by rw [← hS18]; rfl
    have h29 : S14.n 0 = S.n 0 := congrFun h28 0
    have h30 : S14.n 1 = S.n 1 := congrFun h28 1
    have h31 : S14.n 2 = S.n 2 := congrFun h28 2
    have h32 : S14.n 3 = S.n 3 := congrFun h28 3
    have h33 : S14.n 4 = S.n 4 := congrFun h28 4
    have hI23 := hI15.use0 (z := (S14.f 31 1) + (S.f 34 1)) (by omega) (by omega) (by omega)
    have hF25 := hF16.setf (b := 31) (w := 1) (z := (S14.f 31 1) + (S.f 34 1)) rfl
    have hR34 := hR17.setf (b := 31) (w := 1) (z := (S14.f 31 1) + (S.f 34 1))
    refine yT_gen (fun S22 hS24 => ?_)
    rw [hS24] at hI23 hF25 hR34 
    have h35 := hI23.b0
    have h36 : S22.f 31 1 = (S14.f 31 1) + (S.f 34 1) := by rw [← hS24]; exact ysf_eq
    have h37 := hI23.b1
    have h38 : S22.f 34 1 = S14.f 34 1 := by rw [← hS24]; exact ysf_ne (by decide)
    have h39 : S14.f 34 1 = S.f 34 1 := by rw [← hS18]; rfl
    exact r_ret0 (i := 38) rfl ⟨rfl, (by omega), (by rw [show S22.f 31 1 = S.f 31 1 + S.f 34 1 by omega]; exact bl_cp hS18 rfl (by omega) (by omega) (by omega) (by omega) (fun j hj => rfl) (fun j => rfl) (fun j => by rw [← hS24]; rfl)), hI23, hF25, hR34⟩
  · refine r_load (i := 11) (u := 0) (w := 2) rfl rfl rfl ?_
    refine r_load (i := 12) (u := 0) (w := 2) rfl rfl rfl ?_
    refine r_getf (i := 13) (v := 0) (w := 7) (x := (2, S.p 0)) rfl ly31 rfl rfl fun _ => ?_
    refine r_const (i := 14) (u := 2) (z := 2) rfl rfl ?_
    refine r_load (i := 15) (u := 0) (w := 2) rfl rfl rfl ?_
    refine r_getf (i := 16) (v := 0) (w := 7) (x := (2, S.p 0)) rfl ly31 rfl rfl fun _ => ?_
    refine g_len (i := 17) (k := 0) rfl rfl (Or.inl (by decide)) (by first | exact Or.inl rfl | exact Or.inr rfl) fun h42 => ?_
    refine r_imul (i := 18) rfl ?_
    refine r_load (i := 19) (u := 2) (w := 0) rfl rfl rfl ?_
    refine r_iadd (i := 20) rfl ?_
    refine r_grow8 (i := 21) (k := 0) (b := 31) (v := 0) (w := 7) hI rfl rfl rfl rfl ly31 rfl rfl (by decide) rfl (by omega) (by omega) (by omega) (by omega) (by omega) (fun S43 hG44 => ?_)
    have h48 := hG44.n1
    have h49 := hG44.n 1 (by decide) (by decide)
    have h50 := hG44.n 2 (by decide) (by decide)
    have h51 := hG44.n 3 (by decide) (by decide)
    have h52 := hG44.n 4 (by decide) (by decide)
    have hI45 := hI.grow (by decide) hG44 ⟨by omega, by omega, by omega, by omega⟩ (by omega) (by omega) (by omega)
    have hF46 := hF.grow hG44 rfl rfl
    have hR47 := hR.grow hG44 (by decide) rfl (by omega) (by omega)
    refine r_load (i := 23) (u := 1) (w := 2) rfl rfl rfl ?_
    refine r_getf (i := 24) (v := 0) (w := 7) (x := (2, S43.p 1)) rfl ly34 rfl rfl fun _ => ?_
    refine r_const (i := 25) (u := 0) (z := 0) rfl rfl ?_
    refine r_load (i := 26) (u := 0) (w := 2) rfl rfl rfl ?_
    refine r_getf (i := 27) (v := 0) (w := 7) (x := (2, S43.p 0)) rfl ly31 rfl rfl fun _ => ?_
    refine r_load (i := 28) (u := 0) (w := 2) rfl rfl rfl ?_
    have h55 := hI45.b0
    have h56 : S43.f 31 1 = S.f 31 1 := by rw [hG44.f]
    refine r_getf (i := 29) (v := 1) (w := 7) (x := vi (S43.f 31 1)) rfl ly31 rfl rfl fun h57 => ?_
    have h57 : Rg (S43.f 31 1) := h57
    refine r_load (i := 30) (u := 2) (w := 0) rfl rfl rfl ?_
    have h58 := hI45.bn
    have h59 := hI45.br
    refine g_copy (i := 31) (k1 := 1) (k2 := 0) rfl rfl rfl (Or.inl (by decide)) (Or.inl (by decide)) (by decide) (by omega) rfl rfl (by first | exact Or.inl rfl | exact Or.inr rfl) (by omega) (by omega) (by omega) (by omega) (by omega) ?_
    have hI61 := hI45.cp (k1 := 1) (i0 := (0 : Int).toNat) (k2 := 0) (j0 := (S43.f 31 1).toNat) (m := (S.f 34 1).toNat)
    have hF62 := hF46.cp (k1 := 1) (i0 := (0 : Int).toNat) (k2 := 0) (j0 := (S43.f 31 1).toNat) (m := (S.f 34 1).toNat) rfl
    have hR63 := hR47.cp (k1 := 1) (i0 := (0 : Int).toNat) (k2 := 0) (j0 := (S43.f 31 1).toNat) (m := (S.f 34 1).toNat)
    refine yT_gen (fun S60 hS64 => ?_)
    rw [hS64] at hI61 hF62 hR63
    refine r_load (i := 32) (u := 0) (w := 2) rfl rfl rfl ?_
    refine r_dup (i := 33) rfl rfl ?_
    have h65 := hI61.b0
    have h66 : S60.f 31 1 = S43.f 31 1 := by rw [← hS64]; rfl
    have h67 : S43.f 31 1 = S.f 31 1 := by rw [hG44.f]
    refine r_getf (i := 34) (v := 1) (w := 7) (x := vi (S60.f 31 1)) rfl ly31 rfl rfl fun h68 => ?_
    have h68 : Rg (S60.f 31 1) := h68
    refine r_load (i := 35) (u := 2) (w := 0) rfl rfl rfl ?_
    refine r_iadd (i := 36) rfl ?_
    refine r_putI (i := 37) (v := 1) (w := 7) rfl ly31 rfl ⟨by omega, by omega⟩ ?_
    have h73 := hI61.bn
    have h74 := hI61.br
    have h75 : S60.n = S43.n := by rw [← hS64]; rfl
    have h76 : S60.n 0 = S43.n 0 := congrFun h75 0
    have h77 : S60.n 1 = S43.n 1 := congrFun h75 1
    have h78 : S60.n 2 = S43.n 2 := congrFun h75 2
    have h79 : S60.n 3 = S43.n 3 := congrFun h75 3
    have h80 : S60.n 4 = S43.n 4 := congrFun h75 4
    have hI70 := hI61.use0 (z := (S60.f 31 1) + (S.f 34 1)) (by omega) (by omega) (by omega)
    have hF72 := hF62.setf (b := 31) (w := 1) (z := (S60.f 31 1) + (S.f 34 1)) rfl
    have hR81 := hR63.setf (b := 31) (w := 1) (z := (S60.f 31 1) + (S.f 34 1))
    refine yT_gen (fun S69 hS71 => ?_)
    rw [hS71] at hI70 hF72 hR81 
    have h82 := hI70.b0
    have h83 : S69.f 31 1 = (S60.f 31 1) + (S.f 34 1) := by rw [← hS71]; exact ysf_eq
    have h84 := hI70.b1
    have h85 : S69.f 34 1 = S60.f 34 1 := by rw [← hS71]; exact ysf_ne (by decide)
    have h86 : S60.f 34 1 = S43.f 34 1 := by rw [← hS64]; rfl
    have h87 : S43.f 34 1 = S.f 34 1 := by rw [hG44.f]
    exact r_ret0 (i := 38) rfl ⟨rfl, (by omega), (by rw [show S69.f 31 1 = S.f 31 1 + S.f 34 1 by omega]; exact bl_cp hS64 rfl (by omega) (by omega) (by omega) (by omega) (fun j hj => hG44.g j (by omega)) (fun j => congrFun (hG44.a 101 (by decide) (by decide)) j) (fun j => by rw [← hS71]; rfl)), hI70, hF72, hR81⟩
theorem lp30_31_2 {G : xk} {d : Nat} {S : yS} (hI : yI S) {ea : Int} (h_ea : 0 ≤ ea ∧ ea ≤ 60000) {st0 : Int} (h_st0 : 0 ≤ st0 ∧ st0 ≤ 60000) (p_0 : ea ≤ st0) (hd : 0 ≤ d) : ∀ (n : Nat), ∀ (k : Int) (h_k : 0 ≤ k ∧ k ≤ 60000) (q_0 : ∀ i9 : Int, 0 ≤ i9 → i9 < k → S.a 100 (ea + i9).toNat % 256 = S.a 100 (st0 + i9).toNat % 256) (hn : 60000 - k < (n : Nat)), yT xPr G LY xC30 2 [some ((2, 31)), some (vi ea), some (vi st0), some (vi k)] [] S d (fun r S' => ∃ z : Int, r = (1, vi z) ∧ 0 ≤ z ∧ z ≤ 1 ∧ (z = 1 → rpt S ea st0) ∧ (z = 0 → ¬ rpt S ea st0) ∧ S = S') := by
  intro n
  induction n with
  | zero => intro k h_k q_0 hn; exact absurd hn (by omega)
  | succ n ih =>
    intro k h_k q_0 hn
    refine r_load (i := 2) (u := 2) (w := 0) rfl rfl rfl ?_
    refine r_load (i := 3) (u := 3) (w := 0) rfl rfl rfl ?_
    refine r_iadd (i := 4) rfl ?_
    refine r_load (i := 5) (u := 0) (w := 2) rfl rfl rfl ?_
    have h1 := hI.b0
    refine r_getf (i := 6) (v := 1) (w := 7) (x := vi (S.f 31 1)) rfl ly31 rfl rfl fun h2 => ?_
    have h2 : Rg (S.f 31 1) := h2
    refine c_ge (i := 7) (v := 25) rfl ⟨by omega, by omega⟩ ⟨by omega, by omega⟩ (fun h3 => ?_) (fun h4 => ?_)
    · refine r_const (i := 25) (u := 1) (z := 1) rfl rfl ?_
      exact r_retZ (i := 26) rfl (by omega) (by omega) ⟨1, rfl, by omega, by omega, (by intro hz; first | exact absurd hz (by omega) | exact fun i9 a9 b9 => q_0 i9 a9 (by omega)), (by intro hz; first | exact absurd hz (by omega) | (have r9 : S.a (100 + 0) (st0 + k).toNat = S.a 100 (st0 + k).toNat := rfl; have r8 : S.a (100 + 0) (ea + k).toNat = S.a 100 (ea + k).toNat := rfl; exact fun w9 => absurd (show S.a 100 (ea + k).toNat % 256 = S.a 100 (st0 + k).toNat % 256 from w9 k (by omega) (by omega)) (by omega))), rfl⟩
    · refine r_load (i := 8) (u := 0) (w := 2) rfl rfl rfl ?_
      refine r_getf (i := 9) (v := 0) (w := 7) (x := (2, S.p 0)) rfl ly31 rfl rfl fun _ => ?_
      refine r_load (i := 10) (u := 1) (w := 0) rfl rfl rfl ?_
      refine r_load (i := 11) (u := 3) (w := 0) rfl rfl rfl ?_
      refine r_iadd (i := 12) rfl ?_
      have h7 := hI.bn
      have h8 := hI.br
      refine g_bload (i := 13) (k := 0) rfl rfl rfl (by omega) (by omega) fun h6 => ?_
      have h6 : -128 ≤ S.a 100 (ea + k).toNat ∧ S.a 100 (ea + k).toNat ≤ 127 := h6
      refine r_load (i := 14) (u := 0) (w := 2) rfl rfl rfl ?_
      refine r_getf (i := 15) (v := 0) (w := 7) (x := (2, S.p 0)) rfl ly31 rfl rfl fun _ => ?_
      refine r_load (i := 16) (u := 2) (w := 0) rfl rfl rfl ?_
      refine r_load (i := 17) (u := 3) (w := 0) rfl rfl rfl ?_
      refine r_iadd (i := 18) rfl ?_
      refine g_bload (i := 19) (k := 0) rfl rfl rfl (by omega) (by omega) fun h10 => ?_
      have h10 : -128 ≤ S.a 100 (st0 + k).toNat ∧ S.a 100 (st0 + k).toNat ≤ 127 := h10
      refine c_eq (i := 20) (v := 23) rfl ⟨by omega, by omega⟩ ⟨by omega, by omega⟩ (fun h11 => ?_) (fun h12 => ?_)
      · refine r_iinc (i := 23) (u := 1) (v := 3) (s := 1) (L1 := [some ((2, 31)), some (vi ea), some (vi st0), some (vi (k + 1))]) rfl rfl rfl rfl rfl ?_
        refine r_goto (i := 24) (v := 2) rfl ?_
        exact ih (k + 1) ⟨by omega, by omega⟩ (by have r9 : S.a (100 + 0) (st0 + k).toNat = S.a 100 (st0 + k).toNat := rfl; have r8 : S.a (100 + 0) (ea + k).toNat = S.a 100 (ea + k).toNat := rfl; exact rp_s q_0 (show S.a 100 (ea + k).toNat % 256 = S.a 100 (st0 + k).toNat % 256 by omega)) (by omega)
      · refine r_const (i := 21) (u := 0) (z := 0) rfl rfl ?_
        exact r_retZ (i := 22) rfl (by omega) (by omega) ⟨0, rfl, by omega, by omega, (by intro hz; first | exact absurd hz (by omega) | exact fun i9 a9 b9 => q_0 i9 a9 (by omega)), (by intro hz; first | exact absurd hz (by omega) | (have r9 : S.a (100 + 0) (st0 + k).toNat = S.a 100 (st0 + k).toNat := rfl; have r8 : S.a (100 + 0) (ea + k).toNat = S.a 100 (ea + k).toNat := rfl; exact fun w9 => absurd (show S.a 100 (ea + k).toNat % 256 = S.a 100 (st0 + k).toNat % 256 from w9 k (by omega) (by omega)) (by omega))), rfl⟩
/-- ProxyForge$Bytes.repeats -/
theorem sp30_31 {G : xk} {S : yS} {d : Nat} (hI : yI S) {ea : Int} (h_ea : 0 ≤ ea ∧ ea ≤ 60000) {st0 : Int} (h_st0 : 0 ≤ st0 ∧ st0 ≤ 60000) (p_0 : ea ≤ st0) (hd : 0 ≤ d) : yT xPr G LY xC30 0 [some ((2, 31)), some (vi ea), some (vi st0)] [] S d (fun r S' => ∃ z : Int, r = (1, vi z) ∧ 0 ≤ z ∧ z ≤ 1 ∧ (z = 1 → rpt S ea st0) ∧ (z = 0 → ¬ rpt S ea st0) ∧ S = S') := by
  refine yT_pad 1 ?_
  show yT xPr G LY xC30 0 [some ((2, 31)), some (vi ea), some (vi st0), none] [] S d _
  refine r_const (i := 0) (u := 0) (z := 0) rfl rfl ?_
  refine r_store (i := 1) (u := 3) (w := 0) (L1 := [some ((2, 31)), some (vi ea), some (vi st0), some (vi 0)]) rfl rfl rfl rfl ?_
  exact lp30_31_2 hI h_ea h_st0 p_0  hd _ 0 ⟨by omega, by omega⟩ (by exact rp_0) (Int.lt_succ_toNat _)
theorem lp34_31_14 {G : xk} {d : Nat} {S : yS} (hI : yI S) {pl : Int} (h_pl : 0 ≤ pl ∧ pl ≤ 70000) {ln : Int} (h_ln : 0 ≤ ln ∧ ln ≤ 65535) {s : Nat} (h_s : yStr s) (hd : 4 ≤ d + 1) : ∀ (n : Nat), ∀ (k : Int) (h_k : 0 ≤ k ∧ k ≤ 65535) (q_0 : ln = slen s) (q_1 : ln ≤ S.f 31 1 - pl) (hn : 65536 - k < (n : Nat)), yT xPr G LY xC34 14 [some ((2, 31)), some (vi pl), some (vi ln), some ((6, s)), some (vi k)] [] S (d + 1) (fun r S' => ∃ z : Int, r = (1, vi z) ∧ 0 ≤ z ∧ z ≤ 1 ∧ S = S') := by
  intro n
  induction n with
  | zero => intro k h_k q_0 q_1 hn; exact absurd hn (by omega)
  | succ n ih =>
    intro k h_k q_0 q_1 hn
    have h1 := hI.b0
    refine r_load (i := 14) (u := 4) (w := 0) rfl rfl rfl ?_
    refine r_load (i := 15) (u := 2) (w := 0) rfl rfl rfl ?_
    refine c_ge (i := 16) (v := 30) rfl ⟨by omega, by omega⟩ ⟨by omega, by omega⟩ (fun h2 => ?_) (fun h3 => ?_)
    · refine r_const (i := 30) (u := 1) (z := 1) rfl rfl ?_
      exact r_retZ (i := 31) rfl (by omega) (by omega) ⟨1, rfl, by omega, by omega, rfl⟩
    · refine r_load (i := 17) (u := 0) (w := 2) rfl rfl rfl ?_
      refine r_load (i := 18) (u := 1) (w := 0) rfl rfl rfl ?_
      refine r_load (i := 19) (u := 4) (w := 0) rfl rfl rfl ?_
      refine r_iadd (i := 20) rfl ?_
      have h4 := hI.bn
      have h5 := hI.br
      refine r_call (i := 21) (u := 7) (v := 25) (w := 0) (b := 0) (na := 514) (C2 := xC25) (as := [(2, 31), vi (pl + k)]) (s := []) rfl rfl rfl rfl rfl rfl rfl (sp25_31 (k := pl + k) hI ⟨by omega, by omega⟩ (by omega)  (by omega)) (fun r6 S7 hq8 => ?_)
      obtain ⟨z9, rfl, h10, h11, h12, rfl⟩ := hq8
      refine Or.inr (Or.inl ⟨rfl, ?_⟩)
      refine r_load (i := 22) (u := 3) (w := 2) rfl rfl rfl ?_
      refine r_load (i := 23) (u := 4) (w := 0) rfl rfl rfl ?_
      refine r_call (i := 24) (u := 100) (v := 270) (w := 0) (b := 0) (na := 514) (C2 := xC270) (as := [(6, s), vi k]) (s := [vi z9]) rfl rfl rfl rfl rfl (yrcv_str h_s) rfl (sp270 (s := s) (x := k)  h_s ⟨by omega, by omega⟩ (by omega)  (by omega)) (fun r13 S14 hq15 => ?_)
      obtain ⟨z16, rfl, h17, h18, ca019, rfl⟩ := hq15
      refine Or.inr (Or.inl ⟨rfl, ?_⟩)
      refine c_eq (i := 25) (v := 28) rfl ⟨by omega, by omega⟩ ⟨by omega, by omega⟩ (fun h20 => ?_) (fun h21 => ?_)
      · refine r_iinc (i := 28) (u := 1) (v := 4) (s := 1) (L1 := [some ((2, 31)), some (vi pl), some (vi ln), some ((6, s)), some (vi (k + 1))]) rfl rfl rfl rfl rfl ?_
        refine r_goto (i := 29) (v := 14) rfl ?_
        exact ih (k + 1) ⟨by omega, by omega⟩ (by omega) (by omega) (by omega)
      · refine r_const (i := 26) (u := 0) (z := 0) rfl rfl ?_
        exact r_retZ (i := 27) rfl (by omega) (by omega) ⟨0, rfl, by omega, by omega, rfl⟩
/-- ProxyForge$Bytes.spells -/
theorem sp34_31 {G : xk} {S : yS} {d : Nat} (hI : yI S) {pl : Int} (h_pl : 0 ≤ pl ∧ pl ≤ 70000) {ln : Int} (h_ln : 0 ≤ ln ∧ ln ≤ 65535) {s : Nat} (h_s : yStr s) (hd : 4 ≤ d) : yT xPr G LY xC34 0 [some ((2, 31)), some (vi pl), some (vi ln), some ((6, s))] [] S d (fun r S' => ∃ z : Int, r = (1, vi z) ∧ 0 ≤ z ∧ z ≤ 1 ∧ S = S') := by
  refine yT_pad 1 ?_
  show yT xPr G LY xC34 0 [some ((2, 31)), some (vi pl), some (vi ln), some ((6, s)), none] [] S d _
  obtain ⟨d, rfl⟩ : ∃ q, d = q + 1 := ⟨d - 1, by omega⟩
  refine r_load (i := 0) (u := 2) (w := 0) rfl rfl rfl ?_
  refine r_load (i := 1) (u := 3) (w := 2) rfl rfl rfl ?_
  refine r_call (i := 2) (u := 100) (v := 274) (w := 0) (b := 0) (na := 257) (C2 := xC274) (as := [(6, s)]) (s := [vi ln]) rfl rfl rfl rfl rfl (yrcv_str h_s) rfl (sp274 (s := s)  h_s   (by omega)) (fun r1 S2 hq3 => ?_)
  obtain ⟨z4, rfl, h5, h6, h7, rfl⟩ := hq3
  refine Or.inr (Or.inl ⟨rfl, ?_⟩)
  refine c_ne (i := 3) (v := 10) rfl ⟨by omega, by omega⟩ ⟨by omega, by omega⟩ (fun h8 => ?_) (fun h9 => ?_)
  · refine r_const (i := 10) (u := 0) (z := 0) rfl rfl ?_
    exact r_retZ (i := 11) rfl (by omega) (by omega) ⟨0, rfl, by omega, by omega, rfl⟩
  · refine r_load (i := 4) (u := 2) (w := 0) rfl rfl rfl ?_
    refine r_load (i := 5) (u := 0) (w := 2) rfl rfl rfl ?_
    have h10 := hI.b0
    refine r_getf (i := 6) (v := 1) (w := 7) (x := vi (S.f 31 1)) rfl ly31 rfl rfl fun h11 => ?_
    have h11 : Rg (S.f 31 1) := h11
    refine r_load (i := 7) (u := 1) (w := 0) rfl rfl rfl ?_
    refine r_isub (i := 8) rfl ?_
    refine c_le (i := 9) (v := 12) rfl ⟨by omega, by omega⟩ ⟨by omega, by omega⟩ (fun h12 => ?_) (fun h13 => ?_)
    · refine r_const (i := 12) (u := 0) (z := 0) rfl rfl ?_
      refine r_store (i := 13) (u := 4) (w := 0) (L1 := [some ((2, 31)), some (vi pl), some (vi ln), some ((6, s)), some (vi 0)]) rfl rfl rfl rfl ?_
      exact lp34_31_14 hI h_pl h_ln h_s   hd _ 0 ⟨by omega, by omega⟩ (by omega) (by omega) (Int.lt_succ_toNat _)
    · refine r_const (i := 10) (u := 0) (z := 0) rfl rfl ?_
      exact r_retZ (i := 11) rfl (by omega) (by omega) ⟨0, rfl, by omega, by omega, rfl⟩
theorem lp278_5 {G : xk} {d : Nat} {S0 : yS} {v : Int} (h_v : 0 ≤ v ∧ v ≤ 0) (hd : 0 ≤ d) : ∀ (n : Nat), ∀ (S : yS) (hI : yI S) (hF : yFr [] [37] S0 S) (hR : yRm [] S0 S) (k n1 : Int) (h_k : 0 ≤ k ∧ k ≤ 64) (h_n1 : 64 ≤ n1 ∧ n1 ≤ 64) (q_0 : v = 0) (q_1 : ∀ j : Nat, (j : Int) < k → S.a 37 j = 0) (hn : 64 - k < (n : Nat)), yT xPr G LY xC278 5 [some ((2, 37)), some (vi v), some (vi k), some (vi n1)] [] S d (fun r S' => r = (0, (0, 0)) ∧ (∀ j : Nat, j < 64 → S'.a 37 j = 0) ∧ yI S' ∧ yFr [] [37] S0 S' ∧ yRm [] S0 S') := by
  intro n
  induction n with
  | zero => intro S hI hF hR k n1 h_k h_n1 q_0 q_1 hn; exact absurd hn (by omega)
  | succ n ih =>
    intro S hI hF hR k n1 h_k h_n1 q_0 q_1 hn
    refine r_load (i := 5) (u := 2) (w := 0) rfl rfl rfl ?_
    refine r_load (i := 6) (u := 3) (w := 0) rfl rfl rfl ?_
    refine c_ge (i := 7) (v := 14) rfl ⟨by omega, by omega⟩ ⟨by omega, by omega⟩ (fun h1 => ?_) (fun h2 => ?_)
    · exact r_ret0 (i := 14) rfl ⟨rfl, (by exact fun j hj => q_1 j (by omega)), hI, hF, hR⟩
    · refine r_load (i := 8) (u := 0) (w := 2) rfl rfl rfl ?_
      refine r_load (i := 9) (u := 2) (w := 0) rfl rfl rfl ?_
      refine r_load (i := 10) (u := 1) (w := 0) rfl rfl rfl ?_
      refine s_int (i := 11) rfl ly37 rfl (by omega) (by omega) ⟨by omega, by omega⟩ ?_
      have hI4 := hI.seta0 (b := 37) (j := k.toNat) (z := v) rfl rfl
      have hF6 := hF.seta (b := 37) (j := k.toNat) (z := v) rfl
      have hR7 := hR.seta (b := 37) (j := k.toNat) (z := v)
      refine yT_gen (fun S3 hS5 => ?_)
      rw [hS5] at hI4 hF6 hR7 
      refine r_iinc (i := 12) (u := 1) (v := 2) (s := 1) (L1 := [some ((2, 37)), some (vi v), some (vi (k + 1)), some (vi n1)]) rfl rfl rfl rfl rfl ?_
      refine r_goto (i := 13) (v := 5) rfl ?_
      exact ih S3 hI4 hF6 hR7 (k + 1) n1 ⟨by omega, by omega⟩ ⟨by omega, by omega⟩ (by omega) (by first | exact fun j hj => absurd hj (by omega) | exact fill_push q_1 (by omega) (by omega) (by subst_vars; rfl)) (by omega)
/-- java/util/Arrays.fill -/
theorem sp278 {G : xk} {S : yS} {d : Nat} (hI : yI S) {v : Int} (h_v : 0 ≤ v ∧ v ≤ 0) (hd : 0 ≤ d) : yT xPr G LY xC278 0 [some ((2, 37)), some (vi v)] [] S d (fun r S' => r = (0, (0, 0)) ∧ (∀ j : Nat, j < 64 → S'.a 37 j = 0) ∧ yI S' ∧ yFr [] [37] S S' ∧ yRm [] S S') := by
  refine yT_pad 2 ?_
  show yT xPr G LY xC278 0 [some ((2, 37)), some (vi v), none, none] [] S d _
  have hF : yFr [] [37] S S := yFr.refl S
  have hR : yRm [] S S := yRm.refl S
  refine r_const (i := 0) (u := 0) (z := 0) rfl rfl ?_
  refine r_store (i := 1) (u := 2) (w := 0) (L1 := [some ((2, 37)), some (vi v), some (vi 0), none]) rfl rfl rfl rfl ?_
  refine r_load (i := 2) (u := 0) (w := 2) rfl rfl rfl ?_
  refine r_alen (i := 3) rfl ly37 rfl ?_
  refine r_store (i := 4) (u := 3) (w := 0) (L1 := [some ((2, 37)), some (vi v), some (vi 0), some (vi 64)]) rfl rfl rfl rfl ?_
  exact lp278_5 h_v  hd _ S hI hF hR 0 64 ⟨by omega, by omega⟩ ⟨by omega, by omega⟩ (by omega) (by first | exact fun j hj => absurd hj (by omega) | exact fill_push q_1 (by omega) (by omega) (by subst_vars; rfl)) (Int.lt_succ_toNat _)
end XNC
