set_option linter.unusedVariables false
set_option maxRecDepth 4000
noncomputable section XNC
/-- ProxyForgeModel.one -/
theorem sp224 {G : xk} {S : yS} {d : Nat} (hI : yI S) {v : Int} (h_v : -2147483648 ≤ v ∧ v ≤ 2147483647) (p_0 : S.f 43 43 ≤ 23990) (hd : 0 ≤ d) : yT xPr G LY xC224 0 [some ((2, 43)), some (vi v)] [] S d (fun r S' => r = (0, (0, 0)) ∧ S.f 43 43 + 1 ≤ S'.f 43 43 ∧ S'.f 43 43 ≤ S.f 43 43 + 1 ∧ yI S' ∧ yFr [(43, 43)] [72] S S' ∧ yRm [] S S') := by
  refine yT_pad 0 ?_
  show yT xPr G LY xC224 0 [some ((2, 43)), some (vi v)] [] S d _
  have hF : yFr [(43, 43)] [72] S S := yFr.refl S
  have hR : yRm [] S S := yRm.refl S
  have h1 := hI.f tf43_43
  refine r_load (i := 0) (u := 0) (w := 2) rfl rfl rfl ?_
  refine r_getf (i := 1) (v := 41) (w := 11) (x := (2, 72)) rfl ly43 rfl rfl fun _ => ?_
  refine r_load (i := 2) (u := 0) (w := 2) rfl rfl rfl ?_
  refine r_getf (i := 3) (v := 43) (w := 11) (x := vi (S.f 43 43)) rfl ly43 rfl rfl fun h3 => ?_
  have h3 : Rg (S.f 43 43) := h3
  refine r_load (i := 4) (u := 1) (w := 0) rfl rfl rfl ?_
  refine r_const (i := 5) (u := 255) (z := 255) rfl rfl ?_
  refine r_iand (i := 6) rfl ?_
  have h4 := @yand_c v 255 (by decide) (by decide)
  have h5 := yand_255 v
  refine s_int (i := 7) rfl ly72 rfl (by omega) (by omega) ⟨by omega, by omega⟩ ?_
  have hI7 := hI.seta0 (b := 72) (j := (S.f 43 43).toNat) (z := yand v 255) rfl rfl
  have hF9 := hF.seta (b := 72) (j := (S.f 43 43).toNat) (z := yand v 255) rfl
  have hR10 := hR.seta (b := 72) (j := (S.f 43 43).toNat) (z := yand v 255)
  refine yT_gen (fun S6 hS8 => ?_)
  rw [hS8] at hI7 hF9 hR10 
  refine r_load (i := 8) (u := 0) (w := 2) rfl rfl rfl ?_
  refine r_dup (i := 9) rfl rfl ?_
  have h11 := hI7.f tf43_43
  have h12 : S6.f 43 43 = S.f 43 43 := by rw [← hS8]; rfl
  refine r_getf (i := 10) (v := 43) (w := 11) (x := vi (S6.f 43 43)) rfl ly43 rfl rfl fun h13 => ?_
  have h13 : Rg (S6.f 43 43) := h13
  refine r_const (i := 11) (u := 1) (z := 1) rfl rfl ?_
  refine r_iadd (i := 12) rfl ?_
  refine r_putI (i := 13) (v := 43) (w := 11) rfl ly43 rfl ⟨by omega, by omega⟩ ?_
  have hI15 := hI7.setf (b := 43) (w := 43) (z := (S6.f 43 43) + 1) tf43_43 rfl (by omega) (by omega)
  have hF17 := hF9.setf (b := 43) (w := 43) (z := (S6.f 43 43) + 1) rfl
  have hR18 := hR10.setf (b := 43) (w := 43) (z := (S6.f 43 43) + 1)
  refine yT_gen (fun S14 hS16 => ?_)
  rw [hS16] at hI15 hF17 hR18 
  have h19 := hI15.f tf43_43
  have h20 : S14.f 43 43 = (S6.f 43 43) + 1 := by rw [← hS16]; exact ysf_eq
  exact r_ret0 (i := 14) rfl ⟨rfl, (by omega), (by omega), hI15, hF17, hR18⟩
/-- ProxyForgeModel.two -/
theorem sp257 {G : xk} {S : yS} {d : Nat} (hI : yI S) {v : Int} (h_v : 0 ≤ v ∧ v ≤ 2147483647) (p_0 : S.f 43 43 ≤ 23980) (hd : 1 ≤ d) : yT xPr G LY xC257 0 [some ((2, 43)), some (vi v)] [] S d (fun r S' => r = (0, (0, 0)) ∧ S.f 43 43 + 2 ≤ S'.f 43 43 ∧ S'.f 43 43 ≤ S.f 43 43 + 2 ∧ yI S' ∧ yFr [(43, 43)] [72] S S' ∧ yRm [] S S') := by
  refine yT_pad 0 ?_
  show yT xPr G LY xC257 0 [some ((2, 43)), some (vi v)] [] S d _
  obtain ⟨d, rfl⟩ : ∃ q, d = q + 1 := ⟨d - 1, by omega⟩
  have hF : yFr [(43, 43)] [72] S S := yFr.refl S
  have hR : yRm [] S S := yRm.refl S
  have h1 := hI.f tf43_43
  refine r_load (i := 0) (u := 0) (w := 2) rfl rfl rfl ?_
  refine r_load (i := 1) (u := 1) (w := 0) rfl rfl rfl ?_
  refine r_const (i := 2) (u := 8) (z := 8) rfl rfl ?_
  refine r_ishr (i := 3) rfl (by omega) (by omega) (by omega) (by omega) ?_
  have h2 := @yshr_c v 8 (by omega) (by omega)
  refine r_call (i := 4) (u := 11) (v := 224) (w := 0) (b := 0) (na := 514) (C2 := xC224) (as := [(2, 43), vi (yshr v 8)]) (s := []) rfl rfl rfl rfl rfl rfl rfl (sp224 (v := yshr v 8) hI ⟨by omega, by omega⟩ (by omega)  (by omega)) (fun r3 S4 hq5 => ?_)
  obtain ⟨rfl, h6, h7, hI8, hF9, hR10⟩ := hq5
  have hF11 := hF.trans hF9 rfl rfl
  have hR12 := hR.trans hR10 rfl
  refine Or.inl ⟨rfl, ?_⟩
  refine r_load (i := 5) (u := 0) (w := 2) rfl rfl rfl ?_
  refine r_load (i := 6) (u := 1) (w := 0) rfl rfl rfl ?_
  have h13 := hI8.f tf43_43
  refine r_call (i := 7) (u := 11) (v := 224) (w := 0) (b := 0) (na := 514) (C2 := xC224) (as := [(2, 43), vi v]) (s := []) rfl rfl rfl rfl rfl rfl rfl (sp224 (v := v) hI8 ⟨by omega, by omega⟩ (by omega)  (by omega)) (fun r14 S15 hq16 => ?_)
  obtain ⟨rfl, h17, h18, hI19, hF20, hR21⟩ := hq16
  have hF22 := hF11.trans hF20 rfl rfl
  have hR23 := hR12.trans hR21 rfl
  refine Or.inl ⟨rfl, ?_⟩
  have h24 := hI19.f tf43_43
  exact r_ret0 (i := 8) rfl ⟨rfl, (by omega), (by omega), hI19, hF22, hR23⟩
/-- ProxyForgeModel.four -/
theorem sp204 {G : xk} {S : yS} {d : Nat} (hI : yI S) {v : Int} (h_v : 0 ≤ v ∧ v ≤ 2147483647) (p_0 : S.f 43 43 ≤ 23970) (hd : 2 ≤ d) : yT xPr G LY xC204 0 [some ((2, 43)), some (vi v)] [] S d (fun r S' => r = (0, (0, 0)) ∧ S.f 43 43 + 4 ≤ S'.f 43 43 ∧ S'.f 43 43 ≤ S.f 43 43 + 4 ∧ yI S' ∧ yFr [(43, 43)] [72] S S' ∧ yRm [] S S') := by
  refine yT_pad 0 ?_
  show yT xPr G LY xC204 0 [some ((2, 43)), some (vi v)] [] S d _
  obtain ⟨d, rfl⟩ : ∃ q, d = q + 1 := ⟨d - 1, by omega⟩
  have hF : yFr [(43, 43)] [72] S S := yFr.refl S
  have hR : yRm [] S S := yRm.refl S
  have h1 := hI.f tf43_43
  refine r_load (i := 0) (u := 0) (w := 2) rfl rfl rfl ?_
  refine r_load (i := 1) (u := 1) (w := 0) rfl rfl rfl ?_
  refine r_const (i := 2) (u := 16) (z := 16) rfl rfl ?_
  refine r_ishr (i := 3) rfl (by omega) (by omega) (by omega) (by omega) ?_
  have h2 := @yshr_c v 16 (by omega) (by omega)
  refine r_call (i := 4) (u := 11) (v := 257) (w := 0) (b := 0) (na := 514) (C2 := xC257) (as := [(2, 43), vi (yshr v 16)]) (s := []) rfl rfl rfl rfl rfl rfl rfl (sp257 (v := yshr v 16) hI ⟨by omega, by omega⟩ (by omega)  (by omega)) (fun r3 S4 hq5 => ?_)
  obtain ⟨rfl, h6, h7, hI8, hF9, hR10⟩ := hq5
  have hF11 := hF.trans hF9 rfl rfl
  have hR12 := hR.trans hR10 rfl
  refine Or.inl ⟨rfl, ?_⟩
  refine r_load (i := 5) (u := 0) (w := 2) rfl rfl rfl ?_
  refine r_load (i := 6) (u := 1) (w := 0) rfl rfl rfl ?_
  have h13 := hI8.f tf43_43
  refine r_call (i := 7) (u := 11) (v := 257) (w := 0) (b := 0) (na := 514) (C2 := xC257) (as := [(2, 43), vi v]) (s := []) rfl rfl rfl rfl rfl rfl rfl (sp257 (v := v) hI8 ⟨by omega, by omega⟩ (by omega)  (by omega)) (fun r14 S15 hq16 => ?_)
  obtain ⟨rfl, h17, h18, hI19, hF20, hR21⟩ := hq16
  have hF22 := hF11.trans hF20 rfl rfl
  have hR23 := hR12.trans hR21 rfl
  refine Or.inl ⟨rfl, ?_⟩
  have h24 := hI19.f tf43_43
  exact r_ret0 (i := 8) rfl ⟨rfl, (by omega), (by omega), hI19, hF22, hR23⟩
theorem lp231_2 {G : xk} {d : Nat} {S0 : yS} {at0 : Int} (h_at0 : 0 ≤ at0 ∧ at0 ≤ 23990) {v : Int} (h_v : 0 ≤ v ∧ v ≤ 2147483647) (hd : 0 ≤ d) : ∀ (n : Nat), ∀ (S : yS) (hI : yI S) (hF : yFr [] [72] S0 S) (hR : yRm [] S0 S) (k : Int) (h_k : 0 ≤ k ∧ k ≤ 4) (hn : 4 - k < (n : Nat)), yT xPr G LY xC231 2 [some ((2, 43)), some (vi at0), some (vi v), some (vi k)] [] S d (fun r S' => r = (0, (0, 0)) ∧ yI S' ∧ yFr [] [72] S0 S' ∧ yRm [] S0 S') := by
  intro n
  induction n with
  | zero => intro S hI hF hR k h_k hn; exact absurd hn (by omega)
  | succ n ih =>
    intro S hI hF hR k h_k hn
    refine r_load (i := 2) (u := 3) (w := 0) rfl rfl rfl ?_
    refine r_const (i := 3) (u := 4) (z := 4) rfl rfl ?_
    refine c_ge (i := 4) (v := 22) rfl ⟨by omega, by omega⟩ ⟨by omega, by omega⟩ (fun h1 => ?_) (fun h2 => ?_)
    · exact r_ret0 (i := 22) rfl ⟨rfl,  hI, hF, hR⟩
    · refine r_load (i := 5) (u := 0) (w := 2) rfl rfl rfl ?_
      refine r_getf (i := 6) (v := 41) (w := 11) (x := (2, 72)) rfl ly43 rfl rfl fun _ => ?_
      refine r_load (i := 7) (u := 1) (w := 0) rfl rfl rfl ?_
      refine r_load (i := 8) (u := 3) (w := 0) rfl rfl rfl ?_
      refine r_iadd (i := 9) rfl ?_
      refine r_load (i := 10) (u := 2) (w := 0) rfl rfl rfl ?_
      refine r_const (i := 11) (u := 24) (z := 24) rfl rfl ?_
      refine r_const (i := 12) (u := 8) (z := 8) rfl rfl ?_
      refine r_load (i := 13) (u := 3) (w := 0) rfl rfl rfl ?_
      refine r_imul (i := 14) rfl ?_
      refine r_isub (i := 15) rfl ?_
      refine r_ishr (i := 16) rfl (by omega) (by omega) (by omega) (by omega) ?_
      have h4 := @yshr_c v (24 - (8 * k)) (by omega) (by omega)
      refine r_const (i := 17) (u := 255) (z := 255) rfl rfl ?_
      refine r_iand (i := 18) rfl ?_
      have h5 := @yand_c (yshr v (24 - (8 * k))) 255 (by decide) (by decide)
      have h6 := yand_255 (yshr v (24 - (8 * k)))
      refine s_int (i := 19) rfl ly72 rfl (by omega) (by omega) ⟨by omega, by omega⟩ ?_
      have hI8 := hI.seta0 (b := 72) (j := (at0 + k).toNat) (z := yand (yshr v (24 - (8 * k))) 255) rfl rfl
      have hF10 := hF.seta (b := 72) (j := (at0 + k).toNat) (z := yand (yshr v (24 - (8 * k))) 255) rfl
      have hR11 := hR.seta (b := 72) (j := (at0 + k).toNat) (z := yand (yshr v (24 - (8 * k))) 255)
      refine yT_gen (fun S7 hS9 => ?_)
      rw [hS9] at hI8 hF10 hR11 
      refine r_iinc (i := 20) (u := 1) (v := 3) (s := 1) (L1 := [some ((2, 43)), some (vi at0), some (vi v), some (vi (k + 1))]) rfl rfl rfl rfl rfl ?_
      refine r_goto (i := 21) (v := 2) rfl ?_
      exact ih S7 hI8 hF10 hR11 (k + 1) ⟨by omega, by omega⟩  (by omega)
/-- ProxyForgeModel.patch -/
theorem sp231 {G : xk} {S : yS} {d : Nat} (hI : yI S) {at0 : Int} (h_at0 : 0 ≤ at0 ∧ at0 ≤ 23990) {v : Int} (h_v : 0 ≤ v ∧ v ≤ 2147483647) (hd : 0 ≤ d) : yT xPr G LY xC231 0 [some ((2, 43)), some (vi at0), some (vi v)] [] S d (fun r S' => r = (0, (0, 0)) ∧ yI S' ∧ yFr [] [72] S S' ∧ yRm [] S S') := by
  refine yT_pad 1 ?_
  show yT xPr G LY xC231 0 [some ((2, 43)), some (vi at0), some (vi v), none] [] S d _
  have hF : yFr [] [72] S S := yFr.refl S
  have hR : yRm [] S S := yRm.refl S
  refine r_const (i := 0) (u := 0) (z := 0) rfl rfl ?_
  refine r_store (i := 1) (u := 3) (w := 0) (L1 := [some ((2, 43)), some (vi at0), some (vi v), some (vi 0)]) rfl rfl rfl rfl ?_
  exact lp231_2 h_at0 h_v  hd _ S hI hF hR 0 ⟨by omega, by omega⟩  (Int.lt_succ_toNat _)
theorem lp250_22 {G : xk} {d : Nat} {S0 : yS} {b0 : Int} (h_b0 : 0 ≤ b0 ∧ b0 ≤ 255) {off : Int} (h_off : 0 ≤ off ∧ off ≤ 20) {on : Int} (h_on : 0 ≤ on ∧ on ≤ 20) (p_0 : S0.f 43 43 ≤ 23970) (hd : 1 ≤ d + 1) : ∀ (S : yS) (hI : yI S) (hF : yFr [(43, 43), (43, 52), (43, 53)] [72] S0 S) (hR : yRm [] S0 S) (dp : Int) (h_dp : 0 ≤ dp ∧ dp ≤ 2147483647) (q_0 : S.f 43 43 = S0.f 43 43 + 1), yT xPr G LY xC250 22 [some ((2, 43)), some (vi b0), some (vi off), some (vi on)] [vi dp, (2, 43)] S (d + 1) (fun r S' => r = (0, (0, 0)) ∧ S0.f 43 43 + 1 ≤ S'.f 43 43 ∧ S'.f 43 43 ≤ S0.f 43 43 + 1 ∧ yI S' ∧ yFr [(43, 43), (43, 52), (43, 53)] [72] S0 S' ∧ yRm [] S0 S') := by
  intro S hI hF hR dp h_dp q_0
  have h1 := hI.f tf43_43
  refine r_putI (i := 22) (v := 53) (w := 11) rfl ly43 rfl ⟨by omega, by omega⟩ ?_
  have hI3 := hI.setf (b := 43) (w := 53) (z := dp) tf43_53 rfl (by omega) (by omega)
  have hF5 := hF.setf (b := 43) (w := 53) (z := dp) rfl
  have hR6 := hR.setf (b := 43) (w := 53) (z := dp)
  refine yT_gen (fun S2 hS4 => ?_)
  rw [hS4] at hI3 hF5 hR6 
  have h7 := hI3.f tf43_43
  have h8 : S2.f 43 43 = S.f 43 43 := by rw [← hS4]; exact ysf_ne (by decide)
  exact r_ret0 (i := 23) rfl ⟨rfl, (by omega), (by omega), hI3, hF5, hR6⟩
/-- ProxyForgeModel.step -/
theorem sp250 {G : xk} {S : yS} {d : Nat} (hI : yI S) {b0 : Int} (h_b0 : 0 ≤ b0 ∧ b0 ≤ 255) {off : Int} (h_off : 0 ≤ off ∧ off ≤ 20) {on : Int} (h_on : 0 ≤ on ∧ on ≤ 20) (p_0 : S.f 43 43 ≤ 23970) (hd : 1 ≤ d) : yT xPr G LY xC250 0 [some ((2, 43)), some (vi b0), some (vi off), some (vi on)] [] S d (fun r S' => r = (0, (0, 0)) ∧ S.f 43 43 + 1 ≤ S'.f 43 43 ∧ S'.f 43 43 ≤ S.f 43 43 + 1 ∧ yI S' ∧ yFr [(43, 43), (43, 52), (43, 53)] [72] S S' ∧ yRm [] S S') := by
  refine yT_pad 0 ?_
  show yT xPr G LY xC250 0 [some ((2, 43)), some (vi b0), some (vi off), some (vi on)] [] S d _
  obtain ⟨d, rfl⟩ : ∃ q, d = q + 1 := ⟨d - 1, by omega⟩
  have hF : yFr [(43, 43), (43, 52), (43, 53)] [72] S S := yFr.refl S
  have hR : yRm [] S S := yRm.refl S
  have h1 := hI.f tf43_43
  refine r_load (i := 0) (u := 0) (w := 2) rfl rfl rfl ?_
  refine r_load (i := 1) (u := 1) (w := 0) rfl rfl rfl ?_
  refine r_call (i := 2) (u := 11) (v := 224) (w := 0) (b := 0) (na := 514) (C2 := xC224) (as := [(2, 43), vi b0]) (s := []) rfl rfl rfl rfl rfl rfl rfl (sp224 (v := b0) hI ⟨by omega, by omega⟩ (by omega)  (by omega)) (fun r2 S3 hq4 => ?_)
  obtain ⟨rfl, h5, h6, hI7, hF8, hR9⟩ := hq4
  have hF10 := hF.trans hF8 rfl rfl
  have hR11 := hR.trans hR9 rfl
  refine Or.inl ⟨rfl, ?_⟩
  refine r_load (i := 3) (u := 0) (w := 2) rfl rfl rfl ?_
  refine r_dup (i := 4) rfl rfl ?_
  have h12 : S3.f 43 52 = S.f 43 52 := hF8.f rfl
  refine r_getf (i := 5) (v := 52) (w := 11) (x := vi (S3.f 43 52)) rfl ly43 rfl rfl fun h13 => ?_
  have h13 : Rg (S3.f 43 52) := h13
  refine r_load (i := 6) (u := 3) (w := 0) rfl rfl rfl ?_
  refine r_load (i := 7) (u := 2) (w := 0) rfl rfl rfl ?_
  refine r_isub (i := 8) rfl ?_
  refine r_iadd (i := 9) rfl ?_
  rw [vi_sg ((S3.f 43 52) + (on - off))]
  have h14 := ysg_rg ((S3.f 43 52) + (on - off))
  refine r_putI (i := 10) (v := 52) (w := 11) rfl ly43 rfl ⟨by omega, by omega⟩ ?_
  have hI16 := hI7.setf0 (b := 43) (w := 52) (z := ysg ((S3.f 43 52) + (on - off))) rfl rfl
  have hF18 := hF10.setf (b := 43) (w := 52) (z := ysg ((S3.f 43 52) + (on - off))) rfl
  have hR19 := hR11.setf (b := 43) (w := 52) (z := ysg ((S3.f 43 52) + (on - off)))
  refine yT_gen (fun S15 hS17 => ?_)
  rw [hS17] at hI16 hF18 hR19 
  refine r_load (i := 11) (u := 0) (w := 2) rfl rfl rfl ?_
  refine r_load (i := 12) (u := 0) (w := 2) rfl rfl rfl ?_
  have h20 : S15.f 43 52 = ysg ((S3.f 43 52) + (on - off)) := by rw [← hS17]; exact ysf_eq
  refine r_getf (i := 13) (v := 52) (w := 11) (x := vi (S15.f 43 52)) rfl ly43 rfl rfl fun h21 => ?_
  have h21 : Rg (S15.f 43 52) := h21
  refine r_load (i := 14) (u := 0) (w := 2) rfl rfl rfl ?_
  have h22 := hI16.f tf43_53
  have h23 : S15.f 43 53 = S3.f 43 53 := by rw [← hS17]; exact ysf_ne (by decide)
  have h24 : S3.f 43 53 = S.f 43 53 := hF8.f rfl
  refine r_getf (i := 15) (v := 53) (w := 11) (x := vi (S15.f 43 53)) rfl ly43 rfl rfl fun h25 => ?_
  have h25 : Rg (S15.f 43 53) := h25
  refine c_le (i := 16) (v := 20) rfl ⟨by omega, by omega⟩ ⟨by omega, by omega⟩ (fun h26 => ?_) (fun h27 => ?_)
  · refine r_load (i := 20) (u := 0) (w := 2) rfl rfl rfl ?_
    refine r_getf (i := 21) (v := 53) (w := 11) (x := vi (S15.f 43 53)) rfl ly43 rfl rfl fun h28 => ?_
    have h28 : Rg (S15.f 43 53) := h28
    have h29 := hI16.f tf43_43
    have h30 : S15.f 43 43 = S3.f 43 43 := by rw [← hS17]; exact ysf_ne (by decide)
    exact lp250_22 h_b0 h_off h_on p_0 hd S15 hI16 hF18 hR19 (S15.f 43 53) ⟨by omega, by omega⟩ (by omega) 
  · refine r_load (i := 17) (u := 0) (w := 2) rfl rfl rfl ?_
    refine r_getf (i := 18) (v := 52) (w := 11) (x := vi (S15.f 43 52)) rfl ly43 rfl rfl fun h31 => ?_
    have h31 : Rg (S15.f 43 52) := h31
    refine r_goto (i := 19) (v := 22) rfl ?_
    have h32 := hI16.f tf43_43
    have h33 : S15.f 43 43 = S3.f 43 43 := by rw [← hS17]; exact ysf_ne (by decide)
    exact lp250_22 h_b0 h_off h_on p_0 hd S15 hI16 hF18 hR19 (S15.f 43 52) ⟨by omega, by omega⟩ (by omega) 
theorem lp214_15 {G : xk} {d : Nat} {S0 : yS} {k : Int} (h_k : 0 ≤ k ∧ k ≤ 31) {l0 : Int} (h_l0 : 0 ≤ l0 ∧ l0 ≤ 30) (p_0 : S0.f 43 43 ≤ 23960) (hd : 2 ≤ d + 1) : ∀ (S : yS) (hI : yI S) (hF : yFr [(43, 43), (43, 52), (43, 53)] [72] S0 S) (hR : yRm [] S0 S) (c0 : Int) (h_c0 : 0 ≤ c0 ∧ c0 ≤ 255) (q_0 : S.f 43 43 = S0.f 43 43), yT xPr G LY xC214 15 [some ((2, 43)), some (vi k), some (vi l0)] [vi c0, (2, 43)] S (d + 1) (fun r S' => r = (0, (0, 0)) ∧ S0.f 43 43 + 2 ≤ S'.f 43 43 ∧ S'.f 43 43 ≤ S0.f 43 43 + 2 ∧ yI S' ∧ yFr [(43, 43), (43, 52), (43, 53)] [72] S0 S' ∧ yRm [] S0 S') := by
  intro S hI hF hR c0 h_c0 q_0
  have h1 := hI.f tf43_43
  refine r_const (i := 15) (u := 0) (z := 0) rfl rfl ?_
  refine r_load (i := 16) (u := 1) (w := 0) rfl rfl rfl ?_
  refine r_call (i := 17) (u := 65535) (v := 262) (w := 0) (b := 2) (na := 257) (C2 := xC262) (as := [vi k]) (s := [vi 0, vi c0, (2, 43)]) rfl rfl rfl rfl rfl rfl rfl (sp262 (k := k) hI ⟨by omega, by omega⟩   (by omega)) (fun r2 S3 hq4 => ?_)
  obtain ⟨z5, rfl, h6, h7, rfl⟩ := hq4
  refine Or.inr (Or.inl ⟨rfl, ?_⟩)
  refine r_call (i := 18) (u := 11) (v := 250) (w := 0) (b := 0) (na := 1028) (C2 := xC250) (as := [(2, 43), vi c0, vi 0, vi z5]) (s := []) rfl rfl rfl rfl rfl rfl rfl (sp250 (b0 := c0) (off := 0) (on := z5) hI ⟨by omega, by omega⟩ ⟨by omega, by omega⟩ ⟨by omega, by omega⟩ (by omega)  (by omega)) (fun r8 S9 hq10 => ?_)
  obtain ⟨rfl, h11, h12, hI13, hF14, hR15⟩ := hq10
  have hF16 := hF.trans hF14 rfl rfl
  have hR17 := hR.trans hR15 rfl
  refine Or.inl ⟨rfl, ?_⟩
  refine r_load (i := 19) (u := 0) (w := 2) rfl rfl rfl ?_
  refine r_load (i := 20) (u := 2) (w := 0) rfl rfl rfl ?_
  have h18 := hI13.f tf43_43
  refine r_call (i := 21) (u := 11) (v := 224) (w := 0) (b := 0) (na := 514) (C2 := xC224) (as := [(2, 43), vi l0]) (s := []) rfl rfl rfl rfl rfl rfl rfl (sp224 (v := l0) hI13 ⟨by omega, by omega⟩ (by omega)  (by omega)) (fun r19 S20 hq21 => ?_)
  obtain ⟨rfl, h22, h23, hI24, hF25, hR26⟩ := hq21
  have hF27 := hF16.trans hF25 rfl rfl
  have hR28 := hR17.trans hR26 rfl
  refine Or.inl ⟨rfl, ?_⟩
  have h29 := hI24.f tf43_43
  exact r_ret0 (i := 22) rfl ⟨rfl, (by omega), (by omega), hI24, hF27, hR28⟩
/-- ProxyForgeModel.load -/
theorem sp214 {G : xk} {S : yS} {d : Nat} (hI : yI S) {k : Int} (h_k : 0 ≤ k ∧ k ≤ 31) {l0 : Int} (h_l0 : 0 ≤ l0 ∧ l0 ≤ 30) (p_0 : S.f 43 43 ≤ 23960) (hd : 2 ≤ d) : yT xPr G LY xC214 0 [some ((2, 43)), some (vi k), some (vi l0)] [] S d (fun r S' => r = (0, (0, 0)) ∧ S.f 43 43 + 2 ≤ S'.f 43 43 ∧ S'.f 43 43 ≤ S.f 43 43 + 2 ∧ yI S' ∧ yFr [(43, 43), (43, 52), (43, 53)] [72] S S' ∧ yRm [] S S') := by
  refine yT_pad 0 ?_
  show yT xPr G LY xC214 0 [some ((2, 43)), some (vi k), some (vi l0)] [] S d _
  obtain ⟨d, rfl⟩ : ∃ q, d = q + 1 := ⟨d - 1, by omega⟩
  have hF : yFr [(43, 43), (43, 52), (43, 53)] [72] S S := yFr.refl S
  have hR : yRm [] S S := yRm.refl S
  have h1 := hI.f tf43_43
  refine r_load (i := 0) (u := 0) (w := 2) rfl rfl rfl ?_
  refine r_load (i := 1) (u := 1) (w := 0) rfl rfl rfl ?_
  refine r_const (i := 2) (u := 1) (z := 1) rfl rfl ?_
  refine c_eq (i := 3) (v := 7) rfl ⟨by omega, by omega⟩ ⟨by omega, by omega⟩ (fun h2 => ?_) (fun h3 => ?_)
  · refine r_const (i := 7) (u := 21) (z := 21) rfl rfl ?_
    refine r_goto (i := 8) (v := 15) rfl ?_
    exact lp214_15 h_k h_l0 p_0 hd S hI hF hR 21 ⟨by omega, by omega⟩ (by omega) 
  · refine r_load (i := 4) (u := 1) (w := 0) rfl rfl rfl ?_
    refine r_const (i := 5) (u := 3) (z := 3) rfl rfl ?_
    refine c_ne (i := 6) (v := 9) rfl ⟨by omega, by omega⟩ ⟨by omega, by omega⟩ (fun h4 => ?_) (fun h5 => ?_)
    · refine r_load (i := 9) (u := 1) (w := 0) rfl rfl rfl ?_
      refine r_const (i := 10) (u := 2) (z := 2) rfl rfl ?_
      refine c_ne (i := 11) (v := 14) rfl ⟨by omega, by omega⟩ ⟨by omega, by omega⟩ (fun h6 => ?_) (fun h7 => ?_)
      · refine r_const (i := 14) (u := 25) (z := 25) rfl rfl ?_
        exact lp214_15 h_k h_l0 p_0 hd S hI hF hR 25 ⟨by omega, by omega⟩ (by omega) 
      · refine r_const (i := 12) (u := 22) (z := 22) rfl rfl ?_
        refine r_goto (i := 13) (v := 15) rfl ?_
        exact lp214_15 h_k h_l0 p_0 hd S hI hF hR 22 ⟨by omega, by omega⟩ (by omega) 
    · refine r_const (i := 7) (u := 21) (z := 21) rfl rfl ?_
      refine r_goto (i := 8) (v := 15) rfl ?_
      exact lp214_15 h_k h_l0 p_0 hd S hI hF hR 21 ⟨by omega, by omega⟩ (by omega) 
/-- ProxyForgeModel.push -/
theorem sp234 {G : xk} {S : yS} {d : Nat} (hI : yI S) {n1 : Int} (h_n1 : 0 ≤ n1 ∧ n1 ≤ 23) (p_0 : S.f 43 43 ≤ 23960) (hd : 2 ≤ d) : yT xPr G LY xC234 0 [some ((2, 43)), some (vi n1)] [] S d (fun r S' => r = (0, (0, 0)) ∧ S.f 43 43 + 1 ≤ S'.f 43 43 ∧ S'.f 43 43 ≤ S.f 43 43 + 2 ∧ (n1 ≤ 5 → S'.f 43 43 ≤ S.f 43 43 + 1) ∧ yI S' ∧ yFr [(43, 43), (43, 52), (43, 53)] [72] S S' ∧ yRm [] S S') := by
  refine yT_pad 0 ?_
  show yT xPr G LY xC234 0 [some ((2, 43)), some (vi n1)] [] S d _
  obtain ⟨d, rfl⟩ : ∃ q, d = q + 1 := ⟨d - 1, by omega⟩
  have hF : yFr [(43, 43), (43, 52), (43, 53)] [72] S S := yFr.refl S
  have hR : yRm [] S S := yRm.refl S
  have h1 := hI.f tf43_43
  refine r_load (i := 0) (u := 0) (w := 2) rfl rfl rfl ?_
  refine r_load (i := 1) (u := 1) (w := 0) rfl rfl rfl ?_
  refine r_const (i := 2) (u := 6) (z := 6) rfl rfl ?_
  refine c_ge (i := 3) (v := 8) rfl ⟨by omega, by omega⟩ ⟨by omega, by omega⟩ (fun h2 => ?_) (fun h3 => ?_)
  · refine r_const (i := 8) (u := 16) (z := 16) rfl rfl ?_
    refine r_const (i := 9) (u := 0) (z := 0) rfl rfl ?_
    refine r_const (i := 10) (u := 1) (z := 1) rfl rfl ?_
    refine r_call (i := 11) (u := 11) (v := 250) (w := 0) (b := 0) (na := 1028) (C2 := xC250) (as := [(2, 43), vi 16, vi 0, vi 1]) (s := []) rfl rfl rfl rfl rfl rfl rfl (sp250 (b0 := 16) (off := 0) (on := 1) hI ⟨by omega, by omega⟩ ⟨by omega, by omega⟩ ⟨by omega, by omega⟩ (by omega)  (by omega)) (fun r4 S5 hq6 => ?_)
    obtain ⟨rfl, h7, h8, hI9, hF10, hR11⟩ := hq6
    have hF12 := hF.trans hF10 rfl rfl
    have hR13 := hR.trans hR11 rfl
    refine Or.inl ⟨rfl, ?_⟩
    refine r_load (i := 12) (u := 1) (w := 0) rfl rfl rfl ?_
    refine r_const (i := 13) (u := 5) (z := 5) rfl rfl ?_
    refine c_le (i := 14) (v := 18) rfl ⟨by omega, by omega⟩ ⟨by omega, by omega⟩ (fun h14 => absurd h14 (by omega)) (fun h15 => ?_)
    refine r_load (i := 15) (u := 0) (w := 2) rfl rfl rfl ?_
    refine r_load (i := 16) (u := 1) (w := 0) rfl rfl rfl ?_
    have h16 := hI9.f tf43_43
    refine r_call (i := 17) (u := 11) (v := 224) (w := 0) (b := 0) (na := 514) (C2 := xC224) (as := [(2, 43), vi n1]) (s := []) rfl rfl rfl rfl rfl rfl rfl (sp224 (v := n1) hI9 ⟨by omega, by omega⟩ (by omega)  (by omega)) (fun r17 S18 hq19 => ?_)
    obtain ⟨rfl, h20, h21, hI22, hF23, hR24⟩ := hq19
    have hF25 := hF12.trans hF23 rfl rfl
    have hR26 := hR13.trans hR24 rfl
    refine Or.inl ⟨rfl, ?_⟩
    have h27 := hI22.f tf43_43
    exact r_ret0 (i := 18) rfl ⟨rfl, (by omega), (by omega), (by omega), hI22, hF25, hR26⟩
  · refine r_const (i := 4) (u := 3) (z := 3) rfl rfl ?_
    refine r_load (i := 5) (u := 1) (w := 0) rfl rfl rfl ?_
    refine r_iadd (i := 6) rfl ?_
    refine r_goto (i := 7) (v := 9) rfl ?_
    refine r_const (i := 9) (u := 0) (z := 0) rfl rfl ?_
    refine r_const (i := 10) (u := 1) (z := 1) rfl rfl ?_
    refine r_call (i := 11) (u := 11) (v := 250) (w := 0) (b := 0) (na := 1028) (C2 := xC250) (as := [(2, 43), vi (3 + n1), vi 0, vi 1]) (s := []) rfl rfl rfl rfl rfl rfl rfl (sp250 (b0 := 3 + n1) (off := 0) (on := 1) hI ⟨by omega, by omega⟩ ⟨by omega, by omega⟩ ⟨by omega, by omega⟩ (by omega)  (by omega)) (fun r28 S29 hq30 => ?_)
    obtain ⟨rfl, h31, h32, hI33, hF34, hR35⟩ := hq30
    have hF36 := hF.trans hF34 rfl rfl
    have hR37 := hR.trans hR35 rfl
    refine Or.inl ⟨rfl, ?_⟩
    refine r_load (i := 12) (u := 1) (w := 0) rfl rfl rfl ?_
    refine r_const (i := 13) (u := 5) (z := 5) rfl rfl ?_
    refine c_le (i := 14) (v := 18) rfl ⟨by omega, by omega⟩ ⟨by omega, by omega⟩ (fun h38 => ?_) (fun h39 => absurd h39 (by omega))
    have h40 := hI33.f tf43_43
    exact r_ret0 (i := 18) rfl ⟨rfl, (by omega), (by omega), (by omega), hI33, hF36, hR37⟩
theorem lp240_19 {G : xk} {d : Nat} {S0 : yS} {k : Int} (h_k : 0 ≤ k ∧ k ≤ 23) (p_0 : S0.f 43 43 ≤ 23960) (hd : 2 ≤ d + 1) : ∀ (S : yS) (hI : yI S) (hF : yFr [(43, 43), (43, 52), (43, 53)] [72] S0 S) (hR : yRm [] S0 S) (c0 : Int) (h_c0 : 0 ≤ c0 ∧ c0 ≤ 255) (q_0 : S.f 43 43 = S0.f 43 43), yT xPr G LY xC240 19 [some ((2, 43)), some (vi k)] [vi c0, (2, 43)] S (d + 1) (fun r S' => r = (0, (0, 0)) ∧ S0.f 43 43 + 1 ≤ S'.f 43 43 ∧ S'.f 43 43 ≤ S0.f 43 43 + 1 ∧ yI S' ∧ yFr [(43, 43), (43, 52), (43, 53)] [72] S0 S' ∧ yRm [] S0 S') := by
  intro S hI hF hR c0 h_c0 q_0
  have h1 := hI.f tf43_43
  refine r_load (i := 19) (u := 1) (w := 0) rfl rfl rfl ?_
  refine r_call (i := 20) (u := 65535) (v := 262) (w := 0) (b := 2) (na := 257) (C2 := xC262) (as := [vi k]) (s := [vi c0, (2, 43)]) rfl rfl rfl rfl rfl rfl rfl (sp262 (k := k) hI ⟨by omega, by omega⟩   (by omega)) (fun r2 S3 hq4 => ?_)
  obtain ⟨z5, rfl, h6, h7, rfl⟩ := hq4
  refine Or.inr (Or.inl ⟨rfl, ?_⟩)
  refine r_const (i := 21) (u := 0) (z := 0) rfl rfl ?_
  refine r_call (i := 22) (u := 11) (v := 250) (w := 0) (b := 0) (na := 1028) (C2 := xC250) (as := [(2, 43), vi c0, vi z5, vi 0]) (s := []) rfl rfl rfl rfl rfl rfl rfl (sp250 (b0 := c0) (off := z5) (on := 0) hI ⟨by omega, by omega⟩ ⟨by omega, by omega⟩ ⟨by omega, by omega⟩ (by omega)  (by omega)) (fun r8 S9 hq10 => ?_)
  obtain ⟨rfl, h11, h12, hI13, hF14, hR15⟩ := hq10
  have hF16 := hF.trans hF14 rfl rfl
  have hR17 := hR.trans hR15 rfl
  refine Or.inl ⟨rfl, ?_⟩
  have h18 := hI13.f tf43_43
  exact r_ret0 (i := 23) rfl ⟨rfl, (by omega), (by omega), hI13, hF16, hR17⟩
/-- ProxyForgeModel.returns -/
theorem sp240 {G : xk} {S : yS} {d : Nat} (hI : yI S) {k : Int} (h_k : 0 ≤ k ∧ k ≤ 23) (p_0 : S.f 43 43 ≤ 23960) (hd : 2 ≤ d) : yT xPr G LY xC240 0 [some ((2, 43)), some (vi k)] [] S d (fun r S' => r = (0, (0, 0)) ∧ S.f 43 43 + 1 ≤ S'.f 43 43 ∧ S'.f 43 43 ≤ S.f 43 43 + 1 ∧ yI S' ∧ yFr [(43, 43), (43, 52), (43, 53)] [72] S S' ∧ yRm [] S S') := by
  refine yT_pad 0 ?_
  show yT xPr G LY xC240 0 [some ((2, 43)), some (vi k)] [] S d _
  obtain ⟨d, rfl⟩ : ∃ q, d = q + 1 := ⟨d - 1, by omega⟩
  have hF : yFr [(43, 43), (43, 52), (43, 53)] [72] S S := yFr.refl S
  have hR : yRm [] S S := yRm.refl S
  have h1 := hI.f tf43_43
  refine r_load (i := 0) (u := 0) (w := 2) rfl rfl rfl ?_
  refine r_load (i := 1) (u := 1) (w := 0) rfl rfl rfl ?_
  refine z_ne (i := 2) (v := 5) rfl ⟨by omega, by omega⟩ (fun h2 => ?_) (fun h3 => ?_)
  · refine r_load (i := 5) (u := 1) (w := 0) rfl rfl rfl ?_
    refine r_const (i := 6) (u := 1) (z := 1) rfl rfl ?_
    refine c_eq (i := 7) (v := 11) rfl ⟨by omega, by omega⟩ ⟨by omega, by omega⟩ (fun h4 => ?_) (fun h5 => ?_)
    · refine r_const (i := 11) (u := 172) (z := 172) rfl rfl ?_
      refine r_goto (i := 12) (v := 19) rfl ?_
      exact lp240_19 h_k p_0 hd S hI hF hR 172 ⟨by omega, by omega⟩ (by omega) 
    · refine r_load (i := 8) (u := 1) (w := 0) rfl rfl rfl ?_
      refine r_const (i := 9) (u := 3) (z := 3) rfl rfl ?_
      refine c_ne (i := 10) (v := 13) rfl ⟨by omega, by omega⟩ ⟨by omega, by omega⟩ (fun h6 => ?_) (fun h7 => ?_)
      · refine r_load (i := 13) (u := 1) (w := 0) rfl rfl rfl ?_
        refine r_const (i := 14) (u := 2) (z := 2) rfl rfl ?_
        refine c_ne (i := 15) (v := 18) rfl ⟨by omega, by omega⟩ ⟨by omega, by omega⟩ (fun h8 => ?_) (fun h9 => ?_)
        · refine r_const (i := 18) (u := 176) (z := 176) rfl rfl ?_
          exact lp240_19 h_k p_0 hd S hI hF hR 176 ⟨by omega, by omega⟩ (by omega) 
        · refine r_const (i := 16) (u := 173) (z := 173) rfl rfl ?_
          refine r_goto (i := 17) (v := 19) rfl ?_
          exact lp240_19 h_k p_0 hd S hI hF hR 173 ⟨by omega, by omega⟩ (by omega) 
      · refine r_const (i := 11) (u := 172) (z := 172) rfl rfl ?_
        refine r_goto (i := 12) (v := 19) rfl ?_
        exact lp240_19 h_k p_0 hd S hI hF hR 172 ⟨by omega, by omega⟩ (by omega) 
  · refine r_const (i := 3) (u := 177) (z := 177) rfl rfl ?_
    refine r_goto (i := 4) (v := 19) rfl ?_
    exact lp240_19 h_k p_0 hd S hI hF hR 177 ⟨by omega, by omega⟩ (by omega) 
theorem lp215_4 {G : xk} {d : Nat} {S0 : yS} {m : Int} (h_m : 0 ≤ m ∧ m ≤ 59) {fr : Int} (h_fr : 0 ≤ fr ∧ fr ≤ 2) (p_0 : S0.f 43 43 ≤ 23900) (hd : 3 ≤ d + 1) : ∀ (n : Nat), ∀ (S : yS) (hI : yI S) (hF : yFr [(43, 43), (43, 52), (43, 53)] [72] S0 S) (hR : yRm [] S0 S) (lc k : Int) (h_lc : 0 ≤ lc ∧ lc ≤ 12) (h_k : 0 ≤ k ∧ k ≤ 4) (q_0 : S0.f 43 43 ≤ S.f 43 43 ∧ S.f 43 43 ≤ S0.f 43 43 + 2 * k) (q_1 : lc ≤ fr + 2 * k) (q_2 : S0.f 43 43 ≤ 23900) (hn : 4 - k < (n : Nat)), yT xPr G LY xC215 4 [some ((2, 43)), some (vi m), some (vi fr), some (vi lc), some (vi k)] [] S (d + 1) (fun r S' => r = (0, (0, 0)) ∧ S0.f 43 43 ≤ S'.f 43 43 ∧ S'.f 43 43 ≤ S0.f 43 43 + 8 ∧ yI S' ∧ yFr [(43, 43), (43, 52), (43, 53)] [72] S0 S' ∧ yRm [] S0 S') := by
  intro n
  induction n with
  | zero => intro S hI hF hR lc k h_lc h_k q_0 q_1 q_2 hn; exact absurd hn (by omega)
  | succ n ih =>
    intro S hI hF hR lc k h_lc h_k q_0 q_1 q_2 hn
    have h1 := hI.f tf43_43
    refine r_load (i := 4) (u := 4) (w := 0) rfl rfl rfl ?_
    refine r_load (i := 5) (u := 0) (w := 2) rfl rfl rfl ?_
    refine r_getf (i := 6) (v := 14) (w := 11) (x := (2, 55)) rfl ly43 rfl rfl fun _ => ?_
    refine r_load (i := 7) (u := 1) (w := 0) rfl rfl rfl ?_
    refine a_int (i := 8) rfl ly55 rfl (by omega) (by omega) fun h3 => ?_
    have h4 := hI.a ta55 m.toNat
    have kp5 := hI.k55 m.toNat
    have h6 : S.a 55 m.toNat = S0.a 55 m.toNat := hF.a rfl _
    refine r_call (i := 9) (u := 65535) (v := 216) (w := 0) (b := 2) (na := 513) (C2 := xC216) (as := [vi (S.a 55 m.toNat)]) (s := [vi k]) rfl rfl rfl rfl rfl rfl rfl (sp216 (a := S.a 55 m.toNat) hI ⟨by omega, by omega⟩   (by omega)) (fun r7 S8 hq9 => ?_)
    obtain ⟨z10, rfl, h11, h12, hmn13, rfl⟩ := hq9
    refine Or.inr (Or.inl ⟨rfl, ?_⟩)
    refine c_ge (i := 10) (v := 32) rfl ⟨by omega, by omega⟩ ⟨by omega, by omega⟩ (fun h14 => ?_) (fun h15 => ?_)
    · exact r_ret0 (i := 32) rfl ⟨rfl, (by omega), (by omega), hI, hF, hR⟩
    · refine r_load (i := 11) (u := 0) (w := 2) rfl rfl rfl ?_
      refine r_load (i := 12) (u := 0) (w := 2) rfl rfl rfl ?_
      refine r_getf (i := 13) (v := 14) (w := 11) (x := (2, 55)) rfl ly43 rfl rfl fun _ => ?_
      refine r_load (i := 14) (u := 1) (w := 0) rfl rfl rfl ?_
      refine a_int (i := 15) rfl ly55 rfl (by omega) (by omega) fun h17 => ?_
      have h18 := hI.a ta55 m.toNat
      have kp19 := hI.k55 m.toNat
      refine r_load (i := 16) (u := 4) (w := 0) rfl rfl rfl ?_
      refine r_call (i := 17) (u := 65535) (v := 229) (w := 0) (b := 2) (na := 514) (C2 := xC229) (as := [vi (S.a 55 m.toNat), vi k]) (s := [(2, 43)]) rfl rfl rfl rfl rfl rfl rfl (sp229 (a := S.a 55 m.toNat) (k := k) hI ⟨by omega, by omega⟩ ⟨by omega, by omega⟩   (by omega)) (fun r20 S21 hq22 => ?_)
      obtain ⟨z23, rfl, h24, h25, h26, rfl⟩ := hq22
      refine Or.inr (Or.inl ⟨rfl, ?_⟩)
      refine r_load (i := 18) (u := 3) (w := 0) rfl rfl rfl ?_
      refine r_call (i := 19) (u := 11) (v := 214) (w := 0) (b := 0) (na := 771) (C2 := xC214) (as := [(2, 43), vi z23, vi lc]) (s := []) rfl rfl rfl rfl rfl rfl rfl (sp214 (k := z23) (l0 := lc) hI ⟨by omega, by omega⟩ ⟨by omega, by omega⟩ (by omega)  (by omega)) (fun r27 S28 hq29 => ?_)
      obtain ⟨rfl, h30, h31, hI32, hF33, hR34⟩ := hq29
      have hF35 := hF.trans hF33 rfl rfl
      have hR36 := hR.trans hR34 rfl
      refine Or.inl ⟨rfl, ?_⟩
      refine r_load (i := 20) (u := 3) (w := 0) rfl rfl rfl ?_
      refine r_load (i := 21) (u := 0) (w := 2) rfl rfl rfl ?_
      refine r_getf (i := 22) (v := 14) (w := 11) (x := (2, 55)) rfl ly43 rfl rfl fun _ => ?_
      refine r_load (i := 23) (u := 1) (w := 0) rfl rfl rfl ?_
      refine a_int (i := 24) rfl ly55 rfl (by omega) (by omega) fun h38 => ?_
      have h39 := hI32.a ta55 m.toNat
      have kp40 := hI32.k55 m.toNat
      have h41 : S28.a 55 m.toNat = S0.a 55 m.toNat := hF35.a rfl _
      refine r_load (i := 25) (u := 4) (w := 0) rfl rfl rfl ?_
      refine r_call (i := 26) (u := 65535) (v := 229) (w := 0) (b := 2) (na := 514) (C2 := xC229) (as := [vi (S28.a 55 m.toNat), vi k]) (s := [vi lc]) rfl rfl rfl rfl rfl rfl rfl (sp229 (a := S28.a 55 m.toNat) (k := k) hI32 ⟨by omega, by omega⟩ ⟨by omega, by omega⟩   (by omega)) (fun r42 S43 hq44 => ?_)
      obtain ⟨z45, rfl, h46, h47, h48, rfl⟩ := hq44
      refine Or.inr (Or.inl ⟨rfl, ?_⟩)
      refine r_call (i := 27) (u := 65535) (v := 262) (w := 0) (b := 2) (na := 257) (C2 := xC262) (as := [vi z45]) (s := [vi lc]) rfl rfl rfl rfl rfl rfl rfl (sp262 (k := z45) hI32 ⟨by omega, by omega⟩   (by omega)) (fun r49 S50 hq51 => ?_)
      obtain ⟨z52, rfl, h53, h54, rfl⟩ := hq51
      refine Or.inr (Or.inl ⟨rfl, ?_⟩)
      refine r_iadd (i := 28) rfl ?_
      refine r_store (i := 29) (u := 3) (w := 0) (L1 := [some ((2, 43)), some (vi m), some (vi fr), some (vi (lc + z52)), some (vi k)]) rfl rfl rfl rfl ?_
      refine r_iinc (i := 30) (u := 1) (v := 4) (s := 1) (L1 := [some ((2, 43)), some (vi m), some (vi fr), some (vi (lc + z52)), some (vi (k + 1))]) rfl rfl rfl rfl rfl ?_
      refine r_goto (i := 31) (v := 4) rfl ?_
      have h55 := hI32.f tf43_43
      exact ih S28 hI32 hF35 hR36 (lc + z52) (k + 1) ⟨by omega, by omega⟩ ⟨by omega, by omega⟩ (by omega) (by omega) (by omega) (by omega)
/-- ProxyForgeModel.loadAll -/
theorem sp215 {G : xk} {S : yS} {d : Nat} (hI : yI S) {m : Int} (h_m : 0 ≤ m ∧ m ≤ 59) {fr : Int} (h_fr : 0 ≤ fr ∧ fr ≤ 2) (p_0 : S.f 43 43 ≤ 23900) (hd : 3 ≤ d) : yT xPr G LY xC215 0 [some ((2, 43)), some (vi m), some (vi fr)] [] S d (fun r S' => r = (0, (0, 0)) ∧ S.f 43 43 ≤ S'.f 43 43 ∧ S'.f 43 43 ≤ S.f 43 43 + 8 ∧ yI S' ∧ yFr [(43, 43), (43, 52), (43, 53)] [72] S S' ∧ yRm [] S S') := by
  refine yT_pad 2 ?_
  show yT xPr G LY xC215 0 [some ((2, 43)), some (vi m), some (vi fr), none, none] [] S d _
  obtain ⟨d, rfl⟩ : ∃ q, d = q + 1 := ⟨d - 1, by omega⟩
  have hF : yFr [(43, 43), (43, 52), (43, 53)] [72] S S := yFr.refl S
  have hR : yRm [] S S := yRm.refl S
  have h1 := hI.f tf43_43
  refine r_load (i := 0) (u := 2) (w := 0) rfl rfl rfl ?_
  refine r_store (i := 1) (u := 3) (w := 0) (L1 := [some ((2, 43)), some (vi m), some (vi fr), some (vi fr), none]) rfl rfl rfl rfl ?_
  refine r_const (i := 2) (u := 0) (z := 0) rfl rfl ?_
  refine r_store (i := 3) (u := 4) (w := 0) (L1 := [some ((2, 43)), some (vi m), some (vi fr), some (vi fr), some (vi 0)]) rfl rfl rfl rfl ?_
  exact lp215_4 h_m h_fr p_0 hd _ S hI hF hR fr 0 ⟨by omega, by omega⟩ ⟨by omega, by omega⟩ (by omega) (by omega) (by omega) (Int.lt_succ_toNat _)
/-- ProxyForgeModel.cast -/
theorem sp190 {G : xk} {S : yS} {d : Nat} (hI : yI S) {t : Int} (h_t : 0 ≤ t ∧ t ≤ 19) (p_0 : S.f 43 43 ≤ 23950) (p_1 : S.f 43 51 = 0) (p_2 : wphi S ≤ 19990) (p_3 : wpsi S ≤ 1140) (e_wLV : wLV S) (hd : 7 ≤ d) : yT xPr G LY xC190 0 [some ((2, 43)), some (vi t)] [] S d (fun r S' => r = (0, (0, 0)) ∧ S.f 43 43 ≤ S'.f 43 43 ∧ S'.f 43 43 ≤ S.f 43 43 + 3 ∧ S'.f 43 51 = 0 ∧ wphi S' ≤ wphi S ∧ wpsi S' ≤ wpsi S ∧ wLV S' ∧ yI S' ∧ yFr [(43, 43), (43, 49), (43, 50), (43, 51), (43, 52), (43, 53)] [72, 73, 74, 75, 76, 77] S S' ∧ yRm [] S S') := by
  refine yT_pad 0 ?_
  show yT xPr G LY xC190 0 [some ((2, 43)), some (vi t)] [] S d _
  obtain ⟨d, rfl⟩ : ∃ q, d = q + 1 := ⟨d - 1, by omega⟩
  have hF : yFr [(43, 43), (43, 49), (43, 50), (43, 51), (43, 52), (43, 53)] [72, 73, 74, 75, 76, 77] S S := yFr.refl S
  have hR : yRm [] S S := yRm.refl S
  have h1 := hI.f tf43_43
  have h2 := hI.f tf43_51
  refine r_load (i := 0) (u := 1) (w := 0) rfl rfl rfl ?_
  refine z_ne (i := 1) (v := 3) rfl ⟨by omega, by omega⟩ (fun h3 => ?_) (fun h4 => ?_)
  · refine r_load (i := 3) (u := 0) (w := 2) rfl rfl rfl ?_
    refine r_const (i := 4) (u := 192) (z := 192) rfl rfl ?_
    refine r_const (i := 5) (u := 1) (z := 1) rfl rfl ?_
    refine r_const (i := 6) (u := 1) (z := 1) rfl rfl ?_
    refine r_call (i := 7) (u := 11) (v := 250) (w := 0) (b := 0) (na := 1028) (C2 := xC250) (as := [(2, 43), vi 192, vi 1, vi 1]) (s := []) rfl rfl rfl rfl rfl rfl rfl (sp250 (b0 := 192) (off := 1) (on := 1) hI ⟨by omega, by omega⟩ ⟨by omega, by omega⟩ ⟨by omega, by omega⟩ (by omega)  (by omega)) (fun r5 S6 hq7 => ?_)
    obtain ⟨rfl, h8, h9, hI10, hF11, hR12⟩ := hq7
    have hF13 := hF.trans hF11 rfl rfl
    have hR14 := hR.trans hR12 rfl
    have e15 := wLVx.fr e_wLV hF11 rfl rfl
    refine Or.inl ⟨rfl, ?_⟩
    refine r_load (i := 8) (u := 0) (w := 2) rfl rfl rfl ?_
    refine r_load (i := 9) (u := 0) (w := 2) rfl rfl rfl ?_
    refine r_load (i := 10) (u := 1) (w := 0) rfl rfl rfl ?_
    have h16 := hI10.f tf43_51
    have h17 : S6.f 43 51 = S.f 43 51 := hF11.f rfl
    have h18 : wphi S6 = wphi S := wphiX.fr hF11 rfl rfl
    have h19 : wpsi S6 = wpsi S := wpsiX.fr hF11 rfl rfl
    refine r_call (i := 11) (u := 11) (v := 193) (w := 0) (b := 0) (na := 514) (C2 := xC193) (as := [(2, 43), vi t]) (s := [(2, 43)]) rfl rfl rfl rfl rfl rfl rfl (sp193 (t := t) hI10 ⟨by omega, by omega⟩ (by omega) (by omega) (by omega) e15 (by omega)) (fun r20 S21 hq22 => ?_)
    obtain ⟨z23, rfl, h24, h25, h26, h27, h28, e29, hI30, hF31, hR32⟩ := hq22
    have hF33 := hF13.trans hF31 rfl rfl
    have hR34 := hR14.trans hR32 rfl
    refine Or.inr (Or.inl ⟨rfl, ?_⟩)
    have h35 := hI30.f tf43_43
    have h36 : S21.f 43 43 = S6.f 43 43 := hF31.f rfl
    refine r_call (i := 12) (u := 11) (v := 257) (w := 0) (b := 0) (na := 514) (C2 := xC257) (as := [(2, 43), vi z23]) (s := []) rfl rfl rfl rfl rfl rfl rfl (sp257 (v := z23) hI30 ⟨by omega, by omega⟩ (by omega)  (by omega)) (fun r37 S38 hq39 => ?_)
    obtain ⟨rfl, h40, h41, hI42, hF43, hR44⟩ := hq39
    have hF45 := hF33.trans hF43 rfl rfl
    have hR46 := hR34.trans hR44 rfl
    have e47 := wLVx.fr e29 hF43 rfl rfl
    refine Or.inl ⟨rfl, ?_⟩
    have h48 := hI42.f tf43_43
    have h49 := hI42.f tf43_51
    have h50 : S38.f 43 51 = S21.f 43 51 := hF43.f rfl
    have h51 : wphi S38 = wphi S21 := wphiX.fr hF43 rfl rfl
    have h52 : wpsi S38 = wpsi S21 := wpsiX.fr hF43 rfl rfl
    exact r_ret0 (i := 13) rfl ⟨rfl, (by omega), (by omega), (by omega), (by omega), (by omega), e47, hI42, hF45, hR46⟩
  · exact r_ret0 (i := 2) rfl ⟨rfl, (by omega), (by omega), (by omega), (by omega), (by omega), e_wLV, hI, hF, hR⟩
theorem lp259_75 {G : xk} {d : Nat} {S0 : yS} {k : Int} (h_k : 0 ≤ k ∧ k ≤ 23) (p_0 : S0.f 43 43 ≤ 23900) (p_1 : S0.f 43 51 = 0) (p_2 : wphi S0 ≤ 19950) (p_3 : wpsi S0 ≤ 1120) (hd : 8 ≤ d + 1) : ∀ (S : yS) (hI : yI S) (hF : yFr [(43, 43), (43, 49), (43, 50), (43, 51), (43, 52), (43, 53)] [72, 73, 74, 75, 76, 77] S0 S) (hR : yRm [] S0 S) (e_wLV : wLV S)  (q_0 : S0.f 43 43 ≤ S.f 43 43 ∧ S.f 43 43 ≤ S0.f 43 43 + 6) (q_1 : S.f 43 51 = 0) (q_2 : wphi S ≤ wphi S0 + 10) (q_3 : wpsi S ≤ wpsi S0 + 2) (q_4 : S0.f 43 43 ≤ 23900), yT xPr G LY xC259 75 [some ((2, 43)), some (vi k), none] [] S (d + 1) (fun r S' => r = (0, (0, 0)) ∧ S0.f 43 43 + 1 ≤ S'.f 43 43 ∧ S'.f 43 43 ≤ S0.f 43 43 + 7 ∧ S'.f 43 51 = 0 ∧ wphi S' ≤ wphi S0 + 10 ∧ wpsi S' ≤ wpsi S0 + 2 ∧ wLV S' ∧ yI S' ∧ yFr [(43, 43), (43, 49), (43, 50), (43, 51), (43, 52), (43, 53)] [72, 73, 74, 75, 76, 77] S0 S' ∧ yRm [] S0 S') := by
  intro S hI hF hR e_wLV   q_0 q_1 q_2 q_3 q_4
  have h1 := hI.f tf43_43
  have h2 := hI.f tf43_51
  refine r_load (i := 75) (u := 0) (w := 2) rfl rfl rfl ?_
  refine r_load (i := 76) (u := 1) (w := 0) rfl rfl rfl ?_
  refine r_call (i := 77) (u := 11) (v := 240) (w := 0) (b := 0) (na := 514) (C2 := xC240) (as := [(2, 43), vi k]) (s := []) rfl rfl rfl rfl rfl rfl rfl (sp240 (k := k) hI ⟨by omega, by omega⟩ (by omega)  (by omega)) (fun r3 S4 hq5 => ?_)
  obtain ⟨rfl, h6, h7, hI8, hF9, hR10⟩ := hq5
  have hF11 := hF.trans hF9 rfl rfl
  have hR12 := hR.trans hR10 rfl
  have e13 := wLVx.fr e_wLV hF9 rfl rfl
  refine Or.inl ⟨rfl, ?_⟩
  have h14 := hI8.f tf43_43
  have h15 := hI8.f tf43_51
  have h16 : S4.f 43 51 = S.f 43 51 := hF9.f rfl
  have h17 : wphi S4 = wphi S := wphiX.fr hF9 rfl rfl
  have h18 : wpsi S4 = wpsi S := wpsiX.fr hF9 rfl rfl
  exact r_ret0 (i := 78) rfl ⟨rfl, (by omega), (by omega), (by omega), (by omega), (by omega), e13, hI8, hF11, hR12⟩
/-- ProxyForgeModel.unbox -/
theorem sp259 {G : xk} {S : yS} {d : Nat} (hI : yI S) {k : Int} (h_k : 0 ≤ k ∧ k ≤ 23) (p_0 : S.f 43 43 ≤ 23900) (p_1 : S.f 43 51 = 0) (p_2 : wphi S ≤ 19950) (p_3 : wpsi S ≤ 1120) (e_wLV : wLV S) (hd : 8 ≤ d) : yT xPr G LY xC259 0 [some ((2, 43)), some (vi k)] [] S d (fun r S' => r = (0, (0, 0)) ∧ S.f 43 43 + 1 ≤ S'.f 43 43 ∧ S'.f 43 43 ≤ S.f 43 43 + 7 ∧ S'.f 43 51 = 0 ∧ wphi S' ≤ wphi S + 10 ∧ wpsi S' ≤ wpsi S + 2 ∧ wLV S' ∧ yI S' ∧ yFr [(43, 43), (43, 49), (43, 50), (43, 51), (43, 52), (43, 53)] [72, 73, 74, 75, 76, 77] S S' ∧ yRm [] S S') := by
  refine yT_pad 1 ?_
  show yT xPr G LY xC259 0 [some ((2, 43)), some (vi k), none] [] S d _
  obtain ⟨d, rfl⟩ : ∃ q, d = q + 1 := ⟨d - 1, by omega⟩
  have hF : yFr [(43, 43), (43, 49), (43, 50), (43, 51), (43, 52), (43, 53)] [72, 73, 74, 75, 76, 77] S S := yFr.refl S
  have hR : yRm [] S S := yRm.refl S
  have h1 := hI.f tf43_43
  have h2 := hI.f tf43_51
  refine r_load (i := 0) (u := 1) (w := 0) rfl rfl rfl ?_
  refine z_ne (i := 1) (v := 8) rfl ⟨by omega, by omega⟩ (fun h3 => ?_) (fun h4 => ?_)
  · refine r_load (i := 8) (u := 1) (w := 0) rfl rfl rfl ?_
    refine r_const (i := 9) (u := 3) (z := 3) rfl rfl ?_
    refine c_le (i := 10) (v := 17) rfl ⟨by omega, by omega⟩ ⟨by omega, by omega⟩ (fun h5 => ?_) (fun h6 => ?_)
    · refine r_load (i := 17) (u := 1) (w := 0) rfl rfl rfl ?_
      refine r_const (i := 18) (u := 1) (z := 1) rfl rfl ?_
      refine c_ne (i := 19) (v := 22) rfl ⟨by omega, by omega⟩ ⟨by omega, by omega⟩ (fun h7 => ?_) (fun h8 => ?_)
      · refine r_load (i := 22) (u := 1) (w := 0) rfl rfl rfl ?_
        refine r_const (i := 23) (u := 2) (z := 2) rfl rfl ?_
        refine c_ne (i := 24) (v := 27) rfl ⟨by omega, by omega⟩ ⟨by omega, by omega⟩ (fun h9 => ?_) (fun h10 => ?_)
        · refine r_str (i := 27) (v := 53) rfl ?_
          have h11 := slv53
          refine r_store (i := 28) (u := 2) (w := 2) (L1 := [some ((2, 43)), some (vi k), some ((6, 53))]) rfl rfl rfl rfl ?_
          refine r_load (i := 29) (u := 0) (w := 2) rfl rfl rfl ?_
          refine r_const (i := 30) (u := 192) (z := 192) rfl rfl ?_
          refine r_const (i := 31) (u := 1) (z := 1) rfl rfl ?_
          refine r_const (i := 32) (u := 1) (z := 1) rfl rfl ?_
          refine r_call (i := 33) (u := 11) (v := 250) (w := 0) (b := 0) (na := 1028) (C2 := xC250) (as := [(2, 43), vi 192, vi 1, vi 1]) (s := []) rfl rfl rfl rfl rfl rfl rfl (sp250 (b0 := 192) (off := 1) (on := 1) hI ⟨by omega, by omega⟩ ⟨by omega, by omega⟩ ⟨by omega, by omega⟩ (by omega)  (by omega)) (fun r12 S13 hq14 => ?_)
          obtain ⟨rfl, h15, h16, hI17, hF18, hR19⟩ := hq14
          have hF20 := hF.trans hF18 rfl rfl
          have hR21 := hR.trans hR19 rfl
          have e22 := wLVx.fr e_wLV hF18 rfl rfl
          refine Or.inl ⟨rfl, ?_⟩
          refine r_load (i := 34) (u := 0) (w := 2) rfl rfl rfl ?_
          refine r_load (i := 35) (u := 0) (w := 2) rfl rfl rfl ?_
          refine r_load (i := 36) (u := 2) (w := 2) rfl rfl rfl ?_
          have h23 := hI17.f tf43_51
          have h24 : S13.f 43 51 = S.f 43 51 := hF18.f rfl
          have h25 : wphi S13 = wphi S := wphiX.fr hF18 rfl rfl
          have h26 : wpsi S13 = wpsi S := wpsiX.fr hF18 rfl rfl
          refine r_call (i := 37) (u := 11) (v := 192) (w := 0) (b := 0) (na := 514) (C2 := xC192) (as := [(2, 43), (6, 53)]) (s := [(2, 43)]) rfl rfl rfl rfl rfl rfl rfl (sp192 (s := 53) hI17 ⟨by decide, by decide⟩ (by omega) (by omega) (by omega) (by omega) e22 (by omega)) (fun r27 S28 hq29 => ?_)
          obtain ⟨z30, rfl, h31, h32, h33, h34, h35, e36, hI37, hF38, hR39⟩ := hq29
          have hF40 := hF20.trans hF38 rfl rfl
          have hR41 := hR21.trans hR39 rfl
          refine Or.inr (Or.inl ⟨rfl, ?_⟩)
          have h42 := hI37.f tf43_43
          have h43 : S28.f 43 43 = S13.f 43 43 := hF38.f rfl
          refine r_call (i := 38) (u := 11) (v := 257) (w := 0) (b := 0) (na := 514) (C2 := xC257) (as := [(2, 43), vi z30]) (s := []) rfl rfl rfl rfl rfl rfl rfl (sp257 (v := z30) hI37 ⟨by omega, by omega⟩ (by omega)  (by omega)) (fun r44 S45 hq46 => ?_)
          obtain ⟨rfl, h47, h48, hI49, hF50, hR51⟩ := hq46
          have hF52 := hF40.trans hF50 rfl rfl
          have hR53 := hR41.trans hR51 rfl
          have e54 := wLVx.fr e36 hF50 rfl rfl
          refine Or.inl ⟨rfl, ?_⟩
          refine r_load (i := 39) (u := 0) (w := 2) rfl rfl rfl ?_
          refine r_const (i := 40) (u := 182) (z := 182) rfl rfl ?_
          refine r_const (i := 41) (u := 1) (z := 1) rfl rfl ?_
          refine r_load (i := 42) (u := 1) (w := 0) rfl rfl rfl ?_
          refine r_call (i := 43) (u := 65535) (v := 262) (w := 0) (b := 2) (na := 257) (C2 := xC262) (as := [vi k]) (s := [vi 1, vi 182, (2, 43)]) rfl rfl rfl rfl rfl rfl rfl (sp262 (k := k) hI49 ⟨by omega, by omega⟩   (by omega)) (fun r55 S56 hq57 => ?_)
          obtain ⟨z58, rfl, h59, h60, rfl⟩ := hq57
          refine Or.inr (Or.inl ⟨rfl, ?_⟩)
          have h61 := hI49.f tf43_43
          refine r_call (i := 44) (u := 11) (v := 250) (w := 0) (b := 0) (na := 1028) (C2 := xC250) (as := [(2, 43), vi 182, vi 1, vi z58]) (s := []) rfl rfl rfl rfl rfl rfl rfl (sp250 (b0 := 182) (off := 1) (on := z58) hI49 ⟨by omega, by omega⟩ ⟨by omega, by omega⟩ ⟨by omega, by omega⟩ (by omega)  (by omega)) (fun r62 S63 hq64 => ?_)
          obtain ⟨rfl, h65, h66, hI67, hF68, hR69⟩ := hq64
          have hF70 := hF52.trans hF68 rfl rfl
          have hR71 := hR53.trans hR69 rfl
          have e72 := wLVx.fr e54 hF68 rfl rfl
          refine Or.inl ⟨rfl, ?_⟩
          refine r_load (i := 45) (u := 0) (w := 2) rfl rfl rfl ?_
          refine r_load (i := 46) (u := 0) (w := 2) rfl rfl rfl ?_
          refine r_const (i := 47) (u := 10) (z := 10) rfl rfl ?_
          refine r_load (i := 48) (u := 0) (w := 2) rfl rfl rfl ?_
          refine r_load (i := 49) (u := 2) (w := 2) rfl rfl rfl ?_
          have h73 := hI67.f tf43_51
          have h74 : S63.f 43 51 = S45.f 43 51 := hF68.f rfl
          have h75 : S45.f 43 51 = S28.f 43 51 := hF50.f rfl
          have h76 : wphi S63 = wphi S45 := wphiX.fr hF68 rfl rfl
          have h77 : wphi S45 = wphi S28 := wphiX.fr hF50 rfl rfl
          have h78 : wpsi S63 = wpsi S45 := wpsiX.fr hF68 rfl rfl
          have h79 : wpsi S45 = wpsi S28 := wpsiX.fr hF50 rfl rfl
          refine r_call (i := 50) (u := 11) (v := 192) (w := 0) (b := 0) (na := 514) (C2 := xC192) (as := [(2, 43), (6, 53)]) (s := [vi 10, (2, 43), (2, 43)]) rfl rfl rfl rfl rfl rfl rfl (sp192 (s := 53) hI67 ⟨by decide, by decide⟩ (by omega) (by omega) (by omega) (by omega) e72 (by omega)) (fun r80 S81 hq82 => ?_)
          obtain ⟨z83, rfl, h84, h85, h86, h87, h88, e89, hI90, hF91, hR92⟩ := hq82
          have hF93 := hF70.trans hF91 rfl rfl
          have hR94 := hR71.trans hR92 rfl
          refine Or.inr (Or.inl ⟨rfl, ?_⟩)
          refine r_load (i := 51) (u := 1) (w := 0) rfl rfl rfl ?_
          refine r_const (i := 52) (u := 1) (z := 1) rfl rfl ?_
          refine c_ne (i := 53) (v := 56) rfl ⟨by omega, by omega⟩ ⟨by omega, by omega⟩ (fun h95 => ?_) (fun h96 => absurd h96 (by omega))
          refine r_load (i := 56) (u := 1) (w := 0) rfl rfl rfl ?_
          refine r_const (i := 57) (u := 2) (z := 2) rfl rfl ?_
          refine c_ne (i := 58) (v := 61) rfl ⟨by omega, by omega⟩ ⟨by omega, by omega⟩ (fun h97 => ?_) (fun h98 => absurd h98 (by omega))
          refine r_str (i := 61) (v := 63) rfl ?_
          have h99 := slv63
          refine r_load (i := 62) (u := 1) (w := 0) rfl rfl rfl ?_
          refine r_const (i := 63) (u := 1) (z := 1) rfl rfl ?_
          refine c_ne (i := 64) (v := 67) rfl ⟨by omega, by omega⟩ ⟨by omega, by omega⟩ (fun h100 => ?_) (fun h101 => absurd h101 (by omega))
          refine r_load (i := 67) (u := 1) (w := 0) rfl rfl rfl ?_
          refine r_const (i := 68) (u := 2) (z := 2) rfl rfl ?_
          refine c_ne (i := 69) (v := 72) rfl ⟨by omega, by omega⟩ ⟨by omega, by omega⟩ (fun h102 => ?_) (fun h103 => absurd h103 (by omega))
          refine r_str (i := 72) (v := 66) rfl ?_
          have h104 := slv66
          have h105 := hI90.f tf43_51
          refine r_call (i := 73) (u := 11) (v := 218) (w := 0) (b := 0) (na := 1797) (C2 := xC218) (as := [(2, 43), vi 10, vi z83, (6, 63), (6, 66)]) (s := [(2, 43)]) rfl rfl rfl rfl rfl rfl rfl (sp218 (w0 := 10) (ow := z83) (s1 := 63) (s2 := 66) hI90 ⟨by omega, by omega⟩ ⟨by omega, by omega⟩ ⟨by decide, by decide⟩ ⟨by decide, by decide⟩ (by omega) (by omega) (by omega) (by omega) (by omega) e89 (by omega)) (fun r106 S107 hq108 => ?_)
          obtain ⟨z109, rfl, h110, h111, h112, h113, h114, e115, hI116, hF117, hR118⟩ := hq108
          have hF119 := hF93.trans hF117 rfl rfl
          have hR120 := hR94.trans hR118 rfl
          refine Or.inr (Or.inl ⟨rfl, ?_⟩)
          have h121 := hI116.f tf43_43
          have h122 : S107.f 43 43 = S81.f 43 43 := hF117.f rfl
          have h123 : S81.f 43 43 = S63.f 43 43 := hF91.f rfl
          refine r_call (i := 74) (u := 11) (v := 257) (w := 0) (b := 0) (na := 514) (C2 := xC257) (as := [(2, 43), vi z109]) (s := []) rfl rfl rfl rfl rfl rfl rfl (sp257 (v := z109) hI116 ⟨by omega, by omega⟩ (by omega)  (by omega)) (fun r124 S125 hq126 => ?_)
          obtain ⟨rfl, h127, h128, hI129, hF130, hR131⟩ := hq126
          have hF132 := hF119.trans hF130 rfl rfl
          have hR133 := hR120.trans hR131 rfl
          have e134 := wLVx.fr e115 hF130 rfl rfl
          refine Or.inl ⟨rfl, ?_⟩
          refine yT_drop (L1 := [some ((2, 43)), some (vi k), none]) rfl ?_
          have h135 := hI129.f tf43_43
          have h136 := hI129.f tf43_51
          have h137 : S125.f 43 51 = S107.f 43 51 := hF130.f rfl
          have h138 : wphi S125 = wphi S107 := wphiX.fr hF130 rfl rfl
          have h139 : wpsi S125 = wpsi S107 := wpsiX.fr hF130 rfl rfl
          exact lp259_75 h_k p_0 p_1 p_2 p_3 hd S125 hI129 hF132 hR133 e134   (by omega) (by omega) (by omega) (by omega) (by omega) 
        · refine r_str (i := 25) (v := 52) rfl ?_
          have h140 := slv52
          refine r_goto (i := 26) (v := 28) rfl ?_
          refine r_store (i := 28) (u := 2) (w := 2) (L1 := [some ((2, 43)), some (vi k), some ((6, 52))]) rfl rfl rfl rfl ?_
          refine r_load (i := 29) (u := 0) (w := 2) rfl rfl rfl ?_
          refine r_const (i := 30) (u := 192) (z := 192) rfl rfl ?_
          refine r_const (i := 31) (u := 1) (z := 1) rfl rfl ?_
          refine r_const (i := 32) (u := 1) (z := 1) rfl rfl ?_
          refine r_call (i := 33) (u := 11) (v := 250) (w := 0) (b := 0) (na := 1028) (C2 := xC250) (as := [(2, 43), vi 192, vi 1, vi 1]) (s := []) rfl rfl rfl rfl rfl rfl rfl (sp250 (b0 := 192) (off := 1) (on := 1) hI ⟨by omega, by omega⟩ ⟨by omega, by omega⟩ ⟨by omega, by omega⟩ (by omega)  (by omega)) (fun r141 S142 hq143 => ?_)
          obtain ⟨rfl, h144, h145, hI146, hF147, hR148⟩ := hq143
          have hF149 := hF.trans hF147 rfl rfl
          have hR150 := hR.trans hR148 rfl
          have e151 := wLVx.fr e_wLV hF147 rfl rfl
          refine Or.inl ⟨rfl, ?_⟩
          refine r_load (i := 34) (u := 0) (w := 2) rfl rfl rfl ?_
          refine r_load (i := 35) (u := 0) (w := 2) rfl rfl rfl ?_
          refine r_load (i := 36) (u := 2) (w := 2) rfl rfl rfl ?_
          have h152 := hI146.f tf43_51
          have h153 : S142.f 43 51 = S.f 43 51 := hF147.f rfl
          have h154 : wphi S142 = wphi S := wphiX.fr hF147 rfl rfl
          have h155 : wpsi S142 = wpsi S := wpsiX.fr hF147 rfl rfl
          refine r_call (i := 37) (u := 11) (v := 192) (w := 0) (b := 0) (na := 514) (C2 := xC192) (as := [(2, 43), (6, 52)]) (s := [(2, 43)]) rfl rfl rfl rfl rfl rfl rfl (sp192 (s := 52) hI146 ⟨by decide, by decide⟩ (by omega) (by omega) (by omega) (by omega) e151 (by omega)) (fun r156 S157 hq158 => ?_)
          obtain ⟨z159, rfl, h160, h161, h162, h163, h164, e165, hI166, hF167, hR168⟩ := hq158
          have hF169 := hF149.trans hF167 rfl rfl
          have hR170 := hR150.trans hR168 rfl
          refine Or.inr (Or.inl ⟨rfl, ?_⟩)
          have h171 := hI166.f tf43_43
          have h172 : S157.f 43 43 = S142.f 43 43 := hF167.f rfl
          refine r_call (i := 38) (u := 11) (v := 257) (w := 0) (b := 0) (na := 514) (C2 := xC257) (as := [(2, 43), vi z159]) (s := []) rfl rfl rfl rfl rfl rfl rfl (sp257 (v := z159) hI166 ⟨by omega, by omega⟩ (by omega)  (by omega)) (fun r173 S174 hq175 => ?_)
          obtain ⟨rfl, h176, h177, hI178, hF179, hR180⟩ := hq175
          have hF181 := hF169.trans hF179 rfl rfl
          have hR182 := hR170.trans hR180 rfl
          have e183 := wLVx.fr e165 hF179 rfl rfl
          refine Or.inl ⟨rfl, ?_⟩
          refine r_load (i := 39) (u := 0) (w := 2) rfl rfl rfl ?_
          refine r_const (i := 40) (u := 182) (z := 182) rfl rfl ?_
          refine r_const (i := 41) (u := 1) (z := 1) rfl rfl ?_
          refine r_load (i := 42) (u := 1) (w := 0) rfl rfl rfl ?_
          refine r_call (i := 43) (u := 65535) (v := 262) (w := 0) (b := 2) (na := 257) (C2 := xC262) (as := [vi k]) (s := [vi 1, vi 182, (2, 43)]) rfl rfl rfl rfl rfl rfl rfl (sp262 (k := k) hI178 ⟨by omega, by omega⟩   (by omega)) (fun r184 S185 hq186 => ?_)
          obtain ⟨z187, rfl, h188, h189, rfl⟩ := hq186
          refine Or.inr (Or.inl ⟨rfl, ?_⟩)
          have h190 := hI178.f tf43_43
          refine r_call (i := 44) (u := 11) (v := 250) (w := 0) (b := 0) (na := 1028) (C2 := xC250) (as := [(2, 43), vi 182, vi 1, vi z187]) (s := []) rfl rfl rfl rfl rfl rfl rfl (sp250 (b0 := 182) (off := 1) (on := z187) hI178 ⟨by omega, by omega⟩ ⟨by omega, by omega⟩ ⟨by omega, by omega⟩ (by omega)  (by omega)) (fun r191 S192 hq193 => ?_)
          obtain ⟨rfl, h194, h195, hI196, hF197, hR198⟩ := hq193
          have hF199 := hF181.trans hF197 rfl rfl
          have hR200 := hR182.trans hR198 rfl
          have e201 := wLVx.fr e183 hF197 rfl rfl
          refine Or.inl ⟨rfl, ?_⟩
          refine r_load (i := 45) (u := 0) (w := 2) rfl rfl rfl ?_
          refine r_load (i := 46) (u := 0) (w := 2) rfl rfl rfl ?_
          refine r_const (i := 47) (u := 10) (z := 10) rfl rfl ?_
          refine r_load (i := 48) (u := 0) (w := 2) rfl rfl rfl ?_
          refine r_load (i := 49) (u := 2) (w := 2) rfl rfl rfl ?_
          have h202 := hI196.f tf43_51
          have h203 : S192.f 43 51 = S174.f 43 51 := hF197.f rfl
          have h204 : S174.f 43 51 = S157.f 43 51 := hF179.f rfl
          have h205 : wphi S192 = wphi S174 := wphiX.fr hF197 rfl rfl
          have h206 : wphi S174 = wphi S157 := wphiX.fr hF179 rfl rfl
          have h207 : wpsi S192 = wpsi S174 := wpsiX.fr hF197 rfl rfl
          have h208 : wpsi S174 = wpsi S157 := wpsiX.fr hF179 rfl rfl
          refine r_call (i := 50) (u := 11) (v := 192) (w := 0) (b := 0) (na := 514) (C2 := xC192) (as := [(2, 43), (6, 52)]) (s := [vi 10, (2, 43), (2, 43)]) rfl rfl rfl rfl rfl rfl rfl (sp192 (s := 52) hI196 ⟨by decide, by decide⟩ (by omega) (by omega) (by omega) (by omega) e201 (by omega)) (fun r209 S210 hq211 => ?_)
          obtain ⟨z212, rfl, h213, h214, h215, h216, h217, e218, hI219, hF220, hR221⟩ := hq211
          have hF222 := hF199.trans hF220 rfl rfl
          have hR223 := hR200.trans hR221 rfl
          refine Or.inr (Or.inl ⟨rfl, ?_⟩)
          refine r_load (i := 51) (u := 1) (w := 0) rfl rfl rfl ?_
          refine r_const (i := 52) (u := 1) (z := 1) rfl rfl ?_
          refine c_ne (i := 53) (v := 56) rfl ⟨by omega, by omega⟩ ⟨by omega, by omega⟩ (fun h224 => ?_) (fun h225 => absurd h225 (by omega))
          refine r_load (i := 56) (u := 1) (w := 0) rfl rfl rfl ?_
          refine r_const (i := 57) (u := 2) (z := 2) rfl rfl ?_
          refine c_ne (i := 58) (v := 61) rfl ⟨by omega, by omega⟩ ⟨by omega, by omega⟩ (fun h226 => absurd h226 (by omega)) (fun h227 => ?_)
          refine r_str (i := 59) (v := 62) rfl ?_
          have h228 := slv62
          refine r_goto (i := 60) (v := 62) rfl ?_
          refine r_load (i := 62) (u := 1) (w := 0) rfl rfl rfl ?_
          refine r_const (i := 63) (u := 1) (z := 1) rfl rfl ?_
          refine c_ne (i := 64) (v := 67) rfl ⟨by omega, by omega⟩ ⟨by omega, by omega⟩ (fun h229 => ?_) (fun h230 => absurd h230 (by omega))
          refine r_load (i := 67) (u := 1) (w := 0) rfl rfl rfl ?_
          refine r_const (i := 68) (u := 2) (z := 2) rfl rfl ?_
          refine c_ne (i := 69) (v := 72) rfl ⟨by omega, by omega⟩ ⟨by omega, by omega⟩ (fun h231 => absurd h231 (by omega)) (fun h232 => ?_)
          refine r_str (i := 70) (v := 65) rfl ?_
          have h233 := slv65
          refine r_goto (i := 71) (v := 73) rfl ?_
          have h234 := hI219.f tf43_51
          refine r_call (i := 73) (u := 11) (v := 218) (w := 0) (b := 0) (na := 1797) (C2 := xC218) (as := [(2, 43), vi 10, vi z212, (6, 62), (6, 65)]) (s := [(2, 43)]) rfl rfl rfl rfl rfl rfl rfl (sp218 (w0 := 10) (ow := z212) (s1 := 62) (s2 := 65) hI219 ⟨by omega, by omega⟩ ⟨by omega, by omega⟩ ⟨by decide, by decide⟩ ⟨by decide, by decide⟩ (by omega) (by omega) (by omega) (by omega) (by omega) e218 (by omega)) (fun r235 S236 hq237 => ?_)
          obtain ⟨z238, rfl, h239, h240, h241, h242, h243, e244, hI245, hF246, hR247⟩ := hq237
          have hF248 := hF222.trans hF246 rfl rfl
          have hR249 := hR223.trans hR247 rfl
          refine Or.inr (Or.inl ⟨rfl, ?_⟩)
          have h250 := hI245.f tf43_43
          have h251 : S236.f 43 43 = S210.f 43 43 := hF246.f rfl
          have h252 : S210.f 43 43 = S192.f 43 43 := hF220.f rfl
          refine r_call (i := 74) (u := 11) (v := 257) (w := 0) (b := 0) (na := 514) (C2 := xC257) (as := [(2, 43), vi z238]) (s := []) rfl rfl rfl rfl rfl rfl rfl (sp257 (v := z238) hI245 ⟨by omega, by omega⟩ (by omega)  (by omega)) (fun r253 S254 hq255 => ?_)
          obtain ⟨rfl, h256, h257, hI258, hF259, hR260⟩ := hq255
          have hF261 := hF248.trans hF259 rfl rfl
          have hR262 := hR249.trans hR260 rfl
          have e263 := wLVx.fr e244 hF259 rfl rfl
          refine Or.inl ⟨rfl, ?_⟩
          refine yT_drop (L1 := [some ((2, 43)), some (vi k), none]) rfl ?_
          have h264 := hI258.f tf43_43
          have h265 := hI258.f tf43_51
          have h266 : S254.f 43 51 = S236.f 43 51 := hF259.f rfl
          have h267 : wphi S254 = wphi S236 := wphiX.fr hF259 rfl rfl
          have h268 : wpsi S254 = wpsi S236 := wpsiX.fr hF259 rfl rfl
          exact lp259_75 h_k p_0 p_1 p_2 p_3 hd S254 hI258 hF261 hR262 e263   (by omega) (by omega) (by omega) (by omega) (by omega) 
      · refine r_str (i := 20) (v := 51) rfl ?_
        have h269 := slv51
        refine r_goto (i := 21) (v := 28) rfl ?_
        refine r_store (i := 28) (u := 2) (w := 2) (L1 := [some ((2, 43)), some (vi k), some ((6, 51))]) rfl rfl rfl rfl ?_
        refine r_load (i := 29) (u := 0) (w := 2) rfl rfl rfl ?_
        refine r_const (i := 30) (u := 192) (z := 192) rfl rfl ?_
        refine r_const (i := 31) (u := 1) (z := 1) rfl rfl ?_
        refine r_const (i := 32) (u := 1) (z := 1) rfl rfl ?_
        refine r_call (i := 33) (u := 11) (v := 250) (w := 0) (b := 0) (na := 1028) (C2 := xC250) (as := [(2, 43), vi 192, vi 1, vi 1]) (s := []) rfl rfl rfl rfl rfl rfl rfl (sp250 (b0 := 192) (off := 1) (on := 1) hI ⟨by omega, by omega⟩ ⟨by omega, by omega⟩ ⟨by omega, by omega⟩ (by omega)  (by omega)) (fun r270 S271 hq272 => ?_)
        obtain ⟨rfl, h273, h274, hI275, hF276, hR277⟩ := hq272
        have hF278 := hF.trans hF276 rfl rfl
        have hR279 := hR.trans hR277 rfl
        have e280 := wLVx.fr e_wLV hF276 rfl rfl
        refine Or.inl ⟨rfl, ?_⟩
        refine r_load (i := 34) (u := 0) (w := 2) rfl rfl rfl ?_
        refine r_load (i := 35) (u := 0) (w := 2) rfl rfl rfl ?_
        refine r_load (i := 36) (u := 2) (w := 2) rfl rfl rfl ?_
        have h281 := hI275.f tf43_51
        have h282 : S271.f 43 51 = S.f 43 51 := hF276.f rfl
        have h283 : wphi S271 = wphi S := wphiX.fr hF276 rfl rfl
        have h284 : wpsi S271 = wpsi S := wpsiX.fr hF276 rfl rfl
        refine r_call (i := 37) (u := 11) (v := 192) (w := 0) (b := 0) (na := 514) (C2 := xC192) (as := [(2, 43), (6, 51)]) (s := [(2, 43)]) rfl rfl rfl rfl rfl rfl rfl (sp192 (s := 51) hI275 ⟨by decide, by decide⟩ (by omega) (by omega) (by omega) (by omega) e280 (by omega)) (fun r285 S286 hq287 => ?_)
        obtain ⟨z288, rfl, h289, h290, h291, h292, h293, e294, hI295, hF296, hR297⟩ := hq287
        have hF298 := hF278.trans hF296 rfl rfl
        have hR299 := hR279.trans hR297 rfl
        refine Or.inr (Or.inl ⟨rfl, ?_⟩)
        have h300 := hI295.f tf43_43
        have h301 : S286.f 43 43 = S271.f 43 43 := hF296.f rfl
        refine r_call (i := 38) (u := 11) (v := 257) (w := 0) (b := 0) (na := 514) (C2 := xC257) (as := [(2, 43), vi z288]) (s := []) rfl rfl rfl rfl rfl rfl rfl (sp257 (v := z288) hI295 ⟨by omega, by omega⟩ (by omega)  (by omega)) (fun r302 S303 hq304 => ?_)
        obtain ⟨rfl, h305, h306, hI307, hF308, hR309⟩ := hq304
        have hF310 := hF298.trans hF308 rfl rfl
        have hR311 := hR299.trans hR309 rfl
        have e312 := wLVx.fr e294 hF308 rfl rfl
        refine Or.inl ⟨rfl, ?_⟩
        refine r_load (i := 39) (u := 0) (w := 2) rfl rfl rfl ?_
        refine r_const (i := 40) (u := 182) (z := 182) rfl rfl ?_
        refine r_const (i := 41) (u := 1) (z := 1) rfl rfl ?_
        refine r_load (i := 42) (u := 1) (w := 0) rfl rfl rfl ?_
        refine r_call (i := 43) (u := 65535) (v := 262) (w := 0) (b := 2) (na := 257) (C2 := xC262) (as := [vi k]) (s := [vi 1, vi 182, (2, 43)]) rfl rfl rfl rfl rfl rfl rfl (sp262 (k := k) hI307 ⟨by omega, by omega⟩   (by omega)) (fun r313 S314 hq315 => ?_)
        obtain ⟨z316, rfl, h317, h318, rfl⟩ := hq315
        refine Or.inr (Or.inl ⟨rfl, ?_⟩)
        have h319 := hI307.f tf43_43
        refine r_call (i := 44) (u := 11) (v := 250) (w := 0) (b := 0) (na := 1028) (C2 := xC250) (as := [(2, 43), vi 182, vi 1, vi z316]) (s := []) rfl rfl rfl rfl rfl rfl rfl (sp250 (b0 := 182) (off := 1) (on := z316) hI307 ⟨by omega, by omega⟩ ⟨by omega, by omega⟩ ⟨by omega, by omega⟩ (by omega)  (by omega)) (fun r320 S321 hq322 => ?_)
        obtain ⟨rfl, h323, h324, hI325, hF326, hR327⟩ := hq322
        have hF328 := hF310.trans hF326 rfl rfl
        have hR329 := hR311.trans hR327 rfl
        have e330 := wLVx.fr e312 hF326 rfl rfl
        refine Or.inl ⟨rfl, ?_⟩
        refine r_load (i := 45) (u := 0) (w := 2) rfl rfl rfl ?_
        refine r_load (i := 46) (u := 0) (w := 2) rfl rfl rfl ?_
        refine r_const (i := 47) (u := 10) (z := 10) rfl rfl ?_
        refine r_load (i := 48) (u := 0) (w := 2) rfl rfl rfl ?_
        refine r_load (i := 49) (u := 2) (w := 2) rfl rfl rfl ?_
        have h331 := hI325.f tf43_51
        have h332 : S321.f 43 51 = S303.f 43 51 := hF326.f rfl
        have h333 : S303.f 43 51 = S286.f 43 51 := hF308.f rfl
        have h334 : wphi S321 = wphi S303 := wphiX.fr hF326 rfl rfl
        have h335 : wphi S303 = wphi S286 := wphiX.fr hF308 rfl rfl
        have h336 : wpsi S321 = wpsi S303 := wpsiX.fr hF326 rfl rfl
        have h337 : wpsi S303 = wpsi S286 := wpsiX.fr hF308 rfl rfl
        refine r_call (i := 50) (u := 11) (v := 192) (w := 0) (b := 0) (na := 514) (C2 := xC192) (as := [(2, 43), (6, 51)]) (s := [vi 10, (2, 43), (2, 43)]) rfl rfl rfl rfl rfl rfl rfl (sp192 (s := 51) hI325 ⟨by decide, by decide⟩ (by omega) (by omega) (by omega) (by omega) e330 (by omega)) (fun r338 S339 hq340 => ?_)
        obtain ⟨z341, rfl, h342, h343, h344, h345, h346, e347, hI348, hF349, hR350⟩ := hq340
        have hF351 := hF328.trans hF349 rfl rfl
        have hR352 := hR329.trans hR350 rfl
        refine Or.inr (Or.inl ⟨rfl, ?_⟩)
        refine r_load (i := 51) (u := 1) (w := 0) rfl rfl rfl ?_
        refine r_const (i := 52) (u := 1) (z := 1) rfl rfl ?_
        refine c_ne (i := 53) (v := 56) rfl ⟨by omega, by omega⟩ ⟨by omega, by omega⟩ (fun h353 => absurd h353 (by omega)) (fun h354 => ?_)
        refine r_str (i := 54) (v := 61) rfl ?_
        have h355 := slv61
        refine r_goto (i := 55) (v := 62) rfl ?_
        refine r_load (i := 62) (u := 1) (w := 0) rfl rfl rfl ?_
        refine r_const (i := 63) (u := 1) (z := 1) rfl rfl ?_
        refine c_ne (i := 64) (v := 67) rfl ⟨by omega, by omega⟩ ⟨by omega, by omega⟩ (fun h356 => absurd h356 (by omega)) (fun h357 => ?_)
        refine r_str (i := 65) (v := 64) rfl ?_
        have h358 := slv64
        refine r_goto (i := 66) (v := 73) rfl ?_
        have h359 := hI348.f tf43_51
        refine r_call (i := 73) (u := 11) (v := 218) (w := 0) (b := 0) (na := 1797) (C2 := xC218) (as := [(2, 43), vi 10, vi z341, (6, 61), (6, 64)]) (s := [(2, 43)]) rfl rfl rfl rfl rfl rfl rfl (sp218 (w0 := 10) (ow := z341) (s1 := 61) (s2 := 64) hI348 ⟨by omega, by omega⟩ ⟨by omega, by omega⟩ ⟨by decide, by decide⟩ ⟨by decide, by decide⟩ (by omega) (by omega) (by omega) (by omega) (by omega) e347 (by omega)) (fun r360 S361 hq362 => ?_)
        obtain ⟨z363, rfl, h364, h365, h366, h367, h368, e369, hI370, hF371, hR372⟩ := hq362
        have hF373 := hF351.trans hF371 rfl rfl
        have hR374 := hR352.trans hR372 rfl
        refine Or.inr (Or.inl ⟨rfl, ?_⟩)
        have h375 := hI370.f tf43_43
        have h376 : S361.f 43 43 = S339.f 43 43 := hF371.f rfl
        have h377 : S339.f 43 43 = S321.f 43 43 := hF349.f rfl
        refine r_call (i := 74) (u := 11) (v := 257) (w := 0) (b := 0) (na := 514) (C2 := xC257) (as := [(2, 43), vi z363]) (s := []) rfl rfl rfl rfl rfl rfl rfl (sp257 (v := z363) hI370 ⟨by omega, by omega⟩ (by omega)  (by omega)) (fun r378 S379 hq380 => ?_)
        obtain ⟨rfl, h381, h382, hI383, hF384, hR385⟩ := hq380
        have hF386 := hF373.trans hF384 rfl rfl
        have hR387 := hR374.trans hR385 rfl
        have e388 := wLVx.fr e369 hF384 rfl rfl
        refine Or.inl ⟨rfl, ?_⟩
        refine yT_drop (L1 := [some ((2, 43)), some (vi k), none]) rfl ?_
        have h389 := hI383.f tf43_43
        have h390 := hI383.f tf43_51
        have h391 : S379.f 43 51 = S361.f 43 51 := hF384.f rfl
        have h392 : wphi S379 = wphi S361 := wphiX.fr hF384 rfl rfl
        have h393 : wpsi S379 = wpsi S361 := wpsiX.fr hF384 rfl rfl
        exact lp259_75 h_k p_0 p_1 p_2 p_3 hd S379 hI383 hF386 hR387 e388   (by omega) (by omega) (by omega) (by omega) (by omega) 
    · refine r_load (i := 11) (u := 0) (w := 2) rfl rfl rfl ?_
      refine r_load (i := 12) (u := 1) (w := 0) rfl rfl rfl ?_
      refine r_const (i := 13) (u := 4) (z := 4) rfl rfl ?_
      refine r_isub (i := 14) rfl ?_
      refine r_call (i := 15) (u := 11) (v := 190) (w := 0) (b := 0) (na := 514) (C2 := xC190) (as := [(2, 43), vi (k - 4)]) (s := []) rfl rfl rfl rfl rfl rfl rfl (sp190 (t := k - 4) hI ⟨by omega, by omega⟩ (by omega) (by omega) (by omega) (by omega) e_wLV (by omega)) (fun r394 S395 hq396 => ?_)
      obtain ⟨rfl, h397, h398, h399, h400, h401, e402, hI403, hF404, hR405⟩ := hq396
      have hF406 := hF.trans hF404 rfl rfl
      have hR407 := hR.trans hR405 rfl
      refine Or.inl ⟨rfl, ?_⟩
      refine r_goto (i := 16) (v := 75) rfl ?_
      have h408 := hI403.f tf43_43
      have h409 := hI403.f tf43_51
      exact lp259_75 h_k p_0 p_1 p_2 p_3 hd S395 hI403 hF406 hR407 e402   (by omega) (by omega) (by omega) (by omega) (by omega) 
  · refine r_load (i := 2) (u := 0) (w := 2) rfl rfl rfl ?_
    refine r_const (i := 3) (u := 87) (z := 87) rfl rfl ?_
    refine r_const (i := 4) (u := 1) (z := 1) rfl rfl ?_
    refine r_const (i := 5) (u := 0) (z := 0) rfl rfl ?_
    refine r_call (i := 6) (u := 11) (v := 250) (w := 0) (b := 0) (na := 1028) (C2 := xC250) (as := [(2, 43), vi 87, vi 1, vi 0]) (s := []) rfl rfl rfl rfl rfl rfl rfl (sp250 (b0 := 87) (off := 1) (on := 0) hI ⟨by omega, by omega⟩ ⟨by omega, by omega⟩ ⟨by omega, by omega⟩ (by omega)  (by omega)) (fun r410 S411 hq412 => ?_)
    obtain ⟨rfl, h413, h414, hI415, hF416, hR417⟩ := hq412
    have hF418 := hF.trans hF416 rfl rfl
    have hR419 := hR.trans hR417 rfl
    have e420 := wLVx.fr e_wLV hF416 rfl rfl
    refine Or.inl ⟨rfl, ?_⟩
    refine r_goto (i := 7) (v := 75) rfl ?_
    have h421 := hI415.f tf43_43
    have h422 := hI415.f tf43_51
    have h423 : S411.f 43 51 = S.f 43 51 := hF416.f rfl
    have h424 : wphi S411 = wphi S := wphiX.fr hF416 rfl rfl
    have h425 : wpsi S411 = wpsi S := wpsiX.fr hF416 rfl rfl
    exact lp259_75 h_k p_0 p_1 p_2 p_3 hd S411 hI415 hF418 hR419 e420   (by omega) (by omega) (by omega) (by omega) (by omega) 
/-- ProxyForgeModel.box -/
theorem sp186 {G : xk} {S : yS} {d : Nat} (hI : yI S) {k : Int} (h_k : 0 ≤ k ∧ k ≤ 23) (p_0 : S.f 43 43 ≤ 23900) (p_1 : S.f 43 51 = 0) (p_2 : wphi S ≤ 19950) (p_3 : wpsi S ≤ 1120) (e_wLV : wLV S) (hd : 7 ≤ d) : yT xPr G LY xC186 0 [some ((2, 43)), some (vi k)] [] S d (fun r S' => r = (0, (0, 0)) ∧ S.f 43 43 ≤ S'.f 43 43 ∧ S'.f 43 43 ≤ S.f 43 43 + 3 ∧ S'.f 43 51 = 0 ∧ wphi S' ≤ wphi S + 10 ∧ wpsi S' ≤ wpsi S + 2 ∧ wLV S' ∧ yI S' ∧ yFr [(43, 43), (43, 49), (43, 50), (43, 51), (43, 52), (43, 53)] [72, 73, 74, 75, 76, 77] S S' ∧ yRm [] S S') := by
  refine yT_pad 1 ?_
  show yT xPr G LY xC186 0 [some ((2, 43)), some (vi k), none] [] S d _
  obtain ⟨d, rfl⟩ : ∃ q, d = q + 1 := ⟨d - 1, by omega⟩
  have hF : yFr [(43, 43), (43, 49), (43, 50), (43, 51), (43, 52), (43, 53)] [72, 73, 74, 75, 76, 77] S S := yFr.refl S
  have hR : yRm [] S S := yRm.refl S
  have h1 := hI.f tf43_43
  have h2 := hI.f tf43_51
  refine r_load (i := 0) (u := 1) (w := 0) rfl rfl rfl ?_
  refine r_const (i := 1) (u := 3) (z := 3) rfl rfl ?_
  refine c_le (i := 2) (v := 4) rfl ⟨by omega, by omega⟩ ⟨by omega, by omega⟩ (fun h3 => ?_) (fun h4 => ?_)
  · refine r_load (i := 4) (u := 1) (w := 0) rfl rfl rfl ?_
    refine r_const (i := 5) (u := 1) (z := 1) rfl rfl ?_
    refine c_ne (i := 6) (v := 9) rfl ⟨by omega, by omega⟩ ⟨by omega, by omega⟩ (fun h5 => ?_) (fun h6 => ?_)
    · refine r_load (i := 9) (u := 1) (w := 0) rfl rfl rfl ?_
      refine r_const (i := 10) (u := 2) (z := 2) rfl rfl ?_
      refine c_ne (i := 11) (v := 14) rfl ⟨by omega, by omega⟩ ⟨by omega, by omega⟩ (fun h7 => ?_) (fun h8 => ?_)
      · refine r_str (i := 14) (v := 53) rfl ?_
        have h9 := slv53
        refine r_store (i := 15) (u := 2) (w := 2) (L1 := [some ((2, 43)), some (vi k), some ((6, 53))]) rfl rfl rfl rfl ?_
        refine r_load (i := 16) (u := 0) (w := 2) rfl rfl rfl ?_
        refine r_const (i := 17) (u := 184) (z := 184) rfl rfl ?_
        refine r_load (i := 18) (u := 1) (w := 0) rfl rfl rfl ?_
        refine r_call (i := 19) (u := 65535) (v := 262) (w := 0) (b := 2) (na := 257) (C2 := xC262) (as := [vi k]) (s := [vi 184, (2, 43)]) rfl rfl rfl rfl rfl rfl rfl (sp262 (k := k) hI ⟨by omega, by omega⟩   (by omega)) (fun r10 S11 hq12 => ?_)
        obtain ⟨z13, rfl, h14, h15, rfl⟩ := hq12
        refine Or.inr (Or.inl ⟨rfl, ?_⟩)
        refine r_const (i := 20) (u := 1) (z := 1) rfl rfl ?_
        refine r_call (i := 21) (u := 11) (v := 250) (w := 0) (b := 0) (na := 1028) (C2 := xC250) (as := [(2, 43), vi 184, vi z13, vi 1]) (s := []) rfl rfl rfl rfl rfl rfl rfl (sp250 (b0 := 184) (off := z13) (on := 1) hI ⟨by omega, by omega⟩ ⟨by omega, by omega⟩ ⟨by omega, by omega⟩ (by omega)  (by omega)) (fun r16 S17 hq18 => ?_)
        obtain ⟨rfl, h19, h20, hI21, hF22, hR23⟩ := hq18
        have hF24 := hF.trans hF22 rfl rfl
        have hR25 := hR.trans hR23 rfl
        have e26 := wLVx.fr e_wLV hF22 rfl rfl
        refine Or.inl ⟨rfl, ?_⟩
        refine r_load (i := 22) (u := 0) (w := 2) rfl rfl rfl ?_
        refine r_load (i := 23) (u := 0) (w := 2) rfl rfl rfl ?_
        refine r_const (i := 24) (u := 10) (z := 10) rfl rfl ?_
        refine r_load (i := 25) (u := 0) (w := 2) rfl rfl rfl ?_
        refine r_load (i := 26) (u := 2) (w := 2) rfl rfl rfl ?_
        have h27 := hI21.f tf43_51
        have h28 : S17.f 43 51 = S.f 43 51 := hF22.f rfl
        have h29 : wphi S17 = wphi S := wphiX.fr hF22 rfl rfl
        have h30 : wpsi S17 = wpsi S := wpsiX.fr hF22 rfl rfl
        refine r_call (i := 27) (u := 11) (v := 192) (w := 0) (b := 0) (na := 514) (C2 := xC192) (as := [(2, 43), (6, 53)]) (s := [vi 10, (2, 43), (2, 43)]) rfl rfl rfl rfl rfl rfl rfl (sp192 (s := 53) hI21 ⟨by decide, by decide⟩ (by omega) (by omega) (by omega) (by omega) e26 (by omega)) (fun r31 S32 hq33 => ?_)
        obtain ⟨z34, rfl, h35, h36, h37, h38, h39, e40, hI41, hF42, hR43⟩ := hq33
        have hF44 := hF24.trans hF42 rfl rfl
        have hR45 := hR25.trans hR43 rfl
        refine Or.inr (Or.inl ⟨rfl, ?_⟩)
        refine r_str (i := 28) (v := 54) rfl ?_
        have h46 := slv54
        refine r_load (i := 29) (u := 1) (w := 0) rfl rfl rfl ?_
        refine r_const (i := 30) (u := 1) (z := 1) rfl rfl ?_
        refine c_ne (i := 31) (v := 34) rfl ⟨by omega, by omega⟩ ⟨by omega, by omega⟩ (fun h47 => ?_) (fun h48 => absurd h48 (by omega))
        refine r_load (i := 34) (u := 1) (w := 0) rfl rfl rfl ?_
        refine r_const (i := 35) (u := 2) (z := 2) rfl rfl ?_
        refine c_ne (i := 36) (v := 39) rfl ⟨by omega, by omega⟩ ⟨by omega, by omega⟩ (fun h49 => ?_) (fun h50 => absurd h50 (by omega))
        refine r_str (i := 39) (v := 57) rfl ?_
        have h51 := slv57
        have h52 := hI41.f tf43_51
        refine r_call (i := 40) (u := 11) (v := 218) (w := 0) (b := 0) (na := 1797) (C2 := xC218) (as := [(2, 43), vi 10, vi z34, (6, 54), (6, 57)]) (s := [(2, 43)]) rfl rfl rfl rfl rfl rfl rfl (sp218 (w0 := 10) (ow := z34) (s1 := 54) (s2 := 57) hI41 ⟨by omega, by omega⟩ ⟨by omega, by omega⟩ ⟨by decide, by decide⟩ ⟨by decide, by decide⟩ (by omega) (by omega) (by omega) (by omega) (by omega) e40 (by omega)) (fun r53 S54 hq55 => ?_)
        obtain ⟨z56, rfl, h57, h58, h59, h60, h61, e62, hI63, hF64, hR65⟩ := hq55
        have hF66 := hF44.trans hF64 rfl rfl
        have hR67 := hR45.trans hR65 rfl
        refine Or.inr (Or.inl ⟨rfl, ?_⟩)
        have h68 := hI63.f tf43_43
        have h69 : S54.f 43 43 = S32.f 43 43 := hF64.f rfl
        have h70 : S32.f 43 43 = S17.f 43 43 := hF42.f rfl
        refine r_call (i := 41) (u := 11) (v := 257) (w := 0) (b := 0) (na := 514) (C2 := xC257) (as := [(2, 43), vi z56]) (s := []) rfl rfl rfl rfl rfl rfl rfl (sp257 (v := z56) hI63 ⟨by omega, by omega⟩ (by omega)  (by omega)) (fun r71 S72 hq73 => ?_)
        obtain ⟨rfl, h74, h75, hI76, hF77, hR78⟩ := hq73
        have hF79 := hF66.trans hF77 rfl rfl
        have hR80 := hR67.trans hR78 rfl
        have e81 := wLVx.fr e62 hF77 rfl rfl
        refine Or.inl ⟨rfl, ?_⟩
        have h82 := hI76.f tf43_43
        have h83 := hI76.f tf43_51
        have h84 : S72.f 43 51 = S54.f 43 51 := hF77.f rfl
        have h85 : wphi S72 = wphi S54 := wphiX.fr hF77 rfl rfl
        have h86 : wpsi S72 = wpsi S54 := wpsiX.fr hF77 rfl rfl
        exact r_ret0 (i := 42) rfl ⟨rfl, (by omega), (by omega), (by omega), (by omega), (by omega), e81, hI76, hF79, hR80⟩
      · refine r_str (i := 12) (v := 52) rfl ?_
        have h87 := slv52
        refine r_goto (i := 13) (v := 15) rfl ?_
        refine r_store (i := 15) (u := 2) (w := 2) (L1 := [some ((2, 43)), some (vi k), some ((6, 52))]) rfl rfl rfl rfl ?_
        refine r_load (i := 16) (u := 0) (w := 2) rfl rfl rfl ?_
        refine r_const (i := 17) (u := 184) (z := 184) rfl rfl ?_
        refine r_load (i := 18) (u := 1) (w := 0) rfl rfl rfl ?_
        refine r_call (i := 19) (u := 65535) (v := 262) (w := 0) (b := 2) (na := 257) (C2 := xC262) (as := [vi k]) (s := [vi 184, (2, 43)]) rfl rfl rfl rfl rfl rfl rfl (sp262 (k := k) hI ⟨by omega, by omega⟩   (by omega)) (fun r88 S89 hq90 => ?_)
        obtain ⟨z91, rfl, h92, h93, rfl⟩ := hq90
        refine Or.inr (Or.inl ⟨rfl, ?_⟩)
        refine r_const (i := 20) (u := 1) (z := 1) rfl rfl ?_
        refine r_call (i := 21) (u := 11) (v := 250) (w := 0) (b := 0) (na := 1028) (C2 := xC250) (as := [(2, 43), vi 184, vi z91, vi 1]) (s := []) rfl rfl rfl rfl rfl rfl rfl (sp250 (b0 := 184) (off := z91) (on := 1) hI ⟨by omega, by omega⟩ ⟨by omega, by omega⟩ ⟨by omega, by omega⟩ (by omega)  (by omega)) (fun r94 S95 hq96 => ?_)
        obtain ⟨rfl, h97, h98, hI99, hF100, hR101⟩ := hq96
        have hF102 := hF.trans hF100 rfl rfl
        have hR103 := hR.trans hR101 rfl
        have e104 := wLVx.fr e_wLV hF100 rfl rfl
        refine Or.inl ⟨rfl, ?_⟩
        refine r_load (i := 22) (u := 0) (w := 2) rfl rfl rfl ?_
        refine r_load (i := 23) (u := 0) (w := 2) rfl rfl rfl ?_
        refine r_const (i := 24) (u := 10) (z := 10) rfl rfl ?_
        refine r_load (i := 25) (u := 0) (w := 2) rfl rfl rfl ?_
        refine r_load (i := 26) (u := 2) (w := 2) rfl rfl rfl ?_
        have h105 := hI99.f tf43_51
        have h106 : S95.f 43 51 = S.f 43 51 := hF100.f rfl
        have h107 : wphi S95 = wphi S := wphiX.fr hF100 rfl rfl
        have h108 : wpsi S95 = wpsi S := wpsiX.fr hF100 rfl rfl
        refine r_call (i := 27) (u := 11) (v := 192) (w := 0) (b := 0) (na := 514) (C2 := xC192) (as := [(2, 43), (6, 52)]) (s := [vi 10, (2, 43), (2, 43)]) rfl rfl rfl rfl rfl rfl rfl (sp192 (s := 52) hI99 ⟨by decide, by decide⟩ (by omega) (by omega) (by omega) (by omega) e104 (by omega)) (fun r109 S110 hq111 => ?_)
        obtain ⟨z112, rfl, h113, h114, h115, h116, h117, e118, hI119, hF120, hR121⟩ := hq111
        have hF122 := hF102.trans hF120 rfl rfl
        have hR123 := hR103.trans hR121 rfl
        refine Or.inr (Or.inl ⟨rfl, ?_⟩)
        refine r_str (i := 28) (v := 54) rfl ?_
        have h124 := slv54
        refine r_load (i := 29) (u := 1) (w := 0) rfl rfl rfl ?_
        refine r_const (i := 30) (u := 1) (z := 1) rfl rfl ?_
        refine c_ne (i := 31) (v := 34) rfl ⟨by omega, by omega⟩ ⟨by omega, by omega⟩ (fun h125 => ?_) (fun h126 => absurd h126 (by omega))
        refine r_load (i := 34) (u := 1) (w := 0) rfl rfl rfl ?_
        refine r_const (i := 35) (u := 2) (z := 2) rfl rfl ?_
        refine c_ne (i := 36) (v := 39) rfl ⟨by omega, by omega⟩ ⟨by omega, by omega⟩ (fun h127 => absurd h127 (by omega)) (fun h128 => ?_)
        refine r_str (i := 37) (v := 56) rfl ?_
        have h129 := slv56
        refine r_goto (i := 38) (v := 40) rfl ?_
        have h130 := hI119.f tf43_51
        refine r_call (i := 40) (u := 11) (v := 218) (w := 0) (b := 0) (na := 1797) (C2 := xC218) (as := [(2, 43), vi 10, vi z112, (6, 54), (6, 56)]) (s := [(2, 43)]) rfl rfl rfl rfl rfl rfl rfl (sp218 (w0 := 10) (ow := z112) (s1 := 54) (s2 := 56) hI119 ⟨by omega, by omega⟩ ⟨by omega, by omega⟩ ⟨by decide, by decide⟩ ⟨by decide, by decide⟩ (by omega) (by omega) (by omega) (by omega) (by omega) e118 (by omega)) (fun r131 S132 hq133 => ?_)
        obtain ⟨z134, rfl, h135, h136, h137, h138, h139, e140, hI141, hF142, hR143⟩ := hq133
        have hF144 := hF122.trans hF142 rfl rfl
        have hR145 := hR123.trans hR143 rfl
        refine Or.inr (Or.inl ⟨rfl, ?_⟩)
        have h146 := hI141.f tf43_43
        have h147 : S132.f 43 43 = S110.f 43 43 := hF142.f rfl
        have h148 : S110.f 43 43 = S95.f 43 43 := hF120.f rfl
        refine r_call (i := 41) (u := 11) (v := 257) (w := 0) (b := 0) (na := 514) (C2 := xC257) (as := [(2, 43), vi z134]) (s := []) rfl rfl rfl rfl rfl rfl rfl (sp257 (v := z134) hI141 ⟨by omega, by omega⟩ (by omega)  (by omega)) (fun r149 S150 hq151 => ?_)
        obtain ⟨rfl, h152, h153, hI154, hF155, hR156⟩ := hq151
        have hF157 := hF144.trans hF155 rfl rfl
        have hR158 := hR145.trans hR156 rfl
        have e159 := wLVx.fr e140 hF155 rfl rfl
        refine Or.inl ⟨rfl, ?_⟩
        have h160 := hI154.f tf43_43
        have h161 := hI154.f tf43_51
        have h162 : S150.f 43 51 = S132.f 43 51 := hF155.f rfl
        have h163 : wphi S150 = wphi S132 := wphiX.fr hF155 rfl rfl
        have h164 : wpsi S150 = wpsi S132 := wpsiX.fr hF155 rfl rfl
        exact r_ret0 (i := 42) rfl ⟨rfl, (by omega), (by omega), (by omega), (by omega), (by omega), e159, hI154, hF157, hR158⟩
    · refine r_str (i := 7) (v := 51) rfl ?_
      have h165 := slv51
      refine r_goto (i := 8) (v := 15) rfl ?_
      refine r_store (i := 15) (u := 2) (w := 2) (L1 := [some ((2, 43)), some (vi k), some ((6, 51))]) rfl rfl rfl rfl ?_
      refine r_load (i := 16) (u := 0) (w := 2) rfl rfl rfl ?_
      refine r_const (i := 17) (u := 184) (z := 184) rfl rfl ?_
      refine r_load (i := 18) (u := 1) (w := 0) rfl rfl rfl ?_
      refine r_call (i := 19) (u := 65535) (v := 262) (w := 0) (b := 2) (na := 257) (C2 := xC262) (as := [vi k]) (s := [vi 184, (2, 43)]) rfl rfl rfl rfl rfl rfl rfl (sp262 (k := k) hI ⟨by omega, by omega⟩   (by omega)) (fun r166 S167 hq168 => ?_)
      obtain ⟨z169, rfl, h170, h171, rfl⟩ := hq168
      refine Or.inr (Or.inl ⟨rfl, ?_⟩)
      refine r_const (i := 20) (u := 1) (z := 1) rfl rfl ?_
      refine r_call (i := 21) (u := 11) (v := 250) (w := 0) (b := 0) (na := 1028) (C2 := xC250) (as := [(2, 43), vi 184, vi z169, vi 1]) (s := []) rfl rfl rfl rfl rfl rfl rfl (sp250 (b0 := 184) (off := z169) (on := 1) hI ⟨by omega, by omega⟩ ⟨by omega, by omega⟩ ⟨by omega, by omega⟩ (by omega)  (by omega)) (fun r172 S173 hq174 => ?_)
      obtain ⟨rfl, h175, h176, hI177, hF178, hR179⟩ := hq174
      have hF180 := hF.trans hF178 rfl rfl
      have hR181 := hR.trans hR179 rfl
      have e182 := wLVx.fr e_wLV hF178 rfl rfl
      refine Or.inl ⟨rfl, ?_⟩
      refine r_load (i := 22) (u := 0) (w := 2) rfl rfl rfl ?_
      refine r_load (i := 23) (u := 0) (w := 2) rfl rfl rfl ?_
      refine r_const (i := 24) (u := 10) (z := 10) rfl rfl ?_
      refine r_load (i := 25) (u := 0) (w := 2) rfl rfl rfl ?_
      refine r_load (i := 26) (u := 2) (w := 2) rfl rfl rfl ?_
      have h183 := hI177.f tf43_51
      have h184 : S173.f 43 51 = S.f 43 51 := hF178.f rfl
      have h185 : wphi S173 = wphi S := wphiX.fr hF178 rfl rfl
      have h186 : wpsi S173 = wpsi S := wpsiX.fr hF178 rfl rfl
      refine r_call (i := 27) (u := 11) (v := 192) (w := 0) (b := 0) (na := 514) (C2 := xC192) (as := [(2, 43), (6, 51)]) (s := [vi 10, (2, 43), (2, 43)]) rfl rfl rfl rfl rfl rfl rfl (sp192 (s := 51) hI177 ⟨by decide, by decide⟩ (by omega) (by omega) (by omega) (by omega) e182 (by omega)) (fun r187 S188 hq189 => ?_)
      obtain ⟨z190, rfl, h191, h192, h193, h194, h195, e196, hI197, hF198, hR199⟩ := hq189
      have hF200 := hF180.trans hF198 rfl rfl
      have hR201 := hR181.trans hR199 rfl
      refine Or.inr (Or.inl ⟨rfl, ?_⟩)
      refine r_str (i := 28) (v := 54) rfl ?_
      have h202 := slv54
      refine r_load (i := 29) (u := 1) (w := 0) rfl rfl rfl ?_
      refine r_const (i := 30) (u := 1) (z := 1) rfl rfl ?_
      refine c_ne (i := 31) (v := 34) rfl ⟨by omega, by omega⟩ ⟨by omega, by omega⟩ (fun h203 => absurd h203 (by omega)) (fun h204 => ?_)
      refine r_str (i := 32) (v := 55) rfl ?_
      have h205 := slv55
      refine r_goto (i := 33) (v := 40) rfl ?_
      have h206 := hI197.f tf43_51
      refine r_call (i := 40) (u := 11) (v := 218) (w := 0) (b := 0) (na := 1797) (C2 := xC218) (as := [(2, 43), vi 10, vi z190, (6, 54), (6, 55)]) (s := [(2, 43)]) rfl rfl rfl rfl rfl rfl rfl (sp218 (w0 := 10) (ow := z190) (s1 := 54) (s2 := 55) hI197 ⟨by omega, by omega⟩ ⟨by omega, by omega⟩ ⟨by decide, by decide⟩ ⟨by decide, by decide⟩ (by omega) (by omega) (by omega) (by omega) (by omega) e196 (by omega)) (fun r207 S208 hq209 => ?_)
      obtain ⟨z210, rfl, h211, h212, h213, h214, h215, e216, hI217, hF218, hR219⟩ := hq209
      have hF220 := hF200.trans hF218 rfl rfl
      have hR221 := hR201.trans hR219 rfl
      refine Or.inr (Or.inl ⟨rfl, ?_⟩)
      have h222 := hI217.f tf43_43
      have h223 : S208.f 43 43 = S188.f 43 43 := hF218.f rfl
      have h224 : S188.f 43 43 = S173.f 43 43 := hF198.f rfl
      refine r_call (i := 41) (u := 11) (v := 257) (w := 0) (b := 0) (na := 514) (C2 := xC257) (as := [(2, 43), vi z210]) (s := []) rfl rfl rfl rfl rfl rfl rfl (sp257 (v := z210) hI217 ⟨by omega, by omega⟩ (by omega)  (by omega)) (fun r225 S226 hq227 => ?_)
      obtain ⟨rfl, h228, h229, hI230, hF231, hR232⟩ := hq227
      have hF233 := hF220.trans hF231 rfl rfl
      have hR234 := hR221.trans hR232 rfl
      have e235 := wLVx.fr e216 hF231 rfl rfl
      refine Or.inl ⟨rfl, ?_⟩
      have h236 := hI230.f tf43_43
      have h237 := hI230.f tf43_51
      have h238 : S226.f 43 51 = S208.f 43 51 := hF231.f rfl
      have h239 : wphi S226 = wphi S208 := wphiX.fr hF231 rfl rfl
      have h240 : wpsi S226 = wpsi S208 := wpsiX.fr hF231 rfl rfl
      exact r_ret0 (i := 42) rfl ⟨rfl, (by omega), (by omega), (by omega), (by omega), (by omega), e235, hI230, hF233, hR234⟩
  · exact r_ret0 (i := 3) rfl ⟨rfl, (by omega), (by omega), (by omega), (by omega), (by omega), e_wLV, hI, hF, hR⟩
/-- ProxyForgeModel.field -/
theorem sp202 {G : xk} {S : yS} {d : Nat} (hI : yI S) (p_0 : S.f 43 43 ≤ 23900) (p_1 : S.f 43 51 = 0) (p_2 : wphi S ≤ 19950) (p_3 : wpsi S ≤ 1120) (e_wLV : wLV S) (hd : 8 ≤ d) : yT xPr G LY xC202 0 [some ((2, 43))] [] S d (fun r S' => r = (0, (0, 0)) ∧ S.f 43 43 + 4 ≤ S'.f 43 43 ∧ S'.f 43 43 ≤ S.f 43 43 + 4 ∧ S'.f 43 51 = 0 ∧ wphi S' ≤ wphi S + 10 ∧ wpsi S' ≤ wpsi S + 2 ∧ wLV S' ∧ yI S' ∧ yFr [(43, 43), (43, 49), (43, 50), (43, 51), (43, 52), (43, 53)] [72, 73, 74, 75, 76, 77] S S' ∧ yRm [] S S') := by
  refine yT_pad 0 ?_
  show yT xPr G LY xC202 0 [some ((2, 43))] [] S d _
  obtain ⟨d, rfl⟩ : ∃ q, d = q + 1 := ⟨d - 1, by omega⟩
  have hF : yFr [(43, 43), (43, 49), (43, 50), (43, 51), (43, 52), (43, 53)] [72, 73, 74, 75, 76, 77] S S := yFr.refl S
  have hR : yRm [] S S := yRm.refl S
  have h1 := hI.f tf43_43
  have h2 := hI.f tf43_51
  refine r_load (i := 0) (u := 0) (w := 2) rfl rfl rfl ?_
  refine r_const (i := 1) (u := 42) (z := 42) rfl rfl ?_
  refine r_const (i := 2) (u := 0) (z := 0) rfl rfl ?_
  refine r_const (i := 3) (u := 1) (z := 1) rfl rfl ?_
  refine r_call (i := 4) (u := 11) (v := 250) (w := 0) (b := 0) (na := 1028) (C2 := xC250) (as := [(2, 43), vi 42, vi 0, vi 1]) (s := []) rfl rfl rfl rfl rfl rfl rfl (sp250 (b0 := 42) (off := 0) (on := 1) hI ⟨by omega, by omega⟩ ⟨by omega, by omega⟩ ⟨by omega, by omega⟩ (by omega)  (by omega)) (fun r3 S4 hq5 => ?_)
  obtain ⟨rfl, h6, h7, hI8, hF9, hR10⟩ := hq5
  have hF11 := hF.trans hF9 rfl rfl
  have hR12 := hR.trans hR10 rfl
  have e13 := wLVx.fr e_wLV hF9 rfl rfl
  refine Or.inl ⟨rfl, ?_⟩
  refine r_load (i := 5) (u := 0) (w := 2) rfl rfl rfl ?_
  refine r_const (i := 6) (u := 180) (z := 180) rfl rfl ?_
  refine r_const (i := 7) (u := 1) (z := 1) rfl rfl ?_
  refine r_const (i := 8) (u := 1) (z := 1) rfl rfl ?_
  have h14 := hI8.f tf43_43
  refine r_call (i := 9) (u := 11) (v := 250) (w := 0) (b := 0) (na := 1028) (C2 := xC250) (as := [(2, 43), vi 180, vi 1, vi 1]) (s := []) rfl rfl rfl rfl rfl rfl rfl (sp250 (b0 := 180) (off := 1) (on := 1) hI8 ⟨by omega, by omega⟩ ⟨by omega, by omega⟩ ⟨by omega, by omega⟩ (by omega)  (by omega)) (fun r15 S16 hq17 => ?_)
  obtain ⟨rfl, h18, h19, hI20, hF21, hR22⟩ := hq17
  have hF23 := hF11.trans hF21 rfl rfl
  have hR24 := hR12.trans hR22 rfl
  have e25 := wLVx.fr e13 hF21 rfl rfl
  refine Or.inl ⟨rfl, ?_⟩
  refine r_load (i := 10) (u := 0) (w := 2) rfl rfl rfl ?_
  refine r_load (i := 11) (u := 0) (w := 2) rfl rfl rfl ?_
  refine r_const (i := 12) (u := 9) (z := 9) rfl rfl ?_
  refine r_load (i := 13) (u := 0) (w := 2) rfl rfl rfl ?_
  have h26 := hI20.f tf43_51
  have h27 : S16.f 43 51 = S4.f 43 51 := hF21.f rfl
  have h28 : S4.f 43 51 = S.f 43 51 := hF9.f rfl
  have h29 : wphi S16 = wphi S4 := wphiX.fr hF21 rfl rfl
  have h30 : wphi S4 = wphi S := wphiX.fr hF9 rfl rfl
  have h31 : wpsi S16 = wpsi S4 := wpsiX.fr hF21 rfl rfl
  have h32 : wpsi S4 = wpsi S := wpsiX.fr hF9 rfl rfl
  refine r_call (i := 14) (u := 11) (v := 233) (w := 0) (b := 0) (na := 257) (C2 := xC233) (as := [(2, 43)]) (s := [vi 9, (2, 43), (2, 43)]) rfl rfl rfl rfl rfl rfl rfl (sp233  hI20  (by omega) (by omega) (by omega) e25 (by omega)) (fun r33 S34 hq35 => ?_)
  obtain ⟨z36, rfl, h37, h38, h39, h40, h41, e42, hI43, hF44, hR45⟩ := hq35
  have hF46 := hF23.trans hF44 rfl rfl
  have hR47 := hR24.trans hR45 rfl
  refine Or.inr (Or.inl ⟨rfl, ?_⟩)
  refine r_str (i := 15) (v := 46) rfl ?_
  have h48 := slv46
  refine r_str (i := 16) (v := 47) rfl ?_
  have h49 := slv47
  have h50 := hI43.f tf43_51
  refine r_call (i := 17) (u := 11) (v := 218) (w := 0) (b := 0) (na := 1797) (C2 := xC218) (as := [(2, 43), vi 9, vi z36, (6, 46), (6, 47)]) (s := [(2, 43)]) rfl rfl rfl rfl rfl rfl rfl (sp218 (w0 := 9) (ow := z36) (s1 := 46) (s2 := 47) hI43 ⟨by omega, by omega⟩ ⟨by omega, by omega⟩ ⟨by decide, by decide⟩ ⟨by decide, by decide⟩ (by omega) (by omega) (by omega) (by omega) (by omega) e42 (by omega)) (fun r51 S52 hq53 => ?_)
  obtain ⟨z54, rfl, h55, h56, h57, h58, h59, e60, hI61, hF62, hR63⟩ := hq53
  have hF64 := hF46.trans hF62 rfl rfl
  have hR65 := hR47.trans hR63 rfl
  refine Or.inr (Or.inl ⟨rfl, ?_⟩)
  have h66 := hI61.f tf43_43
  have h67 : S52.f 43 43 = S34.f 43 43 := hF62.f rfl
  have h68 : S34.f 43 43 = S16.f 43 43 := hF44.f rfl
  refine r_call (i := 18) (u := 11) (v := 257) (w := 0) (b := 0) (na := 514) (C2 := xC257) (as := [(2, 43), vi z54]) (s := []) rfl rfl rfl rfl rfl rfl rfl (sp257 (v := z54) hI61 ⟨by omega, by omega⟩ (by omega)  (by omega)) (fun r69 S70 hq71 => ?_)
  obtain ⟨rfl, h72, h73, hI74, hF75, hR76⟩ := hq71
  have hF77 := hF64.trans hF75 rfl rfl
  have hR78 := hR65.trans hR76 rfl
  have e79 := wLVx.fr e60 hF75 rfl rfl
  refine Or.inl ⟨rfl, ?_⟩
  have h80 := hI74.f tf43_43
  have h81 := hI74.f tf43_51
  have h82 : S70.f 43 51 = S52.f 43 51 := hF75.f rfl
  have h83 : wphi S70 = wphi S52 := wphiX.fr hF75 rfl rfl
  have h84 : wpsi S70 = wpsi S52 := wpsiX.fr hF75 rfl rfl
  exact r_ret0 (i := 19) rfl ⟨rfl, (by omega), (by omega), (by omega), (by omega), (by omega), e79, hI74, hF77, hR78⟩
/-- ProxyForgeModel.ask -/
theorem sp183 {G : xk} {S : yS} {d : Nat} (hI : yI S) {s1 : Nat} (h_s1 : yStr s1) {s2 : Nat} (h_s2 : yStr s2) {n1 : Int} (h_n1 : 0 ≤ n1 ∧ n1 ≤ 4) (p_0 : S.f 43 43 ≤ 23900) (p_1 : S.f 43 51 = 0) (p_2 : wphi S ≤ 19950) (p_3 : wpsi S ≤ 1120) (p_4 : 39 ≤ s1) (p_5 : 39 ≤ s2) (e_wLV : wLV S) (hd : 7 ≤ d) : yT xPr G LY xC183 0 [some ((2, 43)), some ((6, s1)), some ((6, s2)), some (vi n1)] [] S d (fun r S' => r = (0, (0, 0)) ∧ S.f 43 43 + 5 ≤ S'.f 43 43 ∧ S'.f 43 43 ≤ S.f 43 43 + 5 ∧ S'.f 43 51 = 0 ∧ wphi S' ≤ wphi S + 10 ∧ wpsi S' ≤ wpsi S + 2 ∧ wLV S' ∧ yI S' ∧ yFr [(43, 43), (43, 49), (43, 50), (43, 51), (43, 52), (43, 53)] [72, 73, 74, 75, 76, 77] S S' ∧ yRm [] S S') := by
  refine yT_pad 0 ?_
  show yT xPr G LY xC183 0 [some ((2, 43)), some ((6, s1)), some ((6, s2)), some (vi n1)] [] S d _
  obtain ⟨d, rfl⟩ : ∃ q, d = q + 1 := ⟨d - 1, by omega⟩
  have hF : yFr [(43, 43), (43, 49), (43, 50), (43, 51), (43, 52), (43, 53)] [72, 73, 74, 75, 76, 77] S S := yFr.refl S
  have hR : yRm [] S S := yRm.refl S
  have h1 := hI.f tf43_43
  have h2 := hI.f tf43_51
  refine r_load (i := 0) (u := 0) (w := 2) rfl rfl rfl ?_
  refine r_const (i := 1) (u := 185) (z := 185) rfl rfl ?_
  refine r_load (i := 2) (u := 3) (w := 0) rfl rfl rfl ?_
  refine r_const (i := 3) (u := 1) (z := 1) rfl rfl ?_
  refine r_call (i := 4) (u := 11) (v := 250) (w := 0) (b := 0) (na := 1028) (C2 := xC250) (as := [(2, 43), vi 185, vi n1, vi 1]) (s := []) rfl rfl rfl rfl rfl rfl rfl (sp250 (b0 := 185) (off := n1) (on := 1) hI ⟨by omega, by omega⟩ ⟨by omega, by omega⟩ ⟨by omega, by omega⟩ (by omega)  (by omega)) (fun r3 S4 hq5 => ?_)
  obtain ⟨rfl, h6, h7, hI8, hF9, hR10⟩ := hq5
  have hF11 := hF.trans hF9 rfl rfl
  have hR12 := hR.trans hR10 rfl
  have e13 := wLVx.fr e_wLV hF9 rfl rfl
  refine Or.inl ⟨rfl, ?_⟩
  refine r_load (i := 5) (u := 0) (w := 2) rfl rfl rfl ?_
  refine r_load (i := 6) (u := 0) (w := 2) rfl rfl rfl ?_
  refine r_const (i := 7) (u := 11) (z := 11) rfl rfl ?_
  refine r_load (i := 8) (u := 0) (w := 2) rfl rfl rfl ?_
  refine r_str (i := 9) (v := 60) rfl ?_
  have h14 := slv60
  have h15 := hI8.f tf43_51
  have h16 : S4.f 43 51 = S.f 43 51 := hF9.f rfl
  have h17 : wphi S4 = wphi S := wphiX.fr hF9 rfl rfl
  have h18 : wpsi S4 = wpsi S := wpsiX.fr hF9 rfl rfl
  refine r_call (i := 10) (u := 11) (v := 192) (w := 0) (b := 0) (na := 514) (C2 := xC192) (as := [(2, 43), (6, 60)]) (s := [vi 11, (2, 43), (2, 43)]) rfl rfl rfl rfl rfl rfl rfl (sp192 (s := 60) hI8 ⟨by decide, by decide⟩ (by omega) (by omega) (by omega) (by omega) e13 (by omega)) (fun r19 S20 hq21 => ?_)
  obtain ⟨z22, rfl, h23, h24, h25, h26, h27, e28, hI29, hF30, hR31⟩ := hq21
  have hF32 := hF11.trans hF30 rfl rfl
  have hR33 := hR12.trans hR31 rfl
  refine Or.inr (Or.inl ⟨rfl, ?_⟩)
  refine r_load (i := 11) (u := 1) (w := 2) rfl rfl rfl ?_
  refine r_load (i := 12) (u := 2) (w := 2) rfl rfl rfl ?_
  have h34 := hI29.f tf43_51
  refine r_call (i := 13) (u := 11) (v := 218) (w := 0) (b := 0) (na := 1797) (C2 := xC218) (as := [(2, 43), vi 11, vi z22, (6, s1), (6, s2)]) (s := [(2, 43)]) rfl rfl rfl rfl rfl rfl rfl (sp218 (w0 := 11) (ow := z22) (s1 := s1) (s2 := s2) hI29 ⟨by omega, by omega⟩ ⟨by omega, by omega⟩ h_s1 h_s2 (by omega) (by omega) (by omega) (by omega) (by omega) e28 (by omega)) (fun r35 S36 hq37 => ?_)
  obtain ⟨z38, rfl, h39, h40, h41, h42, h43, e44, hI45, hF46, hR47⟩ := hq37
  have hF48 := hF32.trans hF46 rfl rfl
  have hR49 := hR33.trans hR47 rfl
  refine Or.inr (Or.inl ⟨rfl, ?_⟩)
  have h50 := hI45.f tf43_43
  have h51 : S36.f 43 43 = S20.f 43 43 := hF46.f rfl
  have h52 : S20.f 43 43 = S4.f 43 43 := hF30.f rfl
  refine r_call (i := 14) (u := 11) (v := 257) (w := 0) (b := 0) (na := 514) (C2 := xC257) (as := [(2, 43), vi z38]) (s := []) rfl rfl rfl rfl rfl rfl rfl (sp257 (v := z38) hI45 ⟨by omega, by omega⟩ (by omega)  (by omega)) (fun r53 S54 hq55 => ?_)
  obtain ⟨rfl, h56, h57, hI58, hF59, hR60⟩ := hq55
  have hF61 := hF48.trans hF59 rfl rfl
  have hR62 := hR49.trans hR60 rfl
  have e63 := wLVx.fr e44 hF59 rfl rfl
  refine Or.inl ⟨rfl, ?_⟩
  refine r_load (i := 15) (u := 0) (w := 2) rfl rfl rfl ?_
  refine r_load (i := 16) (u := 3) (w := 0) rfl rfl rfl ?_
  have h64 := hI58.f tf43_43
  refine r_call (i := 17) (u := 11) (v := 224) (w := 0) (b := 0) (na := 514) (C2 := xC224) (as := [(2, 43), vi n1]) (s := []) rfl rfl rfl rfl rfl rfl rfl (sp224 (v := n1) hI58 ⟨by omega, by omega⟩ (by omega)  (by omega)) (fun r65 S66 hq67 => ?_)
  obtain ⟨rfl, h68, h69, hI70, hF71, hR72⟩ := hq67
  have hF73 := hF61.trans hF71 rfl rfl
  have hR74 := hR62.trans hR72 rfl
  have e75 := wLVx.fr e63 hF71 rfl rfl
  refine Or.inl ⟨rfl, ?_⟩
  refine r_load (i := 18) (u := 0) (w := 2) rfl rfl rfl ?_
  refine r_const (i := 19) (u := 0) (z := 0) rfl rfl ?_
  have h76 := hI70.f tf43_43
  refine r_call (i := 20) (u := 11) (v := 224) (w := 0) (b := 0) (na := 514) (C2 := xC224) (as := [(2, 43), vi 0]) (s := []) rfl rfl rfl rfl rfl rfl rfl (sp224 (v := 0) hI70 ⟨by omega, by omega⟩ (by omega)  (by omega)) (fun r77 S78 hq79 => ?_)
  obtain ⟨rfl, h80, h81, hI82, hF83, hR84⟩ := hq79
  have hF85 := hF73.trans hF83 rfl rfl
  have hR86 := hR74.trans hR84 rfl
  have e87 := wLVx.fr e75 hF83 rfl rfl
  refine Or.inl ⟨rfl, ?_⟩
  have h88 := hI82.f tf43_43
  have h89 := hI82.f tf43_51
  have h90 : S78.f 43 51 = S66.f 43 51 := hF83.f rfl
  have h91 : S66.f 43 51 = S54.f 43 51 := hF71.f rfl
  have h92 : S54.f 43 51 = S36.f 43 51 := hF59.f rfl
  have h93 : wphi S78 = wphi S66 := wphiX.fr hF83 rfl rfl
  have h94 : wphi S66 = wphi S54 := wphiX.fr hF71 rfl rfl
  have h95 : wphi S54 = wphi S36 := wphiX.fr hF59 rfl rfl
  have h96 : wpsi S78 = wpsi S66 := wpsiX.fr hF83 rfl rfl
  have h97 : wpsi S66 = wpsi S54 := wpsiX.fr hF71 rfl rfl
  have h98 : wpsi S54 = wpsi S36 := wpsiX.fr hF59 rfl rfl
  exact r_ret0 (i := 21) rfl ⟨rfl, (by omega), (by omega), (by omega), (by omega), (by omega), e87, hI82, hF85, hR86⟩
theorem lp207_41 {G : xk} {d : Nat} {S0 : yS} {k : Int} (h_k : 0 ≤ k ∧ k ≤ 23) {m : Int} (h_m : 0 ≤ m ∧ m ≤ 59) (p_0 : S0.f 43 43 ≤ 23700) (p_1 : S0.f 43 51 = 0) (p_2 : wphi S0 ≤ 19700) (p_3 : wpsi S0 ≤ 1090) (hd : 9 ≤ d + 1) : ∀ (n : Nat), ∀ (S : yS) (hI : yI S) (hF : yFr [(43, 43), (43, 49), (43, 50), (43, 51), (43, 52), (43, 53)] [72, 73, 74, 75, 76, 77] S0 S) (hR : yRm [] S0 S) (e_wLV : wLV S) (n1 lc j : Int) (h_n1 : 0 ≤ n1 ∧ n1 ≤ 4) (h_lc : 0 ≤ lc ∧ lc ≤ 12) (h_j : 0 ≤ j ∧ j ≤ 4) (q_0 : S0.f 43 43 + 4 ≤ S.f 43 43) (q_1 : S.f 43 43 ≤ S0.f 43 43 + 11 + 8 * j) (q_2 : S.f 43 51 = 0) (q_3 : wphi S ≤ wphi S0 + 10 + 10 * j) (q_4 : wpsi S ≤ wpsi S0 + 2 + 2 * j) (q_5 : S0.f 43 43 ≤ 23700 ∧ wphi S0 ≤ 19700 ∧ wpsi S0 ≤ 1090) (q_6 : lc ≤ 1 + 2 * j) (hn : 4 - j < (n : Nat)), yT xPr G LY xC207 41 [some ((2, 43)), some (vi k), some (vi m), some (vi n1), some (vi lc), some (vi j), none] [] S (d + 1) (fun r S' => r = (0, (0, 0)) ∧ S0.f 43 43 + 1 ≤ S'.f 43 43 ∧ S'.f 43 43 ≤ S0.f 43 43 + 55 ∧ S'.f 43 51 = 0 ∧ wphi S' ≤ wphi S0 + 70 ∧ wpsi S' ≤ wpsi S0 + 14 ∧ wLV S' ∧ yI S' ∧ yFr [(43, 43), (43, 49), (43, 50), (43, 51), (43, 52), (43, 53)] [72, 73, 74, 75, 76, 77] S0 S' ∧ yRm [] S0 S') := by
  intro n
  induction n with
  | zero => intro S hI hF hR e_wLV n1 lc j h_n1 h_lc h_j q_0 q_1 q_2 q_3 q_4 q_5 q_6 hn; exact absurd hn (by omega)
  | succ n ih =>
    intro S hI hF hR e_wLV n1 lc j h_n1 h_lc h_j q_0 q_1 q_2 q_3 q_4 q_5 q_6 hn
    have h1 := hI.f tf43_43
    have h2 := hI.f tf43_51
    refine r_load (i := 41) (u := 5) (w := 0) rfl rfl rfl ?_
    refine r_load (i := 42) (u := 3) (w := 0) rfl rfl rfl ?_
    refine c_ge (i := 43) (v := 78) rfl ⟨by omega, by omega⟩ ⟨by omega, by omega⟩ (fun h3 => ?_) (fun h4 => ?_)
    · refine r_load (i := 78) (u := 0) (w := 2) rfl rfl rfl ?_
      refine r_str (i := 79) (v := 58) rfl ?_
      have h5 := slv58
      refine r_str (i := 80) (v := 59) rfl ?_
      have h6 := slv59
      refine r_const (i := 81) (u := 4) (z := 4) rfl rfl ?_
      refine r_call (i := 82) (u := 11) (v := 183) (w := 0) (b := 0) (na := 1028) (C2 := xC183) (as := [(2, 43), (6, 58), (6, 59), vi 4]) (s := []) rfl rfl rfl rfl rfl rfl rfl (sp183 (s1 := 58) (s2 := 59) (n1 := 4) hI ⟨by decide, by decide⟩ ⟨by decide, by decide⟩ ⟨by omega, by omega⟩ (by omega) (by omega) (by omega) (by omega) (by omega) (by omega) e_wLV (by omega)) (fun r7 S8 hq9 => ?_)
      obtain ⟨rfl, h10, h11, h12, h13, h14, e15, hI16, hF17, hR18⟩ := hq9
      have hF19 := hF.trans hF17 rfl rfl
      have hR20 := hR.trans hR18 rfl
      refine Or.inl ⟨rfl, ?_⟩
      refine r_load (i := 83) (u := 0) (w := 2) rfl rfl rfl ?_
      refine r_load (i := 84) (u := 0) (w := 2) rfl rfl rfl ?_
      refine r_getf (i := 85) (v := 15) (w := 11) (x := (2, 56)) rfl ly43 rfl rfl fun _ => ?_
      refine r_load (i := 86) (u := 2) (w := 0) rfl rfl rfl ?_
      refine a_int (i := 87) rfl ly56 rfl (by omega) (by omega) fun h22 => ?_
      have h23 := hI16.a ta56 m.toNat
      have h24 : S8.a 56 m.toNat = S0.a 56 m.toNat := hF19.a rfl _
      have h25 := hI16.f tf43_43
      have h26 := hI16.f tf43_51
      refine r_call (i := 88) (u := 11) (v := 259) (w := 0) (b := 0) (na := 770) (C2 := xC259) (as := [(2, 43), vi (S8.a 56 m.toNat)]) (s := []) rfl rfl rfl rfl rfl rfl rfl (sp259 (k := S8.a 56 m.toNat) hI16 ⟨by omega, by omega⟩ (by omega) (by omega) (by omega) (by omega) e15 (by omega)) (fun r27 S28 hq29 => ?_)
      obtain ⟨rfl, h30, h31, h32, h33, h34, e35, hI36, hF37, hR38⟩ := hq29
      have hF39 := hF19.trans hF37 rfl rfl
      have hR40 := hR20.trans hR38 rfl
      refine Or.inl ⟨rfl, ?_⟩
      have h41 := hI36.f tf43_43
      have h42 := hI36.f tf43_51
      exact r_ret0 (i := 89) rfl ⟨rfl, (by omega), (by omega), (by omega), (by omega), (by omega), e35, hI36, hF39, hR40⟩
    · have kk9 := kpu hI m.toNat j (by omega) (by omega)
      refine r_load (i := 44) (u := 0) (w := 2) rfl rfl rfl ?_
      refine r_getf (i := 45) (v := 14) (w := 11) (x := (2, 55)) rfl ly43 rfl rfl fun _ => ?_
      refine r_load (i := 46) (u := 2) (w := 0) rfl rfl rfl ?_
      refine a_int (i := 47) rfl ly55 rfl (by omega) (by omega) fun h44 => ?_
      have h45 := hI.a ta55 m.toNat
      have kp46 := hI.k55 m.toNat
      have h47 : S.a 55 m.toNat = S0.a 55 m.toNat := hF.a rfl _
      refine r_load (i := 48) (u := 5) (w := 0) rfl rfl rfl ?_
      refine r_call (i := 49) (u := 65535) (v := 229) (w := 0) (b := 2) (na := 514) (C2 := xC229) (as := [vi (S.a 55 m.toNat), vi j]) (s := []) rfl rfl rfl rfl rfl rfl rfl (sp229 (a := S.a 55 m.toNat) (k := j) hI ⟨by omega, by omega⟩ ⟨by omega, by omega⟩   (by omega)) (fun r48 S49 hq50 => ?_)
      obtain ⟨z51, rfl, h52, h53, h54, rfl⟩ := hq50
      refine Or.inr (Or.inl ⟨rfl, ?_⟩)
      refine r_store (i := 50) (u := 6) (w := 0) (L1 := [some ((2, 43)), some (vi k), some (vi m), some (vi n1), some (vi lc), some (vi j), some (vi z51)]) rfl rfl rfl rfl ?_
      refine r_load (i := 51) (u := 0) (w := 2) rfl rfl rfl ?_
      refine r_const (i := 52) (u := 89) (z := 89) rfl rfl ?_
      refine r_const (i := 53) (u := 0) (z := 0) rfl rfl ?_
      refine r_const (i := 54) (u := 1) (z := 1) rfl rfl ?_
      refine r_call (i := 55) (u := 11) (v := 250) (w := 0) (b := 0) (na := 1028) (C2 := xC250) (as := [(2, 43), vi 89, vi 0, vi 1]) (s := []) rfl rfl rfl rfl rfl rfl rfl (sp250 (b0 := 89) (off := 0) (on := 1) hI ⟨by omega, by omega⟩ ⟨by omega, by omega⟩ ⟨by omega, by omega⟩ (by omega)  (by omega)) (fun r55 S56 hq57 => ?_)
      obtain ⟨rfl, h58, h59, hI60, hF61, hR62⟩ := hq57
      have hF63 := hF.trans hF61 rfl rfl
      have hR64 := hR.trans hR62 rfl
      have e65 := wLVx.fr e_wLV hF61 rfl rfl
      refine Or.inl ⟨rfl, ?_⟩
      refine r_load (i := 56) (u := 0) (w := 2) rfl rfl rfl ?_
      refine r_load (i := 57) (u := 5) (w := 0) rfl rfl rfl ?_
      have h66 := hI60.f tf43_43
      refine r_call (i := 58) (u := 11) (v := 234) (w := 0) (b := 0) (na := 514) (C2 := xC234) (as := [(2, 43), vi j]) (s := []) rfl rfl rfl rfl rfl rfl rfl (sp234 (n1 := j) hI60 ⟨by omega, by omega⟩ (by omega)  (by omega)) (fun r67 S68 hq69 => ?_)
      obtain ⟨rfl, h70, h71, h72, hI73, hF74, hR75⟩ := hq69
      have hF76 := hF63.trans hF74 rfl rfl
      have hR77 := hR64.trans hR75 rfl
      have e78 := wLVx.fr e65 hF74 rfl rfl
      refine Or.inl ⟨rfl, ?_⟩
      refine r_load (i := 59) (u := 0) (w := 2) rfl rfl rfl ?_
      refine r_load (i := 60) (u := 6) (w := 0) rfl rfl rfl ?_
      refine r_load (i := 61) (u := 4) (w := 0) rfl rfl rfl ?_
      have h79 := hI73.f tf43_43
      refine r_call (i := 62) (u := 11) (v := 214) (w := 0) (b := 0) (na := 771) (C2 := xC214) (as := [(2, 43), vi z51, vi lc]) (s := []) rfl rfl rfl rfl rfl rfl rfl (sp214 (k := z51) (l0 := lc) hI73 ⟨by omega, by omega⟩ ⟨by omega, by omega⟩ (by omega)  (by omega)) (fun r80 S81 hq82 => ?_)
      obtain ⟨rfl, h83, h84, hI85, hF86, hR87⟩ := hq82
      have hF88 := hF76.trans hF86 rfl rfl
      have hR89 := hR77.trans hR87 rfl
      have e90 := wLVx.fr e78 hF86 rfl rfl
      refine Or.inl ⟨rfl, ?_⟩
      refine r_load (i := 63) (u := 0) (w := 2) rfl rfl rfl ?_
      refine r_load (i := 64) (u := 6) (w := 0) rfl rfl rfl ?_
      have h91 := hI85.f tf43_43
      have h92 := hI85.f tf43_51
      have h93 : S81.f 43 51 = S68.f 43 51 := hF86.f rfl
      have h94 : S68.f 43 51 = S56.f 43 51 := hF74.f rfl
      have h95 : S56.f 43 51 = S.f 43 51 := hF61.f rfl
      have h96 : wphi S81 = wphi S68 := wphiX.fr hF86 rfl rfl
      have h97 : wphi S68 = wphi S56 := wphiX.fr hF74 rfl rfl
      have h98 : wphi S56 = wphi S := wphiX.fr hF61 rfl rfl
      have h99 : wpsi S81 = wpsi S68 := wpsiX.fr hF86 rfl rfl
      have h100 : wpsi S68 = wpsi S56 := wpsiX.fr hF74 rfl rfl
      have h101 : wpsi S56 = wpsi S := wpsiX.fr hF61 rfl rfl
      refine r_call (i := 65) (u := 11) (v := 186) (w := 0) (b := 0) (na := 770) (C2 := xC186) (as := [(2, 43), vi z51]) (s := []) rfl rfl rfl rfl rfl rfl rfl (sp186 (k := z51) hI85 ⟨by omega, by omega⟩ (by omega) (by omega) (by omega) (by omega) e90 (by omega)) (fun r102 S103 hq104 => ?_)
      obtain ⟨rfl, h105, h106, h107, h108, h109, e110, hI111, hF112, hR113⟩ := hq104
      have hF114 := hF88.trans hF112 rfl rfl
      have hR115 := hR89.trans hR113 rfl
      refine Or.inl ⟨rfl, ?_⟩
      refine r_load (i := 66) (u := 0) (w := 2) rfl rfl rfl ?_
      refine r_const (i := 67) (u := 83) (z := 83) rfl rfl ?_
      refine r_const (i := 68) (u := 3) (z := 3) rfl rfl ?_
      refine r_const (i := 69) (u := 0) (z := 0) rfl rfl ?_
      have h116 := hI111.f tf43_43
      refine r_call (i := 70) (u := 11) (v := 250) (w := 0) (b := 0) (na := 1028) (C2 := xC250) (as := [(2, 43), vi 83, vi 3, vi 0]) (s := []) rfl rfl rfl rfl rfl rfl rfl (sp250 (b0 := 83) (off := 3) (on := 0) hI111 ⟨by omega, by omega⟩ ⟨by omega, by omega⟩ ⟨by omega, by omega⟩ (by omega)  (by omega)) (fun r117 S118 hq119 => ?_)
      obtain ⟨rfl, h120, h121, hI122, hF123, hR124⟩ := hq119
      have hF125 := hF114.trans hF123 rfl rfl
      have hR126 := hR115.trans hR124 rfl
      have e127 := wLVx.fr e110 hF123 rfl rfl
      refine Or.inl ⟨rfl, ?_⟩
      refine r_load (i := 71) (u := 4) (w := 0) rfl rfl rfl ?_
      refine r_load (i := 72) (u := 6) (w := 0) rfl rfl rfl ?_
      refine r_call (i := 73) (u := 65535) (v := 262) (w := 0) (b := 2) (na := 257) (C2 := xC262) (as := [vi z51]) (s := [vi lc]) rfl rfl rfl rfl rfl rfl rfl (sp262 (k := z51) hI122 ⟨by omega, by omega⟩   (by omega)) (fun r128 S129 hq130 => ?_)
      obtain ⟨z131, rfl, h132, h133, rfl⟩ := hq130
      refine Or.inr (Or.inl ⟨rfl, ?_⟩)
      refine r_iadd (i := 74) rfl ?_
      refine r_store (i := 75) (u := 4) (w := 0) (L1 := [some ((2, 43)), some (vi k), some (vi m), some (vi n1), some (vi (lc + z131)), some (vi j), some (vi z51)]) rfl rfl rfl rfl ?_
      refine r_iinc (i := 76) (u := 1) (v := 5) (s := 1) (L1 := [some ((2, 43)), some (vi k), some (vi m), some (vi n1), some (vi (lc + z131)), some (vi (j + 1)), some (vi z51)]) rfl rfl rfl rfl rfl ?_
      refine r_goto (i := 77) (v := 41) rfl ?_
      refine yT_drop (L1 := [some ((2, 43)), some (vi k), some (vi m), some (vi n1), some (vi (lc + z131)), some (vi (j + 1)), none]) rfl ?_
      have h134 := hI122.f tf43_43
      have h135 := hI122.f tf43_51
      have h136 : S118.f 43 51 = S103.f 43 51 := hF123.f rfl
      have h137 : wphi S118 = wphi S103 := wphiX.fr hF123 rfl rfl
      have h138 : wpsi S118 = wpsi S103 := wpsiX.fr hF123 rfl rfl
      exact ih S118 hI122 hF125 hR126 e127 n1 (lc + z131) (j + 1) ⟨by omega, by omega⟩ ⟨by omega, by omega⟩ ⟨by omega, by omega⟩ (by omega) (by omega) (by omega) (by omega) (by omega) (by omega) (by omega) (by omega)
theorem lp207_37 {G : xk} {d : Nat} {S0 : yS} {k : Int} (h_k : 0 ≤ k ∧ k ≤ 23) {m : Int} (h_m : 0 ≤ m ∧ m ≤ 59) (p_0 : S0.f 43 43 ≤ 23700) (p_1 : S0.f 43 51 = 0) (p_2 : wphi S0 ≤ 19700) (p_3 : wpsi S0 ≤ 1090) (hd : 9 ≤ d + 1) : ∀ (S : yS) (hI : yI S) (hF : yFr [(43, 43), (43, 49), (43, 50), (43, 51), (43, 52), (43, 53)] [72, 73, 74, 75, 76, 77] S0 S) (hR : yRm [] S0 S) (e_wLV : wLV S) (n1 : Int) (h_n1 : 0 ≤ n1 ∧ n1 ≤ 4) (q_0 : S0.f 43 43 + 4 ≤ S.f 43 43) (q_1 : S.f 43 43 ≤ S0.f 43 43 + 11) (q_2 : S.f 43 51 = 0) (q_3 : wphi S ≤ wphi S0 + 10) (q_4 : wpsi S ≤ wpsi S0 + 2) (q_5 : S0.f 43 43 ≤ 23700 ∧ wphi S0 ≤ 19700 ∧ wpsi S0 ≤ 1090), yT xPr G LY xC207 37 [some ((2, 43)), some (vi k), some (vi m), some (vi n1), none, none, none] [] S (d + 1) (fun r S' => r = (0, (0, 0)) ∧ S0.f 43 43 + 1 ≤ S'.f 43 43 ∧ S'.f 43 43 ≤ S0.f 43 43 + 55 ∧ S'.f 43 51 = 0 ∧ wphi S' ≤ wphi S0 + 70 ∧ wpsi S' ≤ wpsi S0 + 14 ∧ wLV S' ∧ yI S' ∧ yFr [(43, 43), (43, 49), (43, 50), (43, 51), (43, 52), (43, 53)] [72, 73, 74, 75, 76, 77] S0 S' ∧ yRm [] S0 S') := by
  intro S hI hF hR e_wLV n1 h_n1 q_0 q_1 q_2 q_3 q_4 q_5
  have h1 := hI.f tf43_43
  have h2 := hI.f tf43_51
  refine r_const (i := 37) (u := 1) (z := 1) rfl rfl ?_
  refine r_store (i := 38) (u := 4) (w := 0) (L1 := [some ((2, 43)), some (vi k), some (vi m), some (vi n1), some (vi 1), none, none]) rfl rfl rfl rfl ?_
  refine r_const (i := 39) (u := 0) (z := 0) rfl rfl ?_
  refine r_store (i := 40) (u := 5) (w := 0) (L1 := [some ((2, 43)), some (vi k), some (vi m), some (vi n1), some (vi 1), some (vi 0), none]) rfl rfl rfl rfl ?_
  exact lp207_41 h_k h_m p_0 p_1 p_2 p_3 hd _ S hI hF hR e_wLV n1 1 0 ⟨by omega, by omega⟩ ⟨by omega, by omega⟩ ⟨by omega, by omega⟩ (by omega) (by omega) (by omega) (by omega) (by omega) (by omega) (by omega) (Int.lt_succ_toNat _)
/-- ProxyForgeModel.intercepted -/
theorem sp207 {G : xk} {S : yS} {d : Nat} (hI : yI S) {k : Int} (h_k : 0 ≤ k ∧ k ≤ 23) {m : Int} (h_m : 0 ≤ m ∧ m ≤ 59) (p_0 : S.f 43 43 ≤ 23700) (p_1 : S.f 43 51 = 0) (p_2 : wphi S ≤ 19700) (p_3 : wpsi S ≤ 1090) (e_wLV : wLV S) (hd : 9 ≤ d) : yT xPr G LY xC207 0 [some ((2, 43)), some (vi k), some (vi m)] [] S d (fun r S' => r = (0, (0, 0)) ∧ S.f 43 43 + 1 ≤ S'.f 43 43 ∧ S'.f 43 43 ≤ S.f 43 43 + 55 ∧ S'.f 43 51 = 0 ∧ wphi S' ≤ wphi S + 70 ∧ wpsi S' ≤ wpsi S + 14 ∧ wLV S' ∧ yI S' ∧ yFr [(43, 43), (43, 49), (43, 50), (43, 51), (43, 52), (43, 53)] [72, 73, 74, 75, 76, 77] S S' ∧ yRm [] S S') := by
  refine yT_pad 4 ?_
  show yT xPr G LY xC207 0 [some ((2, 43)), some (vi k), some (vi m), none, none, none, none] [] S d _
  obtain ⟨d, rfl⟩ : ∃ q, d = q + 1 := ⟨d - 1, by omega⟩
  have hF : yFr [(43, 43), (43, 49), (43, 50), (43, 51), (43, 52), (43, 53)] [72, 73, 74, 75, 76, 77] S S := yFr.refl S
  have hR : yRm [] S S := yRm.refl S
  have h1 := hI.f tf43_43
  have h2 := hI.f tf43_51
  refine r_load (i := 0) (u := 0) (w := 2) rfl rfl rfl ?_
  refine r_call (i := 1) (u := 11) (v := 202) (w := 0) (b := 0) (na := 257) (C2 := xC202) (as := [(2, 43)]) (s := []) rfl rfl rfl rfl rfl rfl rfl (sp202  hI  (by omega) (by omega) (by omega) (by omega) e_wLV (by omega)) (fun r3 S4 hq5 => ?_)
  obtain ⟨rfl, h6, h7, h8, h9, h10, e11, hI12, hF13, hR14⟩ := hq5
  have hF15 := hF.trans hF13 rfl rfl
  have hR16 := hR.trans hR14 rfl
  refine Or.inl ⟨rfl, ?_⟩
  refine r_load (i := 2) (u := 0) (w := 2) rfl rfl rfl ?_
  refine r_const (i := 3) (u := 42) (z := 42) rfl rfl ?_
  refine r_const (i := 4) (u := 0) (z := 0) rfl rfl ?_
  refine r_const (i := 5) (u := 1) (z := 1) rfl rfl ?_
  have h17 := hI12.f tf43_43
  refine r_call (i := 6) (u := 11) (v := 250) (w := 0) (b := 0) (na := 1028) (C2 := xC250) (as := [(2, 43), vi 42, vi 0, vi 1]) (s := []) rfl rfl rfl rfl rfl rfl rfl (sp250 (b0 := 42) (off := 0) (on := 1) hI12 ⟨by omega, by omega⟩ ⟨by omega, by omega⟩ ⟨by omega, by omega⟩ (by omega)  (by omega)) (fun r18 S19 hq20 => ?_)
  obtain ⟨rfl, h21, h22, hI23, hF24, hR25⟩ := hq20
  have hF26 := hF15.trans hF24 rfl rfl
  have hR27 := hR16.trans hR25 rfl
  have e28 := wLVx.fr e11 hF24 rfl rfl
  refine Or.inl ⟨rfl, ?_⟩
  refine r_load (i := 7) (u := 0) (w := 2) rfl rfl rfl ?_
  refine r_load (i := 8) (u := 1) (w := 0) rfl rfl rfl ?_
  have h29 := hI23.f tf43_43
  refine r_call (i := 9) (u := 11) (v := 234) (w := 0) (b := 0) (na := 514) (C2 := xC234) (as := [(2, 43), vi k]) (s := []) rfl rfl rfl rfl rfl rfl rfl (sp234 (n1 := k) hI23 ⟨by omega, by omega⟩ (by omega)  (by omega)) (fun r30 S31 hq32 => ?_)
  obtain ⟨rfl, h33, h34, h35, hI36, hF37, hR38⟩ := hq32
  have hF39 := hF26.trans hF37 rfl rfl
  have hR40 := hR27.trans hR38 rfl
  have e41 := wLVx.fr e28 hF37 rfl rfl
  refine Or.inl ⟨rfl, ?_⟩
  refine r_load (i := 10) (u := 0) (w := 2) rfl rfl rfl ?_
  refine r_getf (i := 11) (v := 14) (w := 11) (x := (2, 55)) rfl ly43 rfl rfl fun _ => ?_
  refine r_load (i := 12) (u := 2) (w := 0) rfl rfl rfl ?_
  refine a_int (i := 13) rfl ly55 rfl (by omega) (by omega) fun h43 => ?_
  have h44 := hI36.a ta55 m.toNat
  have kp45 := hI36.k55 m.toNat
  have h46 : S31.a 55 m.toNat = S.a 55 m.toNat := hF39.a rfl _
  refine r_call (i := 14) (u := 65535) (v := 216) (w := 0) (b := 2) (na := 513) (C2 := xC216) (as := [vi (S31.a 55 m.toNat)]) (s := []) rfl rfl rfl rfl rfl rfl rfl (sp216 (a := S31.a 55 m.toNat) hI36 ⟨by omega, by omega⟩   (by omega)) (fun r47 S48 hq49 => ?_)
  obtain ⟨z50, rfl, h51, h52, hmn53, rfl⟩ := hq49
  refine Or.inr (Or.inl ⟨rfl, ?_⟩)
  refine r_store (i := 15) (u := 3) (w := 0) (L1 := [some ((2, 43)), some (vi k), some (vi m), some (vi z50), none, none, none]) rfl rfl rfl rfl ?_
  refine r_load (i := 16) (u := 3) (w := 0) rfl rfl rfl ?_
  refine z_ne (i := 17) (v := 24) rfl ⟨by omega, by omega⟩ (fun h54 => ?_) (fun h55 => ?_)
  · refine r_load (i := 24) (u := 0) (w := 2) rfl rfl rfl ?_
    refine r_load (i := 25) (u := 3) (w := 0) rfl rfl rfl ?_
    have h56 := hI36.f tf43_43
    refine r_call (i := 26) (u := 11) (v := 234) (w := 0) (b := 0) (na := 514) (C2 := xC234) (as := [(2, 43), vi z50]) (s := []) rfl rfl rfl rfl rfl rfl rfl (sp234 (n1 := z50) hI36 ⟨by omega, by omega⟩ (by omega)  (by omega)) (fun r57 S58 hq59 => ?_)
    obtain ⟨rfl, h60, h61, h62, hI63, hF64, hR65⟩ := hq59
    have hF66 := hF39.trans hF64 rfl rfl
    have hR67 := hR40.trans hR65 rfl
    have e68 := wLVx.fr e41 hF64 rfl rfl
    refine Or.inl ⟨rfl, ?_⟩
    refine r_load (i := 27) (u := 0) (w := 2) rfl rfl rfl ?_
    refine r_const (i := 28) (u := 189) (z := 189) rfl rfl ?_
    refine r_const (i := 29) (u := 1) (z := 1) rfl rfl ?_
    refine r_const (i := 30) (u := 1) (z := 1) rfl rfl ?_
    have h69 := hI63.f tf43_43
    refine r_call (i := 31) (u := 11) (v := 250) (w := 0) (b := 0) (na := 1028) (C2 := xC250) (as := [(2, 43), vi 189, vi 1, vi 1]) (s := []) rfl rfl rfl rfl rfl rfl rfl (sp250 (b0 := 189) (off := 1) (on := 1) hI63 ⟨by omega, by omega⟩ ⟨by omega, by omega⟩ ⟨by omega, by omega⟩ (by omega)  (by omega)) (fun r70 S71 hq72 => ?_)
    obtain ⟨rfl, h73, h74, hI75, hF76, hR77⟩ := hq72
    have hF78 := hF66.trans hF76 rfl rfl
    have hR79 := hR67.trans hR77 rfl
    have e80 := wLVx.fr e68 hF76 rfl rfl
    refine Or.inl ⟨rfl, ?_⟩
    refine r_load (i := 32) (u := 0) (w := 2) rfl rfl rfl ?_
    refine r_load (i := 33) (u := 0) (w := 2) rfl rfl rfl ?_
    refine r_str (i := 34) (v := 41) rfl ?_
    have h81 := slv41
    have h82 := hI75.f tf43_51
    have h83 : S71.f 43 51 = S58.f 43 51 := hF76.f rfl
    have h84 : S58.f 43 51 = S31.f 43 51 := hF64.f rfl
    have h85 : S31.f 43 51 = S19.f 43 51 := hF37.f rfl
    have h86 : S19.f 43 51 = S4.f 43 51 := hF24.f rfl
    have h87 : wphi S71 = wphi S58 := wphiX.fr hF76 rfl rfl
    have h88 : wphi S58 = wphi S31 := wphiX.fr hF64 rfl rfl
    have h89 : wphi S31 = wphi S19 := wphiX.fr hF37 rfl rfl
    have h90 : wphi S19 = wphi S4 := wphiX.fr hF24 rfl rfl
    have h91 : wpsi S71 = wpsi S58 := wpsiX.fr hF76 rfl rfl
    have h92 : wpsi S58 = wpsi S31 := wpsiX.fr hF64 rfl rfl
    have h93 : wpsi S31 = wpsi S19 := wpsiX.fr hF37 rfl rfl
    have h94 : wpsi S19 = wpsi S4 := wpsiX.fr hF24 rfl rfl
    refine r_call (i := 35) (u := 11) (v := 192) (w := 0) (b := 0) (na := 514) (C2 := xC192) (as := [(2, 43), (6, 41)]) (s := [(2, 43)]) rfl rfl rfl rfl rfl rfl rfl (sp192 (s := 41) hI75 ⟨by decide, by decide⟩ (by omega) (by omega) (by omega) (by omega) e80 (by omega)) (fun r95 S96 hq97 => ?_)
    obtain ⟨z98, rfl, h99, h100, h101, h102, h103, e104, hI105, hF106, hR107⟩ := hq97
    have hF108 := hF78.trans hF106 rfl rfl
    have hR109 := hR79.trans hR107 rfl
    refine Or.inr (Or.inl ⟨rfl, ?_⟩)
    have h110 := hI105.f tf43_43
    have h111 : S96.f 43 43 = S71.f 43 43 := hF106.f rfl
    refine r_call (i := 36) (u := 11) (v := 257) (w := 0) (b := 0) (na := 514) (C2 := xC257) (as := [(2, 43), vi z98]) (s := []) rfl rfl rfl rfl rfl rfl rfl (sp257 (v := z98) hI105 ⟨by omega, by omega⟩ (by omega)  (by omega)) (fun r112 S113 hq114 => ?_)
    obtain ⟨rfl, h115, h116, hI117, hF118, hR119⟩ := hq114
    have hF120 := hF108.trans hF118 rfl rfl
    have hR121 := hR109.trans hR119 rfl
    have e122 := wLVx.fr e104 hF118 rfl rfl
    refine Or.inl ⟨rfl, ?_⟩
    have h123 := hI117.f tf43_43
    have h124 := hI117.f tf43_51
    have h125 : S113.f 43 51 = S96.f 43 51 := hF118.f rfl
    have h126 : wphi S113 = wphi S96 := wphiX.fr hF118 rfl rfl
    have h127 : wpsi S113 = wpsi S96 := wpsiX.fr hF118 rfl rfl
    exact lp207_37 h_k h_m p_0 p_1 p_2 p_3 hd S113 hI117 hF120 hR121 e122 z50 ⟨by omega, by omega⟩ (by omega) (by omega) (by omega) (by omega) (by omega) (by omega) 
  · refine r_load (i := 18) (u := 0) (w := 2) rfl rfl rfl ?_
    refine r_const (i := 19) (u := 1) (z := 1) rfl rfl ?_
    refine r_const (i := 20) (u := 0) (z := 0) rfl rfl ?_
    refine r_const (i := 21) (u := 1) (z := 1) rfl rfl ?_
    have h128 := hI36.f tf43_43
    refine r_call (i := 22) (u := 11) (v := 250) (w := 0) (b := 0) (na := 1028) (C2 := xC250) (as := [(2, 43), vi 1, vi 0, vi 1]) (s := []) rfl rfl rfl rfl rfl rfl rfl (sp250 (b0 := 1) (off := 0) (on := 1) hI36 ⟨by omega, by omega⟩ ⟨by omega, by omega⟩ ⟨by omega, by omega⟩ (by omega)  (by omega)) (fun r129 S130 hq131 => ?_)
    obtain ⟨rfl, h132, h133, hI134, hF135, hR136⟩ := hq131
    have hF137 := hF39.trans hF135 rfl rfl
    have hR138 := hR40.trans hR136 rfl
    have e139 := wLVx.fr e41 hF135 rfl rfl
    refine Or.inl ⟨rfl, ?_⟩
    refine r_goto (i := 23) (v := 37) rfl ?_
    have h140 := hI134.f tf43_43
    have h141 := hI134.f tf43_51
    have h142 : S130.f 43 51 = S31.f 43 51 := hF135.f rfl
    have h143 : S31.f 43 51 = S19.f 43 51 := hF37.f rfl
    have h144 : S19.f 43 51 = S4.f 43 51 := hF24.f rfl
    have h145 : wphi S130 = wphi S31 := wphiX.fr hF135 rfl rfl
    have h146 : wphi S31 = wphi S19 := wphiX.fr hF37 rfl rfl
    have h147 : wphi S19 = wphi S4 := wphiX.fr hF24 rfl rfl
    have h148 : wpsi S130 = wpsi S31 := wpsiX.fr hF135 rfl rfl
    have h149 : wpsi S31 = wpsi S19 := wpsiX.fr hF37 rfl rfl
    have h150 : wpsi S19 = wpsi S4 := wpsiX.fr hF24 rfl rfl
    exact lp207_37 h_k h_m p_0 p_1 p_2 p_3 hd S130 hI134 hF137 hR138 e139 z50 ⟨by omega, by omega⟩ (by omega) (by omega) (by omega) (by omega) (by omega) (by omega) 
theorem lp189_122 {G : xk} {d : Nat} {S0 : yS} {k : Int} (h_k : 0 ≤ k ∧ k ≤ 23) {m : Int} (h_m : 0 ≤ m ∧ m ≤ 59) (p_0 : S0.f 43 43 ≤ 23700) (p_1 : S0.f 43 51 = 0) (p_2 : wphi S0 ≤ 19700) (p_3 : wpsi S0 ≤ 1090) (hd : 9 ≤ d + 1) : ∀ (S : yS) (hI : yI S) (hF : yFr [(43, 43), (43, 49), (43, 50), (43, 51), (43, 52), (43, 53)] [68, 72, 73, 74, 75, 76, 77] S0 S) (hR : yRm [] S0 S) (e_wLV : wLV S) (e_wAS : wAS S)  (q_0 : S0.f 43 43 + 0 ≤ S.f 43 43) (q_1 : S.f 43 43 ≤ S0.f 43 43 + 13) (q_2 : S.f 43 51 = 0) (q_3 : wphi S ≤ wphi S0 + 155) (q_4 : wpsi S ≤ wpsi S0 + 3) (q_5 : S0.f 43 43 ≤ 23700 ∧ wphi S0 ≤ 19700 ∧ wpsi S0 ≤ 1090), yT xPr G LY xC189 122 [some ((2, 43)), some (vi k), some (vi m), none, none, none] [] S (d + 1) (fun r S' => r = (0, (0, 0)) ∧ S0.f 43 43 + 1 ≤ S'.f 43 43 ∧ S'.f 43 43 ≤ S0.f 43 43 + 14 ∧ S'.f 43 51 = 0 ∧ wphi S' ≤ wphi S0 + 155 ∧ wpsi S' ≤ wpsi S0 + 3 ∧ wLV S' ∧ wAS S' ∧ yI S' ∧ yFr [(43, 43), (43, 49), (43, 50), (43, 51), (43, 52), (43, 53)] [68, 72, 73, 74, 75, 76, 77] S0 S' ∧ yRm [] S0 S') := by
  intro S hI hF hR e_wLV e_wAS   q_0 q_1 q_2 q_3 q_4 q_5
  have h1 := hI.f tf43_43
  have h2 := hI.f tf43_51
  refine r_load (i := 122) (u := 0) (w := 2) rfl rfl rfl ?_
  refine r_load (i := 123) (u := 0) (w := 2) rfl rfl rfl ?_
  refine r_getf (i := 124) (v := 15) (w := 11) (x := (2, 56)) rfl ly43 rfl rfl fun _ => ?_
  refine r_load (i := 125) (u := 2) (w := 0) rfl rfl rfl ?_
  refine a_int (i := 126) rfl ly56 rfl (by omega) (by omega) fun h4 => ?_
  have h5 := hI.a ta56 m.toNat
  have h6 : S.a 56 m.toNat = S0.a 56 m.toNat := hF.a rfl _
  refine r_call (i := 127) (u := 11) (v := 240) (w := 0) (b := 0) (na := 514) (C2 := xC240) (as := [(2, 43), vi (S.a 56 m.toNat)]) (s := []) rfl rfl rfl rfl rfl rfl rfl (sp240 (k := S.a 56 m.toNat) hI ⟨by omega, by omega⟩ (by omega)  (by omega)) (fun r7 S8 hq9 => ?_)
  obtain ⟨rfl, h10, h11, hI12, hF13, hR14⟩ := hq9
  have hF15 := hF.trans hF13 rfl rfl
  have hR16 := hR.trans hR14 rfl
  have e17 := wLVx.fr e_wLV hF13 rfl rfl
  have e18 := wASx.fr e_wAS hF13 rfl rfl
  refine Or.inl ⟨rfl, ?_⟩
  have h19 := hI12.f tf43_43
  have h20 := hI12.f tf43_51
  have h21 : S8.f 43 51 = S.f 43 51 := hF13.f rfl
  have h22 : wphi S8 = wphi S := wphiX.fr hF13 rfl rfl
  have h23 : wpsi S8 = wpsi S := wpsiX.fr hF13 rfl rfl
  exact r_ret0 (i := 128) rfl ⟨rfl, (by omega), (by omega), (by omega), (by omega), (by omega), e17, e18, hI12, hF15, hR16⟩
theorem lp189_116 {G : xk} {d : Nat} {S0 : yS} {k : Int} (h_k : 0 ≤ k ∧ k ≤ 23) {m : Int} (h_m : 0 ≤ m ∧ m ≤ 59) (p_0 : S0.f 43 43 ≤ 23700) (p_1 : S0.f 43 51 = 0) (p_2 : wphi S0 ≤ 19700) (p_3 : wpsi S0 ≤ 1090) (hd : 9 ≤ d + 1) : ∀ (S : yS) (hI : yI S) (hF : yFr [(43, 43), (43, 49), (43, 50), (43, 51), (43, 52), (43, 53)] [68, 72, 73, 74, 75, 76, 77] S0 S) (hR : yRm [] S0 S) (e_wLV : wLV S) (e_wAS : wAS S) (of1 c0 : Int) (h_of1 : 0 ≤ of1 ∧ of1 ≤ 19) (h_c0 : 10 ≤ c0 ∧ c0 ≤ 11) (q_0 : S0.f 43 43 + 0 ≤ S.f 43 43) (q_1 : S.f 43 43 ≤ S0.f 43 43 + 9) (q_2 : S.f 43 51 = 0) (q_3 : wphi S ≤ wphi S0 + 0) (q_4 : wpsi S ≤ wpsi S0 + 0) (q_5 : S0.f 43 43 ≤ 23700 ∧ wphi S0 ≤ 19700 ∧ wpsi S0 ≤ 1090), yT xPr G LY xC189 116 [some ((2, 43)), some (vi k), some (vi m), none, some (vi of1), none] [vi c0, (2, 43), (2, 43)] S (d + 1) (fun r S' => r = (0, (0, 0)) ∧ S0.f 43 43 + 1 ≤ S'.f 43 43 ∧ S'.f 43 43 ≤ S0.f 43 43 + 14 ∧ S'.f 43 51 = 0 ∧ wphi S' ≤ wphi S0 + 155 ∧ wpsi S' ≤ wpsi S0 + 3 ∧ wLV S' ∧ wAS S' ∧ yI S' ∧ yFr [(43, 43), (43, 49), (43, 50), (43, 51), (43, 52), (43, 53)] [68, 72, 73, 74, 75, 76, 77] S0 S' ∧ yRm [] S0 S') := by
  intro S hI hF hR e_wLV e_wAS of1 c0 h_of1 h_c0 q_0 q_1 q_2 q_3 q_4 q_5
  have h1 := hI.f tf43_43
  have h2 := hI.f tf43_51
  refine r_load (i := 116) (u := 0) (w := 2) rfl rfl rfl ?_
  refine r_load (i := 117) (u := 4) (w := 0) rfl rfl rfl ?_
  refine r_call (i := 118) (u := 11) (v := 193) (w := 0) (b := 0) (na := 514) (C2 := xC193) (as := [(2, 43), vi of1]) (s := [vi c0, (2, 43), (2, 43)]) rfl rfl rfl rfl rfl rfl rfl (sp193 (t := of1) hI ⟨by omega, by omega⟩ (by omega) (by omega) (by omega) e_wLV (by omega)) (fun r3 S4 hq5 => ?_)
  obtain ⟨z6, rfl, h7, h8, h9, h10, h11, e12, hI13, hF14, hR15⟩ := hq5
  have hF16 := hF.trans hF14 rfl rfl
  have hR17 := hR.trans hR15 rfl
  have e18 := wASx.fr e_wAS hF14 rfl rfl
  refine Or.inr (Or.inl ⟨rfl, ?_⟩)
  refine r_load (i := 119) (u := 2) (w := 0) rfl rfl rfl ?_
  have h19 := hI13.f tf43_51
  have h20 := hI13.a ta56 m.toNat
  have h21 : S4.a 56 m.toNat = S0.a 56 m.toNat := hF16.a rfl _
  refine r_call (i := 120) (u := 11) (v := 219) (w := 0) (b := 0) (na := 1540) (C2 := xC219) (as := [(2, 43), vi c0, vi z6, vi m]) (s := [(2, 43)]) rfl rfl rfl rfl rfl rfl rfl (sp219 (w0 := c0) (ow := z6) (m := m) hI13 ⟨by omega, by omega⟩ ⟨by omega, by omega⟩ ⟨by omega, by omega⟩ (by omega) (by omega) (by omega) e12 (by omega)) (fun r22 S23 hq24 => ?_)
  obtain ⟨z25, rfl, h26, h27, h28, h29, h30, h31, e32, hI33, hF34, hR35⟩ := hq24
  have hF36 := hF16.trans hF34 rfl rfl
  have hR37 := hR17.trans hR35 rfl
  have e38 := wASx.fr e18 hF34 rfl rfl
  refine Or.inr (Or.inl ⟨rfl, ?_⟩)
  have h39 := hI33.f tf43_43
  have h40 : S23.f 43 43 = S4.f 43 43 := hF34.f rfl
  have h41 : S4.f 43 43 = S.f 43 43 := hF14.f rfl
  refine r_call (i := 121) (u := 11) (v := 257) (w := 0) (b := 0) (na := 514) (C2 := xC257) (as := [(2, 43), vi z25]) (s := []) rfl rfl rfl rfl rfl rfl rfl (sp257 (v := z25) hI33 ⟨by omega, by omega⟩ (by omega)  (by omega)) (fun r42 S43 hq44 => ?_)
  obtain ⟨rfl, h45, h46, hI47, hF48, hR49⟩ := hq44
  have hF50 := hF36.trans hF48 rfl rfl
  have hR51 := hR37.trans hR49 rfl
  have e52 := wASx.fr e38 hF48 rfl rfl
  have e53 := wLVx.fr e32 hF48 rfl rfl
  refine Or.inl ⟨rfl, ?_⟩
  refine yT_drop (L1 := [some ((2, 43)), some (vi k), some (vi m), none, none, none]) rfl ?_
  have h54 := hI47.f tf43_43
  have h55 := hI47.f tf43_51
  have h56 : S43.f 43 51 = S23.f 43 51 := hF48.f rfl
  have h57 : wphi S43 = wphi S23 := wphiX.fr hF48 rfl rfl
  have h58 : wpsi S43 = wpsi S23 := wpsiX.fr hF48 rfl rfl
  exact lp189_122 h_k h_m p_0 p_1 p_2 p_3 hd S43 hI47 hF50 hR51 e53 e52   (by omega) (by omega) (by omega) (by omega) (by omega) (by omega) 
theorem lp189_79 {G : xk} {d : Nat} {S0 : yS} {k : Int} (h_k : 0 ≤ k ∧ k ≤ 23) {m : Int} (h_m : 0 ≤ m ∧ m ≤ 59) (p_0 : S0.f 43 43 ≤ 23700) (p_1 : S0.f 43 51 = 0) (p_2 : wphi S0 ≤ 19700) (p_3 : wpsi S0 ≤ 1090) (hd : 9 ≤ d + 1) : ∀ (n : Nat), ∀ (S : yS) (hI : yI S) (hF : yFr [(43, 43), (43, 49), (43, 50), (43, 51), (43, 52), (43, 53)] [68, 72, 73, 74, 75, 76, 77] S0 S) (hR : yRm [] S0 S) (e_wLV : wLV S) (e_wAS : wAS S) (of1 j : Int) (h_of1 : 0 ≤ of1 ∧ of1 ≤ 19) (h_j : -1 ≤ j ∧ j ≤ 2) (q_0 : S0.f 43 43 + 0 ≤ S.f 43 43) (q_1 : S.f 43 43 ≤ S0.f 43 43 + 9) (q_2 : S.f 43 51 = 0) (q_3 : wphi S ≤ wphi S0 + 0) (q_4 : wpsi S ≤ wpsi S0 + 0) (q_5 : S0.f 43 43 ≤ 23700 ∧ wphi S0 ≤ 19700 ∧ wpsi S0 ≤ 1090) (q_6 : j < S.f 43 22) (hn : j + 1 < (n : Nat)), yT xPr G LY xC189 79 [some ((2, 43)), some (vi k), some (vi m), none, some (vi of1), some (vi j)] [] S (d + 1) (fun r S' => r = (0, (0, 0)) ∧ S0.f 43 43 + 1 ≤ S'.f 43 43 ∧ S'.f 43 43 ≤ S0.f 43 43 + 14 ∧ S'.f 43 51 = 0 ∧ wphi S' ≤ wphi S0 + 155 ∧ wpsi S' ≤ wpsi S0 + 3 ∧ wLV S' ∧ wAS S' ∧ yI S' ∧ yFr [(43, 43), (43, 49), (43, 50), (43, 51), (43, 52), (43, 53)] [68, 72, 73, 74, 75, 76, 77] S0 S' ∧ yRm [] S0 S') := by
  intro n
  induction n with
  | zero => intro S hI hF hR e_wLV e_wAS of1 j h_of1 h_j q_0 q_1 q_2 q_3 q_4 q_5 q_6 hn; exact absurd hn (by omega)
  | succ n ih =>
    intro S hI hF hR e_wLV e_wAS of1 j h_of1 h_j q_0 q_1 q_2 q_3 q_4 q_5 q_6 hn
    have h1 := hI.f tf43_43
    have h2 := hI.f tf43_51
    have h3 := hI.f tf43_22
    have h4 : S.f 43 22 = S0.f 43 22 := hF.f rfl
    refine r_load (i := 79) (u := 5) (w := 0) rfl rfl rfl ?_
    refine z_lt (i := 80) (v := 106) rfl ⟨by omega, by omega⟩ (fun h5 => ?_) (fun h6 => ?_)
    · refine r_load (i := 106) (u := 0) (w := 2) rfl rfl rfl ?_
      refine r_load (i := 107) (u := 0) (w := 2) rfl rfl rfl ?_
      refine r_load (i := 108) (u := 0) (w := 2) rfl rfl rfl ?_
      refine r_getf (i := 109) (v := 28) (w := 11) (x := (2, 65)) rfl ly43 rfl rfl fun _ => ?_
      refine r_load (i := 110) (u := 1) (w := 0) rfl rfl rfl ?_
      refine a_bool (i := 111) rfl ly65 rfl (by omega) (by omega) fun h8 => ?_
      have h9 : S.a 65 k.toNat = S0.a 65 k.toNat := hF.a rfl _
      refine z_eq (i := 112) (v := 115) rfl ⟨by omega, by omega⟩ (fun h10 => ?_) (fun h11 => ?_)
      · refine r_const (i := 115) (u := 10) (z := 10) rfl rfl ?_
        refine yT_drop (L1 := [some ((2, 43)), some (vi k), some (vi m), none, some (vi of1), none]) rfl ?_
        exact lp189_116 h_k h_m p_0 p_1 p_2 p_3 hd S hI hF hR e_wLV e_wAS of1 10 ⟨by omega, by omega⟩ ⟨by omega, by omega⟩ (by omega) (by omega) (by omega) (by omega) (by omega) (by omega) 
      · refine r_const (i := 113) (u := 11) (z := 11) rfl rfl ?_
        refine r_goto (i := 114) (v := 116) rfl ?_
        refine yT_drop (L1 := [some ((2, 43)), some (vi k), some (vi m), none, some (vi of1), none]) rfl ?_
        exact lp189_116 h_k h_m p_0 p_1 p_2 p_3 hd S hI hF hR e_wLV e_wAS of1 11 ⟨by omega, by omega⟩ ⟨by omega, by omega⟩ (by omega) (by omega) (by omega) (by omega) (by omega) (by omega) 
    · refine r_load (i := 81) (u := 0) (w := 2) rfl rfl rfl ?_
      refine r_getf (i := 82) (v := 28) (w := 11) (x := (2, 65)) rfl ly43 rfl rfl fun _ => ?_
      refine r_load (i := 83) (u := 1) (w := 0) rfl rfl rfl ?_
      refine a_bool (i := 84) rfl ly65 rfl (by omega) (by omega) fun h13 => ?_
      have h14 : S.a 65 k.toNat = S0.a 65 k.toNat := hF.a rfl _
      refine z_eq (i := 85) (v := 106) rfl ⟨by omega, by omega⟩ (fun h15 => ?_) (fun h16 => ?_)
      · refine r_load (i := 106) (u := 0) (w := 2) rfl rfl rfl ?_
        refine r_load (i := 107) (u := 0) (w := 2) rfl rfl rfl ?_
        refine r_load (i := 108) (u := 0) (w := 2) rfl rfl rfl ?_
        refine r_getf (i := 109) (v := 28) (w := 11) (x := (2, 65)) rfl ly43 rfl rfl fun _ => ?_
        refine r_load (i := 110) (u := 1) (w := 0) rfl rfl rfl ?_
        refine a_bool (i := 111) rfl ly65 rfl (by omega) (by omega) fun h18 => ?_
        refine z_eq (i := 112) (v := 115) rfl ⟨by omega, by omega⟩ (fun h19 => ?_) (fun h20 => absurd h20 (by omega))
        refine r_const (i := 115) (u := 10) (z := 10) rfl rfl ?_
        refine yT_drop (L1 := [some ((2, 43)), some (vi k), some (vi m), none, some (vi of1), none]) rfl ?_
        exact lp189_116 h_k h_m p_0 p_1 p_2 p_3 hd S hI hF hR e_wLV e_wAS of1 10 ⟨by omega, by omega⟩ ⟨by omega, by omega⟩ (by omega) (by omega) (by omega) (by omega) (by omega) (by omega) 
      · have as9 := e_wAS j.toNat (by omega)
        refine r_load (i := 86) (u := 0) (w := 2) rfl rfl rfl ?_
        refine r_load (i := 87) (u := 0) (w := 2) rfl rfl rfl ?_
        refine r_getf (i := 88) (v := 27) (w := 11) (x := (2, 64)) rfl ly43 rfl rfl fun _ => ?_
        refine r_load (i := 89) (u := 5) (w := 0) rfl rfl rfl ?_
        refine a_int (i := 90) rfl ly64 rfl (by omega) (by omega) fun h22 => ?_
        have h23 := hI.a ta64 j.toNat
        have h24 : S.a 64 j.toNat = S0.a 64 j.toNat := hF.a rfl _
        refine r_load (i := 91) (u := 0) (w := 2) rfl rfl rfl ?_
        refine r_getf (i := 92) (v := 11) (w := 11) (x := (2, 52)) rfl ly43 rfl rfl fun _ => ?_
        refine r_load (i := 93) (u := 2) (w := 0) rfl rfl rfl ?_
        refine a_int (i := 94) rfl ly52 rfl (by omega) (by omega) fun h26 => ?_
        have h27 := hI.a ta52 m.toNat
        have h28 : S.a 52 m.toNat = S0.a 52 m.toNat := hF.a rfl _
        have h29 := hI.f tf43_1
        have h30 : S.f 43 1 = S0.f 43 1 := hF.f rfl
        refine r_call (i := 95) (u := 11) (v := 261) (w := 0) (b := 0) (na := 1795) (C2 := xC261) (as := [(2, 43), vi (S.a 64 j.toNat), vi (S.a 52 m.toNat)]) (s := []) rfl rfl rfl rfl rfl rfl rfl (sp261 (t := S.a 64 j.toNat) (o := S.a 52 m.toNat) hI ⟨by omega, by omega⟩ ⟨by omega, by omega⟩   (by omega)) (fun r31 S32 hq33 => ?_)
        obtain ⟨z34, rfl, h35, h36, um37, hI38, hF39, hR40⟩ := hq33
        have hF41 := hF.trans hF39 rfl rfl
        have hR42 := hR.trans hR40 rfl
        have e43 := wLVx.fr e_wLV hF39 rfl rfl
        have e44 := wASx.fr e_wAS hF39 rfl rfl
        refine Or.inr (Or.inl ⟨rfl, ?_⟩)
        refine z_eq (i := 96) (v := 102) rfl ⟨by omega, by omega⟩ (fun h45 => ?_) (fun h46 => ?_)
        · refine r_load (i := 102) (u := 4) (w := 0) rfl rfl rfl ?_
          refine r_store (i := 103) (u := 4) (w := 0) (L1 := [some ((2, 43)), some (vi k), some (vi m), none, some (vi of1), some (vi j)]) rfl rfl rfl rfl ?_
          refine r_iinc (i := 104) (u := 4294967295) (v := 5) (s := -1) (L1 := [some ((2, 43)), some (vi k), some (vi m), none, some (vi of1), some (vi (j + (-1)))]) rfl rfl rfl rfl rfl ?_
          refine r_goto (i := 105) (v := 79) rfl ?_
          have h47 := hI38.f tf43_43
          have h48 : S32.f 43 43 = S.f 43 43 := hF39.f rfl
          have h49 := hI38.f tf43_51
          have h50 : S32.f 43 51 = S.f 43 51 := hF39.f rfl
          have h51 : wphi S32 = wphi S := wphiX.fr hF39 rfl rfl
          have h52 : wpsi S32 = wpsi S := wpsiX.fr hF39 rfl rfl
          have h53 := hI38.f tf43_22
          have h54 : S32.f 43 22 = S0.f 43 22 := hF41.f rfl
          exact ih S32 hI38 hF41 hR42 e43 e44 of1 (j + (-1)) ⟨by omega, by omega⟩ ⟨by omega, by omega⟩ (by omega) (by omega) (by omega) (by omega) (by omega) (by omega) (by omega) (by omega)
        · have gf9 := hF41.f (b := 43) (w := 22) rfl
          have as8 := e44 j.toNat (by omega)
          refine r_load (i := 97) (u := 0) (w := 2) rfl rfl rfl ?_
          refine r_getf (i := 98) (v := 27) (w := 11) (x := (2, 64)) rfl ly43 rfl rfl fun _ => ?_
          refine r_load (i := 99) (u := 5) (w := 0) rfl rfl rfl ?_
          refine a_int (i := 100) rfl ly64 rfl (by omega) (by omega) fun h56 => ?_
          have h57 := hI38.a ta64 j.toNat
          have h58 : S32.a 64 j.toNat = S0.a 64 j.toNat := hF41.a rfl _
          refine r_goto (i := 101) (v := 103) rfl ?_
          refine r_store (i := 103) (u := 4) (w := 0) (L1 := [some ((2, 43)), some (vi k), some (vi m), none, some (vi (S32.a 64 j.toNat)), some (vi j)]) rfl rfl rfl rfl ?_
          refine r_iinc (i := 104) (u := 4294967295) (v := 5) (s := -1) (L1 := [some ((2, 43)), some (vi k), some (vi m), none, some (vi (S32.a 64 j.toNat)), some (vi (j + (-1)))]) rfl rfl rfl rfl rfl ?_
          refine r_goto (i := 105) (v := 79) rfl ?_
          have h59 := hI38.f tf43_43
          have h60 : S32.f 43 43 = S.f 43 43 := hF39.f rfl
          have h61 := hI38.f tf43_51
          have h62 : S32.f 43 51 = S.f 43 51 := hF39.f rfl
          have h63 : wphi S32 = wphi S := wphiX.fr hF39 rfl rfl
          have h64 : wpsi S32 = wpsi S := wpsiX.fr hF39 rfl rfl
          have h65 := hI38.f tf43_22
          have h66 : S32.f 43 22 = S0.f 43 22 := hF41.f rfl
          exact ih S32 hI38 hF41 hR42 e43 e44 (S32.a 64 j.toNat) (j + (-1)) ⟨by omega, by omega⟩ ⟨by omega, by omega⟩ (by omega) (by omega) (by omega) (by omega) (by omega) (by omega) (by omega) (by omega)
theorem lp189_44 {G : xk} {d : Nat} {S0 : yS} {k : Int} (h_k : 0 ≤ k ∧ k ≤ 23) {m : Int} (h_m : 0 ≤ m ∧ m ≤ 59) (p_0 : S0.f 43 43 ≤ 23700) (p_1 : S0.f 43 51 = 0) (p_2 : wphi S0 ≤ 19700) (p_3 : wpsi S0 ≤ 1090) (hd : 9 ≤ d + 1) : ∀ (S : yS) (hI : yI S) (hF : yFr [(43, 43), (43, 49), (43, 50), (43, 51), (43, 52), (43, 53)] [68, 72, 73, 74, 75, 76, 77] S0 S) (hR : yRm [] S0 S) (e_wLV : wLV S) (e_wAS : wAS S) (of0 fc c0 : Int) (h_of0 : 1 ≤ of0 ∧ of0 ≤ 9) (h_fc : 0 ≤ fc ∧ fc ≤ 1) (h_c0 : 10 ≤ c0 ∧ c0 ≤ 11) (q_0 : S0.f 43 43 + 0 ≤ S.f 43 43) (q_1 : S.f 43 43 ≤ S0.f 43 43 + 9) (q_2 : S.f 43 51 = 0) (q_3 : wphi S ≤ wphi S0 + 0) (q_4 : wpsi S ≤ wpsi S0 + 0) (q_5 : S0.f 43 43 ≤ 23700 ∧ wphi S0 ≤ 19700 ∧ wpsi S0 ≤ 1090), yT xPr G LY xC189 44 [some ((2, 43)), some (vi k), some (vi m), some (vi of0), some (vi fc), none] [vi c0, (2, 43), (2, 43)] S (d + 1) (fun r S' => r = (0, (0, 0)) ∧ S0.f 43 43 + 1 ≤ S'.f 43 43 ∧ S'.f 43 43 ≤ S0.f 43 43 + 14 ∧ S'.f 43 51 = 0 ∧ wphi S' ≤ wphi S0 + 155 ∧ wpsi S' ≤ wpsi S0 + 3 ∧ wLV S' ∧ wAS S' ∧ yI S' ∧ yFr [(43, 43), (43, 49), (43, 50), (43, 51), (43, 52), (43, 53)] [68, 72, 73, 74, 75, 76, 77] S0 S' ∧ yRm [] S0 S') := by
  intro S hI hF hR e_wLV e_wAS of0 fc c0 h_of0 h_fc h_c0 q_0 q_1 q_2 q_3 q_4 q_5
  have h1 := hI.f tf43_43
  have h2 := hI.f tf43_51
  refine r_load (i := 44) (u := 0) (w := 2) rfl rfl rfl ?_
  refine r_load (i := 45) (u := 0) (w := 2) rfl rfl rfl ?_
  refine r_getf (i := 46) (v := 11) (w := 11) (x := (2, 52)) rfl ly43 rfl rfl fun _ => ?_
  refine r_load (i := 47) (u := 2) (w := 0) rfl rfl rfl ?_
  refine a_int (i := 48) rfl ly52 rfl (by omega) (by omega) fun h4 => ?_
  have h5 := hI.a ta52 m.toNat
  have h6 : S.a 52 m.toNat = S0.a 52 m.toNat := hF.a rfl _
  refine r_call (i := 49) (u := 11) (v := 193) (w := 0) (b := 0) (na := 514) (C2 := xC193) (as := [(2, 43), vi (S.a 52 m.toNat)]) (s := [vi c0, (2, 43), (2, 43)]) rfl rfl rfl rfl rfl rfl rfl (sp193 (t := S.a 52 m.toNat) hI ⟨by omega, by omega⟩ (by omega) (by omega) (by omega) e_wLV (by omega)) (fun r7 S8 hq9 => ?_)
  obtain ⟨z10, rfl, h11, h12, h13, h14, h15, e16, hI17, hF18, hR19⟩ := hq9
  have hF20 := hF.trans hF18 rfl rfl
  have hR21 := hR.trans hR19 rfl
  have e22 := wASx.fr e_wAS hF18 rfl rfl
  refine Or.inr (Or.inl ⟨rfl, ?_⟩)
  refine r_load (i := 50) (u := 2) (w := 0) rfl rfl rfl ?_
  have h23 := hI17.f tf43_51
  have h24 := hI17.a ta56 m.toNat
  have h25 : S8.a 56 m.toNat = S0.a 56 m.toNat := hF20.a rfl _
  refine r_call (i := 51) (u := 11) (v := 219) (w := 0) (b := 0) (na := 1540) (C2 := xC219) (as := [(2, 43), vi c0, vi z10, vi m]) (s := [(2, 43)]) rfl rfl rfl rfl rfl rfl rfl (sp219 (w0 := c0) (ow := z10) (m := m) hI17 ⟨by omega, by omega⟩ ⟨by omega, by omega⟩ ⟨by omega, by omega⟩ (by omega) (by omega) (by omega) e16 (by omega)) (fun r26 S27 hq28 => ?_)
  obtain ⟨z29, rfl, h30, h31, h32, h33, h34, h35, e36, hI37, hF38, hR39⟩ := hq28
  have hF40 := hF20.trans hF38 rfl rfl
  have hR41 := hR21.trans hR39 rfl
  have e42 := wASx.fr e22 hF38 rfl rfl
  refine Or.inr (Or.inl ⟨rfl, ?_⟩)
  have h43 := hI37.f tf43_43
  have h44 : S27.f 43 43 = S8.f 43 43 := hF38.f rfl
  have h45 : S8.f 43 43 = S.f 43 43 := hF18.f rfl
  refine r_call (i := 52) (u := 11) (v := 257) (w := 0) (b := 0) (na := 514) (C2 := xC257) (as := [(2, 43), vi z29]) (s := []) rfl rfl rfl rfl rfl rfl rfl (sp257 (v := z29) hI37 ⟨by omega, by omega⟩ (by omega)  (by omega)) (fun r46 S47 hq48 => ?_)
  obtain ⟨rfl, h49, h50, hI51, hF52, hR53⟩ := hq48
  have hF54 := hF40.trans hF52 rfl rfl
  have hR55 := hR41.trans hR53 rfl
  have e56 := wASx.fr e42 hF52 rfl rfl
  have e57 := wLVx.fr e36 hF52 rfl rfl
  refine Or.inl ⟨rfl, ?_⟩
  refine r_load (i := 53) (u := 4) (w := 0) rfl rfl rfl ?_
  refine z_eq (i := 54) (v := 61) rfl ⟨by omega, by omega⟩ (fun h58 => ?_) (fun h59 => ?_)
  · refine r_goto (i := 61) (v := 122) rfl ?_
    refine yT_drop (L1 := [some ((2, 43)), some (vi k), some (vi m), none, none, none]) rfl ?_
    have h60 := hI51.f tf43_43
    have h61 := hI51.f tf43_51
    have h62 : S47.f 43 51 = S27.f 43 51 := hF52.f rfl
    have h63 : wphi S47 = wphi S27 := wphiX.fr hF52 rfl rfl
    have h64 : wpsi S47 = wpsi S27 := wpsiX.fr hF52 rfl rfl
    exact lp189_122 h_k h_m p_0 p_1 p_2 p_3 hd S47 hI51 hF54 hR55 e57 e56   (by omega) (by omega) (by omega) (by omega) (by omega) (by omega) 
  · refine r_load (i := 55) (u := 0) (w := 2) rfl rfl rfl ?_
    refine r_load (i := 56) (u := 3) (w := 0) rfl rfl rfl ?_
    have h65 := hI51.f tf43_43
    refine r_call (i := 57) (u := 11) (v := 224) (w := 0) (b := 0) (na := 514) (C2 := xC224) (as := [(2, 43), vi of0]) (s := []) rfl rfl rfl rfl rfl rfl rfl (sp224 (v := of0) hI51 ⟨by omega, by omega⟩ (by omega)  (by omega)) (fun r66 S67 hq68 => ?_)
    obtain ⟨rfl, h69, h70, hI71, hF72, hR73⟩ := hq68
    have hF74 := hF54.trans hF72 rfl rfl
    have hR75 := hR55.trans hR73 rfl
    have e76 := wASx.fr e56 hF72 rfl rfl
    have e77 := wLVx.fr e57 hF72 rfl rfl
    refine Or.inl ⟨rfl, ?_⟩
    refine r_load (i := 58) (u := 0) (w := 2) rfl rfl rfl ?_
    refine r_const (i := 59) (u := 0) (z := 0) rfl rfl ?_
    have h78 := hI71.f tf43_43
    refine r_call (i := 60) (u := 11) (v := 224) (w := 0) (b := 0) (na := 514) (C2 := xC224) (as := [(2, 43), vi 0]) (s := []) rfl rfl rfl rfl rfl rfl rfl (sp224 (v := 0) hI71 ⟨by omega, by omega⟩ (by omega)  (by omega)) (fun r79 S80 hq81 => ?_)
    obtain ⟨rfl, h82, h83, hI84, hF85, hR86⟩ := hq81
    have hF87 := hF74.trans hF85 rfl rfl
    have hR88 := hR75.trans hR86 rfl
    have e89 := wASx.fr e76 hF85 rfl rfl
    have e90 := wLVx.fr e77 hF85 rfl rfl
    refine Or.inl ⟨rfl, ?_⟩
    refine r_goto (i := 61) (v := 122) rfl ?_
    refine yT_drop (L1 := [some ((2, 43)), some (vi k), some (vi m), none, none, none]) rfl ?_
    have h91 := hI84.f tf43_43
    have h92 := hI84.f tf43_51
    have h93 : S80.f 43 51 = S67.f 43 51 := hF85.f rfl
    have h94 : S67.f 43 51 = S47.f 43 51 := hF72.f rfl
    have h95 : S47.f 43 51 = S27.f 43 51 := hF52.f rfl
    have h96 : wphi S80 = wphi S67 := wphiX.fr hF85 rfl rfl
    have h97 : wphi S67 = wphi S47 := wphiX.fr hF72 rfl rfl
    have h98 : wphi S47 = wphi S27 := wphiX.fr hF52 rfl rfl
    have h99 : wpsi S80 = wpsi S67 := wpsiX.fr hF85 rfl rfl
    have h100 : wpsi S67 = wpsi S47 := wpsiX.fr hF72 rfl rfl
    have h101 : wpsi S47 = wpsi S27 := wpsiX.fr hF52 rfl rfl
    exact lp189_122 h_k h_m p_0 p_1 p_2 p_3 hd S80 hI84 hF87 hR88 e90 e89   (by omega) (by omega) (by omega) (by omega) (by omega) (by omega) 
theorem lp189_30 {G : xk} {d : Nat} {S0 : yS} {k : Int} (h_k : 0 ≤ k ∧ k ≤ 23) {m : Int} (h_m : 0 ≤ m ∧ m ≤ 59) (p_0 : S0.f 43 43 ≤ 23700) (p_1 : S0.f 43 51 = 0) (p_2 : wphi S0 ≤ 19700) (p_3 : wpsi S0 ≤ 1090) (hd : 9 ≤ d + 1) : ∀ (S : yS) (hI : yI S) (hF : yFr [(43, 43), (43, 49), (43, 50), (43, 51), (43, 52), (43, 53)] [68, 72, 73, 74, 75, 76, 77] S0 S) (hR : yRm [] S0 S) (e_wLV : wLV S) (e_wAS : wAS S) (of0 fc c0 : Int) (h_of0 : 1 ≤ of0 ∧ of0 ≤ 9) (h_fc : 0 ≤ fc ∧ fc ≤ 1) (h_c0 : 0 ≤ c0 ∧ c0 ≤ 255) (q_0 : S0.f 43 43 + 0 ≤ S.f 43 43) (q_1 : S.f 43 43 ≤ S0.f 43 43 + 8) (q_2 : S.f 43 51 = 0) (q_3 : wphi S ≤ wphi S0 + 0) (q_4 : wpsi S ≤ wpsi S0 + 0) (q_5 : S0.f 43 43 ≤ 23700 ∧ wphi S0 ≤ 19700 ∧ wpsi S0 ≤ 1090), yT xPr G LY xC189 30 [some ((2, 43)), some (vi k), some (vi m), some (vi of0), some (vi fc), none] [vi c0, (2, 43)] S (d + 1) (fun r S' => r = (0, (0, 0)) ∧ S0.f 43 43 + 1 ≤ S'.f 43 43 ∧ S'.f 43 43 ≤ S0.f 43 43 + 14 ∧ S'.f 43 51 = 0 ∧ wphi S' ≤ wphi S0 + 155 ∧ wpsi S' ≤ wpsi S0 + 3 ∧ wLV S' ∧ wAS S' ∧ yI S' ∧ yFr [(43, 43), (43, 49), (43, 50), (43, 51), (43, 52), (43, 53)] [68, 72, 73, 74, 75, 76, 77] S0 S' ∧ yRm [] S0 S') := by
  intro S hI hF hR e_wLV e_wAS of0 fc c0 h_of0 h_fc h_c0 q_0 q_1 q_2 q_3 q_4 q_5
  have h1 := hI.f tf43_43
  have h2 := hI.f tf43_51
  refine r_load (i := 30) (u := 3) (w := 0) rfl rfl rfl ?_
  refine r_load (i := 31) (u := 0) (w := 2) rfl rfl rfl ?_
  refine r_getf (i := 32) (v := 15) (w := 11) (x := (2, 56)) rfl ly43 rfl rfl fun _ => ?_
  refine r_load (i := 33) (u := 2) (w := 0) rfl rfl rfl ?_
  refine a_int (i := 34) rfl ly56 rfl (by omega) (by omega) fun h4 => ?_
  have h5 := hI.a ta56 m.toNat
  have h6 : S.a 56 m.toNat = S0.a 56 m.toNat := hF.a rfl _
  refine r_call (i := 35) (u := 65535) (v := 262) (w := 0) (b := 2) (na := 257) (C2 := xC262) (as := [vi (S.a 56 m.toNat)]) (s := [vi of0, vi c0, (2, 43)]) rfl rfl rfl rfl rfl rfl rfl (sp262 (k := S.a 56 m.toNat) hI ⟨by omega, by omega⟩   (by omega)) (fun r7 S8 hq9 => ?_)
  obtain ⟨z10, rfl, h11, h12, rfl⟩ := hq9
  refine Or.inr (Or.inl ⟨rfl, ?_⟩)
  refine r_call (i := 36) (u := 11) (v := 250) (w := 0) (b := 0) (na := 1028) (C2 := xC250) (as := [(2, 43), vi c0, vi of0, vi z10]) (s := []) rfl rfl rfl rfl rfl rfl rfl (sp250 (b0 := c0) (off := of0) (on := z10) hI ⟨by omega, by omega⟩ ⟨by omega, by omega⟩ ⟨by omega, by omega⟩ (by omega)  (by omega)) (fun r13 S14 hq15 => ?_)
  obtain ⟨rfl, h16, h17, hI18, hF19, hR20⟩ := hq15
  have hF21 := hF.trans hF19 rfl rfl
  have hR22 := hR.trans hR20 rfl
  have e23 := wLVx.fr e_wLV hF19 rfl rfl
  have e24 := wASx.fr e_wAS hF19 rfl rfl
  refine Or.inl ⟨rfl, ?_⟩
  refine r_load (i := 37) (u := 0) (w := 2) rfl rfl rfl ?_
  refine r_load (i := 38) (u := 0) (w := 2) rfl rfl rfl ?_
  refine r_load (i := 39) (u := 4) (w := 0) rfl rfl rfl ?_
  refine z_eq (i := 40) (v := 43) rfl ⟨by omega, by omega⟩ (fun h25 => ?_) (fun h26 => ?_)
  · refine r_const (i := 43) (u := 10) (z := 10) rfl rfl ?_
    have h27 := hI18.f tf43_43
    have h28 := hI18.f tf43_51
    have h29 : S14.f 43 51 = S.f 43 51 := hF19.f rfl
    have h30 : wphi S14 = wphi S := wphiX.fr hF19 rfl rfl
    have h31 : wpsi S14 = wpsi S := wpsiX.fr hF19 rfl rfl
    exact lp189_44 h_k h_m p_0 p_1 p_2 p_3 hd S14 hI18 hF21 hR22 e23 e24 of0 fc 10 ⟨by omega, by omega⟩ ⟨by omega, by omega⟩ ⟨by omega, by omega⟩ (by omega) (by omega) (by omega) (by omega) (by omega) (by omega) 
  · refine r_const (i := 41) (u := 11) (z := 11) rfl rfl ?_
    refine r_goto (i := 42) (v := 44) rfl ?_
    have h32 := hI18.f tf43_43
    have h33 := hI18.f tf43_51
    have h34 : S14.f 43 51 = S.f 43 51 := hF19.f rfl
    have h35 : wphi S14 = wphi S := wphiX.fr hF19 rfl rfl
    have h36 : wpsi S14 = wpsi S := wpsiX.fr hF19 rfl rfl
    exact lp189_44 h_k h_m p_0 p_1 p_2 p_3 hd S14 hI18 hF21 hR22 e23 e24 of0 fc 11 ⟨by omega, by omega⟩ ⟨by omega, by omega⟩ ⟨by omega, by omega⟩ (by omega) (by omega) (by omega) (by omega) (by omega) (by omega) 
/-- ProxyForgeModel.called -/
theorem sp189 {G : xk} {S : yS} {d : Nat} (hI : yI S) {k : Int} (h_k : 0 ≤ k ∧ k ≤ 23) {m : Int} (h_m : 0 ≤ m ∧ m ≤ 59) (p_0 : S.f 43 43 ≤ 23700) (p_1 : S.f 43 51 = 0) (p_2 : wphi S ≤ 19700) (p_3 : wpsi S ≤ 1090) (e_wLV : wLV S) (e_wAS : wAS S) (hd : 9 ≤ d) : yT xPr G LY xC189 0 [some ((2, 43)), some (vi k), some (vi m)] [] S d (fun r S' => r = (0, (0, 0)) ∧ S.f 43 43 + 1 ≤ S'.f 43 43 ∧ S'.f 43 43 ≤ S.f 43 43 + 14 ∧ S'.f 43 51 = 0 ∧ wphi S' ≤ wphi S + 155 ∧ wpsi S' ≤ wpsi S + 3 ∧ wLV S' ∧ wAS S' ∧ yI S' ∧ yFr [(43, 43), (43, 49), (43, 50), (43, 51), (43, 52), (43, 53)] [68, 72, 73, 74, 75, 76, 77] S S' ∧ yRm [] S S') := by
  refine yT_pad 3 ?_
  show yT xPr G LY xC189 0 [some ((2, 43)), some (vi k), some (vi m), none, none, none] [] S d _
  obtain ⟨d, rfl⟩ : ∃ q, d = q + 1 := ⟨d - 1, by omega⟩
  have hF : yFr [(43, 43), (43, 49), (43, 50), (43, 51), (43, 52), (43, 53)] [68, 72, 73, 74, 75, 76, 77] S S := yFr.refl S
  have hR : yRm [] S S := yRm.refl S
  have h1 := hI.f tf43_43
  have h2 := hI.f tf43_51
  refine r_load (i := 0) (u := 0) (w := 2) rfl rfl rfl ?_
  refine r_load (i := 1) (u := 2) (w := 0) rfl rfl rfl ?_
  refine r_const (i := 2) (u := 1) (z := 1) rfl rfl ?_
  refine r_call (i := 3) (u := 11) (v := 215) (w := 0) (b := 0) (na := 1283) (C2 := xC215) (as := [(2, 43), vi m, vi 1]) (s := []) rfl rfl rfl rfl rfl rfl rfl (sp215 (m := m) (fr := 1) hI ⟨by omega, by omega⟩ ⟨by omega, by omega⟩ (by omega)  (by omega)) (fun r3 S4 hq5 => ?_)
  obtain ⟨rfl, h6, h7, hI8, hF9, hR10⟩ := hq5
  have hF11 := hF.trans hF9 rfl rfl
  have hR12 := hR.trans hR10 rfl
  have e13 := wLVx.fr e_wLV hF9 rfl rfl
  have e14 := wASx.fr e_wAS hF9 rfl rfl
  refine Or.inl ⟨rfl, ?_⟩
  refine r_const (i := 4) (u := 1) (z := 1) rfl rfl ?_
  refine r_load (i := 5) (u := 0) (w := 2) rfl rfl rfl ?_
  refine r_load (i := 6) (u := 2) (w := 0) rfl rfl rfl ?_
  refine r_call (i := 7) (u := 11) (v := 263) (w := 0) (b := 0) (na := 1026) (C2 := xC263) (as := [(2, 43), vi m]) (s := [vi 1]) rfl rfl rfl rfl rfl rfl rfl (sp263 (m := m) hI8 ⟨by omega, by omega⟩   (by omega)) (fun r15 S16 hq17 => ?_)
  obtain ⟨z18, rfl, h19, h20, rfl⟩ := hq17
  refine Or.inr (Or.inl ⟨rfl, ?_⟩)
  refine r_iadd (i := 8) rfl ?_
  refine r_store (i := 9) (u := 3) (w := 0) (L1 := [some ((2, 43)), some (vi k), some (vi m), some (vi (1 + z18)), none, none]) rfl rfl rfl rfl ?_
  refine r_load (i := 10) (u := 0) (w := 2) rfl rfl rfl ?_
  refine r_getf (i := 11) (v := 24) (w := 11) (x := (2, 61)) rfl ly43 rfl rfl fun _ => ?_
  refine r_load (i := 12) (u := 1) (w := 0) rfl rfl rfl ?_
  refine a_int (i := 13) rfl ly61 rfl (by omega) (by omega) fun h22 => ?_
  have h23 := hI8.a ta61 k.toNat
  have h24 : S4.a 61 k.toNat = S.a 61 k.toNat := hF9.a rfl _
  refine r_const (i := 14) (u := 3) (z := 3) rfl rfl ?_
  refine c_ne (i := 15) (v := 62) rfl ⟨by omega, by omega⟩ ⟨by omega, by omega⟩ (fun h25 => ?_) (fun h26 => ?_)
  · refine r_load (i := 62) (u := 0) (w := 2) rfl rfl rfl ?_
    refine r_const (i := 63) (u := 183) (z := 183) rfl rfl ?_
    refine r_load (i := 64) (u := 3) (w := 0) rfl rfl rfl ?_
    refine r_load (i := 65) (u := 0) (w := 2) rfl rfl rfl ?_
    refine r_getf (i := 66) (v := 15) (w := 11) (x := (2, 56)) rfl ly43 rfl rfl fun _ => ?_
    refine r_load (i := 67) (u := 2) (w := 0) rfl rfl rfl ?_
    refine a_int (i := 68) rfl ly56 rfl (by omega) (by omega) fun h28 => ?_
    have h29 := hI8.a ta56 m.toNat
    have h30 : S4.a 56 m.toNat = S.a 56 m.toNat := hF9.a rfl _
    refine r_call (i := 69) (u := 65535) (v := 262) (w := 0) (b := 2) (na := 257) (C2 := xC262) (as := [vi (S4.a 56 m.toNat)]) (s := [vi (1 + z18), vi 183, (2, 43)]) rfl rfl rfl rfl rfl rfl rfl (sp262 (k := S4.a 56 m.toNat) hI8 ⟨by omega, by omega⟩   (by omega)) (fun r31 S32 hq33 => ?_)
    obtain ⟨z34, rfl, h35, h36, rfl⟩ := hq33
    refine Or.inr (Or.inl ⟨rfl, ?_⟩)
    have h37 := hI8.f tf43_43
    refine r_call (i := 70) (u := 11) (v := 250) (w := 0) (b := 0) (na := 1028) (C2 := xC250) (as := [(2, 43), vi 183, vi (1 + z18), vi z34]) (s := []) rfl rfl rfl rfl rfl rfl rfl (sp250 (b0 := 183) (off := 1 + z18) (on := z34) hI8 ⟨by omega, by omega⟩ ⟨by omega, by omega⟩ ⟨by omega, by omega⟩ (by omega)  (by omega)) (fun r38 S39 hq40 => ?_)
    obtain ⟨rfl, h41, h42, hI43, hF44, hR45⟩ := hq40
    have hF46 := hF11.trans hF44 rfl rfl
    have hR47 := hR12.trans hR45 rfl
    have e48 := wLVx.fr e13 hF44 rfl rfl
    have e49 := wASx.fr e14 hF44 rfl rfl
    refine Or.inl ⟨rfl, ?_⟩
    refine r_load (i := 71) (u := 0) (w := 2) rfl rfl rfl ?_
    have h50 := hI43.f tf43_21
    have h51 : S39.f 43 21 = S.f 43 21 := hF46.f rfl
    refine r_getf (i := 72) (v := 21) (w := 11) (x := vi (S39.f 43 21)) rfl ly43 rfl rfl fun h52 => ?_
    have h52 : Rg (S39.f 43 21) := h52
    refine r_store (i := 73) (u := 4) (w := 0) (L1 := [some ((2, 43)), some (vi k), some (vi m), some (vi (1 + z18)), some (vi (S39.f 43 21)), none]) rfl rfl rfl rfl ?_
    refine r_load (i := 74) (u := 0) (w := 2) rfl rfl rfl ?_
    have h53 := hI43.f tf43_22
    have h54 : S39.f 43 22 = S.f 43 22 := hF46.f rfl
    refine r_getf (i := 75) (v := 22) (w := 11) (x := vi (S39.f 43 22)) rfl ly43 rfl rfl fun h55 => ?_
    have h55 : Rg (S39.f 43 22) := h55
    refine r_const (i := 76) (u := 1) (z := 1) rfl rfl ?_
    refine r_isub (i := 77) rfl ?_
    refine r_store (i := 78) (u := 5) (w := 0) (L1 := [some ((2, 43)), some (vi k), some (vi m), some (vi (1 + z18)), some (vi (S39.f 43 21)), some (vi ((S39.f 43 22) - 1))]) rfl rfl rfl rfl ?_
    refine yT_drop (L1 := [some ((2, 43)), some (vi k), some (vi m), none, some (vi (S39.f 43 21)), some (vi ((S39.f 43 22) - 1))]) rfl ?_
    have h56 := hI43.f tf43_43
    have h57 := hI43.f tf43_51
    have h58 : S39.f 43 51 = S4.f 43 51 := hF44.f rfl
    have h59 : S4.f 43 51 = S.f 43 51 := hF9.f rfl
    have h60 : wphi S39 = wphi S4 := wphiX.fr hF44 rfl rfl
    have h61 : wphi S4 = wphi S := wphiX.fr hF9 rfl rfl
    have h62 : wpsi S39 = wpsi S4 := wpsiX.fr hF44 rfl rfl
    have h63 : wpsi S4 = wpsi S := wpsiX.fr hF9 rfl rfl
    exact lp189_79 h_k h_m p_0 p_1 p_2 p_3 hd _ S39 hI43 hF46 hR47 e48 e49 (S39.f 43 21) ((S39.f 43 22) - 1) ⟨by omega, by omega⟩ ⟨by omega, by omega⟩ (by omega) (by omega) (by omega) (by omega) (by omega) (by omega) (by omega) (Int.lt_succ_toNat _)
  · refine r_load (i := 16) (u := 0) (w := 2) rfl rfl rfl ?_
    refine r_getf (i := 17) (v := 2) (w := 11) (x := (2, 44)) rfl ly43 rfl rfl fun _ => ?_
    refine r_load (i := 18) (u := 0) (w := 2) rfl rfl rfl ?_
    refine r_getf (i := 19) (v := 11) (w := 11) (x := (2, 52)) rfl ly43 rfl rfl fun _ => ?_
    refine r_load (i := 20) (u := 2) (w := 0) rfl rfl rfl ?_
    refine a_int (i := 21) rfl ly52 rfl (by omega) (by omega) fun h66 => ?_
    have h67 := hI8.a ta52 m.toNat
    have h68 : S4.a 52 m.toNat = S.a 52 m.toNat := hF9.a rfl _
    refine a_bool (i := 22) rfl ly44 rfl (by omega) (by omega) fun h69 => ?_
    have h70 : S4.a 44 (S4.a 52 m.toNat).toNat = S.a 44 (S4.a 52 m.toNat).toNat := hF9.a rfl _
    refine r_store (i := 23) (u := 4) (w := 0) (L1 := [some ((2, 43)), some (vi k), some (vi m), some (vi (1 + z18)), some (vi (S4.a 44 (S4.a 52 m.toNat).toNat)), none]) rfl rfl rfl rfl ?_
    refine r_load (i := 24) (u := 0) (w := 2) rfl rfl rfl ?_
    refine r_load (i := 25) (u := 4) (w := 0) rfl rfl rfl ?_
    refine z_eq (i := 26) (v := 29) rfl ⟨by omega, by omega⟩ (fun h71 => ?_) (fun h72 => ?_)
    · refine r_const (i := 29) (u := 182) (z := 182) rfl rfl ?_
      have h73 := hI8.f tf43_43
      have h74 := hI8.f tf43_51
      have h75 : S4.f 43 51 = S.f 43 51 := hF9.f rfl
      have h76 : wphi S4 = wphi S := wphiX.fr hF9 rfl rfl
      have h77 : wpsi S4 = wpsi S := wpsiX.fr hF9 rfl rfl
      exact lp189_30 h_k h_m p_0 p_1 p_2 p_3 hd S4 hI8 hF11 hR12 e13 e14 (1 + z18) (S4.a 44 (S4.a 52 m.toNat).toNat) 182 ⟨by omega, by omega⟩ ⟨by omega, by omega⟩ ⟨by omega, by omega⟩ (by omega) (by omega) (by omega) (by omega) (by omega) (by omega) 
    · refine r_const (i := 27) (u := 185) (z := 185) rfl rfl ?_
      refine r_goto (i := 28) (v := 30) rfl ?_
      have h78 := hI8.f tf43_43
      have h79 := hI8.f tf43_51
      have h80 : S4.f 43 51 = S.f 43 51 := hF9.f rfl
      have h81 : wphi S4 = wphi S := wphiX.fr hF9 rfl rfl
      have h82 : wpsi S4 = wpsi S := wpsiX.fr hF9 rfl rfl
      exact lp189_30 h_k h_m p_0 p_1 p_2 p_3 hd S4 hI8 hF11 hR12 e13 e14 (1 + z18) (S4.a 44 (S4.a 52 m.toNat).toNat) 185 ⟨by omega, by omega⟩ ⟨by omega, by omega⟩ ⟨by omega, by omega⟩ (by omega) (by omega) (by omega) (by omega) (by omega) (by omega) 
theorem lp254_15 {G : xk} {d : Nat} {S0 : yS} {lc : Int} (h_lc : 0 ≤ lc ∧ lc ≤ 12) (p_0 : S0.f 43 43 ≤ 23800) (p_1 : S0.f 43 51 = 0) (p_2 : wphi S0 ≤ 19900) (p_3 : wpsi S0 ≤ 1120) (hd : 7 ≤ d + 1) : ∀ (S : yS) (hI : yI S) (hF : yFr [(43, 43), (43, 49), (43, 50), (43, 51), (43, 52), (43, 53)] [72, 73, 74, 75, 76, 77] S0 S) (hR : yRm [] S0 S) (e_wLV : wLV S) (dp : Int) (h_dp : 0 ≤ dp ∧ dp ≤ 2147483647) (q_0 : S.f 43 43 = S0.f 43 43) (q_1 : S.f 43 51 = 0) (q_2 : wphi S = wphi S0) (q_3 : wpsi S = wpsi S0) (q_4 : S0.f 43 43 ≤ 23800 ∧ wphi S0 ≤ 19900 ∧ wpsi S0 ≤ 1120), yT xPr G LY xC254 15 [some ((2, 43)), some (vi lc), none] [vi dp, (2, 43)] S (d + 1) (fun r S' => r = (0, (0, 0)) ∧ S0.f 43 43 + 13 ≤ S'.f 43 43 ∧ S'.f 43 43 ≤ S0.f 43 43 + 13 ∧ S'.f 43 51 = 0 ∧ wphi S' ≤ wphi S0 + 10 ∧ wpsi S' ≤ wpsi S0 + 2 ∧ wLV S' ∧ yI S' ∧ yFr [(43, 43), (43, 49), (43, 50), (43, 51), (43, 52), (43, 53)] [72, 73, 74, 75, 76, 77] S0 S' ∧ yRm [] S0 S') := by
  intro S hI hF hR e_wLV dp h_dp q_0 q_1 q_2 q_3 q_4
  have h1 := hI.f tf43_43
  have h2 := hI.f tf43_51
  refine r_putI (i := 15) (v := 53) (w := 11) rfl ly43 rfl ⟨by omega, by omega⟩ ?_
  have hI4 := hI.setf (b := 43) (w := 53) (z := dp) tf43_53 rfl (by omega) (by omega)
  have hF6 := hF.setf (b := 43) (w := 53) (z := dp) rfl
  have hR7 := hR.setf (b := 43) (w := 53) (z := dp)
  have e8 := wLVx.setf e_wLV (b := 43) (w := 53) (z := dp) rfl
  refine yT_gen (fun S3 hS5 => ?_)
  rw [hS5] at hI4 hF6 hR7 e8
  refine r_load (i := 16) (u := 0) (w := 2) rfl rfl rfl ?_
  refine r_const (i := 17) (u := 191) (z := 191) rfl rfl ?_
  refine r_const (i := 18) (u := 1) (z := 1) rfl rfl ?_
  refine r_const (i := 19) (u := 0) (z := 0) rfl rfl ?_
  have h9 := hI4.f tf43_43
  have h10 : S3.f 43 43 = S.f 43 43 := by rw [← hS5]; exact ysf_ne (by decide)
  refine r_call (i := 20) (u := 11) (v := 250) (w := 0) (b := 0) (na := 1028) (C2 := xC250) (as := [(2, 43), vi 191, vi 1, vi 0]) (s := []) rfl rfl rfl rfl rfl rfl rfl (sp250 (b0 := 191) (off := 1) (on := 0) hI4 ⟨by omega, by omega⟩ ⟨by omega, by omega⟩ ⟨by omega, by omega⟩ (by omega)  (by omega)) (fun r11 S12 hq13 => ?_)
  obtain ⟨rfl, h14, h15, hI16, hF17, hR18⟩ := hq13
  have hF19 := hF6.trans hF17 rfl rfl
  have hR20 := hR7.trans hR18 rfl
  have e21 := wLVx.fr e8 hF17 rfl rfl
  refine Or.inl ⟨rfl, ?_⟩
  refine r_load (i := 21) (u := 0) (w := 2) rfl rfl rfl ?_
  refine r_const (i := 22) (u := 1) (z := 1) rfl rfl ?_
  rw [vi_sg (1)]
  have h22 := ysg_rg (1)
  refine r_putI (i := 23) (v := 52) (w := 11) rfl ly43 rfl ⟨by omega, by omega⟩ ?_
  have hI24 := hI16.setf0 (b := 43) (w := 52) (z := ysg 1) rfl rfl
  have hF26 := hF19.setf (b := 43) (w := 52) (z := ysg 1) rfl
  have hR27 := hR20.setf (b := 43) (w := 52) (z := ysg 1)
  have e28 := wLVx.setf e21 (b := 43) (w := 52) (z := ysg 1) rfl
  refine yT_gen (fun S23 hS25 => ?_)
  rw [hS25] at hI24 hF26 hR27 e28
  refine r_load (i := 24) (u := 0) (w := 2) rfl rfl rfl ?_
  refine r_const (i := 25) (u := 58) (z := 58) rfl rfl ?_
  refine r_const (i := 26) (u := 1) (z := 1) rfl rfl ?_
  refine r_const (i := 27) (u := 0) (z := 0) rfl rfl ?_
  have h29 := hI24.f tf43_43
  have h30 : S23.f 43 43 = S12.f 43 43 := by rw [← hS25]; exact ysf_ne (by decide)
  refine r_call (i := 28) (u := 11) (v := 250) (w := 0) (b := 0) (na := 1028) (C2 := xC250) (as := [(2, 43), vi 58, vi 1, vi 0]) (s := []) rfl rfl rfl rfl rfl rfl rfl (sp250 (b0 := 58) (off := 1) (on := 0) hI24 ⟨by omega, by omega⟩ ⟨by omega, by omega⟩ ⟨by omega, by omega⟩ (by omega)  (by omega)) (fun r31 S32 hq33 => ?_)
  obtain ⟨rfl, h34, h35, hI36, hF37, hR38⟩ := hq33
  have hF39 := hF26.trans hF37 rfl rfl
  have hR40 := hR27.trans hR38 rfl
  have e41 := wLVx.fr e28 hF37 rfl rfl
  refine Or.inl ⟨rfl, ?_⟩
  refine r_load (i := 29) (u := 0) (w := 2) rfl rfl rfl ?_
  refine r_load (i := 30) (u := 1) (w := 0) rfl rfl rfl ?_
  have h42 := hI36.f tf43_43
  refine r_call (i := 31) (u := 11) (v := 224) (w := 0) (b := 0) (na := 514) (C2 := xC224) (as := [(2, 43), vi lc]) (s := []) rfl rfl rfl rfl rfl rfl rfl (sp224 (v := lc) hI36 ⟨by omega, by omega⟩ (by omega)  (by omega)) (fun r43 S44 hq45 => ?_)
  obtain ⟨rfl, h46, h47, hI48, hF49, hR50⟩ := hq45
  have hF51 := hF39.trans hF49 rfl rfl
  have hR52 := hR40.trans hR50 rfl
  have e53 := wLVx.fr e41 hF49 rfl rfl
  refine Or.inl ⟨rfl, ?_⟩
  refine r_load (i := 32) (u := 0) (w := 2) rfl rfl rfl ?_
  refine r_const (i := 33) (u := 187) (z := 187) rfl rfl ?_
  refine r_const (i := 34) (u := 0) (z := 0) rfl rfl ?_
  refine r_const (i := 35) (u := 1) (z := 1) rfl rfl ?_
  have h54 := hI48.f tf43_43
  refine r_call (i := 36) (u := 11) (v := 250) (w := 0) (b := 0) (na := 1028) (C2 := xC250) (as := [(2, 43), vi 187, vi 0, vi 1]) (s := []) rfl rfl rfl rfl rfl rfl rfl (sp250 (b0 := 187) (off := 0) (on := 1) hI48 ⟨by omega, by omega⟩ ⟨by omega, by omega⟩ ⟨by omega, by omega⟩ (by omega)  (by omega)) (fun r55 S56 hq57 => ?_)
  obtain ⟨rfl, h58, h59, hI60, hF61, hR62⟩ := hq57
  have hF63 := hF51.trans hF61 rfl rfl
  have hR64 := hR52.trans hR62 rfl
  have e65 := wLVx.fr e53 hF61 rfl rfl
  refine Or.inl ⟨rfl, ?_⟩
  refine r_load (i := 37) (u := 0) (w := 2) rfl rfl rfl ?_
  refine r_str (i := 38) (v := 70) rfl ?_
  have h66 := slv70
  have h67 := hI60.f tf43_51
  have h68 : S56.f 43 51 = S44.f 43 51 := hF61.f rfl
  have h69 : S44.f 43 51 = S32.f 43 51 := hF49.f rfl
  have h70 : S32.f 43 51 = S23.f 43 51 := hF37.f rfl
  have h71 : S23.f 43 51 = S12.f 43 51 := by rw [← hS25]; exact ysf_ne (by decide)
  have h72 : S12.f 43 51 = S3.f 43 51 := hF17.f rfl
  have h73 : S3.f 43 51 = S.f 43 51 := by rw [← hS5]; exact ysf_ne (by decide)
  have h74 : wphi S56 = wphi S44 := wphiX.fr hF61 rfl rfl
  have h75 : wphi S44 = wphi S32 := wphiX.fr hF49 rfl rfl
  have h76 : wphi S32 = wphi S23 := wphiX.fr hF37 rfl rfl
  have h77 : wphi S23 = wphi S12 := by rw [← hS25]; exact wphiX.setf rfl
  have h78 : wphi S12 = wphi S3 := wphiX.fr hF17 rfl rfl
  have h79 : wphi S3 = wphi S := by rw [← hS5]; exact wphiX.setf rfl
  have h80 : wpsi S56 = wpsi S44 := wpsiX.fr hF61 rfl rfl
  have h81 : wpsi S44 = wpsi S32 := wpsiX.fr hF49 rfl rfl
  have h82 : wpsi S32 = wpsi S23 := wpsiX.fr hF37 rfl rfl
  have h83 : wpsi S23 = wpsi S12 := by rw [← hS25]; exact wpsiX.setf rfl
  have h84 : wpsi S12 = wpsi S3 := wpsiX.fr hF17 rfl rfl
  have h85 : wpsi S3 = wpsi S := by rw [← hS5]; exact wpsiX.setf rfl
  refine r_call (i := 39) (u := 11) (v := 192) (w := 0) (b := 0) (na := 514) (C2 := xC192) (as := [(2, 43), (6, 70)]) (s := []) rfl rfl rfl rfl rfl rfl rfl (sp192 (s := 70) hI60 ⟨by decide, by decide⟩ (by omega) (by omega) (by omega) (by omega) e65 (by omega)) (fun r86 S87 hq88 => ?_)
  obtain ⟨z89, rfl, h90, h91, h92, h93, h94, e95, hI96, hF97, hR98⟩ := hq88
  have hF99 := hF63.trans hF97 rfl rfl
  have hR100 := hR64.trans hR98 rfl
  refine Or.inr (Or.inl ⟨rfl, ?_⟩)
  refine r_store (i := 40) (u := 2) (w := 0) (L1 := [some ((2, 43)), some (vi lc), some (vi z89)]) rfl rfl rfl rfl ?_
  refine r_load (i := 41) (u := 0) (w := 2) rfl rfl rfl ?_
  refine r_load (i := 42) (u := 2) (w := 0) rfl rfl rfl ?_
  have h101 := hI96.f tf43_43
  have h102 : S87.f 43 43 = S56.f 43 43 := hF97.f rfl
  refine r_call (i := 43) (u := 11) (v := 257) (w := 0) (b := 0) (na := 514) (C2 := xC257) (as := [(2, 43), vi z89]) (s := []) rfl rfl rfl rfl rfl rfl rfl (sp257 (v := z89) hI96 ⟨by omega, by omega⟩ (by omega)  (by omega)) (fun r103 S104 hq105 => ?_)
  obtain ⟨rfl, h106, h107, hI108, hF109, hR110⟩ := hq105
  have hF111 := hF99.trans hF109 rfl rfl
  have hR112 := hR100.trans hR110 rfl
  have e113 := wLVx.fr e95 hF109 rfl rfl
  refine Or.inl ⟨rfl, ?_⟩
  refine r_load (i := 44) (u := 0) (w := 2) rfl rfl rfl ?_
  refine r_const (i := 45) (u := 89) (z := 89) rfl rfl ?_
  refine r_const (i := 46) (u := 0) (z := 0) rfl rfl ?_
  refine r_const (i := 47) (u := 1) (z := 1) rfl rfl ?_
  have h114 := hI108.f tf43_43
  refine r_call (i := 48) (u := 11) (v := 250) (w := 0) (b := 0) (na := 1028) (C2 := xC250) (as := [(2, 43), vi 89, vi 0, vi 1]) (s := []) rfl rfl rfl rfl rfl rfl rfl (sp250 (b0 := 89) (off := 0) (on := 1) hI108 ⟨by omega, by omega⟩ ⟨by omega, by omega⟩ ⟨by omega, by omega⟩ (by omega)  (by omega)) (fun r115 S116 hq117 => ?_)
  obtain ⟨rfl, h118, h119, hI120, hF121, hR122⟩ := hq117
  have hF123 := hF111.trans hF121 rfl rfl
  have hR124 := hR112.trans hR122 rfl
  have e125 := wLVx.fr e113 hF121 rfl rfl
  refine Or.inl ⟨rfl, ?_⟩
  refine r_load (i := 49) (u := 0) (w := 2) rfl rfl rfl ?_
  refine r_const (i := 50) (u := 25) (z := 25) rfl rfl ?_
  refine r_const (i := 51) (u := 0) (z := 0) rfl rfl ?_
  refine r_const (i := 52) (u := 1) (z := 1) rfl rfl ?_
  have h126 := hI120.f tf43_43
  refine r_call (i := 53) (u := 11) (v := 250) (w := 0) (b := 0) (na := 1028) (C2 := xC250) (as := [(2, 43), vi 25, vi 0, vi 1]) (s := []) rfl rfl rfl rfl rfl rfl rfl (sp250 (b0 := 25) (off := 0) (on := 1) hI120 ⟨by omega, by omega⟩ ⟨by omega, by omega⟩ ⟨by omega, by omega⟩ (by omega)  (by omega)) (fun r127 S128 hq129 => ?_)
  obtain ⟨rfl, h130, h131, hI132, hF133, hR134⟩ := hq129
  have hF135 := hF123.trans hF133 rfl rfl
  have hR136 := hR124.trans hR134 rfl
  have e137 := wLVx.fr e125 hF133 rfl rfl
  refine Or.inl ⟨rfl, ?_⟩
  refine r_load (i := 54) (u := 0) (w := 2) rfl rfl rfl ?_
  refine r_load (i := 55) (u := 1) (w := 0) rfl rfl rfl ?_
  have h138 := hI132.f tf43_43
  refine r_call (i := 56) (u := 11) (v := 224) (w := 0) (b := 0) (na := 514) (C2 := xC224) (as := [(2, 43), vi lc]) (s := []) rfl rfl rfl rfl rfl rfl rfl (sp224 (v := lc) hI132 ⟨by omega, by omega⟩ (by omega)  (by omega)) (fun r139 S140 hq141 => ?_)
  obtain ⟨rfl, h142, h143, hI144, hF145, hR146⟩ := hq141
  have hF147 := hF135.trans hF145 rfl rfl
  have hR148 := hR136.trans hR146 rfl
  have e149 := wLVx.fr e137 hF145 rfl rfl
  refine Or.inl ⟨rfl, ?_⟩
  refine r_load (i := 57) (u := 0) (w := 2) rfl rfl rfl ?_
  refine r_const (i := 58) (u := 183) (z := 183) rfl rfl ?_
  refine r_const (i := 59) (u := 2) (z := 2) rfl rfl ?_
  refine r_const (i := 60) (u := 0) (z := 0) rfl rfl ?_
  have h150 := hI144.f tf43_43
  refine r_call (i := 61) (u := 11) (v := 250) (w := 0) (b := 0) (na := 1028) (C2 := xC250) (as := [(2, 43), vi 183, vi 2, vi 0]) (s := []) rfl rfl rfl rfl rfl rfl rfl (sp250 (b0 := 183) (off := 2) (on := 0) hI144 ⟨by omega, by omega⟩ ⟨by omega, by omega⟩ ⟨by omega, by omega⟩ (by omega)  (by omega)) (fun r151 S152 hq153 => ?_)
  obtain ⟨rfl, h154, h155, hI156, hF157, hR158⟩ := hq153
  have hF159 := hF147.trans hF157 rfl rfl
  have hR160 := hR148.trans hR158 rfl
  have e161 := wLVx.fr e149 hF157 rfl rfl
  refine Or.inl ⟨rfl, ?_⟩
  refine r_load (i := 62) (u := 0) (w := 2) rfl rfl rfl ?_
  refine r_load (i := 63) (u := 0) (w := 2) rfl rfl rfl ?_
  refine r_const (i := 64) (u := 10) (z := 10) rfl rfl ?_
  refine r_load (i := 65) (u := 2) (w := 0) rfl rfl rfl ?_
  refine r_str (i := 66) (v := 48) rfl ?_
  have h162 := slv48
  refine r_str (i := 67) (v := 71) rfl ?_
  have h163 := slv71
  have h164 := hI156.f tf43_51
  have h165 : S152.f 43 51 = S140.f 43 51 := hF157.f rfl
  have h166 : S140.f 43 51 = S128.f 43 51 := hF145.f rfl
  have h167 : S128.f 43 51 = S116.f 43 51 := hF133.f rfl
  have h168 : S116.f 43 51 = S104.f 43 51 := hF121.f rfl
  have h169 : S104.f 43 51 = S87.f 43 51 := hF109.f rfl
  have h170 : wphi S152 = wphi S140 := wphiX.fr hF157 rfl rfl
  have h171 : wphi S140 = wphi S128 := wphiX.fr hF145 rfl rfl
  have h172 : wphi S128 = wphi S116 := wphiX.fr hF133 rfl rfl
  have h173 : wphi S116 = wphi S104 := wphiX.fr hF121 rfl rfl
  have h174 : wphi S104 = wphi S87 := wphiX.fr hF109 rfl rfl
  have h175 : wpsi S152 = wpsi S140 := wpsiX.fr hF157 rfl rfl
  have h176 : wpsi S140 = wpsi S128 := wpsiX.fr hF145 rfl rfl
  have h177 : wpsi S128 = wpsi S116 := wpsiX.fr hF133 rfl rfl
  have h178 : wpsi S116 = wpsi S104 := wpsiX.fr hF121 rfl rfl
  have h179 : wpsi S104 = wpsi S87 := wpsiX.fr hF109 rfl rfl
  refine r_call (i := 68) (u := 11) (v := 218) (w := 0) (b := 0) (na := 1797) (C2 := xC218) (as := [(2, 43), vi 10, vi z89, (6, 48), (6, 71)]) (s := [(2, 43)]) rfl rfl rfl rfl rfl rfl rfl (sp218 (w0 := 10) (ow := z89) (s1 := 48) (s2 := 71) hI156 ⟨by omega, by omega⟩ ⟨by omega, by omega⟩ ⟨by decide, by decide⟩ ⟨by decide, by decide⟩ (by omega) (by omega) (by omega) (by omega) (by omega) e161 (by omega)) (fun r180 S181 hq182 => ?_)
  obtain ⟨z183, rfl, h184, h185, h186, h187, h188, e189, hI190, hF191, hR192⟩ := hq182
  have hF193 := hF159.trans hF191 rfl rfl
  have hR194 := hR160.trans hR192 rfl
  refine Or.inr (Or.inl ⟨rfl, ?_⟩)
  have h195 := hI190.f tf43_43
  have h196 : S181.f 43 43 = S152.f 43 43 := hF191.f rfl
  refine r_call (i := 69) (u := 11) (v := 257) (w := 0) (b := 0) (na := 514) (C2 := xC257) (as := [(2, 43), vi z183]) (s := []) rfl rfl rfl rfl rfl rfl rfl (sp257 (v := z183) hI190 ⟨by omega, by omega⟩ (by omega)  (by omega)) (fun r197 S198 hq199 => ?_)
  obtain ⟨rfl, h200, h201, hI202, hF203, hR204⟩ := hq199
  have hF205 := hF193.trans hF203 rfl rfl
  have hR206 := hR194.trans hR204 rfl
  have e207 := wLVx.fr e189 hF203 rfl rfl
  refine Or.inl ⟨rfl, ?_⟩
  refine r_load (i := 70) (u := 0) (w := 2) rfl rfl rfl ?_
  refine r_const (i := 71) (u := 191) (z := 191) rfl rfl ?_
  refine r_const (i := 72) (u := 1) (z := 1) rfl rfl ?_
  refine r_const (i := 73) (u := 0) (z := 0) rfl rfl ?_
  have h208 := hI202.f tf43_43
  refine r_call (i := 74) (u := 11) (v := 250) (w := 0) (b := 0) (na := 1028) (C2 := xC250) (as := [(2, 43), vi 191, vi 1, vi 0]) (s := []) rfl rfl rfl rfl rfl rfl rfl (sp250 (b0 := 191) (off := 1) (on := 0) hI202 ⟨by omega, by omega⟩ ⟨by omega, by omega⟩ ⟨by omega, by omega⟩ (by omega)  (by omega)) (fun r209 S210 hq211 => ?_)
  obtain ⟨rfl, h212, h213, hI214, hF215, hR216⟩ := hq211
  have hF217 := hF205.trans hF215 rfl rfl
  have hR218 := hR206.trans hR216 rfl
  have e219 := wLVx.fr e207 hF215 rfl rfl
  refine Or.inl ⟨rfl, ?_⟩
  have h220 := hI214.f tf43_43
  have h221 := hI214.f tf43_51
  have h222 : S210.f 43 51 = S198.f 43 51 := hF215.f rfl
  have h223 : S198.f 43 51 = S181.f 43 51 := hF203.f rfl
  have h224 : wphi S210 = wphi S198 := wphiX.fr hF215 rfl rfl
  have h225 : wphi S198 = wphi S181 := wphiX.fr hF203 rfl rfl
  have h226 : wpsi S210 = wpsi S198 := wpsiX.fr hF215 rfl rfl
  have h227 : wpsi S198 = wpsi S181 := wpsiX.fr hF203 rfl rfl
  exact r_ret0 (i := 75) rfl ⟨rfl, (by omega), (by omega), (by omega), (by omega), (by omega), e219, hI214, hF217, hR218⟩
/-- ProxyForgeModel.throwOn -/
theorem sp254 {G : xk} {S : yS} {d : Nat} (hI : yI S) {lc : Int} (h_lc : 0 ≤ lc ∧ lc ≤ 12) (p_0 : S.f 43 43 ≤ 23800) (p_1 : S.f 43 51 = 0) (p_2 : wphi S ≤ 19900) (p_3 : wpsi S ≤ 1120) (e_wLV : wLV S) (hd : 7 ≤ d) : yT xPr G LY xC254 0 [some ((2, 43)), some (vi lc)] [] S d (fun r S' => r = (0, (0, 0)) ∧ S.f 43 43 + 13 ≤ S'.f 43 43 ∧ S'.f 43 43 ≤ S.f 43 43 + 13 ∧ S'.f 43 51 = 0 ∧ wphi S' ≤ wphi S + 10 ∧ wpsi S' ≤ wpsi S + 2 ∧ wLV S' ∧ yI S' ∧ yFr [(43, 43), (43, 49), (43, 50), (43, 51), (43, 52), (43, 53)] [72, 73, 74, 75, 76, 77] S S' ∧ yRm [] S S') := by
  refine yT_pad 1 ?_
  show yT xPr G LY xC254 0 [some ((2, 43)), some (vi lc), none] [] S d _
  obtain ⟨d, rfl⟩ : ∃ q, d = q + 1 := ⟨d - 1, by omega⟩
  have hF : yFr [(43, 43), (43, 49), (43, 50), (43, 51), (43, 52), (43, 53)] [72, 73, 74, 75, 76, 77] S S := yFr.refl S
  have hR : yRm [] S S := yRm.refl S
  have h1 := hI.f tf43_43
  have h2 := hI.f tf43_51
  refine r_load (i := 0) (u := 0) (w := 2) rfl rfl rfl ?_
  refine r_const (i := 1) (u := 0) (z := 0) rfl rfl ?_
  rw [vi_sg (0)]
  have h3 := ysg_rg (0)
  refine r_putI (i := 2) (v := 52) (w := 11) rfl ly43 rfl ⟨by omega, by omega⟩ ?_
  have hI5 := hI.setf0 (b := 43) (w := 52) (z := ysg 0) rfl rfl
  have hF7 := hF.setf (b := 43) (w := 52) (z := ysg 0) rfl
  have hR8 := hR.setf (b := 43) (w := 52) (z := ysg 0)
  have e9 := wLVx.setf e_wLV (b := 43) (w := 52) (z := ysg 0) rfl
  refine yT_gen (fun S4 hS6 => ?_)
  rw [hS6] at hI5 hF7 hR8 e9
  refine r_load (i := 3) (u := 0) (w := 2) rfl rfl rfl ?_
  refine r_const (i := 4) (u := 1) (z := 1) rfl rfl ?_
  rw [vi_sg (1)]
  have h10 := ysg_rg (1)
  refine r_putI (i := 5) (v := 52) (w := 11) rfl ly43 rfl ⟨by omega, by omega⟩ ?_
  have hI12 := hI5.setf0 (b := 43) (w := 52) (z := ysg 1) rfl rfl
  have hF14 := hF7.setf (b := 43) (w := 52) (z := ysg 1) rfl
  have hR15 := hR8.setf (b := 43) (w := 52) (z := ysg 1)
  have e16 := wLVx.setf e9 (b := 43) (w := 52) (z := ysg 1) rfl
  refine yT_gen (fun S11 hS13 => ?_)
  rw [hS13] at hI12 hF14 hR15 e16
  refine r_load (i := 6) (u := 0) (w := 2) rfl rfl rfl ?_
  refine r_load (i := 7) (u := 0) (w := 2) rfl rfl rfl ?_
  have h17 := hI12.f tf43_53
  have h18 : S11.f 43 53 = S4.f 43 53 := by rw [← hS13]; exact ysf_ne (by decide)
  have h19 : S4.f 43 53 = S.f 43 53 := by rw [← hS6]; exact ysf_ne (by decide)
  refine r_getf (i := 8) (v := 53) (w := 11) (x := vi (S11.f 43 53)) rfl ly43 rfl rfl fun h20 => ?_
  have h20 : Rg (S11.f 43 53) := h20
  refine r_const (i := 9) (u := 1) (z := 1) rfl rfl ?_
  refine c_le (i := 10) (v := 14) rfl ⟨by omega, by omega⟩ ⟨by omega, by omega⟩ (fun h21 => ?_) (fun h22 => ?_)
  · refine r_const (i := 14) (u := 1) (z := 1) rfl rfl ?_
    have h23 := hI12.f tf43_43
    have h24 : S11.f 43 43 = S4.f 43 43 := by rw [← hS13]; exact ysf_ne (by decide)
    have h25 : S4.f 43 43 = S.f 43 43 := by rw [← hS6]; exact ysf_ne (by decide)
    have h26 := hI12.f tf43_51
    have h27 : S11.f 43 51 = S4.f 43 51 := by rw [← hS13]; exact ysf_ne (by decide)
    have h28 : S4.f 43 51 = S.f 43 51 := by rw [← hS6]; exact ysf_ne (by decide)
    have h29 : wphi S11 = wphi S4 := by rw [← hS13]; exact wphiX.setf rfl
    have h30 : wphi S4 = wphi S := by rw [← hS6]; exact wphiX.setf rfl
    have h31 : wpsi S11 = wpsi S4 := by rw [← hS13]; exact wpsiX.setf rfl
    have h32 : wpsi S4 = wpsi S := by rw [← hS6]; exact wpsiX.setf rfl
    exact lp254_15 h_lc p_0 p_1 p_2 p_3 hd S11 hI12 hF14 hR15 e16 1 ⟨by omega, by omega⟩ (by omega) (by omega) (by omega) (by omega) (by omega) 
  · refine r_load (i := 11) (u := 0) (w := 2) rfl rfl rfl ?_
    refine r_getf (i := 12) (v := 53) (w := 11) (x := vi (S11.f 43 53)) rfl ly43 rfl rfl fun h33 => ?_
    have h33 : Rg (S11.f 43 53) := h33
    refine r_goto (i := 13) (v := 15) rfl ?_
    have h34 := hI12.f tf43_43
    have h35 : S11.f 43 43 = S4.f 43 43 := by rw [← hS13]; exact ysf_ne (by decide)
    have h36 : S4.f 43 43 = S.f 43 43 := by rw [← hS6]; exact ysf_ne (by decide)
    have h37 := hI12.f tf43_51
    have h38 : S11.f 43 51 = S4.f 43 51 := by rw [← hS13]; exact ysf_ne (by decide)
    have h39 : S4.f 43 51 = S.f 43 51 := by rw [← hS6]; exact ysf_ne (by decide)
    have h40 : wphi S11 = wphi S4 := by rw [← hS13]; exact wphiX.setf rfl
    have h41 : wphi S4 = wphi S := by rw [← hS6]; exact wphiX.setf rfl
    have h42 : wpsi S11 = wpsi S4 := by rw [← hS13]; exact wpsiX.setf rfl
    have h43 : wpsi S4 = wpsi S := by rw [← hS6]; exact wpsiX.setf rfl
    exact lp254_15 h_lc p_0 p_1 p_2 p_3 hd S11 hI12 hF14 hR15 e16 (S11.f 43 53) ⟨by omega, by omega⟩ (by omega) (by omega) (by omega) (by omega) (by omega) 
/-- ProxyForgeModel.beginCode -/
theorem sp185 {G : xk} {S : yS} {d : Nat} (hI : yI S) {lc : Int} (h_lc : 0 ≤ lc ∧ lc ≤ 12) (p_0 : S.f 43 43 ≤ 23800) (p_1 : S.f 43 51 = 0) (p_2 : wphi S ≤ 19900) (p_3 : wpsi S ≤ 1120) (e_wLV : wLV S) (hd : 6 ≤ d) : yT xPr G LY xC185 0 [some ((2, 43)), some (vi lc)] [] S d (fun r S' => ∃ z : Int, r = (1, vi z) ∧ 0 ≤ z ∧ z ≤ 23900 ∧ S.f 43 43 + 14 ≤ S'.f 43 43 ∧ S'.f 43 43 ≤ S.f 43 43 + 14 ∧ S'.f 43 51 = 0 ∧ wphi S' ≤ wphi S ∧ wpsi S' ≤ wpsi S ∧ z = S'.f 43 43 - 14 ∧ wLV S' ∧ yI S' ∧ yFr [(43, 43), (43, 49), (43, 50), (43, 51), (43, 52), (43, 53)] [72, 73, 74, 75, 76, 77] S S' ∧ yRm [] S S') := by
  refine yT_pad 1 ?_
  show yT xPr G LY xC185 0 [some ((2, 43)), some (vi lc), none] [] S d _
  obtain ⟨d, rfl⟩ : ∃ q, d = q + 1 := ⟨d - 1, by omega⟩
  have hF : yFr [(43, 43), (43, 49), (43, 50), (43, 51), (43, 52), (43, 53)] [72, 73, 74, 75, 76, 77] S S := yFr.refl S
  have hR : yRm [] S S := yRm.refl S
  have h1 := hI.f tf43_43
  have h2 := hI.f tf43_51
  refine r_load (i := 0) (u := 0) (w := 2) rfl rfl rfl ?_
  refine r_load (i := 1) (u := 0) (w := 2) rfl rfl rfl ?_
  refine r_str (i := 2) (v := 49) rfl ?_
  have h3 := slv49
  refine r_call (i := 3) (u := 11) (v := 252) (w := 0) (b := 0) (na := 514) (C2 := xC252) (as := [(2, 43), (6, 49)]) (s := [(2, 43)]) rfl rfl rfl rfl rfl rfl rfl (sp252 (s := 49) hI ⟨by decide, by decide⟩ (by omega) (by omega) (by omega) (by omega) e_wLV (by omega)) (fun r4 S5 hq6 => ?_)
  obtain ⟨z7, rfl, h8, h9, h10, h11, h12, fm13, e14, hI15, hF16, hR17⟩ := hq6
  have hF18 := hF.trans hF16 rfl rfl
  have hR19 := hR.trans hR17 rfl
  refine Or.inr (Or.inl ⟨rfl, ?_⟩)
  have h20 := hI15.f tf43_43
  have h21 : S5.f 43 43 = S.f 43 43 := hF16.f rfl
  refine r_call (i := 4) (u := 11) (v := 257) (w := 0) (b := 0) (na := 514) (C2 := xC257) (as := [(2, 43), vi z7]) (s := []) rfl rfl rfl rfl rfl rfl rfl (sp257 (v := z7) hI15 ⟨by omega, by omega⟩ (by omega)  (by omega)) (fun r22 S23 hq24 => ?_)
  obtain ⟨rfl, h25, h26, hI27, hF28, hR29⟩ := hq24
  have hF30 := hF18.trans hF28 rfl rfl
  have hR31 := hR19.trans hR29 rfl
  have e32 := wLVx.fr e14 hF28 rfl rfl
  refine Or.inl ⟨rfl, ?_⟩
  refine r_load (i := 5) (u := 0) (w := 2) rfl rfl rfl ?_
  have h33 := hI27.f tf43_43
  refine r_getf (i := 6) (v := 43) (w := 11) (x := vi (S23.f 43 43)) rfl ly43 rfl rfl fun h34 => ?_
  have h34 : Rg (S23.f 43 43) := h34
  refine r_store (i := 7) (u := 2) (w := 0) (L1 := [some ((2, 43)), some (vi lc), some (vi (S23.f 43 43))]) rfl rfl rfl rfl ?_
  refine r_load (i := 8) (u := 0) (w := 2) rfl rfl rfl ?_
  refine r_const (i := 9) (u := 0) (z := 0) rfl rfl ?_
  refine r_call (i := 10) (u := 11) (v := 204) (w := 0) (b := 0) (na := 514) (C2 := xC204) (as := [(2, 43), vi 0]) (s := []) rfl rfl rfl rfl rfl rfl rfl (sp204 (v := 0) hI27 ⟨by omega, by omega⟩ (by omega)  (by omega)) (fun r35 S36 hq37 => ?_)
  obtain ⟨rfl, h38, h39, hI40, hF41, hR42⟩ := hq37
  have hF43 := hF30.trans hF41 rfl rfl
  have hR44 := hR31.trans hR42 rfl
  have e45 := wLVx.fr e32 hF41 rfl rfl
  refine Or.inl ⟨rfl, ?_⟩
  refine r_load (i := 11) (u := 0) (w := 2) rfl rfl rfl ?_
  refine r_const (i := 12) (u := 0) (z := 0) rfl rfl ?_
  have h46 := hI40.f tf43_43
  refine r_call (i := 13) (u := 11) (v := 257) (w := 0) (b := 0) (na := 514) (C2 := xC257) (as := [(2, 43), vi 0]) (s := []) rfl rfl rfl rfl rfl rfl rfl (sp257 (v := 0) hI40 ⟨by omega, by omega⟩ (by omega)  (by omega)) (fun r47 S48 hq49 => ?_)
  obtain ⟨rfl, h50, h51, hI52, hF53, hR54⟩ := hq49
  have hF55 := hF43.trans hF53 rfl rfl
  have hR56 := hR44.trans hR54 rfl
  have e57 := wLVx.fr e45 hF53 rfl rfl
  refine Or.inl ⟨rfl, ?_⟩
  refine r_load (i := 14) (u := 0) (w := 2) rfl rfl rfl ?_
  refine r_load (i := 15) (u := 1) (w := 0) rfl rfl rfl ?_
  have h58 := hI52.f tf43_43
  refine r_call (i := 16) (u := 11) (v := 257) (w := 0) (b := 0) (na := 514) (C2 := xC257) (as := [(2, 43), vi lc]) (s := []) rfl rfl rfl rfl rfl rfl rfl (sp257 (v := lc) hI52 ⟨by omega, by omega⟩ (by omega)  (by omega)) (fun r59 S60 hq61 => ?_)
  obtain ⟨rfl, h62, h63, hI64, hF65, hR66⟩ := hq61
  have hF67 := hF55.trans hF65 rfl rfl
  have hR68 := hR56.trans hR66 rfl
  have e69 := wLVx.fr e57 hF65 rfl rfl
  refine Or.inl ⟨rfl, ?_⟩
  refine r_load (i := 17) (u := 0) (w := 2) rfl rfl rfl ?_
  refine r_const (i := 18) (u := 0) (z := 0) rfl rfl ?_
  have h70 := hI64.f tf43_43
  refine r_call (i := 19) (u := 11) (v := 204) (w := 0) (b := 0) (na := 514) (C2 := xC204) (as := [(2, 43), vi 0]) (s := []) rfl rfl rfl rfl rfl rfl rfl (sp204 (v := 0) hI64 ⟨by omega, by omega⟩ (by omega)  (by omega)) (fun r71 S72 hq73 => ?_)
  obtain ⟨rfl, h74, h75, hI76, hF77, hR78⟩ := hq73
  have hF79 := hF67.trans hF77 rfl rfl
  have hR80 := hR68.trans hR78 rfl
  have e81 := wLVx.fr e69 hF77 rfl rfl
  refine Or.inl ⟨rfl, ?_⟩
  refine r_load (i := 20) (u := 0) (w := 2) rfl rfl rfl ?_
  refine r_const (i := 21) (u := 0) (z := 0) rfl rfl ?_
  rw [vi_sg (0)]
  have h82 := ysg_rg (0)
  refine r_putI (i := 22) (v := 52) (w := 11) rfl ly43 rfl ⟨by omega, by omega⟩ ?_
  have hI84 := hI76.setf0 (b := 43) (w := 52) (z := ysg 0) rfl rfl
  have hF86 := hF79.setf (b := 43) (w := 52) (z := ysg 0) rfl
  have hR87 := hR80.setf (b := 43) (w := 52) (z := ysg 0)
  have e88 := wLVx.setf e81 (b := 43) (w := 52) (z := ysg 0) rfl
  refine yT_gen (fun S83 hS85 => ?_)
  rw [hS85] at hI84 hF86 hR87 e88
  refine r_load (i := 23) (u := 0) (w := 2) rfl rfl rfl ?_
  refine r_const (i := 24) (u := 0) (z := 0) rfl rfl ?_
  refine r_putI (i := 25) (v := 53) (w := 11) rfl ly43 rfl ⟨by omega, by omega⟩ ?_
  have hI90 := hI84.setf (b := 43) (w := 53) (z := 0) tf43_53 rfl (by omega) (by omega)
  have hF92 := hF86.setf (b := 43) (w := 53) (z := 0) rfl
  have hR93 := hR87.setf (b := 43) (w := 53) (z := 0)
  have e94 := wLVx.setf e88 (b := 43) (w := 53) (z := 0) rfl
  refine yT_gen (fun S89 hS91 => ?_)
  rw [hS91] at hI90 hF92 hR93 e94
  refine r_load (i := 26) (u := 2) (w := 0) rfl rfl rfl ?_
  refine r_const (i := 27) (u := 2) (z := 2) rfl rfl ?_
  refine r_isub (i := 28) rfl ?_
  have h95 := hI90.f tf43_43
  have h96 : S89.f 43 43 = S83.f 43 43 := by rw [← hS91]; exact ysf_ne (by decide)
  have h97 : S83.f 43 43 = S72.f 43 43 := by rw [← hS85]; exact ysf_ne (by decide)
  have h98 := hI90.f tf43_51
  have h99 : S89.f 43 51 = S83.f 43 51 := by rw [← hS91]; exact ysf_ne (by decide)
  have h100 : S83.f 43 51 = S72.f 43 51 := by rw [← hS85]; exact ysf_ne (by decide)
  have h101 : S72.f 43 51 = S60.f 43 51 := hF77.f rfl
  have h102 : S60.f 43 51 = S48.f 43 51 := hF65.f rfl
  have h103 : S48.f 43 51 = S36.f 43 51 := hF53.f rfl
  have h104 : S36.f 43 51 = S23.f 43 51 := hF41.f rfl
  have h105 : S23.f 43 51 = S5.f 43 51 := hF28.f rfl
  have h106 : wphi S89 = wphi S83 := by rw [← hS91]; exact wphiX.setf rfl
  have h107 : wphi S83 = wphi S72 := by rw [← hS85]; exact wphiX.setf rfl
  have h108 : wphi S72 = wphi S60 := wphiX.fr hF77 rfl rfl
  have h109 : wphi S60 = wphi S48 := wphiX.fr hF65 rfl rfl
  have h110 : wphi S48 = wphi S36 := wphiX.fr hF53 rfl rfl
  have h111 : wphi S36 = wphi S23 := wphiX.fr hF41 rfl rfl
  have h112 : wphi S23 = wphi S5 := wphiX.fr hF28 rfl rfl
  have h113 : wpsi S89 = wpsi S83 := by rw [← hS91]; exact wpsiX.setf rfl
  have h114 : wpsi S83 = wpsi S72 := by rw [← hS85]; exact wpsiX.setf rfl
  have h115 : wpsi S72 = wpsi S60 := wpsiX.fr hF77 rfl rfl
  have h116 : wpsi S60 = wpsi S48 := wpsiX.fr hF65 rfl rfl
  have h117 : wpsi S48 = wpsi S36 := wpsiX.fr hF53 rfl rfl
  have h118 : wpsi S36 = wpsi S23 := wpsiX.fr hF41 rfl rfl
  have h119 : wpsi S23 = wpsi S5 := wpsiX.fr hF28 rfl rfl
  exact r_retI (i := 29) rfl ⟨(S23.f 43 43) - 2, rfl, by omega, by omega, (by omega), (by omega), (by omega), (by omega), (by omega), (by omega), e94, hI90, hF92, hR93⟩
theorem lp198_103 {G : xk} {d : Nat} {S0 : yS} {bg : Int} (h_bg : 0 ≤ bg ∧ bg ≤ 23900) {h : Int} (h_h : -1 ≤ h ∧ h ≤ 23900) {k : Int} (h_k : 0 ≤ k ∧ k ≤ 23) (p_0 : S0.f 43 43 ≤ 23500) (p_1 : S0.f 43 51 = 0) (p_2 : wphi S0 ≤ 19900) (p_3 : wpsi S0 ≤ 1120) (p_4 : bg + 14 ≤ S0.f 43 43) (hd : 7 ≤ d + 1) {st : Int} (h_st : 2 ≤ st ∧ st ≤ 23500) {hn1 : Int} (h_hn1 : 0 ≤ hn1 ∧ hn1 ≤ 6) {i0 : Int} (h_i0 : 0 ≤ i0 ∧ i0 ≤ 5) (no : Nat) (K : ∀ (S : yS) (hI : yI S) (hF : yFr [(43, 43), (43, 49), (43, 50), (43, 51)] [72, 73, 74, 75, 76, 77] S0 S) (hR : yRm [] S0 S) (e_wLV : wLV S) (st hn1 i0 : Int) (h_st : 2 ≤ st ∧ st ≤ 23500) (h_hn1 : 0 ≤ hn1 ∧ hn1 ≤ 6) (h_i0 : 0 ≤ i0 ∧ i0 ≤ 6) (q_0 : S0.f 43 43 ≤ S.f 43 43 ∧ S.f 43 43 ≤ S0.f 43 43 + 2 + 8 * i0) (q_1 : S.f 43 51 = 0) (q_2 : wphi S ≤ wphi S0) (q_3 : wpsi S ≤ wpsi S0) (q_4 : S0.f 43 43 ≤ 23500 ∧ wphi S0 ≤ 19900 ∧ wpsi S0 ≤ 1120) (q_5 : bg + 14 ≤ S0.f 43 43) (q_6 : (h = -1 → hn1 = 0) ∧ (h ≠ -1 → 3 ≤ hn1)) (q_7 : st = bg + 2) (q_8 : i0 ≤ hn1) (hn : 6 - i0 < (no : Nat)), yT xPr G LY xC198 54 [some ((2, 43)), some (vi bg), some (vi h), some (vi k), some (vi st), none, some (vi hn1), some (vi i0)] [] S (d + 1) (fun r S' => r = (0, (0, 0)) ∧ S0.f 43 43 ≤ S'.f 43 43 ∧ S'.f 43 43 ≤ S0.f 43 43 + 70 ∧ S'.f 43 51 = 0 ∧ wphi S' ≤ wphi S0 ∧ wpsi S' ≤ wpsi S0 ∧ (h = -1 → S'.f 43 43 ≤ S0.f 43 43 + 4) ∧ wLV S' ∧ yI S' ∧ yFr [(43, 43), (43, 49), (43, 50), (43, 51)] [72, 73, 74, 75, 76, 77] S0 S' ∧ yRm [] S0 S')) (hm : 6 - i0 < ((no + 1 : Nat) : Int)) : ∀ (S : yS) (hI : yI S) (hF : yFr [(43, 43), (43, 49), (43, 50), (43, 51)] [72, 73, 74, 75, 76, 77] S0 S) (hR : yRm [] S0 S) (e_wLV : wLV S) (t : Int) (h_t : 0 ≤ t ∧ t ≤ 19) (q_0 : S0.f 43 43 ≤ S.f 43 43 ∧ S.f 43 43 ≤ S0.f 43 43 + 8 + 8 * i0) (q_1 : S.f 43 51 = 0) (q_2 : wphi S ≤ wphi S0) (q_3 : wpsi S ≤ wpsi S0) (q_4 : S0.f 43 43 ≤ 23500 ∧ wphi S0 ≤ 19900 ∧ wpsi S0 ≤ 1120) (q_5 : bg + 14 ≤ S0.f 43 43) (q_6 : (h = -1 → hn1 = 0) ∧ (h ≠ -1 → 3 ≤ hn1)) (q_7 : st = bg + 2) (q_8 : i0 < hn1), yT xPr G LY xC198 103 [some ((2, 43)), some (vi bg), some (vi h), some (vi k), some (vi st), none, some (vi hn1), some (vi i0)] [vi t, (2, 43), (2, 43)] S (d + 1) (fun r S' => r = (0, (0, 0)) ∧ S0.f 43 43 ≤ S'.f 43 43 ∧ S'.f 43 43 ≤ S0.f 43 43 + 70 ∧ S'.f 43 51 = 0 ∧ wphi S' ≤ wphi S0 ∧ wpsi S' ≤ wpsi S0 ∧ (h = -1 → S'.f 43 43 ≤ S0.f 43 43 + 4) ∧ wLV S' ∧ yI S' ∧ yFr [(43, 43), (43, 49), (43, 50), (43, 51)] [72, 73, 74, 75, 76, 77] S0 S' ∧ yRm [] S0 S') := by
  intro S hI hF hR e_wLV t h_t q_0 q_1 q_2 q_3 q_4 q_5 q_6 q_7 q_8
  have h1 := hI.f tf43_43
  have h2 := hI.f tf43_51
  refine r_call (i := 103) (u := 11) (v := 193) (w := 0) (b := 0) (na := 514) (C2 := xC193) (as := [(2, 43), vi t]) (s := [(2, 43)]) rfl rfl rfl rfl rfl rfl rfl (sp193 (t := t) hI ⟨by omega, by omega⟩ (by omega) (by omega) (by omega) e_wLV (by omega)) (fun r3 S4 hq5 => ?_)
  obtain ⟨z6, rfl, h7, h8, h9, h10, h11, e12, hI13, hF14, hR15⟩ := hq5
  have hF16 := hF.trans hF14 rfl rfl
  have hR17 := hR.trans hR15 rfl
  refine Or.inr (Or.inl ⟨rfl, ?_⟩)
  have h18 := hI13.f tf43_43
  have h19 : S4.f 43 43 = S.f 43 43 := hF14.f rfl
  refine r_call (i := 104) (u := 11) (v := 257) (w := 0) (b := 0) (na := 514) (C2 := xC257) (as := [(2, 43), vi z6]) (s := []) rfl rfl rfl rfl rfl rfl rfl (sp257 (v := z6) hI13 ⟨by omega, by omega⟩ (by omega)  (by omega)) (fun r20 S21 hq22 => ?_)
  obtain ⟨rfl, h23, h24, hI25, hF26, hR27⟩ := hq22
  have hF28 := hF16.trans hF26 rfl rfl
  have hR29 := hR17.trans hR27 rfl
  have e30 := wLVx.fr e12 hF26 rfl rfl
  refine Or.inl ⟨rfl, ?_⟩
  refine r_iinc (i := 105) (u := 1) (v := 7) (s := 1) (L1 := [some ((2, 43)), some (vi bg), some (vi h), some (vi k), some (vi st), none, some (vi hn1), some (vi (i0 + 1))]) rfl rfl rfl rfl rfl ?_
  refine r_goto (i := 106) (v := 54) rfl ?_
  have h31 := hI25.f tf43_43
  have h32 := hI25.f tf43_51
  have h33 : S21.f 43 51 = S4.f 43 51 := hF26.f rfl
  have h34 : wphi S21 = wphi S4 := wphiX.fr hF26 rfl rfl
  have h35 : wpsi S21 = wpsi S4 := wpsiX.fr hF26 rfl rfl
  exact K S21 hI25 hF28 hR29 e30 st hn1 (i0 + 1) ⟨by omega, by omega⟩ ⟨by omega, by omega⟩ ⟨by omega, by omega⟩ (by omega) (by omega) (by omega) (by omega) (by omega) (by omega) (by omega) (by omega) (by omega) (by omega)
theorem lp198_74 {G : xk} {d : Nat} {S0 : yS} {bg : Int} (h_bg : 0 ≤ bg ∧ bg ≤ 23900) {h : Int} (h_h : -1 ≤ h ∧ h ≤ 23900) {k : Int} (h_k : 0 ≤ k ∧ k ≤ 23) (p_0 : S0.f 43 43 ≤ 23500) (p_1 : S0.f 43 51 = 0) (p_2 : wphi S0 ≤ 19900) (p_3 : wpsi S0 ≤ 1120) (p_4 : bg + 14 ≤ S0.f 43 43) (hd : 7 ≤ d + 1) {st : Int} (h_st : 2 ≤ st ∧ st ≤ 23500) {hn1 : Int} (h_hn1 : 0 ≤ hn1 ∧ hn1 ≤ 6) {i0 : Int} (h_i0 : 0 ≤ i0 ∧ i0 ≤ 5) (no : Nat) (K : ∀ (S : yS) (hI : yI S) (hF : yFr [(43, 43), (43, 49), (43, 50), (43, 51)] [72, 73, 74, 75, 76, 77] S0 S) (hR : yRm [] S0 S) (e_wLV : wLV S) (st hn1 i0 : Int) (h_st : 2 ≤ st ∧ st ≤ 23500) (h_hn1 : 0 ≤ hn1 ∧ hn1 ≤ 6) (h_i0 : 0 ≤ i0 ∧ i0 ≤ 6) (q_0 : S0.f 43 43 ≤ S.f 43 43 ∧ S.f 43 43 ≤ S0.f 43 43 + 2 + 8 * i0) (q_1 : S.f 43 51 = 0) (q_2 : wphi S ≤ wphi S0) (q_3 : wpsi S ≤ wpsi S0) (q_4 : S0.f 43 43 ≤ 23500 ∧ wphi S0 ≤ 19900 ∧ wpsi S0 ≤ 1120) (q_5 : bg + 14 ≤ S0.f 43 43) (q_6 : (h = -1 → hn1 = 0) ∧ (h ≠ -1 → 3 ≤ hn1)) (q_7 : st = bg + 2) (q_8 : i0 ≤ hn1) (hn : 6 - i0 < (no : Nat)), yT xPr G LY xC198 54 [some ((2, 43)), some (vi bg), some (vi h), some (vi k), some (vi st), none, some (vi hn1), some (vi i0)] [] S (d + 1) (fun r S' => r = (0, (0, 0)) ∧ S0.f 43 43 ≤ S'.f 43 43 ∧ S'.f 43 43 ≤ S0.f 43 43 + 70 ∧ S'.f 43 51 = 0 ∧ wphi S' ≤ wphi S0 ∧ wpsi S' ≤ wpsi S0 ∧ (h = -1 → S'.f 43 43 ≤ S0.f 43 43 + 4) ∧ wLV S' ∧ yI S' ∧ yFr [(43, 43), (43, 49), (43, 50), (43, 51)] [72, 73, 74, 75, 76, 77] S0 S' ∧ yRm [] S0 S')) (hm : 6 - i0 < ((no + 1 : Nat) : Int)) : ∀ (S : yS) (hI : yI S) (hF : yFr [(43, 43), (43, 49), (43, 50), (43, 51)] [72, 73, 74, 75, 76, 77] S0 S) (hR : yRm [] S0 S) (e_wLV : wLV S) (c0 : Int) (h_c0 : 0 ≤ c0 ∧ c0 ≤ 23901) (q_0 : S0.f 43 43 ≤ S.f 43 43 ∧ S.f 43 43 ≤ S0.f 43 43 + 6 + 8 * i0) (q_1 : S.f 43 51 = 0) (q_2 : wphi S ≤ wphi S0) (q_3 : wpsi S ≤ wpsi S0) (q_4 : S0.f 43 43 ≤ 23500 ∧ wphi S0 ≤ 19900 ∧ wpsi S0 ≤ 1120) (q_5 : bg + 14 ≤ S0.f 43 43) (q_6 : (h = -1 → hn1 = 0) ∧ (h ≠ -1 → 3 ≤ hn1)) (q_7 : st = bg + 2) (q_8 : i0 < hn1), yT xPr G LY xC198 74 [some ((2, 43)), some (vi bg), some (vi h), some (vi k), some (vi st), none, some (vi hn1), some (vi i0)] [vi c0, (2, 43)] S (d + 1) (fun r S' => r = (0, (0, 0)) ∧ S0.f 43 43 ≤ S'.f 43 43 ∧ S'.f 43 43 ≤ S0.f 43 43 + 70 ∧ S'.f 43 51 = 0 ∧ wphi S' ≤ wphi S0 ∧ wpsi S' ≤ wpsi S0 ∧ (h = -1 → S'.f 43 43 ≤ S0.f 43 43 + 4) ∧ wLV S' ∧ yI S' ∧ yFr [(43, 43), (43, 49), (43, 50), (43, 51)] [72, 73, 74, 75, 76, 77] S0 S' ∧ yRm [] S0 S') := by
  intro S hI hF hR e_wLV c0 h_c0 q_0 q_1 q_2 q_3 q_4 q_5 q_6 q_7 q_8
  have h1 := hI.f tf43_43
  have h2 := hI.f tf43_51
  refine r_call (i := 74) (u := 11) (v := 257) (w := 0) (b := 0) (na := 514) (C2 := xC257) (as := [(2, 43), vi c0]) (s := []) rfl rfl rfl rfl rfl rfl rfl (sp257 (v := c0) hI ⟨by omega, by omega⟩ (by omega)  (by omega)) (fun r3 S4 hq5 => ?_)
  obtain ⟨rfl, h6, h7, hI8, hF9, hR10⟩ := hq5
  have hF11 := hF.trans hF9 rfl rfl
  have hR12 := hR.trans hR10 rfl
  have e13 := wLVx.fr e_wLV hF9 rfl rfl
  refine Or.inl ⟨rfl, ?_⟩
  refine r_load (i := 75) (u := 0) (w := 2) rfl rfl rfl ?_
  refine r_load (i := 76) (u := 0) (w := 2) rfl rfl rfl ?_
  refine r_load (i := 77) (u := 7) (w := 0) rfl rfl rfl ?_
  refine z_ne (i := 78) (v := 81) rfl ⟨by omega, by omega⟩ (fun h14 => ?_) (fun h15 => ?_)
  · refine r_load (i := 81) (u := 7) (w := 0) rfl rfl rfl ?_
    refine r_const (i := 82) (u := 1) (z := 1) rfl rfl ?_
    refine c_ne (i := 83) (v := 86) rfl ⟨by omega, by omega⟩ ⟨by omega, by omega⟩ (fun h16 => ?_) (fun h17 => ?_)
    · refine r_load (i := 86) (u := 7) (w := 0) rfl rfl rfl ?_
      refine r_load (i := 87) (u := 6) (w := 0) rfl rfl rfl ?_
      refine r_const (i := 88) (u := 1) (z := 1) rfl rfl ?_
      refine r_isub (i := 89) rfl ?_
      refine c_ne (i := 90) (v := 93) rfl ⟨by omega, by omega⟩ ⟨by omega, by omega⟩ (fun h18 => ?_) (fun h19 => ?_)
      · refine r_load (i := 93) (u := 0) (w := 2) rfl rfl rfl ?_
        refine r_getf (i := 94) (v := 25) (w := 11) (x := (2, 62)) rfl ly43 rfl rfl fun _ => ?_
        refine r_const (i := 95) (u := 3) (z := 3) rfl rfl ?_
        refine r_load (i := 96) (u := 3) (w := 0) rfl rfl rfl ?_
        refine r_imul (i := 97) rfl ?_
        refine r_load (i := 98) (u := 7) (w := 0) rfl rfl rfl ?_
        refine r_iadd (i := 99) rfl ?_
        refine r_const (i := 100) (u := 2) (z := 2) rfl rfl ?_
        refine r_isub (i := 101) rfl ?_
        refine a_int (i := 102) rfl ly62 rfl (by omega) (by omega) fun h21 => ?_
        have h22 := hI8.a ta62 (((3 * k) + i0) - 2).toNat
        have h23 : S4.a 62 (((3 * k) + i0) - 2).toNat = S0.a 62 (((3 * k) + i0) - 2).toNat := hF11.a rfl _
        have h24 := hI8.f tf43_43
        have h25 := hI8.f tf43_51
        have h26 : S4.f 43 51 = S.f 43 51 := hF9.f rfl
        have h27 : wphi S4 = wphi S := wphiX.fr hF9 rfl rfl
        have h28 : wpsi S4 = wpsi S := wpsiX.fr hF9 rfl rfl
        exact lp198_103 h_bg h_h h_k p_0 p_1 p_2 p_3 p_4 hd (st := st) (hn1 := hn1) (i0 := i0) ⟨by omega, by omega⟩ ⟨by omega, by omega⟩ ⟨by omega, by omega⟩ no K (by omega) S4 hI8 hF11 hR12 e13 (S4.a 62 (((3 * k) + i0) - 2).toNat) ⟨by omega, by omega⟩ (by omega) (by omega) (by omega) (by omega) (by omega) (by omega) (by omega) (by omega) (by omega) 
      · refine r_const (i := 91) (u := 1) (z := 1) rfl rfl ?_
        refine r_goto (i := 92) (v := 103) rfl ?_
        have h29 := hI8.f tf43_43
        have h30 := hI8.f tf43_51
        have h31 : S4.f 43 51 = S.f 43 51 := hF9.f rfl
        have h32 : wphi S4 = wphi S := wphiX.fr hF9 rfl rfl
        have h33 : wpsi S4 = wpsi S := wpsiX.fr hF9 rfl rfl
        exact lp198_103 h_bg h_h h_k p_0 p_1 p_2 p_3 p_4 hd (st := st) (hn1 := hn1) (i0 := i0) ⟨by omega, by omega⟩ ⟨by omega, by omega⟩ ⟨by omega, by omega⟩ no K (by omega) S4 hI8 hF11 hR12 e13 1 ⟨by omega, by omega⟩ (by omega) (by omega) (by omega) (by omega) (by omega) (by omega) (by omega) (by omega) (by omega) 
    · refine r_const (i := 84) (u := 3) (z := 3) rfl rfl ?_
      refine r_goto (i := 85) (v := 103) rfl ?_
      have h34 := hI8.f tf43_43
      have h35 := hI8.f tf43_51
      have h36 : S4.f 43 51 = S.f 43 51 := hF9.f rfl
      have h37 : wphi S4 = wphi S := wphiX.fr hF9 rfl rfl
      have h38 : wpsi S4 = wpsi S := wpsiX.fr hF9 rfl rfl
      exact lp198_103 h_bg h_h h_k p_0 p_1 p_2 p_3 p_4 hd (st := st) (hn1 := hn1) (i0 := i0) ⟨by omega, by omega⟩ ⟨by omega, by omega⟩ ⟨by omega, by omega⟩ no K (by omega) S4 hI8 hF11 hR12 e13 3 ⟨by omega, by omega⟩ (by omega) (by omega) (by omega) (by omega) (by omega) (by omega) (by omega) (by omega) (by omega) 
  · refine r_const (i := 79) (u := 2) (z := 2) rfl rfl ?_
    refine r_goto (i := 80) (v := 103) rfl ?_
    have h39 := hI8.f tf43_43
    have h40 := hI8.f tf43_51
    have h41 : S4.f 43 51 = S.f 43 51 := hF9.f rfl
    have h42 : wphi S4 = wphi S := wphiX.fr hF9 rfl rfl
    have h43 : wpsi S4 = wpsi S := wpsiX.fr hF9 rfl rfl
    exact lp198_103 h_bg h_h h_k p_0 p_1 p_2 p_3 p_4 hd (st := st) (hn1 := hn1) (i0 := i0) ⟨by omega, by omega⟩ ⟨by omega, by omega⟩ ⟨by omega, by omega⟩ no K (by omega) S4 hI8 hF11 hR12 e13 2 ⟨by omega, by omega⟩ (by omega) (by omega) (by omega) (by omega) (by omega) (by omega) (by omega) (by omega) (by omega) 
theorem lp198_174 {G : xk} {d : Nat} {S0 : yS} {bg : Int} (h_bg : 0 ≤ bg ∧ bg ≤ 23900) {h : Int} (h_h : -1 ≤ h ∧ h ≤ 23900) {k : Int} (h_k : 0 ≤ k ∧ k ≤ 23) (p_0 : S0.f 43 43 ≤ 23500) (p_1 : S0.f 43 51 = 0) (p_2 : wphi S0 ≤ 19900) (p_3 : wpsi S0 ≤ 1120) (p_4 : bg + 14 ≤ S0.f 43 43) (hd : 7 ≤ d + 1) : ∀ (S : yS) (hI : yI S) (hF : yFr [(43, 43), (43, 49), (43, 50), (43, 51)] [72, 73, 74, 75, 76, 77] S0 S) (hR : yRm [] S0 S) (e_wLV : wLV S) (st hn1 : Int) (h_st : 2 ≤ st ∧ st ≤ 23500) (h_hn1 : 0 ≤ hn1 ∧ hn1 ≤ 6) (q_0 : S0.f 43 43 ≤ S.f 43 43 ∧ S.f 43 43 ≤ S0.f 43 43 + 70) (q_1 : S.f 43 51 = 0) (q_2 : wphi S ≤ wphi S0) (q_3 : wpsi S ≤ wpsi S0) (q_4 : S0.f 43 43 ≤ 23500 ∧ wphi S0 ≤ 19900 ∧ wpsi S0 ≤ 1120) (q_5 : bg + 14 ≤ S0.f 43 43) (q_6 : (h = -1 → hn1 = 0) ∧ (h ≠ -1 → 3 ≤ hn1)) (q_7 : st = bg + 2) (q_8 : h = -1 → S.f 43 43 ≤ S0.f 43 43 + 4), yT xPr G LY xC198 174 [some ((2, 43)), some (vi bg), some (vi h), some (vi k), some (vi st), none, some (vi hn1), none] [] S (d + 1) (fun r S' => r = (0, (0, 0)) ∧ S0.f 43 43 ≤ S'.f 43 43 ∧ S'.f 43 43 ≤ S0.f 43 43 + 70 ∧ S'.f 43 51 = 0 ∧ wphi S' ≤ wphi S0 ∧ wpsi S' ≤ wpsi S0 ∧ (h = -1 → S'.f 43 43 ≤ S0.f 43 43 + 4) ∧ wLV S' ∧ yI S' ∧ yFr [(43, 43), (43, 49), (43, 50), (43, 51)] [72, 73, 74, 75, 76, 77] S0 S' ∧ yRm [] S0 S') := by
  intro S hI hF hR e_wLV st hn1 h_st h_hn1 q_0 q_1 q_2 q_3 q_4 q_5 q_6 q_7 q_8
  have h1 := hI.f tf43_43
  have h2 := hI.f tf43_51
  refine r_load (i := 174) (u := 0) (w := 2) rfl rfl rfl ?_
  refine r_load (i := 175) (u := 4) (w := 0) rfl rfl rfl ?_
  refine r_load (i := 176) (u := 0) (w := 2) rfl rfl rfl ?_
  refine r_getf (i := 177) (v := 43) (w := 11) (x := vi (S.f 43 43)) rfl ly43 rfl rfl fun h3 => ?_
  have h3 : Rg (S.f 43 43) := h3
  refine r_load (i := 178) (u := 4) (w := 0) rfl rfl rfl ?_
  refine r_isub (i := 179) rfl ?_
  refine r_const (i := 180) (u := 4) (z := 4) rfl rfl ?_
  refine r_isub (i := 181) rfl ?_
  refine r_call (i := 182) (u := 11) (v := 231) (w := 0) (b := 0) (na := 1027) (C2 := xC231) (as := [(2, 43), vi st, vi (((S.f 43 43) - st) - 4)]) (s := []) rfl rfl rfl rfl rfl rfl rfl (sp231 (at0 := st) (v := ((S.f 43 43) - st) - 4) hI ⟨by omega, by omega⟩ ⟨by omega, by omega⟩   (by omega)) (fun r4 S5 hq6 => ?_)
  obtain ⟨rfl, hI7, hF8, hR9⟩ := hq6
  have hF10 := hF.trans hF8 rfl rfl
  have hR11 := hR.trans hR9 rfl
  have e12 := wLVx.fr e_wLV hF8 rfl rfl
  refine Or.inl ⟨rfl, ?_⟩
  have h13 := hI7.f tf43_43
  have h14 : S5.f 43 43 = S.f 43 43 := hF8.f rfl
  have h15 := hI7.f tf43_51
  have h16 : S5.f 43 51 = S.f 43 51 := hF8.f rfl
  have h17 : wphi S5 = wphi S := wphiX.fr hF8 rfl rfl
  have h18 : wpsi S5 = wpsi S := wpsiX.fr hF8 rfl rfl
  exact r_ret0 (i := 183) rfl ⟨rfl, (by omega), (by omega), (by omega), (by omega), (by omega), (by omega), e12, hI7, hF10, hR11⟩
theorem lp198_146 {G : xk} {d : Nat} {S0 : yS} {bg : Int} (h_bg : 0 ≤ bg ∧ bg ≤ 23900) {h : Int} (h_h : -1 ≤ h ∧ h ≤ 23900) {k : Int} (h_k : 0 ≤ k ∧ k ≤ 23) (p_0 : S0.f 43 43 ≤ 23500) (p_1 : S0.f 43 51 = 0) (p_2 : wphi S0 ≤ 19900) (p_3 : wpsi S0 ≤ 1120) (p_4 : bg + 14 ≤ S0.f 43 43) (hd : 7 ≤ d + 1) : ∀ (S : yS) (hI : yI S) (hF : yFr [(43, 43), (43, 49), (43, 50), (43, 51)] [72, 73, 74, 75, 76, 77] S0 S) (hR : yRm [] S0 S) (e_wLV : wLV S) (st hn1 to : Int) (h_st : 2 ≤ st ∧ st ≤ 23500) (h_hn1 : 1 ≤ hn1 ∧ hn1 ≤ 6) (h_to : 0 ≤ to ∧ to ≤ 23600) (q_0 : S0.f 43 43 ≤ S.f 43 43 ∧ S.f 43 43 ≤ S0.f 43 43 + 63) (q_1 : S.f 43 51 = 0) (q_2 : wphi S ≤ wphi S0) (q_3 : wpsi S ≤ wpsi S0) (q_4 : S0.f 43 43 ≤ 23500 ∧ wphi S0 ≤ 19900 ∧ wpsi S0 ≤ 1120) (q_5 : bg + 14 ≤ S0.f 43 43) (q_6 : (h = -1 → hn1 = 0) ∧ (h ≠ -1 → 3 ≤ hn1)) (q_7 : st = bg + 2) (q_8 : to + 4 ≤ S.f 43 43), yT xPr G LY xC198 146 [some ((2, 43)), some (vi bg), some (vi h), some (vi k), some (vi st), none, some (vi hn1), some (vi to)] [] S (d + 1) (fun r S' => r = (0, (0, 0)) ∧ S0.f 43 43 ≤ S'.f 43 43 ∧ S'.f 43 43 ≤ S0.f 43 43 + 70 ∧ S'.f 43 51 = 0 ∧ wphi S' ≤ wphi S0 ∧ wpsi S' ≤ wpsi S0 ∧ (h = -1 → S'.f 43 43 ≤ S0.f 43 43 + 4) ∧ wLV S' ∧ yI S' ∧ yFr [(43, 43), (43, 49), (43, 50), (43, 51)] [72, 73, 74, 75, 76, 77] S0 S' ∧ yRm [] S0 S') := by
  intro S hI hF hR e_wLV st hn1 to h_st h_hn1 h_to q_0 q_1 q_2 q_3 q_4 q_5 q_6 q_7 q_8
  have h1 := hI.f tf43_43
  have h2 := hI.f tf43_51
  refine r_load (i := 146) (u := 0) (w := 2) rfl rfl rfl ?_
  refine r_const (i := 147) (u := 7) (z := 7) rfl rfl ?_
  refine r_call (i := 148) (u := 11) (v := 224) (w := 0) (b := 0) (na := 514) (C2 := xC224) (as := [(2, 43), vi 7]) (s := []) rfl rfl rfl rfl rfl rfl rfl (sp224 (v := 7) hI ⟨by omega, by omega⟩ (by omega)  (by omega)) (fun r3 S4 hq5 => ?_)
  obtain ⟨rfl, h6, h7, hI8, hF9, hR10⟩ := hq5
  have hF11 := hF.trans hF9 rfl rfl
  have hR12 := hR.trans hR10 rfl
  have e13 := wLVx.fr e_wLV hF9 rfl rfl
  refine Or.inl ⟨rfl, ?_⟩
  refine r_load (i := 149) (u := 0) (w := 2) rfl rfl rfl ?_
  refine r_load (i := 150) (u := 0) (w := 2) rfl rfl rfl ?_
  refine r_const (i := 151) (u := 1) (z := 1) rfl rfl ?_
  have h14 := hI8.f tf43_51
  have h15 : S4.f 43 51 = S.f 43 51 := hF9.f rfl
  have h16 : wphi S4 = wphi S := wphiX.fr hF9 rfl rfl
  have h17 : wpsi S4 = wpsi S := wpsiX.fr hF9 rfl rfl
  refine r_call (i := 152) (u := 11) (v := 193) (w := 0) (b := 0) (na := 514) (C2 := xC193) (as := [(2, 43), vi 1]) (s := [(2, 43)]) rfl rfl rfl rfl rfl rfl rfl (sp193 (t := 1) hI8 ⟨by omega, by omega⟩ (by omega) (by omega) (by omega) e13 (by omega)) (fun r18 S19 hq20 => ?_)
  obtain ⟨z21, rfl, h22, h23, h24, h25, h26, e27, hI28, hF29, hR30⟩ := hq20
  have hF31 := hF11.trans hF29 rfl rfl
  have hR32 := hR12.trans hR30 rfl
  refine Or.inr (Or.inl ⟨rfl, ?_⟩)
  have h33 := hI28.f tf43_43
  have h34 : S19.f 43 43 = S4.f 43 43 := hF29.f rfl
  refine r_call (i := 153) (u := 11) (v := 257) (w := 0) (b := 0) (na := 514) (C2 := xC257) (as := [(2, 43), vi z21]) (s := []) rfl rfl rfl rfl rfl rfl rfl (sp257 (v := z21) hI28 ⟨by omega, by omega⟩ (by omega)  (by omega)) (fun r35 S36 hq37 => ?_)
  obtain ⟨rfl, h38, h39, hI40, hF41, hR42⟩ := hq37
  have hF43 := hF31.trans hF41 rfl rfl
  have hR44 := hR32.trans hR42 rfl
  have e45 := wLVx.fr e27 hF41 rfl rfl
  refine Or.inl ⟨rfl, ?_⟩
  refine r_load (i := 154) (u := 0) (w := 2) rfl rfl rfl ?_
  refine r_const (i := 155) (u := 64) (z := 64) rfl rfl ?_
  have h46 := hI40.f tf43_43
  refine r_call (i := 156) (u := 11) (v := 224) (w := 0) (b := 0) (na := 514) (C2 := xC224) (as := [(2, 43), vi 64]) (s := []) rfl rfl rfl rfl rfl rfl rfl (sp224 (v := 64) hI40 ⟨by omega, by omega⟩ (by omega)  (by omega)) (fun r47 S48 hq49 => ?_)
  obtain ⟨rfl, h50, h51, hI52, hF53, hR54⟩ := hq49
  have hF55 := hF43.trans hF53 rfl rfl
  have hR56 := hR44.trans hR54 rfl
  have e57 := wLVx.fr e45 hF53 rfl rfl
  refine Or.inl ⟨rfl, ?_⟩
  refine r_load (i := 157) (u := 0) (w := 2) rfl rfl rfl ?_
  refine r_const (i := 158) (u := 7) (z := 7) rfl rfl ?_
  have h58 := hI52.f tf43_43
  refine r_call (i := 159) (u := 11) (v := 224) (w := 0) (b := 0) (na := 514) (C2 := xC224) (as := [(2, 43), vi 7]) (s := []) rfl rfl rfl rfl rfl rfl rfl (sp224 (v := 7) hI52 ⟨by omega, by omega⟩ (by omega)  (by omega)) (fun r59 S60 hq61 => ?_)
  obtain ⟨rfl, h62, h63, hI64, hF65, hR66⟩ := hq61
  have hF67 := hF55.trans hF65 rfl rfl
  have hR68 := hR56.trans hR66 rfl
  have e69 := wLVx.fr e57 hF65 rfl rfl
  refine Or.inl ⟨rfl, ?_⟩
  refine r_load (i := 160) (u := 0) (w := 2) rfl rfl rfl ?_
  refine r_load (i := 161) (u := 0) (w := 2) rfl rfl rfl ?_
  refine r_const (i := 162) (u := 1) (z := 1) rfl rfl ?_
  have h70 := hI64.f tf43_51
  have h71 : S60.f 43 51 = S48.f 43 51 := hF65.f rfl
  have h72 : S48.f 43 51 = S36.f 43 51 := hF53.f rfl
  have h73 : S36.f 43 51 = S19.f 43 51 := hF41.f rfl
  have h74 : wphi S60 = wphi S48 := wphiX.fr hF65 rfl rfl
  have h75 : wphi S48 = wphi S36 := wphiX.fr hF53 rfl rfl
  have h76 : wphi S36 = wphi S19 := wphiX.fr hF41 rfl rfl
  have h77 : wpsi S60 = wpsi S48 := wpsiX.fr hF65 rfl rfl
  have h78 : wpsi S48 = wpsi S36 := wpsiX.fr hF53 rfl rfl
  have h79 : wpsi S36 = wpsi S19 := wpsiX.fr hF41 rfl rfl
  refine r_call (i := 163) (u := 11) (v := 193) (w := 0) (b := 0) (na := 514) (C2 := xC193) (as := [(2, 43), vi 1]) (s := [(2, 43)]) rfl rfl rfl rfl rfl rfl rfl (sp193 (t := 1) hI64 ⟨by omega, by omega⟩ (by omega) (by omega) (by omega) e69 (by omega)) (fun r80 S81 hq82 => ?_)
  obtain ⟨z83, rfl, h84, h85, h86, h87, h88, e89, hI90, hF91, hR92⟩ := hq82
  have hF93 := hF67.trans hF91 rfl rfl
  have hR94 := hR68.trans hR92 rfl
  refine Or.inr (Or.inl ⟨rfl, ?_⟩)
  have h95 := hI90.f tf43_43
  have h96 : S81.f 43 43 = S60.f 43 43 := hF91.f rfl
  refine r_call (i := 164) (u := 11) (v := 257) (w := 0) (b := 0) (na := 514) (C2 := xC257) (as := [(2, 43), vi z83]) (s := []) rfl rfl rfl rfl rfl rfl rfl (sp257 (v := z83) hI90 ⟨by omega, by omega⟩ (by omega)  (by omega)) (fun r97 S98 hq99 => ?_)
  obtain ⟨rfl, h100, h101, hI102, hF103, hR104⟩ := hq99
  have hF105 := hF93.trans hF103 rfl rfl
  have hR106 := hR94.trans hR104 rfl
  have e107 := wLVx.fr e89 hF103 rfl rfl
  refine Or.inl ⟨rfl, ?_⟩
  refine r_load (i := 165) (u := 0) (w := 2) rfl rfl rfl ?_
  refine r_load (i := 166) (u := 7) (w := 0) rfl rfl rfl ?_
  refine r_load (i := 167) (u := 0) (w := 2) rfl rfl rfl ?_
  have h108 := hI102.f tf43_43
  refine r_getf (i := 168) (v := 43) (w := 11) (x := vi (S98.f 43 43)) rfl ly43 rfl rfl fun h109 => ?_
  have h109 : Rg (S98.f 43 43) := h109
  refine r_load (i := 169) (u := 7) (w := 0) rfl rfl rfl ?_
  refine r_isub (i := 170) rfl ?_
  refine r_const (i := 171) (u := 4) (z := 4) rfl rfl ?_
  refine r_isub (i := 172) rfl ?_
  refine r_call (i := 173) (u := 11) (v := 231) (w := 0) (b := 0) (na := 1027) (C2 := xC231) (as := [(2, 43), vi to, vi (((S98.f 43 43) - to) - 4)]) (s := []) rfl rfl rfl rfl rfl rfl rfl (sp231 (at0 := to) (v := ((S98.f 43 43) - to) - 4) hI102 ⟨by omega, by omega⟩ ⟨by omega, by omega⟩   (by omega)) (fun r110 S111 hq112 => ?_)
  obtain ⟨rfl, hI113, hF114, hR115⟩ := hq112
  have hF116 := hF105.trans hF114 rfl rfl
  have hR117 := hR106.trans hR115 rfl
  have e118 := wLVx.fr e107 hF114 rfl rfl
  refine Or.inl ⟨rfl, ?_⟩
  refine yT_drop (L1 := [some ((2, 43)), some (vi bg), some (vi h), some (vi k), some (vi st), none, some (vi hn1), none]) rfl ?_
  have h119 := hI113.f tf43_43
  have h120 : S111.f 43 43 = S98.f 43 43 := hF114.f rfl
  have h121 := hI113.f tf43_51
  have h122 : S111.f 43 51 = S98.f 43 51 := hF114.f rfl
  have h123 : S98.f 43 51 = S81.f 43 51 := hF103.f rfl
  have h124 : wphi S111 = wphi S98 := wphiX.fr hF114 rfl rfl
  have h125 : wphi S98 = wphi S81 := wphiX.fr hF103 rfl rfl
  have h126 : wpsi S111 = wpsi S98 := wpsiX.fr hF114 rfl rfl
  have h127 : wpsi S98 = wpsi S81 := wpsiX.fr hF103 rfl rfl
  exact lp198_174 h_bg h_h h_k p_0 p_1 p_2 p_3 p_4 hd S111 hI113 hF116 hR117 e118 st hn1 ⟨by omega, by omega⟩ ⟨by omega, by omega⟩ (by omega) (by omega) (by omega) (by omega) (by omega) (by omega) (by omega) (by omega) (by omega) 
theorem lp198_139 {G : xk} {d : Nat} {S0 : yS} {bg : Int} (h_bg : 0 ≤ bg ∧ bg ≤ 23900) {h : Int} (h_h : -1 ≤ h ∧ h ≤ 23900) {k : Int} (h_k : 0 ≤ k ∧ k ≤ 23) (p_0 : S0.f 43 43 ≤ 23500) (p_1 : S0.f 43 51 = 0) (p_2 : wphi S0 ≤ 19900) (p_3 : wpsi S0 ≤ 1120) (p_4 : bg + 14 ≤ S0.f 43 43) (hd : 7 ≤ d + 1) : ∀ (S : yS) (hI : yI S) (hF : yFr [(43, 43), (43, 49), (43, 50), (43, 51)] [72, 73, 74, 75, 76, 77] S0 S) (hR : yRm [] S0 S) (e_wLV : wLV S) (st hn1 to c0 : Int) (h_st : 2 ≤ st ∧ st ≤ 23500) (h_hn1 : 1 ≤ hn1 ∧ hn1 ≤ 6) (h_to : 0 ≤ to ∧ to ≤ 23600) (h_c0 : 0 ≤ c0 ∧ c0 ≤ 255) (q_0 : S0.f 43 43 ≤ S.f 43 43 ∧ S.f 43 43 ≤ S0.f 43 43 + 60) (q_1 : S.f 43 51 = 0) (q_2 : wphi S ≤ wphi S0) (q_3 : wpsi S ≤ wpsi S0) (q_4 : S0.f 43 43 ≤ 23500 ∧ wphi S0 ≤ 19900 ∧ wpsi S0 ≤ 1120) (q_5 : bg + 14 ≤ S0.f 43 43) (q_6 : (h = -1 → hn1 = 0) ∧ (h ≠ -1 → 3 ≤ hn1)) (q_7 : st = bg + 2) (q_8 : to + 4 ≤ S.f 43 43), yT xPr G LY xC198 139 [some ((2, 43)), some (vi bg), some (vi h), some (vi k), some (vi st), none, some (vi hn1), some (vi to)] [vi c0, (2, 43)] S (d + 1) (fun r S' => r = (0, (0, 0)) ∧ S0.f 43 43 ≤ S'.f 43 43 ∧ S'.f 43 43 ≤ S0.f 43 43 + 70 ∧ S'.f 43 51 = 0 ∧ wphi S' ≤ wphi S0 ∧ wpsi S' ≤ wpsi S0 ∧ (h = -1 → S'.f 43 43 ≤ S0.f 43 43 + 4) ∧ wLV S' ∧ yI S' ∧ yFr [(43, 43), (43, 49), (43, 50), (43, 51)] [72, 73, 74, 75, 76, 77] S0 S' ∧ yRm [] S0 S') := by
  intro S hI hF hR e_wLV st hn1 to c0 h_st h_hn1 h_to h_c0 q_0 q_1 q_2 q_3 q_4 q_5 q_6 q_7 q_8
  have h1 := hI.f tf43_43
  have h2 := hI.f tf43_51
  refine r_call (i := 139) (u := 11) (v := 224) (w := 0) (b := 0) (na := 514) (C2 := xC224) (as := [(2, 43), vi c0]) (s := []) rfl rfl rfl rfl rfl rfl rfl (sp224 (v := c0) hI ⟨by omega, by omega⟩ (by omega)  (by omega)) (fun r3 S4 hq5 => ?_)
  obtain ⟨rfl, h6, h7, hI8, hF9, hR10⟩ := hq5
  have hF11 := hF.trans hF9 rfl rfl
  have hR12 := hR.trans hR10 rfl
  have e13 := wLVx.fr e_wLV hF9 rfl rfl
  refine Or.inl ⟨rfl, ?_⟩
  refine r_load (i := 140) (u := 2) (w := 0) rfl rfl rfl ?_
  refine r_const (i := 141) (u := 63) (z := 63) rfl rfl ?_
  refine c_le (i := 142) (v := 146) rfl ⟨by omega, by omega⟩ ⟨by omega, by omega⟩ (fun h14 => ?_) (fun h15 => ?_)
  · have h16 := hI8.f tf43_43
    have h17 := hI8.f tf43_51
    have h18 : S4.f 43 51 = S.f 43 51 := hF9.f rfl
    have h19 : wphi S4 = wphi S := wphiX.fr hF9 rfl rfl
    have h20 : wpsi S4 = wpsi S := wpsiX.fr hF9 rfl rfl
    exact lp198_146 h_bg h_h h_k p_0 p_1 p_2 p_3 p_4 hd S4 hI8 hF11 hR12 e13 st hn1 to ⟨by omega, by omega⟩ ⟨by omega, by omega⟩ ⟨by omega, by omega⟩ (by omega) (by omega) (by omega) (by omega) (by omega) (by omega) (by omega) (by omega) (by omega) 
  · refine r_load (i := 143) (u := 0) (w := 2) rfl rfl rfl ?_
    refine r_load (i := 144) (u := 2) (w := 0) rfl rfl rfl ?_
    have h21 := hI8.f tf43_43
    refine r_call (i := 145) (u := 11) (v := 257) (w := 0) (b := 0) (na := 514) (C2 := xC257) (as := [(2, 43), vi h]) (s := []) rfl rfl rfl rfl rfl rfl rfl (sp257 (v := h) hI8 ⟨by omega, by omega⟩ (by omega)  (by omega)) (fun r22 S23 hq24 => ?_)
    obtain ⟨rfl, h25, h26, hI27, hF28, hR29⟩ := hq24
    have hF30 := hF11.trans hF28 rfl rfl
    have hR31 := hR12.trans hR29 rfl
    have e32 := wLVx.fr e13 hF28 rfl rfl
    refine Or.inl ⟨rfl, ?_⟩
    have h33 := hI27.f tf43_43
    have h34 := hI27.f tf43_51
    have h35 : S23.f 43 51 = S4.f 43 51 := hF28.f rfl
    have h36 : S4.f 43 51 = S.f 43 51 := hF9.f rfl
    have h37 : wphi S23 = wphi S4 := wphiX.fr hF28 rfl rfl
    have h38 : wphi S4 = wphi S := wphiX.fr hF9 rfl rfl
    have h39 : wpsi S23 = wpsi S4 := wpsiX.fr hF28 rfl rfl
    have h40 : wpsi S4 = wpsi S := wpsiX.fr hF9 rfl rfl
    exact lp198_146 h_bg h_h h_k p_0 p_1 p_2 p_3 p_4 hd S23 hI27 hF30 hR31 e32 st hn1 to ⟨by omega, by omega⟩ ⟨by omega, by omega⟩ ⟨by omega, by omega⟩ (by omega) (by omega) (by omega) (by omega) (by omega) (by omega) (by omega) (by omega) (by omega) 
theorem lp198_54 {G : xk} {d : Nat} {S0 : yS} {bg : Int} (h_bg : 0 ≤ bg ∧ bg ≤ 23900) {h : Int} (h_h : -1 ≤ h ∧ h ≤ 23900) {k : Int} (h_k : 0 ≤ k ∧ k ≤ 23) (p_0 : S0.f 43 43 ≤ 23500) (p_1 : S0.f 43 51 = 0) (p_2 : wphi S0 ≤ 19900) (p_3 : wpsi S0 ≤ 1120) (p_4 : bg + 14 ≤ S0.f 43 43) (hd : 7 ≤ d + 1) : ∀ (n : Nat), ∀ (S : yS) (hI : yI S) (hF : yFr [(43, 43), (43, 49), (43, 50), (43, 51)] [72, 73, 74, 75, 76, 77] S0 S) (hR : yRm [] S0 S) (e_wLV : wLV S) (st hn1 i0 : Int) (h_st : 2 ≤ st ∧ st ≤ 23500) (h_hn1 : 0 ≤ hn1 ∧ hn1 ≤ 6) (h_i0 : 0 ≤ i0 ∧ i0 ≤ 6) (q_0 : S0.f 43 43 ≤ S.f 43 43 ∧ S.f 43 43 ≤ S0.f 43 43 + 2 + 8 * i0) (q_1 : S.f 43 51 = 0) (q_2 : wphi S ≤ wphi S0) (q_3 : wpsi S ≤ wpsi S0) (q_4 : S0.f 43 43 ≤ 23500 ∧ wphi S0 ≤ 19900 ∧ wpsi S0 ≤ 1120) (q_5 : bg + 14 ≤ S0.f 43 43) (q_6 : (h = -1 → hn1 = 0) ∧ (h ≠ -1 → 3 ≤ hn1)) (q_7 : st = bg + 2) (q_8 : i0 ≤ hn1) (hn : 6 - i0 < (n : Nat)), yT xPr G LY xC198 54 [some ((2, 43)), some (vi bg), some (vi h), some (vi k), some (vi st), none, some (vi hn1), some (vi i0)] [] S (d + 1) (fun r S' => r = (0, (0, 0)) ∧ S0.f 43 43 ≤ S'.f 43 43 ∧ S'.f 43 43 ≤ S0.f 43 43 + 70 ∧ S'.f 43 51 = 0 ∧ wphi S' ≤ wphi S0 ∧ wpsi S' ≤ wpsi S0 ∧ (h = -1 → S'.f 43 43 ≤ S0.f 43 43 + 4) ∧ wLV S' ∧ yI S' ∧ yFr [(43, 43), (43, 49), (43, 50), (43, 51)] [72, 73, 74, 75, 76, 77] S0 S' ∧ yRm [] S0 S') := by
  intro n
  induction n with
  | zero => intro S hI hF hR e_wLV st hn1 i0 h_st h_hn1 h_i0 q_0 q_1 q_2 q_3 q_4 q_5 q_6 q_7 q_8 hn; exact absurd hn (by omega)
  | succ n ih =>
    intro S hI hF hR e_wLV st hn1 i0 h_st h_hn1 h_i0 q_0 q_1 q_2 q_3 q_4 q_5 q_6 q_7 q_8 hn
    have h1 := hI.f tf43_43
    have h2 := hI.f tf43_51
    refine r_load (i := 54) (u := 7) (w := 0) rfl rfl rfl ?_
    refine r_load (i := 55) (u := 6) (w := 0) rfl rfl rfl ?_
    refine c_ge (i := 56) (v := 107) rfl ⟨by omega, by omega⟩ ⟨by omega, by omega⟩ (fun h3 => ?_) (fun h4 => ?_)
    · refine r_load (i := 107) (u := 0) (w := 2) rfl rfl rfl ?_
      refine r_load (i := 108) (u := 6) (w := 0) rfl rfl rfl ?_
      refine z_le (i := 109) (v := 112) rfl ⟨by omega, by omega⟩ (fun h5 => ?_) (fun h6 => ?_)
      · refine r_const (i := 112) (u := 0) (z := 0) rfl rfl ?_
        refine r_call (i := 113) (u := 11) (v := 257) (w := 0) (b := 0) (na := 514) (C2 := xC257) (as := [(2, 43), vi 0]) (s := []) rfl rfl rfl rfl rfl rfl rfl (sp257 (v := 0) hI ⟨by omega, by omega⟩ (by omega)  (by omega)) (fun r7 S8 hq9 => ?_)
        obtain ⟨rfl, h10, h11, hI12, hF13, hR14⟩ := hq9
        have hF15 := hF.trans hF13 rfl rfl
        have hR16 := hR.trans hR14 rfl
        have e17 := wLVx.fr e_wLV hF13 rfl rfl
        refine Or.inl ⟨rfl, ?_⟩
        refine r_load (i := 114) (u := 6) (w := 0) rfl rfl rfl ?_
        refine z_le (i := 115) (v := 174) rfl ⟨by omega, by omega⟩ (fun h18 => ?_) (fun h19 => absurd h19 (by omega))
        refine yT_drop (L1 := [some ((2, 43)), some (vi bg), some (vi h), some (vi k), some (vi st), none, some (vi hn1), none]) rfl ?_
        have h20 := hI12.f tf43_43
        have h21 := hI12.f tf43_51
        have h22 : S8.f 43 51 = S.f 43 51 := hF13.f rfl
        have h23 : wphi S8 = wphi S := wphiX.fr hF13 rfl rfl
        have h24 : wpsi S8 = wpsi S := wpsiX.fr hF13 rfl rfl
        exact lp198_174 h_bg h_h h_k p_0 p_1 p_2 p_3 p_4 hd S8 hI12 hF15 hR16 e17 st hn1 ⟨by omega, by omega⟩ ⟨by omega, by omega⟩ (by omega) (by omega) (by omega) (by omega) (by omega) (by omega) (by omega) (by omega) (by omega) 
      · refine r_const (i := 110) (u := 1) (z := 1) rfl rfl ?_
        refine r_goto (i := 111) (v := 113) rfl ?_
        refine r_call (i := 113) (u := 11) (v := 257) (w := 0) (b := 0) (na := 514) (C2 := xC257) (as := [(2, 43), vi 1]) (s := []) rfl rfl rfl rfl rfl rfl rfl (sp257 (v := 1) hI ⟨by omega, by omega⟩ (by omega)  (by omega)) (fun r25 S26 hq27 => ?_)
        obtain ⟨rfl, h28, h29, hI30, hF31, hR32⟩ := hq27
        have hF33 := hF.trans hF31 rfl rfl
        have hR34 := hR.trans hR32 rfl
        have e35 := wLVx.fr e_wLV hF31 rfl rfl
        refine Or.inl ⟨rfl, ?_⟩
        refine r_load (i := 114) (u := 6) (w := 0) rfl rfl rfl ?_
        refine z_le (i := 115) (v := 174) rfl ⟨by omega, by omega⟩ (fun h36 => absurd h36 (by omega)) (fun h37 => ?_)
        refine r_load (i := 116) (u := 0) (w := 2) rfl rfl rfl ?_
        refine r_load (i := 117) (u := 0) (w := 2) rfl rfl rfl ?_
        refine r_str (i := 118) (v := 50) rfl ?_
        have h38 := slv50
        have h39 := hI30.f tf43_51
        have h40 : S26.f 43 51 = S.f 43 51 := hF31.f rfl
        have h41 : wphi S26 = wphi S := wphiX.fr hF31 rfl rfl
        have h42 : wpsi S26 = wpsi S := wpsiX.fr hF31 rfl rfl
        refine r_call (i := 119) (u := 11) (v := 252) (w := 0) (b := 0) (na := 514) (C2 := xC252) (as := [(2, 43), (6, 50)]) (s := [(2, 43)]) rfl rfl rfl rfl rfl rfl rfl (sp252 (s := 50) hI30 ⟨by decide, by decide⟩ (by omega) (by omega) (by omega) (by omega) e35 (by omega)) (fun r43 S44 hq45 => ?_)
        obtain ⟨z46, rfl, h47, h48, h49, h50, h51, fm52, e53, hI54, hF55, hR56⟩ := hq45
        have hF57 := hF33.trans hF55 rfl rfl
        have hR58 := hR34.trans hR56 rfl
        refine Or.inr (Or.inl ⟨rfl, ?_⟩)
        have h59 := hI54.f tf43_43
        have h60 : S44.f 43 43 = S26.f 43 43 := hF55.f rfl
        refine r_call (i := 120) (u := 11) (v := 257) (w := 0) (b := 0) (na := 514) (C2 := xC257) (as := [(2, 43), vi z46]) (s := []) rfl rfl rfl rfl rfl rfl rfl (sp257 (v := z46) hI54 ⟨by omega, by omega⟩ (by omega)  (by omega)) (fun r61 S62 hq63 => ?_)
        obtain ⟨rfl, h64, h65, hI66, hF67, hR68⟩ := hq63
        have hF69 := hF57.trans hF67 rfl rfl
        have hR70 := hR58.trans hR68 rfl
        have e71 := wLVx.fr e53 hF67 rfl rfl
        refine Or.inl ⟨rfl, ?_⟩
        refine r_load (i := 121) (u := 0) (w := 2) rfl rfl rfl ?_
        have h72 := hI66.f tf43_43
        refine r_getf (i := 122) (v := 43) (w := 11) (x := vi (S62.f 43 43)) rfl ly43 rfl rfl fun h73 => ?_
        have h73 : Rg (S62.f 43 43) := h73
        refine r_store (i := 123) (u := 7) (w := 0) (L1 := [some ((2, 43)), some (vi bg), some (vi h), some (vi k), some (vi st), none, some (vi hn1), some (vi (S62.f 43 43))]) rfl rfl rfl rfl ?_
        refine r_load (i := 124) (u := 0) (w := 2) rfl rfl rfl ?_
        refine r_const (i := 125) (u := 0) (z := 0) rfl rfl ?_
        refine r_call (i := 126) (u := 11) (v := 204) (w := 0) (b := 0) (na := 514) (C2 := xC204) (as := [(2, 43), vi 0]) (s := []) rfl rfl rfl rfl rfl rfl rfl (sp204 (v := 0) hI66 ⟨by omega, by omega⟩ (by omega)  (by omega)) (fun r74 S75 hq76 => ?_)
        obtain ⟨rfl, h77, h78, hI79, hF80, hR81⟩ := hq76
        have hF82 := hF69.trans hF80 rfl rfl
        have hR83 := hR70.trans hR81 rfl
        have e84 := wLVx.fr e71 hF80 rfl rfl
        refine Or.inl ⟨rfl, ?_⟩
        refine r_load (i := 127) (u := 0) (w := 2) rfl rfl rfl ?_
        refine r_const (i := 128) (u := 2) (z := 2) rfl rfl ?_
        have h85 := hI79.f tf43_43
        refine r_call (i := 129) (u := 11) (v := 257) (w := 0) (b := 0) (na := 514) (C2 := xC257) (as := [(2, 43), vi 2]) (s := []) rfl rfl rfl rfl rfl rfl rfl (sp257 (v := 2) hI79 ⟨by omega, by omega⟩ (by omega)  (by omega)) (fun r86 S87 hq88 => ?_)
        obtain ⟨rfl, h89, h90, hI91, hF92, hR93⟩ := hq88
        have hF94 := hF82.trans hF92 rfl rfl
        have hR95 := hR83.trans hR93 rfl
        have e96 := wLVx.fr e84 hF92 rfl rfl
        refine Or.inl ⟨rfl, ?_⟩
        refine r_load (i := 130) (u := 0) (w := 2) rfl rfl rfl ?_
        refine r_load (i := 131) (u := 2) (w := 0) rfl rfl rfl ?_
        refine r_const (i := 132) (u := 63) (z := 63) rfl rfl ?_
        refine c_le (i := 133) (v := 136) rfl ⟨by omega, by omega⟩ ⟨by omega, by omega⟩ (fun h97 => ?_) (fun h98 => ?_)
        · refine r_const (i := 136) (u := 64) (z := 64) rfl rfl ?_
          refine r_load (i := 137) (u := 2) (w := 0) rfl rfl rfl ?_
          refine r_iadd (i := 138) rfl ?_
          have h99 := hI91.f tf43_43
          have h100 := hI91.f tf43_51
          have h101 : S87.f 43 51 = S75.f 43 51 := hF92.f rfl
          have h102 : S75.f 43 51 = S62.f 43 51 := hF80.f rfl
          have h103 : S62.f 43 51 = S44.f 43 51 := hF67.f rfl
          have h104 : wphi S87 = wphi S75 := wphiX.fr hF92 rfl rfl
          have h105 : wphi S75 = wphi S62 := wphiX.fr hF80 rfl rfl
          have h106 : wphi S62 = wphi S44 := wphiX.fr hF67 rfl rfl
          have h107 : wpsi S87 = wpsi S75 := wpsiX.fr hF92 rfl rfl
          have h108 : wpsi S75 = wpsi S62 := wpsiX.fr hF80 rfl rfl
          have h109 : wpsi S62 = wpsi S44 := wpsiX.fr hF67 rfl rfl
          exact lp198_139 h_bg h_h h_k p_0 p_1 p_2 p_3 p_4 hd S87 hI91 hF94 hR95 e96 st hn1 (S62.f 43 43) (64 + h) ⟨by omega, by omega⟩ ⟨by omega, by omega⟩ ⟨by omega, by omega⟩ ⟨by omega, by omega⟩ (by omega) (by omega) (by omega) (by omega) (by omega) (by omega) (by omega) (by omega) (by omega) 
        · refine r_const (i := 134) (u := 247) (z := 247) rfl rfl ?_
          refine r_goto (i := 135) (v := 139) rfl ?_
          have h110 := hI91.f tf43_43
          have h111 := hI91.f tf43_51
          have h112 : S87.f 43 51 = S75.f 43 51 := hF92.f rfl
          have h113 : S75.f 43 51 = S62.f 43 51 := hF80.f rfl
          have h114 : S62.f 43 51 = S44.f 43 51 := hF67.f rfl
          have h115 : wphi S87 = wphi S75 := wphiX.fr hF92 rfl rfl
          have h116 : wphi S75 = wphi S62 := wphiX.fr hF80 rfl rfl
          have h117 : wphi S62 = wphi S44 := wphiX.fr hF67 rfl rfl
          have h118 : wpsi S87 = wpsi S75 := wpsiX.fr hF92 rfl rfl
          have h119 : wpsi S75 = wpsi S62 := wpsiX.fr hF80 rfl rfl
          have h120 : wpsi S62 = wpsi S44 := wpsiX.fr hF67 rfl rfl
          exact lp198_139 h_bg h_h h_k p_0 p_1 p_2 p_3 p_4 hd S87 hI91 hF94 hR95 e96 st hn1 (S62.f 43 43) 247 ⟨by omega, by omega⟩ ⟨by omega, by omega⟩ ⟨by omega, by omega⟩ ⟨by omega, by omega⟩ (by omega) (by omega) (by omega) (by omega) (by omega) (by omega) (by omega) (by omega) (by omega) 
    · refine r_load (i := 57) (u := 0) (w := 2) rfl rfl rfl ?_
      refine r_const (i := 58) (u := 0) (z := 0) rfl rfl ?_
      refine r_call (i := 59) (u := 11) (v := 257) (w := 0) (b := 0) (na := 514) (C2 := xC257) (as := [(2, 43), vi 0]) (s := []) rfl rfl rfl rfl rfl rfl rfl (sp257 (v := 0) hI ⟨by omega, by omega⟩ (by omega)  (by omega)) (fun r121 S122 hq123 => ?_)
      obtain ⟨rfl, h124, h125, hI126, hF127, hR128⟩ := hq123
      have hF129 := hF.trans hF127 rfl rfl
      have hR130 := hR.trans hR128 rfl
      have e131 := wLVx.fr e_wLV hF127 rfl rfl
      refine Or.inl ⟨rfl, ?_⟩
      refine r_load (i := 60) (u := 0) (w := 2) rfl rfl rfl ?_
      refine r_load (i := 61) (u := 2) (w := 0) rfl rfl rfl ?_
      have h132 := hI126.f tf43_43
      refine r_call (i := 62) (u := 11) (v := 257) (w := 0) (b := 0) (na := 514) (C2 := xC257) (as := [(2, 43), vi h]) (s := []) rfl rfl rfl rfl rfl rfl rfl (sp257 (v := h) hI126 ⟨by omega, by omega⟩ (by omega)  (by omega)) (fun r133 S134 hq135 => ?_)
      obtain ⟨rfl, h136, h137, hI138, hF139, hR140⟩ := hq135
      have hF141 := hF129.trans hF139 rfl rfl
      have hR142 := hR130.trans hR140 rfl
      have e143 := wLVx.fr e131 hF139 rfl rfl
      refine Or.inl ⟨rfl, ?_⟩
      refine r_load (i := 63) (u := 0) (w := 2) rfl rfl rfl ?_
      refine r_load (i := 64) (u := 7) (w := 0) rfl rfl rfl ?_
      refine r_load (i := 65) (u := 6) (w := 0) rfl rfl rfl ?_
      refine r_const (i := 66) (u := 1) (z := 1) rfl rfl ?_
      refine r_isub (i := 67) rfl ?_
      refine c_ne (i := 68) (v := 73) rfl ⟨by omega, by omega⟩ ⟨by omega, by omega⟩ (fun h144 => ?_) (fun h145 => ?_)
      · refine r_load (i := 73) (u := 2) (w := 0) rfl rfl rfl ?_
        have h146 := hI138.f tf43_43
        have h147 := hI138.f tf43_51
        have h148 : S134.f 43 51 = S122.f 43 51 := hF139.f rfl
        have h149 : S122.f 43 51 = S.f 43 51 := hF127.f rfl
        have h150 : wphi S134 = wphi S122 := wphiX.fr hF139 rfl rfl
        have h151 : wphi S122 = wphi S := wphiX.fr hF127 rfl rfl
        have h152 : wpsi S134 = wpsi S122 := wpsiX.fr hF139 rfl rfl
        have h153 : wpsi S122 = wpsi S := wpsiX.fr hF127 rfl rfl
        exact lp198_74 h_bg h_h h_k p_0 p_1 p_2 p_3 p_4 hd (st := st) (hn1 := hn1) (i0 := i0) ⟨by omega, by omega⟩ ⟨by omega, by omega⟩ ⟨by omega, by omega⟩ n ih (by omega) S134 hI138 hF141 hR142 e143 h ⟨by omega, by omega⟩ (by omega) (by omega) (by omega) (by omega) (by omega) (by omega) (by omega) (by omega) (by omega) 
      · refine r_load (i := 69) (u := 2) (w := 0) rfl rfl rfl ?_
        refine r_const (i := 70) (u := 1) (z := 1) rfl rfl ?_
        refine r_iadd (i := 71) rfl ?_
        refine r_goto (i := 72) (v := 74) rfl ?_
        have h154 := hI138.f tf43_43
        have h155 := hI138.f tf43_51
        have h156 : S134.f 43 51 = S122.f 43 51 := hF139.f rfl
        have h157 : S122.f 43 51 = S.f 43 51 := hF127.f rfl
        have h158 : wphi S134 = wphi S122 := wphiX.fr hF139 rfl rfl
        have h159 : wphi S122 = wphi S := wphiX.fr hF127 rfl rfl
        have h160 : wpsi S134 = wpsi S122 := wpsiX.fr hF139 rfl rfl
        have h161 : wpsi S122 = wpsi S := wpsiX.fr hF127 rfl rfl
        exact lp198_74 h_bg h_h h_k p_0 p_1 p_2 p_3 p_4 hd (st := st) (hn1 := hn1) (i0 := i0) ⟨by omega, by omega⟩ ⟨by omega, by omega⟩ ⟨by omega, by omega⟩ n ih (by omega) S134 hI138 hF141 hR142 e143 (h + 1) ⟨by omega, by omega⟩ (by omega) (by omega) (by omega) (by omega) (by omega) (by omega) (by omega) (by omega) (by omega) 
theorem lp198_48 {G : xk} {d : Nat} {S0 : yS} {bg : Int} (h_bg : 0 ≤ bg ∧ bg ≤ 23900) {h : Int} (h_h : -1 ≤ h ∧ h ≤ 23900) {k : Int} (h_k : 0 ≤ k ∧ k ≤ 23) (p_0 : S0.f 43 43 ≤ 23500) (p_1 : S0.f 43 51 = 0) (p_2 : wphi S0 ≤ 19900) (p_3 : wpsi S0 ≤ 1120) (p_4 : bg + 14 ≤ S0.f 43 43) (hd : 7 ≤ d + 1) : ∀ (S : yS) (hI : yI S) (hF : yFr [(43, 43), (43, 49), (43, 50), (43, 51)] [72, 73, 74, 75, 76, 77] S0 S) (hR : yRm [] S0 S) (e_wLV : wLV S) (st hn1 : Int) (h_st : 2 ≤ st ∧ st ≤ 23500) (h_hn1 : 0 ≤ hn1 ∧ hn1 ≤ 6) (q_0 : S0.f 43 43 ≤ S.f 43 43 ∧ S.f 43 43 ≤ S0.f 43 43 + 0) (q_1 : S.f 43 51 = 0) (q_2 : wphi S ≤ wphi S0) (q_3 : wpsi S ≤ wpsi S0) (q_4 : S0.f 43 43 ≤ 23500 ∧ wphi S0 ≤ 19900 ∧ wpsi S0 ≤ 1120) (q_5 : bg + 14 ≤ S0.f 43 43) (q_6 : (h = -1 → hn1 = 0) ∧ (h ≠ -1 → 3 ≤ hn1)) (q_7 : st = bg + 2), yT xPr G LY xC198 48 [some ((2, 43)), some (vi bg), some (vi h), some (vi k), some (vi st), none, none, none] [vi hn1] S (d + 1) (fun r S' => r = (0, (0, 0)) ∧ S0.f 43 43 ≤ S'.f 43 43 ∧ S'.f 43 43 ≤ S0.f 43 43 + 70 ∧ S'.f 43 51 = 0 ∧ wphi S' ≤ wphi S0 ∧ wpsi S' ≤ wpsi S0 ∧ (h = -1 → S'.f 43 43 ≤ S0.f 43 43 + 4) ∧ wLV S' ∧ yI S' ∧ yFr [(43, 43), (43, 49), (43, 50), (43, 51)] [72, 73, 74, 75, 76, 77] S0 S' ∧ yRm [] S0 S') := by
  intro S hI hF hR e_wLV st hn1 h_st h_hn1 q_0 q_1 q_2 q_3 q_4 q_5 q_6 q_7
  have h1 := hI.f tf43_43
  have h2 := hI.f tf43_51
  refine r_store (i := 48) (u := 6) (w := 0) (L1 := [some ((2, 43)), some (vi bg), some (vi h), some (vi k), some (vi st), none, some (vi hn1), none]) rfl rfl rfl rfl ?_
  refine r_load (i := 49) (u := 0) (w := 2) rfl rfl rfl ?_
  refine r_load (i := 50) (u := 6) (w := 0) rfl rfl rfl ?_
  refine r_call (i := 51) (u := 11) (v := 257) (w := 0) (b := 0) (na := 514) (C2 := xC257) (as := [(2, 43), vi hn1]) (s := []) rfl rfl rfl rfl rfl rfl rfl (sp257 (v := hn1) hI ⟨by omega, by omega⟩ (by omega)  (by omega)) (fun r3 S4 hq5 => ?_)
  obtain ⟨rfl, h6, h7, hI8, hF9, hR10⟩ := hq5
  have hF11 := hF.trans hF9 rfl rfl
  have hR12 := hR.trans hR10 rfl
  have e13 := wLVx.fr e_wLV hF9 rfl rfl
  refine Or.inl ⟨rfl, ?_⟩
  refine r_const (i := 52) (u := 0) (z := 0) rfl rfl ?_
  refine r_store (i := 53) (u := 7) (w := 0) (L1 := [some ((2, 43)), some (vi bg), some (vi h), some (vi k), some (vi st), none, some (vi hn1), some (vi 0)]) rfl rfl rfl rfl ?_
  have h14 := hI8.f tf43_43
  have h15 := hI8.f tf43_51
  have h16 : S4.f 43 51 = S.f 43 51 := hF9.f rfl
  have h17 : wphi S4 = wphi S := wphiX.fr hF9 rfl rfl
  have h18 : wpsi S4 = wpsi S := wpsiX.fr hF9 rfl rfl
  exact lp198_54 h_bg h_h h_k p_0 p_1 p_2 p_3 p_4 hd _ S4 hI8 hF11 hR12 e13 st hn1 0 ⟨by omega, by omega⟩ ⟨by omega, by omega⟩ ⟨by omega, by omega⟩ (by omega) (by omega) (by omega) (by omega) (by omega) (by omega) (by omega) (by omega) (by omega) (Int.lt_succ_toNat _)
/-- ProxyForgeModel.endCode -/
theorem sp198 {G : xk} {S : yS} {d : Nat} (hI : yI S) {bg : Int} (h_bg : 0 ≤ bg ∧ bg ≤ 23900) {h : Int} (h_h : -1 ≤ h ∧ h ≤ 23900) {k : Int} (h_k : 0 ≤ k ∧ k ≤ 23) (p_0 : S.f 43 43 ≤ 23500) (p_1 : S.f 43 51 = 0) (p_2 : wphi S ≤ 19900) (p_3 : wpsi S ≤ 1120) (p_4 : bg + 14 ≤ S.f 43 43) (e_wLV : wLV S) (hd : 7 ≤ d) : yT xPr G LY xC198 0 [some ((2, 43)), some (vi bg), some (vi h), some (vi k)] [] S d (fun r S' => r = (0, (0, 0)) ∧ S.f 43 43 ≤ S'.f 43 43 ∧ S'.f 43 43 ≤ S.f 43 43 + 70 ∧ S'.f 43 51 = 0 ∧ wphi S' ≤ wphi S ∧ wpsi S' ≤ wpsi S ∧ (h = -1 → S'.f 43 43 ≤ S.f 43 43 + 4) ∧ wLV S' ∧ yI S' ∧ yFr [(43, 43), (43, 49), (43, 50), (43, 51)] [72, 73, 74, 75, 76, 77] S S' ∧ yRm [] S S') := by
  refine yT_pad 4 ?_
  show yT xPr G LY xC198 0 [some ((2, 43)), some (vi bg), some (vi h), some (vi k), none, none, none, none] [] S d _
  obtain ⟨d, rfl⟩ : ∃ q, d = q + 1 := ⟨d - 1, by omega⟩
  have hF : yFr [(43, 43), (43, 49), (43, 50), (43, 51)] [72, 73, 74, 75, 76, 77] S S := yFr.refl S
  have hR : yRm [] S S := yRm.refl S
  have h1 := hI.f tf43_43
  have h2 := hI.f tf43_51
  refine r_load (i := 0) (u := 1) (w := 0) rfl rfl rfl ?_
  refine r_const (i := 1) (u := 2) (z := 2) rfl rfl ?_
  refine r_iadd (i := 2) rfl ?_
  refine r_store (i := 3) (u := 4) (w := 0) (L1 := [some ((2, 43)), some (vi bg), some (vi h), some (vi k), some (vi (bg + 2)), none, none, none]) rfl rfl rfl rfl ?_
  refine r_load (i := 4) (u := 0) (w := 2) rfl rfl rfl ?_
  refine r_getf (i := 5) (v := 43) (w := 11) (x := vi (S.f 43 43)) rfl ly43 rfl rfl fun h3 => ?_
  have h3 : Rg (S.f 43 43) := h3
  refine r_load (i := 6) (u := 4) (w := 0) rfl rfl rfl ?_
  refine r_isub (i := 7) rfl ?_
  refine r_const (i := 8) (u := 12) (z := 12) rfl rfl ?_
  refine r_isub (i := 9) rfl ?_
  refine r_store (i := 10) (u := 5) (w := 0) (L1 := [some ((2, 43)), some (vi bg), some (vi h), some (vi k), some (vi (bg + 2)), some (vi (((S.f 43 43) - (bg + 2)) - 12)), none, none]) rfl rfl rfl rfl ?_
  refine r_load (i := 11) (u := 0) (w := 2) rfl rfl rfl ?_
  refine r_load (i := 12) (u := 4) (w := 0) rfl rfl rfl ?_
  refine r_const (i := 13) (u := 8) (z := 8) rfl rfl ?_
  refine r_iadd (i := 14) rfl ?_
  refine r_load (i := 15) (u := 5) (w := 0) rfl rfl rfl ?_
  refine r_call (i := 16) (u := 11) (v := 231) (w := 0) (b := 0) (na := 1027) (C2 := xC231) (as := [(2, 43), vi ((bg + 2) + 8), vi (((S.f 43 43) - (bg + 2)) - 12)]) (s := []) rfl rfl rfl rfl rfl rfl rfl (sp231 (at0 := (bg + 2) + 8) (v := ((S.f 43 43) - (bg + 2)) - 12) hI ⟨by omega, by omega⟩ ⟨by omega, by omega⟩   (by omega)) (fun r4 S5 hq6 => ?_)
  obtain ⟨rfl, hI7, hF8, hR9⟩ := hq6
  have hF10 := hF.trans hF8 rfl rfl
  have hR11 := hR.trans hR9 rfl
  have e12 := wLVx.fr e_wLV hF8 rfl rfl
  refine Or.inl ⟨rfl, ?_⟩
  refine r_load (i := 17) (u := 0) (w := 2) rfl rfl rfl ?_
  refine r_getf (i := 18) (v := 41) (w := 11) (x := (2, 72)) rfl ly43 rfl rfl fun _ => ?_
  refine r_load (i := 19) (u := 4) (w := 0) rfl rfl rfl ?_
  refine r_const (i := 20) (u := 4) (z := 4) rfl rfl ?_
  refine r_iadd (i := 21) rfl ?_
  refine r_load (i := 22) (u := 0) (w := 2) rfl rfl rfl ?_
  have h14 := hI7.f tf43_53
  have h15 : S5.f 43 53 = S.f 43 53 := hF8.f rfl
  refine r_getf (i := 23) (v := 53) (w := 11) (x := vi (S5.f 43 53)) rfl ly43 rfl rfl fun h16 => ?_
  have h16 : Rg (S5.f 43 53) := h16
  refine r_const (i := 24) (u := 8) (z := 8) rfl rfl ?_
  refine r_ishr (i := 25) rfl (by omega) (by omega) (by omega) (by omega) ?_
  have h17 := @yshr_c (S5.f 43 53) 8 (by omega) (by omega)
  refine s_int (i := 26) rfl ly72 rfl (by omega) (by omega) ⟨by omega, by omega⟩ ?_
  have hI19 := hI7.seta0 (b := 72) (j := ((bg + 2) + 4).toNat) (z := yshr (S5.f 43 53) 8) rfl rfl
  have hF21 := hF10.seta (b := 72) (j := ((bg + 2) + 4).toNat) (z := yshr (S5.f 43 53) 8) rfl
  have hR22 := hR11.seta (b := 72) (j := ((bg + 2) + 4).toNat) (z := yshr (S5.f 43 53) 8)
  have e23 := wLVx.seta e12 (b := 72) (j := ((bg + 2) + 4).toNat) (z := yshr (S5.f 43 53) 8) rfl
  refine yT_gen (fun S18 hS20 => ?_)
  rw [hS20] at hI19 hF21 hR22 e23
  refine r_load (i := 27) (u := 0) (w := 2) rfl rfl rfl ?_
  refine r_getf (i := 28) (v := 41) (w := 11) (x := (2, 72)) rfl ly43 rfl rfl fun _ => ?_
  refine r_load (i := 29) (u := 4) (w := 0) rfl rfl rfl ?_
  refine r_const (i := 30) (u := 5) (z := 5) rfl rfl ?_
  refine r_iadd (i := 31) rfl ?_
  refine r_load (i := 32) (u := 0) (w := 2) rfl rfl rfl ?_
  have h25 := hI19.f tf43_53
  have h26 : S18.f 43 53 = S.f 43 53 := hF21.f rfl
  refine r_getf (i := 33) (v := 53) (w := 11) (x := vi (S18.f 43 53)) rfl ly43 rfl rfl fun h27 => ?_
  have h27 : Rg (S18.f 43 53) := h27
  refine r_const (i := 34) (u := 255) (z := 255) rfl rfl ?_
  refine r_iand (i := 35) rfl ?_
  have h28 := @yand_c (S18.f 43 53) 255 (by decide) (by decide)
  have h29 := yand_255 (S18.f 43 53)
  refine s_int (i := 36) rfl ly72 rfl (by omega) (by omega) ⟨by omega, by omega⟩ ?_
  have hI31 := hI19.seta0 (b := 72) (j := ((bg + 2) + 5).toNat) (z := yand (S18.f 43 53) 255) rfl rfl
  have hF33 := hF21.seta (b := 72) (j := ((bg + 2) + 5).toNat) (z := yand (S18.f 43 53) 255) rfl
  have hR34 := hR22.seta (b := 72) (j := ((bg + 2) + 5).toNat) (z := yand (S18.f 43 53) 255)
  have e35 := wLVx.seta e23 (b := 72) (j := ((bg + 2) + 5).toNat) (z := yand (S18.f 43 53) 255) rfl
  refine yT_gen (fun S30 hS32 => ?_)
  rw [hS32] at hI31 hF33 hR34 e35
  refine r_load (i := 37) (u := 2) (w := 0) rfl rfl rfl ?_
  refine r_const (i := 38) (u := 4294967295) (z := -1) rfl rfl ?_
  refine c_ne (i := 39) (v := 42) rfl ⟨by omega, by omega⟩ ⟨by omega, by omega⟩ (fun h36 => ?_) (fun h37 => ?_)
  · refine r_const (i := 42) (u := 3) (z := 3) rfl rfl ?_
    refine r_load (i := 43) (u := 0) (w := 2) rfl rfl rfl ?_
    refine r_getf (i := 44) (v := 26) (w := 11) (x := (2, 63)) rfl ly43 rfl rfl fun _ => ?_
    refine r_load (i := 45) (u := 3) (w := 0) rfl rfl rfl ?_
    refine a_int (i := 46) rfl ly63 rfl (by omega) (by omega) fun h39 => ?_
    have h40 := hI31.a ta63 k.toNat
    have h41 : S30.a 63 k.toNat = S.a 63 k.toNat := hF33.a rfl _
    refine r_iadd (i := 47) rfl ?_
    refine yT_drop (L1 := [some ((2, 43)), some (vi bg), some (vi h), some (vi k), some (vi (bg + 2)), none, none, none]) rfl ?_
    have h42 := hI31.f tf43_43
    have h43 : S30.f 43 43 = S18.f 43 43 := by rw [← hS32]; rfl
    have h44 : S18.f 43 43 = S5.f 43 43 := by rw [← hS20]; rfl
    have h45 : S5.f 43 43 = S.f 43 43 := hF8.f rfl
    have h46 := hI31.f tf43_51
    have h47 : S30.f 43 51 = S18.f 43 51 := by rw [← hS32]; rfl
    have h48 : S18.f 43 51 = S5.f 43 51 := by rw [← hS20]; rfl
    have h49 : S5.f 43 51 = S.f 43 51 := hF8.f rfl
    have h50 : wphi S30 = wphi S18 := by rw [← hS32]; exact wphiX.seta rfl
    have h51 : wphi S18 = wphi S5 := by rw [← hS20]; exact wphiX.seta rfl
    have h52 : wphi S5 = wphi S := wphiX.fr hF8 rfl rfl
    have h53 : wpsi S30 = wpsi S18 := by rw [← hS32]; exact wpsiX.seta rfl
    have h54 : wpsi S18 = wpsi S5 := by rw [← hS20]; exact wpsiX.seta rfl
    have h55 : wpsi S5 = wpsi S := wpsiX.fr hF8 rfl rfl
    exact lp198_48 h_bg h_h h_k p_0 p_1 p_2 p_3 p_4 hd S30 hI31 hF33 hR34 e35 (bg + 2) (3 + (S30.a 63 k.toNat)) ⟨by omega, by omega⟩ ⟨by omega, by omega⟩ (by omega) (by omega) (by omega) (by omega) (by omega) (by omega) (by omega) (by omega) 
  · refine r_const (i := 40) (u := 0) (z := 0) rfl rfl ?_
    refine r_goto (i := 41) (v := 48) rfl ?_
    refine yT_drop (L1 := [some ((2, 43)), some (vi bg), some (vi h), some (vi k), some (vi (bg + 2)), none, none, none]) rfl ?_
    have h56 := hI31.f tf43_43
    have h57 : S30.f 43 43 = S18.f 43 43 := by rw [← hS32]; rfl
    have h58 : S18.f 43 43 = S5.f 43 43 := by rw [← hS20]; rfl
    have h59 : S5.f 43 43 = S.f 43 43 := hF8.f rfl
    have h60 := hI31.f tf43_51
    have h61 : S30.f 43 51 = S18.f 43 51 := by rw [← hS32]; rfl
    have h62 : S18.f 43 51 = S5.f 43 51 := by rw [← hS20]; rfl
    have h63 : S5.f 43 51 = S.f 43 51 := hF8.f rfl
    have h64 : wphi S30 = wphi S18 := by rw [← hS32]; exact wphiX.seta rfl
    have h65 : wphi S18 = wphi S5 := by rw [← hS20]; exact wphiX.seta rfl
    have h66 : wphi S5 = wphi S := wphiX.fr hF8 rfl rfl
    have h67 : wpsi S30 = wpsi S18 := by rw [← hS32]; exact wpsiX.seta rfl
    have h68 : wpsi S18 = wpsi S5 := by rw [← hS20]; exact wpsiX.seta rfl
    have h69 : wpsi S5 = wpsi S := wpsiX.fr hF8 rfl rfl
    exact lp198_48 h_bg h_h h_k p_0 p_1 p_2 p_3 p_4 hd S30 hI31 hF33 hR34 e35 (bg + 2) 0 ⟨by omega, by omega⟩ ⟨by omega, by omega⟩ (by omega) (by omega) (by omega) (by omega) (by omega) (by omega) (by omega) (by omega) 
end XNC
