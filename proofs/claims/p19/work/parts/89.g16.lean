set_option linter.unusedVariables false
set_option maxRecDepth 4000
noncomputable section XNC
/-- ProxyForgeModel.one -/
theorem sp224 {G : xk} {S : yS} {d : Nat} (hI : yI S) {v : Int} (h_v : -2147483648 ≤ v ∧ v ≤ 2147483647) (p_0 : S.f 43 43 ≤ 23990) (hd : 0 ≤ d) : yT xPr G LY xC224 0 [some ((2, 43)), some (vi v)] [] S d (fun r S' => r = (0, (0, 0)) ∧ S.f 43 43 + 1 ≤ S'.f 43 43 ∧ S'.f 43 43 ≤ S.f 43 43 + 1 ∧ mQ S S' (wby [v % 256]) ∧ yI S' ∧ yFr [(43, 43)] [72] S S' ∧ yRm [] S S') := by
  refine yT_pad 0 ?_
  show yT xPr G LY xC224 0 [some ((2, 43)), some (vi v)] [] S d _
  have hF : yFr [(43, 43)] [72] S S := yFr.refl S
  have hR : yRm [] S S := yRm.refl S
  have h1 := hI.f tf43_43
  refine r_load (i := 0) (u := 0) (w := 2) rfl rfl rfl ?_
  refine r_getf (i := 1) (v := 41) (w := 11) (x := (2, 72)) rfl ly43 rfl rfl fun _ => ?_
  refine r_load (i := 2) (u := 0) (w := 2) rfl rfl rfl ?_
  refine r_getf (i := 3) (v := 43) (w := 11) (x := vi (S.f 43 43)) rfl ly43 rfl rfl fun h3 => ?_
  have h3 : Rg (S.f 43 43) := h3
  refine r_load (i := 4) (u := 1) (w := 0) rfl rfl rfl ?_
  refine r_const (i := 5) (u := 255) (z := 255) rfl rfl ?_
  refine r_iand (i := 6) rfl ?_
  have h4 := @yand_c v 255 (by decide) (by decide)
  have h5 := yand_255 v
  refine s_int (i := 7) rfl ly72 rfl (by omega) (by omega) ⟨by omega, by omega⟩ ?_
  have hI7 := hI.seta0 (b := 72) (j := (S.f 43 43).toNat) (z := yand v 255) rfl rfl
  have hF9 := hF.seta (b := 72) (j := (S.f 43 43).toNat) (z := yand v 255) rfl
  have hR10 := hR.seta (b := 72) (j := (S.f 43 43).toNat) (z := yand v 255)
  refine yT_gen (fun S6 hS8 => ?_)
  rw [hS8] at hI7 hF9 hR10 
  refine r_load (i := 8) (u := 0) (w := 2) rfl rfl rfl ?_
  refine r_dup (i := 9) rfl rfl ?_
  have h11 := hI7.f tf43_43
  have h12 : S6.f 43 43 = S.f 43 43 := by rw [← hS8]; rfl
  refine r_getf (i := 10) (v := 43) (w := 11) (x := vi (S6.f 43 43)) rfl ly43 rfl rfl fun h13 => ?_
  have h13 : Rg (S6.f 43 43) := h13
  refine r_const (i := 11) (u := 1) (z := 1) rfl rfl ?_
  refine r_iadd (i := 12) rfl ?_
  refine r_putI (i := 13) (v := 43) (w := 11) rfl ly43 rfl ⟨by omega, by omega⟩ ?_
  have hI15 := hI7.setf (b := 43) (w := 43) (z := (S6.f 43 43) + 1) tf43_43 rfl (by omega) (by omega)
  have hF17 := hF9.setf (b := 43) (w := 43) (z := (S6.f 43 43) + 1) rfl
  have hR18 := hR10.setf (b := 43) (w := 43) (z := (S6.f 43 43) + 1)
  refine yT_gen (fun S14 hS16 => ?_)
  rw [hS16] at hI15 hF17 hR18 
  have h19 := hI15.f tf43_43
  have h20 : S14.f 43 43 = (S6.f 43 43) + 1 := by rw [← hS16]; exact ysf_eq
  exact r_ret0 (i := 14) rfl ⟨rfl, (by omega), (by omega), (by exact mQ_1 (hI.f tf43_43).1 (by omega) (fun j => by subst hS8 hS16; rfl) ⟨⟨by subst hS8 hS16; rfl, by subst hS8 hS16; rfl⟩, (fun j => by subst hS8 hS16; rfl), (fun j => by subst hS8 hS16; rfl), (fun j => by subst hS8 hS16; rfl), (fun j => by subst hS8 hS16; rfl)⟩ (by subst hS8 hS16; rfl) (by subst hS8 hS16; rfl) (by subst hS8 hS16; rfl) (fun j => by subst hS8 hS16; rfl)), hI15, hF17, hR18⟩
/-- ProxyForgeModel.two -/
theorem sp257 {G : xk} {S : yS} {d : Nat} (hI : yI S) {v : Int} (h_v : 0 ≤ v ∧ v ≤ 2147483647) (p_0 : S.f 43 43 ≤ 23980) (hd : 1 ≤ d) : yT xPr G LY xC257 0 [some ((2, 43)), some (vi v)] [] S d (fun r S' => r = (0, (0, 0)) ∧ S.f 43 43 + 2 ≤ S'.f 43 43 ∧ S'.f 43 43 ≤ S.f 43 43 + 2 ∧ mQ S S' (wby (tw v)) ∧ yI S' ∧ yFr [(43, 43)] [72] S S' ∧ yRm [] S S') := by
  refine yT_pad 0 ?_
  show yT xPr G LY xC257 0 [some ((2, 43)), some (vi v)] [] S d _
  obtain ⟨d, rfl⟩ : ∃ q, d = q + 1 := ⟨d - 1, by omega⟩
  have hF : yFr [(43, 43)] [72] S S := yFr.refl S
  have hR : yRm [] S S := yRm.refl S
  have h1 := hI.f tf43_43
  refine r_load (i := 0) (u := 0) (w := 2) rfl rfl rfl ?_
  refine r_load (i := 1) (u := 1) (w := 0) rfl rfl rfl ?_
  refine r_const (i := 2) (u := 8) (z := 8) rfl rfl ?_
  refine r_ishr (i := 3) rfl (by omega) (by omega) (by omega) (by omega) ?_
  have h2 := @yshr_c v 8 (by omega) (by omega)
  refine r_call (i := 4) (u := 11) (v := 224) (w := 0) (b := 0) (na := 514) (C2 := xC224) (as := [(2, 43), vi (yshr v 8)]) (s := []) rfl rfl rfl rfl rfl rfl rfl (sp224 (v := yshr v 8) hI ⟨by omega, by omega⟩ (by omega)  (by omega)) (fun r3 S4 hq5 => ?_)
  obtain ⟨rfl, h6, h7, mq8, hI9, hF10, hR11⟩ := hq5
  have hF12 := hF.trans hF10 rfl rfl
  have hR13 := hR.trans hR11 rfl
  refine Or.inl ⟨rfl, ?_⟩
  refine r_load (i := 5) (u := 0) (w := 2) rfl rfl rfl ?_
  refine r_load (i := 6) (u := 1) (w := 0) rfl rfl rfl ?_
  have h14 := hI9.f tf43_43
  refine r_call (i := 7) (u := 11) (v := 224) (w := 0) (b := 0) (na := 514) (C2 := xC224) (as := [(2, 43), vi v]) (s := []) rfl rfl rfl rfl rfl rfl rfl (sp224 (v := v) hI9 ⟨by omega, by omega⟩ (by omega)  (by omega)) (fun r15 S16 hq17 => ?_)
  obtain ⟨rfl, h18, h19, mq20, hI21, hF22, hR23⟩ := hq17
  have hF24 := hF12.trans hF22 rfl rfl
  have hR25 := hR13.trans hR23 rfl
  refine Or.inl ⟨rfl, ?_⟩
  have h26 := hI21.f tf43_43
  exact r_ret0 (i := 8) rfl ⟨rfl, (by omega), (by omega), (by exact mQ_tw mq8 mq20), hI21, hF24, hR25⟩
/-- ProxyForgeModel.four -/
theorem sp204 {G : xk} {S : yS} {d : Nat} (hI : yI S) {v : Int} (h_v : 0 ≤ v ∧ v ≤ 2147483647) (p_0 : S.f 43 43 ≤ 23970) (hd : 2 ≤ d) : yT xPr G LY xC204 0 [some ((2, 43)), some (vi v)] [] S d (fun r S' => r = (0, (0, 0)) ∧ S.f 43 43 + 4 ≤ S'.f 43 43 ∧ S'.f 43 43 ≤ S.f 43 43 + 4 ∧ mQ S S' (wby (fo v)) ∧ yI S' ∧ yFr [(43, 43)] [72] S S' ∧ yRm [] S S') := by
  refine yT_pad 0 ?_
  show yT xPr G LY xC204 0 [some ((2, 43)), some (vi v)] [] S d _
  obtain ⟨d, rfl⟩ : ∃ q, d = q + 1 := ⟨d - 1, by omega⟩
  have hF : yFr [(43, 43)] [72] S S := yFr.refl S
  have hR : yRm [] S S := yRm.refl S
  have h1 := hI.f tf43_43
  refine r_load (i := 0) (u := 0) (w := 2) rfl rfl rfl ?_
  refine r_load (i := 1) (u := 1) (w := 0) rfl rfl rfl ?_
  refine r_const (i := 2) (u := 16) (z := 16) rfl rfl ?_
  refine r_ishr (i := 3) rfl (by omega) (by omega) (by omega) (by omega) ?_
  have h2 := @yshr_c v 16 (by omega) (by omega)
  refine r_call (i := 4) (u := 11) (v := 257) (w := 0) (b := 0) (na := 514) (C2 := xC257) (as := [(2, 43), vi (yshr v 16)]) (s := []) rfl rfl rfl rfl rfl rfl rfl (sp257 (v := yshr v 16) hI ⟨by omega, by omega⟩ (by omega)  (by omega)) (fun r3 S4 hq5 => ?_)
  obtain ⟨rfl, h6, h7, mq8, hI9, hF10, hR11⟩ := hq5
  have hF12 := hF.trans hF10 rfl rfl
  have hR13 := hR.trans hR11 rfl
  refine Or.inl ⟨rfl, ?_⟩
  refine r_load (i := 5) (u := 0) (w := 2) rfl rfl rfl ?_
  refine r_load (i := 6) (u := 1) (w := 0) rfl rfl rfl ?_
  have h14 := hI9.f tf43_43
  refine r_call (i := 7) (u := 11) (v := 257) (w := 0) (b := 0) (na := 514) (C2 := xC257) (as := [(2, 43), vi v]) (s := []) rfl rfl rfl rfl rfl rfl rfl (sp257 (v := v) hI9 ⟨by omega, by omega⟩ (by omega)  (by omega)) (fun r15 S16 hq17 => ?_)
  obtain ⟨rfl, h18, h19, mq20, hI21, hF22, hR23⟩ := hq17
  have hF24 := hF12.trans hF22 rfl rfl
  have hR25 := hR13.trans hR23 rfl
  refine Or.inl ⟨rfl, ?_⟩
  have h26 := hI21.f tf43_43
  exact r_ret0 (i := 8) rfl ⟨rfl, (by omega), (by omega), (by exact mQ_fo mq8 mq20), hI21, hF24, hR25⟩
theorem lp231_2 {G : xk} {d : Nat} {S0 : yS} {at0 : Int} (h_at0 : 0 ≤ at0 ∧ at0 ≤ 23990) {v : Int} (h_v : 0 ≤ v ∧ v ≤ 2147483647) (hd : 0 ≤ d) : ∀ (n : Nat), ∀ (S : yS) (hI : yI S) (hF : yFr [] [72] S0 S) (hR : yRm [] S0 S) (k : Int) (h_k : 0 ≤ k ∧ k ≤ 4) (q_0 : mQ S0 S (wpk at0 v k.toNat)) (hn : 4 - k < (n : Nat)), yT xPr G LY xC231 2 [some ((2, 43)), some (vi at0), some (vi v), some (vi k)] [] S d (fun r S' => r = (0, (0, 0)) ∧ mQ S0 S' (wst4 at0 v) ∧ yI S' ∧ yFr [] [72] S0 S' ∧ yRm [] S0 S') := by
  intro n
  induction n with
  | zero => intro S hI hF hR k h_k q_0 hn; exact absurd hn (by omega)
  | succ n ih =>
    intro S hI hF hR k h_k q_0 hn
    refine r_load (i := 2) (u := 3) (w := 0) rfl rfl rfl ?_
    refine r_const (i := 3) (u := 4) (z := 4) rfl rfl ?_
    refine c_ge (i := 4) (v := 22) rfl ⟨by omega, by omega⟩ ⟨by omega, by omega⟩ (fun h1 => ?_) (fun h2 => ?_)
    · exact r_ret0 (i := 22) rfl ⟨rfl, (by have w9 := q_0; rw [show k.toNat = 4 by omega] at w9; exact w9), hI, hF, hR⟩
    · refine r_load (i := 5) (u := 0) (w := 2) rfl rfl rfl ?_
      refine r_getf (i := 6) (v := 41) (w := 11) (x := (2, 72)) rfl ly43 rfl rfl fun _ => ?_
      refine r_load (i := 7) (u := 1) (w := 0) rfl rfl rfl ?_
      refine r_load (i := 8) (u := 3) (w := 0) rfl rfl rfl ?_
      refine r_iadd (i := 9) rfl ?_
      refine r_load (i := 10) (u := 2) (w := 0) rfl rfl rfl ?_
      refine r_const (i := 11) (u := 24) (z := 24) rfl rfl ?_
      refine r_const (i := 12) (u := 8) (z := 8) rfl rfl ?_
      refine r_load (i := 13) (u := 3) (w := 0) rfl rfl rfl ?_
      refine r_imul (i := 14) rfl ?_
      refine r_isub (i := 15) rfl ?_
      refine r_ishr (i := 16) rfl (by omega) (by omega) (by omega) (by omega) ?_
      have h4 := @yshr_c v (24 - (8 * k)) (by omega) (by omega)
      refine r_const (i := 17) (u := 255) (z := 255) rfl rfl ?_
      refine r_iand (i := 18) rfl ?_
      have h5 := @yand_c (yshr v (24 - (8 * k))) 255 (by decide) (by decide)
      have h6 := yand_255 (yshr v (24 - (8 * k)))
      refine s_int (i := 19) rfl ly72 rfl (by omega) (by omega) ⟨by omega, by omega⟩ ?_
      have hI8 := hI.seta0 (b := 72) (j := (at0 + k).toNat) (z := yand (yshr v (24 - (8 * k))) 255) rfl rfl
      have hF10 := hF.seta (b := 72) (j := (at0 + k).toNat) (z := yand (yshr v (24 - (8 * k))) 255) rfl
      have hR11 := hR.seta (b := 72) (j := (at0 + k).toNat) (z := yand (yshr v (24 - (8 * k))) 255)
      refine yT_gen (fun S7 hS9 => ?_)
      rw [hS9] at hI8 hF10 hR11 
      refine r_iinc (i := 20) (u := 1) (v := 3) (s := 1) (L1 := [some ((2, 43)), some (vi at0), some (vi v), some (vi (k + 1))]) rfl rfl rfl rfl rfl ?_
      refine r_goto (i := 21) (v := 2) rfl ?_
      exact ih S7 hI8 hF10 hR11 (k + 1) ⟨by omega, by omega⟩ (by exact wpk_s q_0 (by omega) (by omega) rfl hS9) (by omega)
/-- ProxyForgeModel.patch -/
theorem sp231 {G : xk} {S : yS} {d : Nat} (hI : yI S) {at0 : Int} (h_at0 : 0 ≤ at0 ∧ at0 ≤ 23990) {v : Int} (h_v : 0 ≤ v ∧ v ≤ 2147483647) (hd : 0 ≤ d) : yT xPr G LY xC231 0 [some ((2, 43)), some (vi at0), some (vi v)] [] S d (fun r S' => r = (0, (0, 0)) ∧ mQ S S' (wst4 at0 v) ∧ yI S' ∧ yFr [] [72] S S' ∧ yRm [] S S') := by
  refine yT_pad 1 ?_
  show yT xPr G LY xC231 0 [some ((2, 43)), some (vi at0), some (vi v), none] [] S d _
  have hF : yFr [] [72] S S := yFr.refl S
  have hR : yRm [] S S := yRm.refl S
  refine r_const (i := 0) (u := 0) (z := 0) rfl rfl ?_
  refine r_store (i := 1) (u := 3) (w := 0) (L1 := [some ((2, 43)), some (vi at0), some (vi v), some (vi 0)]) rfl rfl rfl rfl ?_
  exact lp231_2 h_at0 h_v  hd _ S hI hF hR 0 ⟨by omega, by omega⟩ (by exact fun w9 hw0 => hw0) (Int.lt_succ_toNat _)
theorem lp250_22 {G : xk} {d : Nat} {S0 : yS} {b0 : Int} (h_b0 : 0 ≤ b0 ∧ b0 ≤ 255) {off : Int} (h_off : 0 ≤ off ∧ off ≤ 20) {on : Int} (h_on : 0 ≤ on ∧ on ≤ 20) (p_0 : S0.f 43 43 ≤ 23970) (hd : 1 ≤ d + 1) : ∀ (S : yS) (hI : yI S) (hF : yFr [(43, 43), (43, 52), (43, 53)] [72] S0 S) (hR : yRm [] S0 S) (dp : Int) (h_dp : 0 ≤ dp ∧ dp ≤ 2147483647) (q_0 : S.f 43 43 = S0.f 43 43 + 1) (q_1 : mQ S0 S (fun w => wdp (ysg (w.2.2.1 + (on - off))) (wby [b0 % 256] w))) (q_2 : dp = max (S.f 43 53) (S.f 43 52)), yT xPr G LY xC250 22 [some ((2, 43)), some (vi b0), some (vi off), some (vi on)] [vi dp, (2, 43)] S (d + 1) (fun r S' => r = (0, (0, 0)) ∧ S0.f 43 43 + 1 ≤ S'.f 43 43 ∧ S'.f 43 43 ≤ S0.f 43 43 + 1 ∧ mQ S0 S' (wop b0 (on - off)) ∧ yI S' ∧ yFr [(43, 43), (43, 52), (43, 53)] [72] S0 S' ∧ yRm [] S0 S') := by
  intro S hI hF hR dp h_dp q_0 q_1 q_2
  have h1 := hI.f tf43_43
  have h2 := hI.f tf43_53
  refine r_putI (i := 22) (v := 53) (w := 11) rfl ly43 rfl ⟨by omega, by omega⟩ ?_
  have hI4 := hI.setf (b := 43) (w := 53) (z := dp) tf43_53 rfl (by omega) (by omega)
  have hF6 := hF.setf (b := 43) (w := 53) (z := dp) rfl
  have hR7 := hR.setf (b := 43) (w := 53) (z := dp)
  refine yT_gen (fun S3 hS5 => ?_)
  rw [hS5] at hI4 hF6 hR7 
  have h8 := hI4.f tf43_43
  have h9 : S3.f 43 43 = S.f 43 43 := by rw [← hS5]; exact ysf_ne (by decide)
  exact r_ret0 (i := 23) rfl ⟨rfl, (by omega), (by omega), (by exact st_2 q_1 q_2 hS5), hI4, hF6, hR7⟩
/-- ProxyForgeModel.step -/
theorem sp250 {G : xk} {S : yS} {d : Nat} (hI : yI S) {b0 : Int} (h_b0 : 0 ≤ b0 ∧ b0 ≤ 255) {off : Int} (h_off : 0 ≤ off ∧ off ≤ 20) {on : Int} (h_on : 0 ≤ on ∧ on ≤ 20) (p_0 : S.f 43 43 ≤ 23970) (hd : 1 ≤ d) : yT xPr G LY xC250 0 [some ((2, 43)), some (vi b0), some (vi off), some (vi on)] [] S d (fun r S' => r = (0, (0, 0)) ∧ S.f 43 43 + 1 ≤ S'.f 43 43 ∧ S'.f 43 43 ≤ S.f 43 43 + 1 ∧ mQ S S' (wop b0 (on - off)) ∧ yI S' ∧ yFr [(43, 43), (43, 52), (43, 53)] [72] S S' ∧ yRm [] S S') := by
  refine yT_pad 0 ?_
  show yT xPr G LY xC250 0 [some ((2, 43)), some (vi b0), some (vi off), some (vi on)] [] S d _
  obtain ⟨d, rfl⟩ : ∃ q, d = q + 1 := ⟨d - 1, by omega⟩
  have hF : yFr [(43, 43), (43, 52), (43, 53)] [72] S S := yFr.refl S
  have hR : yRm [] S S := yRm.refl S
  have h1 := hI.f tf43_43
  refine r_load (i := 0) (u := 0) (w := 2) rfl rfl rfl ?_
  refine r_load (i := 1) (u := 1) (w := 0) rfl rfl rfl ?_
  refine r_call (i := 2) (u := 11) (v := 224) (w := 0) (b := 0) (na := 514) (C2 := xC224) (as := [(2, 43), vi b0]) (s := []) rfl rfl rfl rfl rfl rfl rfl (sp224 (v := b0) hI ⟨by omega, by omega⟩ (by omega)  (by omega)) (fun r2 S3 hq4 => ?_)
  obtain ⟨rfl, h5, h6, mq7, hI8, hF9, hR10⟩ := hq4
  have hF11 := hF.trans hF9 rfl rfl
  have hR12 := hR.trans hR10 rfl
  refine Or.inl ⟨rfl, ?_⟩
  refine r_load (i := 3) (u := 0) (w := 2) rfl rfl rfl ?_
  refine r_dup (i := 4) rfl rfl ?_
  have h13 : S3.f 43 52 = S.f 43 52 := hF9.f rfl
  refine r_getf (i := 5) (v := 52) (w := 11) (x := vi (S3.f 43 52)) rfl ly43 rfl rfl fun h14 => ?_
  have h14 : Rg (S3.f 43 52) := h14
  refine r_load (i := 6) (u := 3) (w := 0) rfl rfl rfl ?_
  refine r_load (i := 7) (u := 2) (w := 0) rfl rfl rfl ?_
  refine r_isub (i := 8) rfl ?_
  refine r_iadd (i := 9) rfl ?_
  rw [vi_sg ((S3.f 43 52) + (on - off))]
  have h15 := ysg_rg ((S3.f 43 52) + (on - off))
  refine r_putI (i := 10) (v := 52) (w := 11) rfl ly43 rfl ⟨by omega, by omega⟩ ?_
  have hI17 := hI8.setf0 (b := 43) (w := 52) (z := ysg ((S3.f 43 52) + (on - off))) rfl rfl
  have hF19 := hF11.setf (b := 43) (w := 52) (z := ysg ((S3.f 43 52) + (on - off))) rfl
  have hR20 := hR12.setf (b := 43) (w := 52) (z := ysg ((S3.f 43 52) + (on - off)))
  refine yT_gen (fun S16 hS18 => ?_)
  rw [hS18] at hI17 hF19 hR20 
  refine r_load (i := 11) (u := 0) (w := 2) rfl rfl rfl ?_
  refine r_load (i := 12) (u := 0) (w := 2) rfl rfl rfl ?_
  have h21 : S16.f 43 52 = ysg ((S3.f 43 52) + (on - off)) := by rw [← hS18]; exact ysf_eq
  refine r_getf (i := 13) (v := 52) (w := 11) (x := vi (S16.f 43 52)) rfl ly43 rfl rfl fun h22 => ?_
  have h22 : Rg (S16.f 43 52) := h22
  refine r_load (i := 14) (u := 0) (w := 2) rfl rfl rfl ?_
  have h23 := hI17.f tf43_53
  have h24 : S16.f 43 53 = S3.f 43 53 := by rw [← hS18]; exact ysf_ne (by decide)
  have h25 : S3.f 43 53 = S.f 43 53 := hF9.f rfl
  refine r_getf (i := 15) (v := 53) (w := 11) (x := vi (S16.f 43 53)) rfl ly43 rfl rfl fun h26 => ?_
  have h26 : Rg (S16.f 43 53) := h26
  refine c_le (i := 16) (v := 20) rfl ⟨by omega, by omega⟩ ⟨by omega, by omega⟩ (fun h27 => ?_) (fun h28 => ?_)
  · refine r_load (i := 20) (u := 0) (w := 2) rfl rfl rfl ?_
    refine r_getf (i := 21) (v := 53) (w := 11) (x := vi (S16.f 43 53)) rfl ly43 rfl rfl fun h29 => ?_
    have h29 : Rg (S16.f 43 53) := h29
    have h30 := hI17.f tf43_43
    have h31 : S16.f 43 43 = S3.f 43 43 := by rw [← hS18]; exact ysf_ne (by decide)
    exact lp250_22 h_b0 h_off h_on p_0 hd S16 hI17 hF19 hR20 (S16.f 43 53) ⟨by omega, by omega⟩ (by omega) (by exact st_1 mq7 hS18) (by omega) 
  · refine r_load (i := 17) (u := 0) (w := 2) rfl rfl rfl ?_
    refine r_getf (i := 18) (v := 52) (w := 11) (x := vi (S16.f 43 52)) rfl ly43 rfl rfl fun h32 => ?_
    have h32 : Rg (S16.f 43 52) := h32
    refine r_goto (i := 19) (v := 22) rfl ?_
    have h33 := hI17.f tf43_43
    have h34 : S16.f 43 43 = S3.f 43 43 := by rw [← hS18]; exact ysf_ne (by decide)
    exact lp250_22 h_b0 h_off h_on p_0 hd S16 hI17 hF19 hR20 (S16.f 43 52) ⟨by omega, by omega⟩ (by omega) (by exact st_1 mq7 hS18) (by omega) 
theorem lp214_15 {G : xk} {d : Nat} {S0 : yS} {k : Int} (h_k : 0 ≤ k ∧ k ≤ 31) {l0 : Int} (h_l0 : 0 ≤ l0 ∧ l0 ≤ 30) (p_0 : S0.f 43 43 ≤ 23960) (hd : 2 ≤ d + 1) : ∀ (S : yS) (hI : yI S) (hF : yFr [(43, 43), (43, 52), (43, 53)] [72] S0 S) (hR : yRm [] S0 S) (c0 : Int) (h_c0 : 0 ≤ c0 ∧ c0 ≤ 255) (q_0 : S.f 43 43 = S0.f 43 43) (q_1 : 1 ≤ k → c0 = ldO k) (q_2 : mQ S0 S (fun w => w)), yT xPr G LY xC214 15 [some ((2, 43)), some (vi k), some (vi l0)] [vi c0, (2, 43)] S (d + 1) (fun r S' => r = (0, (0, 0)) ∧ S0.f 43 43 + 2 ≤ S'.f 43 43 ∧ S'.f 43 43 ≤ S0.f 43 43 + 2 ∧ (1 ≤ k → mQ S0 S' (wl1 k l0)) ∧ yI S' ∧ yFr [(43, 43), (43, 52), (43, 53)] [72] S0 S' ∧ yRm [] S0 S') := by
  intro S hI hF hR c0 h_c0 q_0 q_1 q_2
  have h1 := hI.f tf43_43
  refine r_const (i := 15) (u := 0) (z := 0) rfl rfl ?_
  refine r_load (i := 16) (u := 1) (w := 0) rfl rfl rfl ?_
  refine r_call (i := 17) (u := 65535) (v := 262) (w := 0) (b := 2) (na := 257) (C2 := xC262) (as := [vi k]) (s := [vi 0, vi c0, (2, 43)]) rfl rfl rfl rfl rfl rfl rfl (sp262 (k := k) hI ⟨by omega, by omega⟩   (by omega)) (fun r2 S3 hq4 => ?_)
  obtain ⟨z5, rfl, h6, h7, wd8, rfl⟩ := hq4
  refine Or.inr (Or.inl ⟨rfl, ?_⟩)
  refine r_call (i := 18) (u := 11) (v := 250) (w := 0) (b := 0) (na := 1028) (C2 := xC250) (as := [(2, 43), vi c0, vi 0, vi z5]) (s := []) rfl rfl rfl rfl rfl rfl rfl (sp250 (b0 := c0) (off := 0) (on := z5) hI ⟨by omega, by omega⟩ ⟨by omega, by omega⟩ ⟨by omega, by omega⟩ (by omega)  (by omega)) (fun r9 S10 hq11 => ?_)
  obtain ⟨rfl, h12, h13, mq14, hI15, hF16, hR17⟩ := hq11
  have hF18 := hF.trans hF16 rfl rfl
  have hR19 := hR.trans hR17 rfl
  refine Or.inl ⟨rfl, ?_⟩
  refine r_load (i := 19) (u := 0) (w := 2) rfl rfl rfl ?_
  refine r_load (i := 20) (u := 2) (w := 0) rfl rfl rfl ?_
  have h20 := hI15.f tf43_43
  refine r_call (i := 21) (u := 11) (v := 224) (w := 0) (b := 0) (na := 514) (C2 := xC224) (as := [(2, 43), vi l0]) (s := []) rfl rfl rfl rfl rfl rfl rfl (sp224 (v := l0) hI15 ⟨by omega, by omega⟩ (by omega)  (by omega)) (fun r21 S22 hq23 => ?_)
  obtain ⟨rfl, h24, h25, mq26, hI27, hF28, hR29⟩ := hq23
  have hF30 := hF18.trans hF28 rfl rfl
  have hR31 := hR19.trans hR29 rfl
  refine Or.inl ⟨rfl, ?_⟩
  have h32 := hI27.f tf43_43
  exact r_ret0 (i := 22) rfl ⟨rfl, (by omega), (by omega), (by intro k9; intro w9 hw0; have hwq := q_2 _ hw0; have hw1 := mq14 _ hwq; have hw2 := mq26 _ hw1; exact mW_c hw2 (wl1_m k9 (q_1 k9) wd8)), hI27, hF30, hR31⟩
/-- ProxyForgeModel.load -/
theorem sp214 {G : xk} {S : yS} {d : Nat} (hI : yI S) {k : Int} (h_k : 0 ≤ k ∧ k ≤ 31) {l0 : Int} (h_l0 : 0 ≤ l0 ∧ l0 ≤ 30) (p_0 : S.f 43 43 ≤ 23960) (hd : 2 ≤ d) : yT xPr G LY xC214 0 [some ((2, 43)), some (vi k), some (vi l0)] [] S d (fun r S' => r = (0, (0, 0)) ∧ S.f 43 43 + 2 ≤ S'.f 43 43 ∧ S'.f 43 43 ≤ S.f 43 43 + 2 ∧ (1 ≤ k → mQ S S' (wl1 k l0)) ∧ yI S' ∧ yFr [(43, 43), (43, 52), (43, 53)] [72] S S' ∧ yRm [] S S') := by
  refine yT_pad 0 ?_
  show yT xPr G LY xC214 0 [some ((2, 43)), some (vi k), some (vi l0)] [] S d _
  obtain ⟨d, rfl⟩ : ∃ q, d = q + 1 := ⟨d - 1, by omega⟩
  have hF : yFr [(43, 43), (43, 52), (43, 53)] [72] S S := yFr.refl S
  have hR : yRm [] S S := yRm.refl S
  have h1 := hI.f tf43_43
  refine r_load (i := 0) (u := 0) (w := 2) rfl rfl rfl ?_
  refine r_load (i := 1) (u := 1) (w := 0) rfl rfl rfl ?_
  refine r_const (i := 2) (u := 1) (z := 1) rfl rfl ?_
  refine c_eq (i := 3) (v := 7) rfl ⟨by omega, by omega⟩ ⟨by omega, by omega⟩ (fun h2 => ?_) (fun h3 => ?_)
  · refine r_const (i := 7) (u := 21) (z := 21) rfl rfl ?_
    refine r_goto (i := 8) (v := 15) rfl ?_
    exact lp214_15 h_k h_l0 p_0 hd S hI hF hR 21 ⟨by omega, by omega⟩ (by omega) (by intro k9; first | exact (if_pos (by omega)).symm | exact ((if_neg (by omega)).trans (if_pos (by omega))).symm | exact ((if_neg (by omega)).trans ((if_neg (by omega)).trans (if_pos (by omega)))).symm | exact ((if_neg (by omega)).trans (if_neg (by omega))).symm | exact ((if_neg (by omega)).trans ((if_neg (by omega)).trans (if_neg (by omega)))).symm) (by exact fun w9 hw0 => hw0) 
  · refine r_load (i := 4) (u := 1) (w := 0) rfl rfl rfl ?_
    refine r_const (i := 5) (u := 3) (z := 3) rfl rfl ?_
    refine c_ne (i := 6) (v := 9) rfl ⟨by omega, by omega⟩ ⟨by omega, by omega⟩ (fun h4 => ?_) (fun h5 => ?_)
    · refine r_load (i := 9) (u := 1) (w := 0) rfl rfl rfl ?_
      refine r_const (i := 10) (u := 2) (z := 2) rfl rfl ?_
      refine c_ne (i := 11) (v := 14) rfl ⟨by omega, by omega⟩ ⟨by omega, by omega⟩ (fun h6 => ?_) (fun h7 => ?_)
      · refine r_const (i := 14) (u := 25) (z := 25) rfl rfl ?_
        exact lp214_15 h_k h_l0 p_0 hd S hI hF hR 25 ⟨by omega, by omega⟩ (by omega) (by intro k9; first | exact (if_pos (by omega)).symm | exact ((if_neg (by omega)).trans (if_pos (by omega))).symm | exact ((if_neg (by omega)).trans ((if_neg (by omega)).trans (if_pos (by omega)))).symm | exact ((if_neg (by omega)).trans (if_neg (by omega))).symm | exact ((if_neg (by omega)).trans ((if_neg (by omega)).trans (if_neg (by omega)))).symm) (by exact fun w9 hw0 => hw0) 
      · refine r_const (i := 12) (u := 22) (z := 22) rfl rfl ?_
        refine r_goto (i := 13) (v := 15) rfl ?_
        exact lp214_15 h_k h_l0 p_0 hd S hI hF hR 22 ⟨by omega, by omega⟩ (by omega) (by intro k9; first | exact (if_pos (by omega)).symm | exact ((if_neg (by omega)).trans (if_pos (by omega))).symm | exact ((if_neg (by omega)).trans ((if_neg (by omega)).trans (if_pos (by omega)))).symm | exact ((if_neg (by omega)).trans (if_neg (by omega))).symm | exact ((if_neg (by omega)).trans ((if_neg (by omega)).trans (if_neg (by omega)))).symm) (by exact fun w9 hw0 => hw0) 
    · refine r_const (i := 7) (u := 21) (z := 21) rfl rfl ?_
      refine r_goto (i := 8) (v := 15) rfl ?_
      exact lp214_15 h_k h_l0 p_0 hd S hI hF hR 21 ⟨by omega, by omega⟩ (by omega) (by intro k9; first | exact (if_pos (by omega)).symm | exact ((if_neg (by omega)).trans (if_pos (by omega))).symm | exact ((if_neg (by omega)).trans ((if_neg (by omega)).trans (if_pos (by omega)))).symm | exact ((if_neg (by omega)).trans (if_neg (by omega))).symm | exact ((if_neg (by omega)).trans ((if_neg (by omega)).trans (if_neg (by omega)))).symm) (by exact fun w9 hw0 => hw0) 
/-- ProxyForgeModel.push -/
theorem sp234 {G : xk} {S : yS} {d : Nat} (hI : yI S) {n1 : Int} (h_n1 : 0 ≤ n1 ∧ n1 ≤ 23) (p_0 : S.f 43 43 ≤ 23960) (hd : 2 ≤ d) : yT xPr G LY xC234 0 [some ((2, 43)), some (vi n1)] [] S d (fun r S' => r = (0, (0, 0)) ∧ S.f 43 43 + 1 ≤ S'.f 43 43 ∧ S'.f 43 43 ≤ S.f 43 43 + 2 ∧ (n1 ≤ 5 → S'.f 43 43 ≤ S.f 43 43 + 1) ∧ mQ S S' (wpu n1) ∧ yI S' ∧ yFr [(43, 43), (43, 52), (43, 53)] [72] S S' ∧ yRm [] S S') := by
  refine yT_pad 0 ?_
  show yT xPr G LY xC234 0 [some ((2, 43)), some (vi n1)] [] S d _
  obtain ⟨d, rfl⟩ : ∃ q, d = q + 1 := ⟨d - 1, by omega⟩
  have hF : yFr [(43, 43), (43, 52), (43, 53)] [72] S S := yFr.refl S
  have hR : yRm [] S S := yRm.refl S
  have h1 := hI.f tf43_43
  refine r_load (i := 0) (u := 0) (w := 2) rfl rfl rfl ?_
  refine r_load (i := 1) (u := 1) (w := 0) rfl rfl rfl ?_
  refine r_const (i := 2) (u := 6) (z := 6) rfl rfl ?_
  refine c_ge (i := 3) (v := 8) rfl ⟨by omega, by omega⟩ ⟨by omega, by omega⟩ (fun h2 => ?_) (fun h3 => ?_)
  · refine r_const (i := 8) (u := 16) (z := 16) rfl rfl ?_
    refine r_const (i := 9) (u := 0) (z := 0) rfl rfl ?_
    refine r_const (i := 10) (u := 1) (z := 1) rfl rfl ?_
    refine r_call (i := 11) (u := 11) (v := 250) (w := 0) (b := 0) (na := 1028) (C2 := xC250) (as := [(2, 43), vi 16, vi 0, vi 1]) (s := []) rfl rfl rfl rfl rfl rfl rfl (sp250 (b0 := 16) (off := 0) (on := 1) hI ⟨by omega, by omega⟩ ⟨by omega, by omega⟩ ⟨by omega, by omega⟩ (by omega)  (by omega)) (fun r4 S5 hq6 => ?_)
    obtain ⟨rfl, h7, h8, mq9, hI10, hF11, hR12⟩ := hq6
    have hF13 := hF.trans hF11 rfl rfl
    have hR14 := hR.trans hR12 rfl
    refine Or.inl ⟨rfl, ?_⟩
    refine r_load (i := 12) (u := 1) (w := 0) rfl rfl rfl ?_
    refine r_const (i := 13) (u := 5) (z := 5) rfl rfl ?_
    refine c_le (i := 14) (v := 18) rfl ⟨by omega, by omega⟩ ⟨by omega, by omega⟩ (fun h15 => absurd h15 (by omega)) (fun h16 => ?_)
    refine r_load (i := 15) (u := 0) (w := 2) rfl rfl rfl ?_
    refine r_load (i := 16) (u := 1) (w := 0) rfl rfl rfl ?_
    have h17 := hI10.f tf43_43
    refine r_call (i := 17) (u := 11) (v := 224) (w := 0) (b := 0) (na := 514) (C2 := xC224) (as := [(2, 43), vi n1]) (s := []) rfl rfl rfl rfl rfl rfl rfl (sp224 (v := n1) hI10 ⟨by omega, by omega⟩ (by omega)  (by omega)) (fun r18 S19 hq20 => ?_)
    obtain ⟨rfl, h21, h22, mq23, hI24, hF25, hR26⟩ := hq20
    have hF27 := hF13.trans hF25 rfl rfl
    have hR28 := hR14.trans hR26 rfl
    refine Or.inl ⟨rfl, ?_⟩
    have h29 := hI24.f tf43_43
    exact r_ret0 (i := 18) rfl ⟨rfl, (by omega), (by omega), (by omega), (by intro w9 hw0; have hw1 := mq9 _ hw0; have hw2 := mq23 _ hw1; exact mW_c hw2 (oB_m.trans (wpu_2 (by omega)).symm)), hI24, hF27, hR28⟩
  · refine r_const (i := 4) (u := 3) (z := 3) rfl rfl ?_
    refine r_load (i := 5) (u := 1) (w := 0) rfl rfl rfl ?_
    refine r_iadd (i := 6) rfl ?_
    refine r_goto (i := 7) (v := 9) rfl ?_
    refine r_const (i := 9) (u := 0) (z := 0) rfl rfl ?_
    refine r_const (i := 10) (u := 1) (z := 1) rfl rfl ?_
    refine r_call (i := 11) (u := 11) (v := 250) (w := 0) (b := 0) (na := 1028) (C2 := xC250) (as := [(2, 43), vi (3 + n1), vi 0, vi 1]) (s := []) rfl rfl rfl rfl rfl rfl rfl (sp250 (b0 := 3 + n1) (off := 0) (on := 1) hI ⟨by omega, by omega⟩ ⟨by omega, by omega⟩ ⟨by omega, by omega⟩ (by omega)  (by omega)) (fun r30 S31 hq32 => ?_)
    obtain ⟨rfl, h33, h34, mq35, hI36, hF37, hR38⟩ := hq32
    have hF39 := hF.trans hF37 rfl rfl
    have hR40 := hR.trans hR38 rfl
    refine Or.inl ⟨rfl, ?_⟩
    refine r_load (i := 12) (u := 1) (w := 0) rfl rfl rfl ?_
    refine r_const (i := 13) (u := 5) (z := 5) rfl rfl ?_
    refine c_le (i := 14) (v := 18) rfl ⟨by omega, by omega⟩ ⟨by omega, by omega⟩ (fun h41 => ?_) (fun h42 => absurd h42 (by omega))
    have h43 := hI36.f tf43_43
    exact r_ret0 (i := 18) rfl ⟨rfl, (by omega), (by omega), (by omega), (by intro w9 hw0; have hw1 := mq35 _ hw0; exact mW_c hw1 ((wpu_1 (by omega)).symm)), hI36, hF39, hR40⟩
theorem lp240_19 {G : xk} {d : Nat} {S0 : yS} {k : Int} (h_k : 0 ≤ k ∧ k ≤ 23) (p_0 : S0.f 43 43 ≤ 23960) (hd : 2 ≤ d + 1) : ∀ (S : yS) (hI : yI S) (hF : yFr [(43, 43), (43, 52), (43, 53)] [72] S0 S) (hR : yRm [] S0 S) (c0 : Int) (h_c0 : 0 ≤ c0 ∧ c0 ≤ 255) (q_0 : S.f 43 43 = S0.f 43 43) (q_1 : c0 = rtO k) (q_2 : mQ S0 S (fun w => w)), yT xPr G LY xC240 19 [some ((2, 43)), some (vi k)] [vi c0, (2, 43)] S (d + 1) (fun r S' => r = (0, (0, 0)) ∧ S0.f 43 43 + 1 ≤ S'.f 43 43 ∧ S'.f 43 43 ≤ S0.f 43 43 + 1 ∧ mQ S0 S' (wlv k) ∧ yI S' ∧ yFr [(43, 43), (43, 52), (43, 53)] [72] S0 S' ∧ yRm [] S0 S') := by
  intro S hI hF hR c0 h_c0 q_0 q_1 q_2
  have h1 := hI.f tf43_43
  refine r_load (i := 19) (u := 1) (w := 0) rfl rfl rfl ?_
  refine r_call (i := 20) (u := 65535) (v := 262) (w := 0) (b := 2) (na := 257) (C2 := xC262) (as := [vi k]) (s := [vi c0, (2, 43)]) rfl rfl rfl rfl rfl rfl rfl (sp262 (k := k) hI ⟨by omega, by omega⟩   (by omega)) (fun r2 S3 hq4 => ?_)
  obtain ⟨z5, rfl, h6, h7, wd8, rfl⟩ := hq4
  refine Or.inr (Or.inl ⟨rfl, ?_⟩)
  refine r_const (i := 21) (u := 0) (z := 0) rfl rfl ?_
  refine r_call (i := 22) (u := 11) (v := 250) (w := 0) (b := 0) (na := 1028) (C2 := xC250) (as := [(2, 43), vi c0, vi z5, vi 0]) (s := []) rfl rfl rfl rfl rfl rfl rfl (sp250 (b0 := c0) (off := z5) (on := 0) hI ⟨by omega, by omega⟩ ⟨by omega, by omega⟩ ⟨by omega, by omega⟩ (by omega)  (by omega)) (fun r9 S10 hq11 => ?_)
  obtain ⟨rfl, h12, h13, mq14, hI15, hF16, hR17⟩ := hq11
  have hF18 := hF.trans hF16 rfl rfl
  have hR19 := hR.trans hR17 rfl
  refine Or.inl ⟨rfl, ?_⟩
  have h20 := hI15.f tf43_43
  exact r_ret0 (i := 23) rfl ⟨rfl, (by omega), (by omega), (by intro w9 hw0; have hwq := q_2 _ hw0; have hw1 := mq14 _ hwq; exact mW_c hw1 (wlv_m q_1 wd8)), hI15, hF18, hR19⟩
/-- ProxyForgeModel.returns -/
theorem sp240 {G : xk} {S : yS} {d : Nat} (hI : yI S) {k : Int} (h_k : 0 ≤ k ∧ k ≤ 23) (p_0 : S.f 43 43 ≤ 23960) (hd : 2 ≤ d) : yT xPr G LY xC240 0 [some ((2, 43)), some (vi k)] [] S d (fun r S' => r = (0, (0, 0)) ∧ S.f 43 43 + 1 ≤ S'.f 43 43 ∧ S'.f 43 43 ≤ S.f 43 43 + 1 ∧ mQ S S' (wlv k) ∧ yI S' ∧ yFr [(43, 43), (43, 52), (43, 53)] [72] S S' ∧ yRm [] S S') := by
  refine yT_pad 0 ?_
  show yT xPr G LY xC240 0 [some ((2, 43)), some (vi k)] [] S d _
  obtain ⟨d, rfl⟩ : ∃ q, d = q + 1 := ⟨d - 1, by omega⟩
  have hF : yFr [(43, 43), (43, 52), (43, 53)] [72] S S := yFr.refl S
  have hR : yRm [] S S := yRm.refl S
  have h1 := hI.f tf43_43
  refine r_load (i := 0) (u := 0) (w := 2) rfl rfl rfl ?_
  refine r_load (i := 1) (u := 1) (w := 0) rfl rfl rfl ?_
  refine z_ne (i := 2) (v := 5) rfl ⟨by omega, by omega⟩ (fun h2 => ?_) (fun h3 => ?_)
  · refine r_load (i := 5) (u := 1) (w := 0) rfl rfl rfl ?_
    refine r_const (i := 6) (u := 1) (z := 1) rfl rfl ?_
    refine c_eq (i := 7) (v := 11) rfl ⟨by omega, by omega⟩ ⟨by omega, by omega⟩ (fun h4 => ?_) (fun h5 => ?_)
    · refine r_const (i := 11) (u := 172) (z := 172) rfl rfl ?_
      refine r_goto (i := 12) (v := 19) rfl ?_
      exact lp240_19 h_k p_0 hd S hI hF hR 172 ⟨by omega, by omega⟩ (by omega) (by first | exact (if_pos (by omega)).symm | exact ((if_neg (by omega)).trans (if_pos (by omega))).symm | exact ((if_neg (by omega)).trans ((if_neg (by omega)).trans (if_pos (by omega)))).symm | exact ((if_neg (by omega)).trans (if_neg (by omega))).symm | exact ((if_neg (by omega)).trans ((if_neg (by omega)).trans (if_neg (by omega)))).symm) (by exact fun w9 hw0 => hw0) 
    · refine r_load (i := 8) (u := 1) (w := 0) rfl rfl rfl ?_
      refine r_const (i := 9) (u := 3) (z := 3) rfl rfl ?_
      refine c_ne (i := 10) (v := 13) rfl ⟨by omega, by omega⟩ ⟨by omega, by omega⟩ (fun h6 => ?_) (fun h7 => ?_)
      · refine r_load (i := 13) (u := 1) (w := 0) rfl rfl rfl ?_
        refine r_const (i := 14) (u := 2) (z := 2) rfl rfl ?_
        refine c_ne (i := 15) (v := 18) rfl ⟨by omega, by omega⟩ ⟨by omega, by omega⟩ (fun h8 => ?_) (fun h9 => ?_)
        · refine r_const (i := 18) (u := 176) (z := 176) rfl rfl ?_
          exact lp240_19 h_k p_0 hd S hI hF hR 176 ⟨by omega, by omega⟩ (by omega) (by first | exact (if_pos (by omega)).symm | exact ((if_neg (by omega)).trans (if_pos (by omega))).symm | exact ((if_neg (by omega)).trans ((if_neg (by omega)).trans (if_pos (by omega)))).symm | exact ((if_neg (by omega)).trans (if_neg (by omega))).symm | exact ((if_neg (by omega)).trans ((if_neg (by omega)).trans (if_neg (by omega)))).symm) (by exact fun w9 hw0 => hw0) 
        · refine r_const (i := 16) (u := 173) (z := 173) rfl rfl ?_
          refine r_goto (i := 17) (v := 19) rfl ?_
          exact lp240_19 h_k p_0 hd S hI hF hR 173 ⟨by omega, by omega⟩ (by omega) (by first | exact (if_pos (by omega)).symm | exact ((if_neg (by omega)).trans (if_pos (by omega))).symm | exact ((if_neg (by omega)).trans ((if_neg (by omega)).trans (if_pos (by omega)))).symm | exact ((if_neg (by omega)).trans (if_neg (by omega))).symm | exact ((if_neg (by omega)).trans ((if_neg (by omega)).trans (if_neg (by omega)))).symm) (by exact fun w9 hw0 => hw0) 
      · refine r_const (i := 11) (u := 172) (z := 172) rfl rfl ?_
        refine r_goto (i := 12) (v := 19) rfl ?_
        exact lp240_19 h_k p_0 hd S hI hF hR 172 ⟨by omega, by omega⟩ (by omega) (by first | exact (if_pos (by omega)).symm | exact ((if_neg (by omega)).trans (if_pos (by omega))).symm | exact ((if_neg (by omega)).trans ((if_neg (by omega)).trans (if_pos (by omega)))).symm | exact ((if_neg (by omega)).trans (if_neg (by omega))).symm | exact ((if_neg (by omega)).trans ((if_neg (by omega)).trans (if_neg (by omega)))).symm) (by exact fun w9 hw0 => hw0) 
  · refine r_const (i := 3) (u := 177) (z := 177) rfl rfl ?_
    refine r_goto (i := 4) (v := 19) rfl ?_
    exact lp240_19 h_k p_0 hd S hI hF hR 177 ⟨by omega, by omega⟩ (by omega) (by first | exact (if_pos (by omega)).symm | exact ((if_neg (by omega)).trans (if_pos (by omega))).symm | exact ((if_neg (by omega)).trans ((if_neg (by omega)).trans (if_pos (by omega)))).symm | exact ((if_neg (by omega)).trans (if_neg (by omega))).symm | exact ((if_neg (by omega)).trans ((if_neg (by omega)).trans (if_neg (by omega)))).symm) (by exact fun w9 hw0 => hw0) 
theorem lp215_4 {G : xk} {d : Nat} {S0 : yS} {m : Int} (h_m : 0 ≤ m ∧ m ≤ 59) {fr : Int} (h_fr : 0 ≤ fr ∧ fr ≤ 2) (p_0 : S0.f 43 43 ≤ 23900) (hd : 3 ≤ d + 1) : ∀ (n : Nat), ∀ (S : yS) (hI : yI S) (hF : yFr [(43, 43), (43, 52), (43, 53)] [72] S0 S) (hR : yRm [] S0 S) (lc k : Int) (h_lc : 0 ≤ lc ∧ lc ≤ 12) (h_k : 0 ≤ k ∧ k ≤ 4) (q_0 : S0.f 43 43 ≤ S.f 43 43 ∧ S.f 43 43 ≤ S0.f 43 43 + 2 * k) (q_1 : lc ≤ fr + 2 * k) (q_2 : S0.f 43 43 ≤ 23900) (q_3 : mQ S0 S (wld (S0.a 55 m.toNat) fr k.toNat)) (q_4 : lc = fr + wdA (S0.a 55 m.toNat) k.toNat) (q_5 : k ≤ hmn (S0.a 55 m.toNat)) (hn : 4 - k < (n : Nat)), yT xPr G LY xC215 4 [some ((2, 43)), some (vi m), some (vi fr), some (vi lc), some (vi k)] [] S (d + 1) (fun r S' => r = (0, (0, 0)) ∧ S0.f 43 43 ≤ S'.f 43 43 ∧ S'.f 43 43 ≤ S0.f 43 43 + 8 ∧ mQ S0 S' (wld (S0.a 55 m.toNat) fr (hmn (S0.a 55 m.toNat)).toNat) ∧ yI S' ∧ yFr [(43, 43), (43, 52), (43, 53)] [72] S0 S' ∧ yRm [] S0 S') := by
  intro n
  induction n with
  | zero => intro S hI hF hR lc k h_lc h_k q_0 q_1 q_2 q_3 q_4 q_5 hn; exact absurd hn (by omega)
  | succ n ih =>
    intro S hI hF hR lc k h_lc h_k q_0 q_1 q_2 q_3 q_4 q_5 hn
    have h1 := hI.f tf43_43
    refine r_load (i := 4) (u := 4) (w := 0) rfl rfl rfl ?_
    refine r_load (i := 5) (u := 0) (w := 2) rfl rfl rfl ?_
    refine r_getf (i := 6) (v := 14) (w := 11) (x := (2, 55)) rfl ly43 rfl rfl fun _ => ?_
    refine r_load (i := 7) (u := 1) (w := 0) rfl rfl rfl ?_
    refine a_int (i := 8) rfl ly55 rfl (by omega) (by omega) fun h3 => ?_
    have h4 := hI.a ta55 m.toNat
    have kp5 := hI.k55 m.toNat
    have h6 : S.a 55 m.toNat = S0.a 55 m.toNat := hF.a rfl _
    refine r_call (i := 9) (u := 65535) (v := 216) (w := 0) (b := 2) (na := 513) (C2 := xC216) (as := [vi (S.a 55 m.toNat)]) (s := [vi k]) rfl rfl rfl rfl rfl rfl rfl (sp216 (a := S.a 55 m.toNat) hI ⟨by omega, by omega⟩   (by omega)) (fun r7 S8 hq9 => ?_)
    obtain ⟨z10, rfl, h11, h12, hmn13, rfl⟩ := hq9
    refine Or.inr (Or.inl ⟨rfl, ?_⟩)
    refine c_ge (i := 10) (v := 32) rfl ⟨by omega, by omega⟩ ⟨by omega, by omega⟩ (fun h14 => ?_) (fun h15 => ?_)
    · have h16 := hI.a ta55 m.toNat
      have h17 := hI.a ta55 m.toNat
      exact r_ret0 (i := 32) rfl ⟨rfl, (by omega), (by omega), (by have h9 := hmn_of hmn13 (by omega) (by omega); rw [show S.a 55 m.toNat = S0.a 55 m.toNat from hF.a rfl _] at h9; rw [show hmn (S0.a 55 m.toNat) = k by omega]; exact q_3), hI, hF, hR⟩
    · refine r_load (i := 11) (u := 0) (w := 2) rfl rfl rfl ?_
      refine r_load (i := 12) (u := 0) (w := 2) rfl rfl rfl ?_
      refine r_getf (i := 13) (v := 14) (w := 11) (x := (2, 55)) rfl ly43 rfl rfl fun _ => ?_
      refine r_load (i := 14) (u := 1) (w := 0) rfl rfl rfl ?_
      refine a_int (i := 15) rfl ly55 rfl (by omega) (by omega) fun h19 => ?_
      have h20 := hI.a ta55 m.toNat
      have kp21 := hI.k55 m.toNat
      refine r_load (i := 16) (u := 4) (w := 0) rfl rfl rfl ?_
      refine r_call (i := 17) (u := 65535) (v := 229) (w := 0) (b := 2) (na := 514) (C2 := xC229) (as := [vi (S.a 55 m.toNat), vi k]) (s := [(2, 43)]) rfl rfl rfl rfl rfl rfl rfl (sp229 (a := S.a 55 m.toNat) (k := k) hI ⟨by omega, by omega⟩ ⟨by omega, by omega⟩   (by omega)) (fun r22 S23 hq24 => ?_)
      obtain ⟨z25, rfl, h26, h27, h28, rfl⟩ := hq24
      refine Or.inr (Or.inl ⟨rfl, ?_⟩)
      refine r_load (i := 18) (u := 3) (w := 0) rfl rfl rfl ?_
      refine r_call (i := 19) (u := 11) (v := 214) (w := 0) (b := 0) (na := 771) (C2 := xC214) (as := [(2, 43), vi z25, vi lc]) (s := []) rfl rfl rfl rfl rfl rfl rfl (sp214 (k := z25) (l0 := lc) hI ⟨by omega, by omega⟩ ⟨by omega, by omega⟩ (by omega)  (by omega)) (fun r29 S30 hq31 => ?_)
      obtain ⟨rfl, h32, h33, mk34, hI35, hF36, hR37⟩ := hq31
      have hF38 := hF.trans hF36 rfl rfl
      have hR39 := hR.trans hR37 rfl
      refine Or.inl ⟨rfl, ?_⟩
      refine r_load (i := 20) (u := 3) (w := 0) rfl rfl rfl ?_
      refine r_load (i := 21) (u := 0) (w := 2) rfl rfl rfl ?_
      refine r_getf (i := 22) (v := 14) (w := 11) (x := (2, 55)) rfl ly43 rfl rfl fun _ => ?_
      refine r_load (i := 23) (u := 1) (w := 0) rfl rfl rfl ?_
      refine a_int (i := 24) rfl ly55 rfl (by omega) (by omega) fun h41 => ?_
      have h42 := hI35.a ta55 m.toNat
      have kp43 := hI35.k55 m.toNat
      have h44 : S30.a 55 m.toNat = S0.a 55 m.toNat := hF38.a rfl _
      refine r_load (i := 25) (u := 4) (w := 0) rfl rfl rfl ?_
      refine r_call (i := 26) (u := 65535) (v := 229) (w := 0) (b := 2) (na := 514) (C2 := xC229) (as := [vi (S30.a 55 m.toNat), vi k]) (s := [vi lc]) rfl rfl rfl rfl rfl rfl rfl (sp229 (a := S30.a 55 m.toNat) (k := k) hI35 ⟨by omega, by omega⟩ ⟨by omega, by omega⟩   (by omega)) (fun r45 S46 hq47 => ?_)
      obtain ⟨z48, rfl, h49, h50, h51, rfl⟩ := hq47
      refine Or.inr (Or.inl ⟨rfl, ?_⟩)
      refine r_call (i := 27) (u := 65535) (v := 262) (w := 0) (b := 2) (na := 257) (C2 := xC262) (as := [vi z48]) (s := [vi lc]) rfl rfl rfl rfl rfl rfl rfl (sp262 (k := z48) hI35 ⟨by omega, by omega⟩   (by omega)) (fun r52 S53 hq54 => ?_)
      obtain ⟨z55, rfl, h56, h57, wd58, rfl⟩ := hq54
      refine Or.inr (Or.inl ⟨rfl, ?_⟩)
      refine r_iadd (i := 28) rfl ?_
      refine r_store (i := 29) (u := 3) (w := 0) (L1 := [some ((2, 43)), some (vi m), some (vi fr), some (vi (lc + z55)), some (vi k)]) rfl rfl rfl rfl ?_
      refine r_iinc (i := 30) (u := 1) (v := 4) (s := 1) (L1 := [some ((2, 43)), some (vi m), some (vi fr), some (vi (lc + z55)), some (vi (k + 1))]) rfl rfl rfl rfl rfl ?_
      refine r_goto (i := 31) (v := 4) rfl ?_
      have h59 := hI35.f tf43_43
      exact ih S30 hI35 hF38 hR39 (lc + z55) (k + 1) ⟨by omega, by omega⟩ ⟨by omega, by omega⟩ (by omega) (by omega) (by omega) (by exact mld_st q_3 mk34 (show _ = dg (S0.a 55 m.toNat) k by rw [← show S.a 55 m.toNat = S0.a 55 m.toNat from hF.a rfl _]; unfold dg; omega) q_4 (by omega) (by have h9 := hmn13.1 k (by omega) (by omega); unfold dg at h9; omega)) (by exact lc_s q_4 wd58 (show _ = dg (S0.a 55 m.toNat) k by rw [← show S30.a 55 m.toNat = S0.a 55 m.toNat from hF38.a rfl _]; unfold dg; omega) (by omega)) (by have h9 := hmn_of hmn13 (by omega) (by omega); rw [show S.a 55 m.toNat = S0.a 55 m.toNat from hF.a rfl _] at h9; omega) (by omega)
/-- ProxyForgeModel.loadAll -/
theorem sp215 {G : xk} {S : yS} {d : Nat} (hI : yI S) {m : Int} (h_m : 0 ≤ m ∧ m ≤ 59) {fr : Int} (h_fr : 0 ≤ fr ∧ fr ≤ 2) (p_0 : S.f 43 43 ≤ 23900) (hd : 3 ≤ d) : yT xPr G LY xC215 0 [some ((2, 43)), some (vi m), some (vi fr)] [] S d (fun r S' => r = (0, (0, 0)) ∧ S.f 43 43 ≤ S'.f 43 43 ∧ S'.f 43 43 ≤ S.f 43 43 + 8 ∧ mQ S S' (wld (S.a 55 m.toNat) fr (hmn (S.a 55 m.toNat)).toNat) ∧ yI S' ∧ yFr [(43, 43), (43, 52), (43, 53)] [72] S S' ∧ yRm [] S S') := by
  refine yT_pad 2 ?_
  show yT xPr G LY xC215 0 [some ((2, 43)), some (vi m), some (vi fr), none, none] [] S d _
  obtain ⟨d, rfl⟩ : ∃ q, d = q + 1 := ⟨d - 1, by omega⟩
  have hF : yFr [(43, 43), (43, 52), (43, 53)] [72] S S := yFr.refl S
  have hR : yRm [] S S := yRm.refl S
  have h1 := hI.f tf43_43
  refine r_load (i := 0) (u := 2) (w := 0) rfl rfl rfl ?_
  refine r_store (i := 1) (u := 3) (w := 0) (L1 := [some ((2, 43)), some (vi m), some (vi fr), some (vi fr), none]) rfl rfl rfl rfl ?_
  refine r_const (i := 2) (u := 0) (z := 0) rfl rfl ?_
  refine r_store (i := 3) (u := 4) (w := 0) (L1 := [some ((2, 43)), some (vi m), some (vi fr), some (vi fr), some (vi 0)]) rfl rfl rfl rfl ?_
  exact lp215_4 h_m h_fr p_0 hd _ S hI hF hR fr 0 ⟨by omega, by omega⟩ ⟨by omega, by omega⟩ (by omega) (by omega) (by omega) (by exact fun w9 hw0 => hw0) (by show fr = fr + 0; omega) (by exact hmn_rg.1) (Int.lt_succ_toNat _)
/-- ProxyForgeModel.cast -/
theorem sp190 {G : xk} {S : yS} {d : Nat} (hI : yI S) {t : Int} (h_t : 0 ≤ t ∧ t ≤ 19) (p_0 : S.f 43 43 ≤ 23950) (p_1 : S.f 43 51 = 0) (p_2 : wphi S ≤ 19990) (p_3 : wpsi S ≤ 1140) (e_wLV : wLV S) (hd : 7 ≤ d) : yT xPr G LY xC190 0 [some ((2, 43)), some (vi t)] [] S d (fun r S' => r = (0, (0, 0)) ∧ S.f 43 43 ≤ S'.f 43 43 ∧ S'.f 43 43 ≤ S.f 43 43 + 3 ∧ S'.f 43 51 = 0 ∧ wphi S' ≤ wphi S ∧ wpsi S' ≤ wpsi S ∧ mQ S S' (wcs (pkR 48 S) t) ∧ wLV S' ∧ yI S' ∧ yFr [(43, 43), (43, 49), (43, 50), (43, 51), (43, 52), (43, 53)] [72, 73, 74, 75, 76, 77] S S' ∧ yRm [] S S') := by
  refine yT_pad 0 ?_
  show yT xPr G LY xC190 0 [some ((2, 43)), some (vi t)] [] S d _
  obtain ⟨d, rfl⟩ : ∃ q, d = q + 1 := ⟨d - 1, by omega⟩
  have hF : yFr [(43, 43), (43, 49), (43, 50), (43, 51), (43, 52), (43, 53)] [72, 73, 74, 75, 76, 77] S S := yFr.refl S
  have hR : yRm [] S S := yRm.refl S
  have h1 := hI.f tf43_43
  have h2 := hI.f tf43_51
  refine r_load (i := 0) (u := 1) (w := 0) rfl rfl rfl ?_
  refine z_ne (i := 1) (v := 3) rfl ⟨by omega, by omega⟩ (fun h3 => ?_) (fun h4 => ?_)
  · refine r_load (i := 3) (u := 0) (w := 2) rfl rfl rfl ?_
    refine r_const (i := 4) (u := 192) (z := 192) rfl rfl ?_
    refine r_const (i := 5) (u := 1) (z := 1) rfl rfl ?_
    refine r_const (i := 6) (u := 1) (z := 1) rfl rfl ?_
    refine r_call (i := 7) (u := 11) (v := 250) (w := 0) (b := 0) (na := 1028) (C2 := xC250) (as := [(2, 43), vi 192, vi 1, vi 1]) (s := []) rfl rfl rfl rfl rfl rfl rfl (sp250 (b0 := 192) (off := 1) (on := 1) hI ⟨by omega, by omega⟩ ⟨by omega, by omega⟩ ⟨by omega, by omega⟩ (by omega)  (by omega)) (fun r5 S6 hq7 => ?_)
    obtain ⟨rfl, h8, h9, mq10, hI11, hF12, hR13⟩ := hq7
    have hF14 := hF.trans hF12 rfl rfl
    have hR15 := hR.trans hR13 rfl
    have e16 := wLVx.fr e_wLV hF12 rfl rfl
    refine Or.inl ⟨rfl, ?_⟩
    refine r_load (i := 8) (u := 0) (w := 2) rfl rfl rfl ?_
    refine r_load (i := 9) (u := 0) (w := 2) rfl rfl rfl ?_
    refine r_load (i := 10) (u := 1) (w := 0) rfl rfl rfl ?_
    have h17 := hI11.f tf43_51
    have h18 : S6.f 43 51 = S.f 43 51 := hF12.f rfl
    have h19 : wphi S6 = wphi S := wphiX.fr hF12 rfl rfl
    have h20 : wpsi S6 = wpsi S := wpsiX.fr hF12 rfl rfl
    refine r_call (i := 11) (u := 11) (v := 193) (w := 0) (b := 0) (na := 514) (C2 := xC193) (as := [(2, 43), vi t]) (s := [(2, 43)]) rfl rfl rfl rfl rfl rfl rfl (sp193 (t := t) hI11 ⟨by omega, by omega⟩ (by omega) (by omega) (by omega) e16 (by omega)) (fun r21 S22 hq23 => ?_)
    obtain ⟨z24, rfl, h25, h26, h27, h28, h29, mi30, e31, hI32, hF33, hR34⟩ := hq23
    have hF35 := hF14.trans hF33 rfl rfl
    have hR36 := hR15.trans hR34 rfl
    refine Or.inr (Or.inl ⟨rfl, ?_⟩)
    have h37 := hI32.f tf43_43
    have h38 : S22.f 43 43 = S6.f 43 43 := hF33.f rfl
    refine r_call (i := 12) (u := 11) (v := 257) (w := 0) (b := 0) (na := 514) (C2 := xC257) (as := [(2, 43), vi z24]) (s := []) rfl rfl rfl rfl rfl rfl rfl (sp257 (v := z24) hI32 ⟨by omega, by omega⟩ (by omega)  (by omega)) (fun r39 S40 hq41 => ?_)
    obtain ⟨rfl, h42, h43, mq44, hI45, hF46, hR47⟩ := hq41
    have hF48 := hF35.trans hF46 rfl rfl
    have hR49 := hR36.trans hR47 rfl
    have e50 := wLVx.fr e31 hF46 rfl rfl
    refine Or.inl ⟨rfl, ?_⟩
    have h51 := hI45.f tf43_43
    have h52 := hI45.f tf43_51
    have h53 : S40.f 43 51 = S22.f 43 51 := hF46.f rfl
    have h54 : wphi S40 = wphi S22 := wphiX.fr hF46 rfl rfl
    have h55 : wpsi S40 = wpsi S22 := wpsiX.fr hF46 rfl rfl
    exact r_ret0 (i := 13) rfl ⟨rfl, (by omega), (by omega), (by omega), (by omega), (by omega), (by intro w9 hw0; have hw1 := mq10 _ hw0; obtain ⟨hw2, ew2⟩ := mi30 _ hw1; rw [(pkR_fr (b := 48) hF12 rfl)] at hw2 ew2; have hw3 := mq44 _ hw2; subst ew2; exact mW_c hw3 (oC_m.trans (wcs_n (by omega)).symm)), e50, hI45, hF48, hR49⟩
  · exact r_ret0 (i := 2) rfl ⟨rfl, (by omega), (by omega), (by omega), (by omega), (by omega), (by exact fun w9 hw0 => mW_c hw0 (wcs_0 (by omega)).symm), e_wLV, hI, hF, hR⟩
theorem lp259_75 {G : xk} {d : Nat} {S0 : yS} {k : Int} (h_k : 0 ≤ k ∧ k ≤ 23) (p_0 : S0.f 43 43 ≤ 23900) (p_1 : S0.f 43 51 = 0) (p_2 : wphi S0 ≤ 19950) (p_3 : wpsi S0 ≤ 1120) (hd : 8 ≤ d + 1) : ∀ (S : yS) (hI : yI S) (hF : yFr [(43, 43), (43, 49), (43, 50), (43, 51), (43, 52), (43, 53)] [72, 73, 74, 75, 76, 77] S0 S) (hR : yRm [] S0 S) (e_wLV : wLV S)  (q_0 : S0.f 43 43 ≤ S.f 43 43 ∧ S.f 43 43 ≤ S0.f 43 43 + 6) (q_1 : S.f 43 51 = 0) (q_2 : wphi S ≤ wphi S0 + 10) (q_3 : wpsi S ≤ wpsi S0 + 2) (q_4 : S0.f 43 43 ≤ 23900) (q_5 : mQ S0 S (wuz (pkR 48 S0) k)), yT xPr G LY xC259 75 [some ((2, 43)), some (vi k), none] [] S (d + 1) (fun r S' => r = (0, (0, 0)) ∧ S0.f 43 43 + 1 ≤ S'.f 43 43 ∧ S'.f 43 43 ≤ S0.f 43 43 + 7 ∧ S'.f 43 51 = 0 ∧ wphi S' ≤ wphi S0 + 10 ∧ wpsi S' ≤ wpsi S0 + 2 ∧ mQ S0 S' (wub (pkR 48 S0) k) ∧ wLV S' ∧ yI S' ∧ yFr [(43, 43), (43, 49), (43, 50), (43, 51), (43, 52), (43, 53)] [72, 73, 74, 75, 76, 77] S0 S' ∧ yRm [] S0 S') := by
  intro S hI hF hR e_wLV   q_0 q_1 q_2 q_3 q_4 q_5
  have h1 := hI.f tf43_43
  have h2 := hI.f tf43_51
  refine r_load (i := 75) (u := 0) (w := 2) rfl rfl rfl ?_
  refine r_load (i := 76) (u := 1) (w := 0) rfl rfl rfl ?_
  refine r_call (i := 77) (u := 11) (v := 240) (w := 0) (b := 0) (na := 514) (C2 := xC240) (as := [(2, 43), vi k]) (s := []) rfl rfl rfl rfl rfl rfl rfl (sp240 (k := k) hI ⟨by omega, by omega⟩ (by omega)  (by omega)) (fun r3 S4 hq5 => ?_)
  obtain ⟨rfl, h6, h7, mq8, hI9, hF10, hR11⟩ := hq5
  have hF12 := hF.trans hF10 rfl rfl
  have hR13 := hR.trans hR11 rfl
  have e14 := wLVx.fr e_wLV hF10 rfl rfl
  refine Or.inl ⟨rfl, ?_⟩
  have h15 := hI9.f tf43_43
  have h16 := hI9.f tf43_51
  have h17 : S4.f 43 51 = S.f 43 51 := hF10.f rfl
  have h18 : wphi S4 = wphi S := wphiX.fr hF10 rfl rfl
  have h19 : wpsi S4 = wpsi S := wpsiX.fr hF10 rfl rfl
  exact r_ret0 (i := 78) rfl ⟨rfl, (by omega), (by omega), (by omega), (by omega), (by omega), (by intro w9 hw0; have hwq := q_5 _ hw0; have hw1 := mq8 _ hwq; exact mW_c hw1 (wuz_e)), e14, hI9, hF12, hR13⟩
/-- ProxyForgeModel.unbox -/
theorem sp259 {G : xk} {S : yS} {d : Nat} (hI : yI S) {k : Int} (h_k : 0 ≤ k ∧ k ≤ 23) (p_0 : S.f 43 43 ≤ 23900) (p_1 : S.f 43 51 = 0) (p_2 : wphi S ≤ 19950) (p_3 : wpsi S ≤ 1120) (e_wLV : wLV S) (hd : 8 ≤ d) : yT xPr G LY xC259 0 [some ((2, 43)), some (vi k)] [] S d (fun r S' => r = (0, (0, 0)) ∧ S.f 43 43 + 1 ≤ S'.f 43 43 ∧ S'.f 43 43 ≤ S.f 43 43 + 7 ∧ S'.f 43 51 = 0 ∧ wphi S' ≤ wphi S + 10 ∧ wpsi S' ≤ wpsi S + 2 ∧ mQ S S' (wub (pkR 48 S) k) ∧ wLV S' ∧ yI S' ∧ yFr [(43, 43), (43, 49), (43, 50), (43, 51), (43, 52), (43, 53)] [72, 73, 74, 75, 76, 77] S S' ∧ yRm [] S S') := by
  refine yT_pad 1 ?_
  show yT xPr G LY xC259 0 [some ((2, 43)), some (vi k), none] [] S d _
  obtain ⟨d, rfl⟩ : ∃ q, d = q + 1 := ⟨d - 1, by omega⟩
  have hF : yFr [(43, 43), (43, 49), (43, 50), (43, 51), (43, 52), (43, 53)] [72, 73, 74, 75, 76, 77] S S := yFr.refl S
  have hR : yRm [] S S := yRm.refl S
  have h1 := hI.f tf43_43
  have h2 := hI.f tf43_51
  refine r_load (i := 0) (u := 1) (w := 0) rfl rfl rfl ?_
  refine z_ne (i := 1) (v := 8) rfl ⟨by omega, by omega⟩ (fun h3 => ?_) (fun h4 => ?_)
  · refine r_load (i := 8) (u := 1) (w := 0) rfl rfl rfl ?_
    refine r_const (i := 9) (u := 3) (z := 3) rfl rfl ?_
    refine c_le (i := 10) (v := 17) rfl ⟨by omega, by omega⟩ ⟨by omega, by omega⟩ (fun h5 => ?_) (fun h6 => ?_)
    · refine r_load (i := 17) (u := 1) (w := 0) rfl rfl rfl ?_
      refine r_const (i := 18) (u := 1) (z := 1) rfl rfl ?_
      refine c_ne (i := 19) (v := 22) rfl ⟨by omega, by omega⟩ ⟨by omega, by omega⟩ (fun h7 => ?_) (fun h8 => ?_)
      · refine r_load (i := 22) (u := 1) (w := 0) rfl rfl rfl ?_
        refine r_const (i := 23) (u := 2) (z := 2) rfl rfl ?_
        refine c_ne (i := 24) (v := 27) rfl ⟨by omega, by omega⟩ ⟨by omega, by omega⟩ (fun h9 => ?_) (fun h10 => ?_)
        · refine r_str (i := 27) (v := 53) rfl ?_
          have h11 := slv53
          refine r_store (i := 28) (u := 2) (w := 2) (L1 := [some ((2, 43)), some (vi k), some ((6, 53))]) rfl rfl rfl rfl ?_
          refine r_load (i := 29) (u := 0) (w := 2) rfl rfl rfl ?_
          refine r_const (i := 30) (u := 192) (z := 192) rfl rfl ?_
          refine r_const (i := 31) (u := 1) (z := 1) rfl rfl ?_
          refine r_const (i := 32) (u := 1) (z := 1) rfl rfl ?_
          refine r_call (i := 33) (u := 11) (v := 250) (w := 0) (b := 0) (na := 1028) (C2 := xC250) (as := [(2, 43), vi 192, vi 1, vi 1]) (s := []) rfl rfl rfl rfl rfl rfl rfl (sp250 (b0 := 192) (off := 1) (on := 1) hI ⟨by omega, by omega⟩ ⟨by omega, by omega⟩ ⟨by omega, by omega⟩ (by omega)  (by omega)) (fun r12 S13 hq14 => ?_)
          obtain ⟨rfl, h15, h16, mq17, hI18, hF19, hR20⟩ := hq14
          have hF21 := hF.trans hF19 rfl rfl
          have hR22 := hR.trans hR20 rfl
          have e23 := wLVx.fr e_wLV hF19 rfl rfl
          refine Or.inl ⟨rfl, ?_⟩
          refine r_load (i := 34) (u := 0) (w := 2) rfl rfl rfl ?_
          refine r_load (i := 35) (u := 0) (w := 2) rfl rfl rfl ?_
          refine r_load (i := 36) (u := 2) (w := 2) rfl rfl rfl ?_
          have h24 := hI18.f tf43_51
          have h25 : S13.f 43 51 = S.f 43 51 := hF19.f rfl
          have h26 : wphi S13 = wphi S := wphiX.fr hF19 rfl rfl
          have h27 : wpsi S13 = wpsi S := wpsiX.fr hF19 rfl rfl
          refine r_call (i := 37) (u := 11) (v := 192) (w := 0) (b := 0) (na := 514) (C2 := xC192) (as := [(2, 43), (6, 53)]) (s := [(2, 43)]) rfl rfl rfl rfl rfl rfl rfl (sp192 (s := 53) hI18 ⟨by decide, by decide⟩ (by omega) (by omega) (by omega) (by omega) e23 (by omega)) (fun r28 S29 hq30 => ?_)
          obtain ⟨z31, rfl, h32, h33, h34, h35, h36, mi37, e38, hI39, hF40, hR41⟩ := hq30
          have hF42 := hF21.trans hF40 rfl rfl
          have hR43 := hR22.trans hR41 rfl
          refine Or.inr (Or.inl ⟨rfl, ?_⟩)
          have h44 := hI39.f tf43_43
          have h45 : S29.f 43 43 = S13.f 43 43 := hF40.f rfl
          refine r_call (i := 38) (u := 11) (v := 257) (w := 0) (b := 0) (na := 514) (C2 := xC257) (as := [(2, 43), vi z31]) (s := []) rfl rfl rfl rfl rfl rfl rfl (sp257 (v := z31) hI39 ⟨by omega, by omega⟩ (by omega)  (by omega)) (fun r46 S47 hq48 => ?_)
          obtain ⟨rfl, h49, h50, mq51, hI52, hF53, hR54⟩ := hq48
          have hF55 := hF42.trans hF53 rfl rfl
          have hR56 := hR43.trans hR54 rfl
          have e57 := wLVx.fr e38 hF53 rfl rfl
          refine Or.inl ⟨rfl, ?_⟩
          refine r_load (i := 39) (u := 0) (w := 2) rfl rfl rfl ?_
          refine r_const (i := 40) (u := 182) (z := 182) rfl rfl ?_
          refine r_const (i := 41) (u := 1) (z := 1) rfl rfl ?_
          refine r_load (i := 42) (u := 1) (w := 0) rfl rfl rfl ?_
          refine r_call (i := 43) (u := 65535) (v := 262) (w := 0) (b := 2) (na := 257) (C2 := xC262) (as := [vi k]) (s := [vi 1, vi 182, (2, 43)]) rfl rfl rfl rfl rfl rfl rfl (sp262 (k := k) hI52 ⟨by omega, by omega⟩   (by omega)) (fun r58 S59 hq60 => ?_)
          obtain ⟨z61, rfl, h62, h63, wd64, rfl⟩ := hq60
          refine Or.inr (Or.inl ⟨rfl, ?_⟩)
          have h65 := hI52.f tf43_43
          refine r_call (i := 44) (u := 11) (v := 250) (w := 0) (b := 0) (na := 1028) (C2 := xC250) (as := [(2, 43), vi 182, vi 1, vi z61]) (s := []) rfl rfl rfl rfl rfl rfl rfl (sp250 (b0 := 182) (off := 1) (on := z61) hI52 ⟨by omega, by omega⟩ ⟨by omega, by omega⟩ ⟨by omega, by omega⟩ (by omega)  (by omega)) (fun r66 S67 hq68 => ?_)
          obtain ⟨rfl, h69, h70, mq71, hI72, hF73, hR74⟩ := hq68
          have hF75 := hF55.trans hF73 rfl rfl
          have hR76 := hR56.trans hR74 rfl
          have e77 := wLVx.fr e57 hF73 rfl rfl
          refine Or.inl ⟨rfl, ?_⟩
          refine r_load (i := 45) (u := 0) (w := 2) rfl rfl rfl ?_
          refine r_load (i := 46) (u := 0) (w := 2) rfl rfl rfl ?_
          refine r_const (i := 47) (u := 10) (z := 10) rfl rfl ?_
          refine r_load (i := 48) (u := 0) (w := 2) rfl rfl rfl ?_
          refine r_load (i := 49) (u := 2) (w := 2) rfl rfl rfl ?_
          have h78 := hI72.f tf43_51
          have h79 : S67.f 43 51 = S47.f 43 51 := hF73.f rfl
          have h80 : S47.f 43 51 = S29.f 43 51 := hF53.f rfl
          have h81 : wphi S67 = wphi S47 := wphiX.fr hF73 rfl rfl
          have h82 : wphi S47 = wphi S29 := wphiX.fr hF53 rfl rfl
          have h83 : wpsi S67 = wpsi S47 := wpsiX.fr hF73 rfl rfl
          have h84 : wpsi S47 = wpsi S29 := wpsiX.fr hF53 rfl rfl
          refine r_call (i := 50) (u := 11) (v := 192) (w := 0) (b := 0) (na := 514) (C2 := xC192) (as := [(2, 43), (6, 53)]) (s := [vi 10, (2, 43), (2, 43)]) rfl rfl rfl rfl rfl rfl rfl (sp192 (s := 53) hI72 ⟨by decide, by decide⟩ (by omega) (by omega) (by omega) (by omega) e77 (by omega)) (fun r85 S86 hq87 => ?_)
          obtain ⟨z88, rfl, h89, h90, h91, h92, h93, mi94, e95, hI96, hF97, hR98⟩ := hq87
          have hF99 := hF75.trans hF97 rfl rfl
          have hR100 := hR76.trans hR98 rfl
          refine Or.inr (Or.inl ⟨rfl, ?_⟩)
          refine r_load (i := 51) (u := 1) (w := 0) rfl rfl rfl ?_
          refine r_const (i := 52) (u := 1) (z := 1) rfl rfl ?_
          refine c_ne (i := 53) (v := 56) rfl ⟨by omega, by omega⟩ ⟨by omega, by omega⟩ (fun h101 => ?_) (fun h102 => absurd h102 (by omega))
          refine r_load (i := 56) (u := 1) (w := 0) rfl rfl rfl ?_
          refine r_const (i := 57) (u := 2) (z := 2) rfl rfl ?_
          refine c_ne (i := 58) (v := 61) rfl ⟨by omega, by omega⟩ ⟨by omega, by omega⟩ (fun h103 => ?_) (fun h104 => absurd h104 (by omega))
          refine r_str (i := 61) (v := 63) rfl ?_
          have h105 := slv63
          refine r_load (i := 62) (u := 1) (w := 0) rfl rfl rfl ?_
          refine r_const (i := 63) (u := 1) (z := 1) rfl rfl ?_
          refine c_ne (i := 64) (v := 67) rfl ⟨by omega, by omega⟩ ⟨by omega, by omega⟩ (fun h106 => ?_) (fun h107 => absurd h107 (by omega))
          refine r_load (i := 67) (u := 1) (w := 0) rfl rfl rfl ?_
          refine r_const (i := 68) (u := 2) (z := 2) rfl rfl ?_
          refine c_ne (i := 69) (v := 72) rfl ⟨by omega, by omega⟩ ⟨by omega, by omega⟩ (fun h108 => ?_) (fun h109 => absurd h109 (by omega))
          refine r_str (i := 72) (v := 66) rfl ?_
          have h110 := slv66
          have h111 := hI96.f tf43_51
          refine r_call (i := 73) (u := 11) (v := 218) (w := 0) (b := 0) (na := 1797) (C2 := xC218) (as := [(2, 43), vi 10, vi z88, (6, 63), (6, 66)]) (s := [(2, 43)]) rfl rfl rfl rfl rfl rfl rfl (sp218 (w0 := 10) (ow := z88) (s1 := 63) (s2 := 66) hI96 ⟨by omega, by omega⟩ ⟨by omega, by omega⟩ ⟨by decide, by decide⟩ ⟨by decide, by decide⟩ (by omega) (by omega) (by omega) (by omega) (by omega) e95 (by omega)) (fun r112 S113 hq114 => ?_)
          obtain ⟨z115, rfl, h116, h117, h118, h119, h120, mm121, e122, hI123, hF124, hR125⟩ := hq114
          have hF126 := hF99.trans hF124 rfl rfl
          have hR127 := hR100.trans hR125 rfl
          refine Or.inr (Or.inl ⟨rfl, ?_⟩)
          have h128 := hI123.f tf43_43
          have h129 : S113.f 43 43 = S86.f 43 43 := hF124.f rfl
          have h130 : S86.f 43 43 = S67.f 43 43 := hF97.f rfl
          refine r_call (i := 74) (u := 11) (v := 257) (w := 0) (b := 0) (na := 514) (C2 := xC257) (as := [(2, 43), vi z115]) (s := []) rfl rfl rfl rfl rfl rfl rfl (sp257 (v := z115) hI123 ⟨by omega, by omega⟩ (by omega)  (by omega)) (fun r131 S132 hq133 => ?_)
          obtain ⟨rfl, h134, h135, mq136, hI137, hF138, hR139⟩ := hq133
          have hF140 := hF126.trans hF138 rfl rfl
          have hR141 := hR127.trans hR139 rfl
          have e142 := wLVx.fr e122 hF138 rfl rfl
          refine Or.inl ⟨rfl, ?_⟩
          refine yT_drop (L1 := [some ((2, 43)), some (vi k), none]) rfl ?_
          have h143 := hI137.f tf43_43
          have h144 := hI137.f tf43_51
          have h145 : S132.f 43 51 = S113.f 43 51 := hF138.f rfl
          have h146 : wphi S132 = wphi S113 := wphiX.fr hF138 rfl rfl
          have h147 : wpsi S132 = wpsi S113 := wpsiX.fr hF138 rfl rfl
          exact lp259_75 h_k p_0 p_1 p_2 p_3 hd S132 hI137 hF140 hR141 e142   (by omega) (by omega) (by omega) (by omega) (by omega) (by intro w9 hw0; have hw1 := mq17 _ hw0; obtain ⟨hw2, ew2⟩ := mi37 _ hw1; have hw3 := mq51 _ hw2; have hw4 := mq71 _ hw3; obtain ⟨hw5, ew5⟩ := mi94 _ hw4; obtain ⟨hw6, ew6⟩ := mm121 (by omega) (by omega) _ hw5; have hw7 := mq136 _ hw6; subst ew2; subst ew5; subst ew6; exact mW_c hw7 (wuz_m3 (by omega) wd64)) 
        · refine r_str (i := 25) (v := 52) rfl ?_
          have h148 := slv52
          refine r_goto (i := 26) (v := 28) rfl ?_
          refine r_store (i := 28) (u := 2) (w := 2) (L1 := [some ((2, 43)), some (vi k), some ((6, 52))]) rfl rfl rfl rfl ?_
          refine r_load (i := 29) (u := 0) (w := 2) rfl rfl rfl ?_
          refine r_const (i := 30) (u := 192) (z := 192) rfl rfl ?_
          refine r_const (i := 31) (u := 1) (z := 1) rfl rfl ?_
          refine r_const (i := 32) (u := 1) (z := 1) rfl rfl ?_
          refine r_call (i := 33) (u := 11) (v := 250) (w := 0) (b := 0) (na := 1028) (C2 := xC250) (as := [(2, 43), vi 192, vi 1, vi 1]) (s := []) rfl rfl rfl rfl rfl rfl rfl (sp250 (b0 := 192) (off := 1) (on := 1) hI ⟨by omega, by omega⟩ ⟨by omega, by omega⟩ ⟨by omega, by omega⟩ (by omega)  (by omega)) (fun r149 S150 hq151 => ?_)
          obtain ⟨rfl, h152, h153, mq154, hI155, hF156, hR157⟩ := hq151
          have hF158 := hF.trans hF156 rfl rfl
          have hR159 := hR.trans hR157 rfl
          have e160 := wLVx.fr e_wLV hF156 rfl rfl
          refine Or.inl ⟨rfl, ?_⟩
          refine r_load (i := 34) (u := 0) (w := 2) rfl rfl rfl ?_
          refine r_load (i := 35) (u := 0) (w := 2) rfl rfl rfl ?_
          refine r_load (i := 36) (u := 2) (w := 2) rfl rfl rfl ?_
          have h161 := hI155.f tf43_51
          have h162 : S150.f 43 51 = S.f 43 51 := hF156.f rfl
          have h163 : wphi S150 = wphi S := wphiX.fr hF156 rfl rfl
          have h164 : wpsi S150 = wpsi S := wpsiX.fr hF156 rfl rfl
          refine r_call (i := 37) (u := 11) (v := 192) (w := 0) (b := 0) (na := 514) (C2 := xC192) (as := [(2, 43), (6, 52)]) (s := [(2, 43)]) rfl rfl rfl rfl rfl rfl rfl (sp192 (s := 52) hI155 ⟨by decide, by decide⟩ (by omega) (by omega) (by omega) (by omega) e160 (by omega)) (fun r165 S166 hq167 => ?_)
          obtain ⟨z168, rfl, h169, h170, h171, h172, h173, mi174, e175, hI176, hF177, hR178⟩ := hq167
          have hF179 := hF158.trans hF177 rfl rfl
          have hR180 := hR159.trans hR178 rfl
          refine Or.inr (Or.inl ⟨rfl, ?_⟩)
          have h181 := hI176.f tf43_43
          have h182 : S166.f 43 43 = S150.f 43 43 := hF177.f rfl
          refine r_call (i := 38) (u := 11) (v := 257) (w := 0) (b := 0) (na := 514) (C2 := xC257) (as := [(2, 43), vi z168]) (s := []) rfl rfl rfl rfl rfl rfl rfl (sp257 (v := z168) hI176 ⟨by omega, by omega⟩ (by omega)  (by omega)) (fun r183 S184 hq185 => ?_)
          obtain ⟨rfl, h186, h187, mq188, hI189, hF190, hR191⟩ := hq185
          have hF192 := hF179.trans hF190 rfl rfl
          have hR193 := hR180.trans hR191 rfl
          have e194 := wLVx.fr e175 hF190 rfl rfl
          refine Or.inl ⟨rfl, ?_⟩
          refine r_load (i := 39) (u := 0) (w := 2) rfl rfl rfl ?_
          refine r_const (i := 40) (u := 182) (z := 182) rfl rfl ?_
          refine r_const (i := 41) (u := 1) (z := 1) rfl rfl ?_
          refine r_load (i := 42) (u := 1) (w := 0) rfl rfl rfl ?_
          refine r_call (i := 43) (u := 65535) (v := 262) (w := 0) (b := 2) (na := 257) (C2 := xC262) (as := [vi k]) (s := [vi 1, vi 182, (2, 43)]) rfl rfl rfl rfl rfl rfl rfl (sp262 (k := k) hI189 ⟨by omega, by omega⟩   (by omega)) (fun r195 S196 hq197 => ?_)
          obtain ⟨z198, rfl, h199, h200, wd201, rfl⟩ := hq197
          refine Or.inr (Or.inl ⟨rfl, ?_⟩)
          have h202 := hI189.f tf43_43
          refine r_call (i := 44) (u := 11) (v := 250) (w := 0) (b := 0) (na := 1028) (C2 := xC250) (as := [(2, 43), vi 182, vi 1, vi z198]) (s := []) rfl rfl rfl rfl rfl rfl rfl (sp250 (b0 := 182) (off := 1) (on := z198) hI189 ⟨by omega, by omega⟩ ⟨by omega, by omega⟩ ⟨by omega, by omega⟩ (by omega)  (by omega)) (fun r203 S204 hq205 => ?_)
          obtain ⟨rfl, h206, h207, mq208, hI209, hF210, hR211⟩ := hq205
          have hF212 := hF192.trans hF210 rfl rfl
          have hR213 := hR193.trans hR211 rfl
          have e214 := wLVx.fr e194 hF210 rfl rfl
          refine Or.inl ⟨rfl, ?_⟩
          refine r_load (i := 45) (u := 0) (w := 2) rfl rfl rfl ?_
          refine r_load (i := 46) (u := 0) (w := 2) rfl rfl rfl ?_
          refine r_const (i := 47) (u := 10) (z := 10) rfl rfl ?_
          refine r_load (i := 48) (u := 0) (w := 2) rfl rfl rfl ?_
          refine r_load (i := 49) (u := 2) (w := 2) rfl rfl rfl ?_
          have h215 := hI209.f tf43_51
          have h216 : S204.f 43 51 = S184.f 43 51 := hF210.f rfl
          have h217 : S184.f 43 51 = S166.f 43 51 := hF190.f rfl
          have h218 : wphi S204 = wphi S184 := wphiX.fr hF210 rfl rfl
          have h219 : wphi S184 = wphi S166 := wphiX.fr hF190 rfl rfl
          have h220 : wpsi S204 = wpsi S184 := wpsiX.fr hF210 rfl rfl
          have h221 : wpsi S184 = wpsi S166 := wpsiX.fr hF190 rfl rfl
          refine r_call (i := 50) (u := 11) (v := 192) (w := 0) (b := 0) (na := 514) (C2 := xC192) (as := [(2, 43), (6, 52)]) (s := [vi 10, (2, 43), (2, 43)]) rfl rfl rfl rfl rfl rfl rfl (sp192 (s := 52) hI209 ⟨by decide, by decide⟩ (by omega) (by omega) (by omega) (by omega) e214 (by omega)) (fun r222 S223 hq224 => ?_)
          obtain ⟨z225, rfl, h226, h227, h228, h229, h230, mi231, e232, hI233, hF234, hR235⟩ := hq224
          have hF236 := hF212.trans hF234 rfl rfl
          have hR237 := hR213.trans hR235 rfl
          refine Or.inr (Or.inl ⟨rfl, ?_⟩)
          refine r_load (i := 51) (u := 1) (w := 0) rfl rfl rfl ?_
          refine r_const (i := 52) (u := 1) (z := 1) rfl rfl ?_
          refine c_ne (i := 53) (v := 56) rfl ⟨by omega, by omega⟩ ⟨by omega, by omega⟩ (fun h238 => ?_) (fun h239 => absurd h239 (by omega))
          refine r_load (i := 56) (u := 1) (w := 0) rfl rfl rfl ?_
          refine r_const (i := 57) (u := 2) (z := 2) rfl rfl ?_
          refine c_ne (i := 58) (v := 61) rfl ⟨by omega, by omega⟩ ⟨by omega, by omega⟩ (fun h240 => absurd h240 (by omega)) (fun h241 => ?_)
          refine r_str (i := 59) (v := 62) rfl ?_
          have h242 := slv62
          refine r_goto (i := 60) (v := 62) rfl ?_
          refine r_load (i := 62) (u := 1) (w := 0) rfl rfl rfl ?_
          refine r_const (i := 63) (u := 1) (z := 1) rfl rfl ?_
          refine c_ne (i := 64) (v := 67) rfl ⟨by omega, by omega⟩ ⟨by omega, by omega⟩ (fun h243 => ?_) (fun h244 => absurd h244 (by omega))
          refine r_load (i := 67) (u := 1) (w := 0) rfl rfl rfl ?_
          refine r_const (i := 68) (u := 2) (z := 2) rfl rfl ?_
          refine c_ne (i := 69) (v := 72) rfl ⟨by omega, by omega⟩ ⟨by omega, by omega⟩ (fun h245 => absurd h245 (by omega)) (fun h246 => ?_)
          refine r_str (i := 70) (v := 65) rfl ?_
          have h247 := slv65
          refine r_goto (i := 71) (v := 73) rfl ?_
          have h248 := hI233.f tf43_51
          refine r_call (i := 73) (u := 11) (v := 218) (w := 0) (b := 0) (na := 1797) (C2 := xC218) (as := [(2, 43), vi 10, vi z225, (6, 62), (6, 65)]) (s := [(2, 43)]) rfl rfl rfl rfl rfl rfl rfl (sp218 (w0 := 10) (ow := z225) (s1 := 62) (s2 := 65) hI233 ⟨by omega, by omega⟩ ⟨by omega, by omega⟩ ⟨by decide, by decide⟩ ⟨by decide, by decide⟩ (by omega) (by omega) (by omega) (by omega) (by omega) e232 (by omega)) (fun r249 S250 hq251 => ?_)
          obtain ⟨z252, rfl, h253, h254, h255, h256, h257, mm258, e259, hI260, hF261, hR262⟩ := hq251
          have hF263 := hF236.trans hF261 rfl rfl
          have hR264 := hR237.trans hR262 rfl
          refine Or.inr (Or.inl ⟨rfl, ?_⟩)
          have h265 := hI260.f tf43_43
          have h266 : S250.f 43 43 = S223.f 43 43 := hF261.f rfl
          have h267 : S223.f 43 43 = S204.f 43 43 := hF234.f rfl
          refine r_call (i := 74) (u := 11) (v := 257) (w := 0) (b := 0) (na := 514) (C2 := xC257) (as := [(2, 43), vi z252]) (s := []) rfl rfl rfl rfl rfl rfl rfl (sp257 (v := z252) hI260 ⟨by omega, by omega⟩ (by omega)  (by omega)) (fun r268 S269 hq270 => ?_)
          obtain ⟨rfl, h271, h272, mq273, hI274, hF275, hR276⟩ := hq270
          have hF277 := hF263.trans hF275 rfl rfl
          have hR278 := hR264.trans hR276 rfl
          have e279 := wLVx.fr e259 hF275 rfl rfl
          refine Or.inl ⟨rfl, ?_⟩
          refine yT_drop (L1 := [some ((2, 43)), some (vi k), none]) rfl ?_
          have h280 := hI274.f tf43_43
          have h281 := hI274.f tf43_51
          have h282 : S269.f 43 51 = S250.f 43 51 := hF275.f rfl
          have h283 : wphi S269 = wphi S250 := wphiX.fr hF275 rfl rfl
          have h284 : wpsi S269 = wpsi S250 := wpsiX.fr hF275 rfl rfl
          exact lp259_75 h_k p_0 p_1 p_2 p_3 hd S269 hI274 hF277 hR278 e279   (by omega) (by omega) (by omega) (by omega) (by omega) (by intro w9 hw0; have hw1 := mq154 _ hw0; obtain ⟨hw2, ew2⟩ := mi174 _ hw1; have hw3 := mq188 _ hw2; have hw4 := mq208 _ hw3; obtain ⟨hw5, ew5⟩ := mi231 _ hw4; obtain ⟨hw6, ew6⟩ := mm258 (by omega) (by omega) _ hw5; have hw7 := mq273 _ hw6; subst ew2; subst ew5; subst ew6; exact mW_c hw7 (wuz_m2 (by omega) wd201)) 
      · refine r_str (i := 20) (v := 51) rfl ?_
        have h285 := slv51
        refine r_goto (i := 21) (v := 28) rfl ?_
        refine r_store (i := 28) (u := 2) (w := 2) (L1 := [some ((2, 43)), some (vi k), some ((6, 51))]) rfl rfl rfl rfl ?_
        refine r_load (i := 29) (u := 0) (w := 2) rfl rfl rfl ?_
        refine r_const (i := 30) (u := 192) (z := 192) rfl rfl ?_
        refine r_const (i := 31) (u := 1) (z := 1) rfl rfl ?_
        refine r_const (i := 32) (u := 1) (z := 1) rfl rfl ?_
        refine r_call (i := 33) (u := 11) (v := 250) (w := 0) (b := 0) (na := 1028) (C2 := xC250) (as := [(2, 43), vi 192, vi 1, vi 1]) (s := []) rfl rfl rfl rfl rfl rfl rfl (sp250 (b0 := 192) (off := 1) (on := 1) hI ⟨by omega, by omega⟩ ⟨by omega, by omega⟩ ⟨by omega, by omega⟩ (by omega)  (by omega)) (fun r286 S287 hq288 => ?_)
        obtain ⟨rfl, h289, h290, mq291, hI292, hF293, hR294⟩ := hq288
        have hF295 := hF.trans hF293 rfl rfl
        have hR296 := hR.trans hR294 rfl
        have e297 := wLVx.fr e_wLV hF293 rfl rfl
        refine Or.inl ⟨rfl, ?_⟩
        refine r_load (i := 34) (u := 0) (w := 2) rfl rfl rfl ?_
        refine r_load (i := 35) (u := 0) (w := 2) rfl rfl rfl ?_
        refine r_load (i := 36) (u := 2) (w := 2) rfl rfl rfl ?_
        have h298 := hI292.f tf43_51
        have h299 : S287.f 43 51 = S.f 43 51 := hF293.f rfl
        have h300 : wphi S287 = wphi S := wphiX.fr hF293 rfl rfl
        have h301 : wpsi S287 = wpsi S := wpsiX.fr hF293 rfl rfl
        refine r_call (i := 37) (u := 11) (v := 192) (w := 0) (b := 0) (na := 514) (C2 := xC192) (as := [(2, 43), (6, 51)]) (s := [(2, 43)]) rfl rfl rfl rfl rfl rfl rfl (sp192 (s := 51) hI292 ⟨by decide, by decide⟩ (by omega) (by omega) (by omega) (by omega) e297 (by omega)) (fun r302 S303 hq304 => ?_)
        obtain ⟨z305, rfl, h306, h307, h308, h309, h310, mi311, e312, hI313, hF314, hR315⟩ := hq304
        have hF316 := hF295.trans hF314 rfl rfl
        have hR317 := hR296.trans hR315 rfl
        refine Or.inr (Or.inl ⟨rfl, ?_⟩)
        have h318 := hI313.f tf43_43
        have h319 : S303.f 43 43 = S287.f 43 43 := hF314.f rfl
        refine r_call (i := 38) (u := 11) (v := 257) (w := 0) (b := 0) (na := 514) (C2 := xC257) (as := [(2, 43), vi z305]) (s := []) rfl rfl rfl rfl rfl rfl rfl (sp257 (v := z305) hI313 ⟨by omega, by omega⟩ (by omega)  (by omega)) (fun r320 S321 hq322 => ?_)
        obtain ⟨rfl, h323, h324, mq325, hI326, hF327, hR328⟩ := hq322
        have hF329 := hF316.trans hF327 rfl rfl
        have hR330 := hR317.trans hR328 rfl
        have e331 := wLVx.fr e312 hF327 rfl rfl
        refine Or.inl ⟨rfl, ?_⟩
        refine r_load (i := 39) (u := 0) (w := 2) rfl rfl rfl ?_
        refine r_const (i := 40) (u := 182) (z := 182) rfl rfl ?_
        refine r_const (i := 41) (u := 1) (z := 1) rfl rfl ?_
        refine r_load (i := 42) (u := 1) (w := 0) rfl rfl rfl ?_
        refine r_call (i := 43) (u := 65535) (v := 262) (w := 0) (b := 2) (na := 257) (C2 := xC262) (as := [vi k]) (s := [vi 1, vi 182, (2, 43)]) rfl rfl rfl rfl rfl rfl rfl (sp262 (k := k) hI326 ⟨by omega, by omega⟩   (by omega)) (fun r332 S333 hq334 => ?_)
        obtain ⟨z335, rfl, h336, h337, wd338, rfl⟩ := hq334
        refine Or.inr (Or.inl ⟨rfl, ?_⟩)
        have h339 := hI326.f tf43_43
        refine r_call (i := 44) (u := 11) (v := 250) (w := 0) (b := 0) (na := 1028) (C2 := xC250) (as := [(2, 43), vi 182, vi 1, vi z335]) (s := []) rfl rfl rfl rfl rfl rfl rfl (sp250 (b0 := 182) (off := 1) (on := z335) hI326 ⟨by omega, by omega⟩ ⟨by omega, by omega⟩ ⟨by omega, by omega⟩ (by omega)  (by omega)) (fun r340 S341 hq342 => ?_)
        obtain ⟨rfl, h343, h344, mq345, hI346, hF347, hR348⟩ := hq342
        have hF349 := hF329.trans hF347 rfl rfl
        have hR350 := hR330.trans hR348 rfl
        have e351 := wLVx.fr e331 hF347 rfl rfl
        refine Or.inl ⟨rfl, ?_⟩
        refine r_load (i := 45) (u := 0) (w := 2) rfl rfl rfl ?_
        refine r_load (i := 46) (u := 0) (w := 2) rfl rfl rfl ?_
        refine r_const (i := 47) (u := 10) (z := 10) rfl rfl ?_
        refine r_load (i := 48) (u := 0) (w := 2) rfl rfl rfl ?_
        refine r_load (i := 49) (u := 2) (w := 2) rfl rfl rfl ?_
        have h352 := hI346.f tf43_51
        have h353 : S341.f 43 51 = S321.f 43 51 := hF347.f rfl
        have h354 : S321.f 43 51 = S303.f 43 51 := hF327.f rfl
        have h355 : wphi S341 = wphi S321 := wphiX.fr hF347 rfl rfl
        have h356 : wphi S321 = wphi S303 := wphiX.fr hF327 rfl rfl
        have h357 : wpsi S341 = wpsi S321 := wpsiX.fr hF347 rfl rfl
        have h358 : wpsi S321 = wpsi S303 := wpsiX.fr hF327 rfl rfl
        refine r_call (i := 50) (u := 11) (v := 192) (w := 0) (b := 0) (na := 514) (C2 := xC192) (as := [(2, 43), (6, 51)]) (s := [vi 10, (2, 43), (2, 43)]) rfl rfl rfl rfl rfl rfl rfl (sp192 (s := 51) hI346 ⟨by decide, by decide⟩ (by omega) (by omega) (by omega) (by omega) e351 (by omega)) (fun r359 S360 hq361 => ?_)
        obtain ⟨z362, rfl, h363, h364, h365, h366, h367, mi368, e369, hI370, hF371, hR372⟩ := hq361
        have hF373 := hF349.trans hF371 rfl rfl
        have hR374 := hR350.trans hR372 rfl
        refine Or.inr (Or.inl ⟨rfl, ?_⟩)
        refine r_load (i := 51) (u := 1) (w := 0) rfl rfl rfl ?_
        refine r_const (i := 52) (u := 1) (z := 1) rfl rfl ?_
        refine c_ne (i := 53) (v := 56) rfl ⟨by omega, by omega⟩ ⟨by omega, by omega⟩ (fun h375 => absurd h375 (by omega)) (fun h376 => ?_)
        refine r_str (i := 54) (v := 61) rfl ?_
        have h377 := slv61
        refine r_goto (i := 55) (v := 62) rfl ?_
        refine r_load (i := 62) (u := 1) (w := 0) rfl rfl rfl ?_
        refine r_const (i := 63) (u := 1) (z := 1) rfl rfl ?_
        refine c_ne (i := 64) (v := 67) rfl ⟨by omega, by omega⟩ ⟨by omega, by omega⟩ (fun h378 => absurd h378 (by omega)) (fun h379 => ?_)
        refine r_str (i := 65) (v := 64) rfl ?_
        have h380 := slv64
        refine r_goto (i := 66) (v := 73) rfl ?_
        have h381 := hI370.f tf43_51
        refine r_call (i := 73) (u := 11) (v := 218) (w := 0) (b := 0) (na := 1797) (C2 := xC218) (as := [(2, 43), vi 10, vi z362, (6, 61), (6, 64)]) (s := [(2, 43)]) rfl rfl rfl rfl rfl rfl rfl (sp218 (w0 := 10) (ow := z362) (s1 := 61) (s2 := 64) hI370 ⟨by omega, by omega⟩ ⟨by omega, by omega⟩ ⟨by decide, by decide⟩ ⟨by decide, by decide⟩ (by omega) (by omega) (by omega) (by omega) (by omega) e369 (by omega)) (fun r382 S383 hq384 => ?_)
        obtain ⟨z385, rfl, h386, h387, h388, h389, h390, mm391, e392, hI393, hF394, hR395⟩ := hq384
        have hF396 := hF373.trans hF394 rfl rfl
        have hR397 := hR374.trans hR395 rfl
        refine Or.inr (Or.inl ⟨rfl, ?_⟩)
        have h398 := hI393.f tf43_43
        have h399 : S383.f 43 43 = S360.f 43 43 := hF394.f rfl
        have h400 : S360.f 43 43 = S341.f 43 43 := hF371.f rfl
        refine r_call (i := 74) (u := 11) (v := 257) (w := 0) (b := 0) (na := 514) (C2 := xC257) (as := [(2, 43), vi z385]) (s := []) rfl rfl rfl rfl rfl rfl rfl (sp257 (v := z385) hI393 ⟨by omega, by omega⟩ (by omega)  (by omega)) (fun r401 S402 hq403 => ?_)
        obtain ⟨rfl, h404, h405, mq406, hI407, hF408, hR409⟩ := hq403
        have hF410 := hF396.trans hF408 rfl rfl
        have hR411 := hR397.trans hR409 rfl
        have e412 := wLVx.fr e392 hF408 rfl rfl
        refine Or.inl ⟨rfl, ?_⟩
        refine yT_drop (L1 := [some ((2, 43)), some (vi k), none]) rfl ?_
        have h413 := hI407.f tf43_43
        have h414 := hI407.f tf43_51
        have h415 : S402.f 43 51 = S383.f 43 51 := hF408.f rfl
        have h416 : wphi S402 = wphi S383 := wphiX.fr hF408 rfl rfl
        have h417 : wpsi S402 = wpsi S383 := wpsiX.fr hF408 rfl rfl
        exact lp259_75 h_k p_0 p_1 p_2 p_3 hd S402 hI407 hF410 hR411 e412   (by omega) (by omega) (by omega) (by omega) (by omega) (by intro w9 hw0; have hw1 := mq291 _ hw0; obtain ⟨hw2, ew2⟩ := mi311 _ hw1; have hw3 := mq325 _ hw2; have hw4 := mq345 _ hw3; obtain ⟨hw5, ew5⟩ := mi368 _ hw4; obtain ⟨hw6, ew6⟩ := mm391 (by omega) (by omega) _ hw5; have hw7 := mq406 _ hw6; subst ew2; subst ew5; subst ew6; exact mW_c hw7 (wuz_m1 (by omega) wd338)) 
    · refine r_load (i := 11) (u := 0) (w := 2) rfl rfl rfl ?_
      refine r_load (i := 12) (u := 1) (w := 0) rfl rfl rfl ?_
      refine r_const (i := 13) (u := 4) (z := 4) rfl rfl ?_
      refine r_isub (i := 14) rfl ?_
      refine r_call (i := 15) (u := 11) (v := 190) (w := 0) (b := 0) (na := 514) (C2 := xC190) (as := [(2, 43), vi (k - 4)]) (s := []) rfl rfl rfl rfl rfl rfl rfl (sp190 (t := k - 4) hI ⟨by omega, by omega⟩ (by omega) (by omega) (by omega) (by omega) e_wLV (by omega)) (fun r418 S419 hq420 => ?_)
      obtain ⟨rfl, h421, h422, h423, h424, h425, mq426, e427, hI428, hF429, hR430⟩ := hq420
      have hF431 := hF.trans hF429 rfl rfl
      have hR432 := hR.trans hR430 rfl
      refine Or.inl ⟨rfl, ?_⟩
      refine r_goto (i := 16) (v := 75) rfl ?_
      have h433 := hI428.f tf43_43
      have h434 := hI428.f tf43_51
      exact lp259_75 h_k p_0 p_1 p_2 p_3 hd S419 hI428 hF431 hR432 e427   (by omega) (by omega) (by omega) (by omega) (by omega) (by intro w9 hw0; have hw1 := mq426 _ hw0; first | exact mW_c hw1 (wuz_0 (by omega)) | exact mW_c hw1 (wuz_4 (by omega))) 
  · refine r_load (i := 2) (u := 0) (w := 2) rfl rfl rfl ?_
    refine r_const (i := 3) (u := 87) (z := 87) rfl rfl ?_
    refine r_const (i := 4) (u := 1) (z := 1) rfl rfl ?_
    refine r_const (i := 5) (u := 0) (z := 0) rfl rfl ?_
    refine r_call (i := 6) (u := 11) (v := 250) (w := 0) (b := 0) (na := 1028) (C2 := xC250) (as := [(2, 43), vi 87, vi 1, vi 0]) (s := []) rfl rfl rfl rfl rfl rfl rfl (sp250 (b0 := 87) (off := 1) (on := 0) hI ⟨by omega, by omega⟩ ⟨by omega, by omega⟩ ⟨by omega, by omega⟩ (by omega)  (by omega)) (fun r435 S436 hq437 => ?_)
    obtain ⟨rfl, h438, h439, mq440, hI441, hF442, hR443⟩ := hq437
    have hF444 := hF.trans hF442 rfl rfl
    have hR445 := hR.trans hR443 rfl
    have e446 := wLVx.fr e_wLV hF442 rfl rfl
    refine Or.inl ⟨rfl, ?_⟩
    refine r_goto (i := 7) (v := 75) rfl ?_
    have h447 := hI441.f tf43_43
    have h448 := hI441.f tf43_51
    have h449 : S436.f 43 51 = S.f 43 51 := hF442.f rfl
    have h450 : wphi S436 = wphi S := wphiX.fr hF442 rfl rfl
    have h451 : wpsi S436 = wpsi S := wpsiX.fr hF442 rfl rfl
    exact lp259_75 h_k p_0 p_1 p_2 p_3 hd S436 hI441 hF444 hR445 e446   (by omega) (by omega) (by omega) (by omega) (by omega) (by intro w9 hw0; have hw1 := mq440 _ hw0; first | exact mW_c hw1 (wuz_0 (by omega)) | exact mW_c hw1 (wuz_4 (by omega))) 
/-- ProxyForgeModel.box -/
theorem sp186 {G : xk} {S : yS} {d : Nat} (hI : yI S) {k : Int} (h_k : 0 ≤ k ∧ k ≤ 23) (p_0 : S.f 43 43 ≤ 23900) (p_1 : S.f 43 51 = 0) (p_2 : wphi S ≤ 19950) (p_3 : wpsi S ≤ 1120) (e_wLV : wLV S) (hd : 7 ≤ d) : yT xPr G LY xC186 0 [some ((2, 43)), some (vi k)] [] S d (fun r S' => r = (0, (0, 0)) ∧ S.f 43 43 ≤ S'.f 43 43 ∧ S'.f 43 43 ≤ S.f 43 43 + 3 ∧ S'.f 43 51 = 0 ∧ wphi S' ≤ wphi S + 10 ∧ wpsi S' ≤ wpsi S + 2 ∧ (1 ≤ k → mQ S S' (wbx k)) ∧ wLV S' ∧ yI S' ∧ yFr [(43, 43), (43, 49), (43, 50), (43, 51), (43, 52), (43, 53)] [72, 73, 74, 75, 76, 77] S S' ∧ yRm [] S S') := by
  refine yT_pad 1 ?_
  show yT xPr G LY xC186 0 [some ((2, 43)), some (vi k), none] [] S d _
  obtain ⟨d, rfl⟩ : ∃ q, d = q + 1 := ⟨d - 1, by omega⟩
  have hF : yFr [(43, 43), (43, 49), (43, 50), (43, 51), (43, 52), (43, 53)] [72, 73, 74, 75, 76, 77] S S := yFr.refl S
  have hR : yRm [] S S := yRm.refl S
  have h1 := hI.f tf43_43
  have h2 := hI.f tf43_51
  refine r_load (i := 0) (u := 1) (w := 0) rfl rfl rfl ?_
  refine r_const (i := 1) (u := 3) (z := 3) rfl rfl ?_
  refine c_le (i := 2) (v := 4) rfl ⟨by omega, by omega⟩ ⟨by omega, by omega⟩ (fun h3 => ?_) (fun h4 => ?_)
  · refine r_load (i := 4) (u := 1) (w := 0) rfl rfl rfl ?_
    refine r_const (i := 5) (u := 1) (z := 1) rfl rfl ?_
    refine c_ne (i := 6) (v := 9) rfl ⟨by omega, by omega⟩ ⟨by omega, by omega⟩ (fun h5 => ?_) (fun h6 => ?_)
    · refine r_load (i := 9) (u := 1) (w := 0) rfl rfl rfl ?_
      refine r_const (i := 10) (u := 2) (z := 2) rfl rfl ?_
      refine c_ne (i := 11) (v := 14) rfl ⟨by omega, by omega⟩ ⟨by omega, by omega⟩ (fun h7 => ?_) (fun h8 => ?_)
      · refine r_str (i := 14) (v := 53) rfl ?_
        have h9 := slv53
        refine r_store (i := 15) (u := 2) (w := 2) (L1 := [some ((2, 43)), some (vi k), some ((6, 53))]) rfl rfl rfl rfl ?_
        refine r_load (i := 16) (u := 0) (w := 2) rfl rfl rfl ?_
        refine r_const (i := 17) (u := 184) (z := 184) rfl rfl ?_
        refine r_load (i := 18) (u := 1) (w := 0) rfl rfl rfl ?_
        refine r_call (i := 19) (u := 65535) (v := 262) (w := 0) (b := 2) (na := 257) (C2 := xC262) (as := [vi k]) (s := [vi 184, (2, 43)]) rfl rfl rfl rfl rfl rfl rfl (sp262 (k := k) hI ⟨by omega, by omega⟩   (by omega)) (fun r10 S11 hq12 => ?_)
        obtain ⟨z13, rfl, h14, h15, wd16, rfl⟩ := hq12
        refine Or.inr (Or.inl ⟨rfl, ?_⟩)
        refine r_const (i := 20) (u := 1) (z := 1) rfl rfl ?_
        refine r_call (i := 21) (u := 11) (v := 250) (w := 0) (b := 0) (na := 1028) (C2 := xC250) (as := [(2, 43), vi 184, vi z13, vi 1]) (s := []) rfl rfl rfl rfl rfl rfl rfl (sp250 (b0 := 184) (off := z13) (on := 1) hI ⟨by omega, by omega⟩ ⟨by omega, by omega⟩ ⟨by omega, by omega⟩ (by omega)  (by omega)) (fun r17 S18 hq19 => ?_)
        obtain ⟨rfl, h20, h21, mq22, hI23, hF24, hR25⟩ := hq19
        have hF26 := hF.trans hF24 rfl rfl
        have hR27 := hR.trans hR25 rfl
        have e28 := wLVx.fr e_wLV hF24 rfl rfl
        refine Or.inl ⟨rfl, ?_⟩
        refine r_load (i := 22) (u := 0) (w := 2) rfl rfl rfl ?_
        refine r_load (i := 23) (u := 0) (w := 2) rfl rfl rfl ?_
        refine r_const (i := 24) (u := 10) (z := 10) rfl rfl ?_
        refine r_load (i := 25) (u := 0) (w := 2) rfl rfl rfl ?_
        refine r_load (i := 26) (u := 2) (w := 2) rfl rfl rfl ?_
        have h29 := hI23.f tf43_51
        have h30 : S18.f 43 51 = S.f 43 51 := hF24.f rfl
        have h31 : wphi S18 = wphi S := wphiX.fr hF24 rfl rfl
        have h32 : wpsi S18 = wpsi S := wpsiX.fr hF24 rfl rfl
        refine r_call (i := 27) (u := 11) (v := 192) (w := 0) (b := 0) (na := 514) (C2 := xC192) (as := [(2, 43), (6, 53)]) (s := [vi 10, (2, 43), (2, 43)]) rfl rfl rfl rfl rfl rfl rfl (sp192 (s := 53) hI23 ⟨by decide, by decide⟩ (by omega) (by omega) (by omega) (by omega) e28 (by omega)) (fun r33 S34 hq35 => ?_)
        obtain ⟨z36, rfl, h37, h38, h39, h40, h41, mi42, e43, hI44, hF45, hR46⟩ := hq35
        have hF47 := hF26.trans hF45 rfl rfl
        have hR48 := hR27.trans hR46 rfl
        refine Or.inr (Or.inl ⟨rfl, ?_⟩)
        refine r_str (i := 28) (v := 54) rfl ?_
        have h49 := slv54
        refine r_load (i := 29) (u := 1) (w := 0) rfl rfl rfl ?_
        refine r_const (i := 30) (u := 1) (z := 1) rfl rfl ?_
        refine c_ne (i := 31) (v := 34) rfl ⟨by omega, by omega⟩ ⟨by omega, by omega⟩ (fun h50 => ?_) (fun h51 => absurd h51 (by omega))
        refine r_load (i := 34) (u := 1) (w := 0) rfl rfl rfl ?_
        refine r_const (i := 35) (u := 2) (z := 2) rfl rfl ?_
        refine c_ne (i := 36) (v := 39) rfl ⟨by omega, by omega⟩ ⟨by omega, by omega⟩ (fun h52 => ?_) (fun h53 => absurd h53 (by omega))
        refine r_str (i := 39) (v := 57) rfl ?_
        have h54 := slv57
        have h55 := hI44.f tf43_51
        refine r_call (i := 40) (u := 11) (v := 218) (w := 0) (b := 0) (na := 1797) (C2 := xC218) (as := [(2, 43), vi 10, vi z36, (6, 54), (6, 57)]) (s := [(2, 43)]) rfl rfl rfl rfl rfl rfl rfl (sp218 (w0 := 10) (ow := z36) (s1 := 54) (s2 := 57) hI44 ⟨by omega, by omega⟩ ⟨by omega, by omega⟩ ⟨by decide, by decide⟩ ⟨by decide, by decide⟩ (by omega) (by omega) (by omega) (by omega) (by omega) e43 (by omega)) (fun r56 S57 hq58 => ?_)
        obtain ⟨z59, rfl, h60, h61, h62, h63, h64, mm65, e66, hI67, hF68, hR69⟩ := hq58
        have hF70 := hF47.trans hF68 rfl rfl
        have hR71 := hR48.trans hR69 rfl
        refine Or.inr (Or.inl ⟨rfl, ?_⟩)
        have h72 := hI67.f tf43_43
        have h73 : S57.f 43 43 = S34.f 43 43 := hF68.f rfl
        have h74 : S34.f 43 43 = S18.f 43 43 := hF45.f rfl
        refine r_call (i := 41) (u := 11) (v := 257) (w := 0) (b := 0) (na := 514) (C2 := xC257) (as := [(2, 43), vi z59]) (s := []) rfl rfl rfl rfl rfl rfl rfl (sp257 (v := z59) hI67 ⟨by omega, by omega⟩ (by omega)  (by omega)) (fun r75 S76 hq77 => ?_)
        obtain ⟨rfl, h78, h79, mq80, hI81, hF82, hR83⟩ := hq77
        have hF84 := hF70.trans hF82 rfl rfl
        have hR85 := hR71.trans hR83 rfl
        have e86 := wLVx.fr e66 hF82 rfl rfl
        refine Or.inl ⟨rfl, ?_⟩
        have h87 := hI81.f tf43_43
        have h88 := hI81.f tf43_51
        have h89 : S76.f 43 51 = S57.f 43 51 := hF82.f rfl
        have h90 : wphi S76 = wphi S57 := wphiX.fr hF82 rfl rfl
        have h91 : wpsi S76 = wpsi S57 := wpsiX.fr hF82 rfl rfl
        exact r_ret0 (i := 42) rfl ⟨rfl, (by omega), (by omega), (by omega), (by omega), (by omega), (by intro k9; intro w9 hw0; have hw1 := mq22 _ hw0; obtain ⟨hw2, ew2⟩ := mi42 _ hw1; obtain ⟨hw3, ew3⟩ := mm65 (by omega) (by omega) _ hw2; have hw4 := mq80 _ hw3; subst ew2; subst ew3; exact mW_c hw4 (oM_m.trans (wbx_m3 (by omega) wd16))), e86, hI81, hF84, hR85⟩
      · refine r_str (i := 12) (v := 52) rfl ?_
        have h92 := slv52
        refine r_goto (i := 13) (v := 15) rfl ?_
        refine r_store (i := 15) (u := 2) (w := 2) (L1 := [some ((2, 43)), some (vi k), some ((6, 52))]) rfl rfl rfl rfl ?_
        refine r_load (i := 16) (u := 0) (w := 2) rfl rfl rfl ?_
        refine r_const (i := 17) (u := 184) (z := 184) rfl rfl ?_
        refine r_load (i := 18) (u := 1) (w := 0) rfl rfl rfl ?_
        refine r_call (i := 19) (u := 65535) (v := 262) (w := 0) (b := 2) (na := 257) (C2 := xC262) (as := [vi k]) (s := [vi 184, (2, 43)]) rfl rfl rfl rfl rfl rfl rfl (sp262 (k := k) hI ⟨by omega, by omega⟩   (by omega)) (fun r93 S94 hq95 => ?_)
        obtain ⟨z96, rfl, h97, h98, wd99, rfl⟩ := hq95
        refine Or.inr (Or.inl ⟨rfl, ?_⟩)
        refine r_const (i := 20) (u := 1) (z := 1) rfl rfl ?_
        refine r_call (i := 21) (u := 11) (v := 250) (w := 0) (b := 0) (na := 1028) (C2 := xC250) (as := [(2, 43), vi 184, vi z96, vi 1]) (s := []) rfl rfl rfl rfl rfl rfl rfl (sp250 (b0 := 184) (off := z96) (on := 1) hI ⟨by omega, by omega⟩ ⟨by omega, by omega⟩ ⟨by omega, by omega⟩ (by omega)  (by omega)) (fun r100 S101 hq102 => ?_)
        obtain ⟨rfl, h103, h104, mq105, hI106, hF107, hR108⟩ := hq102
        have hF109 := hF.trans hF107 rfl rfl
        have hR110 := hR.trans hR108 rfl
        have e111 := wLVx.fr e_wLV hF107 rfl rfl
        refine Or.inl ⟨rfl, ?_⟩
        refine r_load (i := 22) (u := 0) (w := 2) rfl rfl rfl ?_
        refine r_load (i := 23) (u := 0) (w := 2) rfl rfl rfl ?_
        refine r_const (i := 24) (u := 10) (z := 10) rfl rfl ?_
        refine r_load (i := 25) (u := 0) (w := 2) rfl rfl rfl ?_
        refine r_load (i := 26) (u := 2) (w := 2) rfl rfl rfl ?_
        have h112 := hI106.f tf43_51
        have h113 : S101.f 43 51 = S.f 43 51 := hF107.f rfl
        have h114 : wphi S101 = wphi S := wphiX.fr hF107 rfl rfl
        have h115 : wpsi S101 = wpsi S := wpsiX.fr hF107 rfl rfl
        refine r_call (i := 27) (u := 11) (v := 192) (w := 0) (b := 0) (na := 514) (C2 := xC192) (as := [(2, 43), (6, 52)]) (s := [vi 10, (2, 43), (2, 43)]) rfl rfl rfl rfl rfl rfl rfl (sp192 (s := 52) hI106 ⟨by decide, by decide⟩ (by omega) (by omega) (by omega) (by omega) e111 (by omega)) (fun r116 S117 hq118 => ?_)
        obtain ⟨z119, rfl, h120, h121, h122, h123, h124, mi125, e126, hI127, hF128, hR129⟩ := hq118
        have hF130 := hF109.trans hF128 rfl rfl
        have hR131 := hR110.trans hR129 rfl
        refine Or.inr (Or.inl ⟨rfl, ?_⟩)
        refine r_str (i := 28) (v := 54) rfl ?_
        have h132 := slv54
        refine r_load (i := 29) (u := 1) (w := 0) rfl rfl rfl ?_
        refine r_const (i := 30) (u := 1) (z := 1) rfl rfl ?_
        refine c_ne (i := 31) (v := 34) rfl ⟨by omega, by omega⟩ ⟨by omega, by omega⟩ (fun h133 => ?_) (fun h134 => absurd h134 (by omega))
        refine r_load (i := 34) (u := 1) (w := 0) rfl rfl rfl ?_
        refine r_const (i := 35) (u := 2) (z := 2) rfl rfl ?_
        refine c_ne (i := 36) (v := 39) rfl ⟨by omega, by omega⟩ ⟨by omega, by omega⟩ (fun h135 => absurd h135 (by omega)) (fun h136 => ?_)
        refine r_str (i := 37) (v := 56) rfl ?_
        have h137 := slv56
        refine r_goto (i := 38) (v := 40) rfl ?_
        have h138 := hI127.f tf43_51
        refine r_call (i := 40) (u := 11) (v := 218) (w := 0) (b := 0) (na := 1797) (C2 := xC218) (as := [(2, 43), vi 10, vi z119, (6, 54), (6, 56)]) (s := [(2, 43)]) rfl rfl rfl rfl rfl rfl rfl (sp218 (w0 := 10) (ow := z119) (s1 := 54) (s2 := 56) hI127 ⟨by omega, by omega⟩ ⟨by omega, by omega⟩ ⟨by decide, by decide⟩ ⟨by decide, by decide⟩ (by omega) (by omega) (by omega) (by omega) (by omega) e126 (by omega)) (fun r139 S140 hq141 => ?_)
        obtain ⟨z142, rfl, h143, h144, h145, h146, h147, mm148, e149, hI150, hF151, hR152⟩ := hq141
        have hF153 := hF130.trans hF151 rfl rfl
        have hR154 := hR131.trans hR152 rfl
        refine Or.inr (Or.inl ⟨rfl, ?_⟩)
        have h155 := hI150.f tf43_43
        have h156 : S140.f 43 43 = S117.f 43 43 := hF151.f rfl
        have h157 : S117.f 43 43 = S101.f 43 43 := hF128.f rfl
        refine r_call (i := 41) (u := 11) (v := 257) (w := 0) (b := 0) (na := 514) (C2 := xC257) (as := [(2, 43), vi z142]) (s := []) rfl rfl rfl rfl rfl rfl rfl (sp257 (v := z142) hI150 ⟨by omega, by omega⟩ (by omega)  (by omega)) (fun r158 S159 hq160 => ?_)
        obtain ⟨rfl, h161, h162, mq163, hI164, hF165, hR166⟩ := hq160
        have hF167 := hF153.trans hF165 rfl rfl
        have hR168 := hR154.trans hR166 rfl
        have e169 := wLVx.fr e149 hF165 rfl rfl
        refine Or.inl ⟨rfl, ?_⟩
        have h170 := hI164.f tf43_43
        have h171 := hI164.f tf43_51
        have h172 : S159.f 43 51 = S140.f 43 51 := hF165.f rfl
        have h173 : wphi S159 = wphi S140 := wphiX.fr hF165 rfl rfl
        have h174 : wpsi S159 = wpsi S140 := wpsiX.fr hF165 rfl rfl
        exact r_ret0 (i := 42) rfl ⟨rfl, (by omega), (by omega), (by omega), (by omega), (by omega), (by intro k9; intro w9 hw0; have hw1 := mq105 _ hw0; obtain ⟨hw2, ew2⟩ := mi125 _ hw1; obtain ⟨hw3, ew3⟩ := mm148 (by omega) (by omega) _ hw2; have hw4 := mq163 _ hw3; subst ew2; subst ew3; exact mW_c hw4 (oM_m.trans (wbx_m2 (by omega) wd99))), e169, hI164, hF167, hR168⟩
    · refine r_str (i := 7) (v := 51) rfl ?_
      have h175 := slv51
      refine r_goto (i := 8) (v := 15) rfl ?_
      refine r_store (i := 15) (u := 2) (w := 2) (L1 := [some ((2, 43)), some (vi k), some ((6, 51))]) rfl rfl rfl rfl ?_
      refine r_load (i := 16) (u := 0) (w := 2) rfl rfl rfl ?_
      refine r_const (i := 17) (u := 184) (z := 184) rfl rfl ?_
      refine r_load (i := 18) (u := 1) (w := 0) rfl rfl rfl ?_
      refine r_call (i := 19) (u := 65535) (v := 262) (w := 0) (b := 2) (na := 257) (C2 := xC262) (as := [vi k]) (s := [vi 184, (2, 43)]) rfl rfl rfl rfl rfl rfl rfl (sp262 (k := k) hI ⟨by omega, by omega⟩   (by omega)) (fun r176 S177 hq178 => ?_)
      obtain ⟨z179, rfl, h180, h181, wd182, rfl⟩ := hq178
      refine Or.inr (Or.inl ⟨rfl, ?_⟩)
      refine r_const (i := 20) (u := 1) (z := 1) rfl rfl ?_
      refine r_call (i := 21) (u := 11) (v := 250) (w := 0) (b := 0) (na := 1028) (C2 := xC250) (as := [(2, 43), vi 184, vi z179, vi 1]) (s := []) rfl rfl rfl rfl rfl rfl rfl (sp250 (b0 := 184) (off := z179) (on := 1) hI ⟨by omega, by omega⟩ ⟨by omega, by omega⟩ ⟨by omega, by omega⟩ (by omega)  (by omega)) (fun r183 S184 hq185 => ?_)
      obtain ⟨rfl, h186, h187, mq188, hI189, hF190, hR191⟩ := hq185
      have hF192 := hF.trans hF190 rfl rfl
      have hR193 := hR.trans hR191 rfl
      have e194 := wLVx.fr e_wLV hF190 rfl rfl
      refine Or.inl ⟨rfl, ?_⟩
      refine r_load (i := 22) (u := 0) (w := 2) rfl rfl rfl ?_
      refine r_load (i := 23) (u := 0) (w := 2) rfl rfl rfl ?_
      refine r_const (i := 24) (u := 10) (z := 10) rfl rfl ?_
      refine r_load (i := 25) (u := 0) (w := 2) rfl rfl rfl ?_
      refine r_load (i := 26) (u := 2) (w := 2) rfl rfl rfl ?_
      have h195 := hI189.f tf43_51
      have h196 : S184.f 43 51 = S.f 43 51 := hF190.f rfl
      have h197 : wphi S184 = wphi S := wphiX.fr hF190 rfl rfl
      have h198 : wpsi S184 = wpsi S := wpsiX.fr hF190 rfl rfl
      refine r_call (i := 27) (u := 11) (v := 192) (w := 0) (b := 0) (na := 514) (C2 := xC192) (as := [(2, 43), (6, 51)]) (s := [vi 10, (2, 43), (2, 43)]) rfl rfl rfl rfl rfl rfl rfl (sp192 (s := 51) hI189 ⟨by decide, by decide⟩ (by omega) (by omega) (by omega) (by omega) e194 (by omega)) (fun r199 S200 hq201 => ?_)
      obtain ⟨z202, rfl, h203, h204, h205, h206, h207, mi208, e209, hI210, hF211, hR212⟩ := hq201
      have hF213 := hF192.trans hF211 rfl rfl
      have hR214 := hR193.trans hR212 rfl
      refine Or.inr (Or.inl ⟨rfl, ?_⟩)
      refine r_str (i := 28) (v := 54) rfl ?_
      have h215 := slv54
      refine r_load (i := 29) (u := 1) (w := 0) rfl rfl rfl ?_
      refine r_const (i := 30) (u := 1) (z := 1) rfl rfl ?_
      refine c_ne (i := 31) (v := 34) rfl ⟨by omega, by omega⟩ ⟨by omega, by omega⟩ (fun h216 => absurd h216 (by omega)) (fun h217 => ?_)
      refine r_str (i := 32) (v := 55) rfl ?_
      have h218 := slv55
      refine r_goto (i := 33) (v := 40) rfl ?_
      have h219 := hI210.f tf43_51
      refine r_call (i := 40) (u := 11) (v := 218) (w := 0) (b := 0) (na := 1797) (C2 := xC218) (as := [(2, 43), vi 10, vi z202, (6, 54), (6, 55)]) (s := [(2, 43)]) rfl rfl rfl rfl rfl rfl rfl (sp218 (w0 := 10) (ow := z202) (s1 := 54) (s2 := 55) hI210 ⟨by omega, by omega⟩ ⟨by omega, by omega⟩ ⟨by decide, by decide⟩ ⟨by decide, by decide⟩ (by omega) (by omega) (by omega) (by omega) (by omega) e209 (by omega)) (fun r220 S221 hq222 => ?_)
      obtain ⟨z223, rfl, h224, h225, h226, h227, h228, mm229, e230, hI231, hF232, hR233⟩ := hq222
      have hF234 := hF213.trans hF232 rfl rfl
      have hR235 := hR214.trans hR233 rfl
      refine Or.inr (Or.inl ⟨rfl, ?_⟩)
      have h236 := hI231.f tf43_43
      have h237 : S221.f 43 43 = S200.f 43 43 := hF232.f rfl
      have h238 : S200.f 43 43 = S184.f 43 43 := hF211.f rfl
      refine r_call (i := 41) (u := 11) (v := 257) (w := 0) (b := 0) (na := 514) (C2 := xC257) (as := [(2, 43), vi z223]) (s := []) rfl rfl rfl rfl rfl rfl rfl (sp257 (v := z223) hI231 ⟨by omega, by omega⟩ (by omega)  (by omega)) (fun r239 S240 hq241 => ?_)
      obtain ⟨rfl, h242, h243, mq244, hI245, hF246, hR247⟩ := hq241
      have hF248 := hF234.trans hF246 rfl rfl
      have hR249 := hR235.trans hR247 rfl
      have e250 := wLVx.fr e230 hF246 rfl rfl
      refine Or.inl ⟨rfl, ?_⟩
      have h251 := hI245.f tf43_43
      have h252 := hI245.f tf43_51
      have h253 : S240.f 43 51 = S221.f 43 51 := hF246.f rfl
      have h254 : wphi S240 = wphi S221 := wphiX.fr hF246 rfl rfl
      have h255 : wpsi S240 = wpsi S221 := wpsiX.fr hF246 rfl rfl
      exact r_ret0 (i := 42) rfl ⟨rfl, (by omega), (by omega), (by omega), (by omega), (by omega), (by intro k9; intro w9 hw0; have hw1 := mq188 _ hw0; obtain ⟨hw2, ew2⟩ := mi208 _ hw1; obtain ⟨hw3, ew3⟩ := mm229 (by omega) (by omega) _ hw2; have hw4 := mq244 _ hw3; subst ew2; subst ew3; exact mW_c hw4 (oM_m.trans (wbx_m1 (by omega) wd182))), e250, hI245, hF248, hR249⟩
  · exact r_ret0 (i := 3) rfl ⟨rfl, (by omega), (by omega), (by omega), (by omega), (by omega), (by intro k9; exact fun w9 hw0 => mW_c hw0 (wbx_4 (by omega))), e_wLV, hI, hF, hR⟩
/-- ProxyForgeModel.field -/
theorem sp202 {G : xk} {S : yS} {d : Nat} (hI : yI S) (p_0 : S.f 43 43 ≤ 23900) (p_1 : S.f 43 51 = 0) (p_2 : wphi S ≤ 19950) (p_3 : wpsi S ≤ 1120) (e_wLV : wLV S) (hd : 8 ≤ d) : yT xPr G LY xC202 0 [some ((2, 43))] [] S d (fun r S' => r = (0, (0, 0)) ∧ S.f 43 43 + 4 ≤ S'.f 43 43 ∧ S'.f 43 43 ≤ S.f 43 43 + 4 ∧ S'.f 43 51 = 0 ∧ wphi S' ≤ wphi S + 10 ∧ wpsi S' ≤ wpsi S + 2 ∧ mQ S S' (wgf) ∧ wLV S' ∧ yI S' ∧ yFr [(43, 43), (43, 49), (43, 50), (43, 51), (43, 52), (43, 53)] [72, 73, 74, 75, 76, 77] S S' ∧ yRm [] S S') := by
  refine yT_pad 0 ?_
  show yT xPr G LY xC202 0 [some ((2, 43))] [] S d _
  obtain ⟨d, rfl⟩ : ∃ q, d = q + 1 := ⟨d - 1, by omega⟩
  have hF : yFr [(43, 43), (43, 49), (43, 50), (43, 51), (43, 52), (43, 53)] [72, 73, 74, 75, 76, 77] S S := yFr.refl S
  have hR : yRm [] S S := yRm.refl S
  have h1 := hI.f tf43_43
  have h2 := hI.f tf43_51
  refine r_load (i := 0) (u := 0) (w := 2) rfl rfl rfl ?_
  refine r_const (i := 1) (u := 42) (z := 42) rfl rfl ?_
  refine r_const (i := 2) (u := 0) (z := 0) rfl rfl ?_
  refine r_const (i := 3) (u := 1) (z := 1) rfl rfl ?_
  refine r_call (i := 4) (u := 11) (v := 250) (w := 0) (b := 0) (na := 1028) (C2 := xC250) (as := [(2, 43), vi 42, vi 0, vi 1]) (s := []) rfl rfl rfl rfl rfl rfl rfl (sp250 (b0 := 42) (off := 0) (on := 1) hI ⟨by omega, by omega⟩ ⟨by omega, by omega⟩ ⟨by omega, by omega⟩ (by omega)  (by omega)) (fun r3 S4 hq5 => ?_)
  obtain ⟨rfl, h6, h7, mq8, hI9, hF10, hR11⟩ := hq5
  have hF12 := hF.trans hF10 rfl rfl
  have hR13 := hR.trans hR11 rfl
  have e14 := wLVx.fr e_wLV hF10 rfl rfl
  refine Or.inl ⟨rfl, ?_⟩
  refine r_load (i := 5) (u := 0) (w := 2) rfl rfl rfl ?_
  refine r_const (i := 6) (u := 180) (z := 180) rfl rfl ?_
  refine r_const (i := 7) (u := 1) (z := 1) rfl rfl ?_
  refine r_const (i := 8) (u := 1) (z := 1) rfl rfl ?_
  have h15 := hI9.f tf43_43
  refine r_call (i := 9) (u := 11) (v := 250) (w := 0) (b := 0) (na := 1028) (C2 := xC250) (as := [(2, 43), vi 180, vi 1, vi 1]) (s := []) rfl rfl rfl rfl rfl rfl rfl (sp250 (b0 := 180) (off := 1) (on := 1) hI9 ⟨by omega, by omega⟩ ⟨by omega, by omega⟩ ⟨by omega, by omega⟩ (by omega)  (by omega)) (fun r16 S17 hq18 => ?_)
  obtain ⟨rfl, h19, h20, mq21, hI22, hF23, hR24⟩ := hq18
  have hF25 := hF12.trans hF23 rfl rfl
  have hR26 := hR13.trans hR24 rfl
  have e27 := wLVx.fr e14 hF23 rfl rfl
  refine Or.inl ⟨rfl, ?_⟩
  refine r_load (i := 10) (u := 0) (w := 2) rfl rfl rfl ?_
  refine r_load (i := 11) (u := 0) (w := 2) rfl rfl rfl ?_
  refine r_const (i := 12) (u := 9) (z := 9) rfl rfl ?_
  refine r_load (i := 13) (u := 0) (w := 2) rfl rfl rfl ?_
  have h28 := hI22.f tf43_51
  have h29 : S17.f 43 51 = S4.f 43 51 := hF23.f rfl
  have h30 : S4.f 43 51 = S.f 43 51 := hF10.f rfl
  have h31 : wphi S17 = wphi S4 := wphiX.fr hF23 rfl rfl
  have h32 : wphi S4 = wphi S := wphiX.fr hF10 rfl rfl
  have h33 : wpsi S17 = wpsi S4 := wpsiX.fr hF23 rfl rfl
  have h34 : wpsi S4 = wpsi S := wpsiX.fr hF10 rfl rfl
  refine r_call (i := 14) (u := 11) (v := 233) (w := 0) (b := 0) (na := 257) (C2 := xC233) (as := [(2, 43)]) (s := [vi 9, (2, 43), (2, 43)]) rfl rfl rfl rfl rfl rfl rfl (sp233  hI22  (by omega) (by omega) (by omega) e27 (by omega)) (fun r35 S36 hq37 => ?_)
  obtain ⟨z38, rfl, h39, h40, h41, h42, h43, mi44, e45, hI46, hF47, hR48⟩ := hq37
  have hF49 := hF25.trans hF47 rfl rfl
  have hR50 := hR26.trans hR48 rfl
  refine Or.inr (Or.inl ⟨rfl, ?_⟩)
  refine r_str (i := 15) (v := 46) rfl ?_
  have h51 := slv46
  refine r_str (i := 16) (v := 47) rfl ?_
  have h52 := slv47
  have h53 := hI46.f tf43_51
  refine r_call (i := 17) (u := 11) (v := 218) (w := 0) (b := 0) (na := 1797) (C2 := xC218) (as := [(2, 43), vi 9, vi z38, (6, 46), (6, 47)]) (s := [(2, 43)]) rfl rfl rfl rfl rfl rfl rfl (sp218 (w0 := 9) (ow := z38) (s1 := 46) (s2 := 47) hI46 ⟨by omega, by omega⟩ ⟨by omega, by omega⟩ ⟨by decide, by decide⟩ ⟨by decide, by decide⟩ (by omega) (by omega) (by omega) (by omega) (by omega) e45 (by omega)) (fun r54 S55 hq56 => ?_)
  obtain ⟨z57, rfl, h58, h59, h60, h61, h62, mm63, e64, hI65, hF66, hR67⟩ := hq56
  have hF68 := hF49.trans hF66 rfl rfl
  have hR69 := hR50.trans hR67 rfl
  refine Or.inr (Or.inl ⟨rfl, ?_⟩)
  have h70 := hI65.f tf43_43
  have h71 : S55.f 43 43 = S36.f 43 43 := hF66.f rfl
  have h72 : S36.f 43 43 = S17.f 43 43 := hF47.f rfl
  refine r_call (i := 18) (u := 11) (v := 257) (w := 0) (b := 0) (na := 514) (C2 := xC257) (as := [(2, 43), vi z57]) (s := []) rfl rfl rfl rfl rfl rfl rfl (sp257 (v := z57) hI65 ⟨by omega, by omega⟩ (by omega)  (by omega)) (fun r73 S74 hq75 => ?_)
  obtain ⟨rfl, h76, h77, mq78, hI79, hF80, hR81⟩ := hq75
  have hF82 := hF68.trans hF80 rfl rfl
  have hR83 := hR69.trans hR81 rfl
  have e84 := wLVx.fr e64 hF80 rfl rfl
  refine Or.inl ⟨rfl, ?_⟩
  have h85 := hI79.f tf43_43
  have h86 := hI79.f tf43_51
  have h87 : S74.f 43 51 = S55.f 43 51 := hF80.f rfl
  have h88 : wphi S74 = wphi S55 := wphiX.fr hF80 rfl rfl
  have h89 : wpsi S74 = wpsi S55 := wpsiX.fr hF80 rfl rfl
  exact r_ret0 (i := 19) rfl ⟨rfl, (by omega), (by omega), (by omega), (by omega), (by omega), (by intro w9 hw0; have hw1 := mq8 _ hw0; have hw2 := mq21 _ hw1; obtain ⟨hw3, ew3⟩ := mi44 _ hw2; rw [pxS_e (show S17.f 43 21 = S.f 43 21 from ((hF23.f rfl).trans (hF10.f rfl))) (fun j => ((hF23.a (b := 48) rfl j).trans (hF10.a (b := 48) rfl j))), show pxS S = w9.2.2.2.2.2.2 from hw0.2.2.2.2.symm] at hw3 ew3; obtain ⟨hw4, ew4⟩ := mm63 (by omega) (by omega) _ hw3; have hw5 := mq78 _ hw4; subst ew3; subst ew4; exact mW_c hw5 wgf_m), e84, hI79, hF82, hR83⟩
/-- ProxyForgeModel.ask -/
theorem sp183 {G : xk} {S : yS} {d : Nat} (hI : yI S) {s1 : Nat} (h_s1 : yStr s1) {s2 : Nat} (h_s2 : yStr s2) {n1 : Int} (h_n1 : 0 ≤ n1 ∧ n1 ≤ 4) (p_0 : S.f 43 43 ≤ 23900) (p_1 : S.f 43 51 = 0) (p_2 : wphi S ≤ 19950) (p_3 : wpsi S ≤ 1120) (p_4 : 39 ≤ s1) (p_5 : 39 ≤ s2) (e_wLV : wLV S) (hd : 7 ≤ d) : yT xPr G LY xC183 0 [some ((2, 43)), some ((6, s1)), some ((6, s2)), some (vi n1)] [] S d (fun r S' => r = (0, (0, 0)) ∧ S.f 43 43 + 5 ≤ S'.f 43 43 ∧ S'.f 43 43 ≤ S.f 43 43 + 5 ∧ S'.f 43 51 = 0 ∧ wphi S' ≤ wphi S + 10 ∧ wpsi S' ≤ wpsi S + 2 ∧ mQ S S' (fun w => w20 n1 (wopE 185 (imb 11 (strl 22) (strl s1) (strl s2) w) (1 - n1) (wmb 11 (strl 22) (strl s1) (strl s2) w))) ∧ wLV S' ∧ yI S' ∧ yFr [(43, 43), (43, 49), (43, 50), (43, 51), (43, 52), (43, 53)] [72, 73, 74, 75, 76, 77] S S' ∧ yRm [] S S') := by
  refine yT_pad 0 ?_
  show yT xPr G LY xC183 0 [some ((2, 43)), some ((6, s1)), some ((6, s2)), some (vi n1)] [] S d _
  obtain ⟨d, rfl⟩ : ∃ q, d = q + 1 := ⟨d - 1, by omega⟩
  have hF : yFr [(43, 43), (43, 49), (43, 50), (43, 51), (43, 52), (43, 53)] [72, 73, 74, 75, 76, 77] S S := yFr.refl S
  have hR : yRm [] S S := yRm.refl S
  have h1 := hI.f tf43_43
  have h2 := hI.f tf43_51
  refine r_load (i := 0) (u := 0) (w := 2) rfl rfl rfl ?_
  refine r_const (i := 1) (u := 185) (z := 185) rfl rfl ?_
  refine r_load (i := 2) (u := 3) (w := 0) rfl rfl rfl ?_
  refine r_const (i := 3) (u := 1) (z := 1) rfl rfl ?_
  refine r_call (i := 4) (u := 11) (v := 250) (w := 0) (b := 0) (na := 1028) (C2 := xC250) (as := [(2, 43), vi 185, vi n1, vi 1]) (s := []) rfl rfl rfl rfl rfl rfl rfl (sp250 (b0 := 185) (off := n1) (on := 1) hI ⟨by omega, by omega⟩ ⟨by omega, by omega⟩ ⟨by omega, by omega⟩ (by omega)  (by omega)) (fun r3 S4 hq5 => ?_)
  obtain ⟨rfl, h6, h7, mq8, hI9, hF10, hR11⟩ := hq5
  have hF12 := hF.trans hF10 rfl rfl
  have hR13 := hR.trans hR11 rfl
  have e14 := wLVx.fr e_wLV hF10 rfl rfl
  refine Or.inl ⟨rfl, ?_⟩
  refine r_load (i := 5) (u := 0) (w := 2) rfl rfl rfl ?_
  refine r_load (i := 6) (u := 0) (w := 2) rfl rfl rfl ?_
  refine r_const (i := 7) (u := 11) (z := 11) rfl rfl ?_
  refine r_load (i := 8) (u := 0) (w := 2) rfl rfl rfl ?_
  refine r_str (i := 9) (v := 60) rfl ?_
  have h15 := slv60
  have h16 := hI9.f tf43_51
  have h17 : S4.f 43 51 = S.f 43 51 := hF10.f rfl
  have h18 : wphi S4 = wphi S := wphiX.fr hF10 rfl rfl
  have h19 : wpsi S4 = wpsi S := wpsiX.fr hF10 rfl rfl
  refine r_call (i := 10) (u := 11) (v := 192) (w := 0) (b := 0) (na := 514) (C2 := xC192) (as := [(2, 43), (6, 60)]) (s := [vi 11, (2, 43), (2, 43)]) rfl rfl rfl rfl rfl rfl rfl (sp192 (s := 60) hI9 ⟨by decide, by decide⟩ (by omega) (by omega) (by omega) (by omega) e14 (by omega)) (fun r20 S21 hq22 => ?_)
  obtain ⟨z23, rfl, h24, h25, h26, h27, h28, mi29, e30, hI31, hF32, hR33⟩ := hq22
  have hF34 := hF12.trans hF32 rfl rfl
  have hR35 := hR13.trans hR33 rfl
  refine Or.inr (Or.inl ⟨rfl, ?_⟩)
  refine r_load (i := 11) (u := 1) (w := 2) rfl rfl rfl ?_
  refine r_load (i := 12) (u := 2) (w := 2) rfl rfl rfl ?_
  have h36 := hI31.f tf43_51
  refine r_call (i := 13) (u := 11) (v := 218) (w := 0) (b := 0) (na := 1797) (C2 := xC218) (as := [(2, 43), vi 11, vi z23, (6, s1), (6, s2)]) (s := [(2, 43)]) rfl rfl rfl rfl rfl rfl rfl (sp218 (w0 := 11) (ow := z23) (s1 := s1) (s2 := s2) hI31 ⟨by omega, by omega⟩ ⟨by omega, by omega⟩ h_s1 h_s2 (by omega) (by omega) (by omega) (by omega) (by omega) e30 (by omega)) (fun r37 S38 hq39 => ?_)
  obtain ⟨z40, rfl, h41, h42, h43, h44, h45, mm46, e47, hI48, hF49, hR50⟩ := hq39
  have hF51 := hF34.trans hF49 rfl rfl
  have hR52 := hR35.trans hR50 rfl
  refine Or.inr (Or.inl ⟨rfl, ?_⟩)
  have h53 := hI48.f tf43_43
  have h54 : S38.f 43 43 = S21.f 43 43 := hF49.f rfl
  have h55 : S21.f 43 43 = S4.f 43 43 := hF32.f rfl
  refine r_call (i := 14) (u := 11) (v := 257) (w := 0) (b := 0) (na := 514) (C2 := xC257) (as := [(2, 43), vi z40]) (s := []) rfl rfl rfl rfl rfl rfl rfl (sp257 (v := z40) hI48 ⟨by omega, by omega⟩ (by omega)  (by omega)) (fun r56 S57 hq58 => ?_)
  obtain ⟨rfl, h59, h60, mq61, hI62, hF63, hR64⟩ := hq58
  have hF65 := hF51.trans hF63 rfl rfl
  have hR66 := hR52.trans hR64 rfl
  have e67 := wLVx.fr e47 hF63 rfl rfl
  refine Or.inl ⟨rfl, ?_⟩
  refine r_load (i := 15) (u := 0) (w := 2) rfl rfl rfl ?_
  refine r_load (i := 16) (u := 3) (w := 0) rfl rfl rfl ?_
  have h68 := hI62.f tf43_43
  refine r_call (i := 17) (u := 11) (v := 224) (w := 0) (b := 0) (na := 514) (C2 := xC224) (as := [(2, 43), vi n1]) (s := []) rfl rfl rfl rfl rfl rfl rfl (sp224 (v := n1) hI62 ⟨by omega, by omega⟩ (by omega)  (by omega)) (fun r69 S70 hq71 => ?_)
  obtain ⟨rfl, h72, h73, mq74, hI75, hF76, hR77⟩ := hq71
  have hF78 := hF65.trans hF76 rfl rfl
  have hR79 := hR66.trans hR77 rfl
  have e80 := wLVx.fr e67 hF76 rfl rfl
  refine Or.inl ⟨rfl, ?_⟩
  refine r_load (i := 18) (u := 0) (w := 2) rfl rfl rfl ?_
  refine r_const (i := 19) (u := 0) (z := 0) rfl rfl ?_
  have h81 := hI75.f tf43_43
  refine r_call (i := 20) (u := 11) (v := 224) (w := 0) (b := 0) (na := 514) (C2 := xC224) (as := [(2, 43), vi 0]) (s := []) rfl rfl rfl rfl rfl rfl rfl (sp224 (v := 0) hI75 ⟨by omega, by omega⟩ (by omega)  (by omega)) (fun r82 S83 hq84 => ?_)
  obtain ⟨rfl, h85, h86, mq87, hI88, hF89, hR90⟩ := hq84
  have hF91 := hF78.trans hF89 rfl rfl
  have hR92 := hR79.trans hR90 rfl
  have e93 := wLVx.fr e80 hF89 rfl rfl
  refine Or.inl ⟨rfl, ?_⟩
  have h94 := hI88.f tf43_43
  have h95 := hI88.f tf43_51
  have h96 : S83.f 43 51 = S70.f 43 51 := hF89.f rfl
  have h97 : S70.f 43 51 = S57.f 43 51 := hF76.f rfl
  have h98 : S57.f 43 51 = S38.f 43 51 := hF63.f rfl
  have h99 : wphi S83 = wphi S70 := wphiX.fr hF89 rfl rfl
  have h100 : wphi S70 = wphi S57 := wphiX.fr hF76 rfl rfl
  have h101 : wphi S57 = wphi S38 := wphiX.fr hF63 rfl rfl
  have h102 : wpsi S83 = wpsi S70 := wpsiX.fr hF89 rfl rfl
  have h103 : wpsi S70 = wpsi S57 := wpsiX.fr hF76 rfl rfl
  have h104 : wpsi S57 = wpsi S38 := wpsiX.fr hF63 rfl rfl
  exact r_ret0 (i := 21) rfl ⟨rfl, (by omega), (by omega), (by omega), (by omega), (by omega), (by intro w9 hw0; have hw1 := mq8 _ hw0; obtain ⟨hw2, ew2⟩ := mi29 _ hw1; obtain ⟨hw3, ew3⟩ := mm46 (by omega) (by omega) _ hw2; have hw4 := mq61 _ hw3; have hw5 := mq74 _ hw4; have hw6 := mq87 _ hw5; subst ew2; subst ew3; exact mW_c hw6 (wask_m)), e93, hI88, hF91, hR92⟩
theorem lp207_41 {G : xk} {d : Nat} {S0 : yS} {k : Int} (h_k : 0 ≤ k ∧ k ≤ 23) {m : Int} (h_m : 0 ≤ m ∧ m ≤ 59) (p_0 : S0.f 43 43 ≤ 23700) (p_1 : S0.f 43 51 = 0) (p_2 : wphi S0 ≤ 19700) (p_3 : wpsi S0 ≤ 1090) (hd : 9 ≤ d + 1) : ∀ (n : Nat), ∀ (S : yS) (hI : yI S) (hF : yFr [(43, 43), (43, 49), (43, 50), (43, 51), (43, 52), (43, 53)] [72, 73, 74, 75, 76, 77] S0 S) (hR : yRm [] S0 S) (e_wLV : wLV S) (n1 lc j : Int) (h_n1 : 0 ≤ n1 ∧ n1 ≤ 4) (h_lc : 0 ≤ lc ∧ lc ≤ 12) (h_j : 0 ≤ j ∧ j ≤ 4) (q_0 : S0.f 43 43 + 4 ≤ S.f 43 43) (q_1 : S.f 43 43 ≤ S0.f 43 43 + 11 + 8 * j) (q_2 : S.f 43 51 = 0) (q_3 : wphi S ≤ wphi S0 + 10 + 10 * j) (q_4 : wpsi S ≤ wpsi S0 + 2 + 2 * j) (q_5 : S0.f 43 43 ≤ 23700 ∧ wphi S0 ≤ 19700 ∧ wpsi S0 ≤ 1090) (q_6 : lc ≤ 1 + 2 * j) (q_7 : mQ S0 S (fun w => wao (S0.a 55 m.toNat) j.toNat (wa0 (pkR 48 S0) (hmn (S0.a 55 m.toNat)) (wpu k (wop 42 1 (wgf w)))))) (q_8 : lc = 1 + wdA (S0.a 55 m.toNat) j.toNat) (q_9 : n1 = hmn (S0.a 55 m.toNat)) (q_10 : j ≤ n1) (hn : 4 - j < (n : Nat)), yT xPr G LY xC207 41 [some ((2, 43)), some (vi k), some (vi m), some (vi n1), some (vi lc), some (vi j), none] [] S (d + 1) (fun r S' => r = (0, (0, 0)) ∧ S0.f 43 43 + 1 ≤ S'.f 43 43 ∧ S'.f 43 43 ≤ S0.f 43 43 + 55 ∧ S'.f 43 51 = 0 ∧ wphi S' ≤ wphi S0 + 70 ∧ wpsi S' ≤ wpsi S0 + 14 ∧ mQ S0 S' (fun w => wub (pkR 48 S0) (S0.a 56 m.toNat) (wak (pkR 48 S0) k (S0.a 55 m.toNat) w)) ∧ wLV S' ∧ yI S' ∧ yFr [(43, 43), (43, 49), (43, 50), (43, 51), (43, 52), (43, 53)] [72, 73, 74, 75, 76, 77] S0 S' ∧ yRm [] S0 S') := by
  intro n
  induction n with
  | zero => intro S hI hF hR e_wLV n1 lc j h_n1 h_lc h_j q_0 q_1 q_2 q_3 q_4 q_5 q_6 q_7 q_8 q_9 q_10 hn; exact absurd hn (by omega)
  | succ n ih =>
    intro S hI hF hR e_wLV n1 lc j h_n1 h_lc h_j q_0 q_1 q_2 q_3 q_4 q_5 q_6 q_7 q_8 q_9 q_10 hn
    have h1 := hI.f tf43_43
    have h2 := hI.f tf43_51
    refine r_load (i := 41) (u := 5) (w := 0) rfl rfl rfl ?_
    refine r_load (i := 42) (u := 3) (w := 0) rfl rfl rfl ?_
    refine c_ge (i := 43) (v := 78) rfl ⟨by omega, by omega⟩ ⟨by omega, by omega⟩ (fun h3 => ?_) (fun h4 => ?_)
    · refine r_load (i := 78) (u := 0) (w := 2) rfl rfl rfl ?_
      refine r_str (i := 79) (v := 58) rfl ?_
      have h5 := slv58
      refine r_str (i := 80) (v := 59) rfl ?_
      have h6 := slv59
      refine r_const (i := 81) (u := 4) (z := 4) rfl rfl ?_
      refine r_call (i := 82) (u := 11) (v := 183) (w := 0) (b := 0) (na := 1028) (C2 := xC183) (as := [(2, 43), (6, 58), (6, 59), vi 4]) (s := []) rfl rfl rfl rfl rfl rfl rfl (sp183 (s1 := 58) (s2 := 59) (n1 := 4) hI ⟨by decide, by decide⟩ ⟨by decide, by decide⟩ ⟨by omega, by omega⟩ (by omega) (by omega) (by omega) (by omega) (by omega) (by omega) e_wLV (by omega)) (fun r7 S8 hq9 => ?_)
      obtain ⟨rfl, h10, h11, h12, h13, h14, mq15, e16, hI17, hF18, hR19⟩ := hq9
      have hF20 := hF.trans hF18 rfl rfl
      have hR21 := hR.trans hR19 rfl
      refine Or.inl ⟨rfl, ?_⟩
      refine r_load (i := 83) (u := 0) (w := 2) rfl rfl rfl ?_
      refine r_load (i := 84) (u := 0) (w := 2) rfl rfl rfl ?_
      refine r_getf (i := 85) (v := 15) (w := 11) (x := (2, 56)) rfl ly43 rfl rfl fun _ => ?_
      refine r_load (i := 86) (u := 2) (w := 0) rfl rfl rfl ?_
      refine a_int (i := 87) rfl ly56 rfl (by omega) (by omega) fun h23 => ?_
      have h24 := hI17.a ta56 m.toNat
      have h25 : S8.a 56 m.toNat = S0.a 56 m.toNat := hF20.a rfl _
      have h26 := hI17.f tf43_43
      have h27 := hI17.f tf43_51
      refine r_call (i := 88) (u := 11) (v := 259) (w := 0) (b := 0) (na := 770) (C2 := xC259) (as := [(2, 43), vi (S8.a 56 m.toNat)]) (s := []) rfl rfl rfl rfl rfl rfl rfl (sp259 (k := S8.a 56 m.toNat) hI17 ⟨by omega, by omega⟩ (by omega) (by omega) (by omega) (by omega) e16 (by omega)) (fun r28 S29 hq30 => ?_)
      obtain ⟨rfl, h31, h32, h33, h34, h35, mq36, e37, hI38, hF39, hR40⟩ := hq30
      have hF41 := hF20.trans hF39 rfl rfl
      have hR42 := hR21.trans hR40 rfl
      refine Or.inl ⟨rfl, ?_⟩
      have h43 := hI38.f tf43_43
      have h44 := hI38.f tf43_51
      have h45 := hI38.a ta56 m.toNat
      have h46 : S29.a 56 m.toNat = S0.a 56 m.toNat := hF41.a rfl _
      have h47 := hI38.a ta55 m.toNat
      have h48 : S29.a 55 m.toNat = S0.a 55 m.toNat := hF41.a rfl _
      exact r_ret0 (i := 89) rfl ⟨rfl, (by omega), (by omega), (by omega), (by omega), (by omega), (by intro w9 hw0; have hwq := q_7 _ hw0; have hw1 := mq15 _ hwq; have hw2 := mq36 _ hw1; exact mW_c hw2 (wak_m (by omega) ((pkR_fr (b := 48) hF18 rfl).trans (pkR_fr (b := 48) hF rfl)) (by omega))), e37, hI38, hF41, hR42⟩
    · have kk9 := kpu hI m.toNat j (by omega) (by omega)
      refine r_load (i := 44) (u := 0) (w := 2) rfl rfl rfl ?_
      refine r_getf (i := 45) (v := 14) (w := 11) (x := (2, 55)) rfl ly43 rfl rfl fun _ => ?_
      refine r_load (i := 46) (u := 2) (w := 0) rfl rfl rfl ?_
      refine a_int (i := 47) rfl ly55 rfl (by omega) (by omega) fun h50 => ?_
      have h51 := hI.a ta55 m.toNat
      have kp52 := hI.k55 m.toNat
      have h53 : S.a 55 m.toNat = S0.a 55 m.toNat := hF.a rfl _
      refine r_load (i := 48) (u := 5) (w := 0) rfl rfl rfl ?_
      refine r_call (i := 49) (u := 65535) (v := 229) (w := 0) (b := 2) (na := 514) (C2 := xC229) (as := [vi (S.a 55 m.toNat), vi j]) (s := []) rfl rfl rfl rfl rfl rfl rfl (sp229 (a := S.a 55 m.toNat) (k := j) hI ⟨by omega, by omega⟩ ⟨by omega, by omega⟩   (by omega)) (fun r54 S55 hq56 => ?_)
      obtain ⟨z57, rfl, h58, h59, h60, rfl⟩ := hq56
      refine Or.inr (Or.inl ⟨rfl, ?_⟩)
      refine r_store (i := 50) (u := 6) (w := 0) (L1 := [some ((2, 43)), some (vi k), some (vi m), some (vi n1), some (vi lc), some (vi j), some (vi z57)]) rfl rfl rfl rfl ?_
      refine r_load (i := 51) (u := 0) (w := 2) rfl rfl rfl ?_
      refine r_const (i := 52) (u := 89) (z := 89) rfl rfl ?_
      refine r_const (i := 53) (u := 0) (z := 0) rfl rfl ?_
      refine r_const (i := 54) (u := 1) (z := 1) rfl rfl ?_
      refine r_call (i := 55) (u := 11) (v := 250) (w := 0) (b := 0) (na := 1028) (C2 := xC250) (as := [(2, 43), vi 89, vi 0, vi 1]) (s := []) rfl rfl rfl rfl rfl rfl rfl (sp250 (b0 := 89) (off := 0) (on := 1) hI ⟨by omega, by omega⟩ ⟨by omega, by omega⟩ ⟨by omega, by omega⟩ (by omega)  (by omega)) (fun r61 S62 hq63 => ?_)
      obtain ⟨rfl, h64, h65, mq66, hI67, hF68, hR69⟩ := hq63
      have hF70 := hF.trans hF68 rfl rfl
      have hR71 := hR.trans hR69 rfl
      have e72 := wLVx.fr e_wLV hF68 rfl rfl
      refine Or.inl ⟨rfl, ?_⟩
      refine r_load (i := 56) (u := 0) (w := 2) rfl rfl rfl ?_
      refine r_load (i := 57) (u := 5) (w := 0) rfl rfl rfl ?_
      have h73 := hI67.f tf43_43
      refine r_call (i := 58) (u := 11) (v := 234) (w := 0) (b := 0) (na := 514) (C2 := xC234) (as := [(2, 43), vi j]) (s := []) rfl rfl rfl rfl rfl rfl rfl (sp234 (n1 := j) hI67 ⟨by omega, by omega⟩ (by omega)  (by omega)) (fun r74 S75 hq76 => ?_)
      obtain ⟨rfl, h77, h78, h79, mq80, hI81, hF82, hR83⟩ := hq76
      have hF84 := hF70.trans hF82 rfl rfl
      have hR85 := hR71.trans hR83 rfl
      have e86 := wLVx.fr e72 hF82 rfl rfl
      refine Or.inl ⟨rfl, ?_⟩
      refine r_load (i := 59) (u := 0) (w := 2) rfl rfl rfl ?_
      refine r_load (i := 60) (u := 6) (w := 0) rfl rfl rfl ?_
      refine r_load (i := 61) (u := 4) (w := 0) rfl rfl rfl ?_
      have h87 := hI81.f tf43_43
      refine r_call (i := 62) (u := 11) (v := 214) (w := 0) (b := 0) (na := 771) (C2 := xC214) (as := [(2, 43), vi z57, vi lc]) (s := []) rfl rfl rfl rfl rfl rfl rfl (sp214 (k := z57) (l0 := lc) hI81 ⟨by omega, by omega⟩ ⟨by omega, by omega⟩ (by omega)  (by omega)) (fun r88 S89 hq90 => ?_)
      obtain ⟨rfl, h91, h92, mk93, hI94, hF95, hR96⟩ := hq90
      have hF97 := hF84.trans hF95 rfl rfl
      have hR98 := hR85.trans hR96 rfl
      have e99 := wLVx.fr e86 hF95 rfl rfl
      refine Or.inl ⟨rfl, ?_⟩
      refine r_load (i := 63) (u := 0) (w := 2) rfl rfl rfl ?_
      refine r_load (i := 64) (u := 6) (w := 0) rfl rfl rfl ?_
      have h100 := hI94.f tf43_43
      have h101 := hI94.f tf43_51
      have h102 : S89.f 43 51 = S75.f 43 51 := hF95.f rfl
      have h103 : S75.f 43 51 = S62.f 43 51 := hF82.f rfl
      have h104 : S62.f 43 51 = S.f 43 51 := hF68.f rfl
      have h105 : wphi S89 = wphi S75 := wphiX.fr hF95 rfl rfl
      have h106 : wphi S75 = wphi S62 := wphiX.fr hF82 rfl rfl
      have h107 : wphi S62 = wphi S := wphiX.fr hF68 rfl rfl
      have h108 : wpsi S89 = wpsi S75 := wpsiX.fr hF95 rfl rfl
      have h109 : wpsi S75 = wpsi S62 := wpsiX.fr hF82 rfl rfl
      have h110 : wpsi S62 = wpsi S := wpsiX.fr hF68 rfl rfl
      refine r_call (i := 65) (u := 11) (v := 186) (w := 0) (b := 0) (na := 770) (C2 := xC186) (as := [(2, 43), vi z57]) (s := []) rfl rfl rfl rfl rfl rfl rfl (sp186 (k := z57) hI94 ⟨by omega, by omega⟩ (by omega) (by omega) (by omega) (by omega) e99 (by omega)) (fun r111 S112 hq113 => ?_)
      obtain ⟨rfl, h114, h115, h116, h117, h118, mk119, e120, hI121, hF122, hR123⟩ := hq113
      have hF124 := hF97.trans hF122 rfl rfl
      have hR125 := hR98.trans hR123 rfl
      refine Or.inl ⟨rfl, ?_⟩
      refine r_load (i := 66) (u := 0) (w := 2) rfl rfl rfl ?_
      refine r_const (i := 67) (u := 83) (z := 83) rfl rfl ?_
      refine r_const (i := 68) (u := 3) (z := 3) rfl rfl ?_
      refine r_const (i := 69) (u := 0) (z := 0) rfl rfl ?_
      have h126 := hI121.f tf43_43
      refine r_call (i := 70) (u := 11) (v := 250) (w := 0) (b := 0) (na := 1028) (C2 := xC250) (as := [(2, 43), vi 83, vi 3, vi 0]) (s := []) rfl rfl rfl rfl rfl rfl rfl (sp250 (b0 := 83) (off := 3) (on := 0) hI121 ⟨by omega, by omega⟩ ⟨by omega, by omega⟩ ⟨by omega, by omega⟩ (by omega)  (by omega)) (fun r127 S128 hq129 => ?_)
      obtain ⟨rfl, h130, h131, mq132, hI133, hF134, hR135⟩ := hq129
      have hF136 := hF124.trans hF134 rfl rfl
      have hR137 := hR125.trans hR135 rfl
      have e138 := wLVx.fr e120 hF134 rfl rfl
      refine Or.inl ⟨rfl, ?_⟩
      refine r_load (i := 71) (u := 4) (w := 0) rfl rfl rfl ?_
      refine r_load (i := 72) (u := 6) (w := 0) rfl rfl rfl ?_
      refine r_call (i := 73) (u := 65535) (v := 262) (w := 0) (b := 2) (na := 257) (C2 := xC262) (as := [vi z57]) (s := [vi lc]) rfl rfl rfl rfl rfl rfl rfl (sp262 (k := z57) hI133 ⟨by omega, by omega⟩   (by omega)) (fun r139 S140 hq141 => ?_)
      obtain ⟨z142, rfl, h143, h144, wd145, rfl⟩ := hq141
      refine Or.inr (Or.inl ⟨rfl, ?_⟩)
      refine r_iadd (i := 74) rfl ?_
      refine r_store (i := 75) (u := 4) (w := 0) (L1 := [some ((2, 43)), some (vi k), some (vi m), some (vi n1), some (vi (lc + z142)), some (vi j), some (vi z57)]) rfl rfl rfl rfl ?_
      refine r_iinc (i := 76) (u := 1) (v := 5) (s := 1) (L1 := [some ((2, 43)), some (vi k), some (vi m), some (vi n1), some (vi (lc + z142)), some (vi (j + 1)), some (vi z57)]) rfl rfl rfl rfl rfl ?_
      refine r_goto (i := 77) (v := 41) rfl ?_
      refine yT_drop (L1 := [some ((2, 43)), some (vi k), some (vi m), some (vi n1), some (vi (lc + z142)), some (vi (j + 1)), none]) rfl ?_
      have h146 := hI133.f tf43_43
      have h147 := hI133.f tf43_51
      have h148 : S128.f 43 51 = S112.f 43 51 := hF134.f rfl
      have h149 : wphi S128 = wphi S112 := wphiX.fr hF134 rfl rfl
      have h150 : wpsi S128 = wpsi S112 := wpsiX.fr hF134 rfl rfl
      exact ih S128 hI133 hF136 hR137 e138 n1 (lc + z142) (j + 1) ⟨by omega, by omega⟩ ⟨by omega, by omega⟩ ⟨by omega, by omega⟩ (by omega) (by omega) (by omega) (by omega) (by omega) (by omega) (by omega) (by (have d9 : dg (S.a 55 m.toNat) j ≠ 0 := by rw [show S.a 55 m.toNat = S0.a 55 m.toNat from hF.a rfl _]; exact hmn_ne (by omega) (by omega)); unfold dg at d9; intro w9 hw0; have hwq := q_7 _ hw0; have hw1 := mq66 _ hwq; have hw2 := mq80 _ hw1; have hw3 := mk93 (by omega) _ hw2; have hw4 := mk119 (by omega) _ hw3; have hw5 := mq132 _ hw4; exact mW_c hw5 (wao_m (by omega) (show _ = dg (S0.a 55 m.toNat) j by rw [← show S.a 55 m.toNat = S0.a 55 m.toNat from hF.a rfl _]; unfold dg; omega) q_8)) (by exact lc_s q_8 wd145 (show _ = dg (S0.a 55 m.toNat) j by rw [← show S.a 55 m.toNat = S0.a 55 m.toNat from hF.a rfl _]; unfold dg; omega) (by omega)) (by exact q_9) (by omega) (by omega)
theorem lp207_37 {G : xk} {d : Nat} {S0 : yS} {k : Int} (h_k : 0 ≤ k ∧ k ≤ 23) {m : Int} (h_m : 0 ≤ m ∧ m ≤ 59) (p_0 : S0.f 43 43 ≤ 23700) (p_1 : S0.f 43 51 = 0) (p_2 : wphi S0 ≤ 19700) (p_3 : wpsi S0 ≤ 1090) (hd : 9 ≤ d + 1) : ∀ (S : yS) (hI : yI S) (hF : yFr [(43, 43), (43, 49), (43, 50), (43, 51), (43, 52), (43, 53)] [72, 73, 74, 75, 76, 77] S0 S) (hR : yRm [] S0 S) (e_wLV : wLV S) (n1 : Int) (h_n1 : 0 ≤ n1 ∧ n1 ≤ 4) (q_0 : S0.f 43 43 + 4 ≤ S.f 43 43) (q_1 : S.f 43 43 ≤ S0.f 43 43 + 11) (q_2 : S.f 43 51 = 0) (q_3 : wphi S ≤ wphi S0 + 10) (q_4 : wpsi S ≤ wpsi S0 + 2) (q_5 : S0.f 43 43 ≤ 23700 ∧ wphi S0 ≤ 19700 ∧ wpsi S0 ≤ 1090) (q_6 : mQ S0 S (fun w => wa0 (pkR 48 S0) (hmn (S0.a 55 m.toNat)) (wpu k (wop 42 1 (wgf w))))) (q_7 : n1 = hmn (S0.a 55 m.toNat)), yT xPr G LY xC207 37 [some ((2, 43)), some (vi k), some (vi m), some (vi n1), none, none, none] [] S (d + 1) (fun r S' => r = (0, (0, 0)) ∧ S0.f 43 43 + 1 ≤ S'.f 43 43 ∧ S'.f 43 43 ≤ S0.f 43 43 + 55 ∧ S'.f 43 51 = 0 ∧ wphi S' ≤ wphi S0 + 70 ∧ wpsi S' ≤ wpsi S0 + 14 ∧ mQ S0 S' (fun w => wub (pkR 48 S0) (S0.a 56 m.toNat) (wak (pkR 48 S0) k (S0.a 55 m.toNat) w)) ∧ wLV S' ∧ yI S' ∧ yFr [(43, 43), (43, 49), (43, 50), (43, 51), (43, 52), (43, 53)] [72, 73, 74, 75, 76, 77] S0 S' ∧ yRm [] S0 S') := by
  intro S hI hF hR e_wLV n1 h_n1 q_0 q_1 q_2 q_3 q_4 q_5 q_6 q_7
  have h1 := hI.f tf43_43
  have h2 := hI.f tf43_51
  refine r_const (i := 37) (u := 1) (z := 1) rfl rfl ?_
  refine r_store (i := 38) (u := 4) (w := 0) (L1 := [some ((2, 43)), some (vi k), some (vi m), some (vi n1), some (vi 1), none, none]) rfl rfl rfl rfl ?_
  refine r_const (i := 39) (u := 0) (z := 0) rfl rfl ?_
  refine r_store (i := 40) (u := 5) (w := 0) (L1 := [some ((2, 43)), some (vi k), some (vi m), some (vi n1), some (vi 1), some (vi 0), none]) rfl rfl rfl rfl ?_
  exact lp207_41 h_k h_m p_0 p_1 p_2 p_3 hd _ S hI hF hR e_wLV n1 1 0 ⟨by omega, by omega⟩ ⟨by omega, by omega⟩ ⟨by omega, by omega⟩ (by omega) (by omega) (by omega) (by omega) (by omega) (by omega) (by omega) (by exact q_6) (by show (1 : Int) = 1 + 0; rfl) (by exact q_7) (by omega) (Int.lt_succ_toNat _)
/-- ProxyForgeModel.intercepted -/
theorem sp207 {G : xk} {S : yS} {d : Nat} (hI : yI S) {k : Int} (h_k : 0 ≤ k ∧ k ≤ 23) {m : Int} (h_m : 0 ≤ m ∧ m ≤ 59) (p_0 : S.f 43 43 ≤ 23700) (p_1 : S.f 43 51 = 0) (p_2 : wphi S ≤ 19700) (p_3 : wpsi S ≤ 1090) (e_wLV : wLV S) (hd : 9 ≤ d) : yT xPr G LY xC207 0 [some ((2, 43)), some (vi k), some (vi m)] [] S d (fun r S' => r = (0, (0, 0)) ∧ S.f 43 43 + 1 ≤ S'.f 43 43 ∧ S'.f 43 43 ≤ S.f 43 43 + 55 ∧ S'.f 43 51 = 0 ∧ wphi S' ≤ wphi S + 70 ∧ wpsi S' ≤ wpsi S + 14 ∧ mQ S S' (fun w => wub (pkR 48 S) (S.a 56 m.toNat) (wak (pkR 48 S) k (S.a 55 m.toNat) w)) ∧ wLV S' ∧ yI S' ∧ yFr [(43, 43), (43, 49), (43, 50), (43, 51), (43, 52), (43, 53)] [72, 73, 74, 75, 76, 77] S S' ∧ yRm [] S S') := by
  refine yT_pad 4 ?_
  show yT xPr G LY xC207 0 [some ((2, 43)), some (vi k), some (vi m), none, none, none, none] [] S d _
  obtain ⟨d, rfl⟩ : ∃ q, d = q + 1 := ⟨d - 1, by omega⟩
  have hF : yFr [(43, 43), (43, 49), (43, 50), (43, 51), (43, 52), (43, 53)] [72, 73, 74, 75, 76, 77] S S := yFr.refl S
  have hR : yRm [] S S := yRm.refl S
  have h1 := hI.f tf43_43
  have h2 := hI.f tf43_51
  refine r_load (i := 0) (u := 0) (w := 2) rfl rfl rfl ?_
  refine r_call (i := 1) (u := 11) (v := 202) (w := 0) (b := 0) (na := 257) (C2 := xC202) (as := [(2, 43)]) (s := []) rfl rfl rfl rfl rfl rfl rfl (sp202  hI  (by omega) (by omega) (by omega) (by omega) e_wLV (by omega)) (fun r3 S4 hq5 => ?_)
  obtain ⟨rfl, h6, h7, h8, h9, h10, mq11, e12, hI13, hF14, hR15⟩ := hq5
  have hF16 := hF.trans hF14 rfl rfl
  have hR17 := hR.trans hR15 rfl
  refine Or.inl ⟨rfl, ?_⟩
  refine r_load (i := 2) (u := 0) (w := 2) rfl rfl rfl ?_
  refine r_const (i := 3) (u := 42) (z := 42) rfl rfl ?_
  refine r_const (i := 4) (u := 0) (z := 0) rfl rfl ?_
  refine r_const (i := 5) (u := 1) (z := 1) rfl rfl ?_
  have h18 := hI13.f tf43_43
  refine r_call (i := 6) (u := 11) (v := 250) (w := 0) (b := 0) (na := 1028) (C2 := xC250) (as := [(2, 43), vi 42, vi 0, vi 1]) (s := []) rfl rfl rfl rfl rfl rfl rfl (sp250 (b0 := 42) (off := 0) (on := 1) hI13 ⟨by omega, by omega⟩ ⟨by omega, by omega⟩ ⟨by omega, by omega⟩ (by omega)  (by omega)) (fun r19 S20 hq21 => ?_)
  obtain ⟨rfl, h22, h23, mq24, hI25, hF26, hR27⟩ := hq21
  have hF28 := hF16.trans hF26 rfl rfl
  have hR29 := hR17.trans hR27 rfl
  have e30 := wLVx.fr e12 hF26 rfl rfl
  refine Or.inl ⟨rfl, ?_⟩
  refine r_load (i := 7) (u := 0) (w := 2) rfl rfl rfl ?_
  refine r_load (i := 8) (u := 1) (w := 0) rfl rfl rfl ?_
  have h31 := hI25.f tf43_43
  refine r_call (i := 9) (u := 11) (v := 234) (w := 0) (b := 0) (na := 514) (C2 := xC234) (as := [(2, 43), vi k]) (s := []) rfl rfl rfl rfl rfl rfl rfl (sp234 (n1 := k) hI25 ⟨by omega, by omega⟩ (by omega)  (by omega)) (fun r32 S33 hq34 => ?_)
  obtain ⟨rfl, h35, h36, h37, mq38, hI39, hF40, hR41⟩ := hq34
  have hF42 := hF28.trans hF40 rfl rfl
  have hR43 := hR29.trans hR41 rfl
  have e44 := wLVx.fr e30 hF40 rfl rfl
  refine Or.inl ⟨rfl, ?_⟩
  refine r_load (i := 10) (u := 0) (w := 2) rfl rfl rfl ?_
  refine r_getf (i := 11) (v := 14) (w := 11) (x := (2, 55)) rfl ly43 rfl rfl fun _ => ?_
  refine r_load (i := 12) (u := 2) (w := 0) rfl rfl rfl ?_
  refine a_int (i := 13) rfl ly55 rfl (by omega) (by omega) fun h46 => ?_
  have h47 := hI39.a ta55 m.toNat
  have kp48 := hI39.k55 m.toNat
  have h49 : S33.a 55 m.toNat = S.a 55 m.toNat := hF42.a rfl _
  refine r_call (i := 14) (u := 65535) (v := 216) (w := 0) (b := 2) (na := 513) (C2 := xC216) (as := [vi (S33.a 55 m.toNat)]) (s := []) rfl rfl rfl rfl rfl rfl rfl (sp216 (a := S33.a 55 m.toNat) hI39 ⟨by omega, by omega⟩   (by omega)) (fun r50 S51 hq52 => ?_)
  obtain ⟨z53, rfl, h54, h55, hmn56, rfl⟩ := hq52
  refine Or.inr (Or.inl ⟨rfl, ?_⟩)
  refine r_store (i := 15) (u := 3) (w := 0) (L1 := [some ((2, 43)), some (vi k), some (vi m), some (vi z53), none, none, none]) rfl rfl rfl rfl ?_
  refine r_load (i := 16) (u := 3) (w := 0) rfl rfl rfl ?_
  refine z_ne (i := 17) (v := 24) rfl ⟨by omega, by omega⟩ (fun h57 => ?_) (fun h58 => ?_)
  · refine r_load (i := 24) (u := 0) (w := 2) rfl rfl rfl ?_
    refine r_load (i := 25) (u := 3) (w := 0) rfl rfl rfl ?_
    have h59 := hI39.f tf43_43
    refine r_call (i := 26) (u := 11) (v := 234) (w := 0) (b := 0) (na := 514) (C2 := xC234) (as := [(2, 43), vi z53]) (s := []) rfl rfl rfl rfl rfl rfl rfl (sp234 (n1 := z53) hI39 ⟨by omega, by omega⟩ (by omega)  (by omega)) (fun r60 S61 hq62 => ?_)
    obtain ⟨rfl, h63, h64, h65, mq66, hI67, hF68, hR69⟩ := hq62
    have hF70 := hF42.trans hF68 rfl rfl
    have hR71 := hR43.trans hR69 rfl
    have e72 := wLVx.fr e44 hF68 rfl rfl
    refine Or.inl ⟨rfl, ?_⟩
    refine r_load (i := 27) (u := 0) (w := 2) rfl rfl rfl ?_
    refine r_const (i := 28) (u := 189) (z := 189) rfl rfl ?_
    refine r_const (i := 29) (u := 1) (z := 1) rfl rfl ?_
    refine r_const (i := 30) (u := 1) (z := 1) rfl rfl ?_
    have h73 := hI67.f tf43_43
    refine r_call (i := 31) (u := 11) (v := 250) (w := 0) (b := 0) (na := 1028) (C2 := xC250) (as := [(2, 43), vi 189, vi 1, vi 1]) (s := []) rfl rfl rfl rfl rfl rfl rfl (sp250 (b0 := 189) (off := 1) (on := 1) hI67 ⟨by omega, by omega⟩ ⟨by omega, by omega⟩ ⟨by omega, by omega⟩ (by omega)  (by omega)) (fun r74 S75 hq76 => ?_)
    obtain ⟨rfl, h77, h78, mq79, hI80, hF81, hR82⟩ := hq76
    have hF83 := hF70.trans hF81 rfl rfl
    have hR84 := hR71.trans hR82 rfl
    have e85 := wLVx.fr e72 hF81 rfl rfl
    refine Or.inl ⟨rfl, ?_⟩
    refine r_load (i := 32) (u := 0) (w := 2) rfl rfl rfl ?_
    refine r_load (i := 33) (u := 0) (w := 2) rfl rfl rfl ?_
    refine r_str (i := 34) (v := 41) rfl ?_
    have h86 := slv41
    have h87 := hI80.f tf43_51
    have h88 : S75.f 43 51 = S61.f 43 51 := hF81.f rfl
    have h89 : S61.f 43 51 = S33.f 43 51 := hF68.f rfl
    have h90 : S33.f 43 51 = S20.f 43 51 := hF40.f rfl
    have h91 : S20.f 43 51 = S4.f 43 51 := hF26.f rfl
    have h92 : wphi S75 = wphi S61 := wphiX.fr hF81 rfl rfl
    have h93 : wphi S61 = wphi S33 := wphiX.fr hF68 rfl rfl
    have h94 : wphi S33 = wphi S20 := wphiX.fr hF40 rfl rfl
    have h95 : wphi S20 = wphi S4 := wphiX.fr hF26 rfl rfl
    have h96 : wpsi S75 = wpsi S61 := wpsiX.fr hF81 rfl rfl
    have h97 : wpsi S61 = wpsi S33 := wpsiX.fr hF68 rfl rfl
    have h98 : wpsi S33 = wpsi S20 := wpsiX.fr hF40 rfl rfl
    have h99 : wpsi S20 = wpsi S4 := wpsiX.fr hF26 rfl rfl
    refine r_call (i := 35) (u := 11) (v := 192) (w := 0) (b := 0) (na := 514) (C2 := xC192) (as := [(2, 43), (6, 41)]) (s := [(2, 43)]) rfl rfl rfl rfl rfl rfl rfl (sp192 (s := 41) hI80 ⟨by decide, by decide⟩ (by omega) (by omega) (by omega) (by omega) e85 (by omega)) (fun r100 S101 hq102 => ?_)
    obtain ⟨z103, rfl, h104, h105, h106, h107, h108, mi109, e110, hI111, hF112, hR113⟩ := hq102
    have hF114 := hF83.trans hF112 rfl rfl
    have hR115 := hR84.trans hR113 rfl
    refine Or.inr (Or.inl ⟨rfl, ?_⟩)
    have h116 := hI111.f tf43_43
    have h117 : S101.f 43 43 = S75.f 43 43 := hF112.f rfl
    refine r_call (i := 36) (u := 11) (v := 257) (w := 0) (b := 0) (na := 514) (C2 := xC257) (as := [(2, 43), vi z103]) (s := []) rfl rfl rfl rfl rfl rfl rfl (sp257 (v := z103) hI111 ⟨by omega, by omega⟩ (by omega)  (by omega)) (fun r118 S119 hq120 => ?_)
    obtain ⟨rfl, h121, h122, mq123, hI124, hF125, hR126⟩ := hq120
    have hF127 := hF114.trans hF125 rfl rfl
    have hR128 := hR115.trans hR126 rfl
    have e129 := wLVx.fr e110 hF125 rfl rfl
    refine Or.inl ⟨rfl, ?_⟩
    have h130 := hI124.f tf43_43
    have h131 := hI124.f tf43_51
    have h132 : S119.f 43 51 = S101.f 43 51 := hF125.f rfl
    have h133 : wphi S119 = wphi S101 := wphiX.fr hF125 rfl rfl
    have h134 : wpsi S119 = wpsi S101 := wpsiX.fr hF125 rfl rfl
    exact lp207_37 h_k h_m p_0 p_1 p_2 p_3 hd S119 hI124 hF127 hR128 e129 z53 ⟨by omega, by omega⟩ (by omega) (by omega) (by omega) (by omega) (by omega) (by omega) (by intro w9 hw0; have hw1 := mq11 _ hw0; have hw2 := mq24 _ hw1; have hw3 := mq38 _ hw2; have hw4 := mq66 _ hw3; have hw5 := mq79 _ hw4; obtain ⟨hw6, ew6⟩ := mi109 _ hw5; have hw7 := mq123 _ hw6; subst ew6; exact mW_c hw7 (wa0_m ((hmn_of hmn56 (by omega) (by omega)).trans (congrArg hmn (((hF40.a (b := 55) rfl m.toNat).trans ((hF26.a (b := 55) rfl m.toNat).trans (hF14.a (b := 55) rfl m.toNat)))))) (by rw [← ((hmn_of hmn56 (by omega) (by omega)).trans (congrArg hmn (((hF40.a (b := 55) rfl m.toNat).trans ((hF26.a (b := 55) rfl m.toNat).trans (hF14.a (b := 55) rfl m.toNat))))))]; omega))) (by exact (hmn_of hmn56 (by omega) (by omega)).trans (congrArg hmn ((hF40.a (b := 55) rfl m.toNat).trans ((hF26.a (b := 55) rfl m.toNat).trans (hF14.a (b := 55) rfl m.toNat))))) 
  · refine r_load (i := 18) (u := 0) (w := 2) rfl rfl rfl ?_
    refine r_const (i := 19) (u := 1) (z := 1) rfl rfl ?_
    refine r_const (i := 20) (u := 0) (z := 0) rfl rfl ?_
    refine r_const (i := 21) (u := 1) (z := 1) rfl rfl ?_
    have h135 := hI39.f tf43_43
    refine r_call (i := 22) (u := 11) (v := 250) (w := 0) (b := 0) (na := 1028) (C2 := xC250) (as := [(2, 43), vi 1, vi 0, vi 1]) (s := []) rfl rfl rfl rfl rfl rfl rfl (sp250 (b0 := 1) (off := 0) (on := 1) hI39 ⟨by omega, by omega⟩ ⟨by omega, by omega⟩ ⟨by omega, by omega⟩ (by omega)  (by omega)) (fun r136 S137 hq138 => ?_)
    obtain ⟨rfl, h139, h140, mq141, hI142, hF143, hR144⟩ := hq138
    have hF145 := hF42.trans hF143 rfl rfl
    have hR146 := hR43.trans hR144 rfl
    have e147 := wLVx.fr e44 hF143 rfl rfl
    refine Or.inl ⟨rfl, ?_⟩
    refine r_goto (i := 23) (v := 37) rfl ?_
    have h148 := hI142.f tf43_43
    have h149 := hI142.f tf43_51
    have h150 : S137.f 43 51 = S33.f 43 51 := hF143.f rfl
    have h151 : S33.f 43 51 = S20.f 43 51 := hF40.f rfl
    have h152 : S20.f 43 51 = S4.f 43 51 := hF26.f rfl
    have h153 : wphi S137 = wphi S33 := wphiX.fr hF143 rfl rfl
    have h154 : wphi S33 = wphi S20 := wphiX.fr hF40 rfl rfl
    have h155 : wphi S20 = wphi S4 := wphiX.fr hF26 rfl rfl
    have h156 : wpsi S137 = wpsi S33 := wpsiX.fr hF143 rfl rfl
    have h157 : wpsi S33 = wpsi S20 := wpsiX.fr hF40 rfl rfl
    have h158 : wpsi S20 = wpsi S4 := wpsiX.fr hF26 rfl rfl
    exact lp207_37 h_k h_m p_0 p_1 p_2 p_3 hd S137 hI142 hF145 hR146 e147 z53 ⟨by omega, by omega⟩ (by omega) (by omega) (by omega) (by omega) (by omega) (by omega) (by intro w9 hw0; have hw1 := mq11 _ hw0; have hw2 := mq24 _ hw1; have hw3 := mq38 _ hw2; have hw4 := mq141 _ hw3; exact mW_c hw4 (wa0_0 (by rw [← ((hmn_of hmn56 (by omega) (by omega)).trans (congrArg hmn (((hF40.a (b := 55) rfl m.toNat).trans ((hF26.a (b := 55) rfl m.toNat).trans (hF14.a (b := 55) rfl m.toNat))))))]; omega))) (by exact (hmn_of hmn56 (by omega) (by omega)).trans (congrArg hmn ((hF40.a (b := 55) rfl m.toNat).trans ((hF26.a (b := 55) rfl m.toNat).trans (hF14.a (b := 55) rfl m.toNat))))) 
theorem lp189_122 {G : xk} {d : Nat} {S0 : yS} {k : Int} (h_k : 0 ≤ k ∧ k ≤ 23) {m : Int} (h_m : 0 ≤ m ∧ m ≤ 59) (p_0 : S0.f 43 43 ≤ 23700) (p_1 : S0.f 43 51 = 0) (p_2 : wphi S0 ≤ 19700) (p_3 : wpsi S0 ≤ 1090) (hd : 9 ≤ d + 1) : ∀ (S : yS) (hI : yI S) (hF : yFr [(43, 43), (43, 49), (43, 50), (43, 51), (43, 52), (43, 53)] [68, 72, 73, 74, 75, 76, 77] S0 S) (hR : yRm [] S0 S) (e_wLV : wLV S) (e_wAS : wAS S)  (q_0 : S0.f 43 43 + 0 ≤ S.f 43 43) (q_1 : S.f 43 43 ≤ S0.f 43 43 + 13) (q_2 : S.f 43 51 = 0) (q_3 : wphi S ≤ wphi S0 + 155) (q_4 : wpsi S ≤ wpsi S0 + 3) (q_5 : S0.f 43 43 ≤ 23700 ∧ wphi S0 ≤ 19700 ∧ wpsi S0 ≤ 1090) (q_6 : hM S0 → mQ S0 S (caM S0 k m)), yT xPr G LY xC189 122 [some ((2, 43)), some (vi k), some (vi m), none, none, none] [] S (d + 1) (fun r S' => r = (0, (0, 0)) ∧ S0.f 43 43 + 1 ≤ S'.f 43 43 ∧ S'.f 43 43 ≤ S0.f 43 43 + 14 ∧ S'.f 43 51 = 0 ∧ wphi S' ≤ wphi S0 + 155 ∧ wpsi S' ≤ wpsi S0 + 3 ∧ (hM S0 → mQ S0 S' (fun w => wlv (S0.a 56 m.toNat) (caM S0 k m w))) ∧ wLV S' ∧ wAS S' ∧ yI S' ∧ yFr [(43, 43), (43, 49), (43, 50), (43, 51), (43, 52), (43, 53)] [68, 72, 73, 74, 75, 76, 77] S0 S' ∧ yRm [] S0 S') := by
  intro S hI hF hR e_wLV e_wAS   q_0 q_1 q_2 q_3 q_4 q_5 q_6
  have h1 := hI.f tf43_43
  have h2 := hI.f tf43_51
  refine r_load (i := 122) (u := 0) (w := 2) rfl rfl rfl ?_
  refine r_load (i := 123) (u := 0) (w := 2) rfl rfl rfl ?_
  refine r_getf (i := 124) (v := 15) (w := 11) (x := (2, 56)) rfl ly43 rfl rfl fun _ => ?_
  refine r_load (i := 125) (u := 2) (w := 0) rfl rfl rfl ?_
  refine a_int (i := 126) rfl ly56 rfl (by omega) (by omega) fun h4 => ?_
  have h5 := hI.a ta56 m.toNat
  have h6 : S.a 56 m.toNat = S0.a 56 m.toNat := hF.a rfl _
  refine r_call (i := 127) (u := 11) (v := 240) (w := 0) (b := 0) (na := 514) (C2 := xC240) (as := [(2, 43), vi (S.a 56 m.toNat)]) (s := []) rfl rfl rfl rfl rfl rfl rfl (sp240 (k := S.a 56 m.toNat) hI ⟨by omega, by omega⟩ (by omega)  (by omega)) (fun r7 S8 hq9 => ?_)
  obtain ⟨rfl, h10, h11, mq12, hI13, hF14, hR15⟩ := hq9
  have hF16 := hF.trans hF14 rfl rfl
  have hR17 := hR.trans hR15 rfl
  have e18 := wLVx.fr e_wLV hF14 rfl rfl
  have e19 := wASx.fr e_wAS hF14 rfl rfl
  refine Or.inl ⟨rfl, ?_⟩
  have h20 := hI13.f tf43_43
  have h21 := hI13.f tf43_51
  have h22 : S8.f 43 51 = S.f 43 51 := hF14.f rfl
  have h23 : wphi S8 = wphi S := wphiX.fr hF14 rfl rfl
  have h24 : wpsi S8 = wpsi S := wpsiX.fr hF14 rfl rfl
  have h25 := hI13.a ta56 m.toNat
  have h26 : S8.a 56 m.toNat = S0.a 56 m.toNat := hF16.a rfl _
  exact r_ret0 (i := 128) rfl ⟨rfl, (by omega), (by omega), (by omega), (by omega), (by omega), (by intro hm9 w9 hw0; have h9 := mq12 _ (q_6 hm9 _ hw0); rw [show S.a 56 m.toNat = S0.a 56 m.toNat from hF.a rfl _] at h9; exact h9), e18, e19, hI13, hF16, hR17⟩
theorem lp189_116 {G : xk} {d : Nat} {S0 : yS} {k : Int} (h_k : 0 ≤ k ∧ k ≤ 23) {m : Int} (h_m : 0 ≤ m ∧ m ≤ 59) (p_0 : S0.f 43 43 ≤ 23700) (p_1 : S0.f 43 51 = 0) (p_2 : wphi S0 ≤ 19700) (p_3 : wpsi S0 ≤ 1090) (hd : 9 ≤ d + 1) : ∀ (S : yS) (hI : yI S) (hF : yFr [(43, 43), (43, 49), (43, 50), (43, 51), (43, 52), (43, 53)] [68, 72, 73, 74, 75, 76, 77] S0 S) (hR : yRm [] S0 S) (e_wLV : wLV S) (e_wAS : wAS S) (of1 c0 : Int) (h_of1 : 0 ≤ of1 ∧ of1 ≤ 19) (h_c0 : 10 ≤ c0 ∧ c0 ≤ 11) (q_0 : S0.f 43 43 + 0 ≤ S.f 43 43) (q_1 : S.f 43 43 ≤ S0.f 43 43 + 9) (q_2 : S.f 43 51 = 0) (q_3 : wphi S ≤ wphi S0 + 0) (q_4 : wpsi S ≤ wpsi S0 + 0) (q_5 : S0.f 43 43 ≤ 23700 ∧ wphi S0 ≤ 19700 ∧ wpsi S0 ≤ 1090) (q_6 : hM S0 → mQ S0 S (fun w => wop 183 (chg (S0.a 55 m.toNat) (S0.a 56 m.toNat)) (wld (S0.a 55 m.toNat) 1 (hmn (S0.a 55 m.toNat)).toNat w))) (q_7 : S0.a 61 k.toNat ≠ 3) (q_8 : hM S0 → of1 = smT S0 k (S0.a 52 m.toNat)) (q_9 : c0 = smG S0 k), yT xPr G LY xC189 116 [some ((2, 43)), some (vi k), some (vi m), none, some (vi of1), none] [vi c0, (2, 43), (2, 43)] S (d + 1) (fun r S' => r = (0, (0, 0)) ∧ S0.f 43 43 + 1 ≤ S'.f 43 43 ∧ S'.f 43 43 ≤ S0.f 43 43 + 14 ∧ S'.f 43 51 = 0 ∧ wphi S' ≤ wphi S0 + 155 ∧ wpsi S' ≤ wpsi S0 + 3 ∧ (hM S0 → mQ S0 S' (fun w => wlv (S0.a 56 m.toNat) (caM S0 k m w))) ∧ wLV S' ∧ wAS S' ∧ yI S' ∧ yFr [(43, 43), (43, 49), (43, 50), (43, 51), (43, 52), (43, 53)] [68, 72, 73, 74, 75, 76, 77] S0 S' ∧ yRm [] S0 S') := by
  intro S hI hF hR e_wLV e_wAS of1 c0 h_of1 h_c0 q_0 q_1 q_2 q_3 q_4 q_5 q_6 q_7 q_8 q_9
  have h1 := hI.f tf43_43
  have h2 := hI.f tf43_51
  refine r_load (i := 116) (u := 0) (w := 2) rfl rfl rfl ?_
  refine r_load (i := 117) (u := 4) (w := 0) rfl rfl rfl ?_
  refine r_call (i := 118) (u := 11) (v := 193) (w := 0) (b := 0) (na := 514) (C2 := xC193) (as := [(2, 43), vi of1]) (s := [vi c0, (2, 43), (2, 43)]) rfl rfl rfl rfl rfl rfl rfl (sp193 (t := of1) hI ⟨by omega, by omega⟩ (by omega) (by omega) (by omega) e_wLV (by omega)) (fun r3 S4 hq5 => ?_)
  obtain ⟨z6, rfl, h7, h8, h9, h10, h11, mi12, e13, hI14, hF15, hR16⟩ := hq5
  have hF17 := hF.trans hF15 rfl rfl
  have hR18 := hR.trans hR16 rfl
  have e19 := wASx.fr e_wAS hF15 rfl rfl
  refine Or.inr (Or.inl ⟨rfl, ?_⟩)
  refine r_load (i := 119) (u := 2) (w := 0) rfl rfl rfl ?_
  have h20 := hI14.f tf43_51
  have h21 := hI14.a ta56 m.toNat
  have h22 : S4.a 56 m.toNat = S0.a 56 m.toNat := hF17.a rfl _
  have h23 := hI14.a ta53 m.toNat
  have h24 : S4.a 53 m.toNat = S0.a 53 m.toNat := hF17.a rfl _
  have h25 := hI14.a ta55 m.toNat
  have h26 : S4.a 55 m.toNat = S0.a 55 m.toNat := hF17.a rfl _
  have h27 := hI14.a ta56 m.toNat
  have h28 := hI14.a ta53 m.toNat
  have h29 := hI14.a ta55 m.toNat
  have h30 := hI14.a ta56 m.toNat
  refine r_call (i := 120) (u := 11) (v := 219) (w := 0) (b := 0) (na := 1540) (C2 := xC219) (as := [(2, 43), vi c0, vi z6, vi m]) (s := [(2, 43)]) rfl rfl rfl rfl rfl rfl rfl (sp219 (w0 := c0) (ow := z6) (m := m) hI14 ⟨by omega, by omega⟩ ⟨by omega, by omega⟩ ⟨by omega, by omega⟩ (by omega) (by omega) (by omega) e13 (by omega)) (fun r31 S32 hq33 => ?_)
  obtain ⟨z34, rfl, h35, h36, h37, h38, h39, h40, mm41, e42, hI43, hF44, hR45⟩ := hq33
  have hF46 := hF17.trans hF44 rfl rfl
  have hR47 := hR18.trans hR45 rfl
  have e48 := wASx.fr e19 hF44 rfl rfl
  refine Or.inr (Or.inl ⟨rfl, ?_⟩)
  have h49 := hI43.f tf43_43
  have h50 : S32.f 43 43 = S4.f 43 43 := hF44.f rfl
  have h51 : S4.f 43 43 = S.f 43 43 := hF15.f rfl
  refine r_call (i := 121) (u := 11) (v := 257) (w := 0) (b := 0) (na := 514) (C2 := xC257) (as := [(2, 43), vi z34]) (s := []) rfl rfl rfl rfl rfl rfl rfl (sp257 (v := z34) hI43 ⟨by omega, by omega⟩ (by omega)  (by omega)) (fun r52 S53 hq54 => ?_)
  obtain ⟨rfl, h55, h56, mq57, hI58, hF59, hR60⟩ := hq54
  have hF61 := hF46.trans hF59 rfl rfl
  have hR62 := hR47.trans hR60 rfl
  have e63 := wASx.fr e48 hF59 rfl rfl
  have e64 := wLVx.fr e42 hF59 rfl rfl
  refine Or.inl ⟨rfl, ?_⟩
  refine yT_drop (L1 := [some ((2, 43)), some (vi k), some (vi m), none, none, none]) rfl ?_
  have h65 := hI58.f tf43_43
  have h66 := hI58.f tf43_51
  have h67 : S53.f 43 51 = S32.f 43 51 := hF59.f rfl
  have h68 : wphi S53 = wphi S32 := wphiX.fr hF59 rfl rfl
  have h69 : wpsi S53 = wpsi S32 := wpsiX.fr hF59 rfl rfl
  exact lp189_122 h_k h_m p_0 p_1 p_2 p_3 hd S53 hI58 hF61 hR62 e64 e63   (by omega) (by omega) (by omega) (by omega) (by omega) (by omega) (by intro hm9; have y9 := ca_2 (g := c0) (q_6 hm9) mi12 (pkR_fr (b := 48) hF rfl) (mm41 (by omega) (by omega)) ((hF15.a (b := 53) rfl _).trans (hF.a (b := 53) rfl _)) ((pkR_fr (b := 48) hF15 rfl).trans (pkR_fr (b := 48) hF rfl)) ((hF15.a (b := 55) rfl _).trans (hF.a (b := 55) rfl _)) ((hF15.a (b := 56) rfl _).trans (hF.a (b := 56) rfl _)) mq57; exact ca_s q_7 (q_8 hm9) q_9 y9) 
theorem lp189_79 {G : xk} {d : Nat} {S0 : yS} {k : Int} (h_k : 0 ≤ k ∧ k ≤ 23) {m : Int} (h_m : 0 ≤ m ∧ m ≤ 59) (p_0 : S0.f 43 43 ≤ 23700) (p_1 : S0.f 43 51 = 0) (p_2 : wphi S0 ≤ 19700) (p_3 : wpsi S0 ≤ 1090) (hd : 9 ≤ d + 1) : ∀ (n : Nat), ∀ (S : yS) (hI : yI S) (hF : yFr [(43, 43), (43, 49), (43, 50), (43, 51), (43, 52), (43, 53)] [68, 72, 73, 74, 75, 76, 77] S0 S) (hR : yRm [] S0 S) (e_wLV : wLV S) (e_wAS : wAS S) (of1 j : Int) (h_of1 : 0 ≤ of1 ∧ of1 ≤ 19) (h_j : -1 ≤ j ∧ j ≤ 2) (q_0 : S0.f 43 43 + 0 ≤ S.f 43 43) (q_1 : S.f 43 43 ≤ S0.f 43 43 + 9) (q_2 : S.f 43 51 = 0) (q_3 : wphi S ≤ wphi S0 + 0) (q_4 : wpsi S ≤ wpsi S0 + 0) (q_5 : S0.f 43 43 ≤ 23700 ∧ wphi S0 ≤ 19700 ∧ wpsi S0 ≤ 1090) (q_6 : j < S.f 43 22) (q_7 : hM S0 → mQ S0 S (fun w => wop 183 (chg (S0.a 55 m.toNat) (S0.a 56 m.toNat)) (wld (S0.a 55 m.toNat) 1 (hmn (S0.a 55 m.toNat)).toNat w))) (q_8 : hM S0 → of1 = smV S0 (S0.a 52 m.toNat) (j + 1)) (q_9 : S0.a 65 k.toNat = 0 → of1 = S0.f 43 21) (q_10 : S0.a 61 k.toNat ≠ 3) (hn : j + 1 < (n : Nat)), yT xPr G LY xC189 79 [some ((2, 43)), some (vi k), some (vi m), none, some (vi of1), some (vi j)] [] S (d + 1) (fun r S' => r = (0, (0, 0)) ∧ S0.f 43 43 + 1 ≤ S'.f 43 43 ∧ S'.f 43 43 ≤ S0.f 43 43 + 14 ∧ S'.f 43 51 = 0 ∧ wphi S' ≤ wphi S0 + 155 ∧ wpsi S' ≤ wpsi S0 + 3 ∧ (hM S0 → mQ S0 S' (fun w => wlv (S0.a 56 m.toNat) (caM S0 k m w))) ∧ wLV S' ∧ wAS S' ∧ yI S' ∧ yFr [(43, 43), (43, 49), (43, 50), (43, 51), (43, 52), (43, 53)] [68, 72, 73, 74, 75, 76, 77] S0 S' ∧ yRm [] S0 S') := by
  intro n
  induction n with
  | zero => intro S hI hF hR e_wLV e_wAS of1 j h_of1 h_j q_0 q_1 q_2 q_3 q_4 q_5 q_6 q_7 q_8 q_9 q_10 hn; exact absurd hn (by omega)
  | succ n ih =>
    intro S hI hF hR e_wLV e_wAS of1 j h_of1 h_j q_0 q_1 q_2 q_3 q_4 q_5 q_6 q_7 q_8 q_9 q_10 hn
    have h1 := hI.f tf43_43
    have h2 := hI.f tf43_51
    have h3 := hI.f tf43_22
    have h4 : S.f 43 22 = S0.f 43 22 := hF.f rfl
    refine r_load (i := 79) (u := 5) (w := 0) rfl rfl rfl ?_
    refine z_lt (i := 80) (v := 106) rfl ⟨by omega, by omega⟩ (fun h5 => ?_) (fun h6 => ?_)
    · refine r_load (i := 106) (u := 0) (w := 2) rfl rfl rfl ?_
      refine r_load (i := 107) (u := 0) (w := 2) rfl rfl rfl ?_
      refine r_load (i := 108) (u := 0) (w := 2) rfl rfl rfl ?_
      refine r_getf (i := 109) (v := 28) (w := 11) (x := (2, 65)) rfl ly43 rfl rfl fun _ => ?_
      refine r_load (i := 110) (u := 1) (w := 0) rfl rfl rfl ?_
      refine a_bool (i := 111) rfl ly65 rfl (by omega) (by omega) fun h8 => ?_
      have h9 : S.a 65 k.toNat = S0.a 65 k.toNat := hF.a rfl _
      refine z_eq (i := 112) (v := 115) rfl ⟨by omega, by omega⟩ (fun h10 => ?_) (fun h11 => ?_)
      · refine r_const (i := 115) (u := 10) (z := 10) rfl rfl ?_
        refine yT_drop (L1 := [some ((2, 43)), some (vi k), some (vi m), none, some (vi of1), none]) rfl ?_
        exact lp189_116 h_k h_m p_0 p_1 p_2 p_3 hd S hI hF hR e_wLV e_wAS of1 10 ⟨by omega, by omega⟩ ⟨by omega, by omega⟩ (by omega) (by omega) (by omega) (by omega) (by omega) (by omega) (by exact q_7) (by omega) (by intro hm9; first | exact smT_n (by omega) (q_9 (by omega)) | exact smT_y (by omega) (q_8 hm9) (by omega)) (by first | exact (if_pos (by omega)).symm | exact (if_neg (by omega)).symm) 
      · refine r_const (i := 113) (u := 11) (z := 11) rfl rfl ?_
        refine r_goto (i := 114) (v := 116) rfl ?_
        refine yT_drop (L1 := [some ((2, 43)), some (vi k), some (vi m), none, some (vi of1), none]) rfl ?_
        exact lp189_116 h_k h_m p_0 p_1 p_2 p_3 hd S hI hF hR e_wLV e_wAS of1 11 ⟨by omega, by omega⟩ ⟨by omega, by omega⟩ (by omega) (by omega) (by omega) (by omega) (by omega) (by omega) (by exact q_7) (by omega) (by intro hm9; first | exact smT_n (by omega) (q_9 (by omega)) | exact smT_y (by omega) (q_8 hm9) (by omega)) (by first | exact (if_pos (by omega)).symm | exact (if_neg (by omega)).symm) 
    · refine r_load (i := 81) (u := 0) (w := 2) rfl rfl rfl ?_
      refine r_getf (i := 82) (v := 28) (w := 11) (x := (2, 65)) rfl ly43 rfl rfl fun _ => ?_
      refine r_load (i := 83) (u := 1) (w := 0) rfl rfl rfl ?_
      refine a_bool (i := 84) rfl ly65 rfl (by omega) (by omega) fun h13 => ?_
      have h14 : S.a 65 k.toNat = S0.a 65 k.toNat := hF.a rfl _
      refine z_eq (i := 85) (v := 106) rfl ⟨by omega, by omega⟩ (fun h15 => ?_) (fun h16 => ?_)
      · refine r_load (i := 106) (u := 0) (w := 2) rfl rfl rfl ?_
        refine r_load (i := 107) (u := 0) (w := 2) rfl rfl rfl ?_
        refine r_load (i := 108) (u := 0) (w := 2) rfl rfl rfl ?_
        refine r_getf (i := 109) (v := 28) (w := 11) (x := (2, 65)) rfl ly43 rfl rfl fun _ => ?_
        refine r_load (i := 110) (u := 1) (w := 0) rfl rfl rfl ?_
        refine a_bool (i := 111) rfl ly65 rfl (by omega) (by omega) fun h18 => ?_
        refine z_eq (i := 112) (v := 115) rfl ⟨by omega, by omega⟩ (fun h19 => ?_) (fun h20 => absurd h20 (by omega))
        refine r_const (i := 115) (u := 10) (z := 10) rfl rfl ?_
        refine yT_drop (L1 := [some ((2, 43)), some (vi k), some (vi m), none, some (vi of1), none]) rfl ?_
        exact lp189_116 h_k h_m p_0 p_1 p_2 p_3 hd S hI hF hR e_wLV e_wAS of1 10 ⟨by omega, by omega⟩ ⟨by omega, by omega⟩ (by omega) (by omega) (by omega) (by omega) (by omega) (by omega) (by exact q_7) (by omega) (by intro hm9; first | exact smT_n (by omega) (q_9 (by omega)) | exact smT_y (by omega) (q_8 hm9) (by omega)) (by first | exact (if_pos (by omega)).symm | exact (if_neg (by omega)).symm) 
      · have as9 := e_wAS j.toNat (by omega)
        refine r_load (i := 86) (u := 0) (w := 2) rfl rfl rfl ?_
        refine r_load (i := 87) (u := 0) (w := 2) rfl rfl rfl ?_
        refine r_getf (i := 88) (v := 27) (w := 11) (x := (2, 64)) rfl ly43 rfl rfl fun _ => ?_
        refine r_load (i := 89) (u := 5) (w := 0) rfl rfl rfl ?_
        refine a_int (i := 90) rfl ly64 rfl (by omega) (by omega) fun h22 => ?_
        have h23 := hI.a ta64 j.toNat
        have h24 : S.a 64 j.toNat = S0.a 64 j.toNat := hF.a rfl _
        refine r_load (i := 91) (u := 0) (w := 2) rfl rfl rfl ?_
        refine r_getf (i := 92) (v := 11) (w := 11) (x := (2, 52)) rfl ly43 rfl rfl fun _ => ?_
        refine r_load (i := 93) (u := 2) (w := 0) rfl rfl rfl ?_
        refine a_int (i := 94) rfl ly52 rfl (by omega) (by omega) fun h26 => ?_
        have h27 := hI.a ta52 m.toNat
        have h28 : S.a 52 m.toNat = S0.a 52 m.toNat := hF.a rfl _
        have h29 := hI.f tf43_1
        have h30 : S.f 43 1 = S0.f 43 1 := hF.f rfl
        refine r_call (i := 95) (u := 11) (v := 261) (w := 0) (b := 0) (na := 1795) (C2 := xC261) (as := [(2, 43), vi (S.a 64 j.toNat), vi (S.a 52 m.toNat)]) (s := []) rfl rfl rfl rfl rfl rfl rfl (sp261 (t := S.a 64 j.toNat) (o := S.a 52 m.toNat) hI ⟨by omega, by omega⟩ ⟨by omega, by omega⟩   (by omega)) (fun r31 S32 hq33 => ?_)
        obtain ⟨z34, rfl, h35, h36, um37, hI38, hF39, hR40⟩ := hq33
        have hF41 := hF.trans hF39 rfl rfl
        have hR42 := hR.trans hR40 rfl
        have e43 := wLVx.fr e_wLV hF39 rfl rfl
        have e44 := wASx.fr e_wAS hF39 rfl rfl
        refine Or.inr (Or.inl ⟨rfl, ?_⟩)
        refine z_eq (i := 96) (v := 102) rfl ⟨by omega, by omega⟩ (fun h45 => ?_) (fun h46 => ?_)
        · refine r_load (i := 102) (u := 4) (w := 0) rfl rfl rfl ?_
          refine r_store (i := 103) (u := 4) (w := 0) (L1 := [some ((2, 43)), some (vi k), some (vi m), none, some (vi of1), some (vi j)]) rfl rfl rfl rfl ?_
          refine r_iinc (i := 104) (u := 4294967295) (v := 5) (s := -1) (L1 := [some ((2, 43)), some (vi k), some (vi m), none, some (vi of1), some (vi (j + (-1)))]) rfl rfl rfl rfl rfl ?_
          refine r_goto (i := 105) (v := 79) rfl ?_
          have h47 := hI38.f tf43_43
          have h48 : S32.f 43 43 = S.f 43 43 := hF39.f rfl
          have h49 := hI38.f tf43_51
          have h50 : S32.f 43 51 = S.f 43 51 := hF39.f rfl
          have h51 : wphi S32 = wphi S := wphiX.fr hF39 rfl rfl
          have h52 : wpsi S32 = wpsi S := wpsiX.fr hF39 rfl rfl
          have h53 := hI38.f tf43_22
          have h54 : S32.f 43 22 = S0.f 43 22 := hF41.f rfl
          exact ih S32 hI38 hF41 hR42 e43 e44 of1 (j + (-1)) ⟨by omega, by omega⟩ ⟨by omega, by omega⟩ (by omega) (by omega) (by omega) (by omega) (by omega) (by omega) (by omega) (by intro hm9; exact mQ_fr1 (q_7 hm9) (sPo_fr hF39 rfl rfl) (sBo_fr hF39 rfl rfl)) (by intro hm9; have u9 := (um_of (sMr_fr hF rfl rfl) hm9.2.1 um37 (by omega) (by have w8 := hm9.2.2.2 j.toNat (by omega); omega) (by have w8 := hm9.2.2.1 m.toNat; omega)); rw [(show S.a 64 j.toNat = S0.a 64 j.toNat from hF.a rfl _), (show S.a 52 m.toNat = S0.a 52 m.toNat from hF.a rfl _)] at u9; first | (have w9 := smV_y (by omega) (by omega) (by omega) (u9.mp (by omega)); rw [show j + -1 + 1 = j by omega]; omega) | exact (by rw [show j + -1 + 1 = j by omega]; exact smV_n (q_8 hm9) (by omega) (by omega) (fun w9 => absurd (u9.mpr w9) (by omega)))) (by intro h9; exfalso; omega) (by omega) (by omega)
        · have gf9 := hF41.f (b := 43) (w := 22) rfl
          have as8 := e44 j.toNat (by omega)
          refine r_load (i := 97) (u := 0) (w := 2) rfl rfl rfl ?_
          refine r_getf (i := 98) (v := 27) (w := 11) (x := (2, 64)) rfl ly43 rfl rfl fun _ => ?_
          refine r_load (i := 99) (u := 5) (w := 0) rfl rfl rfl ?_
          refine a_int (i := 100) rfl ly64 rfl (by omega) (by omega) fun h56 => ?_
          have h57 := hI38.a ta64 j.toNat
          have h58 : S32.a 64 j.toNat = S0.a 64 j.toNat := hF41.a rfl _
          refine r_goto (i := 101) (v := 103) rfl ?_
          refine r_store (i := 103) (u := 4) (w := 0) (L1 := [some ((2, 43)), some (vi k), some (vi m), none, some (vi (S32.a 64 j.toNat)), some (vi j)]) rfl rfl rfl rfl ?_
          refine r_iinc (i := 104) (u := 4294967295) (v := 5) (s := -1) (L1 := [some ((2, 43)), some (vi k), some (vi m), none, some (vi (S32.a 64 j.toNat)), some (vi (j + (-1)))]) rfl rfl rfl rfl rfl ?_
          refine r_goto (i := 105) (v := 79) rfl ?_
          have h59 := hI38.f tf43_43
          have h60 : S32.f 43 43 = S.f 43 43 := hF39.f rfl
          have h61 := hI38.f tf43_51
          have h62 : S32.f 43 51 = S.f 43 51 := hF39.f rfl
          have h63 : wphi S32 = wphi S := wphiX.fr hF39 rfl rfl
          have h64 : wpsi S32 = wpsi S := wpsiX.fr hF39 rfl rfl
          have h65 := hI38.f tf43_22
          have h66 : S32.f 43 22 = S0.f 43 22 := hF41.f rfl
          exact ih S32 hI38 hF41 hR42 e43 e44 (S32.a 64 j.toNat) (j + (-1)) ⟨by omega, by omega⟩ ⟨by omega, by omega⟩ (by omega) (by omega) (by omega) (by omega) (by omega) (by omega) (by omega) (by intro hm9; exact mQ_fr1 (q_7 hm9) (sPo_fr hF39 rfl rfl) (sBo_fr hF39 rfl rfl)) (by intro hm9; have u9 := (um_of (sMr_fr hF rfl rfl) hm9.2.1 um37 (by omega) (by have w8 := hm9.2.2.2 j.toNat (by omega); omega) (by have w8 := hm9.2.2.1 m.toNat; omega)); rw [(show S.a 64 j.toNat = S0.a 64 j.toNat from hF.a rfl _), (show S.a 52 m.toNat = S0.a 52 m.toNat from hF.a rfl _)] at u9; first | (have w9 := smV_y (by omega) (by omega) (by omega) (u9.mp (by omega)); rw [show j + -1 + 1 = j by omega]; omega) | exact (by rw [show j + -1 + 1 = j by omega]; exact smV_n (q_8 hm9) (by omega) (by omega) (fun w9 => absurd (u9.mpr w9) (by omega)))) (by intro h9; exfalso; omega) (by omega) (by omega)
theorem lp189_44 {G : xk} {d : Nat} {S0 : yS} {k : Int} (h_k : 0 ≤ k ∧ k ≤ 23) {m : Int} (h_m : 0 ≤ m ∧ m ≤ 59) (p_0 : S0.f 43 43 ≤ 23700) (p_1 : S0.f 43 51 = 0) (p_2 : wphi S0 ≤ 19700) (p_3 : wpsi S0 ≤ 1090) (hd : 9 ≤ d + 1) : ∀ (S : yS) (hI : yI S) (hF : yFr [(43, 43), (43, 49), (43, 50), (43, 51), (43, 52), (43, 53)] [68, 72, 73, 74, 75, 76, 77] S0 S) (hR : yRm [] S0 S) (e_wLV : wLV S) (e_wAS : wAS S) (of0 fc c0 : Int) (h_of0 : 1 ≤ of0 ∧ of0 ≤ 9) (h_fc : 0 ≤ fc ∧ fc ≤ 1) (h_c0 : 10 ≤ c0 ∧ c0 ≤ 11) (q_0 : S0.f 43 43 + 0 ≤ S.f 43 43) (q_1 : S.f 43 43 ≤ S0.f 43 43 + 9) (q_2 : S.f 43 51 = 0) (q_3 : wphi S ≤ wphi S0 + 0) (q_4 : wpsi S ≤ wpsi S0 + 0) (q_5 : S0.f 43 43 ≤ 23700 ∧ wphi S0 ≤ 19700 ∧ wpsi S0 ≤ 1090) (q_6 : hM S0 → mQ S0 S (fun w => wop (if S0.a 44 (S0.a 52 m.toNat).toNat ≠ 0 then (185 : Int) else 182) (chg (S0.a 55 m.toNat) (S0.a 56 m.toNat)) (wld (S0.a 55 m.toNat) 1 (hmn (S0.a 55 m.toNat)).toNat w))) (q_7 : hM S0 → of0 = 1 + wdA (S0.a 55 m.toNat) 4) (q_8 : fc = S0.a 44 (S0.a 52 m.toNat).toNat) (q_9 : S0.a 61 k.toNat = 3) (q_10 : c0 = if fc ≠ 0 then 11 else 10), yT xPr G LY xC189 44 [some ((2, 43)), some (vi k), some (vi m), some (vi of0), some (vi fc), none] [vi c0, (2, 43), (2, 43)] S (d + 1) (fun r S' => r = (0, (0, 0)) ∧ S0.f 43 43 + 1 ≤ S'.f 43 43 ∧ S'.f 43 43 ≤ S0.f 43 43 + 14 ∧ S'.f 43 51 = 0 ∧ wphi S' ≤ wphi S0 + 155 ∧ wpsi S' ≤ wpsi S0 + 3 ∧ (hM S0 → mQ S0 S' (fun w => wlv (S0.a 56 m.toNat) (caM S0 k m w))) ∧ wLV S' ∧ wAS S' ∧ yI S' ∧ yFr [(43, 43), (43, 49), (43, 50), (43, 51), (43, 52), (43, 53)] [68, 72, 73, 74, 75, 76, 77] S0 S' ∧ yRm [] S0 S') := by
  intro S hI hF hR e_wLV e_wAS of0 fc c0 h_of0 h_fc h_c0 q_0 q_1 q_2 q_3 q_4 q_5 q_6 q_7 q_8 q_9 q_10
  have h1 := hI.f tf43_43
  have h2 := hI.f tf43_51
  refine r_load (i := 44) (u := 0) (w := 2) rfl rfl rfl ?_
  refine r_load (i := 45) (u := 0) (w := 2) rfl rfl rfl ?_
  refine r_getf (i := 46) (v := 11) (w := 11) (x := (2, 52)) rfl ly43 rfl rfl fun _ => ?_
  refine r_load (i := 47) (u := 2) (w := 0) rfl rfl rfl ?_
  refine a_int (i := 48) rfl ly52 rfl (by omega) (by omega) fun h4 => ?_
  have h5 := hI.a ta52 m.toNat
  have h6 : S.a 52 m.toNat = S0.a 52 m.toNat := hF.a rfl _
  refine r_call (i := 49) (u := 11) (v := 193) (w := 0) (b := 0) (na := 514) (C2 := xC193) (as := [(2, 43), vi (S.a 52 m.toNat)]) (s := [vi c0, (2, 43), (2, 43)]) rfl rfl rfl rfl rfl rfl rfl (sp193 (t := S.a 52 m.toNat) hI ⟨by omega, by omega⟩ (by omega) (by omega) (by omega) e_wLV (by omega)) (fun r7 S8 hq9 => ?_)
  obtain ⟨z10, rfl, h11, h12, h13, h14, h15, mi16, e17, hI18, hF19, hR20⟩ := hq9
  have hF21 := hF.trans hF19 rfl rfl
  have hR22 := hR.trans hR20 rfl
  have e23 := wASx.fr e_wAS hF19 rfl rfl
  refine Or.inr (Or.inl ⟨rfl, ?_⟩)
  refine r_load (i := 50) (u := 2) (w := 0) rfl rfl rfl ?_
  have h24 := hI18.f tf43_51
  have h25 := hI18.a ta56 m.toNat
  have h26 : S8.a 56 m.toNat = S0.a 56 m.toNat := hF21.a rfl _
  have h27 := hI18.a ta53 m.toNat
  have h28 : S8.a 53 m.toNat = S0.a 53 m.toNat := hF21.a rfl _
  have h29 := hI18.a ta55 m.toNat
  have h30 : S8.a 55 m.toNat = S0.a 55 m.toNat := hF21.a rfl _
  have h31 := hI18.a ta56 m.toNat
  have h32 := hI18.a ta53 m.toNat
  have h33 := hI18.a ta55 m.toNat
  have h34 := hI18.a ta56 m.toNat
  refine r_call (i := 51) (u := 11) (v := 219) (w := 0) (b := 0) (na := 1540) (C2 := xC219) (as := [(2, 43), vi c0, vi z10, vi m]) (s := [(2, 43)]) rfl rfl rfl rfl rfl rfl rfl (sp219 (w0 := c0) (ow := z10) (m := m) hI18 ⟨by omega, by omega⟩ ⟨by omega, by omega⟩ ⟨by omega, by omega⟩ (by omega) (by omega) (by omega) e17 (by omega)) (fun r35 S36 hq37 => ?_)
  obtain ⟨z38, rfl, h39, h40, h41, h42, h43, h44, mm45, e46, hI47, hF48, hR49⟩ := hq37
  have hF50 := hF21.trans hF48 rfl rfl
  have hR51 := hR22.trans hR49 rfl
  have e52 := wASx.fr e23 hF48 rfl rfl
  refine Or.inr (Or.inl ⟨rfl, ?_⟩)
  have h53 := hI47.f tf43_43
  have h54 : S36.f 43 43 = S8.f 43 43 := hF48.f rfl
  have h55 : S8.f 43 43 = S.f 43 43 := hF19.f rfl
  refine r_call (i := 52) (u := 11) (v := 257) (w := 0) (b := 0) (na := 514) (C2 := xC257) (as := [(2, 43), vi z38]) (s := []) rfl rfl rfl rfl rfl rfl rfl (sp257 (v := z38) hI47 ⟨by omega, by omega⟩ (by omega)  (by omega)) (fun r56 S57 hq58 => ?_)
  obtain ⟨rfl, h59, h60, mq61, hI62, hF63, hR64⟩ := hq58
  have hF65 := hF50.trans hF63 rfl rfl
  have hR66 := hR51.trans hR64 rfl
  have e67 := wASx.fr e52 hF63 rfl rfl
  have e68 := wLVx.fr e46 hF63 rfl rfl
  refine Or.inl ⟨rfl, ?_⟩
  refine r_load (i := 53) (u := 4) (w := 0) rfl rfl rfl ?_
  refine z_eq (i := 54) (v := 61) rfl ⟨by omega, by omega⟩ (fun h69 => ?_) (fun h70 => ?_)
  · refine r_goto (i := 61) (v := 122) rfl ?_
    refine yT_drop (L1 := [some ((2, 43)), some (vi k), some (vi m), none, none, none]) rfl ?_
    have h71 := hI62.f tf43_43
    have h72 := hI62.f tf43_51
    have h73 : S57.f 43 51 = S36.f 43 51 := hF63.f rfl
    have h74 : wphi S57 = wphi S36 := wphiX.fr hF63 rfl rfl
    have h75 : wpsi S57 = wpsi S36 := wpsiX.fr hF63 rfl rfl
    exact lp189_122 h_k h_m p_0 p_1 p_2 p_3 hd S57 hI62 hF65 hR66 e68 e67   (by omega) (by omega) (by omega) (by omega) (by omega) (by omega) (by intro hm9; have y9 := ca_2 (g := 10) (by have w9 := q_6 hm9; rw [if_neg (by omega)] at w9; exact w9) (by have w9 := mi16; rw [(show S.a 52 m.toNat = S0.a 52 m.toNat from hF.a rfl _)] at w9; exact w9) (pkR_fr (b := 48) hF rfl) (by have w9 := mm45 (by omega) (by omega); rw [show c0 = 10 by rw [q_10]; exact if_neg (by omega)] at w9; exact w9) ((hF19.a (b := 53) rfl _).trans (hF.a (b := 53) rfl _)) ((pkR_fr (b := 48) hF19 rfl).trans (pkR_fr (b := 48) hF rfl)) ((hF19.a (b := 55) rfl _).trans (hF.a (b := 55) rfl _)) ((hF19.a (b := 56) rfl _).trans (hF.a (b := 56) rfl _)) mq61; exact ca_n q_9 (by omega) y9) 
  · refine r_load (i := 55) (u := 0) (w := 2) rfl rfl rfl ?_
    refine r_load (i := 56) (u := 3) (w := 0) rfl rfl rfl ?_
    have h76 := hI62.f tf43_43
    refine r_call (i := 57) (u := 11) (v := 224) (w := 0) (b := 0) (na := 514) (C2 := xC224) (as := [(2, 43), vi of0]) (s := []) rfl rfl rfl rfl rfl rfl rfl (sp224 (v := of0) hI62 ⟨by omega, by omega⟩ (by omega)  (by omega)) (fun r77 S78 hq79 => ?_)
    obtain ⟨rfl, h80, h81, mq82, hI83, hF84, hR85⟩ := hq79
    have hF86 := hF65.trans hF84 rfl rfl
    have hR87 := hR66.trans hR85 rfl
    have e88 := wASx.fr e67 hF84 rfl rfl
    have e89 := wLVx.fr e68 hF84 rfl rfl
    refine Or.inl ⟨rfl, ?_⟩
    refine r_load (i := 58) (u := 0) (w := 2) rfl rfl rfl ?_
    refine r_const (i := 59) (u := 0) (z := 0) rfl rfl ?_
    have h90 := hI83.f tf43_43
    refine r_call (i := 60) (u := 11) (v := 224) (w := 0) (b := 0) (na := 514) (C2 := xC224) (as := [(2, 43), vi 0]) (s := []) rfl rfl rfl rfl rfl rfl rfl (sp224 (v := 0) hI83 ⟨by omega, by omega⟩ (by omega)  (by omega)) (fun r91 S92 hq93 => ?_)
    obtain ⟨rfl, h94, h95, mq96, hI97, hF98, hR99⟩ := hq93
    have hF100 := hF86.trans hF98 rfl rfl
    have hR101 := hR87.trans hR99 rfl
    have e102 := wASx.fr e88 hF98 rfl rfl
    have e103 := wLVx.fr e89 hF98 rfl rfl
    refine Or.inl ⟨rfl, ?_⟩
    refine r_goto (i := 61) (v := 122) rfl ?_
    refine yT_drop (L1 := [some ((2, 43)), some (vi k), some (vi m), none, none, none]) rfl ?_
    have h104 := hI97.f tf43_43
    have h105 := hI97.f tf43_51
    have h106 : S92.f 43 51 = S78.f 43 51 := hF98.f rfl
    have h107 : S78.f 43 51 = S57.f 43 51 := hF84.f rfl
    have h108 : S57.f 43 51 = S36.f 43 51 := hF63.f rfl
    have h109 : wphi S92 = wphi S78 := wphiX.fr hF98 rfl rfl
    have h110 : wphi S78 = wphi S57 := wphiX.fr hF84 rfl rfl
    have h111 : wphi S57 = wphi S36 := wphiX.fr hF63 rfl rfl
    have h112 : wpsi S92 = wpsi S78 := wpsiX.fr hF98 rfl rfl
    have h113 : wpsi S78 = wpsi S57 := wpsiX.fr hF84 rfl rfl
    have h114 : wpsi S57 = wpsi S36 := wpsiX.fr hF63 rfl rfl
    exact lp189_122 h_k h_m p_0 p_1 p_2 p_3 hd S92 hI97 hF100 hR101 e103 e102   (by omega) (by omega) (by omega) (by omega) (by omega) (by omega) (by intro hm9; have y9 := ca_2 (g := 11) (by have w9 := q_6 hm9; rw [if_pos (by omega)] at w9; exact w9) (by have w9 := mi16; rw [(show S.a 52 m.toNat = S0.a 52 m.toNat from hF.a rfl _)] at w9; exact w9) (pkR_fr (b := 48) hF rfl) (by have w9 := mm45 (by omega) (by omega); rw [show c0 = 11 by rw [q_10]; exact if_pos (by omega)] at w9; exact w9) ((hF19.a (b := 53) rfl _).trans (hF.a (b := 53) rfl _)) ((pkR_fr (b := 48) hF19 rfl).trans (pkR_fr (b := 48) hF rfl)) ((hF19.a (b := 55) rfl _).trans (hF.a (b := 55) rfl _)) ((hF19.a (b := 56) rfl _).trans (hF.a (b := 56) rfl _)) mq61; exact ca_d q_9 (by omega) (q_7 hm9) y9 mq82 mq96) 
theorem lp189_30 {G : xk} {d : Nat} {S0 : yS} {k : Int} (h_k : 0 ≤ k ∧ k ≤ 23) {m : Int} (h_m : 0 ≤ m ∧ m ≤ 59) (p_0 : S0.f 43 43 ≤ 23700) (p_1 : S0.f 43 51 = 0) (p_2 : wphi S0 ≤ 19700) (p_3 : wpsi S0 ≤ 1090) (hd : 9 ≤ d + 1) : ∀ (S : yS) (hI : yI S) (hF : yFr [(43, 43), (43, 49), (43, 50), (43, 51), (43, 52), (43, 53)] [68, 72, 73, 74, 75, 76, 77] S0 S) (hR : yRm [] S0 S) (e_wLV : wLV S) (e_wAS : wAS S) (of0 fc c0 : Int) (h_of0 : 1 ≤ of0 ∧ of0 ≤ 9) (h_fc : 0 ≤ fc ∧ fc ≤ 1) (h_c0 : 0 ≤ c0 ∧ c0 ≤ 255) (q_0 : S0.f 43 43 + 0 ≤ S.f 43 43) (q_1 : S.f 43 43 ≤ S0.f 43 43 + 8) (q_2 : S.f 43 51 = 0) (q_3 : wphi S ≤ wphi S0 + 0) (q_4 : wpsi S ≤ wpsi S0 + 0) (q_5 : S0.f 43 43 ≤ 23700 ∧ wphi S0 ≤ 19700 ∧ wpsi S0 ≤ 1090) (q_6 : mQ S0 S (wld (S0.a 55 m.toNat) 1 (hmn (S0.a 55 m.toNat)).toNat)) (q_7 : hM S0 → of0 = 1 + wdA (S0.a 55 m.toNat) 4) (q_8 : fc = S0.a 44 (S0.a 52 m.toNat).toNat) (q_9 : S0.a 61 k.toNat = 3) (q_10 : c0 = if fc ≠ 0 then 185 else 182), yT xPr G LY xC189 30 [some ((2, 43)), some (vi k), some (vi m), some (vi of0), some (vi fc), none] [vi c0, (2, 43)] S (d + 1) (fun r S' => r = (0, (0, 0)) ∧ S0.f 43 43 + 1 ≤ S'.f 43 43 ∧ S'.f 43 43 ≤ S0.f 43 43 + 14 ∧ S'.f 43 51 = 0 ∧ wphi S' ≤ wphi S0 + 155 ∧ wpsi S' ≤ wpsi S0 + 3 ∧ (hM S0 → mQ S0 S' (fun w => wlv (S0.a 56 m.toNat) (caM S0 k m w))) ∧ wLV S' ∧ wAS S' ∧ yI S' ∧ yFr [(43, 43), (43, 49), (43, 50), (43, 51), (43, 52), (43, 53)] [68, 72, 73, 74, 75, 76, 77] S0 S' ∧ yRm [] S0 S') := by
  intro S hI hF hR e_wLV e_wAS of0 fc c0 h_of0 h_fc h_c0 q_0 q_1 q_2 q_3 q_4 q_5 q_6 q_7 q_8 q_9 q_10
  have h1 := hI.f tf43_43
  have h2 := hI.f tf43_51
  refine r_load (i := 30) (u := 3) (w := 0) rfl rfl rfl ?_
  refine r_load (i := 31) (u := 0) (w := 2) rfl rfl rfl ?_
  refine r_getf (i := 32) (v := 15) (w := 11) (x := (2, 56)) rfl ly43 rfl rfl fun _ => ?_
  refine r_load (i := 33) (u := 2) (w := 0) rfl rfl rfl ?_
  refine a_int (i := 34) rfl ly56 rfl (by omega) (by omega) fun h4 => ?_
  have h5 := hI.a ta56 m.toNat
  have h6 : S.a 56 m.toNat = S0.a 56 m.toNat := hF.a rfl _
  refine r_call (i := 35) (u := 65535) (v := 262) (w := 0) (b := 2) (na := 257) (C2 := xC262) (as := [vi (S.a 56 m.toNat)]) (s := [vi of0, vi c0, (2, 43)]) rfl rfl rfl rfl rfl rfl rfl (sp262 (k := S.a 56 m.toNat) hI ⟨by omega, by omega⟩   (by omega)) (fun r7 S8 hq9 => ?_)
  obtain ⟨z10, rfl, h11, h12, wd13, rfl⟩ := hq9
  refine Or.inr (Or.inl ⟨rfl, ?_⟩)
  refine r_call (i := 36) (u := 11) (v := 250) (w := 0) (b := 0) (na := 1028) (C2 := xC250) (as := [(2, 43), vi c0, vi of0, vi z10]) (s := []) rfl rfl rfl rfl rfl rfl rfl (sp250 (b0 := c0) (off := of0) (on := z10) hI ⟨by omega, by omega⟩ ⟨by omega, by omega⟩ ⟨by omega, by omega⟩ (by omega)  (by omega)) (fun r14 S15 hq16 => ?_)
  obtain ⟨rfl, h17, h18, mq19, hI20, hF21, hR22⟩ := hq16
  have hF23 := hF.trans hF21 rfl rfl
  have hR24 := hR.trans hR22 rfl
  have e25 := wLVx.fr e_wLV hF21 rfl rfl
  have e26 := wASx.fr e_wAS hF21 rfl rfl
  refine Or.inl ⟨rfl, ?_⟩
  refine r_load (i := 37) (u := 0) (w := 2) rfl rfl rfl ?_
  refine r_load (i := 38) (u := 0) (w := 2) rfl rfl rfl ?_
  refine r_load (i := 39) (u := 4) (w := 0) rfl rfl rfl ?_
  refine z_eq (i := 40) (v := 43) rfl ⟨by omega, by omega⟩ (fun h27 => ?_) (fun h28 => ?_)
  · refine r_const (i := 43) (u := 10) (z := 10) rfl rfl ?_
    have h29 := hI20.f tf43_43
    have h30 := hI20.f tf43_51
    have h31 : S15.f 43 51 = S.f 43 51 := hF21.f rfl
    have h32 : wphi S15 = wphi S := wphiX.fr hF21 rfl rfl
    have h33 : wpsi S15 = wpsi S := wpsiX.fr hF21 rfl rfl
    exact lp189_44 h_k h_m p_0 p_1 p_2 p_3 hd S15 hI20 hF23 hR24 e25 e26 of0 fc 10 ⟨by omega, by omega⟩ ⟨by omega, by omega⟩ ⟨by omega, by omega⟩ (by omega) (by omega) (by omega) (by omega) (by omega) (by omega) (by intro hm9; exact ca_1 (of0 := of0) q_6 (by rw [← q_8, ← q_10]; exact mq19) (q_7 hm9) ((show _ = wid (S.a 56 m.toNat) from wd13).trans (congrArg wid (hF.a rfl _)))) (by exact q_7) (by exact q_8) (by exact q_9) (by first | exact (if_pos (by omega)).symm | exact (if_neg (by omega)).symm) 
  · refine r_const (i := 41) (u := 11) (z := 11) rfl rfl ?_
    refine r_goto (i := 42) (v := 44) rfl ?_
    have h34 := hI20.f tf43_43
    have h35 := hI20.f tf43_51
    have h36 : S15.f 43 51 = S.f 43 51 := hF21.f rfl
    have h37 : wphi S15 = wphi S := wphiX.fr hF21 rfl rfl
    have h38 : wpsi S15 = wpsi S := wpsiX.fr hF21 rfl rfl
    exact lp189_44 h_k h_m p_0 p_1 p_2 p_3 hd S15 hI20 hF23 hR24 e25 e26 of0 fc 11 ⟨by omega, by omega⟩ ⟨by omega, by omega⟩ ⟨by omega, by omega⟩ (by omega) (by omega) (by omega) (by omega) (by omega) (by omega) (by intro hm9; exact ca_1 (of0 := of0) q_6 (by rw [← q_8, ← q_10]; exact mq19) (q_7 hm9) ((show _ = wid (S.a 56 m.toNat) from wd13).trans (congrArg wid (hF.a rfl _)))) (by exact q_7) (by exact q_8) (by exact q_9) (by first | exact (if_pos (by omega)).symm | exact (if_neg (by omega)).symm) 
/-- ProxyForgeModel.called -/
theorem sp189 {G : xk} {S : yS} {d : Nat} (hI : yI S) {k : Int} (h_k : 0 ≤ k ∧ k ≤ 23) {m : Int} (h_m : 0 ≤ m ∧ m ≤ 59) (p_0 : S.f 43 43 ≤ 23700) (p_1 : S.f 43 51 = 0) (p_2 : wphi S ≤ 19700) (p_3 : wpsi S ≤ 1090) (e_wLV : wLV S) (e_wAS : wAS S) (hd : 9 ≤ d) : yT xPr G LY xC189 0 [some ((2, 43)), some (vi k), some (vi m)] [] S d (fun r S' => r = (0, (0, 0)) ∧ S.f 43 43 + 1 ≤ S'.f 43 43 ∧ S'.f 43 43 ≤ S.f 43 43 + 14 ∧ S'.f 43 51 = 0 ∧ wphi S' ≤ wphi S + 155 ∧ wpsi S' ≤ wpsi S + 3 ∧ (hM S → mQ S S' (fun w => wlv (S.a 56 m.toNat) (caM S k m w))) ∧ wLV S' ∧ wAS S' ∧ yI S' ∧ yFr [(43, 43), (43, 49), (43, 50), (43, 51), (43, 52), (43, 53)] [68, 72, 73, 74, 75, 76, 77] S S' ∧ yRm [] S S') := by
  refine yT_pad 3 ?_
  show yT xPr G LY xC189 0 [some ((2, 43)), some (vi k), some (vi m), none, none, none] [] S d _
  obtain ⟨d, rfl⟩ : ∃ q, d = q + 1 := ⟨d - 1, by omega⟩
  have hF : yFr [(43, 43), (43, 49), (43, 50), (43, 51), (43, 52), (43, 53)] [68, 72, 73, 74, 75, 76, 77] S S := yFr.refl S
  have hR : yRm [] S S := yRm.refl S
  have h1 := hI.f tf43_43
  have h2 := hI.f tf43_51
  refine r_load (i := 0) (u := 0) (w := 2) rfl rfl rfl ?_
  refine r_load (i := 1) (u := 2) (w := 0) rfl rfl rfl ?_
  refine r_const (i := 2) (u := 1) (z := 1) rfl rfl ?_
  have h3 := hI.a ta55 m.toNat
  have h4 := hI.a ta55 m.toNat
  refine r_call (i := 3) (u := 11) (v := 215) (w := 0) (b := 0) (na := 1283) (C2 := xC215) (as := [(2, 43), vi m, vi 1]) (s := []) rfl rfl rfl rfl rfl rfl rfl (sp215 (m := m) (fr := 1) hI ⟨by omega, by omega⟩ ⟨by omega, by omega⟩ (by omega)  (by omega)) (fun r5 S6 hq7 => ?_)
  obtain ⟨rfl, h8, h9, mq10, hI11, hF12, hR13⟩ := hq7
  have hF14 := hF.trans hF12 rfl rfl
  have hR15 := hR.trans hR13 rfl
  have e16 := wLVx.fr e_wLV hF12 rfl rfl
  have e17 := wASx.fr e_wAS hF12 rfl rfl
  refine Or.inl ⟨rfl, ?_⟩
  refine r_const (i := 4) (u := 1) (z := 1) rfl rfl ?_
  refine r_load (i := 5) (u := 0) (w := 2) rfl rfl rfl ?_
  refine r_load (i := 6) (u := 2) (w := 0) rfl rfl rfl ?_
  have h18 := hI11.a ta55 m.toNat
  have h19 : S6.a 55 m.toNat = S.a 55 m.toNat := hF12.a rfl _
  refine r_call (i := 7) (u := 11) (v := 263) (w := 0) (b := 0) (na := 1026) (C2 := xC263) (as := [(2, 43), vi m]) (s := [vi 1]) rfl rfl rfl rfl rfl rfl rfl (sp263 (m := m) hI11 ⟨by omega, by omega⟩   (by omega)) (fun r20 S21 hq22 => ?_)
  obtain ⟨z23, rfl, h24, h25, wda26, rfl⟩ := hq22
  refine Or.inr (Or.inl ⟨rfl, ?_⟩)
  refine r_iadd (i := 8) rfl ?_
  refine r_store (i := 9) (u := 3) (w := 0) (L1 := [some ((2, 43)), some (vi k), some (vi m), some (vi (1 + z23)), none, none]) rfl rfl rfl rfl ?_
  refine r_load (i := 10) (u := 0) (w := 2) rfl rfl rfl ?_
  refine r_getf (i := 11) (v := 24) (w := 11) (x := (2, 61)) rfl ly43 rfl rfl fun _ => ?_
  refine r_load (i := 12) (u := 1) (w := 0) rfl rfl rfl ?_
  refine a_int (i := 13) rfl ly61 rfl (by omega) (by omega) fun h28 => ?_
  have h29 := hI11.a ta61 k.toNat
  have h30 : S6.a 61 k.toNat = S.a 61 k.toNat := hF12.a rfl _
  refine r_const (i := 14) (u := 3) (z := 3) rfl rfl ?_
  refine c_ne (i := 15) (v := 62) rfl ⟨by omega, by omega⟩ ⟨by omega, by omega⟩ (fun h31 => ?_) (fun h32 => ?_)
  · refine r_load (i := 62) (u := 0) (w := 2) rfl rfl rfl ?_
    refine r_const (i := 63) (u := 183) (z := 183) rfl rfl ?_
    refine r_load (i := 64) (u := 3) (w := 0) rfl rfl rfl ?_
    refine r_load (i := 65) (u := 0) (w := 2) rfl rfl rfl ?_
    refine r_getf (i := 66) (v := 15) (w := 11) (x := (2, 56)) rfl ly43 rfl rfl fun _ => ?_
    refine r_load (i := 67) (u := 2) (w := 0) rfl rfl rfl ?_
    refine a_int (i := 68) rfl ly56 rfl (by omega) (by omega) fun h34 => ?_
    have h35 := hI11.a ta56 m.toNat
    have h36 : S6.a 56 m.toNat = S.a 56 m.toNat := hF12.a rfl _
    refine r_call (i := 69) (u := 65535) (v := 262) (w := 0) (b := 2) (na := 257) (C2 := xC262) (as := [vi (S6.a 56 m.toNat)]) (s := [vi (1 + z23), vi 183, (2, 43)]) rfl rfl rfl rfl rfl rfl rfl (sp262 (k := S6.a 56 m.toNat) hI11 ⟨by omega, by omega⟩   (by omega)) (fun r37 S38 hq39 => ?_)
    obtain ⟨z40, rfl, h41, h42, wd43, rfl⟩ := hq39
    refine Or.inr (Or.inl ⟨rfl, ?_⟩)
    have h44 := hI11.f tf43_43
    refine r_call (i := 70) (u := 11) (v := 250) (w := 0) (b := 0) (na := 1028) (C2 := xC250) (as := [(2, 43), vi 183, vi (1 + z23), vi z40]) (s := []) rfl rfl rfl rfl rfl rfl rfl (sp250 (b0 := 183) (off := 1 + z23) (on := z40) hI11 ⟨by omega, by omega⟩ ⟨by omega, by omega⟩ ⟨by omega, by omega⟩ (by omega)  (by omega)) (fun r45 S46 hq47 => ?_)
    obtain ⟨rfl, h48, h49, mq50, hI51, hF52, hR53⟩ := hq47
    have hF54 := hF14.trans hF52 rfl rfl
    have hR55 := hR15.trans hR53 rfl
    have e56 := wLVx.fr e16 hF52 rfl rfl
    have e57 := wASx.fr e17 hF52 rfl rfl
    refine Or.inl ⟨rfl, ?_⟩
    refine r_load (i := 71) (u := 0) (w := 2) rfl rfl rfl ?_
    have h58 := hI51.f tf43_21
    have h59 : S46.f 43 21 = S.f 43 21 := hF54.f rfl
    refine r_getf (i := 72) (v := 21) (w := 11) (x := vi (S46.f 43 21)) rfl ly43 rfl rfl fun h60 => ?_
    have h60 : Rg (S46.f 43 21) := h60
    refine r_store (i := 73) (u := 4) (w := 0) (L1 := [some ((2, 43)), some (vi k), some (vi m), some (vi (1 + z23)), some (vi (S46.f 43 21)), none]) rfl rfl rfl rfl ?_
    refine r_load (i := 74) (u := 0) (w := 2) rfl rfl rfl ?_
    have h61 := hI51.f tf43_22
    have h62 : S46.f 43 22 = S.f 43 22 := hF54.f rfl
    refine r_getf (i := 75) (v := 22) (w := 11) (x := vi (S46.f 43 22)) rfl ly43 rfl rfl fun h63 => ?_
    have h63 : Rg (S46.f 43 22) := h63
    refine r_const (i := 76) (u := 1) (z := 1) rfl rfl ?_
    refine r_isub (i := 77) rfl ?_
    refine r_store (i := 78) (u := 5) (w := 0) (L1 := [some ((2, 43)), some (vi k), some (vi m), some (vi (1 + z23)), some (vi (S46.f 43 21)), some (vi ((S46.f 43 22) - 1))]) rfl rfl rfl rfl ?_
    refine yT_drop (L1 := [some ((2, 43)), some (vi k), some (vi m), none, some (vi (S46.f 43 21)), some (vi ((S46.f 43 22) - 1))]) rfl ?_
    have h64 := hI51.f tf43_43
    have h65 := hI51.f tf43_51
    have h66 : S46.f 43 51 = S6.f 43 51 := hF52.f rfl
    have h67 : S6.f 43 51 = S.f 43 51 := hF12.f rfl
    have h68 : wphi S46 = wphi S6 := wphiX.fr hF52 rfl rfl
    have h69 : wphi S6 = wphi S := wphiX.fr hF12 rfl rfl
    have h70 : wpsi S46 = wpsi S6 := wpsiX.fr hF52 rfl rfl
    have h71 : wpsi S6 = wpsi S := wpsiX.fr hF12 rfl rfl
    exact lp189_79 h_k h_m p_0 p_1 p_2 p_3 hd _ S46 hI51 hF54 hR55 e56 e57 (S46.f 43 21) ((S46.f 43 22) - 1) ⟨by omega, by omega⟩ ⟨by omega, by omega⟩ (by omega) (by omega) (by omega) (by omega) (by omega) (by omega) (by omega) (by intro hm9; have e9 := (wdA_c (wda26 (vM_fr hF12 rfl hm9.1)) (hF12.a rfl _)); exact ca_1 mq10 mq50 (show _ = 1 + wdA (S.a 55 m.toNat) 4 by omega) ((show _ = wid _ from wd43).trans (congrArg wid (hF12.a rfl _)))) (by intro hm9; exact (show S46.f 43 21 = S.f 43 21 by omega).trans (smV_0 (show S.f 43 22 ≤ _ by omega))) (by intro _; omega) (by omega) (Int.lt_succ_toNat _)
  · refine r_load (i := 16) (u := 0) (w := 2) rfl rfl rfl ?_
    refine r_getf (i := 17) (v := 2) (w := 11) (x := (2, 44)) rfl ly43 rfl rfl fun _ => ?_
    refine r_load (i := 18) (u := 0) (w := 2) rfl rfl rfl ?_
    refine r_getf (i := 19) (v := 11) (w := 11) (x := (2, 52)) rfl ly43 rfl rfl fun _ => ?_
    refine r_load (i := 20) (u := 2) (w := 0) rfl rfl rfl ?_
    refine a_int (i := 21) rfl ly52 rfl (by omega) (by omega) fun h74 => ?_
    have h75 := hI11.a ta52 m.toNat
    have h76 : S6.a 52 m.toNat = S.a 52 m.toNat := hF12.a rfl _
    refine a_bool (i := 22) rfl ly44 rfl (by omega) (by omega) fun h77 => ?_
    have h78 : S6.a 44 (S6.a 52 m.toNat).toNat = S.a 44 (S6.a 52 m.toNat).toNat := hF12.a rfl _
    refine r_store (i := 23) (u := 4) (w := 0) (L1 := [some ((2, 43)), some (vi k), some (vi m), some (vi (1 + z23)), some (vi (S6.a 44 (S6.a 52 m.toNat).toNat)), none]) rfl rfl rfl rfl ?_
    refine r_load (i := 24) (u := 0) (w := 2) rfl rfl rfl ?_
    refine r_load (i := 25) (u := 4) (w := 0) rfl rfl rfl ?_
    refine z_eq (i := 26) (v := 29) rfl ⟨by omega, by omega⟩ (fun h79 => ?_) (fun h80 => ?_)
    · refine r_const (i := 29) (u := 182) (z := 182) rfl rfl ?_
      have h81 := hI11.f tf43_43
      have h82 := hI11.f tf43_51
      have h83 : S6.f 43 51 = S.f 43 51 := hF12.f rfl
      have h84 : wphi S6 = wphi S := wphiX.fr hF12 rfl rfl
      have h85 : wpsi S6 = wpsi S := wpsiX.fr hF12 rfl rfl
      exact lp189_30 h_k h_m p_0 p_1 p_2 p_3 hd S6 hI11 hF14 hR15 e16 e17 (1 + z23) (S6.a 44 (S6.a 52 m.toNat).toNat) 182 ⟨by omega, by omega⟩ ⟨by omega, by omega⟩ ⟨by omega, by omega⟩ (by omega) (by omega) (by omega) (by omega) (by omega) (by omega) (by exact mq10) (by intro hm9; have e9 := (wdA_c (wda26 (vM_fr hF12 rfl hm9.1)) (hF12.a rfl _)); omega) (by exact (hF12.a (b := 44) rfl _).trans (congrArg (fun z => S.a 44 (Int.toNat z)) (hF12.a (b := 52) rfl _))) (by omega) (by first | exact (if_pos (by omega)).symm | exact (if_neg (by omega)).symm) 
    · refine r_const (i := 27) (u := 185) (z := 185) rfl rfl ?_
      refine r_goto (i := 28) (v := 30) rfl ?_
      have h86 := hI11.f tf43_43
      have h87 := hI11.f tf43_51
      have h88 : S6.f 43 51 = S.f 43 51 := hF12.f rfl
      have h89 : wphi S6 = wphi S := wphiX.fr hF12 rfl rfl
      have h90 : wpsi S6 = wpsi S := wpsiX.fr hF12 rfl rfl
      exact lp189_30 h_k h_m p_0 p_1 p_2 p_3 hd S6 hI11 hF14 hR15 e16 e17 (1 + z23) (S6.a 44 (S6.a 52 m.toNat).toNat) 185 ⟨by omega, by omega⟩ ⟨by omega, by omega⟩ ⟨by omega, by omega⟩ (by omega) (by omega) (by omega) (by omega) (by omega) (by omega) (by exact mq10) (by intro hm9; have e9 := (wdA_c (wda26 (vM_fr hF12 rfl hm9.1)) (hF12.a rfl _)); omega) (by exact (hF12.a (b := 44) rfl _).trans (congrArg (fun z => S.a 44 (Int.toNat z)) (hF12.a (b := 52) rfl _))) (by omega) (by first | exact (if_pos (by omega)).symm | exact (if_neg (by omega)).symm) 
theorem lp254_15 {G : xk} {d : Nat} {S0 : yS} {lc : Int} (h_lc : 0 ≤ lc ∧ lc ≤ 12) (p_0 : S0.f 43 43 ≤ 23800) (p_1 : S0.f 43 51 = 0) (p_2 : wphi S0 ≤ 19900) (p_3 : wpsi S0 ≤ 1120) (hd : 7 ≤ d + 1) : ∀ (S : yS) (hI : yI S) (hF : yFr [(43, 43), (43, 49), (43, 50), (43, 51), (43, 52), (43, 53)] [72, 73, 74, 75, 76, 77] S0 S) (hR : yRm [] S0 S) (e_wLV : wLV S) (dp : Int) (h_dp : 0 ≤ dp ∧ dp ≤ 2147483647) (q_0 : S.f 43 43 = S0.f 43 43) (q_1 : S.f 43 51 = 0) (q_2 : wphi S = wphi S0) (q_3 : wpsi S = wpsi S0) (q_4 : S0.f 43 43 ≤ 23800 ∧ wphi S0 ≤ 19900 ∧ wpsi S0 ≤ 1120) (q_5 : mQ S0 S (wdp 1)) (q_6 : dp = max (S.f 43 53) 1), yT xPr G LY xC254 15 [some ((2, 43)), some (vi lc), none] [vi dp, (2, 43)] S (d + 1) (fun r S' => r = (0, (0, 0)) ∧ S0.f 43 43 + 13 ≤ S'.f 43 43 ∧ S'.f 43 43 ≤ S0.f 43 43 + 13 ∧ S'.f 43 51 = 0 ∧ wphi S' ≤ wphi S0 + 10 ∧ wpsi S' ≤ wpsi S0 + 2 ∧ mQ S0 S' (wre lc) ∧ wLV S' ∧ yI S' ∧ yFr [(43, 43), (43, 49), (43, 50), (43, 51), (43, 52), (43, 53)] [72, 73, 74, 75, 76, 77] S0 S' ∧ yRm [] S0 S') := by
  intro S hI hF hR e_wLV dp h_dp q_0 q_1 q_2 q_3 q_4 q_5 q_6
  have h1 := hI.f tf43_43
  have h2 := hI.f tf43_51
  have h3 := hI.f tf43_53
  refine r_putI (i := 15) (v := 53) (w := 11) rfl ly43 rfl ⟨by omega, by omega⟩ ?_
  have hI5 := hI.setf (b := 43) (w := 53) (z := dp) tf43_53 rfl (by omega) (by omega)
  have hF7 := hF.setf (b := 43) (w := 53) (z := dp) rfl
  have hR8 := hR.setf (b := 43) (w := 53) (z := dp)
  have e9 := wLVx.setf e_wLV (b := 43) (w := 53) (z := dp) rfl
  refine yT_gen (fun S4 hS6 => ?_)
  rw [hS6] at hI5 hF7 hR8 e9
  refine r_load (i := 16) (u := 0) (w := 2) rfl rfl rfl ?_
  refine r_const (i := 17) (u := 191) (z := 191) rfl rfl ?_
  refine r_const (i := 18) (u := 1) (z := 1) rfl rfl ?_
  refine r_const (i := 19) (u := 0) (z := 0) rfl rfl ?_
  have h10 := hI5.f tf43_43
  have h11 : S4.f 43 43 = S.f 43 43 := by rw [← hS6]; exact ysf_ne (by decide)
  refine r_call (i := 20) (u := 11) (v := 250) (w := 0) (b := 0) (na := 1028) (C2 := xC250) (as := [(2, 43), vi 191, vi 1, vi 0]) (s := []) rfl rfl rfl rfl rfl rfl rfl (sp250 (b0 := 191) (off := 1) (on := 0) hI5 ⟨by omega, by omega⟩ ⟨by omega, by omega⟩ ⟨by omega, by omega⟩ (by omega)  (by omega)) (fun r12 S13 hq14 => ?_)
  obtain ⟨rfl, h15, h16, mq17, hI18, hF19, hR20⟩ := hq14
  have hF21 := hF7.trans hF19 rfl rfl
  have hR22 := hR8.trans hR20 rfl
  have e23 := wLVx.fr e9 hF19 rfl rfl
  refine Or.inl ⟨rfl, ?_⟩
  refine r_load (i := 21) (u := 0) (w := 2) rfl rfl rfl ?_
  refine r_const (i := 22) (u := 1) (z := 1) rfl rfl ?_
  rw [vi_sg (1)]
  have h24 := ysg_rg (1)
  refine r_putI (i := 23) (v := 52) (w := 11) rfl ly43 rfl ⟨by omega, by omega⟩ ?_
  have hI26 := hI18.setf0 (b := 43) (w := 52) (z := ysg 1) rfl rfl
  have hF28 := hF21.setf (b := 43) (w := 52) (z := ysg 1) rfl
  have hR29 := hR22.setf (b := 43) (w := 52) (z := ysg 1)
  have e30 := wLVx.setf e23 (b := 43) (w := 52) (z := ysg 1) rfl
  refine yT_gen (fun S25 hS27 => ?_)
  rw [hS27] at hI26 hF28 hR29 e30
  refine r_load (i := 24) (u := 0) (w := 2) rfl rfl rfl ?_
  refine r_const (i := 25) (u := 58) (z := 58) rfl rfl ?_
  refine r_const (i := 26) (u := 1) (z := 1) rfl rfl ?_
  refine r_const (i := 27) (u := 0) (z := 0) rfl rfl ?_
  have h31 := hI26.f tf43_43
  have h32 : S25.f 43 43 = S13.f 43 43 := by rw [← hS27]; exact ysf_ne (by decide)
  refine r_call (i := 28) (u := 11) (v := 250) (w := 0) (b := 0) (na := 1028) (C2 := xC250) (as := [(2, 43), vi 58, vi 1, vi 0]) (s := []) rfl rfl rfl rfl rfl rfl rfl (sp250 (b0 := 58) (off := 1) (on := 0) hI26 ⟨by omega, by omega⟩ ⟨by omega, by omega⟩ ⟨by omega, by omega⟩ (by omega)  (by omega)) (fun r33 S34 hq35 => ?_)
  obtain ⟨rfl, h36, h37, mq38, hI39, hF40, hR41⟩ := hq35
  have hF42 := hF28.trans hF40 rfl rfl
  have hR43 := hR29.trans hR41 rfl
  have e44 := wLVx.fr e30 hF40 rfl rfl
  refine Or.inl ⟨rfl, ?_⟩
  refine r_load (i := 29) (u := 0) (w := 2) rfl rfl rfl ?_
  refine r_load (i := 30) (u := 1) (w := 0) rfl rfl rfl ?_
  have h45 := hI39.f tf43_43
  refine r_call (i := 31) (u := 11) (v := 224) (w := 0) (b := 0) (na := 514) (C2 := xC224) (as := [(2, 43), vi lc]) (s := []) rfl rfl rfl rfl rfl rfl rfl (sp224 (v := lc) hI39 ⟨by omega, by omega⟩ (by omega)  (by omega)) (fun r46 S47 hq48 => ?_)
  obtain ⟨rfl, h49, h50, mq51, hI52, hF53, hR54⟩ := hq48
  have hF55 := hF42.trans hF53 rfl rfl
  have hR56 := hR43.trans hR54 rfl
  have e57 := wLVx.fr e44 hF53 rfl rfl
  refine Or.inl ⟨rfl, ?_⟩
  refine r_load (i := 32) (u := 0) (w := 2) rfl rfl rfl ?_
  refine r_const (i := 33) (u := 187) (z := 187) rfl rfl ?_
  refine r_const (i := 34) (u := 0) (z := 0) rfl rfl ?_
  refine r_const (i := 35) (u := 1) (z := 1) rfl rfl ?_
  have h58 := hI52.f tf43_43
  refine r_call (i := 36) (u := 11) (v := 250) (w := 0) (b := 0) (na := 1028) (C2 := xC250) (as := [(2, 43), vi 187, vi 0, vi 1]) (s := []) rfl rfl rfl rfl rfl rfl rfl (sp250 (b0 := 187) (off := 0) (on := 1) hI52 ⟨by omega, by omega⟩ ⟨by omega, by omega⟩ ⟨by omega, by omega⟩ (by omega)  (by omega)) (fun r59 S60 hq61 => ?_)
  obtain ⟨rfl, h62, h63, mq64, hI65, hF66, hR67⟩ := hq61
  have hF68 := hF55.trans hF66 rfl rfl
  have hR69 := hR56.trans hR67 rfl
  have e70 := wLVx.fr e57 hF66 rfl rfl
  refine Or.inl ⟨rfl, ?_⟩
  refine r_load (i := 37) (u := 0) (w := 2) rfl rfl rfl ?_
  refine r_str (i := 38) (v := 70) rfl ?_
  have h71 := slv70
  have h72 := hI65.f tf43_51
  have h73 : S60.f 43 51 = S47.f 43 51 := hF66.f rfl
  have h74 : S47.f 43 51 = S34.f 43 51 := hF53.f rfl
  have h75 : S34.f 43 51 = S25.f 43 51 := hF40.f rfl
  have h76 : S25.f 43 51 = S13.f 43 51 := by rw [← hS27]; exact ysf_ne (by decide)
  have h77 : S13.f 43 51 = S4.f 43 51 := hF19.f rfl
  have h78 : S4.f 43 51 = S.f 43 51 := by rw [← hS6]; exact ysf_ne (by decide)
  have h79 : wphi S60 = wphi S47 := wphiX.fr hF66 rfl rfl
  have h80 : wphi S47 = wphi S34 := wphiX.fr hF53 rfl rfl
  have h81 : wphi S34 = wphi S25 := wphiX.fr hF40 rfl rfl
  have h82 : wphi S25 = wphi S13 := by rw [← hS27]; exact wphiX.setf rfl
  have h83 : wphi S13 = wphi S4 := wphiX.fr hF19 rfl rfl
  have h84 : wphi S4 = wphi S := by rw [← hS6]; exact wphiX.setf rfl
  have h85 : wpsi S60 = wpsi S47 := wpsiX.fr hF66 rfl rfl
  have h86 : wpsi S47 = wpsi S34 := wpsiX.fr hF53 rfl rfl
  have h87 : wpsi S34 = wpsi S25 := wpsiX.fr hF40 rfl rfl
  have h88 : wpsi S25 = wpsi S13 := by rw [← hS27]; exact wpsiX.setf rfl
  have h89 : wpsi S13 = wpsi S4 := wpsiX.fr hF19 rfl rfl
  have h90 : wpsi S4 = wpsi S := by rw [← hS6]; exact wpsiX.setf rfl
  refine r_call (i := 39) (u := 11) (v := 192) (w := 0) (b := 0) (na := 514) (C2 := xC192) (as := [(2, 43), (6, 70)]) (s := []) rfl rfl rfl rfl rfl rfl rfl (sp192 (s := 70) hI65 ⟨by decide, by decide⟩ (by omega) (by omega) (by omega) (by omega) e70 (by omega)) (fun r91 S92 hq93 => ?_)
  obtain ⟨z94, rfl, h95, h96, h97, h98, h99, mi100, e101, hI102, hF103, hR104⟩ := hq93
  have hF105 := hF68.trans hF103 rfl rfl
  have hR106 := hR69.trans hR104 rfl
  refine Or.inr (Or.inl ⟨rfl, ?_⟩)
  refine r_store (i := 40) (u := 2) (w := 0) (L1 := [some ((2, 43)), some (vi lc), some (vi z94)]) rfl rfl rfl rfl ?_
  refine r_load (i := 41) (u := 0) (w := 2) rfl rfl rfl ?_
  refine r_load (i := 42) (u := 2) (w := 0) rfl rfl rfl ?_
  have h107 := hI102.f tf43_43
  have h108 : S92.f 43 43 = S60.f 43 43 := hF103.f rfl
  refine r_call (i := 43) (u := 11) (v := 257) (w := 0) (b := 0) (na := 514) (C2 := xC257) (as := [(2, 43), vi z94]) (s := []) rfl rfl rfl rfl rfl rfl rfl (sp257 (v := z94) hI102 ⟨by omega, by omega⟩ (by omega)  (by omega)) (fun r109 S110 hq111 => ?_)
  obtain ⟨rfl, h112, h113, mq114, hI115, hF116, hR117⟩ := hq111
  have hF118 := hF105.trans hF116 rfl rfl
  have hR119 := hR106.trans hR117 rfl
  have e120 := wLVx.fr e101 hF116 rfl rfl
  refine Or.inl ⟨rfl, ?_⟩
  refine r_load (i := 44) (u := 0) (w := 2) rfl rfl rfl ?_
  refine r_const (i := 45) (u := 89) (z := 89) rfl rfl ?_
  refine r_const (i := 46) (u := 0) (z := 0) rfl rfl ?_
  refine r_const (i := 47) (u := 1) (z := 1) rfl rfl ?_
  have h121 := hI115.f tf43_43
  refine r_call (i := 48) (u := 11) (v := 250) (w := 0) (b := 0) (na := 1028) (C2 := xC250) (as := [(2, 43), vi 89, vi 0, vi 1]) (s := []) rfl rfl rfl rfl rfl rfl rfl (sp250 (b0 := 89) (off := 0) (on := 1) hI115 ⟨by omega, by omega⟩ ⟨by omega, by omega⟩ ⟨by omega, by omega⟩ (by omega)  (by omega)) (fun r122 S123 hq124 => ?_)
  obtain ⟨rfl, h125, h126, mq127, hI128, hF129, hR130⟩ := hq124
  have hF131 := hF118.trans hF129 rfl rfl
  have hR132 := hR119.trans hR130 rfl
  have e133 := wLVx.fr e120 hF129 rfl rfl
  refine Or.inl ⟨rfl, ?_⟩
  refine r_load (i := 49) (u := 0) (w := 2) rfl rfl rfl ?_
  refine r_const (i := 50) (u := 25) (z := 25) rfl rfl ?_
  refine r_const (i := 51) (u := 0) (z := 0) rfl rfl ?_
  refine r_const (i := 52) (u := 1) (z := 1) rfl rfl ?_
  have h134 := hI128.f tf43_43
  refine r_call (i := 53) (u := 11) (v := 250) (w := 0) (b := 0) (na := 1028) (C2 := xC250) (as := [(2, 43), vi 25, vi 0, vi 1]) (s := []) rfl rfl rfl rfl rfl rfl rfl (sp250 (b0 := 25) (off := 0) (on := 1) hI128 ⟨by omega, by omega⟩ ⟨by omega, by omega⟩ ⟨by omega, by omega⟩ (by omega)  (by omega)) (fun r135 S136 hq137 => ?_)
  obtain ⟨rfl, h138, h139, mq140, hI141, hF142, hR143⟩ := hq137
  have hF144 := hF131.trans hF142 rfl rfl
  have hR145 := hR132.trans hR143 rfl
  have e146 := wLVx.fr e133 hF142 rfl rfl
  refine Or.inl ⟨rfl, ?_⟩
  refine r_load (i := 54) (u := 0) (w := 2) rfl rfl rfl ?_
  refine r_load (i := 55) (u := 1) (w := 0) rfl rfl rfl ?_
  have h147 := hI141.f tf43_43
  refine r_call (i := 56) (u := 11) (v := 224) (w := 0) (b := 0) (na := 514) (C2 := xC224) (as := [(2, 43), vi lc]) (s := []) rfl rfl rfl rfl rfl rfl rfl (sp224 (v := lc) hI141 ⟨by omega, by omega⟩ (by omega)  (by omega)) (fun r148 S149 hq150 => ?_)
  obtain ⟨rfl, h151, h152, mq153, hI154, hF155, hR156⟩ := hq150
  have hF157 := hF144.trans hF155 rfl rfl
  have hR158 := hR145.trans hR156 rfl
  have e159 := wLVx.fr e146 hF155 rfl rfl
  refine Or.inl ⟨rfl, ?_⟩
  refine r_load (i := 57) (u := 0) (w := 2) rfl rfl rfl ?_
  refine r_const (i := 58) (u := 183) (z := 183) rfl rfl ?_
  refine r_const (i := 59) (u := 2) (z := 2) rfl rfl ?_
  refine r_const (i := 60) (u := 0) (z := 0) rfl rfl ?_
  have h160 := hI154.f tf43_43
  refine r_call (i := 61) (u := 11) (v := 250) (w := 0) (b := 0) (na := 1028) (C2 := xC250) (as := [(2, 43), vi 183, vi 2, vi 0]) (s := []) rfl rfl rfl rfl rfl rfl rfl (sp250 (b0 := 183) (off := 2) (on := 0) hI154 ⟨by omega, by omega⟩ ⟨by omega, by omega⟩ ⟨by omega, by omega⟩ (by omega)  (by omega)) (fun r161 S162 hq163 => ?_)
  obtain ⟨rfl, h164, h165, mq166, hI167, hF168, hR169⟩ := hq163
  have hF170 := hF157.trans hF168 rfl rfl
  have hR171 := hR158.trans hR169 rfl
  have e172 := wLVx.fr e159 hF168 rfl rfl
  refine Or.inl ⟨rfl, ?_⟩
  refine r_load (i := 62) (u := 0) (w := 2) rfl rfl rfl ?_
  refine r_load (i := 63) (u := 0) (w := 2) rfl rfl rfl ?_
  refine r_const (i := 64) (u := 10) (z := 10) rfl rfl ?_
  refine r_load (i := 65) (u := 2) (w := 0) rfl rfl rfl ?_
  refine r_str (i := 66) (v := 48) rfl ?_
  have h173 := slv48
  refine r_str (i := 67) (v := 71) rfl ?_
  have h174 := slv71
  have h175 := hI167.f tf43_51
  have h176 : S162.f 43 51 = S149.f 43 51 := hF168.f rfl
  have h177 : S149.f 43 51 = S136.f 43 51 := hF155.f rfl
  have h178 : S136.f 43 51 = S123.f 43 51 := hF142.f rfl
  have h179 : S123.f 43 51 = S110.f 43 51 := hF129.f rfl
  have h180 : S110.f 43 51 = S92.f 43 51 := hF116.f rfl
  have h181 : wphi S162 = wphi S149 := wphiX.fr hF168 rfl rfl
  have h182 : wphi S149 = wphi S136 := wphiX.fr hF155 rfl rfl
  have h183 : wphi S136 = wphi S123 := wphiX.fr hF142 rfl rfl
  have h184 : wphi S123 = wphi S110 := wphiX.fr hF129 rfl rfl
  have h185 : wphi S110 = wphi S92 := wphiX.fr hF116 rfl rfl
  have h186 : wpsi S162 = wpsi S149 := wpsiX.fr hF168 rfl rfl
  have h187 : wpsi S149 = wpsi S136 := wpsiX.fr hF155 rfl rfl
  have h188 : wpsi S136 = wpsi S123 := wpsiX.fr hF142 rfl rfl
  have h189 : wpsi S123 = wpsi S110 := wpsiX.fr hF129 rfl rfl
  have h190 : wpsi S110 = wpsi S92 := wpsiX.fr hF116 rfl rfl
  refine r_call (i := 68) (u := 11) (v := 218) (w := 0) (b := 0) (na := 1797) (C2 := xC218) (as := [(2, 43), vi 10, vi z94, (6, 48), (6, 71)]) (s := [(2, 43)]) rfl rfl rfl rfl rfl rfl rfl (sp218 (w0 := 10) (ow := z94) (s1 := 48) (s2 := 71) hI167 ⟨by omega, by omega⟩ ⟨by omega, by omega⟩ ⟨by decide, by decide⟩ ⟨by decide, by decide⟩ (by omega) (by omega) (by omega) (by omega) (by omega) e172 (by omega)) (fun r191 S192 hq193 => ?_)
  obtain ⟨z194, rfl, h195, h196, h197, h198, h199, mm200, e201, hI202, hF203, hR204⟩ := hq193
  have hF205 := hF170.trans hF203 rfl rfl
  have hR206 := hR171.trans hR204 rfl
  refine Or.inr (Or.inl ⟨rfl, ?_⟩)
  have h207 := hI202.f tf43_43
  have h208 : S192.f 43 43 = S162.f 43 43 := hF203.f rfl
  refine r_call (i := 69) (u := 11) (v := 257) (w := 0) (b := 0) (na := 514) (C2 := xC257) (as := [(2, 43), vi z194]) (s := []) rfl rfl rfl rfl rfl rfl rfl (sp257 (v := z194) hI202 ⟨by omega, by omega⟩ (by omega)  (by omega)) (fun r209 S210 hq211 => ?_)
  obtain ⟨rfl, h212, h213, mq214, hI215, hF216, hR217⟩ := hq211
  have hF218 := hF205.trans hF216 rfl rfl
  have hR219 := hR206.trans hR217 rfl
  have e220 := wLVx.fr e201 hF216 rfl rfl
  refine Or.inl ⟨rfl, ?_⟩
  refine r_load (i := 70) (u := 0) (w := 2) rfl rfl rfl ?_
  refine r_const (i := 71) (u := 191) (z := 191) rfl rfl ?_
  refine r_const (i := 72) (u := 1) (z := 1) rfl rfl ?_
  refine r_const (i := 73) (u := 0) (z := 0) rfl rfl ?_
  have h221 := hI215.f tf43_43
  refine r_call (i := 74) (u := 11) (v := 250) (w := 0) (b := 0) (na := 1028) (C2 := xC250) (as := [(2, 43), vi 191, vi 1, vi 0]) (s := []) rfl rfl rfl rfl rfl rfl rfl (sp250 (b0 := 191) (off := 1) (on := 0) hI215 ⟨by omega, by omega⟩ ⟨by omega, by omega⟩ ⟨by omega, by omega⟩ (by omega)  (by omega)) (fun r222 S223 hq224 => ?_)
  obtain ⟨rfl, h225, h226, mq227, hI228, hF229, hR230⟩ := hq224
  have hF231 := hF218.trans hF229 rfl rfl
  have hR232 := hR219.trans hR230 rfl
  have e233 := wLVx.fr e220 hF229 rfl rfl
  refine Or.inl ⟨rfl, ?_⟩
  have h234 := hI228.f tf43_43
  have h235 := hI228.f tf43_51
  have h236 : S223.f 43 51 = S210.f 43 51 := hF229.f rfl
  have h237 : S210.f 43 51 = S192.f 43 51 := hF216.f rfl
  have h238 : wphi S223 = wphi S210 := wphiX.fr hF229 rfl rfl
  have h239 : wphi S210 = wphi S192 := wphiX.fr hF216 rfl rfl
  have h240 : wpsi S223 = wpsi S210 := wpsiX.fr hF229 rfl rfl
  have h241 : wpsi S210 = wpsi S192 := wpsiX.fr hF216 rfl rfl
  exact r_ret0 (i := 75) rfl ⟨rfl, (by omega), (by omega), (by omega), (by omega), (by omega), (by intro w9 hw0; have hwq := q_5 _ hw0; have e9 : dp = max w9.2.2.2.1 1 := q_6.trans (by rw [show S.f 43 53 = w9.2.2.2.1 from hwq.2.2.2.1]); have hw1 := mQ_53 hS6 _ hwq; have hw2 := mq17 _ hw1; have hw3 := mQ_52 hS27 _ hw2; have hw4 := mq38 _ hw3; have hw5 := mq51 _ hw4; have hw6 := mq64 _ hw5; obtain ⟨hw7, ew7⟩ := mi100 _ hw6; have hw8 := mq114 _ hw7; have hw9 := mq127 _ hw8; have hw10 := mq140 _ hw9; have hw11 := mq153 _ hw10; have hw12 := mq166 _ hw11; obtain ⟨hw13, ew13⟩ := mm200 (by omega) (by omega) _ hw12; have hw14 := mq214 _ hw13; have hw15 := mq227 _ hw14; rw [e9] at hw15; rw [e9] at ew7; rw [e9] at ew13; subst ew7; subst ew13; exact mW_c hw15 wre_m), e233, hI228, hF231, hR232⟩
/-- ProxyForgeModel.throwOn -/
theorem sp254 {G : xk} {S : yS} {d : Nat} (hI : yI S) {lc : Int} (h_lc : 0 ≤ lc ∧ lc ≤ 12) (p_0 : S.f 43 43 ≤ 23800) (p_1 : S.f 43 51 = 0) (p_2 : wphi S ≤ 19900) (p_3 : wpsi S ≤ 1120) (e_wLV : wLV S) (hd : 7 ≤ d) : yT xPr G LY xC254 0 [some ((2, 43)), some (vi lc)] [] S d (fun r S' => r = (0, (0, 0)) ∧ S.f 43 43 + 13 ≤ S'.f 43 43 ∧ S'.f 43 43 ≤ S.f 43 43 + 13 ∧ S'.f 43 51 = 0 ∧ wphi S' ≤ wphi S + 10 ∧ wpsi S' ≤ wpsi S + 2 ∧ mQ S S' (wre lc) ∧ wLV S' ∧ yI S' ∧ yFr [(43, 43), (43, 49), (43, 50), (43, 51), (43, 52), (43, 53)] [72, 73, 74, 75, 76, 77] S S' ∧ yRm [] S S') := by
  refine yT_pad 1 ?_
  show yT xPr G LY xC254 0 [some ((2, 43)), some (vi lc), none] [] S d _
  obtain ⟨d, rfl⟩ : ∃ q, d = q + 1 := ⟨d - 1, by omega⟩
  have hF : yFr [(43, 43), (43, 49), (43, 50), (43, 51), (43, 52), (43, 53)] [72, 73, 74, 75, 76, 77] S S := yFr.refl S
  have hR : yRm [] S S := yRm.refl S
  have h1 := hI.f tf43_43
  have h2 := hI.f tf43_51
  refine r_load (i := 0) (u := 0) (w := 2) rfl rfl rfl ?_
  refine r_const (i := 1) (u := 0) (z := 0) rfl rfl ?_
  rw [vi_sg (0)]
  have h3 := ysg_rg (0)
  refine r_putI (i := 2) (v := 52) (w := 11) rfl ly43 rfl ⟨by omega, by omega⟩ ?_
  have hI5 := hI.setf0 (b := 43) (w := 52) (z := ysg 0) rfl rfl
  have hF7 := hF.setf (b := 43) (w := 52) (z := ysg 0) rfl
  have hR8 := hR.setf (b := 43) (w := 52) (z := ysg 0)
  have e9 := wLVx.setf e_wLV (b := 43) (w := 52) (z := ysg 0) rfl
  refine yT_gen (fun S4 hS6 => ?_)
  rw [hS6] at hI5 hF7 hR8 e9
  refine r_load (i := 3) (u := 0) (w := 2) rfl rfl rfl ?_
  refine r_const (i := 4) (u := 1) (z := 1) rfl rfl ?_
  rw [vi_sg (1)]
  have h10 := ysg_rg (1)
  refine r_putI (i := 5) (v := 52) (w := 11) rfl ly43 rfl ⟨by omega, by omega⟩ ?_
  have hI12 := hI5.setf0 (b := 43) (w := 52) (z := ysg 1) rfl rfl
  have hF14 := hF7.setf (b := 43) (w := 52) (z := ysg 1) rfl
  have hR15 := hR8.setf (b := 43) (w := 52) (z := ysg 1)
  have e16 := wLVx.setf e9 (b := 43) (w := 52) (z := ysg 1) rfl
  refine yT_gen (fun S11 hS13 => ?_)
  rw [hS13] at hI12 hF14 hR15 e16
  refine r_load (i := 6) (u := 0) (w := 2) rfl rfl rfl ?_
  refine r_load (i := 7) (u := 0) (w := 2) rfl rfl rfl ?_
  have h17 := hI12.f tf43_53
  have h18 : S11.f 43 53 = S4.f 43 53 := by rw [← hS13]; exact ysf_ne (by decide)
  have h19 : S4.f 43 53 = S.f 43 53 := by rw [← hS6]; exact ysf_ne (by decide)
  refine r_getf (i := 8) (v := 53) (w := 11) (x := vi (S11.f 43 53)) rfl ly43 rfl rfl fun h20 => ?_
  have h20 : Rg (S11.f 43 53) := h20
  refine r_const (i := 9) (u := 1) (z := 1) rfl rfl ?_
  refine c_le (i := 10) (v := 14) rfl ⟨by omega, by omega⟩ ⟨by omega, by omega⟩ (fun h21 => ?_) (fun h22 => ?_)
  · refine r_const (i := 14) (u := 1) (z := 1) rfl rfl ?_
    have h23 := hI12.f tf43_43
    have h24 : S11.f 43 43 = S4.f 43 43 := by rw [← hS13]; exact ysf_ne (by decide)
    have h25 : S4.f 43 43 = S.f 43 43 := by rw [← hS6]; exact ysf_ne (by decide)
    have h26 := hI12.f tf43_51
    have h27 : S11.f 43 51 = S4.f 43 51 := by rw [← hS13]; exact ysf_ne (by decide)
    have h28 : S4.f 43 51 = S.f 43 51 := by rw [← hS6]; exact ysf_ne (by decide)
    have h29 : wphi S11 = wphi S4 := by rw [← hS13]; exact wphiX.setf rfl
    have h30 : wphi S4 = wphi S := by rw [← hS6]; exact wphiX.setf rfl
    have h31 : wpsi S11 = wpsi S4 := by rw [← hS13]; exact wpsiX.setf rfl
    have h32 : wpsi S4 = wpsi S := by rw [← hS6]; exact wpsiX.setf rfl
    exact lp254_15 h_lc p_0 p_1 p_2 p_3 hd S11 hI12 hF14 hR15 e16 1 ⟨by omega, by omega⟩ (by omega) (by omega) (by omega) (by omega) (by omega) (by intro w9 hw0; have hw1 := mQ_52 hS6 _ hw0; have hw2 := mQ_52 hS13 _ hw1; exact mW_c hw2 (rfl)) (by omega) 
  · refine r_load (i := 11) (u := 0) (w := 2) rfl rfl rfl ?_
    refine r_getf (i := 12) (v := 53) (w := 11) (x := vi (S11.f 43 53)) rfl ly43 rfl rfl fun h33 => ?_
    have h33 : Rg (S11.f 43 53) := h33
    refine r_goto (i := 13) (v := 15) rfl ?_
    have h34 := hI12.f tf43_43
    have h35 : S11.f 43 43 = S4.f 43 43 := by rw [← hS13]; exact ysf_ne (by decide)
    have h36 : S4.f 43 43 = S.f 43 43 := by rw [← hS6]; exact ysf_ne (by decide)
    have h37 := hI12.f tf43_51
    have h38 : S11.f 43 51 = S4.f 43 51 := by rw [← hS13]; exact ysf_ne (by decide)
    have h39 : S4.f 43 51 = S.f 43 51 := by rw [← hS6]; exact ysf_ne (by decide)
    have h40 : wphi S11 = wphi S4 := by rw [← hS13]; exact wphiX.setf rfl
    have h41 : wphi S4 = wphi S := by rw [← hS6]; exact wphiX.setf rfl
    have h42 : wpsi S11 = wpsi S4 := by rw [← hS13]; exact wpsiX.setf rfl
    have h43 : wpsi S4 = wpsi S := by rw [← hS6]; exact wpsiX.setf rfl
    exact lp254_15 h_lc p_0 p_1 p_2 p_3 hd S11 hI12 hF14 hR15 e16 (S11.f 43 53) ⟨by omega, by omega⟩ (by omega) (by omega) (by omega) (by omega) (by omega) (by intro w9 hw0; have hw1 := mQ_52 hS6 _ hw0; have hw2 := mQ_52 hS13 _ hw1; exact mW_c hw2 (rfl)) (by omega) 
/-- ProxyForgeModel.beginCode -/
theorem sp185 {G : xk} {S : yS} {d : Nat} (hI : yI S) {lc : Int} (h_lc : 0 ≤ lc ∧ lc ≤ 12) (p_0 : S.f 43 43 ≤ 23800) (p_1 : S.f 43 51 = 0) (p_2 : wphi S ≤ 19900) (p_3 : wpsi S ≤ 1120) (e_wLV : wLV S) (hd : 6 ≤ d) : yT xPr G LY xC185 0 [some ((2, 43)), some (vi lc)] [] S d (fun r S' => ∃ z : Int, r = (1, vi z) ∧ 0 ≤ z ∧ z ≤ 23900 ∧ S.f 43 43 + 14 ≤ S'.f 43 43 ∧ S'.f 43 43 ≤ S.f 43 43 + 14 ∧ S'.f 43 51 = 0 ∧ wphi S' ≤ wphi S ∧ wpsi S' ≤ wpsi S ∧ z = S'.f 43 43 - 14 ∧ mQ S S' (wsc lc) ∧ wLV S' ∧ yI S' ∧ yFr [(43, 43), (43, 49), (43, 50), (43, 51), (43, 52), (43, 53)] [72, 73, 74, 75, 76, 77] S S' ∧ yRm [] S S') := by
  refine yT_pad 1 ?_
  show yT xPr G LY xC185 0 [some ((2, 43)), some (vi lc), none] [] S d _
  obtain ⟨d, rfl⟩ : ∃ q, d = q + 1 := ⟨d - 1, by omega⟩
  have hF : yFr [(43, 43), (43, 49), (43, 50), (43, 51), (43, 52), (43, 53)] [72, 73, 74, 75, 76, 77] S S := yFr.refl S
  have hR : yRm [] S S := yRm.refl S
  have h1 := hI.f tf43_43
  have h2 := hI.f tf43_51
  refine r_load (i := 0) (u := 0) (w := 2) rfl rfl rfl ?_
  refine r_load (i := 1) (u := 0) (w := 2) rfl rfl rfl ?_
  refine r_str (i := 2) (v := 49) rfl ?_
  have h3 := slv49
  refine r_call (i := 3) (u := 11) (v := 252) (w := 0) (b := 0) (na := 514) (C2 := xC252) (as := [(2, 43), (6, 49)]) (s := [(2, 43)]) rfl rfl rfl rfl rfl rfl rfl (sp252 (s := 49) hI ⟨by decide, by decide⟩ (by omega) (by omega) (by omega) (by omega) e_wLV (by omega)) (fun r4 S5 hq6 => ?_)
  obtain ⟨z7, rfl, h8, h9, h10, h11, h12, fm13, mi14, e15, hI16, hF17, hR18⟩ := hq6
  have hF19 := hF.trans hF17 rfl rfl
  have hR20 := hR.trans hR18 rfl
  refine Or.inr (Or.inl ⟨rfl, ?_⟩)
  have h21 := hI16.f tf43_43
  have h22 : S5.f 43 43 = S.f 43 43 := hF17.f rfl
  refine r_call (i := 4) (u := 11) (v := 257) (w := 0) (b := 0) (na := 514) (C2 := xC257) (as := [(2, 43), vi z7]) (s := []) rfl rfl rfl rfl rfl rfl rfl (sp257 (v := z7) hI16 ⟨by omega, by omega⟩ (by omega)  (by omega)) (fun r23 S24 hq25 => ?_)
  obtain ⟨rfl, h26, h27, mq28, hI29, hF30, hR31⟩ := hq25
  have hF32 := hF19.trans hF30 rfl rfl
  have hR33 := hR20.trans hR31 rfl
  have e34 := wLVx.fr e15 hF30 rfl rfl
  refine Or.inl ⟨rfl, ?_⟩
  refine r_load (i := 5) (u := 0) (w := 2) rfl rfl rfl ?_
  have h35 := hI29.f tf43_43
  refine r_getf (i := 6) (v := 43) (w := 11) (x := vi (S24.f 43 43)) rfl ly43 rfl rfl fun h36 => ?_
  have h36 : Rg (S24.f 43 43) := h36
  refine r_store (i := 7) (u := 2) (w := 0) (L1 := [some ((2, 43)), some (vi lc), some (vi (S24.f 43 43))]) rfl rfl rfl rfl ?_
  refine r_load (i := 8) (u := 0) (w := 2) rfl rfl rfl ?_
  refine r_const (i := 9) (u := 0) (z := 0) rfl rfl ?_
  refine r_call (i := 10) (u := 11) (v := 204) (w := 0) (b := 0) (na := 514) (C2 := xC204) (as := [(2, 43), vi 0]) (s := []) rfl rfl rfl rfl rfl rfl rfl (sp204 (v := 0) hI29 ⟨by omega, by omega⟩ (by omega)  (by omega)) (fun r37 S38 hq39 => ?_)
  obtain ⟨rfl, h40, h41, mq42, hI43, hF44, hR45⟩ := hq39
  have hF46 := hF32.trans hF44 rfl rfl
  have hR47 := hR33.trans hR45 rfl
  have e48 := wLVx.fr e34 hF44 rfl rfl
  refine Or.inl ⟨rfl, ?_⟩
  refine r_load (i := 11) (u := 0) (w := 2) rfl rfl rfl ?_
  refine r_const (i := 12) (u := 0) (z := 0) rfl rfl ?_
  have h49 := hI43.f tf43_43
  refine r_call (i := 13) (u := 11) (v := 257) (w := 0) (b := 0) (na := 514) (C2 := xC257) (as := [(2, 43), vi 0]) (s := []) rfl rfl rfl rfl rfl rfl rfl (sp257 (v := 0) hI43 ⟨by omega, by omega⟩ (by omega)  (by omega)) (fun r50 S51 hq52 => ?_)
  obtain ⟨rfl, h53, h54, mq55, hI56, hF57, hR58⟩ := hq52
  have hF59 := hF46.trans hF57 rfl rfl
  have hR60 := hR47.trans hR58 rfl
  have e61 := wLVx.fr e48 hF57 rfl rfl
  refine Or.inl ⟨rfl, ?_⟩
  refine r_load (i := 14) (u := 0) (w := 2) rfl rfl rfl ?_
  refine r_load (i := 15) (u := 1) (w := 0) rfl rfl rfl ?_
  have h62 := hI56.f tf43_43
  refine r_call (i := 16) (u := 11) (v := 257) (w := 0) (b := 0) (na := 514) (C2 := xC257) (as := [(2, 43), vi lc]) (s := []) rfl rfl rfl rfl rfl rfl rfl (sp257 (v := lc) hI56 ⟨by omega, by omega⟩ (by omega)  (by omega)) (fun r63 S64 hq65 => ?_)
  obtain ⟨rfl, h66, h67, mq68, hI69, hF70, hR71⟩ := hq65
  have hF72 := hF59.trans hF70 rfl rfl
  have hR73 := hR60.trans hR71 rfl
  have e74 := wLVx.fr e61 hF70 rfl rfl
  refine Or.inl ⟨rfl, ?_⟩
  refine r_load (i := 17) (u := 0) (w := 2) rfl rfl rfl ?_
  refine r_const (i := 18) (u := 0) (z := 0) rfl rfl ?_
  have h75 := hI69.f tf43_43
  refine r_call (i := 19) (u := 11) (v := 204) (w := 0) (b := 0) (na := 514) (C2 := xC204) (as := [(2, 43), vi 0]) (s := []) rfl rfl rfl rfl rfl rfl rfl (sp204 (v := 0) hI69 ⟨by omega, by omega⟩ (by omega)  (by omega)) (fun r76 S77 hq78 => ?_)
  obtain ⟨rfl, h79, h80, mq81, hI82, hF83, hR84⟩ := hq78
  have hF85 := hF72.trans hF83 rfl rfl
  have hR86 := hR73.trans hR84 rfl
  have e87 := wLVx.fr e74 hF83 rfl rfl
  refine Or.inl ⟨rfl, ?_⟩
  refine r_load (i := 20) (u := 0) (w := 2) rfl rfl rfl ?_
  refine r_const (i := 21) (u := 0) (z := 0) rfl rfl ?_
  rw [vi_sg (0)]
  have h88 := ysg_rg (0)
  refine r_putI (i := 22) (v := 52) (w := 11) rfl ly43 rfl ⟨by omega, by omega⟩ ?_
  have hI90 := hI82.setf0 (b := 43) (w := 52) (z := ysg 0) rfl rfl
  have hF92 := hF85.setf (b := 43) (w := 52) (z := ysg 0) rfl
  have hR93 := hR86.setf (b := 43) (w := 52) (z := ysg 0)
  have e94 := wLVx.setf e87 (b := 43) (w := 52) (z := ysg 0) rfl
  refine yT_gen (fun S89 hS91 => ?_)
  rw [hS91] at hI90 hF92 hR93 e94
  refine r_load (i := 23) (u := 0) (w := 2) rfl rfl rfl ?_
  refine r_const (i := 24) (u := 0) (z := 0) rfl rfl ?_
  refine r_putI (i := 25) (v := 53) (w := 11) rfl ly43 rfl ⟨by omega, by omega⟩ ?_
  have hI96 := hI90.setf (b := 43) (w := 53) (z := 0) tf43_53 rfl (by omega) (by omega)
  have hF98 := hF92.setf (b := 43) (w := 53) (z := 0) rfl
  have hR99 := hR93.setf (b := 43) (w := 53) (z := 0)
  have e100 := wLVx.setf e94 (b := 43) (w := 53) (z := 0) rfl
  refine yT_gen (fun S95 hS97 => ?_)
  rw [hS97] at hI96 hF98 hR99 e100
  refine r_load (i := 26) (u := 2) (w := 0) rfl rfl rfl ?_
  refine r_const (i := 27) (u := 2) (z := 2) rfl rfl ?_
  refine r_isub (i := 28) rfl ?_
  have h101 := hI96.f tf43_43
  have h102 : S95.f 43 43 = S89.f 43 43 := by rw [← hS97]; exact ysf_ne (by decide)
  have h103 : S89.f 43 43 = S77.f 43 43 := by rw [← hS91]; exact ysf_ne (by decide)
  have h104 := hI96.f tf43_51
  have h105 : S95.f 43 51 = S89.f 43 51 := by rw [← hS97]; exact ysf_ne (by decide)
  have h106 : S89.f 43 51 = S77.f 43 51 := by rw [← hS91]; exact ysf_ne (by decide)
  have h107 : S77.f 43 51 = S64.f 43 51 := hF83.f rfl
  have h108 : S64.f 43 51 = S51.f 43 51 := hF70.f rfl
  have h109 : S51.f 43 51 = S38.f 43 51 := hF57.f rfl
  have h110 : S38.f 43 51 = S24.f 43 51 := hF44.f rfl
  have h111 : S24.f 43 51 = S5.f 43 51 := hF30.f rfl
  have h112 : wphi S95 = wphi S89 := by rw [← hS97]; exact wphiX.setf rfl
  have h113 : wphi S89 = wphi S77 := by rw [← hS91]; exact wphiX.setf rfl
  have h114 : wphi S77 = wphi S64 := wphiX.fr hF83 rfl rfl
  have h115 : wphi S64 = wphi S51 := wphiX.fr hF70 rfl rfl
  have h116 : wphi S51 = wphi S38 := wphiX.fr hF57 rfl rfl
  have h117 : wphi S38 = wphi S24 := wphiX.fr hF44 rfl rfl
  have h118 : wphi S24 = wphi S5 := wphiX.fr hF30 rfl rfl
  have h119 : wpsi S95 = wpsi S89 := by rw [← hS97]; exact wpsiX.setf rfl
  have h120 : wpsi S89 = wpsi S77 := by rw [← hS91]; exact wpsiX.setf rfl
  have h121 : wpsi S77 = wpsi S64 := wpsiX.fr hF83 rfl rfl
  have h122 : wpsi S64 = wpsi S51 := wpsiX.fr hF70 rfl rfl
  have h123 : wpsi S51 = wpsi S38 := wpsiX.fr hF57 rfl rfl
  have h124 : wpsi S38 = wpsi S24 := wpsiX.fr hF44 rfl rfl
  have h125 : wpsi S24 = wpsi S5 := wpsiX.fr hF30 rfl rfl
  exact r_retI (i := 29) rfl ⟨(S24.f 43 43) - 2, rfl, by omega, by omega, (by omega), (by omega), (by omega), (by omega), (by omega), (by omega), (by intro w9 hw0; obtain ⟨hw1, ew1⟩ := mi14 _ hw0; have hw2 := mq28 _ hw1; have hw3 := mq42 _ hw2; have hw4 := mq55 _ hw3; have hw5 := mq68 _ hw4; have hw6 := mq81 _ hw5; have hw7 := mQ_52 hS91 _ hw6; have hw8 := mQ_53 hS97 _ hw7; subst ew1; exact mW_c hw8 (wsc_m)), e100, hI96, hF98, hR99⟩
theorem lp198_103 {G : xk} {d : Nat} {S0 : yS} {bg : Int} (h_bg : 0 ≤ bg ∧ bg ≤ 23900) {h : Int} (h_h : -1 ≤ h ∧ h ≤ 23900) {k : Int} (h_k : 0 ≤ k ∧ k ≤ 23) (p_0 : S0.f 43 43 ≤ 23500) (p_1 : S0.f 43 51 = 0) (p_2 : wphi S0 ≤ 19900) (p_3 : wpsi S0 ≤ 1120) (p_4 : bg + 14 ≤ S0.f 43 43) (hd : 7 ≤ d + 1) {st : Int} (h_st : 2 ≤ st ∧ st ≤ 23500) {hn1 : Int} (h_hn1 : 0 ≤ hn1 ∧ hn1 ≤ 6) {i0 : Int} (h_i0 : 0 ≤ i0 ∧ i0 ≤ 5) (no : Nat) (K : ∀ (S : yS) (hI : yI S) (hF : yFr [(43, 43), (43, 49), (43, 50), (43, 51)] [72, 73, 74, 75, 76, 77] S0 S) (hR : yRm [] S0 S) (e_wLV : wLV S) (st hn1 i0 : Int) (h_st : 2 ≤ st ∧ st ≤ 23500) (h_hn1 : 0 ≤ hn1 ∧ hn1 ≤ 6) (h_i0 : 0 ≤ i0 ∧ i0 ≤ 6) (q_0 : S0.f 43 43 ≤ S.f 43 43 ∧ S.f 43 43 ≤ S0.f 43 43 + 2 + 8 * i0) (q_1 : S.f 43 51 = 0) (q_2 : wphi S ≤ wphi S0) (q_3 : wpsi S ≤ wpsi S0) (q_4 : S0.f 43 43 ≤ 23500 ∧ wphi S0 ≤ 19900 ∧ wpsi S0 ≤ 1120) (q_5 : bg + 14 ≤ S0.f 43 43) (q_6 : (h = -1 → hn1 = 0) ∧ (h ≠ -1 → 3 ≤ hn1)) (q_7 : st = bg + 2) (q_8 : i0 ≤ hn1) (q_9 : mQ S0 S (fun w => hnL (pkR 48 S0) (tmM S0 k) h hn1 i0.toNat (wby (tw hn1) (wei (bg + 6) w)))) (q_10 : hn1 = if h = -1 then 0 else 3 + S0.a 63 k.toNat) (hn : 6 - i0 < (no : Nat)), yT xPr G LY xC198 54 [some ((2, 43)), some (vi bg), some (vi h), some (vi k), some (vi st), none, some (vi hn1), some (vi i0)] [] S (d + 1) (fun r S' => r = (0, (0, 0)) ∧ S0.f 43 43 ≤ S'.f 43 43 ∧ S'.f 43 43 ≤ S0.f 43 43 + 70 ∧ S'.f 43 51 = 0 ∧ wphi S' ≤ wphi S0 ∧ wpsi S' ≤ wpsi S0 ∧ (h = -1 → S'.f 43 43 ≤ S0.f 43 43 + 4) ∧ mQ S0 S' (enW (pkR 48 S0) (tmM S0 k) (bg + 6) h (S0.a 63 k.toNat)) ∧ wLV S' ∧ yI S' ∧ yFr [(43, 43), (43, 49), (43, 50), (43, 51)] [72, 73, 74, 75, 76, 77] S0 S' ∧ yRm [] S0 S')) (hm : 6 - i0 < ((no + 1 : Nat) : Int)) : ∀ (S : yS) (hI : yI S) (hF : yFr [(43, 43), (43, 49), (43, 50), (43, 51)] [72, 73, 74, 75, 76, 77] S0 S) (hR : yRm [] S0 S) (e_wLV : wLV S) (t : Int) (h_t : 0 ≤ t ∧ t ≤ 19) (q_0 : S0.f 43 43 ≤ S.f 43 43 ∧ S.f 43 43 ≤ S0.f 43 43 + 8 + 8 * i0) (q_1 : S.f 43 51 = 0) (q_2 : wphi S ≤ wphi S0) (q_3 : wpsi S ≤ wpsi S0) (q_4 : S0.f 43 43 ≤ 23500 ∧ wphi S0 ≤ 19900 ∧ wpsi S0 ≤ 1120) (q_5 : bg + 14 ≤ S0.f 43 43) (q_6 : (h = -1 → hn1 = 0) ∧ (h ≠ -1 → 3 ≤ hn1)) (q_7 : st = bg + 2) (q_8 : i0 < hn1) (q_9 : mQ S0 S (fun w => wby (tw (if i0 = hn1 - 1 then h + 1 else h)) (wby (tw h) (wby (tw 0) (hnL (pkR 48 S0) (tmM S0 k) h hn1 i0.toNat (wby (tw hn1) (wei (bg + 6) w))))))) (q_10 : hn1 = if h = -1 then 0 else 3 + S0.a 63 k.toNat) (q_11 : (if i0 = hn1 - 1 then h + 1 else h) = if i0 = hn1 - 1 then h + 1 else h) (q_12 : t = tyH (tmM S0 k) hn1 i0), yT xPr G LY xC198 103 [some ((2, 43)), some (vi bg), some (vi h), some (vi k), some (vi st), none, some (vi hn1), some (vi i0)] [vi t, (2, 43), (2, 43)] S (d + 1) (fun r S' => r = (0, (0, 0)) ∧ S0.f 43 43 ≤ S'.f 43 43 ∧ S'.f 43 43 ≤ S0.f 43 43 + 70 ∧ S'.f 43 51 = 0 ∧ wphi S' ≤ wphi S0 ∧ wpsi S' ≤ wpsi S0 ∧ (h = -1 → S'.f 43 43 ≤ S0.f 43 43 + 4) ∧ mQ S0 S' (enW (pkR 48 S0) (tmM S0 k) (bg + 6) h (S0.a 63 k.toNat)) ∧ wLV S' ∧ yI S' ∧ yFr [(43, 43), (43, 49), (43, 50), (43, 51)] [72, 73, 74, 75, 76, 77] S0 S' ∧ yRm [] S0 S') := by
  intro S hI hF hR e_wLV t h_t q_0 q_1 q_2 q_3 q_4 q_5 q_6 q_7 q_8 q_9 q_10 q_11 q_12
  have h1 := hI.f tf43_43
  have h2 := hI.f tf43_51
  refine r_call (i := 103) (u := 11) (v := 193) (w := 0) (b := 0) (na := 514) (C2 := xC193) (as := [(2, 43), vi t]) (s := [(2, 43)]) rfl rfl rfl rfl rfl rfl rfl (sp193 (t := t) hI ⟨by omega, by omega⟩ (by omega) (by omega) (by omega) e_wLV (by omega)) (fun r3 S4 hq5 => ?_)
  obtain ⟨z6, rfl, h7, h8, h9, h10, h11, mi12, e13, hI14, hF15, hR16⟩ := hq5
  have hF17 := hF.trans hF15 rfl rfl
  have hR18 := hR.trans hR16 rfl
  refine Or.inr (Or.inl ⟨rfl, ?_⟩)
  have h19 := hI14.f tf43_43
  have h20 : S4.f 43 43 = S.f 43 43 := hF15.f rfl
  refine r_call (i := 104) (u := 11) (v := 257) (w := 0) (b := 0) (na := 514) (C2 := xC257) (as := [(2, 43), vi z6]) (s := []) rfl rfl rfl rfl rfl rfl rfl (sp257 (v := z6) hI14 ⟨by omega, by omega⟩ (by omega)  (by omega)) (fun r21 S22 hq23 => ?_)
  obtain ⟨rfl, h24, h25, mq26, hI27, hF28, hR29⟩ := hq23
  have hF30 := hF17.trans hF28 rfl rfl
  have hR31 := hR18.trans hR29 rfl
  have e32 := wLVx.fr e13 hF28 rfl rfl
  refine Or.inl ⟨rfl, ?_⟩
  refine r_iinc (i := 105) (u := 1) (v := 7) (s := 1) (L1 := [some ((2, 43)), some (vi bg), some (vi h), some (vi k), some (vi st), none, some (vi hn1), some (vi (i0 + 1))]) rfl rfl rfl rfl rfl ?_
  refine r_goto (i := 106) (v := 54) rfl ?_
  have h33 := hI27.f tf43_43
  have h34 := hI27.f tf43_51
  have h35 : S22.f 43 51 = S4.f 43 51 := hF28.f rfl
  have h36 : wphi S22 = wphi S4 := wphiX.fr hF28 rfl rfl
  have h37 : wpsi S22 = wpsi S4 := wpsiX.fr hF28 rfl rfl
  exact K S22 hI27 hF30 hR31 e32 st hn1 (i0 + 1) ⟨by omega, by omega⟩ ⟨by omega, by omega⟩ ⟨by omega, by omega⟩ (by omega) (by omega) (by omega) (by omega) (by omega) (by omega) (by omega) (by omega) (by omega) (by exact hn_st q_9 mi12 (pkR_fr (b := 48) hF rfl) mq26 (by omega) q_11 q_12) (by exact q_10) (by omega)
theorem lp198_74 {G : xk} {d : Nat} {S0 : yS} {bg : Int} (h_bg : 0 ≤ bg ∧ bg ≤ 23900) {h : Int} (h_h : -1 ≤ h ∧ h ≤ 23900) {k : Int} (h_k : 0 ≤ k ∧ k ≤ 23) (p_0 : S0.f 43 43 ≤ 23500) (p_1 : S0.f 43 51 = 0) (p_2 : wphi S0 ≤ 19900) (p_3 : wpsi S0 ≤ 1120) (p_4 : bg + 14 ≤ S0.f 43 43) (hd : 7 ≤ d + 1) {st : Int} (h_st : 2 ≤ st ∧ st ≤ 23500) {hn1 : Int} (h_hn1 : 0 ≤ hn1 ∧ hn1 ≤ 6) {i0 : Int} (h_i0 : 0 ≤ i0 ∧ i0 ≤ 5) (no : Nat) (K : ∀ (S : yS) (hI : yI S) (hF : yFr [(43, 43), (43, 49), (43, 50), (43, 51)] [72, 73, 74, 75, 76, 77] S0 S) (hR : yRm [] S0 S) (e_wLV : wLV S) (st hn1 i0 : Int) (h_st : 2 ≤ st ∧ st ≤ 23500) (h_hn1 : 0 ≤ hn1 ∧ hn1 ≤ 6) (h_i0 : 0 ≤ i0 ∧ i0 ≤ 6) (q_0 : S0.f 43 43 ≤ S.f 43 43 ∧ S.f 43 43 ≤ S0.f 43 43 + 2 + 8 * i0) (q_1 : S.f 43 51 = 0) (q_2 : wphi S ≤ wphi S0) (q_3 : wpsi S ≤ wpsi S0) (q_4 : S0.f 43 43 ≤ 23500 ∧ wphi S0 ≤ 19900 ∧ wpsi S0 ≤ 1120) (q_5 : bg + 14 ≤ S0.f 43 43) (q_6 : (h = -1 → hn1 = 0) ∧ (h ≠ -1 → 3 ≤ hn1)) (q_7 : st = bg + 2) (q_8 : i0 ≤ hn1) (q_9 : mQ S0 S (fun w => hnL (pkR 48 S0) (tmM S0 k) h hn1 i0.toNat (wby (tw hn1) (wei (bg + 6) w)))) (q_10 : hn1 = if h = -1 then 0 else 3 + S0.a 63 k.toNat) (hn : 6 - i0 < (no : Nat)), yT xPr G LY xC198 54 [some ((2, 43)), some (vi bg), some (vi h), some (vi k), some (vi st), none, some (vi hn1), some (vi i0)] [] S (d + 1) (fun r S' => r = (0, (0, 0)) ∧ S0.f 43 43 ≤ S'.f 43 43 ∧ S'.f 43 43 ≤ S0.f 43 43 + 70 ∧ S'.f 43 51 = 0 ∧ wphi S' ≤ wphi S0 ∧ wpsi S' ≤ wpsi S0 ∧ (h = -1 → S'.f 43 43 ≤ S0.f 43 43 + 4) ∧ mQ S0 S' (enW (pkR 48 S0) (tmM S0 k) (bg + 6) h (S0.a 63 k.toNat)) ∧ wLV S' ∧ yI S' ∧ yFr [(43, 43), (43, 49), (43, 50), (43, 51)] [72, 73, 74, 75, 76, 77] S0 S' ∧ yRm [] S0 S')) (hm : 6 - i0 < ((no + 1 : Nat) : Int)) : ∀ (S : yS) (hI : yI S) (hF : yFr [(43, 43), (43, 49), (43, 50), (43, 51)] [72, 73, 74, 75, 76, 77] S0 S) (hR : yRm [] S0 S) (e_wLV : wLV S) (c0 : Int) (h_c0 : 0 ≤ c0 ∧ c0 ≤ 23901) (q_0 : S0.f 43 43 ≤ S.f 43 43 ∧ S.f 43 43 ≤ S0.f 43 43 + 6 + 8 * i0) (q_1 : S.f 43 51 = 0) (q_2 : wphi S ≤ wphi S0) (q_3 : wpsi S ≤ wpsi S0) (q_4 : S0.f 43 43 ≤ 23500 ∧ wphi S0 ≤ 19900 ∧ wpsi S0 ≤ 1120) (q_5 : bg + 14 ≤ S0.f 43 43) (q_6 : (h = -1 → hn1 = 0) ∧ (h ≠ -1 → 3 ≤ hn1)) (q_7 : st = bg + 2) (q_8 : i0 < hn1) (q_9 : mQ S0 S (fun w => wby (tw h) (wby (tw 0) (hnL (pkR 48 S0) (tmM S0 k) h hn1 i0.toNat (wby (tw hn1) (wei (bg + 6) w)))))) (q_10 : hn1 = if h = -1 then 0 else 3 + S0.a 63 k.toNat) (q_11 : c0 = if i0 = hn1 - 1 then h + 1 else h), yT xPr G LY xC198 74 [some ((2, 43)), some (vi bg), some (vi h), some (vi k), some (vi st), none, some (vi hn1), some (vi i0)] [vi c0, (2, 43)] S (d + 1) (fun r S' => r = (0, (0, 0)) ∧ S0.f 43 43 ≤ S'.f 43 43 ∧ S'.f 43 43 ≤ S0.f 43 43 + 70 ∧ S'.f 43 51 = 0 ∧ wphi S' ≤ wphi S0 ∧ wpsi S' ≤ wpsi S0 ∧ (h = -1 → S'.f 43 43 ≤ S0.f 43 43 + 4) ∧ mQ S0 S' (enW (pkR 48 S0) (tmM S0 k) (bg + 6) h (S0.a 63 k.toNat)) ∧ wLV S' ∧ yI S' ∧ yFr [(43, 43), (43, 49), (43, 50), (43, 51)] [72, 73, 74, 75, 76, 77] S0 S' ∧ yRm [] S0 S') := by
  intro S hI hF hR e_wLV c0 h_c0 q_0 q_1 q_2 q_3 q_4 q_5 q_6 q_7 q_8 q_9 q_10 q_11
  have h1 := hI.f tf43_43
  have h2 := hI.f tf43_51
  refine r_call (i := 74) (u := 11) (v := 257) (w := 0) (b := 0) (na := 514) (C2 := xC257) (as := [(2, 43), vi c0]) (s := []) rfl rfl rfl rfl rfl rfl rfl (sp257 (v := c0) hI ⟨by omega, by omega⟩ (by omega)  (by omega)) (fun r3 S4 hq5 => ?_)
  obtain ⟨rfl, h6, h7, mq8, hI9, hF10, hR11⟩ := hq5
  have hF12 := hF.trans hF10 rfl rfl
  have hR13 := hR.trans hR11 rfl
  have e14 := wLVx.fr e_wLV hF10 rfl rfl
  refine Or.inl ⟨rfl, ?_⟩
  refine r_load (i := 75) (u := 0) (w := 2) rfl rfl rfl ?_
  refine r_load (i := 76) (u := 0) (w := 2) rfl rfl rfl ?_
  refine r_load (i := 77) (u := 7) (w := 0) rfl rfl rfl ?_
  refine z_ne (i := 78) (v := 81) rfl ⟨by omega, by omega⟩ (fun h15 => ?_) (fun h16 => ?_)
  · refine r_load (i := 81) (u := 7) (w := 0) rfl rfl rfl ?_
    refine r_const (i := 82) (u := 1) (z := 1) rfl rfl ?_
    refine c_ne (i := 83) (v := 86) rfl ⟨by omega, by omega⟩ ⟨by omega, by omega⟩ (fun h17 => ?_) (fun h18 => ?_)
    · refine r_load (i := 86) (u := 7) (w := 0) rfl rfl rfl ?_
      refine r_load (i := 87) (u := 6) (w := 0) rfl rfl rfl ?_
      refine r_const (i := 88) (u := 1) (z := 1) rfl rfl ?_
      refine r_isub (i := 89) rfl ?_
      refine c_ne (i := 90) (v := 93) rfl ⟨by omega, by omega⟩ ⟨by omega, by omega⟩ (fun h19 => ?_) (fun h20 => ?_)
      · refine r_load (i := 93) (u := 0) (w := 2) rfl rfl rfl ?_
        refine r_getf (i := 94) (v := 25) (w := 11) (x := (2, 62)) rfl ly43 rfl rfl fun _ => ?_
        refine r_const (i := 95) (u := 3) (z := 3) rfl rfl ?_
        refine r_load (i := 96) (u := 3) (w := 0) rfl rfl rfl ?_
        refine r_imul (i := 97) rfl ?_
        refine r_load (i := 98) (u := 7) (w := 0) rfl rfl rfl ?_
        refine r_iadd (i := 99) rfl ?_
        refine r_const (i := 100) (u := 2) (z := 2) rfl rfl ?_
        refine r_isub (i := 101) rfl ?_
        refine a_int (i := 102) rfl ly62 rfl (by omega) (by omega) fun h22 => ?_
        have h23 := hI9.a ta62 (((3 * k) + i0) - 2).toNat
        have h24 : S4.a 62 (((3 * k) + i0) - 2).toNat = S0.a 62 (((3 * k) + i0) - 2).toNat := hF12.a rfl _
        have h25 := hI9.f tf43_43
        have h26 := hI9.f tf43_51
        have h27 : S4.f 43 51 = S.f 43 51 := hF10.f rfl
        have h28 : wphi S4 = wphi S := wphiX.fr hF10 rfl rfl
        have h29 : wpsi S4 = wpsi S := wpsiX.fr hF10 rfl rfl
        exact lp198_103 h_bg h_h h_k p_0 p_1 p_2 p_3 p_4 hd (st := st) (hn1 := hn1) (i0 := i0) ⟨by omega, by omega⟩ ⟨by omega, by omega⟩ ⟨by omega, by omega⟩ no K (by omega) S4 hI9 hF12 hR13 e14 (S4.a 62 (((3 * k) + i0) - 2).toNat) ⟨by omega, by omega⟩ (by omega) (by omega) (by omega) (by omega) (by omega) (by omega) (by omega) (by omega) (by omega) (by have w9 := mQ_tr q_9 mq8; rw [q_11] at w9; exact w9) (by exact q_10) (by rfl) (by first | exact tyH_0 (by omega) | exact tyH_1 (by omega) | exact tyH_l (by omega) (by omega) (by omega) | exact tyH_t (by omega) (by omega) (by omega) (show _ = S0.a 62 (3 * k + (i0 - 2)).toNat from (congrArg (S4.a 62) (congrArg Int.toNat (by omega))).trans ((hF10.a (b := 62) rfl _).trans (hF.a (b := 62) rfl _)))) 
      · refine r_const (i := 91) (u := 1) (z := 1) rfl rfl ?_
        refine r_goto (i := 92) (v := 103) rfl ?_
        have h30 := hI9.f tf43_43
        have h31 := hI9.f tf43_51
        have h32 : S4.f 43 51 = S.f 43 51 := hF10.f rfl
        have h33 : wphi S4 = wphi S := wphiX.fr hF10 rfl rfl
        have h34 : wpsi S4 = wpsi S := wpsiX.fr hF10 rfl rfl
        exact lp198_103 h_bg h_h h_k p_0 p_1 p_2 p_3 p_4 hd (st := st) (hn1 := hn1) (i0 := i0) ⟨by omega, by omega⟩ ⟨by omega, by omega⟩ ⟨by omega, by omega⟩ no K (by omega) S4 hI9 hF12 hR13 e14 1 ⟨by omega, by omega⟩ (by omega) (by omega) (by omega) (by omega) (by omega) (by omega) (by omega) (by omega) (by omega) (by have w9 := mQ_tr q_9 mq8; rw [q_11] at w9; exact w9) (by exact q_10) (by rfl) (by first | exact tyH_0 (by omega) | exact tyH_1 (by omega) | exact tyH_l (by omega) (by omega) (by omega) | exact tyH_t (by omega) (by omega) (by omega) (show _ = S0.a 62 (3 * k + (i0 - 2)).toNat from (congrArg (S4.a 62) (congrArg Int.toNat (by omega))).trans ((hF10.a (b := 62) rfl _).trans (hF.a (b := 62) rfl _)))) 
    · refine r_const (i := 84) (u := 3) (z := 3) rfl rfl ?_
      refine r_goto (i := 85) (v := 103) rfl ?_
      have h35 := hI9.f tf43_43
      have h36 := hI9.f tf43_51
      have h37 : S4.f 43 51 = S.f 43 51 := hF10.f rfl
      have h38 : wphi S4 = wphi S := wphiX.fr hF10 rfl rfl
      have h39 : wpsi S4 = wpsi S := wpsiX.fr hF10 rfl rfl
      exact lp198_103 h_bg h_h h_k p_0 p_1 p_2 p_3 p_4 hd (st := st) (hn1 := hn1) (i0 := i0) ⟨by omega, by omega⟩ ⟨by omega, by omega⟩ ⟨by omega, by omega⟩ no K (by omega) S4 hI9 hF12 hR13 e14 3 ⟨by omega, by omega⟩ (by omega) (by omega) (by omega) (by omega) (by omega) (by omega) (by omega) (by omega) (by omega) (by have w9 := mQ_tr q_9 mq8; rw [q_11] at w9; exact w9) (by exact q_10) (by rfl) (by first | exact tyH_0 (by omega) | exact tyH_1 (by omega) | exact tyH_l (by omega) (by omega) (by omega) | exact tyH_t (by omega) (by omega) (by omega) (show _ = S0.a 62 (3 * k + (i0 - 2)).toNat from (congrArg (S4.a 62) (congrArg Int.toNat (by omega))).trans ((hF10.a (b := 62) rfl _).trans (hF.a (b := 62) rfl _)))) 
  · refine r_const (i := 79) (u := 2) (z := 2) rfl rfl ?_
    refine r_goto (i := 80) (v := 103) rfl ?_
    have h40 := hI9.f tf43_43
    have h41 := hI9.f tf43_51
    have h42 : S4.f 43 51 = S.f 43 51 := hF10.f rfl
    have h43 : wphi S4 = wphi S := wphiX.fr hF10 rfl rfl
    have h44 : wpsi S4 = wpsi S := wpsiX.fr hF10 rfl rfl
    exact lp198_103 h_bg h_h h_k p_0 p_1 p_2 p_3 p_4 hd (st := st) (hn1 := hn1) (i0 := i0) ⟨by omega, by omega⟩ ⟨by omega, by omega⟩ ⟨by omega, by omega⟩ no K (by omega) S4 hI9 hF12 hR13 e14 2 ⟨by omega, by omega⟩ (by omega) (by omega) (by omega) (by omega) (by omega) (by omega) (by omega) (by omega) (by omega) (by have w9 := mQ_tr q_9 mq8; rw [q_11] at w9; exact w9) (by exact q_10) (by rfl) (by first | exact tyH_0 (by omega) | exact tyH_1 (by omega) | exact tyH_l (by omega) (by omega) (by omega) | exact tyH_t (by omega) (by omega) (by omega) (show _ = S0.a 62 (3 * k + (i0 - 2)).toNat from (congrArg (S4.a 62) (congrArg Int.toNat (by omega))).trans ((hF10.a (b := 62) rfl _).trans (hF.a (b := 62) rfl _)))) 
theorem lp198_174 {G : xk} {d : Nat} {S0 : yS} {bg : Int} (h_bg : 0 ≤ bg ∧ bg ≤ 23900) {h : Int} (h_h : -1 ≤ h ∧ h ≤ 23900) {k : Int} (h_k : 0 ≤ k ∧ k ≤ 23) (p_0 : S0.f 43 43 ≤ 23500) (p_1 : S0.f 43 51 = 0) (p_2 : wphi S0 ≤ 19900) (p_3 : wpsi S0 ≤ 1120) (p_4 : bg + 14 ≤ S0.f 43 43) (hd : 7 ≤ d + 1) : ∀ (S : yS) (hI : yI S) (hF : yFr [(43, 43), (43, 49), (43, 50), (43, 51)] [72, 73, 74, 75, 76, 77] S0 S) (hR : yRm [] S0 S) (e_wLV : wLV S) (st hn1 : Int) (h_st : 2 ≤ st ∧ st ≤ 23500) (h_hn1 : 0 ≤ hn1 ∧ hn1 ≤ 6) (q_0 : S0.f 43 43 ≤ S.f 43 43 ∧ S.f 43 43 ≤ S0.f 43 43 + 70) (q_1 : S.f 43 51 = 0) (q_2 : wphi S ≤ wphi S0) (q_3 : wpsi S ≤ wpsi S0) (q_4 : S0.f 43 43 ≤ 23500 ∧ wphi S0 ≤ 19900 ∧ wpsi S0 ≤ 1120) (q_5 : bg + 14 ≤ S0.f 43 43) (q_6 : (h = -1 → hn1 = 0) ∧ (h ≠ -1 → 3 ≤ hn1)) (q_7 : st = bg + 2) (q_8 : h = -1 → S.f 43 43 ≤ S0.f 43 43 + 4) (q_9 : mQ S0 S (enV (pkR 48 S0) (tmM S0 k) (bg + 6) h (S0.a 63 k.toNat))), yT xPr G LY xC198 174 [some ((2, 43)), some (vi bg), some (vi h), some (vi k), some (vi st), none, some (vi hn1), none] [] S (d + 1) (fun r S' => r = (0, (0, 0)) ∧ S0.f 43 43 ≤ S'.f 43 43 ∧ S'.f 43 43 ≤ S0.f 43 43 + 70 ∧ S'.f 43 51 = 0 ∧ wphi S' ≤ wphi S0 ∧ wpsi S' ≤ wpsi S0 ∧ (h = -1 → S'.f 43 43 ≤ S0.f 43 43 + 4) ∧ mQ S0 S' (enW (pkR 48 S0) (tmM S0 k) (bg + 6) h (S0.a 63 k.toNat)) ∧ wLV S' ∧ yI S' ∧ yFr [(43, 43), (43, 49), (43, 50), (43, 51)] [72, 73, 74, 75, 76, 77] S0 S' ∧ yRm [] S0 S') := by
  intro S hI hF hR e_wLV st hn1 h_st h_hn1 q_0 q_1 q_2 q_3 q_4 q_5 q_6 q_7 q_8 q_9
  have h1 := hI.f tf43_43
  have h2 := hI.f tf43_51
  refine r_load (i := 174) (u := 0) (w := 2) rfl rfl rfl ?_
  refine r_load (i := 175) (u := 4) (w := 0) rfl rfl rfl ?_
  refine r_load (i := 176) (u := 0) (w := 2) rfl rfl rfl ?_
  refine r_getf (i := 177) (v := 43) (w := 11) (x := vi (S.f 43 43)) rfl ly43 rfl rfl fun h3 => ?_
  have h3 : Rg (S.f 43 43) := h3
  refine r_load (i := 178) (u := 4) (w := 0) rfl rfl rfl ?_
  refine r_isub (i := 179) rfl ?_
  refine r_const (i := 180) (u := 4) (z := 4) rfl rfl ?_
  refine r_isub (i := 181) rfl ?_
  refine r_call (i := 182) (u := 11) (v := 231) (w := 0) (b := 0) (na := 1027) (C2 := xC231) (as := [(2, 43), vi st, vi (((S.f 43 43) - st) - 4)]) (s := []) rfl rfl rfl rfl rfl rfl rfl (sp231 (at0 := st) (v := ((S.f 43 43) - st) - 4) hI ⟨by omega, by omega⟩ ⟨by omega, by omega⟩   (by omega)) (fun r4 S5 hq6 => ?_)
  obtain ⟨rfl, mq7, hI8, hF9, hR10⟩ := hq6
  have hF11 := hF.trans hF9 rfl rfl
  have hR12 := hR.trans hR10 rfl
  have e13 := wLVx.fr e_wLV hF9 rfl rfl
  refine Or.inl ⟨rfl, ?_⟩
  have h14 := hI8.f tf43_43
  have h15 : S5.f 43 43 = S.f 43 43 := hF9.f rfl
  have h16 := hI8.f tf43_51
  have h17 : S5.f 43 51 = S.f 43 51 := hF9.f rfl
  have h18 : wphi S5 = wphi S := wphiX.fr hF9 rfl rfl
  have h19 : wpsi S5 = wpsi S := wpsiX.fr hF9 rfl rfl
  have h20 := hI8.a ta63 k.toNat
  have h21 : S5.a 63 k.toNat = S0.a 63 k.toNat := hF11.a rfl _
  exact r_ret0 (i := 183) rfl ⟨rfl, (by omega), (by omega), (by omega), (by omega), (by omega), (by omega), (by intro w9 hw0; have hwq := q_9 _ hw0; have ln9 := mW_ln hwq (by omega); have hw1 := mq7 _ hwq; exact mW_c hw1 (wec_m (by omega) (by omega))), e13, hI8, hF11, hR12⟩
theorem lp198_146 {G : xk} {d : Nat} {S0 : yS} {bg : Int} (h_bg : 0 ≤ bg ∧ bg ≤ 23900) {h : Int} (h_h : -1 ≤ h ∧ h ≤ 23900) {k : Int} (h_k : 0 ≤ k ∧ k ≤ 23) (p_0 : S0.f 43 43 ≤ 23500) (p_1 : S0.f 43 51 = 0) (p_2 : wphi S0 ≤ 19900) (p_3 : wpsi S0 ≤ 1120) (p_4 : bg + 14 ≤ S0.f 43 43) (hd : 7 ≤ d + 1) : ∀ (S : yS) (hI : yI S) (hF : yFr [(43, 43), (43, 49), (43, 50), (43, 51)] [72, 73, 74, 75, 76, 77] S0 S) (hR : yRm [] S0 S) (e_wLV : wLV S) (st hn1 to : Int) (h_st : 2 ≤ st ∧ st ≤ 23500) (h_hn1 : 1 ≤ hn1 ∧ hn1 ≤ 6) (h_to : 0 ≤ to ∧ to ≤ 23600) (q_0 : S0.f 43 43 ≤ S.f 43 43 ∧ S.f 43 43 ≤ S0.f 43 43 + 63) (q_1 : S.f 43 51 = 0) (q_2 : wphi S ≤ wphi S0) (q_3 : wpsi S ≤ wpsi S0) (q_4 : S0.f 43 43 ≤ 23500 ∧ wphi S0 ≤ 19900 ∧ wpsi S0 ≤ 1120) (q_5 : bg + 14 ≤ S0.f 43 43) (q_6 : (h = -1 → hn1 = 0) ∧ (h ≠ -1 → 3 ≤ hn1)) (q_7 : st = bg + 2) (q_8 : to + 4 ≤ S.f 43 43) (q_9 : mPJ S0 S (fun w => smY h (wst (wha (pkR 48 S0) (tmM S0 k) (S0.a 63 k.toNat) h (wei (bg + 6) w)))) to (fun w => ((wst (wha (pkR 48 S0) (tmM S0 k) (S0.a 63 k.toNat) h (wei (bg + 6) w))).2.1.length : Int))) (q_10 : h ≠ -1), yT xPr G LY xC198 146 [some ((2, 43)), some (vi bg), some (vi h), some (vi k), some (vi st), none, some (vi hn1), some (vi to)] [] S (d + 1) (fun r S' => r = (0, (0, 0)) ∧ S0.f 43 43 ≤ S'.f 43 43 ∧ S'.f 43 43 ≤ S0.f 43 43 + 70 ∧ S'.f 43 51 = 0 ∧ wphi S' ≤ wphi S0 ∧ wpsi S' ≤ wpsi S0 ∧ (h = -1 → S'.f 43 43 ≤ S0.f 43 43 + 4) ∧ mQ S0 S' (enW (pkR 48 S0) (tmM S0 k) (bg + 6) h (S0.a 63 k.toNat)) ∧ wLV S' ∧ yI S' ∧ yFr [(43, 43), (43, 49), (43, 50), (43, 51)] [72, 73, 74, 75, 76, 77] S0 S' ∧ yRm [] S0 S') := by
  intro S hI hF hR e_wLV st hn1 to h_st h_hn1 h_to q_0 q_1 q_2 q_3 q_4 q_5 q_6 q_7 q_8 q_9 q_10
  have h1 := hI.f tf43_43
  have h2 := hI.f tf43_51
  refine r_load (i := 146) (u := 0) (w := 2) rfl rfl rfl ?_
  refine r_const (i := 147) (u := 7) (z := 7) rfl rfl ?_
  refine r_call (i := 148) (u := 11) (v := 224) (w := 0) (b := 0) (na := 514) (C2 := xC224) (as := [(2, 43), vi 7]) (s := []) rfl rfl rfl rfl rfl rfl rfl (sp224 (v := 7) hI ⟨by omega, by omega⟩ (by omega)  (by omega)) (fun r3 S4 hq5 => ?_)
  obtain ⟨rfl, h6, h7, mq8, hI9, hF10, hR11⟩ := hq5
  have hF12 := hF.trans hF10 rfl rfl
  have hR13 := hR.trans hR11 rfl
  have e14 := wLVx.fr e_wLV hF10 rfl rfl
  refine Or.inl ⟨rfl, ?_⟩
  refine r_load (i := 149) (u := 0) (w := 2) rfl rfl rfl ?_
  refine r_load (i := 150) (u := 0) (w := 2) rfl rfl rfl ?_
  refine r_const (i := 151) (u := 1) (z := 1) rfl rfl ?_
  have h15 := hI9.f tf43_51
  have h16 : S4.f 43 51 = S.f 43 51 := hF10.f rfl
  have h17 : wphi S4 = wphi S := wphiX.fr hF10 rfl rfl
  have h18 : wpsi S4 = wpsi S := wpsiX.fr hF10 rfl rfl
  refine r_call (i := 152) (u := 11) (v := 193) (w := 0) (b := 0) (na := 514) (C2 := xC193) (as := [(2, 43), vi 1]) (s := [(2, 43)]) rfl rfl rfl rfl rfl rfl rfl (sp193 (t := 1) hI9 ⟨by omega, by omega⟩ (by omega) (by omega) (by omega) e14 (by omega)) (fun r19 S20 hq21 => ?_)
  obtain ⟨z22, rfl, h23, h24, h25, h26, h27, mi28, e29, hI30, hF31, hR32⟩ := hq21
  have hF33 := hF12.trans hF31 rfl rfl
  have hR34 := hR13.trans hR32 rfl
  refine Or.inr (Or.inl ⟨rfl, ?_⟩)
  have h35 := hI30.f tf43_43
  have h36 : S20.f 43 43 = S4.f 43 43 := hF31.f rfl
  refine r_call (i := 153) (u := 11) (v := 257) (w := 0) (b := 0) (na := 514) (C2 := xC257) (as := [(2, 43), vi z22]) (s := []) rfl rfl rfl rfl rfl rfl rfl (sp257 (v := z22) hI30 ⟨by omega, by omega⟩ (by omega)  (by omega)) (fun r37 S38 hq39 => ?_)
  obtain ⟨rfl, h40, h41, mq42, hI43, hF44, hR45⟩ := hq39
  have hF46 := hF33.trans hF44 rfl rfl
  have hR47 := hR34.trans hR45 rfl
  have e48 := wLVx.fr e29 hF44 rfl rfl
  refine Or.inl ⟨rfl, ?_⟩
  refine r_load (i := 154) (u := 0) (w := 2) rfl rfl rfl ?_
  refine r_const (i := 155) (u := 64) (z := 64) rfl rfl ?_
  have h49 := hI43.f tf43_43
  refine r_call (i := 156) (u := 11) (v := 224) (w := 0) (b := 0) (na := 514) (C2 := xC224) (as := [(2, 43), vi 64]) (s := []) rfl rfl rfl rfl rfl rfl rfl (sp224 (v := 64) hI43 ⟨by omega, by omega⟩ (by omega)  (by omega)) (fun r50 S51 hq52 => ?_)
  obtain ⟨rfl, h53, h54, mq55, hI56, hF57, hR58⟩ := hq52
  have hF59 := hF46.trans hF57 rfl rfl
  have hR60 := hR47.trans hR58 rfl
  have e61 := wLVx.fr e48 hF57 rfl rfl
  refine Or.inl ⟨rfl, ?_⟩
  refine r_load (i := 157) (u := 0) (w := 2) rfl rfl rfl ?_
  refine r_const (i := 158) (u := 7) (z := 7) rfl rfl ?_
  have h62 := hI56.f tf43_43
  refine r_call (i := 159) (u := 11) (v := 224) (w := 0) (b := 0) (na := 514) (C2 := xC224) (as := [(2, 43), vi 7]) (s := []) rfl rfl rfl rfl rfl rfl rfl (sp224 (v := 7) hI56 ⟨by omega, by omega⟩ (by omega)  (by omega)) (fun r63 S64 hq65 => ?_)
  obtain ⟨rfl, h66, h67, mq68, hI69, hF70, hR71⟩ := hq65
  have hF72 := hF59.trans hF70 rfl rfl
  have hR73 := hR60.trans hR71 rfl
  have e74 := wLVx.fr e61 hF70 rfl rfl
  refine Or.inl ⟨rfl, ?_⟩
  refine r_load (i := 160) (u := 0) (w := 2) rfl rfl rfl ?_
  refine r_load (i := 161) (u := 0) (w := 2) rfl rfl rfl ?_
  refine r_const (i := 162) (u := 1) (z := 1) rfl rfl ?_
  have h75 := hI69.f tf43_51
  have h76 : S64.f 43 51 = S51.f 43 51 := hF70.f rfl
  have h77 : S51.f 43 51 = S38.f 43 51 := hF57.f rfl
  have h78 : S38.f 43 51 = S20.f 43 51 := hF44.f rfl
  have h79 : wphi S64 = wphi S51 := wphiX.fr hF70 rfl rfl
  have h80 : wphi S51 = wphi S38 := wphiX.fr hF57 rfl rfl
  have h81 : wphi S38 = wphi S20 := wphiX.fr hF44 rfl rfl
  have h82 : wpsi S64 = wpsi S51 := wpsiX.fr hF70 rfl rfl
  have h83 : wpsi S51 = wpsi S38 := wpsiX.fr hF57 rfl rfl
  have h84 : wpsi S38 = wpsi S20 := wpsiX.fr hF44 rfl rfl
  refine r_call (i := 163) (u := 11) (v := 193) (w := 0) (b := 0) (na := 514) (C2 := xC193) (as := [(2, 43), vi 1]) (s := [(2, 43)]) rfl rfl rfl rfl rfl rfl rfl (sp193 (t := 1) hI69 ⟨by omega, by omega⟩ (by omega) (by omega) (by omega) e74 (by omega)) (fun r85 S86 hq87 => ?_)
  obtain ⟨z88, rfl, h89, h90, h91, h92, h93, mi94, e95, hI96, hF97, hR98⟩ := hq87
  have hF99 := hF72.trans hF97 rfl rfl
  have hR100 := hR73.trans hR98 rfl
  refine Or.inr (Or.inl ⟨rfl, ?_⟩)
  have h101 := hI96.f tf43_43
  have h102 : S86.f 43 43 = S64.f 43 43 := hF97.f rfl
  refine r_call (i := 164) (u := 11) (v := 257) (w := 0) (b := 0) (na := 514) (C2 := xC257) (as := [(2, 43), vi z88]) (s := []) rfl rfl rfl rfl rfl rfl rfl (sp257 (v := z88) hI96 ⟨by omega, by omega⟩ (by omega)  (by omega)) (fun r103 S104 hq105 => ?_)
  obtain ⟨rfl, h106, h107, mq108, hI109, hF110, hR111⟩ := hq105
  have hF112 := hF99.trans hF110 rfl rfl
  have hR113 := hR100.trans hR111 rfl
  have e114 := wLVx.fr e95 hF110 rfl rfl
  refine Or.inl ⟨rfl, ?_⟩
  refine r_load (i := 165) (u := 0) (w := 2) rfl rfl rfl ?_
  refine r_load (i := 166) (u := 7) (w := 0) rfl rfl rfl ?_
  refine r_load (i := 167) (u := 0) (w := 2) rfl rfl rfl ?_
  have h115 := hI109.f tf43_43
  refine r_getf (i := 168) (v := 43) (w := 11) (x := vi (S104.f 43 43)) rfl ly43 rfl rfl fun h116 => ?_
  have h116 : Rg (S104.f 43 43) := h116
  refine r_load (i := 169) (u := 7) (w := 0) rfl rfl rfl ?_
  refine r_isub (i := 170) rfl ?_
  refine r_const (i := 171) (u := 4) (z := 4) rfl rfl ?_
  refine r_isub (i := 172) rfl ?_
  refine r_call (i := 173) (u := 11) (v := 231) (w := 0) (b := 0) (na := 1027) (C2 := xC231) (as := [(2, 43), vi to, vi (((S104.f 43 43) - to) - 4)]) (s := []) rfl rfl rfl rfl rfl rfl rfl (sp231 (at0 := to) (v := ((S104.f 43 43) - to) - 4) hI109 ⟨by omega, by omega⟩ ⟨by omega, by omega⟩   (by omega)) (fun r117 S118 hq119 => ?_)
  obtain ⟨rfl, mq120, hI121, hF122, hR123⟩ := hq119
  have hF124 := hF112.trans hF122 rfl rfl
  have hR125 := hR113.trans hR123 rfl
  have e126 := wLVx.fr e114 hF122 rfl rfl
  refine Or.inl ⟨rfl, ?_⟩
  refine yT_drop (L1 := [some ((2, 43)), some (vi bg), some (vi h), some (vi k), some (vi st), none, some (vi hn1), none]) rfl ?_
  have h127 := hI121.f tf43_43
  have h128 : S118.f 43 43 = S104.f 43 43 := hF122.f rfl
  have h129 := hI121.f tf43_51
  have h130 : S118.f 43 51 = S104.f 43 51 := hF122.f rfl
  have h131 : S104.f 43 51 = S86.f 43 51 := hF110.f rfl
  have h132 : wphi S118 = wphi S104 := wphiX.fr hF122 rfl rfl
  have h133 : wphi S104 = wphi S86 := wphiX.fr hF110 rfl rfl
  have h134 : wpsi S118 = wpsi S104 := wpsiX.fr hF122 rfl rfl
  have h135 : wpsi S104 = wpsi S86 := wpsiX.fr hF110 rfl rfl
  exact lp198_174 h_bg h_h h_k p_0 p_1 p_2 p_3 p_4 hd S118 hI121 hF124 hR125 e126 st hn1 ⟨by omega, by omega⟩ ⟨by omega, by omega⟩ (by omega) (by omega) (by omega) (by omega) (by omega) (by omega) (by omega) (by omega) (by omega) (by intro w9 hw0; obtain ⟨hwq, hto⟩ := q_9 _ hw0; dsimp only at hwq hto; have hw1 := mq8 _ hwq; obtain ⟨hw2, ew2⟩ := mi28 _ hw1; have hw3 := mq42 _ hw2; have hw4 := mq55 _ hw3; have hw5 := mq68 _ hw4; obtain ⟨hw6, ew6⟩ := mi94 _ hw5; have hw7 := mq108 _ hw6; have ln9 := mW_ln hw7 (by omega); have hw8 := mq120 _ hw7; exact mW_c hw8 ((sm_e rfl ((pkR_fr (b := 48) hF10 rfl).trans (pkR_fr (b := 48) hF rfl)) ((pkR_fr (b := 48) hF70 rfl).trans ((pkR_fr (b := 48) hF57 rfl).trans ((pkR_fr (b := 48) hF44 rfl).trans ((pkR_fr (b := 48) hF31 rfl).trans ((pkR_fr (b := 48) hF10 rfl).trans (pkR_fr (b := 48) hF rfl)))))) hto ew2 ew6 (by omega)).trans (enV_y q_10))) 
theorem lp198_139 {G : xk} {d : Nat} {S0 : yS} {bg : Int} (h_bg : 0 ≤ bg ∧ bg ≤ 23900) {h : Int} (h_h : -1 ≤ h ∧ h ≤ 23900) {k : Int} (h_k : 0 ≤ k ∧ k ≤ 23) (p_0 : S0.f 43 43 ≤ 23500) (p_1 : S0.f 43 51 = 0) (p_2 : wphi S0 ≤ 19900) (p_3 : wpsi S0 ≤ 1120) (p_4 : bg + 14 ≤ S0.f 43 43) (hd : 7 ≤ d + 1) : ∀ (S : yS) (hI : yI S) (hF : yFr [(43, 43), (43, 49), (43, 50), (43, 51)] [72, 73, 74, 75, 76, 77] S0 S) (hR : yRm [] S0 S) (e_wLV : wLV S) (st hn1 to c0 : Int) (h_st : 2 ≤ st ∧ st ≤ 23500) (h_hn1 : 1 ≤ hn1 ∧ hn1 ≤ 6) (h_to : 0 ≤ to ∧ to ≤ 23600) (h_c0 : 0 ≤ c0 ∧ c0 ≤ 255) (q_0 : S0.f 43 43 ≤ S.f 43 43 ∧ S.f 43 43 ≤ S0.f 43 43 + 60) (q_1 : S.f 43 51 = 0) (q_2 : wphi S ≤ wphi S0) (q_3 : wpsi S ≤ wpsi S0) (q_4 : S0.f 43 43 ≤ 23500 ∧ wphi S0 ≤ 19900 ∧ wpsi S0 ≤ 1120) (q_5 : bg + 14 ≤ S0.f 43 43) (q_6 : (h = -1 → hn1 = 0) ∧ (h ≠ -1 → 3 ≤ hn1)) (q_7 : st = bg + 2) (q_8 : to + 4 ≤ S.f 43 43) (q_9 : mPJ S0 S (fun w => wby (tw 2) (wby (fo 0) (wst (wha (pkR 48 S0) (tmM S0 k) (S0.a 63 k.toNat) h (wei (bg + 6) w))))) to (fun w => ((wst (wha (pkR 48 S0) (tmM S0 k) (S0.a 63 k.toNat) h (wei (bg + 6) w))).2.1.length : Int))) (q_10 : c0 = if h ≤ 63 then 64 + h else 247) (q_11 : h ≠ -1), yT xPr G LY xC198 139 [some ((2, 43)), some (vi bg), some (vi h), some (vi k), some (vi st), none, some (vi hn1), some (vi to)] [vi c0, (2, 43)] S (d + 1) (fun r S' => r = (0, (0, 0)) ∧ S0.f 43 43 ≤ S'.f 43 43 ∧ S'.f 43 43 ≤ S0.f 43 43 + 70 ∧ S'.f 43 51 = 0 ∧ wphi S' ≤ wphi S0 ∧ wpsi S' ≤ wpsi S0 ∧ (h = -1 → S'.f 43 43 ≤ S0.f 43 43 + 4) ∧ mQ S0 S' (enW (pkR 48 S0) (tmM S0 k) (bg + 6) h (S0.a 63 k.toNat)) ∧ wLV S' ∧ yI S' ∧ yFr [(43, 43), (43, 49), (43, 50), (43, 51)] [72, 73, 74, 75, 76, 77] S0 S' ∧ yRm [] S0 S') := by
  intro S hI hF hR e_wLV st hn1 to c0 h_st h_hn1 h_to h_c0 q_0 q_1 q_2 q_3 q_4 q_5 q_6 q_7 q_8 q_9 q_10 q_11
  have h1 := hI.f tf43_43
  have h2 := hI.f tf43_51
  refine r_call (i := 139) (u := 11) (v := 224) (w := 0) (b := 0) (na := 514) (C2 := xC224) (as := [(2, 43), vi c0]) (s := []) rfl rfl rfl rfl rfl rfl rfl (sp224 (v := c0) hI ⟨by omega, by omega⟩ (by omega)  (by omega)) (fun r3 S4 hq5 => ?_)
  obtain ⟨rfl, h6, h7, mq8, hI9, hF10, hR11⟩ := hq5
  have hF12 := hF.trans hF10 rfl rfl
  have hR13 := hR.trans hR11 rfl
  have e14 := wLVx.fr e_wLV hF10 rfl rfl
  refine Or.inl ⟨rfl, ?_⟩
  refine r_load (i := 140) (u := 2) (w := 0) rfl rfl rfl ?_
  refine r_const (i := 141) (u := 63) (z := 63) rfl rfl ?_
  refine c_le (i := 142) (v := 146) rfl ⟨by omega, by omega⟩ ⟨by omega, by omega⟩ (fun h15 => ?_) (fun h16 => ?_)
  · have h17 := hI9.f tf43_43
    have h18 := hI9.f tf43_51
    have h19 : S4.f 43 51 = S.f 43 51 := hF10.f rfl
    have h20 : wphi S4 = wphi S := wphiX.fr hF10 rfl rfl
    have h21 : wpsi S4 = wpsi S := wpsiX.fr hF10 rfl rfl
    exact lp198_146 h_bg h_h h_k p_0 p_1 p_2 p_3 p_4 hd S4 hI9 hF12 hR13 e14 st hn1 to ⟨by omega, by omega⟩ ⟨by omega, by omega⟩ ⟨by omega, by omega⟩ (by omega) (by omega) (by omega) (by omega) (by omega) (by omega) (by omega) (by omega) (by omega) (by intro w9 hw0; obtain ⟨h91, h92⟩ := q_9 _ hw0; have h93 := mq8 _ h91; exact ⟨mW_c h93 (smY_s (by omega) (q_10.trans (if_pos (by omega)))), h92⟩) (by omega) 
  · refine r_load (i := 143) (u := 0) (w := 2) rfl rfl rfl ?_
    refine r_load (i := 144) (u := 2) (w := 0) rfl rfl rfl ?_
    have h22 := hI9.f tf43_43
    refine r_call (i := 145) (u := 11) (v := 257) (w := 0) (b := 0) (na := 514) (C2 := xC257) (as := [(2, 43), vi h]) (s := []) rfl rfl rfl rfl rfl rfl rfl (sp257 (v := h) hI9 ⟨by omega, by omega⟩ (by omega)  (by omega)) (fun r23 S24 hq25 => ?_)
    obtain ⟨rfl, h26, h27, mq28, hI29, hF30, hR31⟩ := hq25
    have hF32 := hF12.trans hF30 rfl rfl
    have hR33 := hR13.trans hR31 rfl
    have e34 := wLVx.fr e14 hF30 rfl rfl
    refine Or.inl ⟨rfl, ?_⟩
    have h35 := hI29.f tf43_43
    have h36 := hI29.f tf43_51
    have h37 : S24.f 43 51 = S4.f 43 51 := hF30.f rfl
    have h38 : S4.f 43 51 = S.f 43 51 := hF10.f rfl
    have h39 : wphi S24 = wphi S4 := wphiX.fr hF30 rfl rfl
    have h40 : wphi S4 = wphi S := wphiX.fr hF10 rfl rfl
    have h41 : wpsi S24 = wpsi S4 := wpsiX.fr hF30 rfl rfl
    have h42 : wpsi S4 = wpsi S := wpsiX.fr hF10 rfl rfl
    exact lp198_146 h_bg h_h h_k p_0 p_1 p_2 p_3 p_4 hd S24 hI29 hF32 hR33 e34 st hn1 to ⟨by omega, by omega⟩ ⟨by omega, by omega⟩ ⟨by omega, by omega⟩ (by omega) (by omega) (by omega) (by omega) (by omega) (by omega) (by omega) (by omega) (by omega) (by intro w9 hw0; obtain ⟨h91, h92⟩ := q_9 _ hw0; have h93 := mq8 _ h91; have h94 := mq28 _ h93; exact ⟨mW_c h94 (smY_l (by omega) (q_10.trans (if_neg (by omega)))), h92⟩) (by omega) 
theorem lp198_54 {G : xk} {d : Nat} {S0 : yS} {bg : Int} (h_bg : 0 ≤ bg ∧ bg ≤ 23900) {h : Int} (h_h : -1 ≤ h ∧ h ≤ 23900) {k : Int} (h_k : 0 ≤ k ∧ k ≤ 23) (p_0 : S0.f 43 43 ≤ 23500) (p_1 : S0.f 43 51 = 0) (p_2 : wphi S0 ≤ 19900) (p_3 : wpsi S0 ≤ 1120) (p_4 : bg + 14 ≤ S0.f 43 43) (hd : 7 ≤ d + 1) : ∀ (n : Nat), ∀ (S : yS) (hI : yI S) (hF : yFr [(43, 43), (43, 49), (43, 50), (43, 51)] [72, 73, 74, 75, 76, 77] S0 S) (hR : yRm [] S0 S) (e_wLV : wLV S) (st hn1 i0 : Int) (h_st : 2 ≤ st ∧ st ≤ 23500) (h_hn1 : 0 ≤ hn1 ∧ hn1 ≤ 6) (h_i0 : 0 ≤ i0 ∧ i0 ≤ 6) (q_0 : S0.f 43 43 ≤ S.f 43 43 ∧ S.f 43 43 ≤ S0.f 43 43 + 2 + 8 * i0) (q_1 : S.f 43 51 = 0) (q_2 : wphi S ≤ wphi S0) (q_3 : wpsi S ≤ wpsi S0) (q_4 : S0.f 43 43 ≤ 23500 ∧ wphi S0 ≤ 19900 ∧ wpsi S0 ≤ 1120) (q_5 : bg + 14 ≤ S0.f 43 43) (q_6 : (h = -1 → hn1 = 0) ∧ (h ≠ -1 → 3 ≤ hn1)) (q_7 : st = bg + 2) (q_8 : i0 ≤ hn1) (q_9 : mQ S0 S (fun w => hnL (pkR 48 S0) (tmM S0 k) h hn1 i0.toNat (wby (tw hn1) (wei (bg + 6) w)))) (q_10 : hn1 = if h = -1 then 0 else 3 + S0.a 63 k.toNat) (hn : 6 - i0 < (n : Nat)), yT xPr G LY xC198 54 [some ((2, 43)), some (vi bg), some (vi h), some (vi k), some (vi st), none, some (vi hn1), some (vi i0)] [] S (d + 1) (fun r S' => r = (0, (0, 0)) ∧ S0.f 43 43 ≤ S'.f 43 43 ∧ S'.f 43 43 ≤ S0.f 43 43 + 70 ∧ S'.f 43 51 = 0 ∧ wphi S' ≤ wphi S0 ∧ wpsi S' ≤ wpsi S0 ∧ (h = -1 → S'.f 43 43 ≤ S0.f 43 43 + 4) ∧ mQ S0 S' (enW (pkR 48 S0) (tmM S0 k) (bg + 6) h (S0.a 63 k.toNat)) ∧ wLV S' ∧ yI S' ∧ yFr [(43, 43), (43, 49), (43, 50), (43, 51)] [72, 73, 74, 75, 76, 77] S0 S' ∧ yRm [] S0 S') := by
  intro n
  induction n with
  | zero => intro S hI hF hR e_wLV st hn1 i0 h_st h_hn1 h_i0 q_0 q_1 q_2 q_3 q_4 q_5 q_6 q_7 q_8 q_9 q_10 hn; exact absurd hn (by omega)
  | succ n ih =>
    intro S hI hF hR e_wLV st hn1 i0 h_st h_hn1 h_i0 q_0 q_1 q_2 q_3 q_4 q_5 q_6 q_7 q_8 q_9 q_10 hn
    have h1 := hI.f tf43_43
    have h2 := hI.f tf43_51
    refine r_load (i := 54) (u := 7) (w := 0) rfl rfl rfl ?_
    refine r_load (i := 55) (u := 6) (w := 0) rfl rfl rfl ?_
    refine c_ge (i := 56) (v := 107) rfl ⟨by omega, by omega⟩ ⟨by omega, by omega⟩ (fun h3 => ?_) (fun h4 => ?_)
    · refine r_load (i := 107) (u := 0) (w := 2) rfl rfl rfl ?_
      refine r_load (i := 108) (u := 6) (w := 0) rfl rfl rfl ?_
      refine z_le (i := 109) (v := 112) rfl ⟨by omega, by omega⟩ (fun h5 => ?_) (fun h6 => ?_)
      · refine r_const (i := 112) (u := 0) (z := 0) rfl rfl ?_
        refine r_call (i := 113) (u := 11) (v := 257) (w := 0) (b := 0) (na := 514) (C2 := xC257) (as := [(2, 43), vi 0]) (s := []) rfl rfl rfl rfl rfl rfl rfl (sp257 (v := 0) hI ⟨by omega, by omega⟩ (by omega)  (by omega)) (fun r7 S8 hq9 => ?_)
        obtain ⟨rfl, h10, h11, mq12, hI13, hF14, hR15⟩ := hq9
        have hF16 := hF.trans hF14 rfl rfl
        have hR17 := hR.trans hR15 rfl
        have e18 := wLVx.fr e_wLV hF14 rfl rfl
        refine Or.inl ⟨rfl, ?_⟩
        refine r_load (i := 114) (u := 6) (w := 0) rfl rfl rfl ?_
        refine z_le (i := 115) (v := 174) rfl ⟨by omega, by omega⟩ (fun h19 => ?_) (fun h20 => absurd h20 (by omega))
        refine yT_drop (L1 := [some ((2, 43)), some (vi bg), some (vi h), some (vi k), some (vi st), none, some (vi hn1), none]) rfl ?_
        have h21 := hI13.f tf43_43
        have h22 := hI13.f tf43_51
        have h23 : S8.f 43 51 = S.f 43 51 := hF14.f rfl
        have h24 : wphi S8 = wphi S := wphiX.fr hF14 rfl rfl
        have h25 : wpsi S8 = wpsi S := wpsiX.fr hF14 rfl rfl
        exact lp198_174 h_bg h_h h_k p_0 p_1 p_2 p_3 p_4 hd S8 hI13 hF16 hR17 e18 st hn1 ⟨by omega, by omega⟩ ⟨by omega, by omega⟩ (by omega) (by omega) (by omega) (by omega) (by omega) (by omega) (by omega) (by omega) (by omega) (by intro w9 hw0; have h91 := mq12 _ (q_9 _ hw0); have e9 : hn1 = 0 := (by omega); rw [e9, show i0.toNat = 0 by omega] at h91; exact mW_c h91 (enV_n (by omega))) 
      · refine r_const (i := 110) (u := 1) (z := 1) rfl rfl ?_
        refine r_goto (i := 111) (v := 113) rfl ?_
        refine r_call (i := 113) (u := 11) (v := 257) (w := 0) (b := 0) (na := 514) (C2 := xC257) (as := [(2, 43), vi 1]) (s := []) rfl rfl rfl rfl rfl rfl rfl (sp257 (v := 1) hI ⟨by omega, by omega⟩ (by omega)  (by omega)) (fun r26 S27 hq28 => ?_)
        obtain ⟨rfl, h29, h30, mq31, hI32, hF33, hR34⟩ := hq28
        have hF35 := hF.trans hF33 rfl rfl
        have hR36 := hR.trans hR34 rfl
        have e37 := wLVx.fr e_wLV hF33 rfl rfl
        refine Or.inl ⟨rfl, ?_⟩
        refine r_load (i := 114) (u := 6) (w := 0) rfl rfl rfl ?_
        refine z_le (i := 115) (v := 174) rfl ⟨by omega, by omega⟩ (fun h38 => absurd h38 (by omega)) (fun h39 => ?_)
        refine r_load (i := 116) (u := 0) (w := 2) rfl rfl rfl ?_
        refine r_load (i := 117) (u := 0) (w := 2) rfl rfl rfl ?_
        refine r_str (i := 118) (v := 50) rfl ?_
        have h40 := slv50
        have h41 := hI32.f tf43_51
        have h42 : S27.f 43 51 = S.f 43 51 := hF33.f rfl
        have h43 : wphi S27 = wphi S := wphiX.fr hF33 rfl rfl
        have h44 : wpsi S27 = wpsi S := wpsiX.fr hF33 rfl rfl
        refine r_call (i := 119) (u := 11) (v := 252) (w := 0) (b := 0) (na := 514) (C2 := xC252) (as := [(2, 43), (6, 50)]) (s := [(2, 43)]) rfl rfl rfl rfl rfl rfl rfl (sp252 (s := 50) hI32 ⟨by decide, by decide⟩ (by omega) (by omega) (by omega) (by omega) e37 (by omega)) (fun r45 S46 hq47 => ?_)
        obtain ⟨z48, rfl, h49, h50, h51, h52, h53, fm54, mi55, e56, hI57, hF58, hR59⟩ := hq47
        have hF60 := hF35.trans hF58 rfl rfl
        have hR61 := hR36.trans hR59 rfl
        refine Or.inr (Or.inl ⟨rfl, ?_⟩)
        have h62 := hI57.f tf43_43
        have h63 : S46.f 43 43 = S27.f 43 43 := hF58.f rfl
        refine r_call (i := 120) (u := 11) (v := 257) (w := 0) (b := 0) (na := 514) (C2 := xC257) (as := [(2, 43), vi z48]) (s := []) rfl rfl rfl rfl rfl rfl rfl (sp257 (v := z48) hI57 ⟨by omega, by omega⟩ (by omega)  (by omega)) (fun r64 S65 hq66 => ?_)
        obtain ⟨rfl, h67, h68, mq69, hI70, hF71, hR72⟩ := hq66
        have hF73 := hF60.trans hF71 rfl rfl
        have hR74 := hR61.trans hR72 rfl
        have e75 := wLVx.fr e56 hF71 rfl rfl
        refine Or.inl ⟨rfl, ?_⟩
        refine r_load (i := 121) (u := 0) (w := 2) rfl rfl rfl ?_
        have h76 := hI70.f tf43_43
        refine r_getf (i := 122) (v := 43) (w := 11) (x := vi (S65.f 43 43)) rfl ly43 rfl rfl fun h77 => ?_
        have h77 : Rg (S65.f 43 43) := h77
        refine r_store (i := 123) (u := 7) (w := 0) (L1 := [some ((2, 43)), some (vi bg), some (vi h), some (vi k), some (vi st), none, some (vi hn1), some (vi (S65.f 43 43))]) rfl rfl rfl rfl ?_
        refine r_load (i := 124) (u := 0) (w := 2) rfl rfl rfl ?_
        refine r_const (i := 125) (u := 0) (z := 0) rfl rfl ?_
        refine r_call (i := 126) (u := 11) (v := 204) (w := 0) (b := 0) (na := 514) (C2 := xC204) (as := [(2, 43), vi 0]) (s := []) rfl rfl rfl rfl rfl rfl rfl (sp204 (v := 0) hI70 ⟨by omega, by omega⟩ (by omega)  (by omega)) (fun r78 S79 hq80 => ?_)
        obtain ⟨rfl, h81, h82, mq83, hI84, hF85, hR86⟩ := hq80
        have hF87 := hF73.trans hF85 rfl rfl
        have hR88 := hR74.trans hR86 rfl
        have e89 := wLVx.fr e75 hF85 rfl rfl
        refine Or.inl ⟨rfl, ?_⟩
        refine r_load (i := 127) (u := 0) (w := 2) rfl rfl rfl ?_
        refine r_const (i := 128) (u := 2) (z := 2) rfl rfl ?_
        have h90 := hI84.f tf43_43
        refine r_call (i := 129) (u := 11) (v := 257) (w := 0) (b := 0) (na := 514) (C2 := xC257) (as := [(2, 43), vi 2]) (s := []) rfl rfl rfl rfl rfl rfl rfl (sp257 (v := 2) hI84 ⟨by omega, by omega⟩ (by omega)  (by omega)) (fun r91 S92 hq93 => ?_)
        obtain ⟨rfl, h94, h95, mq96, hI97, hF98, hR99⟩ := hq93
        have hF100 := hF87.trans hF98 rfl rfl
        have hR101 := hR88.trans hR99 rfl
        have e102 := wLVx.fr e89 hF98 rfl rfl
        refine Or.inl ⟨rfl, ?_⟩
        refine r_load (i := 130) (u := 0) (w := 2) rfl rfl rfl ?_
        refine r_load (i := 131) (u := 2) (w := 0) rfl rfl rfl ?_
        refine r_const (i := 132) (u := 63) (z := 63) rfl rfl ?_
        refine c_le (i := 133) (v := 136) rfl ⟨by omega, by omega⟩ ⟨by omega, by omega⟩ (fun h103 => ?_) (fun h104 => ?_)
        · refine r_const (i := 136) (u := 64) (z := 64) rfl rfl ?_
          refine r_load (i := 137) (u := 2) (w := 0) rfl rfl rfl ?_
          refine r_iadd (i := 138) rfl ?_
          have h105 := hI97.f tf43_43
          have h106 := hI97.f tf43_51
          have h107 : S92.f 43 51 = S79.f 43 51 := hF98.f rfl
          have h108 : S79.f 43 51 = S65.f 43 51 := hF85.f rfl
          have h109 : S65.f 43 51 = S46.f 43 51 := hF71.f rfl
          have h110 : wphi S92 = wphi S79 := wphiX.fr hF98 rfl rfl
          have h111 : wphi S79 = wphi S65 := wphiX.fr hF85 rfl rfl
          have h112 : wphi S65 = wphi S46 := wphiX.fr hF71 rfl rfl
          have h113 : wpsi S92 = wpsi S79 := wpsiX.fr hF98 rfl rfl
          have h114 : wpsi S79 = wpsi S65 := wpsiX.fr hF85 rfl rfl
          have h115 : wpsi S65 = wpsi S46 := wpsiX.fr hF71 rfl rfl
          exact lp198_139 h_bg h_h h_k p_0 p_1 p_2 p_3 p_4 hd S92 hI97 hF100 hR101 e102 st hn1 (S65.f 43 43) (64 + h) ⟨by omega, by omega⟩ ⟨by omega, by omega⟩ ⟨by omega, by omega⟩ ⟨by omega, by omega⟩ (by omega) (by omega) (by omega) (by omega) (by omega) (by omega) (by omega) (by omega) (by omega) (by intro w9 hw0; have hwq := q_9 _ hw0; dsimp only at hwq; rw [show i0.toNat = hn1.toNat by omega, hnL_e (th := S0.a 63 k.toNat) (by have w8 := hI.a ta63 k.toNat; have w7 := hF.a (b := 63) rfl k.toNat; omega) (by rw [q_10]; exact if_neg (by omega))] at hwq; have hw1 := mq31 _ hwq; obtain ⟨hw2, ew2⟩ := mi55 _ hw1; have hw3 := mq69 _ hw2; have hw4 := mq83 _ hw3; have hw5 := mq96 _ hw4; subst ew2; rw [wst_m] at hw3 hw5; have ln9 := mW_ln hw3 (hI97.f tf43_43 |> fun _ => by omega); exact ⟨hw5, by omega⟩) (by first | exact (if_pos (by omega)).symm | exact (if_neg (by omega)).symm) (by omega) 
        · refine r_const (i := 134) (u := 247) (z := 247) rfl rfl ?_
          refine r_goto (i := 135) (v := 139) rfl ?_
          have h116 := hI97.f tf43_43
          have h117 := hI97.f tf43_51
          have h118 : S92.f 43 51 = S79.f 43 51 := hF98.f rfl
          have h119 : S79.f 43 51 = S65.f 43 51 := hF85.f rfl
          have h120 : S65.f 43 51 = S46.f 43 51 := hF71.f rfl
          have h121 : wphi S92 = wphi S79 := wphiX.fr hF98 rfl rfl
          have h122 : wphi S79 = wphi S65 := wphiX.fr hF85 rfl rfl
          have h123 : wphi S65 = wphi S46 := wphiX.fr hF71 rfl rfl
          have h124 : wpsi S92 = wpsi S79 := wpsiX.fr hF98 rfl rfl
          have h125 : wpsi S79 = wpsi S65 := wpsiX.fr hF85 rfl rfl
          have h126 : wpsi S65 = wpsi S46 := wpsiX.fr hF71 rfl rfl
          exact lp198_139 h_bg h_h h_k p_0 p_1 p_2 p_3 p_4 hd S92 hI97 hF100 hR101 e102 st hn1 (S65.f 43 43) 247 ⟨by omega, by omega⟩ ⟨by omega, by omega⟩ ⟨by omega, by omega⟩ ⟨by omega, by omega⟩ (by omega) (by omega) (by omega) (by omega) (by omega) (by omega) (by omega) (by omega) (by omega) (by intro w9 hw0; have hwq := q_9 _ hw0; dsimp only at hwq; rw [show i0.toNat = hn1.toNat by omega, hnL_e (th := S0.a 63 k.toNat) (by have w8 := hI.a ta63 k.toNat; have w7 := hF.a (b := 63) rfl k.toNat; omega) (by rw [q_10]; exact if_neg (by omega))] at hwq; have hw1 := mq31 _ hwq; obtain ⟨hw2, ew2⟩ := mi55 _ hw1; have hw3 := mq69 _ hw2; have hw4 := mq83 _ hw3; have hw5 := mq96 _ hw4; subst ew2; rw [wst_m] at hw3 hw5; have ln9 := mW_ln hw3 (hI97.f tf43_43 |> fun _ => by omega); exact ⟨hw5, by omega⟩) (by first | exact (if_pos (by omega)).symm | exact (if_neg (by omega)).symm) (by omega) 
    · refine r_load (i := 57) (u := 0) (w := 2) rfl rfl rfl ?_
      refine r_const (i := 58) (u := 0) (z := 0) rfl rfl ?_
      refine r_call (i := 59) (u := 11) (v := 257) (w := 0) (b := 0) (na := 514) (C2 := xC257) (as := [(2, 43), vi 0]) (s := []) rfl rfl rfl rfl rfl rfl rfl (sp257 (v := 0) hI ⟨by omega, by omega⟩ (by omega)  (by omega)) (fun r127 S128 hq129 => ?_)
      obtain ⟨rfl, h130, h131, mq132, hI133, hF134, hR135⟩ := hq129
      have hF136 := hF.trans hF134 rfl rfl
      have hR137 := hR.trans hR135 rfl
      have e138 := wLVx.fr e_wLV hF134 rfl rfl
      refine Or.inl ⟨rfl, ?_⟩
      refine r_load (i := 60) (u := 0) (w := 2) rfl rfl rfl ?_
      refine r_load (i := 61) (u := 2) (w := 0) rfl rfl rfl ?_
      have h139 := hI133.f tf43_43
      refine r_call (i := 62) (u := 11) (v := 257) (w := 0) (b := 0) (na := 514) (C2 := xC257) (as := [(2, 43), vi h]) (s := []) rfl rfl rfl rfl rfl rfl rfl (sp257 (v := h) hI133 ⟨by omega, by omega⟩ (by omega)  (by omega)) (fun r140 S141 hq142 => ?_)
      obtain ⟨rfl, h143, h144, mq145, hI146, hF147, hR148⟩ := hq142
      have hF149 := hF136.trans hF147 rfl rfl
      have hR150 := hR137.trans hR148 rfl
      have e151 := wLVx.fr e138 hF147 rfl rfl
      refine Or.inl ⟨rfl, ?_⟩
      refine r_load (i := 63) (u := 0) (w := 2) rfl rfl rfl ?_
      refine r_load (i := 64) (u := 7) (w := 0) rfl rfl rfl ?_
      refine r_load (i := 65) (u := 6) (w := 0) rfl rfl rfl ?_
      refine r_const (i := 66) (u := 1) (z := 1) rfl rfl ?_
      refine r_isub (i := 67) rfl ?_
      refine c_ne (i := 68) (v := 73) rfl ⟨by omega, by omega⟩ ⟨by omega, by omega⟩ (fun h152 => ?_) (fun h153 => ?_)
      · refine r_load (i := 73) (u := 2) (w := 0) rfl rfl rfl ?_
        have h154 := hI146.f tf43_43
        have h155 := hI146.f tf43_51
        have h156 : S141.f 43 51 = S128.f 43 51 := hF147.f rfl
        have h157 : S128.f 43 51 = S.f 43 51 := hF134.f rfl
        have h158 : wphi S141 = wphi S128 := wphiX.fr hF147 rfl rfl
        have h159 : wphi S128 = wphi S := wphiX.fr hF134 rfl rfl
        have h160 : wpsi S141 = wpsi S128 := wpsiX.fr hF147 rfl rfl
        have h161 : wpsi S128 = wpsi S := wpsiX.fr hF134 rfl rfl
        exact lp198_74 h_bg h_h h_k p_0 p_1 p_2 p_3 p_4 hd (st := st) (hn1 := hn1) (i0 := i0) ⟨by omega, by omega⟩ ⟨by omega, by omega⟩ ⟨by omega, by omega⟩ n ih (by omega) S141 hI146 hF149 hR150 e151 h ⟨by omega, by omega⟩ (by omega) (by omega) (by omega) (by omega) (by omega) (by omega) (by omega) (by omega) (by omega) (by exact mQ_tr (mQ_tr q_9 mq132) mq145) (by exact q_10) (by first | exact (if_pos (by omega)).symm | exact (if_neg (by omega)).symm) 
      · refine r_load (i := 69) (u := 2) (w := 0) rfl rfl rfl ?_
        refine r_const (i := 70) (u := 1) (z := 1) rfl rfl ?_
        refine r_iadd (i := 71) rfl ?_
        refine r_goto (i := 72) (v := 74) rfl ?_
        have h162 := hI146.f tf43_43
        have h163 := hI146.f tf43_51
        have h164 : S141.f 43 51 = S128.f 43 51 := hF147.f rfl
        have h165 : S128.f 43 51 = S.f 43 51 := hF134.f rfl
        have h166 : wphi S141 = wphi S128 := wphiX.fr hF147 rfl rfl
        have h167 : wphi S128 = wphi S := wphiX.fr hF134 rfl rfl
        have h168 : wpsi S141 = wpsi S128 := wpsiX.fr hF147 rfl rfl
        have h169 : wpsi S128 = wpsi S := wpsiX.fr hF134 rfl rfl
        exact lp198_74 h_bg h_h h_k p_0 p_1 p_2 p_3 p_4 hd (st := st) (hn1 := hn1) (i0 := i0) ⟨by omega, by omega⟩ ⟨by omega, by omega⟩ ⟨by omega, by omega⟩ n ih (by omega) S141 hI146 hF149 hR150 e151 (h + 1) ⟨by omega, by omega⟩ (by omega) (by omega) (by omega) (by omega) (by omega) (by omega) (by omega) (by omega) (by omega) (by exact mQ_tr (mQ_tr q_9 mq132) mq145) (by exact q_10) (by first | exact (if_pos (by omega)).symm | exact (if_neg (by omega)).symm) 
theorem lp198_48 {G : xk} {d : Nat} {S0 : yS} {bg : Int} (h_bg : 0 ≤ bg ∧ bg ≤ 23900) {h : Int} (h_h : -1 ≤ h ∧ h ≤ 23900) {k : Int} (h_k : 0 ≤ k ∧ k ≤ 23) (p_0 : S0.f 43 43 ≤ 23500) (p_1 : S0.f 43 51 = 0) (p_2 : wphi S0 ≤ 19900) (p_3 : wpsi S0 ≤ 1120) (p_4 : bg + 14 ≤ S0.f 43 43) (hd : 7 ≤ d + 1) : ∀ (S : yS) (hI : yI S) (hF : yFr [(43, 43), (43, 49), (43, 50), (43, 51)] [72, 73, 74, 75, 76, 77] S0 S) (hR : yRm [] S0 S) (e_wLV : wLV S) (st hn1 : Int) (h_st : 2 ≤ st ∧ st ≤ 23500) (h_hn1 : 0 ≤ hn1 ∧ hn1 ≤ 6) (q_0 : S0.f 43 43 ≤ S.f 43 43 ∧ S.f 43 43 ≤ S0.f 43 43 + 0) (q_1 : S.f 43 51 = 0) (q_2 : wphi S ≤ wphi S0) (q_3 : wpsi S ≤ wpsi S0) (q_4 : S0.f 43 43 ≤ 23500 ∧ wphi S0 ≤ 19900 ∧ wpsi S0 ≤ 1120) (q_5 : bg + 14 ≤ S0.f 43 43) (q_6 : (h = -1 → hn1 = 0) ∧ (h ≠ -1 → 3 ≤ hn1)) (q_7 : st = bg + 2) (q_8 : mQ S0 S (wei (bg + 6))) (q_9 : hn1 = if h = -1 then 0 else 3 + S0.a 63 k.toNat), yT xPr G LY xC198 48 [some ((2, 43)), some (vi bg), some (vi h), some (vi k), some (vi st), none, none, none] [vi hn1] S (d + 1) (fun r S' => r = (0, (0, 0)) ∧ S0.f 43 43 ≤ S'.f 43 43 ∧ S'.f 43 43 ≤ S0.f 43 43 + 70 ∧ S'.f 43 51 = 0 ∧ wphi S' ≤ wphi S0 ∧ wpsi S' ≤ wpsi S0 ∧ (h = -1 → S'.f 43 43 ≤ S0.f 43 43 + 4) ∧ mQ S0 S' (enW (pkR 48 S0) (tmM S0 k) (bg + 6) h (S0.a 63 k.toNat)) ∧ wLV S' ∧ yI S' ∧ yFr [(43, 43), (43, 49), (43, 50), (43, 51)] [72, 73, 74, 75, 76, 77] S0 S' ∧ yRm [] S0 S') := by
  intro S hI hF hR e_wLV st hn1 h_st h_hn1 q_0 q_1 q_2 q_3 q_4 q_5 q_6 q_7 q_8 q_9
  have h1 := hI.f tf43_43
  have h2 := hI.f tf43_51
  refine r_store (i := 48) (u := 6) (w := 0) (L1 := [some ((2, 43)), some (vi bg), some (vi h), some (vi k), some (vi st), none, some (vi hn1), none]) rfl rfl rfl rfl ?_
  refine r_load (i := 49) (u := 0) (w := 2) rfl rfl rfl ?_
  refine r_load (i := 50) (u := 6) (w := 0) rfl rfl rfl ?_
  refine r_call (i := 51) (u := 11) (v := 257) (w := 0) (b := 0) (na := 514) (C2 := xC257) (as := [(2, 43), vi hn1]) (s := []) rfl rfl rfl rfl rfl rfl rfl (sp257 (v := hn1) hI ⟨by omega, by omega⟩ (by omega)  (by omega)) (fun r3 S4 hq5 => ?_)
  obtain ⟨rfl, h6, h7, mq8, hI9, hF10, hR11⟩ := hq5
  have hF12 := hF.trans hF10 rfl rfl
  have hR13 := hR.trans hR11 rfl
  have e14 := wLVx.fr e_wLV hF10 rfl rfl
  refine Or.inl ⟨rfl, ?_⟩
  refine r_const (i := 52) (u := 0) (z := 0) rfl rfl ?_
  refine r_store (i := 53) (u := 7) (w := 0) (L1 := [some ((2, 43)), some (vi bg), some (vi h), some (vi k), some (vi st), none, some (vi hn1), some (vi 0)]) rfl rfl rfl rfl ?_
  have h15 := hI9.f tf43_43
  have h16 := hI9.f tf43_51
  have h17 : S4.f 43 51 = S.f 43 51 := hF10.f rfl
  have h18 : wphi S4 = wphi S := wphiX.fr hF10 rfl rfl
  have h19 : wpsi S4 = wpsi S := wpsiX.fr hF10 rfl rfl
  exact lp198_54 h_bg h_h h_k p_0 p_1 p_2 p_3 p_4 hd _ S4 hI9 hF12 hR13 e14 st hn1 0 ⟨by omega, by omega⟩ ⟨by omega, by omega⟩ ⟨by omega, by omega⟩ (by omega) (by omega) (by omega) (by omega) (by omega) (by omega) (by omega) (by omega) (by omega) (by exact fun w9 hw0 => mq8 _ (q_8 _ hw0)) (by exact q_9) (Int.lt_succ_toNat _)
/-- ProxyForgeModel.endCode -/
theorem sp198 {G : xk} {S : yS} {d : Nat} (hI : yI S) {bg : Int} (h_bg : 0 ≤ bg ∧ bg ≤ 23900) {h : Int} (h_h : -1 ≤ h ∧ h ≤ 23900) {k : Int} (h_k : 0 ≤ k ∧ k ≤ 23) (p_0 : S.f 43 43 ≤ 23500) (p_1 : S.f 43 51 = 0) (p_2 : wphi S ≤ 19900) (p_3 : wpsi S ≤ 1120) (p_4 : bg + 14 ≤ S.f 43 43) (e_wLV : wLV S) (hd : 7 ≤ d) : yT xPr G LY xC198 0 [some ((2, 43)), some (vi bg), some (vi h), some (vi k)] [] S d (fun r S' => r = (0, (0, 0)) ∧ S.f 43 43 ≤ S'.f 43 43 ∧ S'.f 43 43 ≤ S.f 43 43 + 70 ∧ S'.f 43 51 = 0 ∧ wphi S' ≤ wphi S ∧ wpsi S' ≤ wpsi S ∧ (h = -1 → S'.f 43 43 ≤ S.f 43 43 + 4) ∧ mQ S S' (enW (pkR 48 S) (tmM S k) (bg + 6) h (S.a 63 k.toNat)) ∧ wLV S' ∧ yI S' ∧ yFr [(43, 43), (43, 49), (43, 50), (43, 51)] [72, 73, 74, 75, 76, 77] S S' ∧ yRm [] S S') := by
  refine yT_pad 4 ?_
  show yT xPr G LY xC198 0 [some ((2, 43)), some (vi bg), some (vi h), some (vi k), none, none, none, none] [] S d _
  obtain ⟨d, rfl⟩ : ∃ q, d = q + 1 := ⟨d - 1, by omega⟩
  have hF : yFr [(43, 43), (43, 49), (43, 50), (43, 51)] [72, 73, 74, 75, 76, 77] S S := yFr.refl S
  have hR : yRm [] S S := yRm.refl S
  have h1 := hI.f tf43_43
  have h2 := hI.f tf43_51
  refine r_load (i := 0) (u := 1) (w := 0) rfl rfl rfl ?_
  refine r_const (i := 1) (u := 2) (z := 2) rfl rfl ?_
  refine r_iadd (i := 2) rfl ?_
  refine r_store (i := 3) (u := 4) (w := 0) (L1 := [some ((2, 43)), some (vi bg), some (vi h), some (vi k), some (vi (bg + 2)), none, none, none]) rfl rfl rfl rfl ?_
  refine r_load (i := 4) (u := 0) (w := 2) rfl rfl rfl ?_
  refine r_getf (i := 5) (v := 43) (w := 11) (x := vi (S.f 43 43)) rfl ly43 rfl rfl fun h3 => ?_
  have h3 : Rg (S.f 43 43) := h3
  refine r_load (i := 6) (u := 4) (w := 0) rfl rfl rfl ?_
  refine r_isub (i := 7) rfl ?_
  refine r_const (i := 8) (u := 12) (z := 12) rfl rfl ?_
  refine r_isub (i := 9) rfl ?_
  refine r_store (i := 10) (u := 5) (w := 0) (L1 := [some ((2, 43)), some (vi bg), some (vi h), some (vi k), some (vi (bg + 2)), some (vi (((S.f 43 43) - (bg + 2)) - 12)), none, none]) rfl rfl rfl rfl ?_
  refine r_load (i := 11) (u := 0) (w := 2) rfl rfl rfl ?_
  refine r_load (i := 12) (u := 4) (w := 0) rfl rfl rfl ?_
  refine r_const (i := 13) (u := 8) (z := 8) rfl rfl ?_
  refine r_iadd (i := 14) rfl ?_
  refine r_load (i := 15) (u := 5) (w := 0) rfl rfl rfl ?_
  refine r_call (i := 16) (u := 11) (v := 231) (w := 0) (b := 0) (na := 1027) (C2 := xC231) (as := [(2, 43), vi ((bg + 2) + 8), vi (((S.f 43 43) - (bg + 2)) - 12)]) (s := []) rfl rfl rfl rfl rfl rfl rfl (sp231 (at0 := (bg + 2) + 8) (v := ((S.f 43 43) - (bg + 2)) - 12) hI ⟨by omega, by omega⟩ ⟨by omega, by omega⟩   (by omega)) (fun r4 S5 hq6 => ?_)
  obtain ⟨rfl, mq7, hI8, hF9, hR10⟩ := hq6
  have hF11 := hF.trans hF9 rfl rfl
  have hR12 := hR.trans hR10 rfl
  have e13 := wLVx.fr e_wLV hF9 rfl rfl
  refine Or.inl ⟨rfl, ?_⟩
  refine r_load (i := 17) (u := 0) (w := 2) rfl rfl rfl ?_
  refine r_getf (i := 18) (v := 41) (w := 11) (x := (2, 72)) rfl ly43 rfl rfl fun _ => ?_
  refine r_load (i := 19) (u := 4) (w := 0) rfl rfl rfl ?_
  refine r_const (i := 20) (u := 4) (z := 4) rfl rfl ?_
  refine r_iadd (i := 21) rfl ?_
  refine r_load (i := 22) (u := 0) (w := 2) rfl rfl rfl ?_
  have h15 := hI8.f tf43_53
  have h16 : S5.f 43 53 = S.f 43 53 := hF9.f rfl
  refine r_getf (i := 23) (v := 53) (w := 11) (x := vi (S5.f 43 53)) rfl ly43 rfl rfl fun h17 => ?_
  have h17 : Rg (S5.f 43 53) := h17
  refine r_const (i := 24) (u := 8) (z := 8) rfl rfl ?_
  refine r_ishr (i := 25) rfl (by omega) (by omega) (by omega) (by omega) ?_
  have h18 := @yshr_c (S5.f 43 53) 8 (by omega) (by omega)
  refine s_int (i := 26) rfl ly72 rfl (by omega) (by omega) ⟨by omega, by omega⟩ ?_
  have hI20 := hI8.seta0 (b := 72) (j := ((bg + 2) + 4).toNat) (z := yshr (S5.f 43 53) 8) rfl rfl
  have hF22 := hF11.seta (b := 72) (j := ((bg + 2) + 4).toNat) (z := yshr (S5.f 43 53) 8) rfl
  have hR23 := hR12.seta (b := 72) (j := ((bg + 2) + 4).toNat) (z := yshr (S5.f 43 53) 8)
  have e24 := wLVx.seta e13 (b := 72) (j := ((bg + 2) + 4).toNat) (z := yshr (S5.f 43 53) 8) rfl
  refine yT_gen (fun S19 hS21 => ?_)
  rw [hS21] at hI20 hF22 hR23 e24
  refine r_load (i := 27) (u := 0) (w := 2) rfl rfl rfl ?_
  refine r_getf (i := 28) (v := 41) (w := 11) (x := (2, 72)) rfl ly43 rfl rfl fun _ => ?_
  refine r_load (i := 29) (u := 4) (w := 0) rfl rfl rfl ?_
  refine r_const (i := 30) (u := 5) (z := 5) rfl rfl ?_
  refine r_iadd (i := 31) rfl ?_
  refine r_load (i := 32) (u := 0) (w := 2) rfl rfl rfl ?_
  have h26 := hI20.f tf43_53
  have h27 : S19.f 43 53 = S.f 43 53 := hF22.f rfl
  refine r_getf (i := 33) (v := 53) (w := 11) (x := vi (S19.f 43 53)) rfl ly43 rfl rfl fun h28 => ?_
  have h28 : Rg (S19.f 43 53) := h28
  refine r_const (i := 34) (u := 255) (z := 255) rfl rfl ?_
  refine r_iand (i := 35) rfl ?_
  have h29 := @yand_c (S19.f 43 53) 255 (by decide) (by decide)
  have h30 := yand_255 (S19.f 43 53)
  refine s_int (i := 36) rfl ly72 rfl (by omega) (by omega) ⟨by omega, by omega⟩ ?_
  have hI32 := hI20.seta0 (b := 72) (j := ((bg + 2) + 5).toNat) (z := yand (S19.f 43 53) 255) rfl rfl
  have hF34 := hF22.seta (b := 72) (j := ((bg + 2) + 5).toNat) (z := yand (S19.f 43 53) 255) rfl
  have hR35 := hR23.seta (b := 72) (j := ((bg + 2) + 5).toNat) (z := yand (S19.f 43 53) 255)
  have e36 := wLVx.seta e24 (b := 72) (j := ((bg + 2) + 5).toNat) (z := yand (S19.f 43 53) 255) rfl
  refine yT_gen (fun S31 hS33 => ?_)
  rw [hS33] at hI32 hF34 hR35 e36
  refine r_load (i := 37) (u := 2) (w := 0) rfl rfl rfl ?_
  refine r_const (i := 38) (u := 4294967295) (z := -1) rfl rfl ?_
  refine c_ne (i := 39) (v := 42) rfl ⟨by omega, by omega⟩ ⟨by omega, by omega⟩ (fun h37 => ?_) (fun h38 => ?_)
  · refine r_const (i := 42) (u := 3) (z := 3) rfl rfl ?_
    refine r_load (i := 43) (u := 0) (w := 2) rfl rfl rfl ?_
    refine r_getf (i := 44) (v := 26) (w := 11) (x := (2, 63)) rfl ly43 rfl rfl fun _ => ?_
    refine r_load (i := 45) (u := 3) (w := 0) rfl rfl rfl ?_
    refine a_int (i := 46) rfl ly63 rfl (by omega) (by omega) fun h40 => ?_
    have h41 := hI32.a ta63 k.toNat
    have h42 : S31.a 63 k.toNat = S.a 63 k.toNat := hF34.a rfl _
    refine r_iadd (i := 47) rfl ?_
    refine yT_drop (L1 := [some ((2, 43)), some (vi bg), some (vi h), some (vi k), some (vi (bg + 2)), none, none, none]) rfl ?_
    have h43 := hI32.f tf43_43
    have h44 : S31.f 43 43 = S19.f 43 43 := by rw [← hS33]; rfl
    have h45 : S19.f 43 43 = S5.f 43 43 := by rw [← hS21]; rfl
    have h46 : S5.f 43 43 = S.f 43 43 := hF9.f rfl
    have h47 := hI32.f tf43_51
    have h48 : S31.f 43 51 = S19.f 43 51 := by rw [← hS33]; rfl
    have h49 : S19.f 43 51 = S5.f 43 51 := by rw [← hS21]; rfl
    have h50 : S5.f 43 51 = S.f 43 51 := hF9.f rfl
    have h51 : wphi S31 = wphi S19 := by rw [← hS33]; exact wphiX.seta rfl
    have h52 : wphi S19 = wphi S5 := by rw [← hS21]; exact wphiX.seta rfl
    have h53 : wphi S5 = wphi S := wphiX.fr hF9 rfl rfl
    have h54 : wpsi S31 = wpsi S19 := by rw [← hS33]; exact wpsiX.seta rfl
    have h55 : wpsi S19 = wpsi S5 := by rw [← hS21]; exact wpsiX.seta rfl
    have h56 : wpsi S5 = wpsi S := wpsiX.fr hF9 rfl rfl
    exact lp198_48 h_bg h_h h_k p_0 p_1 p_2 p_3 p_4 hd S31 hI32 hF34 hR35 e36 (bg + 2) (3 + (S31.a 63 k.toNat)) ⟨by omega, by omega⟩ ⟨by omega, by omega⟩ (by omega) (by omega) (by omega) (by omega) (by omega) (by omega) (by omega) (by omega) (by intro w9 hw0; have h91 := mq7 _ hw0; have h92 := mQ_se (v := S5.f 43 53 / 256) yshr_8 hS21 _ h91; have h93 := mQ_se (v := S19.f 43 53) (by rw [yand_m]; omega) hS33 _ h92; have ln9 := mW_ln hw0 (hI.f tf43_43).1; exact mW_c h93 (wei_m (by omega) (by omega) h91.2.2.2.1 h92.2.2.2.1)) (by first | exact (if_pos (by omega)).symm | (rw [if_neg (by omega)]; omega)) 
  · refine r_const (i := 40) (u := 0) (z := 0) rfl rfl ?_
    refine r_goto (i := 41) (v := 48) rfl ?_
    refine yT_drop (L1 := [some ((2, 43)), some (vi bg), some (vi h), some (vi k), some (vi (bg + 2)), none, none, none]) rfl ?_
    have h57 := hI32.f tf43_43
    have h58 : S31.f 43 43 = S19.f 43 43 := by rw [← hS33]; rfl
    have h59 : S19.f 43 43 = S5.f 43 43 := by rw [← hS21]; rfl
    have h60 : S5.f 43 43 = S.f 43 43 := hF9.f rfl
    have h61 := hI32.f tf43_51
    have h62 : S31.f 43 51 = S19.f 43 51 := by rw [← hS33]; rfl
    have h63 : S19.f 43 51 = S5.f 43 51 := by rw [← hS21]; rfl
    have h64 : S5.f 43 51 = S.f 43 51 := hF9.f rfl
    have h65 : wphi S31 = wphi S19 := by rw [← hS33]; exact wphiX.seta rfl
    have h66 : wphi S19 = wphi S5 := by rw [← hS21]; exact wphiX.seta rfl
    have h67 : wphi S5 = wphi S := wphiX.fr hF9 rfl rfl
    have h68 : wpsi S31 = wpsi S19 := by rw [← hS33]; exact wpsiX.seta rfl
    have h69 : wpsi S19 = wpsi S5 := by rw [← hS21]; exact wpsiX.seta rfl
    have h70 : wpsi S5 = wpsi S := wpsiX.fr hF9 rfl rfl
    exact lp198_48 h_bg h_h h_k p_0 p_1 p_2 p_3 p_4 hd S31 hI32 hF34 hR35 e36 (bg + 2) 0 ⟨by omega, by omega⟩ ⟨by omega, by omega⟩ (by omega) (by omega) (by omega) (by omega) (by omega) (by omega) (by omega) (by omega) (by intro w9 hw0; have h91 := mq7 _ hw0; have h92 := mQ_se (v := S5.f 43 53 / 256) yshr_8 hS21 _ h91; have h93 := mQ_se (v := S19.f 43 53) (by rw [yand_m]; omega) hS33 _ h92; have ln9 := mW_ln hw0 (hI.f tf43_43).1; exact mW_c h93 (wei_m (by omega) (by omega) h91.2.2.2.1 h92.2.2.2.1)) (by first | exact (if_pos (by omega)).symm | (rw [if_neg (by omega)]; omega)) 
end XNC
