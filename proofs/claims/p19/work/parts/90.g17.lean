set_option linter.unusedVariables false
set_option maxRecDepth 4000
noncomputable section XNC
theorem enW_i {P Q T U : Int → Int} {a th tk : Int} {w : W16} : enW P T a (-1) th w = enW Q U a (-1) tk w := rfl
set_option maxHeartbeats 4000000 in
theorem lp266_197 {G : xk} {d : Nat} {S0 : yS} {k : Int} (h_k : 0 ≤ k ∧ k ≤ 23) (p_0 : S0.f 43 43 ≤ 23000) (p_1 : S0.f 43 51 = 0) (p_2 : wphi S0 ≤ 19000) (p_3 : wpsi S0 ≤ 1000) (hd : 10 ≤ d + 1) : ∀ (n : Nat), ∀ (S : yS) (hI : yI S) (hF : yFr [(43, 43), (43, 49), (43, 50), (43, 51), (43, 52), (43, 53)] [68, 72, 73, 74, 75, 76, 77] S0 S) (hR : yRm [] S0 S) (e_wLV : wLV S) (e_wAS : wAS S) (j : Int) (h_j : 0 ≤ j ∧ j ≤ 3) (q_0 : S0.f 43 43 ≤ S.f 43 43 ∧ S.f 43 43 ≤ S0.f 43 43 + 168 + 2 * j) (q_1 : S.f 43 51 = 0) (q_2 : wphi S ≤ wphi S0 + 320) (q_3 : wpsi S ≤ wpsi S0 + 17) (q_4 : S0.f 43 43 ≤ 23000 ∧ wphi S0 ≤ 19000 ∧ wpsi S0 ≤ 1000) (q_5 : wphi S + S.f 43 43 ≤ wphi S0 + S0.f 43 43 + 393 + 2 * j) (q_6 : hM S0 → mQ S0 S (fun w => we0 (pkR 48 S0) (tmM S0 k) j.toNat (we1 (S0.a 63 k.toNat) (m4 S0 k w)))) (q_7 : j ≤ S0.a 63 k.toNat) (q_8 : 0 < S0.a 63 k.toNat) (hn : 3 - j < (n : Nat)), yT xPr G LY xC266 197 [some ((2, 43)), some (vi k), none, none, none, none, some (vi j)] [] S (d + 1) (fun r S' => r = (0, (0, 0)) ∧ S0.f 43 43 ≤ S'.f 43 43 ∧ S'.f 43 43 ≤ S0.f 43 43 + 250 ∧ S'.f 43 51 = 0 ∧ wphi S' ≤ wphi S0 + 330 ∧ wpsi S' ≤ wpsi S0 + 17 ∧ wphi S' + S'.f 43 43 ≤ wphi S0 + S0.f 43 43 + 399 ∧ (hM S0 → mQ S0 S' (mV S0 k)) ∧ wLV S' ∧ wAS S' ∧ yI S' ∧ yFr [(43, 43), (43, 49), (43, 50), (43, 51), (43, 52), (43, 53)] [68, 72, 73, 74, 75, 76, 77] S0 S' ∧ yRm [] S0 S') := by
  intro n
  induction n with
  | zero => intro S hI hF hR e_wLV e_wAS j h_j q_0 q_1 q_2 q_3 q_4 q_5 q_6 q_7 q_8 hn; exact absurd hn (by omega)
  | succ n ih =>
    intro S hI hF hR e_wLV e_wAS j h_j q_0 q_1 q_2 q_3 q_4 q_5 q_6 q_7 q_8 hn
    have h1 := hI.f tf43_43
    have h2 := hI.f tf43_51
    have h3 := wphi_nn hI
    have h4 := wpsi_nn hI
    refine r_load (i := 197) (u := 6) (w := 0) rfl rfl rfl ?_
    refine r_load (i := 198) (u := 0) (w := 2) rfl rfl rfl ?_
    refine r_getf (i := 199) (v := 26) (w := 11) (x := (2, 63)) rfl ly43 rfl rfl fun _ => ?_
    refine r_load (i := 200) (u := 1) (w := 0) rfl rfl rfl ?_
    refine a_int (i := 201) rfl ly63 rfl (by omega) (by omega) fun h6 => ?_
    have h7 := hI.a ta63 k.toNat
    have h8 : S.a 63 k.toNat = S0.a 63 k.toNat := hF.a rfl _
    refine c_ge (i := 202) (v := 217) rfl ⟨by omega, by omega⟩ ⟨by omega, by omega⟩ (fun h9 => ?_) (fun h10 => ?_)
    · exact r_ret0 (i := 217) rfl ⟨rfl, (by omega), (by omega), (by omega), (by omega), (by omega), (by omega), (by intro hm9 w9 hw0; exact mW_c (q_6 hm9 _ hw0) (mV_y (by omega) (by omega))), e_wLV, e_wAS, hI, hF, hR⟩
    · refine r_load (i := 203) (u := 0) (w := 2) rfl rfl rfl ?_
      refine r_load (i := 204) (u := 0) (w := 2) rfl rfl rfl ?_
      refine r_load (i := 205) (u := 0) (w := 2) rfl rfl rfl ?_
      refine r_getf (i := 206) (v := 25) (w := 11) (x := (2, 62)) rfl ly43 rfl rfl fun _ => ?_
      refine r_const (i := 207) (u := 3) (z := 3) rfl rfl ?_
      refine r_load (i := 208) (u := 1) (w := 0) rfl rfl rfl ?_
      refine r_imul (i := 209) rfl ?_
      refine r_load (i := 210) (u := 6) (w := 0) rfl rfl rfl ?_
      refine r_iadd (i := 211) rfl ?_
      refine a_int (i := 212) rfl ly62 rfl (by omega) (by omega) fun h12 => ?_
      have h13 := hI.a ta62 ((3 * k) + j).toNat
      have h14 : S.a 62 ((3 * k) + j).toNat = S0.a 62 ((3 * k) + j).toNat := hF.a rfl _
      refine r_call (i := 213) (u := 11) (v := 193) (w := 0) (b := 0) (na := 514) (C2 := xC193) (as := [(2, 43), vi (S.a 62 ((3 * k) + j).toNat)]) (s := [(2, 43)]) rfl rfl rfl rfl rfl rfl rfl (sp193 (t := S.a 62 ((3 * k) + j).toNat) hI ⟨by omega, by omega⟩ (by omega) (by omega) (by omega) e_wLV (by omega)) (fun r15 S16 hq17 => ?_)
      obtain ⟨z18, rfl, h19, h20, h21, h22, h23, mi24, e25, hI26, hF27, hR28⟩ := hq17
      have hF29 := hF.trans hF27 rfl rfl
      have hR30 := hR.trans hR28 rfl
      have e31 := wASx.fr e_wAS hF27 rfl rfl
      refine Or.inr (Or.inl ⟨rfl, ?_⟩)
      have h32 := hI26.f tf43_43
      have h33 : S16.f 43 43 = S.f 43 43 := hF27.f rfl
      refine r_call (i := 214) (u := 11) (v := 257) (w := 0) (b := 0) (na := 514) (C2 := xC257) (as := [(2, 43), vi z18]) (s := []) rfl rfl rfl rfl rfl rfl rfl (sp257 (v := z18) hI26 ⟨by omega, by omega⟩ (by omega)  (by omega)) (fun r34 S35 hq36 => ?_)
      obtain ⟨rfl, h37, h38, mq39, hI40, hF41, hR42⟩ := hq36
      have hF43 := hF29.trans hF41 rfl rfl
      have hR44 := hR30.trans hR42 rfl
      have e45 := wASx.fr e31 hF41 rfl rfl
      have e46 := wLVx.fr e25 hF41 rfl rfl
      refine Or.inl ⟨rfl, ?_⟩
      refine r_iinc (i := 215) (u := 1) (v := 6) (s := 1) (L1 := [some ((2, 43)), some (vi k), none, none, none, none, some (vi (j + 1))]) rfl rfl rfl rfl rfl ?_
      refine r_goto (i := 216) (v := 197) rfl ?_
      have h47 := hI40.f tf43_43
      have h48 := hI40.f tf43_51
      have h49 : S35.f 43 51 = S16.f 43 51 := hF41.f rfl
      have h50 := wphi_nn hI40
      have h51 : wphi S35 = wphi S16 := wphiX.fr hF41 rfl rfl
      have h52 := wpsi_nn hI40
      have h53 : wpsi S35 = wpsi S16 := wpsiX.fr hF41 rfl rfl
      exact ih S35 hI40 hF43 hR44 e46 e45 (j + 1) ⟨by omega, by omega⟩ (by omega) (by omega) (by omega) (by omega) (by omega) (by omega) (by intro hm9 w9 hw0; have hwq := q_6 hm9 _ hw0; obtain ⟨hw1, ew1⟩ := mi24 _ hwq; have hw2 := mq39 _ hw1; subst ew1; exact mW_c hw2 (we0_eq (pkR_fr hF rfl) (by omega) (hF.a rfl _))) (by omega) (by omega) (by omega)
set_option maxHeartbeats 4000000 in
theorem lp266_168 {G : xk} {d : Nat} {S0 : yS} {k : Int} (h_k : 0 ≤ k ∧ k ≤ 23) (p_0 : S0.f 43 43 ≤ 23000) (p_1 : S0.f 43 51 = 0) (p_2 : wphi S0 ≤ 19000) (p_3 : wpsi S0 ≤ 1000) (hd : 10 ≤ d + 1) : ∀ (S : yS) (hI : yI S) (hF : yFr [(43, 43), (43, 49), (43, 50), (43, 51), (43, 52), (43, 53)] [68, 72, 73, 74, 75, 76, 77] S0 S) (hR : yRm [] S0 S) (e_wLV : wLV S) (e_wAS : wAS S)  (q_0 : S0.f 43 43 ≤ S.f 43 43 ∧ S.f 43 43 ≤ S0.f 43 43 + 160) (q_1 : S.f 43 51 = 0) (q_2 : wphi S ≤ wphi S0 + 320) (q_3 : wpsi S ≤ wpsi S0 + 17) (q_4 : S0.f 43 43 ≤ 23000 ∧ wphi S0 ≤ 19000 ∧ wpsi S0 ≤ 1000) (q_5 : wphi S + S.f 43 43 ≤ wphi S0 + S0.f 43 43 + 385) (q_6 : hM S0 → mQ S0 S (m4 S0 k)), yT xPr G LY xC266 168 [some ((2, 43)), some (vi k), none, none, none, none, none] [] S (d + 1) (fun r S' => r = (0, (0, 0)) ∧ S0.f 43 43 ≤ S'.f 43 43 ∧ S'.f 43 43 ≤ S0.f 43 43 + 250 ∧ S'.f 43 51 = 0 ∧ wphi S' ≤ wphi S0 + 330 ∧ wpsi S' ≤ wpsi S0 + 17 ∧ wphi S' + S'.f 43 43 ≤ wphi S0 + S0.f 43 43 + 399 ∧ (hM S0 → mQ S0 S' (mV S0 k)) ∧ wLV S' ∧ wAS S' ∧ yI S' ∧ yFr [(43, 43), (43, 49), (43, 50), (43, 51), (43, 52), (43, 53)] [68, 72, 73, 74, 75, 76, 77] S0 S' ∧ yRm [] S0 S') := by
  intro S hI hF hR e_wLV e_wAS   q_0 q_1 q_2 q_3 q_4 q_5 q_6
  have h1 := hI.f tf43_43
  have h2 := hI.f tf43_51
  have h3 := wphi_nn hI
  have h4 := wpsi_nn hI
  refine r_load (i := 168) (u := 0) (w := 2) rfl rfl rfl ?_
  refine r_getf (i := 169) (v := 26) (w := 11) (x := (2, 63)) rfl ly43 rfl rfl fun _ => ?_
  refine r_load (i := 170) (u := 1) (w := 0) rfl rfl rfl ?_
  refine a_int (i := 171) rfl ly63 rfl (by omega) (by omega) fun h6 => ?_
  have h7 := hI.a ta63 k.toNat
  have h8 : S.a 63 k.toNat = S0.a 63 k.toNat := hF.a rfl _
  refine z_ne (i := 172) (v := 174) rfl ⟨by omega, by omega⟩ (fun h9 => ?_) (fun h10 => ?_)
  · refine r_load (i := 174) (u := 0) (w := 2) rfl rfl rfl ?_
    refine r_load (i := 175) (u := 0) (w := 2) rfl rfl rfl ?_
    refine r_str (i := 176) (v := 72) rfl ?_
    have h11 := slv72
    refine r_call (i := 177) (u := 11) (v := 252) (w := 0) (b := 0) (na := 514) (C2 := xC252) (as := [(2, 43), (6, 72)]) (s := [(2, 43)]) rfl rfl rfl rfl rfl rfl rfl (sp252 (s := 72) hI ⟨by decide, by decide⟩ (by omega) (by omega) (by omega) (by omega) e_wLV (by omega)) (fun r12 S13 hq14 => ?_)
    obtain ⟨z15, rfl, h16, h17, h18, h19, h20, fm21, mi22, e23, hI24, hF25, hR26⟩ := hq14
    have hF27 := hF.trans hF25 rfl rfl
    have hR28 := hR.trans hR26 rfl
    have e29 := wASx.fr e_wAS hF25 rfl rfl
    refine Or.inr (Or.inl ⟨rfl, ?_⟩)
    have h30 := hI24.f tf43_43
    have h31 : S13.f 43 43 = S.f 43 43 := hF25.f rfl
    refine r_call (i := 178) (u := 11) (v := 257) (w := 0) (b := 0) (na := 514) (C2 := xC257) (as := [(2, 43), vi z15]) (s := []) rfl rfl rfl rfl rfl rfl rfl (sp257 (v := z15) hI24 ⟨by omega, by omega⟩ (by omega)  (by omega)) (fun r32 S33 hq34 => ?_)
    obtain ⟨rfl, h35, h36, mq37, hI38, hF39, hR40⟩ := hq34
    have hF41 := hF27.trans hF39 rfl rfl
    have hR42 := hR28.trans hR40 rfl
    have e43 := wASx.fr e29 hF39 rfl rfl
    have e44 := wLVx.fr e23 hF39 rfl rfl
    refine Or.inl ⟨rfl, ?_⟩
    refine r_load (i := 179) (u := 0) (w := 2) rfl rfl rfl ?_
    refine r_const (i := 180) (u := 2) (z := 2) rfl rfl ?_
    refine r_const (i := 181) (u := 2) (z := 2) rfl rfl ?_
    refine r_load (i := 182) (u := 0) (w := 2) rfl rfl rfl ?_
    refine r_getf (i := 183) (v := 26) (w := 11) (x := (2, 63)) rfl ly43 rfl rfl fun _ => ?_
    refine r_load (i := 184) (u := 1) (w := 0) rfl rfl rfl ?_
    refine a_int (i := 185) rfl ly63 rfl (by omega) (by omega) fun h46 => ?_
    have h47 := hI38.a ta63 k.toNat
    have h48 : S33.a 63 k.toNat = S0.a 63 k.toNat := hF41.a rfl _
    refine r_imul (i := 186) rfl ?_
    refine r_iadd (i := 187) rfl ?_
    have h49 := hI38.f tf43_43
    refine r_call (i := 188) (u := 11) (v := 204) (w := 0) (b := 0) (na := 514) (C2 := xC204) (as := [(2, 43), vi (2 + (2 * (S33.a 63 k.toNat)))]) (s := []) rfl rfl rfl rfl rfl rfl rfl (sp204 (v := 2 + (2 * (S33.a 63 k.toNat))) hI38 ⟨by omega, by omega⟩ (by omega)  (by omega)) (fun r50 S51 hq52 => ?_)
    obtain ⟨rfl, h53, h54, mq55, hI56, hF57, hR58⟩ := hq52
    have hF59 := hF41.trans hF57 rfl rfl
    have hR60 := hR42.trans hR58 rfl
    have e61 := wASx.fr e43 hF57 rfl rfl
    have e62 := wLVx.fr e44 hF57 rfl rfl
    refine Or.inl ⟨rfl, ?_⟩
    refine r_load (i := 189) (u := 0) (w := 2) rfl rfl rfl ?_
    refine r_load (i := 190) (u := 0) (w := 2) rfl rfl rfl ?_
    refine r_getf (i := 191) (v := 26) (w := 11) (x := (2, 63)) rfl ly43 rfl rfl fun _ => ?_
    refine r_load (i := 192) (u := 1) (w := 0) rfl rfl rfl ?_
    refine a_int (i := 193) rfl ly63 rfl (by omega) (by omega) fun h64 => ?_
    have h65 := hI56.a ta63 k.toNat
    have h66 : S51.a 63 k.toNat = S0.a 63 k.toNat := hF59.a rfl _
    have h67 := hI56.f tf43_43
    refine r_call (i := 194) (u := 11) (v := 257) (w := 0) (b := 0) (na := 514) (C2 := xC257) (as := [(2, 43), vi (S51.a 63 k.toNat)]) (s := []) rfl rfl rfl rfl rfl rfl rfl (sp257 (v := S51.a 63 k.toNat) hI56 ⟨by omega, by omega⟩ (by omega)  (by omega)) (fun r68 S69 hq70 => ?_)
    obtain ⟨rfl, h71, h72, mq73, hI74, hF75, hR76⟩ := hq70
    have hF77 := hF59.trans hF75 rfl rfl
    have hR78 := hR60.trans hR76 rfl
    have e79 := wASx.fr e61 hF75 rfl rfl
    have e80 := wLVx.fr e62 hF75 rfl rfl
    refine Or.inl ⟨rfl, ?_⟩
    refine r_const (i := 195) (u := 0) (z := 0) rfl rfl ?_
    refine r_store (i := 196) (u := 6) (w := 0) (L1 := [some ((2, 43)), some (vi k), none, none, none, none, some (vi 0)]) rfl rfl rfl rfl ?_
    have h81 := hI74.f tf43_43
    have h82 := hI74.f tf43_51
    have h83 : S69.f 43 51 = S51.f 43 51 := hF75.f rfl
    have h84 : S51.f 43 51 = S33.f 43 51 := hF57.f rfl
    have h85 : S33.f 43 51 = S13.f 43 51 := hF39.f rfl
    have h86 := wphi_nn hI74
    have h87 : wphi S69 = wphi S51 := wphiX.fr hF75 rfl rfl
    have h88 : wphi S51 = wphi S33 := wphiX.fr hF57 rfl rfl
    have h89 : wphi S33 = wphi S13 := wphiX.fr hF39 rfl rfl
    have h90 := wpsi_nn hI74
    have h91 : wpsi S69 = wpsi S51 := wpsiX.fr hF75 rfl rfl
    have h92 : wpsi S51 = wpsi S33 := wpsiX.fr hF57 rfl rfl
    have h93 : wpsi S33 = wpsi S13 := wpsiX.fr hF39 rfl rfl
    exact lp266_197 h_k p_0 p_1 p_2 p_3 hd _ S69 hI74 hF77 hR78 e80 e79 0 ⟨by omega, by omega⟩ (by omega) (by omega) (by omega) (by omega) (by omega) (by omega) (by intro hm9 w9 hw0; have hwq := q_6 hm9 _ hw0; obtain ⟨hw1, ew1⟩ := mi22 _ hwq; have hw2 := mq37 _ hw1; have hw3 := mq55 _ hw2; have hw4 := mq73 _ hw3; subst ew1; rw [show S33.a 63 k.toNat = S0.a 63 k.toNat from ((hF39.a (b := 63) rfl _).trans ((hF25.a (b := 63) rfl _).trans (hF.a (b := 63) rfl _))), show S51.a 63 k.toNat = S0.a 63 k.toNat from ((hF57.a (b := 63) rfl _).trans ((hF39.a (b := 63) rfl _).trans ((hF25.a (b := 63) rfl _).trans (hF.a (b := 63) rfl _))))] at hw4; exact mW_c hw4 we1_m) (by omega) (by omega) (Int.lt_succ_toNat _)
  · exact r_ret0 (i := 173) rfl ⟨rfl, (by omega), (by omega), (by omega), (by omega), (by omega), (by omega), (by intro hm9 w9 hw0; exact mW_c (q_6 hm9 _ hw0) (mV_n (by omega))), e_wLV, e_wAS, hI, hF, hR⟩
set_option maxHeartbeats 4000000 in
theorem lp266_159 {G : xk} {d : Nat} {S0 : yS} {k : Int} (h_k : 0 ≤ k ∧ k ≤ 23) (p_0 : S0.f 43 43 ≤ 23000) (p_1 : S0.f 43 51 = 0) (p_2 : wphi S0 ≤ 19000) (p_3 : wpsi S0 ≤ 1000) (hd : 10 ≤ d + 1) : ∀ (S : yS) (hI : yI S) (hF : yFr [(43, 43), (43, 49), (43, 50), (43, 51), (43, 52), (43, 53)] [68, 72, 73, 74, 75, 76, 77] S0 S) (hR : yRm [] S0 S) (e_wLV : wLV S) (e_wAS : wAS S) (hs bg h : Int) (h_hs : 0 ≤ hs ∧ hs ≤ 1) (h_bg : 0 ≤ bg ∧ bg ≤ 23200) (h_h : 0 ≤ h ∧ h ≤ 23500) (q_0 : S0.f 43 43 ≤ S.f 43 43 ∧ S.f 43 43 ≤ S0.f 43 43 + 90) (q_1 : S.f 43 51 = 0) (q_2 : wphi S ≤ wphi S0 + 320) (q_3 : wpsi S ≤ wpsi S0 + 17) (q_4 : S0.f 43 43 ≤ 23000 ∧ wphi S0 ≤ 19000 ∧ wpsi S0 ≤ 1000) (q_5 : wphi S + S.f 43 43 ≤ wphi S0 + S0.f 43 43 + 375) (q_6 : bg + 14 ≤ S.f 43 43) (q_7 : hs = 1 → wphi S + S.f 43 43 ≤ wphi S0 + S0.f 43 43 + 315) (q_8 : hs = ggM S0 k) (q_9 : hM S0 → mP3 S0 S (mRr S0 k) bg h (mbg S0 k) (mhh S0 k)), yT xPr G LY xC266 159 [some ((2, 43)), some (vi k), none, some (vi hs), some (vi bg), some (vi h), none] [] S (d + 1) (fun r S' => r = (0, (0, 0)) ∧ S0.f 43 43 ≤ S'.f 43 43 ∧ S'.f 43 43 ≤ S0.f 43 43 + 250 ∧ S'.f 43 51 = 0 ∧ wphi S' ≤ wphi S0 + 330 ∧ wpsi S' ≤ wpsi S0 + 17 ∧ wphi S' + S'.f 43 43 ≤ wphi S0 + S0.f 43 43 + 399 ∧ (hM S0 → mQ S0 S' (mV S0 k)) ∧ wLV S' ∧ wAS S' ∧ yI S' ∧ yFr [(43, 43), (43, 49), (43, 50), (43, 51), (43, 52), (43, 53)] [68, 72, 73, 74, 75, 76, 77] S0 S' ∧ yRm [] S0 S') := by
  intro S hI hF hR e_wLV e_wAS hs bg h h_hs h_bg h_h q_0 q_1 q_2 q_3 q_4 q_5 q_6 q_7 q_8 q_9
  have h1 := hI.f tf43_43
  have h2 := hI.f tf43_51
  have h3 := wphi_nn hI
  have h4 := wpsi_nn hI
  refine r_load (i := 159) (u := 0) (w := 2) rfl rfl rfl ?_
  refine r_load (i := 160) (u := 4) (w := 0) rfl rfl rfl ?_
  refine r_load (i := 161) (u := 3) (w := 0) rfl rfl rfl ?_
  refine z_eq (i := 162) (v := 165) rfl ⟨by omega, by omega⟩ (fun h5 => ?_) (fun h6 => ?_)
  · refine r_const (i := 165) (u := 4294967295) (z := -1) rfl rfl ?_
    refine r_load (i := 166) (u := 1) (w := 0) rfl rfl rfl ?_
    refine r_call (i := 167) (u := 11) (v := 198) (w := 0) (b := 0) (na := 2052) (C2 := xC198) (as := [(2, 43), vi bg, vi (-1), vi k]) (s := []) rfl rfl rfl rfl rfl rfl rfl (sp198 (bg := bg) (h := -1) (k := k) hI ⟨by omega, by omega⟩ ⟨by omega, by omega⟩ ⟨by omega, by omega⟩ (by omega) (by omega) (by omega) (by omega) (by omega) e_wLV (by omega)) (fun r7 S8 hq9 => ?_)
    obtain ⟨rfl, h10, h11, h12, h13, h14, h15, mq16, e17, hI18, hF19, hR20⟩ := hq9
    have hF21 := hF.trans hF19 rfl rfl
    have hR22 := hR.trans hR20 rfl
    have e23 := wASx.fr e_wAS hF19 rfl rfl
    refine Or.inl ⟨rfl, ?_⟩
    refine yT_drop (L1 := [some ((2, 43)), some (vi k), none, none, none, none, none]) rfl ?_
    have h24 := hI18.f tf43_43
    have h25 := hI18.f tf43_51
    have h26 := wphi_nn hI18
    have h27 := wpsi_nn hI18
    exact lp266_168 h_k p_0 p_1 p_2 p_3 hd S8 hI18 hF21 hR22 e17 e23   (by omega) (by omega) (by omega) (by omega) (by omega) (by omega) (by intro hm9 w9 hw0; obtain ⟨hwq, hb9, hh9⟩ := q_9 hm9 _ hw0; exact mW_c (mq16 _ hwq) (m4_of (pkR_fr hF rfl) (tmM_fr hF rfl) (hF.a rfl _) hb9 hh9 (by omega) q_8 (by omega))) 
  · refine r_load (i := 163) (u := 5) (w := 0) rfl rfl rfl ?_
    refine r_goto (i := 164) (v := 166) rfl ?_
    refine r_load (i := 166) (u := 1) (w := 0) rfl rfl rfl ?_
    refine r_call (i := 167) (u := 11) (v := 198) (w := 0) (b := 0) (na := 2052) (C2 := xC198) (as := [(2, 43), vi bg, vi h, vi k]) (s := []) rfl rfl rfl rfl rfl rfl rfl (sp198 (bg := bg) (h := h) (k := k) hI ⟨by omega, by omega⟩ ⟨by omega, by omega⟩ ⟨by omega, by omega⟩ (by omega) (by omega) (by omega) (by omega) (by omega) e_wLV (by omega)) (fun r28 S29 hq30 => ?_)
    obtain ⟨rfl, h31, h32, h33, h34, h35, h36, mq37, e38, hI39, hF40, hR41⟩ := hq30
    have hF42 := hF.trans hF40 rfl rfl
    have hR43 := hR.trans hR41 rfl
    have e44 := wASx.fr e_wAS hF40 rfl rfl
    refine Or.inl ⟨rfl, ?_⟩
    refine yT_drop (L1 := [some ((2, 43)), some (vi k), none, none, none, none, none]) rfl ?_
    have h45 := hI39.f tf43_43
    have h46 := hI39.f tf43_51
    have h47 := wphi_nn hI39
    have h48 := wpsi_nn hI39
    exact lp266_168 h_k p_0 p_1 p_2 p_3 hd S29 hI39 hF42 hR43 e38 e44   (by omega) (by omega) (by omega) (by omega) (by omega) (by omega) (by intro hm9 w9 hw0; obtain ⟨hwq, hb9, hh9⟩ := q_9 hm9 _ hw0; exact mW_c (mq37 _ hwq) (m4_of (pkR_fr hF rfl) (tmM_fr hF rfl) (hF.a rfl _) hb9 hh9 (by omega) q_8 (by omega))) 
set_option maxHeartbeats 4000000 in
theorem lp266_143 {G : xk} {d : Nat} {S0 : yS} {k : Int} (h_k : 0 ≤ k ∧ k ≤ 23) (p_0 : S0.f 43 43 ≤ 23000) (p_1 : S0.f 43 51 = 0) (p_2 : wphi S0 ≤ 19000) (p_3 : wpsi S0 ≤ 1000) (hd : 10 ≤ d + 1) : ∀ (S : yS) (hI : yI S) (hF : yFr [(43, 43), (43, 49), (43, 50), (43, 51), (43, 52), (43, 53)] [68, 72, 73, 74, 75, 76, 77] S0 S) (hR : yRm [] S0 S) (e_wLV : wLV S) (e_wAS : wAS S) (m hs bg : Int) (h_m : 0 ≤ m ∧ m ≤ 59) (h_hs : 0 ≤ hs ∧ hs ≤ 1) (h_bg : 0 ≤ bg ∧ bg ≤ 23200) (q_0 : S0.f 43 43 ≤ S.f 43 43 ∧ S.f 43 43 ≤ S0.f 43 43 + 77) (q_1 : S.f 43 51 = 0) (q_2 : wphi S ≤ wphi S0 + 320) (q_3 : wpsi S ≤ wpsi S0 + 15) (q_4 : S0.f 43 43 ≤ 23000 ∧ wphi S0 ≤ 19000 ∧ wpsi S0 ≤ 1000) (q_5 : wphi S + S.f 43 43 ≤ wphi S0 + S0.f 43 43 + 375) (q_6 : bg + 14 ≤ S.f 43 43) (q_7 : hs = 1 → wphi S + S.f 43 43 ≤ wphi S0 + S0.f 43 43 + 292) (q_8 : hs = 0 ∨ wphi S ≤ wphi S0 + 215) (q_9 : m = S0.a 60 k.toNat) (q_10 : hs = ggM S0 k) (q_11 : hM S0 → mPJ S0 S (m1 S0 k) bg (mbg S0 k)), yT xPr G LY xC266 143 [some ((2, 43)), some (vi k), some (vi m), some (vi hs), some (vi bg), none, none] [] S (d + 1) (fun r S' => r = (0, (0, 0)) ∧ S0.f 43 43 ≤ S'.f 43 43 ∧ S'.f 43 43 ≤ S0.f 43 43 + 250 ∧ S'.f 43 51 = 0 ∧ wphi S' ≤ wphi S0 + 330 ∧ wpsi S' ≤ wpsi S0 + 17 ∧ wphi S' + S'.f 43 43 ≤ wphi S0 + S0.f 43 43 + 399 ∧ (hM S0 → mQ S0 S' (mV S0 k)) ∧ wLV S' ∧ wAS S' ∧ yI S' ∧ yFr [(43, 43), (43, 49), (43, 50), (43, 51), (43, 52), (43, 53)] [68, 72, 73, 74, 75, 76, 77] S0 S' ∧ yRm [] S0 S') := by
  intro S hI hF hR e_wLV e_wAS m hs bg h_m h_hs h_bg q_0 q_1 q_2 q_3 q_4 q_5 q_6 q_7 q_8 q_9 q_10 q_11
  have h1 := hI.f tf43_43
  have h2 := hI.f tf43_51
  have h3 := wphi_nn hI
  have h4 := wpsi_nn hI
  refine r_load (i := 143) (u := 0) (w := 2) rfl rfl rfl ?_
  refine r_getf (i := 144) (v := 43) (w := 11) (x := vi (S.f 43 43)) rfl ly43 rfl rfl fun h5 => ?_
  have h5 : Rg (S.f 43 43) := h5
  refine r_load (i := 145) (u := 4) (w := 0) rfl rfl rfl ?_
  refine r_isub (i := 146) rfl ?_
  refine r_const (i := 147) (u := 14) (z := 14) rfl rfl ?_
  refine r_isub (i := 148) rfl ?_
  refine r_store (i := 149) (u := 5) (w := 0) (L1 := [some ((2, 43)), some (vi k), some (vi m), some (vi hs), some (vi bg), some (vi (((S.f 43 43) - bg) - 14)), none]) rfl rfl rfl rfl ?_
  refine r_load (i := 150) (u := 3) (w := 0) rfl rfl rfl ?_
  refine z_eq (i := 151) (v := 159) rfl ⟨by omega, by omega⟩ (fun h6 => ?_) (fun h7 => ?_)
  · refine yT_drop (L1 := [some ((2, 43)), some (vi k), none, some (vi hs), some (vi bg), some (vi (((S.f 43 43) - bg) - 14)), none]) rfl ?_
    exact lp266_159 h_k p_0 p_1 p_2 p_3 hd S hI hF hR e_wLV e_wAS hs bg (((S.f 43 43) - bg) - 14) ⟨by omega, by omega⟩ ⟨by omega, by omega⟩ ⟨by omega, by omega⟩ (by omega) (by omega) (by omega) (by omega) (by omega) (by omega) (by omega) (by omega) (by exact q_10) (by intro hm9 w9 hw0; obtain ⟨hwq, hb9⟩ := q_11 hm9 _ hw0; have ln9 := mW_ln hwq (hI.f tf43_43).1; exact ⟨mW_c hwq (mR_n (by omega)), hb9, (show _ = ((m1 S0 k w9).2.1.length : Int) - (mbg S0 k w9 + 14) by omega)⟩) 
  · refine r_load (i := 152) (u := 0) (w := 2) rfl rfl rfl ?_
    refine r_const (i := 153) (u := 1) (z := 1) rfl rfl ?_
    refine r_load (i := 154) (u := 0) (w := 2) rfl rfl rfl ?_
    refine r_load (i := 155) (u := 2) (w := 0) rfl rfl rfl ?_
    have h8 := hI.a ta55 m.toNat
    have h9 : S.a 55 m.toNat = S0.a 55 m.toNat := hF.a rfl _
    refine r_call (i := 156) (u := 11) (v := 263) (w := 0) (b := 0) (na := 1026) (C2 := xC263) (as := [(2, 43), vi m]) (s := [vi 1, (2, 43)]) rfl rfl rfl rfl rfl rfl rfl (sp263 (m := m) hI ⟨by omega, by omega⟩   (by omega)) (fun r10 S11 hq12 => ?_)
    obtain ⟨z13, rfl, h14, h15, wda16, rfl⟩ := hq12
    refine Or.inr (Or.inl ⟨rfl, ?_⟩)
    refine r_iadd (i := 157) rfl ?_
    refine r_call (i := 158) (u := 11) (v := 254) (w := 0) (b := 0) (na := 770) (C2 := xC254) (as := [(2, 43), vi (1 + z13)]) (s := []) rfl rfl rfl rfl rfl rfl rfl (sp254 (lc := 1 + z13) hI ⟨by omega, by omega⟩ (by omega) (by omega) (by omega) (by omega) e_wLV (by omega)) (fun r17 S18 hq19 => ?_)
    obtain ⟨rfl, h20, h21, h22, h23, h24, mq25, e26, hI27, hF28, hR29⟩ := hq19
    have hF30 := hF.trans hF28 rfl rfl
    have hR31 := hR.trans hR29 rfl
    have e32 := wASx.fr e_wAS hF28 rfl rfl
    refine Or.inl ⟨rfl, ?_⟩
    refine yT_drop (L1 := [some ((2, 43)), some (vi k), none, some (vi hs), some (vi bg), some (vi (((S.f 43 43) - bg) - 14)), none]) rfl ?_
    have h33 := hI27.f tf43_43
    have h34 := hI27.f tf43_51
    have h35 := wphi_nn hI27
    have h36 := wpsi_nn hI27
    exact lp266_159 h_k p_0 p_1 p_2 p_3 hd S18 hI27 hF30 hR31 e26 e32 hs bg (((S.f 43 43) - bg) - 14) ⟨by omega, by omega⟩ ⟨by omega, by omega⟩ ⟨by omega, by omega⟩ (by omega) (by omega) (by omega) (by omega) (by omega) (by omega) (by omega) (by omega) (by exact q_10) (by intro hm9 w9 hw0; obtain ⟨hwq, hb9⟩ := q_11 hm9 _ hw0; have ln9 := mW_ln hwq (hI.f tf43_43).1; have h91 := mq25 _ hwq; have e9 := wda16 (vM_fr hF rfl hm9.1); rw [show S.a 55 m.toNat = S0.a 55 m.toNat from hF.a rfl _, q_9] at e9; exact ⟨mW_c h91 (mR_y (by omega) (by rw [e9])), hb9, (show _ = ((m1 S0 k w9).2.1.length : Int) - (mbg S0 k w9 + 14) by omega)⟩) 
set_option maxHeartbeats 4000000 in
theorem lp266_117 {G : xk} {d : Nat} {S0 : yS} {k : Int} (h_k : 0 ≤ k ∧ k ≤ 23) (p_0 : S0.f 43 43 ≤ 23000) (p_1 : S0.f 43 51 = 0) (p_2 : wphi S0 ≤ 19000) (p_3 : wpsi S0 ≤ 1000) (hd : 10 ≤ d + 1) : ∀ (S : yS) (hI : yI S) (hF : yFr [(43, 43), (43, 49), (43, 50), (43, 51), (43, 52), (43, 53)] [68, 72, 73, 74, 75, 76, 77] S0 S) (hR : yRm [] S0 S) (e_wLV : wLV S) (e_wAS : wAS S) (m : Int) (hs : Int) (bg : Int) (s9 : Nat) (h_m : 0 ≤ m ∧ m ≤ 59) (h_hs : 0 ≤ hs ∧ hs ≤ 1) (h_bg : 0 ≤ bg ∧ bg ≤ 23200) (h_s9 : yStr s9) (g_s9 : 39 ≤ s9) (q_0 : S0.f 43 43 ≤ S.f 43 43 ∧ S.f 43 43 ≤ S0.f 43 43 + 28) (q_1 : S.f 43 51 = 0) (q_2 : wphi S ≤ wphi S0 + 155) (q_3 : wpsi S ≤ wpsi S0 + 3) (q_4 : S0.f 43 43 ≤ 23000 ∧ wphi S0 ≤ 19000 ∧ wpsi S0 ≤ 1000) (q_5 : hs = 0) (q_6 : bg + 14 ≤ S.f 43 43) (q_7 : m = S0.a 60 k.toNat) (q_8 : hs = ggM S0 k) (q_9 : hM S0 → mPJ S0 S (fun w => wpu k (wgf (mG S0 k w))) bg (mbg S0 k)) (q_10 : (S0.a 61 k.toNat = 1 ∧ s9 = 67) ∨ (S0.a 61 k.toNat = 3 ∧ s9 = 68)), yT xPr G LY xC266 117 [some ((2, 43)), some (vi k), some (vi m), some (vi hs), some (vi bg), none, none] [(6, s9), (2, 43)] S (d + 1) (fun r S' => r = (0, (0, 0)) ∧ S0.f 43 43 ≤ S'.f 43 43 ∧ S'.f 43 43 ≤ S0.f 43 43 + 250 ∧ S'.f 43 51 = 0 ∧ wphi S' ≤ wphi S0 + 330 ∧ wpsi S' ≤ wpsi S0 + 17 ∧ wphi S' + S'.f 43 43 ≤ wphi S0 + S0.f 43 43 + 399 ∧ (hM S0 → mQ S0 S' (mV S0 k)) ∧ wLV S' ∧ wAS S' ∧ yI S' ∧ yFr [(43, 43), (43, 49), (43, 50), (43, 51), (43, 52), (43, 53)] [68, 72, 73, 74, 75, 76, 77] S0 S' ∧ yRm [] S0 S') := by
  intro S hI hF hR e_wLV e_wAS m hs bg s9 h_m h_hs h_bg h_s9 g_s9 q_0 q_1 q_2 q_3 q_4 q_5 q_6 q_7 q_8 q_9 q_10
  have h1 := hI.f tf43_43
  have h2 := hI.f tf43_51
  have h3 := wphi_nn hI
  have h4 := wpsi_nn hI
  refine r_str (i := 117) (v := 69) rfl ?_
  have h5 := slv69
  refine r_const (i := 118) (u := 2) (z := 2) rfl rfl ?_
  refine r_call (i := 119) (u := 11) (v := 183) (w := 0) (b := 0) (na := 1028) (C2 := xC183) (as := [(2, 43), (6, s9), (6, 69), vi 2]) (s := []) rfl rfl rfl rfl rfl rfl rfl (sp183 (s1 := s9) (s2 := 69) (n1 := 2) hI h_s9 ⟨by decide, by decide⟩ ⟨by omega, by omega⟩ (by omega) (by omega) (by omega) (by omega) (by omega) (by omega) e_wLV (by omega)) (fun r6 S7 hq8 => ?_)
  obtain ⟨rfl, h9, h10, h11, h12, h13, mq14, e15, hI16, hF17, hR18⟩ := hq8
  have hF19 := hF.trans hF17 rfl rfl
  have hR20 := hR.trans hR18 rfl
  have e21 := wASx.fr e_wAS hF17 rfl rfl
  refine Or.inl ⟨rfl, ?_⟩
  refine r_load (i := 120) (u := 0) (w := 2) rfl rfl rfl ?_
  refine r_getf (i := 121) (v := 24) (w := 11) (x := (2, 61)) rfl ly43 rfl rfl fun _ => ?_
  refine r_load (i := 122) (u := 1) (w := 0) rfl rfl rfl ?_
  refine a_int (i := 123) rfl ly61 rfl (by omega) (by omega) fun h23 => ?_
  have h24 := hI16.a ta61 k.toNat
  have h25 : S7.a 61 k.toNat = S0.a 61 k.toNat := hF19.a rfl _
  refine r_const (i := 124) (u := 1) (z := 1) rfl rfl ?_
  refine c_ne (i := 125) (v := 133) rfl ⟨by omega, by omega⟩ ⟨by omega, by omega⟩ (fun h26 => ?_) (fun h27 => ?_)
  · refine r_load (i := 133) (u := 0) (w := 2) rfl rfl rfl ?_
    refine r_load (i := 134) (u := 0) (w := 2) rfl rfl rfl ?_
    refine r_getf (i := 135) (v := 11) (w := 11) (x := (2, 52)) rfl ly43 rfl rfl fun _ => ?_
    refine r_load (i := 136) (u := 2) (w := 0) rfl rfl rfl ?_
    refine a_int (i := 137) rfl ly52 rfl (by omega) (by omega) fun h29 => ?_
    have h30 := hI16.a ta52 m.toNat
    have h31 : S7.a 52 m.toNat = S0.a 52 m.toNat := hF19.a rfl _
    have h32 := hI16.f tf43_43
    have h33 := hI16.f tf43_51
    have h34 := wphi_nn hI16
    have h35 := wpsi_nn hI16
    refine r_call (i := 138) (u := 11) (v := 190) (w := 0) (b := 0) (na := 514) (C2 := xC190) (as := [(2, 43), vi (S7.a 52 m.toNat)]) (s := []) rfl rfl rfl rfl rfl rfl rfl (sp190 (t := S7.a 52 m.toNat) hI16 ⟨by omega, by omega⟩ (by omega) (by omega) (by omega) (by omega) e15 (by omega)) (fun r36 S37 hq38 => ?_)
    obtain ⟨rfl, h39, h40, h41, h42, h43, mq44, e45, hI46, hF47, hR48⟩ := hq38
    have hF49 := hF19.trans hF47 rfl rfl
    have hR50 := hR20.trans hR48 rfl
    have e51 := wASx.fr e21 hF47 rfl rfl
    refine Or.inl ⟨rfl, ?_⟩
    refine r_load (i := 139) (u := 0) (w := 2) rfl rfl rfl ?_
    refine r_load (i := 140) (u := 1) (w := 0) rfl rfl rfl ?_
    refine r_load (i := 141) (u := 2) (w := 0) rfl rfl rfl ?_
    have h52 := hI46.f tf43_43
    have h53 := hI46.f tf43_51
    have h54 := wphi_nn hI46
    have h55 := wpsi_nn hI46
    have h56 := hI46.a ta56 m.toNat
    have h57 : S37.a 56 m.toNat = S0.a 56 m.toNat := hF49.a rfl _
    refine r_call (i := 142) (u := 11) (v := 189) (w := 0) (b := 0) (na := 1539) (C2 := xC189) (as := [(2, 43), vi k, vi m]) (s := []) rfl rfl rfl rfl rfl rfl rfl (sp189 (k := k) (m := m) hI46 ⟨by omega, by omega⟩ ⟨by omega, by omega⟩ (by omega) (by omega) (by omega) (by omega) e45 e51 (by omega)) (fun r58 S59 hq60 => ?_)
    obtain ⟨rfl, h61, h62, h63, h64, h65, mv66, e67, e68, hI69, hF70, hR71⟩ := hq60
    have hF72 := hF49.trans hF70 rfl rfl
    have hR73 := hR50.trans hR71 rfl
    refine Or.inl ⟨rfl, ?_⟩
    have h74 := hI69.f tf43_43
    have h75 := hI69.f tf43_51
    have h76 := wphi_nn hI69
    have h77 := wpsi_nn hI69
    exact lp266_143 h_k p_0 p_1 p_2 p_3 hd S59 hI69 hF72 hR73 e67 e68 m hs bg ⟨by omega, by omega⟩ ⟨by omega, by omega⟩ ⟨by omega, by omega⟩ (by omega) (by omega) (by omega) (by omega) (by omega) (by omega) (by omega) (by omega) (by omega) (by exact q_7) (by exact q_8) (by intro hm9 w9 hw0; obtain ⟨hwq, hb9⟩ := q_9 hm9 _ hw0; have hw1 := mq14 _ hwq; have hw2 := mq44 _ hw1; have hw3 := mv66 (hM_fr hF47 rfl rfl (hM_fr hF17 rfl rfl (hM_fr hF rfl rfl hm9))) _ hw2; rw [((caM_fr hF47 rfl rfl).trans ((caM_fr hF17 rfl rfl).trans (caM_fr hF rfl rfl))), show S37.a 56 m.toNat = S0.a 56 m.toNat from ((hF47.a (b := 56) rfl _).trans ((hF17.a (b := 56) rfl _).trans (hF.a (b := 56) rfl _)))] at hw3; exact ⟨mW_c hw3 (m1_3 (by omega) (by omega) q_7 ((pkR_fr (b := 48) hF17 rfl).trans (pkR_fr (b := 48) hF rfl)) ((hF17.a (b := 52) rfl _).trans (hF.a (b := 52) rfl _))), hb9⟩) 
  · refine r_load (i := 126) (u := 0) (w := 2) rfl rfl rfl ?_
    refine r_load (i := 127) (u := 0) (w := 2) rfl rfl rfl ?_
    refine r_getf (i := 128) (v := 15) (w := 11) (x := (2, 56)) rfl ly43 rfl rfl fun _ => ?_
    refine r_load (i := 129) (u := 2) (w := 0) rfl rfl rfl ?_
    refine a_int (i := 130) rfl ly56 rfl (by omega) (by omega) fun h79 => ?_
    have h80 := hI16.a ta56 m.toNat
    have h81 : S7.a 56 m.toNat = S0.a 56 m.toNat := hF19.a rfl _
    have h82 := hI16.f tf43_43
    have h83 := hI16.f tf43_51
    have h84 := wphi_nn hI16
    have h85 := wpsi_nn hI16
    refine r_call (i := 131) (u := 11) (v := 259) (w := 0) (b := 0) (na := 770) (C2 := xC259) (as := [(2, 43), vi (S7.a 56 m.toNat)]) (s := []) rfl rfl rfl rfl rfl rfl rfl (sp259 (k := S7.a 56 m.toNat) hI16 ⟨by omega, by omega⟩ (by omega) (by omega) (by omega) (by omega) e15 (by omega)) (fun r86 S87 hq88 => ?_)
    obtain ⟨rfl, h89, h90, h91, h92, h93, mq94, e95, hI96, hF97, hR98⟩ := hq88
    have hF99 := hF19.trans hF97 rfl rfl
    have hR100 := hR20.trans hR98 rfl
    have e101 := wASx.fr e21 hF97 rfl rfl
    refine Or.inl ⟨rfl, ?_⟩
    refine r_goto (i := 132) (v := 143) rfl ?_
    have h102 := hI96.f tf43_43
    have h103 := hI96.f tf43_51
    have h104 := wphi_nn hI96
    have h105 := wpsi_nn hI96
    exact lp266_143 h_k p_0 p_1 p_2 p_3 hd S87 hI96 hF99 hR100 e95 e101 m hs bg ⟨by omega, by omega⟩ ⟨by omega, by omega⟩ ⟨by omega, by omega⟩ (by omega) (by omega) (by omega) (by omega) (by omega) (by omega) (by omega) (by omega) (by omega) (by exact q_7) (by exact q_8) (by intro hm9 w9 hw0; obtain ⟨hwq, hb9⟩ := q_9 hm9 _ hw0; have hw1 := mq14 _ hwq; have hw2 := mq94 _ hw1; exact ⟨mW_c hw2 (m1_1 (by omega) (by omega) q_7 ((pkR_fr (b := 48) hF17 rfl).trans (pkR_fr (b := 48) hF rfl)) ((hF17.a (b := 56) rfl _).trans (hF.a (b := 56) rfl _))), hb9⟩) 
set_option maxHeartbeats 4000000 in
theorem lp266_74 {G : xk} {d : Nat} {S0 : yS} {k : Int} (h_k : 0 ≤ k ∧ k ≤ 23) (p_0 : S0.f 43 43 ≤ 23000) (p_1 : S0.f 43 51 = 0) (p_2 : wphi S0 ≤ 19000) (p_3 : wpsi S0 ≤ 1000) (hd : 10 ≤ d + 1) : ∀ (S : yS) (hI : yI S) (hF : yFr [(43, 43), (43, 49), (43, 50), (43, 51), (43, 52), (43, 53)] [68, 72, 73, 74, 75, 76, 77] S0 S) (hR : yRm [] S0 S) (e_wLV : wLV S) (e_wAS : wAS S) (m hs lc : Int) (h_m : 0 ≤ m ∧ m ≤ 59) (h_hs : 0 ≤ hs ∧ hs ≤ 1) (h_lc : 1 ≤ lc ∧ lc ≤ 10) (q_0 : S0.f 43 43 ≤ S.f 43 43 ∧ S.f 43 43 ≤ S0.f 43 43 + 8) (q_1 : S.f 43 51 = 0) (q_2 : wphi S ≤ wphi S0 + 145) (q_3 : wpsi S ≤ wpsi S0 + 1) (q_4 : S0.f 43 43 ≤ 23000 ∧ wphi S0 ≤ 19000 ∧ wpsi S0 ≤ 1000) (q_5 : hs = 1 → S.a 61 k.toNat = 0) (q_6 : m = S0.a 60 k.toNat) (q_7 : hM S0 → mQ S0 S (mH S0 k)) (q_8 : hs = ggM S0 k) (q_9 : hM S0 → lc = 1 + wdA (S0.a 55 m.toNat) 4 + hs), yT xPr G LY xC266 74 [some ((2, 43)), some (vi k), some (vi m), some (vi hs), none, none, none] [vi lc, (2, 43)] S (d + 1) (fun r S' => r = (0, (0, 0)) ∧ S0.f 43 43 ≤ S'.f 43 43 ∧ S'.f 43 43 ≤ S0.f 43 43 + 250 ∧ S'.f 43 51 = 0 ∧ wphi S' ≤ wphi S0 + 330 ∧ wpsi S' ≤ wpsi S0 + 17 ∧ wphi S' + S'.f 43 43 ≤ wphi S0 + S0.f 43 43 + 399 ∧ (hM S0 → mQ S0 S' (mV S0 k)) ∧ wLV S' ∧ wAS S' ∧ yI S' ∧ yFr [(43, 43), (43, 49), (43, 50), (43, 51), (43, 52), (43, 53)] [68, 72, 73, 74, 75, 76, 77] S0 S' ∧ yRm [] S0 S') := by
  intro S hI hF hR e_wLV e_wAS m hs lc h_m h_hs h_lc q_0 q_1 q_2 q_3 q_4 q_5 q_6 q_7 q_8 q_9
  have h1 := hI.f tf43_43
  have h2 := hI.f tf43_51
  have h3 := wphi_nn hI
  have h4 := wpsi_nn hI
  have h5 := hI.a ta61 k.toNat
  have h6 : S.a 61 k.toNat = S0.a 61 k.toNat := hF.a rfl _
  refine r_call (i := 74) (u := 11) (v := 185) (w := 0) (b := 0) (na := 770) (C2 := xC185) (as := [(2, 43), vi lc]) (s := []) rfl rfl rfl rfl rfl rfl rfl (sp185 (lc := lc) hI ⟨by omega, by omega⟩ (by omega) (by omega) (by omega) (by omega) e_wLV (by omega)) (fun r7 S8 hq9 => ?_)
  obtain ⟨z10, rfl, h11, h12, h13, h14, h15, h16, h17, h18, mq19, e20, hI21, hF22, hR23⟩ := hq9
  have hF24 := hF.trans hF22 rfl rfl
  have hR25 := hR.trans hR23 rfl
  have e26 := wASx.fr e_wAS hF22 rfl rfl
  refine Or.inr (Or.inl ⟨rfl, ?_⟩)
  refine r_store (i := 75) (u := 4) (w := 0) (L1 := [some ((2, 43)), some (vi k), some (vi m), some (vi hs), some (vi z10), none, none]) rfl rfl rfl rfl ?_
  refine r_load (i := 76) (u := 0) (w := 2) rfl rfl rfl ?_
  refine r_getf (i := 77) (v := 24) (w := 11) (x := (2, 61)) rfl ly43 rfl rfl fun _ => ?_
  refine r_load (i := 78) (u := 1) (w := 0) rfl rfl rfl ?_
  refine a_int (i := 79) rfl ly61 rfl (by omega) (by omega) fun h28 => ?_
  have h29 := hI21.a ta61 k.toNat
  have h30 : S8.a 61 k.toNat = S0.a 61 k.toNat := hF24.a rfl _
  refine z_ne (i := 80) (v := 86) rfl ⟨by omega, by omega⟩ (fun h31 => ?_) (fun h32 => ?_)
  · refine r_load (i := 86) (u := 0) (w := 2) rfl rfl rfl ?_
    refine r_getf (i := 87) (v := 24) (w := 11) (x := (2, 61)) rfl ly43 rfl rfl fun _ => ?_
    refine r_load (i := 88) (u := 1) (w := 0) rfl rfl rfl ?_
    refine a_int (i := 89) rfl ly61 rfl (by omega) (by omega) fun h34 => ?_
    have h35 := hI21.a ta61 k.toNat
    refine r_const (i := 90) (u := 2) (z := 2) rfl rfl ?_
    refine c_ne (i := 91) (v := 102) rfl ⟨by omega, by omega⟩ ⟨by omega, by omega⟩ (fun h36 => ?_) (fun h37 => ?_)
    · refine r_load (i := 102) (u := 0) (w := 2) rfl rfl rfl ?_
      have h38 := hI21.f tf43_43
      have h39 := hI21.f tf43_51
      have h40 := wphi_nn hI21
      have h41 := wpsi_nn hI21
      refine r_call (i := 103) (u := 11) (v := 202) (w := 0) (b := 0) (na := 257) (C2 := xC202) (as := [(2, 43)]) (s := []) rfl rfl rfl rfl rfl rfl rfl (sp202  hI21  (by omega) (by omega) (by omega) (by omega) e20 (by omega)) (fun r42 S43 hq44 => ?_)
      obtain ⟨rfl, h45, h46, h47, h48, h49, mq50, e51, hI52, hF53, hR54⟩ := hq44
      have hF55 := hF24.trans hF53 rfl rfl
      have hR56 := hR25.trans hR54 rfl
      have e57 := wASx.fr e26 hF53 rfl rfl
      refine Or.inl ⟨rfl, ?_⟩
      refine r_load (i := 104) (u := 0) (w := 2) rfl rfl rfl ?_
      refine r_load (i := 105) (u := 1) (w := 0) rfl rfl rfl ?_
      have h58 := hI52.f tf43_43
      refine r_call (i := 106) (u := 11) (v := 234) (w := 0) (b := 0) (na := 514) (C2 := xC234) (as := [(2, 43), vi k]) (s := []) rfl rfl rfl rfl rfl rfl rfl (sp234 (n1 := k) hI52 ⟨by omega, by omega⟩ (by omega)  (by omega)) (fun r59 S60 hq61 => ?_)
      obtain ⟨rfl, h62, h63, h64, mq65, hI66, hF67, hR68⟩ := hq61
      have hF69 := hF55.trans hF67 rfl rfl
      have hR70 := hR56.trans hR68 rfl
      have e71 := wASx.fr e57 hF67 rfl rfl
      have e72 := wLVx.fr e51 hF67 rfl rfl
      refine Or.inl ⟨rfl, ?_⟩
      refine r_load (i := 107) (u := 0) (w := 2) rfl rfl rfl ?_
      refine r_load (i := 108) (u := 0) (w := 2) rfl rfl rfl ?_
      refine r_getf (i := 109) (v := 24) (w := 11) (x := (2, 61)) rfl ly43 rfl rfl fun _ => ?_
      refine r_load (i := 110) (u := 1) (w := 0) rfl rfl rfl ?_
      refine a_int (i := 111) rfl ly61 rfl (by omega) (by omega) fun h74 => ?_
      have h75 := hI66.a ta61 k.toNat
      have h76 : S60.a 61 k.toNat = S0.a 61 k.toNat := hF69.a rfl _
      refine r_const (i := 112) (u := 1) (z := 1) rfl rfl ?_
      refine c_ne (i := 113) (v := 116) rfl ⟨by omega, by omega⟩ ⟨by omega, by omega⟩ (fun h77 => ?_) (fun h78 => ?_)
      · refine r_str (i := 116) (v := 68) rfl ?_
        have h79 := slv68
        have h80 := hI66.f tf43_43
        have h81 := hI66.f tf43_51
        have h82 : S60.f 43 51 = S43.f 43 51 := hF67.f rfl
        have h83 := wphi_nn hI66
        have h84 : wphi S60 = wphi S43 := wphiX.fr hF67 rfl rfl
        have h85 := wpsi_nn hI66
        have h86 : wpsi S60 = wpsi S43 := wpsiX.fr hF67 rfl rfl
        exact lp266_117 h_k p_0 p_1 p_2 p_3 hd S60 hI66 hF69 hR70 e72 e71 m hs z10 68 ⟨by omega, by omega⟩ ⟨by omega, by omega⟩ ⟨by omega, by omega⟩ ⟨by omega, by omega⟩ (by omega) (by omega) (by omega) (by omega) (by omega) (by omega) (by omega) (by omega) (by exact q_6) (by exact q_8) (by intro hm9 w9 hw0; have hwq := q_7 hm9 _ hw0; have ln9 := mW_ln hwq (by omega); have hw1 := mq19 _ hwq; have hw2 := mq50 _ hw1; have hw3 := mq65 _ hw2; have lg9 : lc = 1 + wdA (S0.a 55 m.toNat) 4 + ggM S0 k := ((q_9 hm9).trans (by rw [q_8])); rw [lg9, q_6] at hw3; exact ⟨hw3, (show _ = ((mH S0 k w9).2.1.length : Int) by omega)⟩) (by omega) 
      · refine r_str (i := 114) (v := 67) rfl ?_
        have h87 := slv67
        refine r_goto (i := 115) (v := 117) rfl ?_
        have h88 := hI66.f tf43_43
        have h89 := hI66.f tf43_51
        have h90 : S60.f 43 51 = S43.f 43 51 := hF67.f rfl
        have h91 := wphi_nn hI66
        have h92 : wphi S60 = wphi S43 := wphiX.fr hF67 rfl rfl
        have h93 := wpsi_nn hI66
        have h94 : wpsi S60 = wpsi S43 := wpsiX.fr hF67 rfl rfl
        exact lp266_117 h_k p_0 p_1 p_2 p_3 hd S60 hI66 hF69 hR70 e72 e71 m hs z10 67 ⟨by omega, by omega⟩ ⟨by omega, by omega⟩ ⟨by omega, by omega⟩ ⟨by omega, by omega⟩ (by omega) (by omega) (by omega) (by omega) (by omega) (by omega) (by omega) (by omega) (by exact q_6) (by exact q_8) (by intro hm9 w9 hw0; have hwq := q_7 hm9 _ hw0; have ln9 := mW_ln hwq (by omega); have hw1 := mq19 _ hwq; have hw2 := mq50 _ hw1; have hw3 := mq65 _ hw2; have lg9 : lc = 1 + wdA (S0.a 55 m.toNat) 4 + ggM S0 k := ((q_9 hm9).trans (by rw [q_8])); rw [lg9, q_6] at hw3; exact ⟨hw3, (show _ = ((mH S0 k w9).2.1.length : Int) by omega)⟩) (by omega) 
    · refine r_load (i := 92) (u := 0) (w := 2) rfl rfl rfl ?_
      refine r_const (i := 93) (u := 42) (z := 42) rfl rfl ?_
      refine r_const (i := 94) (u := 0) (z := 0) rfl rfl ?_
      refine r_const (i := 95) (u := 1) (z := 1) rfl rfl ?_
      have h95 := hI21.f tf43_43
      refine r_call (i := 96) (u := 11) (v := 250) (w := 0) (b := 0) (na := 1028) (C2 := xC250) (as := [(2, 43), vi 42, vi 0, vi 1]) (s := []) rfl rfl rfl rfl rfl rfl rfl (sp250 (b0 := 42) (off := 0) (on := 1) hI21 ⟨by omega, by omega⟩ ⟨by omega, by omega⟩ ⟨by omega, by omega⟩ (by omega)  (by omega)) (fun r96 S97 hq98 => ?_)
      obtain ⟨rfl, h99, h100, mq101, hI102, hF103, hR104⟩ := hq98
      have hF105 := hF24.trans hF103 rfl rfl
      have hR106 := hR25.trans hR104 rfl
      have e107 := wASx.fr e26 hF103 rfl rfl
      have e108 := wLVx.fr e20 hF103 rfl rfl
      refine Or.inl ⟨rfl, ?_⟩
      refine r_load (i := 97) (u := 0) (w := 2) rfl rfl rfl ?_
      refine r_load (i := 98) (u := 1) (w := 0) rfl rfl rfl ?_
      refine r_load (i := 99) (u := 2) (w := 0) rfl rfl rfl ?_
      have h109 := hI102.f tf43_43
      have h110 := hI102.f tf43_51
      have h111 : S97.f 43 51 = S8.f 43 51 := hF103.f rfl
      have h112 := wphi_nn hI102
      have h113 : wphi S97 = wphi S8 := wphiX.fr hF103 rfl rfl
      have h114 := wpsi_nn hI102
      have h115 : wpsi S97 = wpsi S8 := wpsiX.fr hF103 rfl rfl
      have h116 := hI102.a ta56 m.toNat
      have h117 : S97.a 56 m.toNat = S0.a 56 m.toNat := hF105.a rfl _
      refine r_call (i := 100) (u := 11) (v := 189) (w := 0) (b := 0) (na := 1539) (C2 := xC189) (as := [(2, 43), vi k, vi m]) (s := []) rfl rfl rfl rfl rfl rfl rfl (sp189 (k := k) (m := m) hI102 ⟨by omega, by omega⟩ ⟨by omega, by omega⟩ (by omega) (by omega) (by omega) (by omega) e108 e107 (by omega)) (fun r118 S119 hq120 => ?_)
      obtain ⟨rfl, h121, h122, h123, h124, h125, mv126, e127, e128, hI129, hF130, hR131⟩ := hq120
      have hF132 := hF105.trans hF130 rfl rfl
      have hR133 := hR106.trans hR131 rfl
      refine Or.inl ⟨rfl, ?_⟩
      refine r_goto (i := 101) (v := 143) rfl ?_
      have h134 := hI129.f tf43_43
      have h135 := hI129.f tf43_51
      have h136 := wphi_nn hI129
      have h137 := wpsi_nn hI129
      exact lp266_143 h_k p_0 p_1 p_2 p_3 hd S119 hI129 hF132 hR133 e127 e128 m hs z10 ⟨by omega, by omega⟩ ⟨by omega, by omega⟩ ⟨by omega, by omega⟩ (by omega) (by omega) (by omega) (by omega) (by omega) (by omega) (by omega) (by omega) (by omega) (by exact q_6) (by exact q_8) (by intro hm9 w9 hw0; have hwq := q_7 hm9 _ hw0; have ln9 := mW_ln hwq (by omega); have hw1 := mq19 _ hwq; have hw2 := mq101 _ hw1; have hw3 := mv126 (hM_fr hF103 rfl rfl (hM_fr hF22 rfl rfl (hM_fr hF rfl rfl hm9))) _ hw2; rw [((caM_fr hF103 rfl rfl).trans ((caM_fr hF22 rfl rfl).trans (caM_fr hF rfl rfl))), show S97.a 56 m.toNat = S0.a 56 m.toNat from ((hF103.a (b := 56) rfl _).trans ((hF22.a (b := 56) rfl _).trans (hF.a (b := 56) rfl _)))] at hw3; exact ⟨mW_c hw3 (m1_2 (by omega) q_6 ((q_9 hm9).trans (by rw [q_8]))), (show _ = ((mH S0 k w9).2.1.length : Int) by omega)⟩) 
  · refine r_load (i := 81) (u := 0) (w := 2) rfl rfl rfl ?_
    refine r_load (i := 82) (u := 1) (w := 0) rfl rfl rfl ?_
    refine r_load (i := 83) (u := 2) (w := 0) rfl rfl rfl ?_
    have h138 := hI21.f tf43_43
    have h139 := hI21.f tf43_51
    have h140 := wphi_nn hI21
    have h141 := wpsi_nn hI21
    have h142 := hI21.a ta56 m.toNat
    have h143 : S8.a 56 m.toNat = S0.a 56 m.toNat := hF24.a rfl _
    have h144 := hI21.a ta55 m.toNat
    have h145 : S8.a 55 m.toNat = S0.a 55 m.toNat := hF24.a rfl _
    refine r_call (i := 84) (u := 11) (v := 207) (w := 0) (b := 0) (na := 1795) (C2 := xC207) (as := [(2, 43), vi k, vi m]) (s := []) rfl rfl rfl rfl rfl rfl rfl (sp207 (k := k) (m := m) hI21 ⟨by omega, by omega⟩ ⟨by omega, by omega⟩ (by omega) (by omega) (by omega) (by omega) e20 (by omega)) (fun r146 S147 hq148 => ?_)
    obtain ⟨rfl, h149, h150, h151, h152, h153, mq154, e155, hI156, hF157, hR158⟩ := hq148
    have hF159 := hF24.trans hF157 rfl rfl
    have hR160 := hR25.trans hR158 rfl
    have e161 := wASx.fr e26 hF157 rfl rfl
    refine Or.inl ⟨rfl, ?_⟩
    refine r_goto (i := 85) (v := 143) rfl ?_
    have h162 := hI156.f tf43_43
    have h163 := hI156.f tf43_51
    have h164 := wphi_nn hI156
    have h165 := wpsi_nn hI156
    exact lp266_143 h_k p_0 p_1 p_2 p_3 hd S147 hI156 hF159 hR160 e155 e161 m hs z10 ⟨by omega, by omega⟩ ⟨by omega, by omega⟩ ⟨by omega, by omega⟩ (by omega) (by omega) (by omega) (by omega) (by omega) (by omega) (by omega) (by omega) (by omega) (by exact q_6) (by exact q_8) (by intro hm9 w9 hw0; have hwq := q_7 hm9 _ hw0; have ln9 := mW_ln hwq (by omega); have hw1 := mq19 _ hwq; have hw2 := mq154 _ hw1; exact ⟨mW_c hw2 (m1_0 (by omega) q_6 ((q_9 hm9).trans (by rw [q_8])) ((pkR_fr (b := 48) hF22 rfl).trans (pkR_fr (b := 48) hF rfl)) ((hF22.a (b := 56) rfl _).trans (hF.a (b := 56) rfl _)) ((hF22.a (b := 55) rfl _).trans (hF.a (b := 55) rfl _))), (show _ = ((mH S0 k w9).2.1.length : Int) by omega)⟩) 
set_option maxHeartbeats 4000000 in
theorem lp266_62 {G : xk} {d : Nat} {S0 : yS} {k : Int} (h_k : 0 ≤ k ∧ k ≤ 23) (p_0 : S0.f 43 43 ≤ 23000) (p_1 : S0.f 43 51 = 0) (p_2 : wphi S0 ≤ 19000) (p_3 : wpsi S0 ≤ 1000) (hd : 10 ≤ d + 1) : ∀ (S : yS) (hI : yI S) (hF : yFr [(43, 43), (43, 49), (43, 50), (43, 51), (43, 52), (43, 53)] [68, 72, 73, 74, 75, 76, 77] S0 S) (hR : yRm [] S0 S) (e_wLV : wLV S) (e_wAS : wAS S) (m hs : Int) (h_m : 0 ≤ m ∧ m ≤ 59) (h_hs : 0 ≤ hs ∧ hs ≤ 1) (q_0 : S0.f 43 43 ≤ S.f 43 43 ∧ S.f 43 43 ≤ S0.f 43 43 + 8) (q_1 : S.f 43 51 = 0) (q_2 : wphi S ≤ wphi S0 + 145) (q_3 : wpsi S ≤ wpsi S0 + 1) (q_4 : S0.f 43 43 ≤ 23000 ∧ wphi S0 ≤ 19000 ∧ wpsi S0 ≤ 1000) (q_5 : hs = 1 → S.a 61 k.toNat = 0) (q_6 : m = S0.a 60 k.toNat) (q_7 : hM S0 → mQ S0 S (mH S0 k)) (q_8 : hs = ggM S0 k), yT xPr G LY xC266 62 [some ((2, 43)), some (vi k), some (vi m), some (vi hs), none, none, none] [] S (d + 1) (fun r S' => r = (0, (0, 0)) ∧ S0.f 43 43 ≤ S'.f 43 43 ∧ S'.f 43 43 ≤ S0.f 43 43 + 250 ∧ S'.f 43 51 = 0 ∧ wphi S' ≤ wphi S0 + 330 ∧ wpsi S' ≤ wpsi S0 + 17 ∧ wphi S' + S'.f 43 43 ≤ wphi S0 + S0.f 43 43 + 399 ∧ (hM S0 → mQ S0 S' (mV S0 k)) ∧ wLV S' ∧ wAS S' ∧ yI S' ∧ yFr [(43, 43), (43, 49), (43, 50), (43, 51), (43, 52), (43, 53)] [68, 72, 73, 74, 75, 76, 77] S0 S' ∧ yRm [] S0 S') := by
  intro S hI hF hR e_wLV e_wAS m hs h_m h_hs q_0 q_1 q_2 q_3 q_4 q_5 q_6 q_7 q_8
  have h1 := hI.f tf43_43
  have h2 := hI.f tf43_51
  have h3 := wphi_nn hI
  have h4 := wpsi_nn hI
  have h5 := hI.a ta61 k.toNat
  have h6 : S.a 61 k.toNat = S0.a 61 k.toNat := hF.a rfl _
  refine r_load (i := 62) (u := 0) (w := 2) rfl rfl rfl ?_
  refine r_const (i := 63) (u := 1) (z := 1) rfl rfl ?_
  refine r_load (i := 64) (u := 0) (w := 2) rfl rfl rfl ?_
  refine r_load (i := 65) (u := 2) (w := 0) rfl rfl rfl ?_
  have h7 := hI.a ta55 m.toNat
  have h8 : S.a 55 m.toNat = S0.a 55 m.toNat := hF.a rfl _
  refine r_call (i := 66) (u := 11) (v := 263) (w := 0) (b := 0) (na := 1026) (C2 := xC263) (as := [(2, 43), vi m]) (s := [vi 1, (2, 43)]) rfl rfl rfl rfl rfl rfl rfl (sp263 (m := m) hI ⟨by omega, by omega⟩   (by omega)) (fun r9 S10 hq11 => ?_)
  obtain ⟨z12, rfl, h13, h14, wda15, rfl⟩ := hq11
  refine Or.inr (Or.inl ⟨rfl, ?_⟩)
  refine r_iadd (i := 67) rfl ?_
  refine r_load (i := 68) (u := 3) (w := 0) rfl rfl rfl ?_
  refine z_eq (i := 69) (v := 72) rfl ⟨by omega, by omega⟩ (fun h16 => ?_) (fun h17 => ?_)
  · refine r_const (i := 72) (u := 0) (z := 0) rfl rfl ?_
    refine r_iadd (i := 73) rfl ?_
    have h18 := hI.a ta61 k.toNat
    exact lp266_74 h_k p_0 p_1 p_2 p_3 hd S hI hF hR e_wLV e_wAS m hs ((1 + z12) + 0) ⟨by omega, by omega⟩ ⟨by omega, by omega⟩ ⟨by omega, by omega⟩ (by omega) (by omega) (by omega) (by omega) (by omega) (by omega) (by exact q_6) (by exact q_7) (by exact q_8) (by intro hm9; have e9 := wda15 (vM_fr hF rfl hm9.1); rw [show S.a 55 m.toNat = S0.a 55 m.toNat from hF.a rfl _] at e9; omega) 
  · refine r_const (i := 70) (u := 1) (z := 1) rfl rfl ?_
    refine r_goto (i := 71) (v := 73) rfl ?_
    refine r_iadd (i := 73) rfl ?_
    have h19 := hI.a ta61 k.toNat
    exact lp266_74 h_k p_0 p_1 p_2 p_3 hd S hI hF hR e_wLV e_wAS m hs ((1 + z12) + 1) ⟨by omega, by omega⟩ ⟨by omega, by omega⟩ ⟨by omega, by omega⟩ (by omega) (by omega) (by omega) (by omega) (by omega) (by omega) (by exact q_6) (by exact q_7) (by exact q_8) (by intro hm9; have e9 := wda15 (vM_fr hF rfl hm9.1); rw [show S.a 55 m.toNat = S0.a 55 m.toNat from hF.a rfl _] at e9; omega) 
set_option maxHeartbeats 4000000 in
theorem lp266_48 {G : xk} {d : Nat} {S0 : yS} {k : Int} (h_k : 0 ≤ k ∧ k ≤ 23) (p_0 : S0.f 43 43 ≤ 23000) (p_1 : S0.f 43 51 = 0) (p_2 : wphi S0 ≤ 19000) (p_3 : wpsi S0 ≤ 1000) (hd : 10 ≤ d + 1) : ∀ (S : yS) (hI : yI S) (hF : yFr [(43, 43), (43, 49), (43, 50), (43, 51), (43, 52), (43, 53)] [68, 72, 73, 74, 75, 76, 77] S0 S) (hR : yRm [] S0 S) (e_wLV : wLV S) (e_wAS : wAS S) (m n2 : Int) (h_m : 0 ≤ m ∧ m ≤ 59) (h_n2 : 1 ≤ n2 ∧ n2 ≤ 2) (q_0 : S0.f 43 43 ≤ S.f 43 43 ∧ S.f 43 43 ≤ S0.f 43 43 + 6) (q_1 : S.f 43 51 = 0) (q_2 : wphi S ≤ wphi S0 + 145) (q_3 : wpsi S ≤ wpsi S0 + 1) (q_4 : S0.f 43 43 ≤ 23000 ∧ wphi S0 ≤ 19000 ∧ wpsi S0 ≤ 1000) (q_5 : m = S0.a 60 k.toNat) (q_6 : hM S0 → True) (q_7 : hM S0 → mQ S0 S (hd8 (acX (S0.a 54 m.toNat) + 16) (nmL (S0.a 53 m.toNat)) (dsL (pkR 48 S0) [] (S0.a 55 m.toNat) (S0.a 56 m.toNat)))) (q_8 : n2 = if 0 < S0.a 63 k.toNat then 2 else 1), yT xPr G LY xC266 48 [some ((2, 43)), some (vi k), some (vi m), none, none, none, none] [vi n2, (2, 43)] S (d + 1) (fun r S' => r = (0, (0, 0)) ∧ S0.f 43 43 ≤ S'.f 43 43 ∧ S'.f 43 43 ≤ S0.f 43 43 + 250 ∧ S'.f 43 51 = 0 ∧ wphi S' ≤ wphi S0 + 330 ∧ wpsi S' ≤ wpsi S0 + 17 ∧ wphi S' + S'.f 43 43 ≤ wphi S0 + S0.f 43 43 + 399 ∧ (hM S0 → mQ S0 S' (mV S0 k)) ∧ wLV S' ∧ wAS S' ∧ yI S' ∧ yFr [(43, 43), (43, 49), (43, 50), (43, 51), (43, 52), (43, 53)] [68, 72, 73, 74, 75, 76, 77] S0 S' ∧ yRm [] S0 S') := by
  intro S hI hF hR e_wLV e_wAS m n2 h_m h_n2 q_0 q_1 q_2 q_3 q_4 q_5 q_6 q_7 q_8
  have h1 := hI.f tf43_43
  have h2 := hI.f tf43_51
  have h3 := wphi_nn hI
  have h4 := wpsi_nn hI
  refine r_call (i := 48) (u := 11) (v := 257) (w := 0) (b := 0) (na := 514) (C2 := xC257) (as := [(2, 43), vi n2]) (s := []) rfl rfl rfl rfl rfl rfl rfl (sp257 (v := n2) hI ⟨by omega, by omega⟩ (by omega)  (by omega)) (fun r5 S6 hq7 => ?_)
  obtain ⟨rfl, h8, h9, mq10, hI11, hF12, hR13⟩ := hq7
  have hF14 := hF.trans hF12 rfl rfl
  have hR15 := hR.trans hR13 rfl
  have e16 := wLVx.fr e_wLV hF12 rfl rfl
  have e17 := wASx.fr e_wAS hF12 rfl rfl
  refine Or.inl ⟨rfl, ?_⟩
  refine r_load (i := 49) (u := 0) (w := 2) rfl rfl rfl ?_
  refine r_getf (i := 50) (v := 24) (w := 11) (x := (2, 61)) rfl ly43 rfl rfl fun _ => ?_
  refine r_load (i := 51) (u := 1) (w := 0) rfl rfl rfl ?_
  refine a_int (i := 52) rfl ly61 rfl (by omega) (by omega) fun h19 => ?_
  have h20 := hI11.a ta61 k.toNat
  have h21 : S6.a 61 k.toNat = S0.a 61 k.toNat := hF14.a rfl _
  refine z_ne (i := 53) (v := 60) rfl ⟨by omega, by omega⟩ (fun h22 => ?_) (fun h23 => ?_)
  · refine r_const (i := 60) (u := 0) (z := 0) rfl rfl ?_
    refine r_store (i := 61) (u := 3) (w := 0) (L1 := [some ((2, 43)), some (vi k), some (vi m), some (vi 0), none, none, none]) rfl rfl rfl rfl ?_
    have h24 := hI11.f tf43_43
    have h25 := hI11.f tf43_51
    have h26 : S6.f 43 51 = S.f 43 51 := hF12.f rfl
    have h27 := wphi_nn hI11
    have h28 : wphi S6 = wphi S := wphiX.fr hF12 rfl rfl
    have h29 := wpsi_nn hI11
    have h30 : wpsi S6 = wpsi S := wpsiX.fr hF12 rfl rfl
    have h31 := hI11.a ta61 k.toNat
    exact lp266_62 h_k p_0 p_1 p_2 p_3 hd S6 hI11 hF14 hR15 e16 e17 m 0 ⟨by omega, by omega⟩ ⟨by omega, by omega⟩ (by omega) (by omega) (by omega) (by omega) (by omega) (by omega) (by exact q_5) (by intro hm9 w9 hw0; have h91 := mq10 _ (q_7 hm9 _ hw0); exact mH_of q_5 rfl q_8 h91) (by exact (cif_n (c := gdM S6 k) (fun q9 => absurd q9.1 (show ¬ S6.a 61 k.toNat = 0 by omega))).symm.trans ((ggM_fr hF12 rfl).trans (ggM_fr hF rfl))) 
  · refine r_load (i := 54) (u := 0) (w := 2) rfl rfl rfl ?_
    refine r_load (i := 55) (u := 1) (w := 0) rfl rfl rfl ?_
    have h32 := hI11.a ta63 k.toNat
    have h33 : S6.a 63 k.toNat = S0.a 63 k.toNat := hF14.a rfl _
    have h34 := hI11.a ta63 k.toNat
    refine r_call (i := 56) (u := 11) (v := 256) (w := 0) (b := 0) (na := 1026) (C2 := xC256) (as := [(2, 43), vi k]) (s := []) rfl rfl rfl rfl rfl rfl rfl (sp256 (k := k) hI11 ⟨by omega, by omega⟩   (by omega)) (fun r35 S36 hq37 => ?_)
    obtain ⟨z38, rfl, h39, h40, nta41, yta42, rfl⟩ := hq37
    refine Or.inr (Or.inl ⟨rfl, ?_⟩)
    refine z_ne (i := 57) (v := 60) rfl ⟨by omega, by omega⟩ (fun h43 => ?_) (fun h44 => ?_)
    · refine r_const (i := 60) (u := 0) (z := 0) rfl rfl ?_
      refine r_store (i := 61) (u := 3) (w := 0) (L1 := [some ((2, 43)), some (vi k), some (vi m), some (vi 0), none, none, none]) rfl rfl rfl rfl ?_
      have h45 := hI11.f tf43_43
      have h46 := hI11.f tf43_51
      have h47 : S6.f 43 51 = S.f 43 51 := hF12.f rfl
      have h48 := wphi_nn hI11
      have h49 : wphi S6 = wphi S := wphiX.fr hF12 rfl rfl
      have h50 := wpsi_nn hI11
      have h51 : wpsi S6 = wpsi S := wpsiX.fr hF12 rfl rfl
      have h52 := hI11.a ta61 k.toNat
      exact lp266_62 h_k p_0 p_1 p_2 p_3 hd S6 hI11 hF14 hR15 e16 e17 m 0 ⟨by omega, by omega⟩ ⟨by omega, by omega⟩ (by omega) (by omega) (by omega) (by omega) (by omega) (by omega) (by exact q_5) (by intro hm9 w9 hw0; have h91 := mq10 _ (q_7 hm9 _ hw0); exact mH_of q_5 rfl q_8 h91) (by first | exact (cif_y (show gdM S6 k from ⟨(show S6.a 61 k.toNat = 0 by omega), nta41 (by omega)⟩)).symm.trans ((ggM_fr hF12 rfl).trans (ggM_fr hF rfl)) | exact (cif_n (c := gdM S6 k) (fun q9 => yta42 (by omega) q9.2)).symm.trans ((ggM_fr hF12 rfl).trans (ggM_fr hF rfl))) 
    · refine r_const (i := 58) (u := 1) (z := 1) rfl rfl ?_
      refine r_goto (i := 59) (v := 61) rfl ?_
      refine r_store (i := 61) (u := 3) (w := 0) (L1 := [some ((2, 43)), some (vi k), some (vi m), some (vi 1), none, none, none]) rfl rfl rfl rfl ?_
      have h53 := hI11.f tf43_43
      have h54 := hI11.f tf43_51
      have h55 : S6.f 43 51 = S.f 43 51 := hF12.f rfl
      have h56 := wphi_nn hI11
      have h57 : wphi S6 = wphi S := wphiX.fr hF12 rfl rfl
      have h58 := wpsi_nn hI11
      have h59 : wpsi S6 = wpsi S := wpsiX.fr hF12 rfl rfl
      have h60 := hI11.a ta61 k.toNat
      exact lp266_62 h_k p_0 p_1 p_2 p_3 hd S6 hI11 hF14 hR15 e16 e17 m 1 ⟨by omega, by omega⟩ ⟨by omega, by omega⟩ (by omega) (by omega) (by omega) (by omega) (by omega) (by omega) (by exact q_5) (by intro hm9 w9 hw0; have h91 := mq10 _ (q_7 hm9 _ hw0); exact mH_of q_5 rfl q_8 h91) (by first | exact (cif_y (show gdM S6 k from ⟨(show S6.a 61 k.toNat = 0 by omega), nta41 (by omega)⟩)).symm.trans ((ggM_fr hF12 rfl).trans (ggM_fr hF rfl)) | exact (cif_n (c := gdM S6 k) (fun q9 => yta42 (by omega) q9.2)).symm.trans ((ggM_fr hF12 rfl).trans (ggM_fr hF rfl))) 
set_option maxHeartbeats 4000000 in
theorem lp266_25 {G : xk} {d : Nat} {S0 : yS} {k : Int} (h_k : 0 ≤ k ∧ k ≤ 23) (p_0 : S0.f 43 43 ≤ 23000) (p_1 : S0.f 43 51 = 0) (p_2 : wphi S0 ≤ 19000) (p_3 : wpsi S0 ≤ 1000) (hd : 10 ≤ d + 1) : ∀ (S : yS) (hI : yI S) (hF : yFr [(43, 43), (43, 49), (43, 50), (43, 51), (43, 52), (43, 53)] [68, 72, 73, 74, 75, 76, 77] S0 S) (hR : yRm [] S0 S) (e_wLV : wLV S) (e_wAS : wAS S) (m fl : Int) (h_m : 0 ≤ m ∧ m ≤ 59) (h_fl : 0 ≤ fl ∧ fl ≤ 20) (q_0 : S0.f 43 43 ≤ S.f 43 43 ∧ S.f 43 43 ≤ S0.f 43 43 + 0) (q_1 : S.f 43 51 = 0) (q_2 : wphi S ≤ wphi S0 + 0) (q_3 : wpsi S ≤ wpsi S0 + 0) (q_4 : S0.f 43 43 ≤ 23000 ∧ wphi S0 ≤ 19000 ∧ wpsi S0 ≤ 1000) (q_5 : m = S0.a 60 k.toNat) (q_6 : hM S0 → fl = acX (S0.a 54 m.toNat) + 16) (q_7 : mQ S0 S (fun w => w)), yT xPr G LY xC266 25 [some ((2, 43)), some (vi k), some (vi m), none, none, none, none] [vi fl, (2, 43)] S (d + 1) (fun r S' => r = (0, (0, 0)) ∧ S0.f 43 43 ≤ S'.f 43 43 ∧ S'.f 43 43 ≤ S0.f 43 43 + 250 ∧ S'.f 43 51 = 0 ∧ wphi S' ≤ wphi S0 + 330 ∧ wpsi S' ≤ wpsi S0 + 17 ∧ wphi S' + S'.f 43 43 ≤ wphi S0 + S0.f 43 43 + 399 ∧ (hM S0 → mQ S0 S' (mV S0 k)) ∧ wLV S' ∧ wAS S' ∧ yI S' ∧ yFr [(43, 43), (43, 49), (43, 50), (43, 51), (43, 52), (43, 53)] [68, 72, 73, 74, 75, 76, 77] S0 S' ∧ yRm [] S0 S') := by
  intro S hI hF hR e_wLV e_wAS m fl h_m h_fl q_0 q_1 q_2 q_3 q_4 q_5 q_6 q_7
  have h1 := hI.f tf43_43
  have h2 := hI.f tf43_51
  have h3 := wphi_nn hI
  have h4 := wpsi_nn hI
  refine r_call (i := 25) (u := 11) (v := 257) (w := 0) (b := 0) (na := 514) (C2 := xC257) (as := [(2, 43), vi fl]) (s := []) rfl rfl rfl rfl rfl rfl rfl (sp257 (v := fl) hI ⟨by omega, by omega⟩ (by omega)  (by omega)) (fun r5 S6 hq7 => ?_)
  obtain ⟨rfl, h8, h9, mq10, hI11, hF12, hR13⟩ := hq7
  have hF14 := hF.trans hF12 rfl rfl
  have hR15 := hR.trans hR13 rfl
  have e16 := wLVx.fr e_wLV hF12 rfl rfl
  have e17 := wASx.fr e_wAS hF12 rfl rfl
  refine Or.inl ⟨rfl, ?_⟩
  refine r_load (i := 26) (u := 0) (w := 2) rfl rfl rfl ?_
  refine r_load (i := 27) (u := 0) (w := 2) rfl rfl rfl ?_
  refine r_load (i := 28) (u := 2) (w := 0) rfl rfl rfl ?_
  have h18 := hI11.f tf43_51
  have h19 : S6.f 43 51 = S.f 43 51 := hF12.f rfl
  have h20 := wphi_nn hI11
  have h21 : wphi S6 = wphi S := wphiX.fr hF12 rfl rfl
  have h22 := wpsi_nn hI11
  have h23 : wpsi S6 = wpsi S := wpsiX.fr hF12 rfl rfl
  have h24 := hI11.a ta53 m.toNat
  have h25 : S6.a 53 m.toNat = S0.a 53 m.toNat := hF14.a rfl _
  have h26 := hI11.a ta53 m.toNat
  refine r_call (i := 29) (u := 11) (v := 222) (w := 0) (b := 0) (na := 514) (C2 := xC222) (as := [(2, 43), vi m]) (s := [(2, 43)]) rfl rfl rfl rfl rfl rfl rfl (sp222 (m := m) hI11 ⟨by omega, by omega⟩ (by omega) (by omega) (by omega) e16 (by omega)) (fun r27 S28 hq29 => ?_)
  obtain ⟨z30, rfl, h31, h32, h33, h34, h35, mi36, e37, hI38, hF39, hR40⟩ := hq29
  have hF41 := hF14.trans hF39 rfl rfl
  have hR42 := hR15.trans hR40 rfl
  have e43 := wASx.fr e17 hF39 rfl rfl
  refine Or.inr (Or.inl ⟨rfl, ?_⟩)
  have h44 := hI38.f tf43_43
  have h45 : S28.f 43 43 = S6.f 43 43 := hF39.f rfl
  refine r_call (i := 30) (u := 11) (v := 257) (w := 0) (b := 0) (na := 514) (C2 := xC257) (as := [(2, 43), vi z30]) (s := []) rfl rfl rfl rfl rfl rfl rfl (sp257 (v := z30) hI38 ⟨by omega, by omega⟩ (by omega)  (by omega)) (fun r46 S47 hq48 => ?_)
  obtain ⟨rfl, h49, h50, mq51, hI52, hF53, hR54⟩ := hq48
  have hF55 := hF41.trans hF53 rfl rfl
  have hR56 := hR42.trans hR54 rfl
  have e57 := wASx.fr e43 hF53 rfl rfl
  have e58 := wLVx.fr e37 hF53 rfl rfl
  refine Or.inl ⟨rfl, ?_⟩
  refine r_load (i := 31) (u := 0) (w := 2) rfl rfl rfl ?_
  refine r_load (i := 32) (u := 2) (w := 0) rfl rfl rfl ?_
  refine r_const (i := 33) (u := 0) (z := 0) rfl rfl ?_
  have h59 := hI52.f tf43_51
  have h60 : S47.f 43 51 = S28.f 43 51 := hF53.f rfl
  have h61 := hI52.a ta56 m.toNat
  have h62 : S47.a 56 m.toNat = S0.a 56 m.toNat := hF55.a rfl _
  have h63 := hI52.a ta55 m.toNat
  have h64 : S47.a 55 m.toNat = S0.a 55 m.toNat := hF55.a rfl _
  have h65 := hI52.a ta56 m.toNat
  refine r_call (i := 34) (u := 11) (v := 246) (w := 0) (b := 0) (na := 1027) (C2 := xC246) (as := [(2, 43), vi m, vi 0]) (s := []) rfl rfl rfl rfl rfl rfl rfl (sp246 (m := m) (cb := 0) hI52 ⟨by omega, by omega⟩ ⟨by omega, by omega⟩ (by omega)  (by omega)) (fun r66 S67 hq68 => ?_)
  obtain ⟨rfl, h69, h70, wds71, hI72, hF73, hR74⟩ := hq68
  have hF75 := hF55.trans hF73 rfl rfl
  have hR76 := hR56.trans hR74 rfl
  have e77 := wASx.fr e57 hF73 rfl rfl
  have e78 := wLVx.fr e58 hF73 rfl rfl
  refine Or.inl ⟨rfl, ?_⟩
  refine r_load (i := 35) (u := 0) (w := 2) rfl rfl rfl ?_
  refine r_load (i := 36) (u := 0) (w := 2) rfl rfl rfl ?_
  have h79 := wphi_nn hI72
  have h80 : wphi S67 = wphi S47 := wphiX.fr hF73 rfl rfl
  have h81 : wphi S47 = wphi S28 := wphiX.fr hF53 rfl rfl
  have h82 := wpsi_nn hI72
  have h83 : wpsi S67 = wpsi S47 := wpsiX.fr hF73 rfl rfl
  have h84 : wpsi S47 = wpsi S28 := wpsiX.fr hF53 rfl rfl
  have h85 := hI72.f tf43_51
  refine r_call (i := 37) (u := 11) (v := 251) (w := 0) (b := 0) (na := 1281) (C2 := xC251) (as := [(2, 43)]) (s := [(2, 43)]) rfl rfl rfl rfl rfl rfl rfl (sp251  hI72  (by omega) (by omega) (by omega) e78 (by omega)) (fun r86 S87 hq88 => ?_)
  obtain ⟨z89, rfl, h90, h91, h92, h93, tx94, h95, mtx96, e97, hI98, hF99, hR100⟩ := hq88
  have hF101 := hF75.trans hF99 rfl rfl
  have hR102 := hR76.trans hR100 rfl
  have e103 := wASx.fr e77 hF99 rfl rfl
  refine Or.inr (Or.inl ⟨rfl, ?_⟩)
  have h104 := hI98.f tf43_43
  have h105 : S87.f 43 43 = S67.f 43 43 := hF99.f rfl
  have h106 : S67.f 43 43 = S47.f 43 43 := hF73.f rfl
  refine r_call (i := 38) (u := 11) (v := 257) (w := 0) (b := 0) (na := 514) (C2 := xC257) (as := [(2, 43), vi z89]) (s := []) rfl rfl rfl rfl rfl rfl rfl (sp257 (v := z89) hI98 ⟨by omega, by omega⟩ (by omega)  (by omega)) (fun r107 S108 hq109 => ?_)
  obtain ⟨rfl, h110, h111, mq112, hI113, hF114, hR115⟩ := hq109
  have hF116 := hF101.trans hF114 rfl rfl
  have hR117 := hR102.trans hR115 rfl
  have e118 := wASx.fr e103 hF114 rfl rfl
  have e119 := wLVx.fr e97 hF114 rfl rfl
  refine Or.inl ⟨rfl, ?_⟩
  refine r_load (i := 39) (u := 0) (w := 2) rfl rfl rfl ?_
  refine r_load (i := 40) (u := 0) (w := 2) rfl rfl rfl ?_
  refine r_getf (i := 41) (v := 26) (w := 11) (x := (2, 63)) rfl ly43 rfl rfl fun _ => ?_
  refine r_load (i := 42) (u := 1) (w := 0) rfl rfl rfl ?_
  refine a_int (i := 43) rfl ly63 rfl (by omega) (by omega) fun h121 => ?_
  have h122 := hI113.a ta63 k.toNat
  have h123 : S108.a 63 k.toNat = S0.a 63 k.toNat := hF116.a rfl _
  refine z_le (i := 44) (v := 47) rfl ⟨by omega, by omega⟩ (fun h124 => ?_) (fun h125 => ?_)
  · refine r_const (i := 47) (u := 1) (z := 1) rfl rfl ?_
    have h126 := hI113.f tf43_43
    have h127 := hI113.f tf43_51
    have h128 : S108.f 43 51 = S87.f 43 51 := hF114.f rfl
    have h129 := wphi_nn hI113
    have h130 : wphi S108 = wphi S87 := wphiX.fr hF114 rfl rfl
    have h131 := wpsi_nn hI113
    have h132 : wpsi S108 = wpsi S87 := wpsiX.fr hF114 rfl rfl
    exact lp266_48 h_k p_0 p_1 p_2 p_3 hd S108 hI113 hF116 hR117 e119 e118 m 1 ⟨by omega, by omega⟩ ⟨by omega, by omega⟩ (by omega) (by omega) (by omega) (by omega) (by omega) (by exact q_5) (by exact fun _ => trivial) (by intro hm9 w9 hw0; have hwq := q_7 _ hw0; have h91 := mq10 _ hwq; obtain ⟨h92, e92⟩ := mi36 _ h91; have h93 := mq51 _ h92; obtain ⟨h94, e94⟩ := (mI_tx (by omega) (ds_c0 wds71 ((pkR_fr (b := 48) hF53 rfl).trans ((pkR_fr (b := 48) hF39 rfl).trans ((pkR_fr (b := 48) hF12 rfl).trans (pkR_fr (b := 48) hF rfl)))) ((hF53.a (b := 55) rfl _).trans ((hF39.a (b := 55) rfl _).trans ((hF12.a (b := 55) rfl _).trans (hF.a (b := 55) rfl _)))) ((hF53.a (b := 56) rfl _).trans ((hF39.a (b := 56) rfl _).trans ((hF12.a (b := 56) rfl _).trans (hF.a (b := 56) rfl _))))) (sPo_fr hF73 rfl rfl) mtx96 (sBo_tr (sBo_fr hF73 rfl rfl) (sBo_fr hF99 rfl rfl))) _ h93; have h95 := mq112 _ h94; subst e92; subst e94; exact mW_c h95 (hd8_eq (q_6 hm9) ((hF12.a (b := 53) rfl _).trans (hF.a (b := 53) rfl _)))) (by first | exact (if_pos (by omega)).symm | exact (if_neg (by omega)).symm) 
  · refine r_const (i := 45) (u := 2) (z := 2) rfl rfl ?_
    refine r_goto (i := 46) (v := 48) rfl ?_
    have h133 := hI113.f tf43_43
    have h134 := hI113.f tf43_51
    have h135 : S108.f 43 51 = S87.f 43 51 := hF114.f rfl
    have h136 := wphi_nn hI113
    have h137 : wphi S108 = wphi S87 := wphiX.fr hF114 rfl rfl
    have h138 := wpsi_nn hI113
    have h139 : wpsi S108 = wpsi S87 := wpsiX.fr hF114 rfl rfl
    exact lp266_48 h_k p_0 p_1 p_2 p_3 hd S108 hI113 hF116 hR117 e119 e118 m 2 ⟨by omega, by omega⟩ ⟨by omega, by omega⟩ (by omega) (by omega) (by omega) (by omega) (by omega) (by exact q_5) (by exact fun _ => trivial) (by intro hm9 w9 hw0; have hwq := q_7 _ hw0; have h91 := mq10 _ hwq; obtain ⟨h92, e92⟩ := mi36 _ h91; have h93 := mq51 _ h92; obtain ⟨h94, e94⟩ := (mI_tx (by omega) (ds_c0 wds71 ((pkR_fr (b := 48) hF53 rfl).trans ((pkR_fr (b := 48) hF39 rfl).trans ((pkR_fr (b := 48) hF12 rfl).trans (pkR_fr (b := 48) hF rfl)))) ((hF53.a (b := 55) rfl _).trans ((hF39.a (b := 55) rfl _).trans ((hF12.a (b := 55) rfl _).trans (hF.a (b := 55) rfl _)))) ((hF53.a (b := 56) rfl _).trans ((hF39.a (b := 56) rfl _).trans ((hF12.a (b := 56) rfl _).trans (hF.a (b := 56) rfl _))))) (sPo_fr hF73 rfl rfl) mtx96 (sBo_tr (sBo_fr hF73 rfl rfl) (sBo_fr hF99 rfl rfl))) _ h93; have h95 := mq112 _ h94; subst e92; subst e94; exact mW_c h95 (hd8_eq (q_6 hm9) ((hF12.a (b := 53) rfl _).trans (hF.a (b := 53) rfl _)))) (by first | exact (if_pos (by omega)).symm | exact (if_neg (by omega)).symm) 
set_option maxHeartbeats 4000000 in
/-- ProxyForgeModel.writeSlot -/
theorem sp266 {G : xk} {S : yS} {d : Nat} (hI : yI S) {k : Int} (h_k : 0 ≤ k ∧ k ≤ 23) (p_0 : S.f 43 43 ≤ 23000) (p_1 : S.f 43 51 = 0) (p_2 : wphi S ≤ 19000) (p_3 : wpsi S ≤ 1000) (e_wLV : wLV S) (e_wAS : wAS S) (hd : 10 ≤ d) : yT xPr G LY xC266 0 [some ((2, 43)), some (vi k)] [] S d (fun r S' => r = (0, (0, 0)) ∧ S.f 43 43 ≤ S'.f 43 43 ∧ S'.f 43 43 ≤ S.f 43 43 + 250 ∧ S'.f 43 51 = 0 ∧ wphi S' ≤ wphi S + 330 ∧ wpsi S' ≤ wpsi S + 17 ∧ wphi S' + S'.f 43 43 ≤ wphi S + S.f 43 43 + 399 ∧ (hM S → mQ S S' (mV S k)) ∧ wLV S' ∧ wAS S' ∧ yI S' ∧ yFr [(43, 43), (43, 49), (43, 50), (43, 51), (43, 52), (43, 53)] [68, 72, 73, 74, 75, 76, 77] S S' ∧ yRm [] S S') := by
  refine yT_pad 5 ?_
  show yT xPr G LY xC266 0 [some ((2, 43)), some (vi k), none, none, none, none, none] [] S d _
  obtain ⟨d, rfl⟩ : ∃ q, d = q + 1 := ⟨d - 1, by omega⟩
  have hF : yFr [(43, 43), (43, 49), (43, 50), (43, 51), (43, 52), (43, 53)] [68, 72, 73, 74, 75, 76, 77] S S := yFr.refl S
  have hR : yRm [] S S := yRm.refl S
  have h1 := hI.f tf43_43
  have h2 := hI.f tf43_51
  have h3 := wphi_nn hI
  have h4 := wpsi_nn hI
  refine r_load (i := 0) (u := 0) (w := 2) rfl rfl rfl ?_
  refine r_getf (i := 1) (v := 23) (w := 11) (x := (2, 60)) rfl ly43 rfl rfl fun _ => ?_
  refine r_load (i := 2) (u := 1) (w := 0) rfl rfl rfl ?_
  refine a_int (i := 3) rfl ly60 rfl (by omega) (by omega) fun h6 => ?_
  have h7 := hI.a ta60 k.toNat
  refine r_store (i := 4) (u := 2) (w := 0) (L1 := [some ((2, 43)), some (vi k), some (vi (S.a 60 k.toNat)), none, none, none, none]) rfl rfl rfl rfl ?_
  refine r_load (i := 5) (u := 0) (w := 2) rfl rfl rfl ?_
  refine r_load (i := 6) (u := 0) (w := 2) rfl rfl rfl ?_
  refine r_getf (i := 7) (v := 13) (w := 11) (x := (2, 54)) rfl ly43 rfl rfl fun _ => ?_
  refine r_load (i := 8) (u := 2) (w := 0) rfl rfl rfl ?_
  refine a_int (i := 9) rfl ly54 rfl (by omega) (by omega) fun h9 => ?_
  have h10 := hI.a ta54 (S.a 60 k.toNat).toNat
  refine r_const (i := 10) (u := 1) (z := 1) rfl rfl ?_
  refine r_iand (i := 11) rfl ?_
  have h11 := @yand_c (S.a 54 (S.a 60 k.toNat).toNat) 1 (by decide) (by decide)
  refine z_le (i := 12) (v := 15) rfl ⟨by omega, by omega⟩ (fun h12 => ?_) (fun h13 => ?_)
  · refine r_load (i := 15) (u := 0) (w := 2) rfl rfl rfl ?_
    refine r_getf (i := 16) (v := 13) (w := 11) (x := (2, 54)) rfl ly43 rfl rfl fun _ => ?_
    refine r_load (i := 17) (u := 2) (w := 0) rfl rfl rfl ?_
    refine a_int (i := 18) rfl ly54 rfl (by omega) (by omega) fun h15 => ?_
    have h16 := hI.a ta54 (S.a 60 k.toNat).toNat
    refine r_const (i := 19) (u := 2) (z := 2) rfl rfl ?_
    refine r_iand (i := 20) rfl ?_
    have h17 := @yand_c (S.a 54 (S.a 60 k.toNat).toNat) 2 (by decide) (by decide)
    refine z_le (i := 21) (v := 24) rfl ⟨by omega, by omega⟩ (fun h18 => ?_) (fun h19 => ?_)
    · refine r_const (i := 24) (u := 16) (z := 16) rfl rfl ?_
      exact lp266_25 h_k p_0 p_1 p_2 p_3 hd S hI hF hR e_wLV e_wAS (S.a 60 k.toNat) 16 ⟨by omega, by omega⟩ ⟨by omega, by omega⟩ (by omega) (by omega) (by omega) (by omega) (by omega) (by rfl) (by intro hm9; have v9 := (hm9.1 (S.a 60 k.toNat).toNat).2.1; have e9 := acm (f := S.a 54 (S.a 60 k.toNat).toNat) (x := 16 - 16) v9 (by omega); omega) (by exact fun w9 hw0 => hw0) 
    · refine r_const (i := 22) (u := 20) (z := 20) rfl rfl ?_
      refine r_goto (i := 23) (v := 25) rfl ?_
      exact lp266_25 h_k p_0 p_1 p_2 p_3 hd S hI hF hR e_wLV e_wAS (S.a 60 k.toNat) 20 ⟨by omega, by omega⟩ ⟨by omega, by omega⟩ (by omega) (by omega) (by omega) (by omega) (by omega) (by rfl) (by intro hm9; have v9 := (hm9.1 (S.a 60 k.toNat).toNat).2.1; have e9 := acm (f := S.a 54 (S.a 60 k.toNat).toNat) (x := 20 - 16) v9 (by omega); omega) (by exact fun w9 hw0 => hw0) 
  · refine r_const (i := 13) (u := 17) (z := 17) rfl rfl ?_
    refine r_goto (i := 14) (v := 25) rfl ?_
    exact lp266_25 h_k p_0 p_1 p_2 p_3 hd S hI hF hR e_wLV e_wAS (S.a 60 k.toNat) 17 ⟨by omega, by omega⟩ ⟨by omega, by omega⟩ (by omega) (by omega) (by omega) (by omega) (by omega) (by rfl) (by intro hm9; have v9 := (hm9.1 (S.a 60 k.toNat).toNat).2.1; have e9 := acm (f := S.a 54 (S.a 60 k.toNat).toNat) (x := 17 - 16) v9 (by omega); omega) (by exact fun w9 hw0 => hw0) 
set_option maxHeartbeats 4000000 in
theorem lp264_20 {G : xk} {d : Nat} {S0 : yS} {m : Int} (h_m : 0 ≤ m ∧ m ≤ 59) (p_0 : S0.f 43 43 ≤ 23000) (p_1 : S0.f 43 51 = 0) (p_2 : wphi S0 ≤ 19000) (p_3 : wpsi S0 ≤ 1000) (p_4 : S0.a 53 m.toNat = 10) (hd : 9 ≤ d + 1) : ∀ (S : yS) (hI : yI S) (hF : yFr [(43, 43), (43, 49), (43, 50), (43, 51), (43, 52), (43, 53)] [72, 73, 74, 75, 76, 77] S0 S) (hR : yRm [] S0 S) (e_wLV : wLV S) (e_CR : CR S) (fl : Int) (h_fl : 0 ≤ fl ∧ fl ≤ 4) (q_0 : S0.f 43 43 ≤ S.f 43 43 ∧ S.f 43 43 ≤ S0.f 43 43 + 0) (q_1 : S.f 43 51 = 0) (q_2 : wphi S ≤ wphi S0 + 0) (q_3 : wpsi S ≤ wpsi S0 + 0) (q_4 : S0.f 43 43 ≤ 23000 ∧ wphi S0 ≤ 19000 ∧ wpsi S0 ≤ 1000) (q_5 : S.a 56 m.toNat = 0) (q_6 : hM S0 → fl = acX (S0.a 54 m.toNat)) (q_7 : mQ S0 S (fun w => w)), yT xPr G LY xC264 20 [some ((2, 43)), some (vi m), none] [vi fl, (2, 43)] S (d + 1) (fun r S' => r = (0, (0, 0)) ∧ S0.f 43 43 ≤ S'.f 43 43 ∧ S'.f 43 43 ≤ S0.f 43 43 + 44 ∧ S'.f 43 51 = 0 ∧ wphi S' ≤ wphi S0 + 269 ∧ wpsi S' ≤ wpsi S0 + 6 ∧ (hM S0 → mQ S0 S' (mC S0 m)) ∧ wLV S' ∧ CR S' ∧ yI S' ∧ yFr [(43, 43), (43, 49), (43, 50), (43, 51), (43, 52), (43, 53)] [72, 73, 74, 75, 76, 77] S0 S' ∧ yRm [] S0 S') := by
  intro S hI hF hR e_wLV e_CR fl h_fl q_0 q_1 q_2 q_3 q_4 q_5 q_6 q_7
  have h1 := hI.f tf43_43
  have h2 := hI.f tf43_51
  have h3 := wphi_nn hI
  have h4 := wpsi_nn hI
  have h5 := hI.a ta56 m.toNat
  have h6 : S.a 56 m.toNat = S0.a 56 m.toNat := hF.a rfl _
  refine r_call (i := 20) (u := 11) (v := 257) (w := 0) (b := 0) (na := 514) (C2 := xC257) (as := [(2, 43), vi fl]) (s := []) rfl rfl rfl rfl rfl rfl rfl (sp257 (v := fl) hI ⟨by omega, by omega⟩ (by omega)  (by omega)) (fun r7 S8 hq9 => ?_)
  obtain ⟨rfl, h10, h11, mq12, hI13, hF14, hR15⟩ := hq9
  have hF16 := hF.trans hF14 rfl rfl
  have hR17 := hR.trans hR15 rfl
  have e18 := wLVx.fr e_wLV hF14 rfl rfl
  have e19 := CRx.fr e_CR hF14 rfl rfl
  refine Or.inl ⟨rfl, ?_⟩
  refine r_load (i := 21) (u := 0) (w := 2) rfl rfl rfl ?_
  refine r_load (i := 22) (u := 0) (w := 2) rfl rfl rfl ?_
  refine r_load (i := 23) (u := 1) (w := 0) rfl rfl rfl ?_
  have h20 := hI13.f tf43_51
  have h21 : S8.f 43 51 = S.f 43 51 := hF14.f rfl
  have h22 := wphi_nn hI13
  have h23 : wphi S8 = wphi S := wphiX.fr hF14 rfl rfl
  have h24 := wpsi_nn hI13
  have h25 : wpsi S8 = wpsi S := wpsiX.fr hF14 rfl rfl
  have h26 := hI13.a ta53 m.toNat
  have h27 : S8.a 53 m.toNat = S0.a 53 m.toNat := hF16.a rfl _
  have h28 := hI13.a ta53 m.toNat
  refine r_call (i := 24) (u := 11) (v := 222) (w := 0) (b := 0) (na := 514) (C2 := xC222) (as := [(2, 43), vi m]) (s := [(2, 43)]) rfl rfl rfl rfl rfl rfl rfl (sp222 (m := m) hI13 ⟨by omega, by omega⟩ (by omega) (by omega) (by omega) e18 (by omega)) (fun r29 S30 hq31 => ?_)
  obtain ⟨z32, rfl, h33, h34, h35, h36, h37, mi38, e39, hI40, hF41, hR42⟩ := hq31
  have hF43 := hF16.trans hF41 rfl rfl
  have hR44 := hR17.trans hR42 rfl
  have e45 := CRx.fr e19 hF41 rfl rfl
  refine Or.inr (Or.inl ⟨rfl, ?_⟩)
  have h46 := hI40.f tf43_43
  have h47 : S30.f 43 43 = S8.f 43 43 := hF41.f rfl
  refine r_call (i := 25) (u := 11) (v := 257) (w := 0) (b := 0) (na := 514) (C2 := xC257) (as := [(2, 43), vi z32]) (s := []) rfl rfl rfl rfl rfl rfl rfl (sp257 (v := z32) hI40 ⟨by omega, by omega⟩ (by omega)  (by omega)) (fun r48 S49 hq50 => ?_)
  obtain ⟨rfl, h51, h52, mq53, hI54, hF55, hR56⟩ := hq50
  have hF57 := hF43.trans hF55 rfl rfl
  have hR58 := hR44.trans hR56 rfl
  have e59 := CRx.fr e45 hF55 rfl rfl
  have e60 := wLVx.fr e39 hF55 rfl rfl
  refine Or.inl ⟨rfl, ?_⟩
  refine r_load (i := 26) (u := 0) (w := 2) rfl rfl rfl ?_
  refine r_load (i := 27) (u := 1) (w := 0) rfl rfl rfl ?_
  refine r_const (i := 28) (u := 1) (z := 1) rfl rfl ?_
  have h61 := hI54.f tf43_51
  have h62 : S49.f 43 51 = S30.f 43 51 := hF55.f rfl
  have h63 := hI54.a ta56 m.toNat
  have h64 : S49.a 56 m.toNat = S0.a 56 m.toNat := hF57.a rfl _
  have h65 := hI54.a ta55 m.toNat
  have h66 : S49.a 55 m.toNat = S0.a 55 m.toNat := hF57.a rfl _
  have h67 := hI54.a ta56 m.toNat
  refine r_call (i := 29) (u := 11) (v := 246) (w := 0) (b := 0) (na := 1027) (C2 := xC246) (as := [(2, 43), vi m, vi 1]) (s := []) rfl rfl rfl rfl rfl rfl rfl (sp246 (m := m) (cb := 1) hI54 ⟨by omega, by omega⟩ ⟨by omega, by omega⟩ (by omega)  (by omega)) (fun r68 S69 hq70 => ?_)
  obtain ⟨rfl, h71, h72, wds73, hI74, hF75, hR76⟩ := hq70
  have hF77 := hF57.trans hF75 rfl rfl
  have hR78 := hR58.trans hR76 rfl
  have e79 := CRx.fr e59 hF75 rfl rfl
  have e80 := wLVx.fr e60 hF75 rfl rfl
  refine Or.inl ⟨rfl, ?_⟩
  refine r_load (i := 30) (u := 0) (w := 2) rfl rfl rfl ?_
  refine r_load (i := 31) (u := 0) (w := 2) rfl rfl rfl ?_
  have h81 := wphi_nn hI74
  have h82 : wphi S69 = wphi S49 := wphiX.fr hF75 rfl rfl
  have h83 : wphi S49 = wphi S30 := wphiX.fr hF55 rfl rfl
  have h84 := wpsi_nn hI74
  have h85 : wpsi S69 = wpsi S49 := wpsiX.fr hF75 rfl rfl
  have h86 : wpsi S49 = wpsi S30 := wpsiX.fr hF55 rfl rfl
  have h87 := hI74.f tf43_51
  refine r_call (i := 32) (u := 11) (v := 251) (w := 0) (b := 0) (na := 1281) (C2 := xC251) (as := [(2, 43)]) (s := [(2, 43)]) rfl rfl rfl rfl rfl rfl rfl (sp251  hI74  (by omega) (by omega) (by omega) e80 (by omega)) (fun r88 S89 hq90 => ?_)
  obtain ⟨z91, rfl, h92, h93, h94, h95, tx96, h97, mtx98, e99, hI100, hF101, hR102⟩ := hq90
  have hF103 := hF77.trans hF101 rfl rfl
  have hR104 := hR78.trans hR102 rfl
  have e105 := CRx.fr e79 hF101 rfl rfl
  refine Or.inr (Or.inl ⟨rfl, ?_⟩)
  have h106 := hI100.f tf43_43
  have h107 : S89.f 43 43 = S69.f 43 43 := hF101.f rfl
  have h108 : S69.f 43 43 = S49.f 43 43 := hF75.f rfl
  refine r_call (i := 33) (u := 11) (v := 257) (w := 0) (b := 0) (na := 514) (C2 := xC257) (as := [(2, 43), vi z91]) (s := []) rfl rfl rfl rfl rfl rfl rfl (sp257 (v := z91) hI100 ⟨by omega, by omega⟩ (by omega)  (by omega)) (fun r109 S110 hq111 => ?_)
  obtain ⟨rfl, h112, h113, mq114, hI115, hF116, hR117⟩ := hq111
  have hF118 := hF103.trans hF116 rfl rfl
  have hR119 := hR104.trans hR117 rfl
  have e120 := CRx.fr e105 hF116 rfl rfl
  have e121 := wLVx.fr e99 hF116 rfl rfl
  refine Or.inl ⟨rfl, ?_⟩
  refine r_load (i := 34) (u := 0) (w := 2) rfl rfl rfl ?_
  refine r_const (i := 35) (u := 1) (z := 1) rfl rfl ?_
  have h122 := hI115.f tf43_43
  refine r_call (i := 36) (u := 11) (v := 257) (w := 0) (b := 0) (na := 514) (C2 := xC257) (as := [(2, 43), vi 1]) (s := []) rfl rfl rfl rfl rfl rfl rfl (sp257 (v := 1) hI115 ⟨by omega, by omega⟩ (by omega)  (by omega)) (fun r123 S124 hq125 => ?_)
  obtain ⟨rfl, h126, h127, mq128, hI129, hF130, hR131⟩ := hq125
  have hF132 := hF118.trans hF130 rfl rfl
  have hR133 := hR119.trans hR131 rfl
  have e134 := CRx.fr e120 hF130 rfl rfl
  have e135 := wLVx.fr e121 hF130 rfl rfl
  refine Or.inl ⟨rfl, ?_⟩
  refine r_load (i := 37) (u := 0) (w := 2) rfl rfl rfl ?_
  refine r_const (i := 38) (u := 2) (z := 2) rfl rfl ?_
  refine r_load (i := 39) (u := 0) (w := 2) rfl rfl rfl ?_
  refine r_load (i := 40) (u := 1) (w := 0) rfl rfl rfl ?_
  have h136 := hI129.a ta55 m.toNat
  have h137 : S124.a 55 m.toNat = S0.a 55 m.toNat := hF132.a rfl _
  refine r_call (i := 41) (u := 11) (v := 263) (w := 0) (b := 0) (na := 1026) (C2 := xC263) (as := [(2, 43), vi m]) (s := [vi 2, (2, 43)]) rfl rfl rfl rfl rfl rfl rfl (sp263 (m := m) hI129 ⟨by omega, by omega⟩   (by omega)) (fun r138 S139 hq140 => ?_)
  obtain ⟨z141, rfl, h142, h143, wda144, rfl⟩ := hq140
  refine Or.inr (Or.inl ⟨rfl, ?_⟩)
  refine r_iadd (i := 42) rfl ?_
  have h145 := hI129.f tf43_43
  have h146 := hI129.f tf43_51
  have h147 : S124.f 43 51 = S110.f 43 51 := hF130.f rfl
  have h148 : S110.f 43 51 = S89.f 43 51 := hF116.f rfl
  have h149 := wphi_nn hI129
  have h150 : wphi S124 = wphi S110 := wphiX.fr hF130 rfl rfl
  have h151 : wphi S110 = wphi S89 := wphiX.fr hF116 rfl rfl
  have h152 := wpsi_nn hI129
  have h153 : wpsi S124 = wpsi S110 := wpsiX.fr hF130 rfl rfl
  have h154 : wpsi S110 = wpsi S89 := wpsiX.fr hF116 rfl rfl
  refine r_call (i := 43) (u := 11) (v := 185) (w := 0) (b := 0) (na := 770) (C2 := xC185) (as := [(2, 43), vi (2 + z141)]) (s := []) rfl rfl rfl rfl rfl rfl rfl (sp185 (lc := 2 + z141) hI129 ⟨by omega, by omega⟩ (by omega) (by omega) (by omega) (by omega) e135 (by omega)) (fun r155 S156 hq157 => ?_)
  obtain ⟨z158, rfl, h159, h160, h161, h162, h163, h164, h165, h166, mq167, e168, hI169, hF170, hR171⟩ := hq157
  have hF172 := hF132.trans hF170 rfl rfl
  have hR173 := hR133.trans hR171 rfl
  have e174 := CRx.fr e134 hF170 rfl rfl
  refine Or.inr (Or.inl ⟨rfl, ?_⟩)
  refine r_store (i := 44) (u := 2) (w := 0) (L1 := [some ((2, 43)), some (vi m), some (vi z158)]) rfl rfl rfl rfl ?_
  refine r_load (i := 45) (u := 0) (w := 2) rfl rfl rfl ?_
  refine r_const (i := 46) (u := 42) (z := 42) rfl rfl ?_
  refine r_const (i := 47) (u := 0) (z := 0) rfl rfl ?_
  refine r_const (i := 48) (u := 1) (z := 1) rfl rfl ?_
  have h175 := hI169.f tf43_43
  refine r_call (i := 49) (u := 11) (v := 250) (w := 0) (b := 0) (na := 1028) (C2 := xC250) (as := [(2, 43), vi 42, vi 0, vi 1]) (s := []) rfl rfl rfl rfl rfl rfl rfl (sp250 (b0 := 42) (off := 0) (on := 1) hI169 ⟨by omega, by omega⟩ ⟨by omega, by omega⟩ ⟨by omega, by omega⟩ (by omega)  (by omega)) (fun r176 S177 hq178 => ?_)
  obtain ⟨rfl, h179, h180, mq181, hI182, hF183, hR184⟩ := hq178
  have hF185 := hF172.trans hF183 rfl rfl
  have hR186 := hR173.trans hR184 rfl
  have e187 := CRx.fr e174 hF183 rfl rfl
  have e188 := wLVx.fr e168 hF183 rfl rfl
  refine Or.inl ⟨rfl, ?_⟩
  refine r_load (i := 50) (u := 0) (w := 2) rfl rfl rfl ?_
  refine r_const (i := 51) (u := 43) (z := 43) rfl rfl ?_
  refine r_const (i := 52) (u := 0) (z := 0) rfl rfl ?_
  refine r_const (i := 53) (u := 1) (z := 1) rfl rfl ?_
  have h189 := hI182.f tf43_43
  refine r_call (i := 54) (u := 11) (v := 250) (w := 0) (b := 0) (na := 1028) (C2 := xC250) (as := [(2, 43), vi 43, vi 0, vi 1]) (s := []) rfl rfl rfl rfl rfl rfl rfl (sp250 (b0 := 43) (off := 0) (on := 1) hI182 ⟨by omega, by omega⟩ ⟨by omega, by omega⟩ ⟨by omega, by omega⟩ (by omega)  (by omega)) (fun r190 S191 hq192 => ?_)
  obtain ⟨rfl, h193, h194, mq195, hI196, hF197, hR198⟩ := hq192
  have hF199 := hF185.trans hF197 rfl rfl
  have hR200 := hR186.trans hR198 rfl
  have e201 := CRx.fr e187 hF197 rfl rfl
  have e202 := wLVx.fr e188 hF197 rfl rfl
  refine Or.inl ⟨rfl, ?_⟩
  refine r_load (i := 55) (u := 0) (w := 2) rfl rfl rfl ?_
  refine r_const (i := 56) (u := 181) (z := 181) rfl rfl ?_
  refine r_const (i := 57) (u := 2) (z := 2) rfl rfl ?_
  refine r_const (i := 58) (u := 0) (z := 0) rfl rfl ?_
  have h203 := hI196.f tf43_43
  refine r_call (i := 59) (u := 11) (v := 250) (w := 0) (b := 0) (na := 1028) (C2 := xC250) (as := [(2, 43), vi 181, vi 2, vi 0]) (s := []) rfl rfl rfl rfl rfl rfl rfl (sp250 (b0 := 181) (off := 2) (on := 0) hI196 ⟨by omega, by omega⟩ ⟨by omega, by omega⟩ ⟨by omega, by omega⟩ (by omega)  (by omega)) (fun r204 S205 hq206 => ?_)
  obtain ⟨rfl, h207, h208, mq209, hI210, hF211, hR212⟩ := hq206
  have hF213 := hF199.trans hF211 rfl rfl
  have hR214 := hR200.trans hR212 rfl
  have e215 := CRx.fr e201 hF211 rfl rfl
  have e216 := wLVx.fr e202 hF211 rfl rfl
  refine Or.inl ⟨rfl, ?_⟩
  refine r_load (i := 60) (u := 0) (w := 2) rfl rfl rfl ?_
  refine r_load (i := 61) (u := 0) (w := 2) rfl rfl rfl ?_
  refine r_const (i := 62) (u := 9) (z := 9) rfl rfl ?_
  refine r_load (i := 63) (u := 0) (w := 2) rfl rfl rfl ?_
  have h217 := hI210.f tf43_51
  have h218 : S205.f 43 51 = S191.f 43 51 := hF211.f rfl
  have h219 : S191.f 43 51 = S177.f 43 51 := hF197.f rfl
  have h220 : S177.f 43 51 = S156.f 43 51 := hF183.f rfl
  have h221 := wphi_nn hI210
  have h222 : wphi S205 = wphi S191 := wphiX.fr hF211 rfl rfl
  have h223 : wphi S191 = wphi S177 := wphiX.fr hF197 rfl rfl
  have h224 : wphi S177 = wphi S156 := wphiX.fr hF183 rfl rfl
  have h225 := wpsi_nn hI210
  have h226 : wpsi S205 = wpsi S191 := wpsiX.fr hF211 rfl rfl
  have h227 : wpsi S191 = wpsi S177 := wpsiX.fr hF197 rfl rfl
  have h228 : wpsi S177 = wpsi S156 := wpsiX.fr hF183 rfl rfl
  refine r_call (i := 64) (u := 11) (v := 233) (w := 0) (b := 0) (na := 257) (C2 := xC233) (as := [(2, 43)]) (s := [vi 9, (2, 43), (2, 43)]) rfl rfl rfl rfl rfl rfl rfl (sp233  hI210  (by omega) (by omega) (by omega) e216 (by omega)) (fun r229 S230 hq231 => ?_)
  obtain ⟨z232, rfl, h233, h234, h235, h236, h237, mi238, e239, hI240, hF241, hR242⟩ := hq231
  have hF243 := hF213.trans hF241 rfl rfl
  have hR244 := hR214.trans hR242 rfl
  have e245 := CRx.fr e215 hF241 rfl rfl
  refine Or.inr (Or.inl ⟨rfl, ?_⟩)
  refine r_str (i := 65) (v := 46) rfl ?_
  have h246 := slv46
  refine r_str (i := 66) (v := 47) rfl ?_
  have h247 := slv47
  have h248 := hI240.f tf43_51
  have h249 := wphi_nn hI240
  have h250 := wpsi_nn hI240
  refine r_call (i := 67) (u := 11) (v := 218) (w := 0) (b := 0) (na := 1797) (C2 := xC218) (as := [(2, 43), vi 9, vi z232, (6, 46), (6, 47)]) (s := [(2, 43)]) rfl rfl rfl rfl rfl rfl rfl (sp218 (w0 := 9) (ow := z232) (s1 := 46) (s2 := 47) hI240 ⟨by omega, by omega⟩ ⟨by omega, by omega⟩ ⟨by decide, by decide⟩ ⟨by decide, by decide⟩ (by omega) (by omega) (by omega) (by omega) (by omega) e239 (by omega)) (fun r251 S252 hq253 => ?_)
  obtain ⟨z254, rfl, h255, h256, h257, h258, h259, mm260, e261, hI262, hF263, hR264⟩ := hq253
  have hF265 := hF243.trans hF263 rfl rfl
  have hR266 := hR244.trans hR264 rfl
  have e267 := CRx.fr e245 hF263 rfl rfl
  refine Or.inr (Or.inl ⟨rfl, ?_⟩)
  have h268 := hI262.f tf43_43
  have h269 : S252.f 43 43 = S230.f 43 43 := hF263.f rfl
  have h270 : S230.f 43 43 = S205.f 43 43 := hF241.f rfl
  refine r_call (i := 68) (u := 11) (v := 257) (w := 0) (b := 0) (na := 514) (C2 := xC257) (as := [(2, 43), vi z254]) (s := []) rfl rfl rfl rfl rfl rfl rfl (sp257 (v := z254) hI262 ⟨by omega, by omega⟩ (by omega)  (by omega)) (fun r271 S272 hq273 => ?_)
  obtain ⟨rfl, h274, h275, mq276, hI277, hF278, hR279⟩ := hq273
  have hF280 := hF265.trans hF278 rfl rfl
  have hR281 := hR266.trans hR279 rfl
  have e282 := CRx.fr e267 hF278 rfl rfl
  have e283 := wLVx.fr e261 hF278 rfl rfl
  refine Or.inl ⟨rfl, ?_⟩
  refine r_load (i := 69) (u := 0) (w := 2) rfl rfl rfl ?_
  refine r_const (i := 70) (u := 42) (z := 42) rfl rfl ?_
  refine r_const (i := 71) (u := 0) (z := 0) rfl rfl ?_
  refine r_const (i := 72) (u := 1) (z := 1) rfl rfl ?_
  have h284 := hI277.f tf43_43
  refine r_call (i := 73) (u := 11) (v := 250) (w := 0) (b := 0) (na := 1028) (C2 := xC250) (as := [(2, 43), vi 42, vi 0, vi 1]) (s := []) rfl rfl rfl rfl rfl rfl rfl (sp250 (b0 := 42) (off := 0) (on := 1) hI277 ⟨by omega, by omega⟩ ⟨by omega, by omega⟩ ⟨by omega, by omega⟩ (by omega)  (by omega)) (fun r285 S286 hq287 => ?_)
  obtain ⟨rfl, h288, h289, mq290, hI291, hF292, hR293⟩ := hq287
  have hF294 := hF280.trans hF292 rfl rfl
  have hR295 := hR281.trans hR293 rfl
  have e296 := CRx.fr e282 hF292 rfl rfl
  have e297 := wLVx.fr e283 hF292 rfl rfl
  refine Or.inl ⟨rfl, ?_⟩
  refine r_load (i := 74) (u := 0) (w := 2) rfl rfl rfl ?_
  refine r_load (i := 75) (u := 1) (w := 0) rfl rfl rfl ?_
  refine r_const (i := 76) (u := 2) (z := 2) rfl rfl ?_
  have h298 := hI291.f tf43_43
  have h299 := hI291.a ta55 m.toNat
  have h300 : S286.a 55 m.toNat = S0.a 55 m.toNat := hF294.a rfl _
  have h301 := hI291.a ta55 m.toNat
  refine r_call (i := 77) (u := 11) (v := 215) (w := 0) (b := 0) (na := 1283) (C2 := xC215) (as := [(2, 43), vi m, vi 2]) (s := []) rfl rfl rfl rfl rfl rfl rfl (sp215 (m := m) (fr := 2) hI291 ⟨by omega, by omega⟩ ⟨by omega, by omega⟩ (by omega)  (by omega)) (fun r302 S303 hq304 => ?_)
  obtain ⟨rfl, h305, h306, mq307, hI308, hF309, hR310⟩ := hq304
  have hF311 := hF294.trans hF309 rfl rfl
  have hR312 := hR295.trans hR310 rfl
  have e313 := CRx.fr e296 hF309 rfl rfl
  have e314 := wLVx.fr e297 hF309 rfl rfl
  refine Or.inl ⟨rfl, ?_⟩
  refine r_load (i := 78) (u := 0) (w := 2) rfl rfl rfl ?_
  refine r_const (i := 79) (u := 183) (z := 183) rfl rfl ?_
  refine r_const (i := 80) (u := 1) (z := 1) rfl rfl ?_
  refine r_load (i := 81) (u := 0) (w := 2) rfl rfl rfl ?_
  refine r_load (i := 82) (u := 1) (w := 0) rfl rfl rfl ?_
  have h315 := hI308.a ta55 m.toNat
  have h316 : S303.a 55 m.toNat = S0.a 55 m.toNat := hF311.a rfl _
  refine r_call (i := 83) (u := 11) (v := 263) (w := 0) (b := 0) (na := 1026) (C2 := xC263) (as := [(2, 43), vi m]) (s := [vi 1, vi 183, (2, 43)]) rfl rfl rfl rfl rfl rfl rfl (sp263 (m := m) hI308 ⟨by omega, by omega⟩   (by omega)) (fun r317 S318 hq319 => ?_)
  obtain ⟨z320, rfl, h321, h322, wda323, rfl⟩ := hq319
  refine Or.inr (Or.inl ⟨rfl, ?_⟩)
  refine r_iadd (i := 84) rfl ?_
  refine r_const (i := 85) (u := 0) (z := 0) rfl rfl ?_
  have h324 := hI308.f tf43_43
  refine r_call (i := 86) (u := 11) (v := 250) (w := 0) (b := 0) (na := 1028) (C2 := xC250) (as := [(2, 43), vi 183, vi (1 + z320), vi 0]) (s := []) rfl rfl rfl rfl rfl rfl rfl (sp250 (b0 := 183) (off := 1 + z320) (on := 0) hI308 ⟨by omega, by omega⟩ ⟨by omega, by omega⟩ ⟨by omega, by omega⟩ (by omega)  (by omega)) (fun r325 S326 hq327 => ?_)
  obtain ⟨rfl, h328, h329, mq330, hI331, hF332, hR333⟩ := hq327
  have hF334 := hF311.trans hF332 rfl rfl
  have hR335 := hR312.trans hR333 rfl
  have e336 := CRx.fr e313 hF332 rfl rfl
  have e337 := wLVx.fr e314 hF332 rfl rfl
  refine Or.inl ⟨rfl, ?_⟩
  refine r_load (i := 87) (u := 0) (w := 2) rfl rfl rfl ?_
  refine r_load (i := 88) (u := 0) (w := 2) rfl rfl rfl ?_
  refine r_const (i := 89) (u := 10) (z := 10) rfl rfl ?_
  refine r_load (i := 90) (u := 0) (w := 2) rfl rfl rfl ?_
  refine r_load (i := 91) (u := 0) (w := 2) rfl rfl rfl ?_
  have h338 := hI331.f tf43_21
  have h339 : S326.f 43 21 = S0.f 43 21 := hF334.f rfl
  refine r_getf (i := 92) (v := 21) (w := 11) (x := vi (S326.f 43 21)) rfl ly43 rfl rfl fun h340 => ?_
  have h340 : Rg (S326.f 43 21) := h340
  have h341 := hI331.f tf43_51
  have h342 : S326.f 43 51 = S303.f 43 51 := hF332.f rfl
  have h343 : S303.f 43 51 = S286.f 43 51 := hF309.f rfl
  have h344 : S286.f 43 51 = S272.f 43 51 := hF292.f rfl
  have h345 : S272.f 43 51 = S252.f 43 51 := hF278.f rfl
  have h346 := wphi_nn hI331
  have h347 : wphi S326 = wphi S303 := wphiX.fr hF332 rfl rfl
  have h348 : wphi S303 = wphi S286 := wphiX.fr hF309 rfl rfl
  have h349 : wphi S286 = wphi S272 := wphiX.fr hF292 rfl rfl
  have h350 : wphi S272 = wphi S252 := wphiX.fr hF278 rfl rfl
  have h351 := wpsi_nn hI331
  have h352 : wpsi S326 = wpsi S303 := wpsiX.fr hF332 rfl rfl
  have h353 : wpsi S303 = wpsi S286 := wpsiX.fr hF309 rfl rfl
  have h354 : wpsi S286 = wpsi S272 := wpsiX.fr hF292 rfl rfl
  have h355 : wpsi S272 = wpsi S252 := wpsiX.fr hF278 rfl rfl
  refine r_call (i := 93) (u := 11) (v := 193) (w := 0) (b := 0) (na := 514) (C2 := xC193) (as := [(2, 43), vi (S326.f 43 21)]) (s := [vi 10, (2, 43), (2, 43)]) rfl rfl rfl rfl rfl rfl rfl (sp193 (t := S326.f 43 21) hI331 ⟨by omega, by omega⟩ (by omega) (by omega) (by omega) e337 (by omega)) (fun r356 S357 hq358 => ?_)
  obtain ⟨z359, rfl, h360, h361, h362, h363, h364, mi365, e366, hI367, hF368, hR369⟩ := hq358
  have hF370 := hF334.trans hF368 rfl rfl
  have hR371 := hR335.trans hR369 rfl
  have e372 := CRx.fr e336 hF368 rfl rfl
  refine Or.inr (Or.inl ⟨rfl, ?_⟩)
  refine r_load (i := 94) (u := 1) (w := 0) rfl rfl rfl ?_
  have h373 := hI367.f tf43_51
  have h374 := wphi_nn hI367
  have h375 := wpsi_nn hI367
  have h376 := hI367.a ta56 m.toNat
  have h377 : S357.a 56 m.toNat = S0.a 56 m.toNat := hF370.a rfl _
  have h378 := hI367.a ta53 m.toNat
  have h379 : S357.a 53 m.toNat = S0.a 53 m.toNat := hF370.a rfl _
  have h380 := hI367.a ta55 m.toNat
  have h381 : S357.a 55 m.toNat = S0.a 55 m.toNat := hF370.a rfl _
  have h382 := hI367.a ta56 m.toNat
  have h383 := hI367.a ta53 m.toNat
  have h384 := hI367.a ta55 m.toNat
  have h385 := hI367.a ta56 m.toNat
  refine r_call (i := 95) (u := 11) (v := 219) (w := 0) (b := 0) (na := 1540) (C2 := xC219) (as := [(2, 43), vi 10, vi z359, vi m]) (s := [(2, 43)]) rfl rfl rfl rfl rfl rfl rfl (sp219 (w0 := 10) (ow := z359) (m := m) hI367 ⟨by omega, by omega⟩ ⟨by omega, by omega⟩ ⟨by omega, by omega⟩ (by omega) (by omega) (by omega) e366 (by omega)) (fun r386 S387 hq388 => ?_)
  obtain ⟨z389, rfl, h390, h391, h392, h393, h394, h395, mm396, e397, hI398, hF399, hR400⟩ := hq388
  have hF401 := hF370.trans hF399 rfl rfl
  have hR402 := hR371.trans hR400 rfl
  have e403 := CRx.fr e372 hF399 rfl rfl
  refine Or.inr (Or.inl ⟨rfl, ?_⟩)
  have h404 := hI398.f tf43_43
  have h405 : S387.f 43 43 = S357.f 43 43 := hF399.f rfl
  have h406 : S357.f 43 43 = S326.f 43 43 := hF368.f rfl
  refine r_call (i := 96) (u := 11) (v := 257) (w := 0) (b := 0) (na := 514) (C2 := xC257) (as := [(2, 43), vi z389]) (s := []) rfl rfl rfl rfl rfl rfl rfl (sp257 (v := z389) hI398 ⟨by omega, by omega⟩ (by omega)  (by omega)) (fun r407 S408 hq409 => ?_)
  obtain ⟨rfl, h410, h411, mq412, hI413, hF414, hR415⟩ := hq409
  have hF416 := hF401.trans hF414 rfl rfl
  have hR417 := hR402.trans hR415 rfl
  have e418 := CRx.fr e403 hF414 rfl rfl
  have e419 := wLVx.fr e397 hF414 rfl rfl
  refine Or.inl ⟨rfl, ?_⟩
  refine r_load (i := 97) (u := 0) (w := 2) rfl rfl rfl ?_
  refine r_const (i := 98) (u := 177) (z := 177) rfl rfl ?_
  refine r_const (i := 99) (u := 0) (z := 0) rfl rfl ?_
  refine r_const (i := 100) (u := 0) (z := 0) rfl rfl ?_
  have h420 := hI413.f tf43_43
  refine r_call (i := 101) (u := 11) (v := 250) (w := 0) (b := 0) (na := 1028) (C2 := xC250) (as := [(2, 43), vi 177, vi 0, vi 0]) (s := []) rfl rfl rfl rfl rfl rfl rfl (sp250 (b0 := 177) (off := 0) (on := 0) hI413 ⟨by omega, by omega⟩ ⟨by omega, by omega⟩ ⟨by omega, by omega⟩ (by omega)  (by omega)) (fun r421 S422 hq423 => ?_)
  obtain ⟨rfl, h424, h425, mq426, hI427, hF428, hR429⟩ := hq423
  have hF430 := hF416.trans hF428 rfl rfl
  have hR431 := hR417.trans hR429 rfl
  have e432 := CRx.fr e418 hF428 rfl rfl
  have e433 := wLVx.fr e419 hF428 rfl rfl
  refine Or.inl ⟨rfl, ?_⟩
  refine r_load (i := 102) (u := 0) (w := 2) rfl rfl rfl ?_
  refine r_load (i := 103) (u := 2) (w := 0) rfl rfl rfl ?_
  refine r_const (i := 104) (u := 4294967295) (z := -1) rfl rfl ?_
  refine r_const (i := 105) (u := 0) (z := 0) rfl rfl ?_
  have h434 := hI427.f tf43_43
  have h435 := hI427.f tf43_51
  have h436 : S422.f 43 51 = S408.f 43 51 := hF428.f rfl
  have h437 : S408.f 43 51 = S387.f 43 51 := hF414.f rfl
  have h438 := wphi_nn hI427
  have h439 : wphi S422 = wphi S408 := wphiX.fr hF428 rfl rfl
  have h440 : wphi S408 = wphi S387 := wphiX.fr hF414 rfl rfl
  have h441 := wpsi_nn hI427
  have h442 : wpsi S422 = wpsi S408 := wpsiX.fr hF428 rfl rfl
  have h443 : wpsi S408 = wpsi S387 := wpsiX.fr hF414 rfl rfl
  refine r_call (i := 106) (u := 11) (v := 198) (w := 0) (b := 0) (na := 2052) (C2 := xC198) (as := [(2, 43), vi z158, vi (-1), vi 0]) (s := []) rfl rfl rfl rfl rfl rfl rfl (sp198 (bg := z158) (h := -1) (k := 0) hI427 ⟨by omega, by omega⟩ ⟨by omega, by omega⟩ ⟨by omega, by omega⟩ (by omega) (by omega) (by omega) (by omega) (by omega) e433 (by omega)) (fun r444 S445 hq446 => ?_)
  obtain ⟨rfl, h447, h448, h449, h450, h451, h452, mq453, e454, hI455, hF456, hR457⟩ := hq446
  have hF458 := hF430.trans hF456 rfl rfl
  have hR459 := hR431.trans hR457 rfl
  have e460 := CRx.fr e432 hF456 rfl rfl
  refine Or.inl ⟨rfl, ?_⟩
  have h461 := hI455.f tf43_43
  have h462 := hI455.f tf43_51
  have h463 := wphi_nn hI455
  have h464 := wpsi_nn hI455
  exact r_ret0 (i := 107) rfl ⟨rfl, (by omega), (by omega), (by omega), (by omega), (by omega), (by intro hm9 w9 hw0; have hwq := q_7 _ hw0; have h91 := mq12 _ hwq; obtain ⟨h92, e92⟩ := mi38 _ h91; have h93 := mq53 _ h92; obtain ⟨h94, e94⟩ := (mI_tx (by omega) (ds_c1 wds73 ((pkR_fr (b := 48) hF55 rfl).trans ((pkR_fr (b := 48) hF41 rfl).trans ((pkR_fr (b := 48) hF14 rfl).trans (pkR_fr (b := 48) hF rfl)))) ((hF55.a (b := 55) rfl _).trans ((hF41.a (b := 55) rfl _).trans ((hF14.a (b := 55) rfl _).trans (hF.a (b := 55) rfl _)))) ((hF55.a (b := 56) rfl _).trans ((hF41.a (b := 56) rfl _).trans ((hF14.a (b := 56) rfl _).trans (hF.a (b := 56) rfl _))))) (sPo_fr hF75 rfl rfl) mtx98 (sBo_tr (sBo_fr hF75 rfl rfl) (sBo_fr hF101 rfl rfl))) _ h93; have h95 := mq114 _ h94; subst e92; subst e94; have h96 := mq128 _ h95; have g96 := mco1 (q_6 hm9) rfl (mW_c h96 (congrArg (wby (tw 1)) (hd8_eq rfl ((hF14.a (b := 53) rfl _).trans (hF.a (b := 53) rfl _))))); have ln9 := mW_ln g96 (by omega); have h97 := mq167 _ g96; have h98 := mq181 _ h97; have h99 := mq195 _ h98; have g99 := mW_c h99 (co2_m (wdA_c (wda144 (vM_fr hF130 rfl (vM_fr hF116 rfl (vM_fr hF101 rfl (vM_fr hF75 rfl (vM_fr hF55 rfl (vM_fr hF41 rfl (vM_fr hF14 rfl (vM_fr hF rfl hm9.1))))))))) ((hF130.a (b := 55) rfl _).trans ((hF116.a (b := 55) rfl _).trans ((hF101.a (b := 55) rfl _).trans ((hF75.a (b := 55) rfl _).trans ((hF55.a (b := 55) rfl _).trans ((hF41.a (b := 55) rfl _).trans ((hF14.a (b := 55) rfl _).trans (hF.a (b := 55) rfl _)))))))))); have h81 := mq209 _ g99; obtain ⟨h82, e82⟩ := mi238 _ h81; obtain ⟨h83, e83⟩ := mm260 (by omega) (by omega) _ h82; have h84 := mq276 _ h83; have h85 := mq290 _ h84; have h86 := mq307 _ h85; subst e82; subst e83; rw [show S286.a 55 m.toNat = S0.a 55 m.toNat from ((hF292.a (b := 55) rfl _).trans ((hF278.a (b := 55) rfl _).trans ((hF263.a (b := 55) rfl _).trans ((hF241.a (b := 55) rfl _).trans ((hF211.a (b := 55) rfl _).trans ((hF197.a (b := 55) rfl _).trans ((hF183.a (b := 55) rfl _).trans ((hF170.a (b := 55) rfl _).trans ((hF130.a (b := 55) rfl _).trans ((hF116.a (b := 55) rfl _).trans ((hF101.a (b := 55) rfl _).trans ((hF75.a (b := 55) rfl _).trans ((hF55.a (b := 55) rfl _).trans ((hF41.a (b := 55) rfl _).trans ((hF14.a (b := 55) rfl _).trans (hF.a (b := 55) rfl _))))))))))))))))] at h86; have g86 := mW_c h86 (co3_m ((pxS_e (S := S0) (X := S205) ((hF211.f (b := 43) (w := 21) rfl).trans ((hF197.f (b := 43) (w := 21) rfl).trans ((hF183.f (b := 43) (w := 21) rfl).trans ((hF170.f (b := 43) (w := 21) rfl).trans ((hF130.f (b := 43) (w := 21) rfl).trans ((hF116.f (b := 43) (w := 21) rfl).trans ((hF101.f (b := 43) (w := 21) rfl).trans ((hF75.f (b := 43) (w := 21) rfl).trans ((hF55.f (b := 43) (w := 21) rfl).trans ((hF41.f (b := 43) (w := 21) rfl).trans ((hF14.f (b := 43) (w := 21) rfl).trans (hF.f (b := 43) (w := 21) rfl)))))))))))) (fun j => ((hF211.a (b := 48) rfl _).trans ((hF197.a (b := 48) rfl _).trans ((hF183.a (b := 48) rfl _).trans ((hF170.a (b := 48) rfl _).trans ((hF130.a (b := 48) rfl _).trans ((hF116.a (b := 48) rfl _).trans ((hF101.a (b := 48) rfl _).trans ((hF75.a (b := 48) rfl _).trans ((hF55.a (b := 48) rfl _).trans ((hF41.a (b := 48) rfl _).trans ((hF14.a (b := 48) rfl _).trans (hF.a (b := 48) rfl _)))))))))))))).trans hw0.2.2.2.2.symm)); have h87 := mq330 _ g86; obtain ⟨h88, e88⟩ := mi365 _ h87; obtain ⟨h89, e89⟩ := mm396 (by omega) (by omega) _ h88; have h71 := mq412 _ h89; subst e88; subst e89; have g71 := mW_c h71 (co4_m ((pkR_fr (b := 48) hF332 rfl).trans ((pkR_fr (b := 48) hF309 rfl).trans ((pkR_fr (b := 48) hF292 rfl).trans ((pkR_fr (b := 48) hF278 rfl).trans ((pkR_fr (b := 48) hF263 rfl).trans ((pkR_fr (b := 48) hF241 rfl).trans ((pkR_fr (b := 48) hF211 rfl).trans ((pkR_fr (b := 48) hF197 rfl).trans ((pkR_fr (b := 48) hF183 rfl).trans ((pkR_fr (b := 48) hF170 rfl).trans ((pkR_fr (b := 48) hF130 rfl).trans ((pkR_fr (b := 48) hF116 rfl).trans ((pkR_fr (b := 48) hF101 rfl).trans ((pkR_fr (b := 48) hF75 rfl).trans ((pkR_fr (b := 48) hF55 rfl).trans ((pkR_fr (b := 48) hF41 rfl).trans ((pkR_fr (b := 48) hF14 rfl).trans (pkR_fr (b := 48) hF rfl)))))))))))))))))) ((pkR_fr (b := 48) hF368 rfl).trans ((pkR_fr (b := 48) hF332 rfl).trans ((pkR_fr (b := 48) hF309 rfl).trans ((pkR_fr (b := 48) hF292 rfl).trans ((pkR_fr (b := 48) hF278 rfl).trans ((pkR_fr (b := 48) hF263 rfl).trans ((pkR_fr (b := 48) hF241 rfl).trans ((pkR_fr (b := 48) hF211 rfl).trans ((pkR_fr (b := 48) hF197 rfl).trans ((pkR_fr (b := 48) hF183 rfl).trans ((pkR_fr (b := 48) hF170 rfl).trans ((pkR_fr (b := 48) hF130 rfl).trans ((pkR_fr (b := 48) hF116 rfl).trans ((pkR_fr (b := 48) hF101 rfl).trans ((pkR_fr (b := 48) hF75 rfl).trans ((pkR_fr (b := 48) hF55 rfl).trans ((pkR_fr (b := 48) hF41 rfl).trans ((pkR_fr (b := 48) hF14 rfl).trans (pkR_fr (b := 48) hF rfl))))))))))))))))))) ((hF332.f (b := 43) (w := 21) rfl).trans ((hF309.f (b := 43) (w := 21) rfl).trans ((hF292.f (b := 43) (w := 21) rfl).trans ((hF278.f (b := 43) (w := 21) rfl).trans ((hF263.f (b := 43) (w := 21) rfl).trans ((hF241.f (b := 43) (w := 21) rfl).trans ((hF211.f (b := 43) (w := 21) rfl).trans ((hF197.f (b := 43) (w := 21) rfl).trans ((hF183.f (b := 43) (w := 21) rfl).trans ((hF170.f (b := 43) (w := 21) rfl).trans ((hF130.f (b := 43) (w := 21) rfl).trans ((hF116.f (b := 43) (w := 21) rfl).trans ((hF101.f (b := 43) (w := 21) rfl).trans ((hF75.f (b := 43) (w := 21) rfl).trans ((hF55.f (b := 43) (w := 21) rfl).trans ((hF41.f (b := 43) (w := 21) rfl).trans ((hF14.f (b := 43) (w := 21) rfl).trans (hF.f (b := 43) (w := 21) rfl)))))))))))))))))) ((hF368.a (b := 53) rfl _).trans ((hF332.a (b := 53) rfl _).trans ((hF309.a (b := 53) rfl _).trans ((hF292.a (b := 53) rfl _).trans ((hF278.a (b := 53) rfl _).trans ((hF263.a (b := 53) rfl _).trans ((hF241.a (b := 53) rfl _).trans ((hF211.a (b := 53) rfl _).trans ((hF197.a (b := 53) rfl _).trans ((hF183.a (b := 53) rfl _).trans ((hF170.a (b := 53) rfl _).trans ((hF130.a (b := 53) rfl _).trans ((hF116.a (b := 53) rfl _).trans ((hF101.a (b := 53) rfl _).trans ((hF75.a (b := 53) rfl _).trans ((hF55.a (b := 53) rfl _).trans ((hF41.a (b := 53) rfl _).trans ((hF14.a (b := 53) rfl _).trans (hF.a (b := 53) rfl _))))))))))))))))))) ((hF368.a (b := 55) rfl _).trans ((hF332.a (b := 55) rfl _).trans ((hF309.a (b := 55) rfl _).trans ((hF292.a (b := 55) rfl _).trans ((hF278.a (b := 55) rfl _).trans ((hF263.a (b := 55) rfl _).trans ((hF241.a (b := 55) rfl _).trans ((hF211.a (b := 55) rfl _).trans ((hF197.a (b := 55) rfl _).trans ((hF183.a (b := 55) rfl _).trans ((hF170.a (b := 55) rfl _).trans ((hF130.a (b := 55) rfl _).trans ((hF116.a (b := 55) rfl _).trans ((hF101.a (b := 55) rfl _).trans ((hF75.a (b := 55) rfl _).trans ((hF55.a (b := 55) rfl _).trans ((hF41.a (b := 55) rfl _).trans ((hF14.a (b := 55) rfl _).trans (hF.a (b := 55) rfl _))))))))))))))))))) (((hF368.a (b := 56) rfl _).trans ((hF332.a (b := 56) rfl _).trans ((hF309.a (b := 56) rfl _).trans ((hF292.a (b := 56) rfl _).trans ((hF278.a (b := 56) rfl _).trans ((hF263.a (b := 56) rfl _).trans ((hF241.a (b := 56) rfl _).trans ((hF211.a (b := 56) rfl _).trans ((hF197.a (b := 56) rfl _).trans ((hF183.a (b := 56) rfl _).trans ((hF170.a (b := 56) rfl _).trans ((hF130.a (b := 56) rfl _).trans ((hF116.a (b := 56) rfl _).trans ((hF101.a (b := 56) rfl _).trans ((hF75.a (b := 56) rfl _).trans ((hF55.a (b := 56) rfl _).trans ((hF41.a (b := 56) rfl _).trans ((hF14.a (b := 56) rfl _).trans (hF.a (b := 56) rfl _))))))))))))))))))).trans ((hm9.1 m.toNat).2.2 p_4)) (wdA_c (wda323 (vM_fr hF309 rfl (vM_fr hF292 rfl (vM_fr hF278 rfl (vM_fr hF263 rfl (vM_fr hF241 rfl (vM_fr hF211 rfl (vM_fr hF197 rfl (vM_fr hF183 rfl (vM_fr hF170 rfl (vM_fr hF130 rfl (vM_fr hF116 rfl (vM_fr hF101 rfl (vM_fr hF75 rfl (vM_fr hF55 rfl (vM_fr hF41 rfl (vM_fr hF14 rfl (vM_fr hF rfl hm9.1)))))))))))))))))) ((hF309.a (b := 55) rfl _).trans ((hF292.a (b := 55) rfl _).trans ((hF278.a (b := 55) rfl _).trans ((hF263.a (b := 55) rfl _).trans ((hF241.a (b := 55) rfl _).trans ((hF211.a (b := 55) rfl _).trans ((hF197.a (b := 55) rfl _).trans ((hF183.a (b := 55) rfl _).trans ((hF170.a (b := 55) rfl _).trans ((hF130.a (b := 55) rfl _).trans ((hF116.a (b := 55) rfl _).trans ((hF101.a (b := 55) rfl _).trans ((hF75.a (b := 55) rfl _).trans ((hF55.a (b := 55) rfl _).trans ((hF41.a (b := 55) rfl _).trans ((hF14.a (b := 55) rfl _).trans (hF.a (b := 55) rfl _))))))))))))))))))); have h72 := mq426 _ g71; have h73 := mq453 _ h72; exact mW_c h73 ((show enW _ _ _ (-1) _ _ = enW (pkR 48 S0) (tmM S0 0) _ (-1) 0 _ from enW_i).trans (wco_m (by omega)))), e454, e460, hI455, hF458, hR459⟩
set_option maxHeartbeats 4000000 in
/-- ProxyForgeModel.writeConstructor -/
theorem sp264 {G : xk} {S : yS} {d : Nat} (hI : yI S) {m : Int} (h_m : 0 ≤ m ∧ m ≤ 59) (p_0 : S.f 43 43 ≤ 23000) (p_1 : S.f 43 51 = 0) (p_2 : wphi S ≤ 19000) (p_3 : wpsi S ≤ 1000) (p_4 : S.a 53 m.toNat = 10) (e_wLV : wLV S) (e_CR : CR S) (hd : 9 ≤ d) : yT xPr G LY xC264 0 [some ((2, 43)), some (vi m)] [] S d (fun r S' => r = (0, (0, 0)) ∧ S.f 43 43 ≤ S'.f 43 43 ∧ S'.f 43 43 ≤ S.f 43 43 + 44 ∧ S'.f 43 51 = 0 ∧ wphi S' ≤ wphi S + 269 ∧ wpsi S' ≤ wpsi S + 6 ∧ (hM S → mQ S S' (mC S m)) ∧ wLV S' ∧ CR S' ∧ yI S' ∧ yFr [(43, 43), (43, 49), (43, 50), (43, 51), (43, 52), (43, 53)] [72, 73, 74, 75, 76, 77] S S' ∧ yRm [] S S') := by
  refine yT_pad 1 ?_
  show yT xPr G LY xC264 0 [some ((2, 43)), some (vi m), none] [] S d _
  obtain ⟨d, rfl⟩ : ∃ q, d = q + 1 := ⟨d - 1, by omega⟩
  have hF : yFr [(43, 43), (43, 49), (43, 50), (43, 51), (43, 52), (43, 53)] [72, 73, 74, 75, 76, 77] S S := yFr.refl S
  have hR : yRm [] S S := yRm.refl S
  have h1 := hI.f tf43_43
  have h2 := hI.f tf43_51
  have h3 := wphi_nn hI
  have h4 := wpsi_nn hI
  have h5 := hI.a ta53 m.toNat
  have cr9 := e_CR m.toNat p_4
  refine r_load (i := 0) (u := 0) (w := 2) rfl rfl rfl ?_
  refine r_load (i := 1) (u := 0) (w := 2) rfl rfl rfl ?_
  refine r_getf (i := 2) (v := 13) (w := 11) (x := (2, 54)) rfl ly43 rfl rfl fun _ => ?_
  refine r_load (i := 3) (u := 1) (w := 0) rfl rfl rfl ?_
  refine a_int (i := 4) rfl ly54 rfl (by omega) (by omega) fun h7 => ?_
  have h8 := hI.a ta54 m.toNat
  refine r_const (i := 5) (u := 1) (z := 1) rfl rfl ?_
  refine r_iand (i := 6) rfl ?_
  have h9 := @yand_c (S.a 54 m.toNat) 1 (by decide) (by decide)
  refine z_le (i := 7) (v := 10) rfl ⟨by omega, by omega⟩ (fun h10 => ?_) (fun h11 => ?_)
  · refine r_load (i := 10) (u := 0) (w := 2) rfl rfl rfl ?_
    refine r_getf (i := 11) (v := 13) (w := 11) (x := (2, 54)) rfl ly43 rfl rfl fun _ => ?_
    refine r_load (i := 12) (u := 1) (w := 0) rfl rfl rfl ?_
    refine a_int (i := 13) rfl ly54 rfl (by omega) (by omega) fun h13 => ?_
    have h14 := hI.a ta54 m.toNat
    refine r_const (i := 14) (u := 2) (z := 2) rfl rfl ?_
    refine r_iand (i := 15) rfl ?_
    have h15 := @yand_c (S.a 54 m.toNat) 2 (by decide) (by decide)
    refine z_le (i := 16) (v := 19) rfl ⟨by omega, by omega⟩ (fun h16 => ?_) (fun h17 => ?_)
    · refine r_const (i := 19) (u := 0) (z := 0) rfl rfl ?_
      have h18 := hI.a ta56 m.toNat
      exact lp264_20 h_m p_0 p_1 p_2 p_3 p_4 hd S hI hF hR e_wLV e_CR 0 ⟨by omega, by omega⟩ (by omega) (by omega) (by omega) (by omega) (by omega) (by omega) (by intro hm9; exact acm ((hm9.1 m.toNat).2.1) (by omega)) (by exact fun w9 hw0 => hw0) 
    · refine r_const (i := 17) (u := 4) (z := 4) rfl rfl ?_
      refine r_goto (i := 18) (v := 20) rfl ?_
      have h19 := hI.a ta56 m.toNat
      exact lp264_20 h_m p_0 p_1 p_2 p_3 p_4 hd S hI hF hR e_wLV e_CR 4 ⟨by omega, by omega⟩ (by omega) (by omega) (by omega) (by omega) (by omega) (by omega) (by intro hm9; exact acm ((hm9.1 m.toNat).2.1) (by omega)) (by exact fun w9 hw0 => hw0) 
  · refine r_const (i := 8) (u := 1) (z := 1) rfl rfl ?_
    refine r_goto (i := 9) (v := 20) rfl ?_
    have h20 := hI.a ta56 m.toNat
    exact lp264_20 h_m p_0 p_1 p_2 p_3 p_4 hd S hI hF hR e_wLV e_CR 1 ⟨by omega, by omega⟩ (by omega) (by omega) (by omega) (by omega) (by omega) (by omega) (by intro hm9; exact acm ((hm9.1 m.toNat).2.1) (by omega)) (by exact fun w9 hw0 => hw0) 
/-- ProxyForgeModel.out -/
theorem sp226 {G : xk} {S : yS} {d : Nat} (hI : yI S) {v : Int} (h_v : -2147483648 ≤ v ∧ v ≤ 2147483647) (p_0 : S.f 43 42 ≤ 23499) (hd : 0 ≤ d) : yT xPr G LY xC226 0 [some ((2, 43)), some (vi v)] [] S d (fun r S' => r = (0, (0, 0)) ∧ S'.f 43 42 = S.f 43 42 + 1 ∧ bl S' 71 (S'.f 43 42) = bl S 71 (S.f 43 42) ++ [v % 256] ∧ yI S' ∧ yFr [(43, 42)] [71] S S' ∧ yRm [] S S') := by
  refine yT_pad 0 ?_
  show yT xPr G LY xC226 0 [some ((2, 43)), some (vi v)] [] S d _
  have hF : yFr [(43, 42)] [71] S S := yFr.refl S
  have hR : yRm [] S S := yRm.refl S
  have h1 := hI.f tf43_42
  refine r_load (i := 0) (u := 0) (w := 2) rfl rfl rfl ?_
  refine r_getf (i := 1) (v := 40) (w := 11) (x := (2, 71)) rfl ly43 rfl rfl fun _ => ?_
  refine r_load (i := 2) (u := 0) (w := 2) rfl rfl rfl ?_
  refine r_getf (i := 3) (v := 42) (w := 11) (x := vi (S.f 43 42)) rfl ly43 rfl rfl fun h3 => ?_
  have h3 : Rg (S.f 43 42) := h3
  refine r_load (i := 4) (u := 1) (w := 0) rfl rfl rfl ?_
  refine r_const (i := 5) (u := 255) (z := 255) rfl rfl ?_
  refine r_iand (i := 6) rfl ?_
  have h4 := @yand_c v 255 (by decide) (by decide)
  have h5 := yand_255 v
  refine s_int (i := 7) rfl ly71 rfl (by omega) (by omega) ⟨by omega, by omega⟩ ?_
  have hI7 := hI.seta (b := 71) (j := (S.f 43 42).toNat) (z := yand v 255) ta71 rfl (by omega) (by omega)
  have hF9 := hF.seta (b := 71) (j := (S.f 43 42).toNat) (z := yand v 255) rfl
  have hR10 := hR.seta (b := 71) (j := (S.f 43 42).toNat) (z := yand v 255)
  refine yT_gen (fun S6 hS8 => ?_)
  rw [hS8] at hI7 hF9 hR10 
  refine r_load (i := 8) (u := 0) (w := 2) rfl rfl rfl ?_
  refine r_dup (i := 9) rfl rfl ?_
  have h11 := hI7.f tf43_42
  have h12 : S6.f 43 42 = S.f 43 42 := by rw [← hS8]; rfl
  refine r_getf (i := 10) (v := 42) (w := 11) (x := vi (S6.f 43 42)) rfl ly43 rfl rfl fun h13 => ?_
  have h13 : Rg (S6.f 43 42) := h13
  refine r_const (i := 11) (u := 1) (z := 1) rfl rfl ?_
  refine r_iadd (i := 12) rfl ?_
  refine r_putI (i := 13) (v := 42) (w := 11) rfl ly43 rfl ⟨by omega, by omega⟩ ?_
  have hI15 := hI7.setf (b := 43) (w := 42) (z := (S6.f 43 42) + 1) tf43_42 rfl (by omega) (by omega)
  have hF17 := hF9.setf (b := 43) (w := 42) (z := (S6.f 43 42) + 1) rfl
  have hR18 := hR10.setf (b := 43) (w := 42) (z := (S6.f 43 42) + 1)
  refine yT_gen (fun S14 hS16 => ?_)
  rw [hS16] at hI15 hF17 hR18 
  have h19 := hI15.f tf43_42
  have h20 : S14.f 43 42 = (S6.f 43 42) + 1 := by rw [← hS16]; exact ysf_eq
  exact r_ret0 (i := 14) rfl ⟨rfl, (by omega), (by exact ob_1 (hI.f tf43_42).1 (by omega) (fun j => by subst hS8 hS16; rfl)), hI15, hF17, hR18⟩
/-- ProxyForgeModel.outTwo -/
theorem sp227 {G : xk} {S : yS} {d : Nat} (hI : yI S) {v : Int} (h_v : 0 ≤ v ∧ v ≤ 2147483647) (p_0 : S.f 43 42 ≤ 23498) (hd : 1 ≤ d) : yT xPr G LY xC227 0 [some ((2, 43)), some (vi v)] [] S d (fun r S' => r = (0, (0, 0)) ∧ S'.f 43 42 = S.f 43 42 + 2 ∧ bl S' 71 (S'.f 43 42) = bl S 71 (S.f 43 42) ++ tw v ∧ yI S' ∧ yFr [(43, 42)] [71] S S' ∧ yRm [] S S') := by
  refine yT_pad 0 ?_
  show yT xPr G LY xC227 0 [some ((2, 43)), some (vi v)] [] S d _
  obtain ⟨d, rfl⟩ : ∃ q, d = q + 1 := ⟨d - 1, by omega⟩
  have hF : yFr [(43, 42)] [71] S S := yFr.refl S
  have hR : yRm [] S S := yRm.refl S
  have h1 := hI.f tf43_42
  refine r_load (i := 0) (u := 0) (w := 2) rfl rfl rfl ?_
  refine r_load (i := 1) (u := 1) (w := 0) rfl rfl rfl ?_
  refine r_const (i := 2) (u := 8) (z := 8) rfl rfl ?_
  refine r_ishr (i := 3) rfl (by omega) (by omega) (by omega) (by omega) ?_
  have h2 := @yshr_c v 8 (by omega) (by omega)
  refine r_call (i := 4) (u := 11) (v := 226) (w := 0) (b := 0) (na := 514) (C2 := xC226) (as := [(2, 43), vi (yshr v 8)]) (s := []) rfl rfl rfl rfl rfl rfl rfl (sp226 (v := yshr v 8) hI ⟨by omega, by omega⟩ (by omega)  (by omega)) (fun r3 S4 hq5 => ?_)
  obtain ⟨rfl, h6, ob7, hI8, hF9, hR10⟩ := hq5
  have hF11 := hF.trans hF9 rfl rfl
  have hR12 := hR.trans hR10 rfl
  refine Or.inl ⟨rfl, ?_⟩
  refine r_load (i := 5) (u := 0) (w := 2) rfl rfl rfl ?_
  refine r_load (i := 6) (u := 1) (w := 0) rfl rfl rfl ?_
  have h13 := hI8.f tf43_42
  refine r_call (i := 7) (u := 11) (v := 226) (w := 0) (b := 0) (na := 514) (C2 := xC226) (as := [(2, 43), vi v]) (s := []) rfl rfl rfl rfl rfl rfl rfl (sp226 (v := v) hI8 ⟨by omega, by omega⟩ (by omega)  (by omega)) (fun r14 S15 hq16 => ?_)
  obtain ⟨rfl, h17, ob18, hI19, hF20, hR21⟩ := hq16
  have hF22 := hF11.trans hF20 rfl rfl
  have hR23 := hR12.trans hR21 rfl
  refine Or.inl ⟨rfl, ?_⟩
  have h24 := hI19.f tf43_42
  exact r_ret0 (i := 8) rfl ⟨rfl, (by omega), (by exact ob_2 ob7 ob18), hI19, hF22, hR23⟩
set_option maxHeartbeats 4000000 in
theorem lp265_204 {G : xk} {d : Nat} {S0 : yS}  (hd : 11 ≤ d + 1) {e : Int} (h_e : 1 ≤ e ∧ e ≤ 1199) (no : Nat) (K : ∀ (S : yS) (hI : yI S) (hF : yFr [(43, 42), (43, 43), (43, 49), (43, 50), (43, 51), (43, 52), (43, 53)] [68, 71, 72, 73, 74, 75, 76, 77] S0 S) (hR : yRm [] S0 S) (e_wAS : wAS S) (e_wSD : wSD S) (e_CR : CR S) (e : Int) (h_e : 1 ≤ e ∧ e ≤ 1200) (q_0 : S.f 43 42 = 10 + web S e) (q_1 : e ≤ S.f 43 49 + 1) (q_2 : wphi S + S.f 43 43 ≤ 23300) (q_3 : hM S0 → oE S0 S e) (hn : 1200 - e < (no : Nat)), yT xPr G LY xC265 180 [some ((2, 43)), none, some (vi e), none] [] S (d + 1) (fun r S' => r = (0, (0, 0)) ∧ (hM S0 → fiQ S0 S') ∧ wAS S' ∧ wSD S' ∧ CR S' ∧ yI S' ∧ yFr [(43, 42), (43, 43), (43, 49), (43, 50), (43, 51), (43, 52), (43, 53)] [68, 71, 72, 73, 74, 75, 76, 77] S0 S' ∧ yRm [] S0 S')) (hm : 1200 - e < ((no + 1 : Nat) : Int)) : ∀ (n : Nat), ∀ (S : yS) (hI : yI S) (hF : yFr [(43, 42), (43, 43), (43, 49), (43, 50), (43, 51), (43, 52), (43, 53)] [68, 71, 72, 73, 74, 75, 76, 77] S0 S) (hR : yRm [] S0 S) (e_wAS : wAS S) (e_wSD : wSD S) (e_CR : CR S) (q : Int) (h_q : 0 ≤ q ∧ q ≤ 1200) (q_0 : S.f 43 42 = 13 + web S e + q) (q_1 : e ≤ S.f 43 49) (q_2 : wphi S + S.f 43 43 ≤ 23300) (q_3 : q ≤ S.a 75 e.toNat) (q_4 : web S (e + 1) = web S e + 3 + S.a 75 e.toNat) (q_5 : web S (e + 1) ≤ wphi S) (q_6 : hM S0 → oL S0 S e q) (q_7 : S.a 73 e.toNat = 1) (hn : 1200 - q < (n : Nat)), yT xPr G LY xC265 204 [some ((2, 43)), none, some (vi e), some (vi q)] [] S (d + 1) (fun r S' => r = (0, (0, 0)) ∧ (hM S0 → fiQ S0 S') ∧ wAS S' ∧ wSD S' ∧ CR S' ∧ yI S' ∧ yFr [(43, 42), (43, 43), (43, 49), (43, 50), (43, 51), (43, 52), (43, 53)] [68, 71, 72, 73, 74, 75, 76, 77] S0 S' ∧ yRm [] S0 S') := by
  intro n
  induction n with
  | zero => intro S hI hF hR e_wAS e_wSD e_CR q h_q q_0 q_1 q_2 q_3 q_4 q_5 q_6 q_7 hn; exact absurd hn (by omega)
  | succ n ih =>
    intro S hI hF hR e_wAS e_wSD e_CR q h_q q_0 q_1 q_2 q_3 q_4 q_5 q_6 q_7 hn
    have h1 := hI.f tf43_42
    have h2 := web_1 (S := S)
    have h3 := hI.f tf43_49
    have h4 := hI.f tf43_43
    have h5 := wphi_nn hI
    have h6 := hI.a ta75 e.toNat
    have h7 := hI.a ta75 e.toNat
    have h8 := hI.a ta73 e.toNat
    refine r_load (i := 204) (u := 3) (w := 0) rfl rfl rfl ?_
    refine r_load (i := 205) (u := 0) (w := 2) rfl rfl rfl ?_
    refine r_getf (i := 206) (v := 46) (w := 11) (x := (2, 75)) rfl ly43 rfl rfl fun _ => ?_
    refine r_load (i := 207) (u := 2) (w := 0) rfl rfl rfl ?_
    refine a_int (i := 208) rfl ly75 rfl (by omega) (by omega) fun h10 => ?_
    have h11 := hI.a ta75 e.toNat
    refine c_ge (i := 209) (v := 223) rfl ⟨by omega, by omega⟩ ⟨by omega, by omega⟩ (fun h12 => ?_) (fun h13 => ?_)
    · refine r_goto (i := 223) (v := 242) rfl ?_
      refine r_iinc (i := 242) (u := 1) (v := 2) (s := 1) (L1 := [some ((2, 43)), none, some (vi (e + 1)), some (vi q)]) rfl rfl rfl rfl rfl ?_
      refine r_goto (i := 243) (v := 180) rfl ?_
      refine yT_drop (L1 := [some ((2, 43)), none, some (vi (e + 1)), none]) rfl ?_
      exact K S hI hF hR e_wAS e_wSD e_CR (e + 1) ⟨by omega, by omega⟩ (by omega) (by omega) (by omega) (by intro hm9; exact oL_e (q_6 hm9) (by omega) (by omega) q_7 (by omega) (by omega)) (by omega)
    · refine r_load (i := 210) (u := 0) (w := 2) rfl rfl rfl ?_
      refine r_load (i := 211) (u := 0) (w := 2) rfl rfl rfl ?_
      refine r_getf (i := 212) (v := 47) (w := 11) (x := (2, 76)) rfl ly43 rfl rfl fun _ => ?_
      refine r_load (i := 213) (u := 0) (w := 2) rfl rfl rfl ?_
      refine r_getf (i := 214) (v := 45) (w := 11) (x := (2, 74)) rfl ly43 rfl rfl fun _ => ?_
      refine r_load (i := 215) (u := 2) (w := 0) rfl rfl rfl ?_
      refine a_int (i := 216) rfl ly74 rfl (by omega) (by omega) fun h16 => ?_
      have h17 := hI.a ta74 e.toNat
      refine r_load (i := 217) (u := 3) (w := 0) rfl rfl rfl ?_
      refine r_iadd (i := 218) rfl ?_
      refine a_int (i := 219) rfl ly76 rfl (by omega) (by omega) fun h18 => ?_
      have h19 := hI.a ta76 ((S.a 74 e.toNat) + q).toNat
      refine r_call (i := 220) (u := 11) (v := 226) (w := 0) (b := 0) (na := 514) (C2 := xC226) (as := [(2, 43), vi (S.a 76 ((S.a 74 e.toNat) + q).toNat)]) (s := []) rfl rfl rfl rfl rfl rfl rfl (sp226 (v := S.a 76 ((S.a 74 e.toNat) + q).toNat) hI ⟨by omega, by omega⟩ (by omega)  (by omega)) (fun r20 S21 hq22 => ?_)
      obtain ⟨rfl, h23, ob24, hI25, hF26, hR27⟩ := hq22
      have hF28 := hF.trans hF26 rfl rfl
      have hR29 := hR.trans hR27 rfl
      have e30 := wASx.fr e_wAS hF26 rfl rfl
      have e31 := wSDx.fr e_wSD hF26 rfl rfl
      have e32 := CRx.fr e_CR hF26 rfl rfl
      refine Or.inl ⟨rfl, ?_⟩
      refine r_iinc (i := 221) (u := 1) (v := 3) (s := 1) (L1 := [some ((2, 43)), none, some (vi e), some (vi (q + 1))]) rfl rfl rfl rfl rfl ?_
      refine r_goto (i := 222) (v := 204) rfl ?_
      have h33 := hI25.f tf43_42
      have h34 := web_1 (S := S21)
      have h35 : web S21 = web S := webX.fr hF26 rfl rfl
      have h36 : web S21 e = web S e := congrFun h35 _
      have h37 : web S21 (e + 1) = web S (e + 1) := congrFun h35 _
      have h38 := hI25.f tf43_49
      have h39 : S21.f 43 49 = S.f 43 49 := hF26.f rfl
      have h40 := hI25.f tf43_43
      have h41 : S21.f 43 43 = S.f 43 43 := hF26.f rfl
      have h42 := wphi_nn hI25
      have h43 : wphi S21 = wphi S := wphiX.fr hF26 rfl rfl
      have h44 := hI25.a ta75 e.toNat
      have h45 : S21.a 75 e.toNat = S.a 75 e.toNat := hF26.a rfl _
      have h46 := hI25.a ta75 e.toNat
      have h47 := hI25.a ta73 e.toNat
      have h48 : S21.a 73 e.toNat = S.a 73 e.toNat := hF26.a rfl _
      exact ih S21 hI25 hF28 hR29 e30 e31 e32 (q + 1) ⟨by omega, by omega⟩ (by omega) (by omega) (by omega) (by omega) (by omega) (by omega) (by intro hm9; exact oL_s (q_6 hm9) (by omega) (hI.a ta74 _).1 rfl (hI.a ta76 _).1 (hI.a ta76 _).2 ob24 (sPo_fr hF26 rfl rfl) (sBo_fr hF26 rfl rfl)) (by omega) (by omega)
set_option maxHeartbeats 4000000 in
theorem lp265_96 {G : xk} {d : Nat} {S0 : yS}  (hd : 11 ≤ d + 1) {cn : Int} (h_cn : 0 ≤ cn ∧ cn ≤ 59) {m : Int} (h_m : 0 ≤ m ∧ m ≤ 59) (no : Nat) (K : ∀ (S : yS) (hI : yI S) (hF : yFr [(43, 42), (43, 43), (43, 49), (43, 50), (43, 51), (43, 52), (43, 53)] [68, 71, 72, 73, 74, 75, 76, 77] S0 S) (hR : yRm [] S0 S) (e_wLV : wLV S) (e_wAS : wAS S) (e_wSD : wSD S) (e_CR : CR S) (cn m : Int) (h_cn : 0 ≤ cn ∧ cn ≤ 60) (h_m : 0 ≤ m ∧ m ≤ 60) (q_0 : S.f 43 43 ≤ 24) (q_1 : S.f 43 51 = 0) (q_2 : wphi S ≤ 1000) (q_3 : wpsi S ≤ 130) (q_4 : cn ≤ m) (q_5 : mE S0 S (fun w => bg2 (bgm S0 (S0.f 43 22) w))) (q_6 : cn = occ (oMn S0) m.toNat) (q_7 : m ≤ S.f 43 10) (hn : 60 - m < (no : Nat)), yT xPr G LY xC265 68 [some ((2, 43)), some (vi cn), some (vi m), none] [] S (d + 1) (fun r S' => r = (0, (0, 0)) ∧ (hM S0 → fiQ S0 S') ∧ wAS S' ∧ wSD S' ∧ CR S' ∧ yI S' ∧ yFr [(43, 42), (43, 43), (43, 49), (43, 50), (43, 51), (43, 52), (43, 53)] [68, 71, 72, 73, 74, 75, 76, 77] S0 S' ∧ yRm [] S0 S')) (hm : 60 - m < ((no + 1 : Nat) : Int)) : ∀ (S : yS) (hI : yI S) (hF : yFr [(43, 42), (43, 43), (43, 49), (43, 50), (43, 51), (43, 52), (43, 53)] [68, 71, 72, 73, 74, 75, 76, 77] S0 S) (hR : yRm [] S0 S) (e_wLV : wLV S) (e_wAS : wAS S) (e_wSD : wSD S) (e_CR : CR S) (cn2 c0 : Int) (h_cn2 : 0 ≤ cn2 ∧ cn2 ≤ 59) (h_c0 : 0 ≤ c0 ∧ c0 ≤ 1) (q_0 : S.f 43 43 ≤ 24) (q_1 : S.f 43 51 = 0) (q_2 : wphi S ≤ 1000) (q_3 : wpsi S ≤ 130) (q_4 : cn2 ≤ m) (q_5 : m < S.f 43 10) (q_6 : mE S0 S (fun w => bg2 (bgm S0 (S0.f 43 22) w))) (q_7 : cn2 = occ (oMn S0) m.toNat) (q_8 : c0 = cif (oMn S0 m) 1 0), yT xPr G LY xC265 96 [some ((2, 43)), some (vi cn), some (vi m), none] [vi c0, vi cn2] S (d + 1) (fun r S' => r = (0, (0, 0)) ∧ (hM S0 → fiQ S0 S') ∧ wAS S' ∧ wSD S' ∧ CR S' ∧ yI S' ∧ yFr [(43, 42), (43, 43), (43, 49), (43, 50), (43, 51), (43, 52), (43, 53)] [68, 71, 72, 73, 74, 75, 76, 77] S0 S' ∧ yRm [] S0 S') := by
  intro S hI hF hR e_wLV e_wAS e_wSD e_CR cn2 c0 h_cn2 h_c0 q_0 q_1 q_2 q_3 q_4 q_5 q_6 q_7 q_8
  have h1 := hI.f tf43_43
  have h2 := hI.f tf43_51
  have h3 := wphi_nn hI
  have h4 := wpsi_nn hI
  have h5 := hI.f tf43_10
  have h6 : S.f 43 10 = S0.f 43 10 := hF.f rfl
  refine r_iadd (i := 96) rfl ?_
  refine r_store (i := 97) (u := 1) (w := 0) (L1 := [some ((2, 43)), some (vi (cn2 + c0)), some (vi m), none]) rfl rfl rfl rfl ?_
  refine r_iinc (i := 98) (u := 1) (v := 2) (s := 1) (L1 := [some ((2, 43)), some (vi (cn2 + c0)), some (vi (m + 1)), none]) rfl rfl rfl rfl rfl ?_
  refine r_goto (i := 99) (v := 68) rfl ?_
  exact K S hI hF hR e_wLV e_wAS e_wSD e_CR (cn2 + c0) (m + 1) ⟨by omega, by omega⟩ ⟨by omega, by omega⟩ (by omega) (by omega) (by omega) (by omega) (by omega) (by exact q_6) (by first | exact occ_y1 (by omega) q_7 q_8) (by omega) (by omega)
set_option maxHeartbeats 4000000 in
theorem lp265_246 {G : xk} {d : Nat} {S0 : yS}  (hd : 11 ≤ d + 1) : ∀ (n : Nat), ∀ (S : yS) (hI : yI S) (hF : yFr [(43, 42), (43, 43), (43, 49), (43, 50), (43, 51), (43, 52), (43, 53)] [68, 71, 72, 73, 74, 75, 76, 77] S0 S) (hR : yRm [] S0 S) (e_wAS : wAS S) (e_wSD : wSD S) (e_CR : CR S) (q : Int) (h_q : 0 ≤ q ∧ q ≤ 23300) (q_0 : S.f 43 42 ≤ 10 + wphi S + q) (q_1 : wphi S + S.f 43 43 ≤ 23300) (q_2 : q ≤ S.f 43 43) (q_3 : hM S0 → oB S0 S q) (hn : 23300 - q < (n : Nat)), yT xPr G LY xC265 246 [some ((2, 43)), none, some (vi q), none] [] S (d + 1) (fun r S' => r = (0, (0, 0)) ∧ (hM S0 → fiQ S0 S') ∧ wAS S' ∧ wSD S' ∧ CR S' ∧ yI S' ∧ yFr [(43, 42), (43, 43), (43, 49), (43, 50), (43, 51), (43, 52), (43, 53)] [68, 71, 72, 73, 74, 75, 76, 77] S0 S' ∧ yRm [] S0 S') := by
  intro n
  induction n with
  | zero => intro S hI hF hR e_wAS e_wSD e_CR q h_q q_0 q_1 q_2 q_3 hn; exact absurd hn (by omega)
  | succ n ih =>
    intro S hI hF hR e_wAS e_wSD e_CR q h_q q_0 q_1 q_2 q_3 hn
    have h1 := hI.f tf43_42
    have h2 := wphi_nn hI
    have h3 := hI.f tf43_43
    refine r_load (i := 246) (u := 2) (w := 0) rfl rfl rfl ?_
    refine r_load (i := 247) (u := 0) (w := 2) rfl rfl rfl ?_
    refine r_getf (i := 248) (v := 43) (w := 11) (x := vi (S.f 43 43)) rfl ly43 rfl rfl fun h4 => ?_
    have h4 : Rg (S.f 43 43) := h4
    refine c_ge (i := 249) (v := 258) rfl ⟨by omega, by omega⟩ ⟨by omega, by omega⟩ (fun h5 => ?_) (fun h6 => ?_)
    · exact r_ret0 (i := 258) rfl ⟨rfl, (by intro hm9; exact oB_e (q_3 hm9) (by omega)), e_wAS, e_wSD, e_CR, hI, hF, hR⟩
    · refine r_load (i := 250) (u := 0) (w := 2) rfl rfl rfl ?_
      refine r_load (i := 251) (u := 0) (w := 2) rfl rfl rfl ?_
      refine r_getf (i := 252) (v := 41) (w := 11) (x := (2, 72)) rfl ly43 rfl rfl fun _ => ?_
      refine r_load (i := 253) (u := 2) (w := 0) rfl rfl rfl ?_
      refine a_int (i := 254) rfl ly72 rfl (by omega) (by omega) fun h8 => ?_
      refine r_call (i := 255) (u := 11) (v := 226) (w := 0) (b := 0) (na := 514) (C2 := xC226) (as := [(2, 43), vi (S.a 72 q.toNat)]) (s := []) rfl rfl rfl rfl rfl rfl rfl (sp226 (v := S.a 72 q.toNat) hI ⟨by omega, by omega⟩ (by omega)  (by omega)) (fun r9 S10 hq11 => ?_)
      obtain ⟨rfl, h12, ob13, hI14, hF15, hR16⟩ := hq11
      have hF17 := hF.trans hF15 rfl rfl
      have hR18 := hR.trans hR16 rfl
      have e19 := wASx.fr e_wAS hF15 rfl rfl
      have e20 := wSDx.fr e_wSD hF15 rfl rfl
      have e21 := CRx.fr e_CR hF15 rfl rfl
      refine Or.inl ⟨rfl, ?_⟩
      refine r_iinc (i := 256) (u := 1) (v := 2) (s := 1) (L1 := [some ((2, 43)), none, some (vi (q + 1)), none]) rfl rfl rfl rfl rfl ?_
      refine r_goto (i := 257) (v := 246) rfl ?_
      have h22 := hI14.f tf43_42
      have h23 := wphi_nn hI14
      have h24 : wphi S10 = wphi S := wphiX.fr hF15 rfl rfl
      have h25 := hI14.f tf43_43
      have h26 : S10.f 43 43 = S.f 43 43 := hF15.f rfl
      exact ih S10 hI14 hF17 hR18 e19 e20 e21 (q + 1) ⟨by omega, by omega⟩ (by omega) (by omega) (by omega) (by intro hm9; exact oB_s (q_3 hm9) (by omega) (by omega) rfl ob13 (sPo_fr hF15 rfl rfl) (sBo_fr hF15 rfl rfl)) (by omega)
set_option maxHeartbeats 4000000 in
theorem lp265_180 {G : xk} {d : Nat} {S0 : yS}  (hd : 11 ≤ d + 1) : ∀ (n : Nat), ∀ (S : yS) (hI : yI S) (hF : yFr [(43, 42), (43, 43), (43, 49), (43, 50), (43, 51), (43, 52), (43, 53)] [68, 71, 72, 73, 74, 75, 76, 77] S0 S) (hR : yRm [] S0 S) (e_wAS : wAS S) (e_wSD : wSD S) (e_CR : CR S) (e : Int) (h_e : 1 ≤ e ∧ e ≤ 1200) (q_0 : S.f 43 42 = 10 + web S e) (q_1 : e ≤ S.f 43 49 + 1) (q_2 : wphi S + S.f 43 43 ≤ 23300) (q_3 : hM S0 → oE S0 S e) (hn : 1200 - e < (n : Nat)), yT xPr G LY xC265 180 [some ((2, 43)), none, some (vi e), none] [] S (d + 1) (fun r S' => r = (0, (0, 0)) ∧ (hM S0 → fiQ S0 S') ∧ wAS S' ∧ wSD S' ∧ CR S' ∧ yI S' ∧ yFr [(43, 42), (43, 43), (43, 49), (43, 50), (43, 51), (43, 52), (43, 53)] [68, 71, 72, 73, 74, 75, 76, 77] S0 S' ∧ yRm [] S0 S') := by
  intro n
  induction n with
  | zero => intro S hI hF hR e_wAS e_wSD e_CR e h_e q_0 q_1 q_2 q_3 hn; exact absurd hn (by omega)
  | succ n ih =>
    intro S hI hF hR e_wAS e_wSD e_CR e h_e q_0 q_1 q_2 q_3 hn
    have h1 := hI.f tf43_42
    have h2 := web_1 (S := S)
    have h3 := hI.f tf43_49
    have h4 := hI.f tf43_43
    have h5 := wphi_nn hI
    refine r_load (i := 180) (u := 2) (w := 0) rfl rfl rfl ?_
    refine r_load (i := 181) (u := 0) (w := 2) rfl rfl rfl ?_
    refine r_getf (i := 182) (v := 49) (w := 11) (x := vi (S.f 43 49)) rfl ly43 rfl rfl fun h6 => ?_
    have h6 : Rg (S.f 43 49) := h6
    refine c_gt (i := 183) (v := 244) rfl ⟨by omega, by omega⟩ ⟨by omega, by omega⟩ (fun h7 => ?_) (fun h8 => ?_)
    · have wl9 := web_le hI (e := e) (by omega) (by omega)
      refine r_const (i := 244) (u := 0) (z := 0) rfl rfl ?_
      refine r_store (i := 245) (u := 2) (w := 0) (L1 := [some ((2, 43)), none, some (vi 0), none]) rfl rfl rfl rfl ?_
      exact lp265_246   hd _ S hI hF hR e_wAS e_wSD e_CR 0 ⟨by omega, by omega⟩ (by omega) (by omega) (by omega) (by intro hm9; exact oB_0 (q_3 hm9) (by omega)) (Int.lt_succ_toNat _)
    · have wl9 := web_le hI (e := e) (by omega) (by omega)
      have wl8 := web_le hI (e := e + 1) (by omega) (by omega)
      refine r_load (i := 184) (u := 0) (w := 2) rfl rfl rfl ?_
      refine r_load (i := 185) (u := 0) (w := 2) rfl rfl rfl ?_
      refine r_getf (i := 186) (v := 44) (w := 11) (x := (2, 73)) rfl ly43 rfl rfl fun _ => ?_
      refine r_load (i := 187) (u := 2) (w := 0) rfl rfl rfl ?_
      refine a_int (i := 188) rfl ly73 rfl (by omega) (by omega) fun h10 => ?_
      have h11 := hI.a ta73 e.toNat
      refine r_call (i := 189) (u := 11) (v := 226) (w := 0) (b := 0) (na := 514) (C2 := xC226) (as := [(2, 43), vi (S.a 73 e.toNat)]) (s := []) rfl rfl rfl rfl rfl rfl rfl (sp226 (v := S.a 73 e.toNat) hI ⟨by omega, by omega⟩ (by omega)  (by omega)) (fun r12 S13 hq14 => ?_)
      obtain ⟨rfl, h15, ob16, hI17, hF18, hR19⟩ := hq14
      have hF20 := hF.trans hF18 rfl rfl
      have hR21 := hR.trans hR19 rfl
      have e22 := wASx.fr e_wAS hF18 rfl rfl
      have e23 := wSDx.fr e_wSD hF18 rfl rfl
      have e24 := CRx.fr e_CR hF18 rfl rfl
      refine Or.inl ⟨rfl, ?_⟩
      refine r_load (i := 190) (u := 0) (w := 2) rfl rfl rfl ?_
      refine r_getf (i := 191) (v := 44) (w := 11) (x := (2, 73)) rfl ly43 rfl rfl fun _ => ?_
      refine r_load (i := 192) (u := 2) (w := 0) rfl rfl rfl ?_
      refine a_int (i := 193) rfl ly73 rfl (by omega) (by omega) fun h26 => ?_
      have h27 := hI17.a ta73 e.toNat
      have h28 : S13.a 73 e.toNat = S.a 73 e.toNat := hF18.a rfl _
      refine r_const (i := 194) (u := 1) (z := 1) rfl rfl ?_
      refine c_ne (i := 195) (v := 224) rfl ⟨by omega, by omega⟩ ⟨by omega, by omega⟩ (fun h29 => ?_) (fun h30 => ?_)
      · have wc9 : S13.a 73 e.toNat = 7 → web S13 (e + 1) = web S13 e + 3 := fun h => web_c (by omega) h
        refine r_load (i := 224) (u := 0) (w := 2) rfl rfl rfl ?_
        refine r_load (i := 225) (u := 0) (w := 2) rfl rfl rfl ?_
        refine r_getf (i := 226) (v := 45) (w := 11) (x := (2, 74)) rfl ly43 rfl rfl fun _ => ?_
        refine r_load (i := 227) (u := 2) (w := 0) rfl rfl rfl ?_
        refine a_int (i := 228) rfl ly74 rfl (by omega) (by omega) fun h32 => ?_
        have h33 := hI17.a ta74 e.toNat
        have h34 : S13.a 74 e.toNat = S.a 74 e.toNat := hF18.a rfl _
        have h35 := hI17.f tf43_42
        refine r_call (i := 229) (u := 11) (v := 227) (w := 0) (b := 0) (na := 514) (C2 := xC227) (as := [(2, 43), vi (S13.a 74 e.toNat)]) (s := []) rfl rfl rfl rfl rfl rfl rfl (sp227 (v := S13.a 74 e.toNat) hI17 ⟨by omega, by omega⟩ (by omega)  (by omega)) (fun r36 S37 hq38 => ?_)
        obtain ⟨rfl, h39, ot40, hI41, hF42, hR43⟩ := hq38
        have hF44 := hF20.trans hF42 rfl rfl
        have hR45 := hR21.trans hR43 rfl
        have e46 := wASx.fr e22 hF42 rfl rfl
        have e47 := wSDx.fr e23 hF42 rfl rfl
        have e48 := CRx.fr e24 hF42 rfl rfl
        refine Or.inl ⟨rfl, ?_⟩
        refine r_load (i := 230) (u := 0) (w := 2) rfl rfl rfl ?_
        refine r_getf (i := 231) (v := 44) (w := 11) (x := (2, 73)) rfl ly43 rfl rfl fun _ => ?_
        refine r_load (i := 232) (u := 2) (w := 0) rfl rfl rfl ?_
        refine a_int (i := 233) rfl ly73 rfl (by omega) (by omega) fun h50 => ?_
        have h51 := hI41.a ta73 e.toNat
        have h52 : S37.a 73 e.toNat = S13.a 73 e.toNat := hF42.a rfl _
        have h53 : S13.a 73 e.toNat = S.a 73 e.toNat := hF18.a rfl _
        refine r_const (i := 234) (u := 7) (z := 7) rfl rfl ?_
        refine c_eq (i := 235) (v := 242) rfl ⟨by omega, by omega⟩ ⟨by omega, by omega⟩ (fun h54 => ?_) (fun h55 => ?_)
        · refine r_iinc (i := 242) (u := 1) (v := 2) (s := 1) (L1 := [some ((2, 43)), none, some (vi (e + 1)), none]) rfl rfl rfl rfl rfl ?_
          refine r_goto (i := 243) (v := 180) rfl ?_
          have h56 := hI41.f tf43_42
          have h57 := web_1 (S := S37)
          have h58 : web S37 = web S13 := webX.fr hF42 rfl rfl
          have h59 : web S37 e = web S13 e := congrFun h58 _
          have h60 : web S37 (e + 1) = web S13 (e + 1) := congrFun h58 _
          have h61 : web S13 = web S := webX.fr hF18 rfl rfl
          have h62 : web S13 e = web S e := congrFun h61 _
          have h63 : web S13 (e + 1) = web S (e + 1) := congrFun h61 _
          have h64 := hI41.f tf43_49
          have h65 : S37.f 43 49 = S13.f 43 49 := hF42.f rfl
          have h66 : S13.f 43 49 = S.f 43 49 := hF18.f rfl
          have h67 := hI41.f tf43_43
          have h68 : S37.f 43 43 = S13.f 43 43 := hF42.f rfl
          have h69 : S13.f 43 43 = S.f 43 43 := hF18.f rfl
          have h70 := wphi_nn hI41
          have h71 : wphi S37 = wphi S13 := wphiX.fr hF42 rfl rfl
          have h72 : wphi S13 = wphi S := wphiX.fr hF18 rfl rfl
          exact ih S37 hI41 hF44 hR45 e46 e47 e48 (e + 1) ⟨by omega, by omega⟩ (by omega) (by omega) (by omega) (by intro hm9; exact oE_c (q_3 hm9) (by omega) (by omega) rfl (by omega) (by omega) ob16 ot40 (sPo_tr (sPo_fr hF18 rfl rfl) (sPo_fr hF42 rfl rfl)) (sBo_tr (sBo_fr hF18 rfl rfl) (sBo_fr hF42 rfl rfl))) (by omega)
        · have wt9 := web_o (S := S37) (e := e) (by omega) (by omega) (by omega)
          refine r_load (i := 236) (u := 0) (w := 2) rfl rfl rfl ?_
          refine r_load (i := 237) (u := 0) (w := 2) rfl rfl rfl ?_
          refine r_getf (i := 238) (v := 46) (w := 11) (x := (2, 75)) rfl ly43 rfl rfl fun _ => ?_
          refine r_load (i := 239) (u := 2) (w := 0) rfl rfl rfl ?_
          refine a_int (i := 240) rfl ly75 rfl (by omega) (by omega) fun h74 => ?_
          have h75 := hI41.a ta75 e.toNat
          have h76 : S37.a 75 e.toNat = S13.a 75 e.toNat := hF42.a rfl _
          have h77 : S13.a 75 e.toNat = S.a 75 e.toNat := hF18.a rfl _
          have h78 := hI41.f tf43_42
          refine r_call (i := 241) (u := 11) (v := 227) (w := 0) (b := 0) (na := 514) (C2 := xC227) (as := [(2, 43), vi (S37.a 75 e.toNat)]) (s := []) rfl rfl rfl rfl rfl rfl rfl (sp227 (v := S37.a 75 e.toNat) hI41 ⟨by omega, by omega⟩ (by omega)  (by omega)) (fun r79 S80 hq81 => ?_)
          obtain ⟨rfl, h82, ot83, hI84, hF85, hR86⟩ := hq81
          have hF87 := hF44.trans hF85 rfl rfl
          have hR88 := hR45.trans hR86 rfl
          have e89 := wASx.fr e46 hF85 rfl rfl
          have e90 := wSDx.fr e47 hF85 rfl rfl
          have e91 := CRx.fr e48 hF85 rfl rfl
          refine Or.inl ⟨rfl, ?_⟩
          refine r_iinc (i := 242) (u := 1) (v := 2) (s := 1) (L1 := [some ((2, 43)), none, some (vi (e + 1)), none]) rfl rfl rfl rfl rfl ?_
          refine r_goto (i := 243) (v := 180) rfl ?_
          have h92 := hI84.f tf43_42
          have h93 := web_1 (S := S80)
          have h94 : web S80 = web S37 := webX.fr hF85 rfl rfl
          have h95 : web S80 e = web S37 e := congrFun h94 _
          have h96 : web S80 (e + 1) = web S37 (e + 1) := congrFun h94 _
          have h97 : web S37 = web S13 := webX.fr hF42 rfl rfl
          have h98 : web S37 e = web S13 e := congrFun h97 _
          have h99 : web S37 (e + 1) = web S13 (e + 1) := congrFun h97 _
          have h100 : web S13 = web S := webX.fr hF18 rfl rfl
          have h101 : web S13 e = web S e := congrFun h100 _
          have h102 : web S13 (e + 1) = web S (e + 1) := congrFun h100 _
          have h103 := hI84.f tf43_49
          have h104 : S80.f 43 49 = S37.f 43 49 := hF85.f rfl
          have h105 : S37.f 43 49 = S13.f 43 49 := hF42.f rfl
          have h106 : S13.f 43 49 = S.f 43 49 := hF18.f rfl
          have h107 := hI84.f tf43_43
          have h108 : S80.f 43 43 = S37.f 43 43 := hF85.f rfl
          have h109 : S37.f 43 43 = S13.f 43 43 := hF42.f rfl
          have h110 : S13.f 43 43 = S.f 43 43 := hF18.f rfl
          have h111 := wphi_nn hI84
          have h112 : wphi S80 = wphi S37 := wphiX.fr hF85 rfl rfl
          have h113 : wphi S37 = wphi S13 := wphiX.fr hF42 rfl rfl
          have h114 : wphi S13 = wphi S := wphiX.fr hF18 rfl rfl
          exact ih S80 hI84 hF87 hR88 e89 e90 e91 (e + 1) ⟨by omega, by omega⟩ (by omega) (by omega) (by omega) (by intro hm9; exact oE_p (q_3 hm9) (by omega) (by omega) rfl (by omega) (by omega) (by omega) (by omega) ob16 ot40 ot83 (sPo_tr (sPo_tr (sPo_fr hF18 rfl rfl) (sPo_fr hF42 rfl rfl)) (sPo_fr hF85 rfl rfl)) (sBo_tr (sBo_tr (sBo_fr hF18 rfl rfl) (sBo_fr hF42 rfl rfl)) (sBo_fr hF85 rfl rfl))) (by omega)
      · have wt9 := web_t (S := S13) (e := e) (by omega) (by omega)
        refine r_load (i := 196) (u := 0) (w := 2) rfl rfl rfl ?_
        refine r_load (i := 197) (u := 0) (w := 2) rfl rfl rfl ?_
        refine r_getf (i := 198) (v := 46) (w := 11) (x := (2, 75)) rfl ly43 rfl rfl fun _ => ?_
        refine r_load (i := 199) (u := 2) (w := 0) rfl rfl rfl ?_
        refine a_int (i := 200) rfl ly75 rfl (by omega) (by omega) fun h116 => ?_
        have h117 := hI17.a ta75 e.toNat
        have h118 : S13.a 75 e.toNat = S.a 75 e.toNat := hF18.a rfl _
        have h119 := hI17.f tf43_42
        refine r_call (i := 201) (u := 11) (v := 227) (w := 0) (b := 0) (na := 514) (C2 := xC227) (as := [(2, 43), vi (S13.a 75 e.toNat)]) (s := []) rfl rfl rfl rfl rfl rfl rfl (sp227 (v := S13.a 75 e.toNat) hI17 ⟨by omega, by omega⟩ (by omega)  (by omega)) (fun r120 S121 hq122 => ?_)
        obtain ⟨rfl, h123, ot124, hI125, hF126, hR127⟩ := hq122
        have hF128 := hF20.trans hF126 rfl rfl
        have hR129 := hR21.trans hR127 rfl
        have e130 := wASx.fr e22 hF126 rfl rfl
        have e131 := wSDx.fr e23 hF126 rfl rfl
        have e132 := CRx.fr e24 hF126 rfl rfl
        refine Or.inl ⟨rfl, ?_⟩
        refine r_const (i := 202) (u := 0) (z := 0) rfl rfl ?_
        refine r_store (i := 203) (u := 3) (w := 0) (L1 := [some ((2, 43)), none, some (vi e), some (vi 0)]) rfl rfl rfl rfl ?_
        have h133 := hI125.f tf43_42
        have h134 := web_1 (S := S121)
        have h135 : web S121 = web S13 := webX.fr hF126 rfl rfl
        have h136 : web S121 e = web S13 e := congrFun h135 _
        have h137 : web S121 (e + 1) = web S13 (e + 1) := congrFun h135 _
        have h138 : web S13 = web S := webX.fr hF18 rfl rfl
        have h139 : web S13 e = web S e := congrFun h138 _
        have h140 : web S13 (e + 1) = web S (e + 1) := congrFun h138 _
        have h141 := hI125.f tf43_49
        have h142 : S121.f 43 49 = S13.f 43 49 := hF126.f rfl
        have h143 : S13.f 43 49 = S.f 43 49 := hF18.f rfl
        have h144 := hI125.f tf43_43
        have h145 : S121.f 43 43 = S13.f 43 43 := hF126.f rfl
        have h146 : S13.f 43 43 = S.f 43 43 := hF18.f rfl
        have h147 := wphi_nn hI125
        have h148 : wphi S121 = wphi S13 := wphiX.fr hF126 rfl rfl
        have h149 : wphi S13 = wphi S := wphiX.fr hF18 rfl rfl
        have h150 := hI125.a ta75 e.toNat
        have h151 : S121.a 75 e.toNat = S13.a 75 e.toNat := hF126.a rfl _
        have h152 : S13.a 75 e.toNat = S.a 75 e.toNat := hF18.a rfl _
        have h153 := hI125.a ta75 e.toNat
        have h154 := hI125.a ta73 e.toNat
        have h155 : S121.a 73 e.toNat = S13.a 73 e.toNat := hF126.a rfl _
        have h156 : S13.a 73 e.toNat = S.a 73 e.toNat := hF18.a rfl _
        exact lp265_204   hd (e := e) ⟨by omega, by omega⟩ n ih (by omega) _ S121 hI125 hF128 hR129 e130 e131 e132 0 ⟨by omega, by omega⟩ (by omega) (by omega) (by omega) (by omega) (by omega) (by omega) (by intro hm9; exact oL_0 (q_3 hm9) (by omega) (by omega) ob16 ot124 (sPo_tr (sPo_fr hF18 rfl rfl) (sPo_fr hF126 rfl rfl)) (sBo_tr (sBo_fr hF18 rfl rfl) (sBo_fr hF126 rfl rfl))) (by omega) (Int.lt_succ_toNat _)
set_option maxHeartbeats 4000000 in
theorem lp265_139 {G : xk} {d : Nat} {S0 : yS}  (hd : 11 ≤ d + 1) : ∀ (n : Nat), ∀ (S : yS) (hI : yI S) (hF : yFr [(43, 42), (43, 43), (43, 49), (43, 50), (43, 51), (43, 52), (43, 53)] [68, 71, 72, 73, 74, 75, 76, 77] S0 S) (hR : yRm [] S0 S) (e_wLV : wLV S) (e_wAS : wAS S) (e_wSD : wSD S) (e_CR : CR S) (k : Int) (h_k : 0 ≤ k ∧ k ≤ 24) (q_0 : S.f 43 43 ≤ 26 + 44 * wcta S + 250 * k) (q_1 : S.f 43 51 = 0) (q_2 : wphi S ≤ 1000 + 269 * wcta S + 330 * k) (q_3 : wpsi S ≤ 130 + 6 * wcta S + 17 * k) (q_4 : wphi S + S.f 43 43 ≤ 1026 + 313 * wcta S + 399 * k) (q_5 : wcta S + S.f 43 20 ≤ 60) (q_6 : S.f 43 20 ≤ 24) (q_7 : k ≤ S.f 43 20) (q_8 : hM S0 → mE S0 S (fom S0 k)) (hn : 24 - k < (n : Nat)), yT xPr G LY xC265 139 [some ((2, 43)), none, some (vi k), none] [] S (d + 1) (fun r S' => r = (0, (0, 0)) ∧ (hM S0 → fiQ S0 S') ∧ wAS S' ∧ wSD S' ∧ CR S' ∧ yI S' ∧ yFr [(43, 42), (43, 43), (43, 49), (43, 50), (43, 51), (43, 52), (43, 53)] [68, 71, 72, 73, 74, 75, 76, 77] S0 S' ∧ yRm [] S0 S') := by
  intro n
  induction n with
  | zero => intro S hI hF hR e_wLV e_wAS e_wSD e_CR k h_k q_0 q_1 q_2 q_3 q_4 q_5 q_6 q_7 q_8 hn; exact absurd hn (by omega)
  | succ n ih =>
    intro S hI hF hR e_wLV e_wAS e_wSD e_CR k h_k q_0 q_1 q_2 q_3 q_4 q_5 q_6 q_7 q_8 hn
    have h1 := hI.f tf43_43
    have h2 := wcta_nn (Int.le_trans (by decide) (hI.f tf43_10).1)
    have h3 : wcta S = wcta S0 := wctaX.fr hF rfl rfl
    have h4 := hI.f tf43_51
    have h5 := wphi_nn hI
    have h6 := wpsi_nn hI
    have h7 := hI.f tf43_20
    have h8 : S.f 43 20 = S0.f 43 20 := hF.f rfl
    refine r_load (i := 139) (u := 2) (w := 0) rfl rfl rfl ?_
    refine r_load (i := 140) (u := 0) (w := 2) rfl rfl rfl ?_
    refine r_getf (i := 141) (v := 20) (w := 11) (x := vi (S.f 43 20)) rfl ly43 rfl rfl fun h9 => ?_
    have h9 : Rg (S.f 43 20) := h9
    refine c_ge (i := 142) (v := 148) rfl ⟨by omega, by omega⟩ ⟨by omega, by omega⟩ (fun h10 => ?_) (fun h11 => ?_)
    · refine r_load (i := 148) (u := 0) (w := 2) rfl rfl rfl ?_
      refine r_const (i := 149) (u := 0) (z := 0) rfl rfl ?_
      refine r_call (i := 150) (u := 11) (v := 257) (w := 0) (b := 0) (na := 514) (C2 := xC257) (as := [(2, 43), vi 0]) (s := []) rfl rfl rfl rfl rfl rfl rfl (sp257 (v := 0) hI ⟨by omega, by omega⟩ (by omega)  (by omega)) (fun r12 S13 hq14 => ?_)
      obtain ⟨rfl, h15, h16, mq17, hI18, hF19, hR20⟩ := hq14
      have hF21 := hF.trans hF19 rfl rfl
      have hR22 := hR.trans hR20 rfl
      have e23 := wLVx.fr e_wLV hF19 rfl rfl
      have e24 := wASx.fr e_wAS hF19 rfl rfl
      have e25 := wSDx.fr e_wSD hF19 rfl rfl
      have e26 := CRx.fr e_CR hF19 rfl rfl
      refine Or.inl ⟨rfl, ?_⟩
      refine r_load (i := 151) (u := 0) (w := 2) rfl rfl rfl ?_
      refine r_const (i := 152) (u := 0) (z := 0) rfl rfl ?_
      refine r_putI (i := 153) (v := 42) (w := 11) rfl ly43 rfl ⟨by omega, by omega⟩ ?_
      have hI28 := hI18.setf (b := 43) (w := 42) (z := 0) tf43_42 rfl (by omega) (by omega)
      have hF30 := hF21.setf (b := 43) (w := 42) (z := 0) rfl
      have hR31 := hR22.setf (b := 43) (w := 42) (z := 0)
      have e32 := wLVx.setf e23 (b := 43) (w := 42) (z := 0) rfl
      have e33 := wASx.setf e24 (b := 43) (w := 42) (z := 0) rfl
      have e34 := wSDx.setf e25 (b := 43) (w := 42) (z := 0) rfl
      have e35 := CRx.setf e26 (b := 43) (w := 42) (z := 0) rfl
      refine yT_gen (fun S27 hS29 => ?_)
      rw [hS29] at hI28 hF30 hR31 e32 e33 e34 e35
      refine r_load (i := 154) (u := 0) (w := 2) rfl rfl rfl ?_
      refine r_const (i := 155) (u := 202) (z := 202) rfl rfl ?_
      have h36 := hI28.f tf43_42
      have h37 : S27.f 43 42 = 0 := by rw [← hS29]; exact ysf_eq
      refine r_call (i := 156) (u := 11) (v := 226) (w := 0) (b := 0) (na := 514) (C2 := xC226) (as := [(2, 43), vi 202]) (s := []) rfl rfl rfl rfl rfl rfl rfl (sp226 (v := 202) hI28 ⟨by omega, by omega⟩ (by omega)  (by omega)) (fun r38 S39 hq40 => ?_)
      obtain ⟨rfl, h41, ob42, hI43, hF44, hR45⟩ := hq40
      have hF46 := hF30.trans hF44 rfl rfl
      have hR47 := hR31.trans hR45 rfl
      have e48 := wLVx.fr e32 hF44 rfl rfl
      have e49 := wASx.fr e33 hF44 rfl rfl
      have e50 := wSDx.fr e34 hF44 rfl rfl
      have e51 := CRx.fr e35 hF44 rfl rfl
      refine Or.inl ⟨rfl, ?_⟩
      refine r_load (i := 157) (u := 0) (w := 2) rfl rfl rfl ?_
      refine r_const (i := 158) (u := 254) (z := 254) rfl rfl ?_
      have h52 := hI43.f tf43_42
      refine r_call (i := 159) (u := 11) (v := 226) (w := 0) (b := 0) (na := 514) (C2 := xC226) (as := [(2, 43), vi 254]) (s := []) rfl rfl rfl rfl rfl rfl rfl (sp226 (v := 254) hI43 ⟨by omega, by omega⟩ (by omega)  (by omega)) (fun r53 S54 hq55 => ?_)
      obtain ⟨rfl, h56, ob57, hI58, hF59, hR60⟩ := hq55
      have hF61 := hF46.trans hF59 rfl rfl
      have hR62 := hR47.trans hR60 rfl
      have e63 := wLVx.fr e48 hF59 rfl rfl
      have e64 := wASx.fr e49 hF59 rfl rfl
      have e65 := wSDx.fr e50 hF59 rfl rfl
      have e66 := CRx.fr e51 hF59 rfl rfl
      refine Or.inl ⟨rfl, ?_⟩
      refine r_load (i := 160) (u := 0) (w := 2) rfl rfl rfl ?_
      refine r_const (i := 161) (u := 186) (z := 186) rfl rfl ?_
      have h67 := hI58.f tf43_42
      refine r_call (i := 162) (u := 11) (v := 226) (w := 0) (b := 0) (na := 514) (C2 := xC226) (as := [(2, 43), vi 186]) (s := []) rfl rfl rfl rfl rfl rfl rfl (sp226 (v := 186) hI58 ⟨by omega, by omega⟩ (by omega)  (by omega)) (fun r68 S69 hq70 => ?_)
      obtain ⟨rfl, h71, ob72, hI73, hF74, hR75⟩ := hq70
      have hF76 := hF61.trans hF74 rfl rfl
      have hR77 := hR62.trans hR75 rfl
      have e78 := wLVx.fr e63 hF74 rfl rfl
      have e79 := wASx.fr e64 hF74 rfl rfl
      have e80 := wSDx.fr e65 hF74 rfl rfl
      have e81 := CRx.fr e66 hF74 rfl rfl
      refine Or.inl ⟨rfl, ?_⟩
      refine r_load (i := 163) (u := 0) (w := 2) rfl rfl rfl ?_
      refine r_const (i := 164) (u := 190) (z := 190) rfl rfl ?_
      have h82 := hI73.f tf43_42
      refine r_call (i := 165) (u := 11) (v := 226) (w := 0) (b := 0) (na := 514) (C2 := xC226) (as := [(2, 43), vi 190]) (s := []) rfl rfl rfl rfl rfl rfl rfl (sp226 (v := 190) hI73 ⟨by omega, by omega⟩ (by omega)  (by omega)) (fun r83 S84 hq85 => ?_)
      obtain ⟨rfl, h86, ob87, hI88, hF89, hR90⟩ := hq85
      have hF91 := hF76.trans hF89 rfl rfl
      have hR92 := hR77.trans hR90 rfl
      have e93 := wLVx.fr e78 hF89 rfl rfl
      have e94 := wASx.fr e79 hF89 rfl rfl
      have e95 := wSDx.fr e80 hF89 rfl rfl
      have e96 := CRx.fr e81 hF89 rfl rfl
      refine Or.inl ⟨rfl, ?_⟩
      refine r_load (i := 166) (u := 0) (w := 2) rfl rfl rfl ?_
      refine r_const (i := 167) (u := 0) (z := 0) rfl rfl ?_
      have h97 := hI88.f tf43_42
      refine r_call (i := 168) (u := 11) (v := 227) (w := 0) (b := 0) (na := 514) (C2 := xC227) (as := [(2, 43), vi 0]) (s := []) rfl rfl rfl rfl rfl rfl rfl (sp227 (v := 0) hI88 ⟨by omega, by omega⟩ (by omega)  (by omega)) (fun r98 S99 hq100 => ?_)
      obtain ⟨rfl, h101, ot102, hI103, hF104, hR105⟩ := hq100
      have hF106 := hF91.trans hF104 rfl rfl
      have hR107 := hR92.trans hR105 rfl
      have e108 := wLVx.fr e93 hF104 rfl rfl
      have e109 := wASx.fr e94 hF104 rfl rfl
      have e110 := wSDx.fr e95 hF104 rfl rfl
      have e111 := CRx.fr e96 hF104 rfl rfl
      refine Or.inl ⟨rfl, ?_⟩
      refine r_load (i := 169) (u := 0) (w := 2) rfl rfl rfl ?_
      refine r_const (i := 170) (u := 52) (z := 52) rfl rfl ?_
      have h112 := hI103.f tf43_42
      refine r_call (i := 171) (u := 11) (v := 227) (w := 0) (b := 0) (na := 514) (C2 := xC227) (as := [(2, 43), vi 52]) (s := []) rfl rfl rfl rfl rfl rfl rfl (sp227 (v := 52) hI103 ⟨by omega, by omega⟩ (by omega)  (by omega)) (fun r113 S114 hq115 => ?_)
      obtain ⟨rfl, h116, ot117, hI118, hF119, hR120⟩ := hq115
      have hF121 := hF106.trans hF119 rfl rfl
      have hR122 := hR107.trans hR120 rfl
      have e123 := wLVx.fr e108 hF119 rfl rfl
      have e124 := wASx.fr e109 hF119 rfl rfl
      have e125 := wSDx.fr e110 hF119 rfl rfl
      have e126 := CRx.fr e111 hF119 rfl rfl
      refine Or.inl ⟨rfl, ?_⟩
      refine r_load (i := 172) (u := 0) (w := 2) rfl rfl rfl ?_
      refine r_load (i := 173) (u := 0) (w := 2) rfl rfl rfl ?_
      have h127 := hI118.f tf43_49
      have h128 : S114.f 43 49 = S99.f 43 49 := hF119.f rfl
      have h129 : S99.f 43 49 = S84.f 43 49 := hF104.f rfl
      have h130 : S84.f 43 49 = S69.f 43 49 := hF89.f rfl
      have h131 : S69.f 43 49 = S54.f 43 49 := hF74.f rfl
      have h132 : S54.f 43 49 = S39.f 43 49 := hF59.f rfl
      have h133 : S39.f 43 49 = S27.f 43 49 := hF44.f rfl
      have h134 : S27.f 43 49 = S13.f 43 49 := by rw [← hS29]; exact ysf_ne (by decide)
      have h135 : S13.f 43 49 = S.f 43 49 := hF19.f rfl
      refine r_getf (i := 174) (v := 49) (w := 11) (x := vi (S114.f 43 49)) rfl ly43 rfl rfl fun h136 => ?_
      have h136 : Rg (S114.f 43 49) := h136
      refine r_const (i := 175) (u := 1) (z := 1) rfl rfl ?_
      refine r_iadd (i := 176) rfl ?_
      have h137 := hI118.f tf43_42
      refine r_call (i := 177) (u := 11) (v := 227) (w := 0) (b := 0) (na := 514) (C2 := xC227) (as := [(2, 43), vi ((S114.f 43 49) + 1)]) (s := []) rfl rfl rfl rfl rfl rfl rfl (sp227 (v := (S114.f 43 49) + 1) hI118 ⟨by omega, by omega⟩ (by omega)  (by omega)) (fun r138 S139 hq140 => ?_)
      obtain ⟨rfl, h141, ot142, hI143, hF144, hR145⟩ := hq140
      have hF146 := hF121.trans hF144 rfl rfl
      have hR147 := hR122.trans hR145 rfl
      have e148 := wLVx.fr e123 hF144 rfl rfl
      have e149 := wASx.fr e124 hF144 rfl rfl
      have e150 := wSDx.fr e125 hF144 rfl rfl
      have e151 := CRx.fr e126 hF144 rfl rfl
      refine Or.inl ⟨rfl, ?_⟩
      refine r_const (i := 178) (u := 1) (z := 1) rfl rfl ?_
      refine r_store (i := 179) (u := 2) (w := 0) (L1 := [some ((2, 43)), none, some (vi 1), none]) rfl rfl rfl rfl ?_
      have h152 := hI143.f tf43_42
      have h153 := web_1 (S := S139)
      have h154 : web S139 = web S114 := webX.fr hF144 rfl rfl
      have h155 : web S114 = web S99 := webX.fr hF119 rfl rfl
      have h156 : web S99 = web S84 := webX.fr hF104 rfl rfl
      have h157 : web S84 = web S69 := webX.fr hF89 rfl rfl
      have h158 : web S69 = web S54 := webX.fr hF74 rfl rfl
      have h159 : web S54 = web S39 := webX.fr hF59 rfl rfl
      have h160 : web S39 = web S27 := webX.fr hF44 rfl rfl
      have h161 : web S27 = web S13 := by rw [← hS29]; exact webX.setf rfl
      have h162 : web S13 = web S := webX.fr hF19 rfl rfl
      have h163 := hI143.f tf43_49
      have h164 : S139.f 43 49 = S114.f 43 49 := hF144.f rfl
      have h165 : S114.f 43 49 = S99.f 43 49 := hF119.f rfl
      have h166 : S99.f 43 49 = S84.f 43 49 := hF104.f rfl
      have h167 : S84.f 43 49 = S69.f 43 49 := hF89.f rfl
      have h168 : S69.f 43 49 = S54.f 43 49 := hF74.f rfl
      have h169 : S54.f 43 49 = S39.f 43 49 := hF59.f rfl
      have h170 : S39.f 43 49 = S27.f 43 49 := hF44.f rfl
      have h171 : S27.f 43 49 = S13.f 43 49 := by rw [← hS29]; exact ysf_ne (by decide)
      have h172 : S13.f 43 49 = S.f 43 49 := hF19.f rfl
      have h173 := hI143.f tf43_43
      have h174 : S139.f 43 43 = S114.f 43 43 := hF144.f rfl
      have h175 : S114.f 43 43 = S99.f 43 43 := hF119.f rfl
      have h176 : S99.f 43 43 = S84.f 43 43 := hF104.f rfl
      have h177 : S84.f 43 43 = S69.f 43 43 := hF89.f rfl
      have h178 : S69.f 43 43 = S54.f 43 43 := hF74.f rfl
      have h179 : S54.f 43 43 = S39.f 43 43 := hF59.f rfl
      have h180 : S39.f 43 43 = S27.f 43 43 := hF44.f rfl
      have h181 : S27.f 43 43 = S13.f 43 43 := by rw [← hS29]; exact ysf_ne (by decide)
      have h182 := wphi_nn hI143
      have h183 : wphi S139 = wphi S114 := wphiX.fr hF144 rfl rfl
      have h184 : wphi S114 = wphi S99 := wphiX.fr hF119 rfl rfl
      have h185 : wphi S99 = wphi S84 := wphiX.fr hF104 rfl rfl
      have h186 : wphi S84 = wphi S69 := wphiX.fr hF89 rfl rfl
      have h187 : wphi S69 = wphi S54 := wphiX.fr hF74 rfl rfl
      have h188 : wphi S54 = wphi S39 := wphiX.fr hF59 rfl rfl
      have h189 : wphi S39 = wphi S27 := wphiX.fr hF44 rfl rfl
      have h190 : wphi S27 = wphi S13 := by rw [← hS29]; exact wphiX.setf rfl
      have h191 : wphi S13 = wphi S := wphiX.fr hF19 rfl rfl
      exact lp265_180   hd _ S139 hI143 hF146 hR147 e149 e150 e151 1 ⟨by omega, by omega⟩ (by omega) (by omega) (by omega) (by intro hm9; have w9 := q_8 hm9; rw [show k = S0.f 43 20 by omega] at w9; exact oE_0 (mE_tr w9 mq17) (sPo_tr (sPo_tr (sPo_tr (sPo_tr (sPo_tr (sPo_tr (sPo_tr (show sPo S13 S27 from by rw [← hS29]; exact ⟨⟨rfl, rfl⟩, fun _ => rfl, fun _ => rfl, fun _ => rfl, fun _ => rfl⟩) (sPo_fr hF44 rfl rfl)) (sPo_fr hF59 rfl rfl)) (sPo_fr hF74 rfl rfl)) (sPo_fr hF89 rfl rfl)) (sPo_fr hF104 rfl rfl)) (sPo_fr hF119 rfl rfl)) (sPo_fr hF144 rfl rfl)) (sBo_tr (sBo_tr (sBo_tr (sBo_tr (sBo_tr (sBo_tr (sBo_tr (show sBo S13 S27 from by rw [← hS29]; exact ⟨⟨rfl, fun _ => rfl⟩, ⟨rfl, rfl⟩, rfl, fun _ => rfl⟩) (sBo_fr hF44 rfl rfl)) (sBo_fr hF59 rfl rfl)) (sBo_fr hF74 rfl rfl)) (sBo_fr hF89 rfl rfl)) (sBo_fr hF104 rfl rfl)) (sBo_fr hF119 rfl rfl)) (sBo_fr hF144 rfl rfl)) (bl_z (by rw [← hS29]; exact ysf_eq)) ob42 ob57 ob72 ob87 ot102 ot117 ot142 (by omega)) (Int.lt_succ_toNat _)
    · refine r_load (i := 143) (u := 0) (w := 2) rfl rfl rfl ?_
      refine r_load (i := 144) (u := 2) (w := 0) rfl rfl rfl ?_
      refine r_call (i := 145) (u := 11) (v := 266) (w := 0) (b := 0) (na := 1794) (C2 := xC266) (as := [(2, 43), vi k]) (s := []) rfl rfl rfl rfl rfl rfl rfl (sp266 (k := k) hI ⟨by omega, by omega⟩ (by omega) (by omega) (by omega) (by omega) e_wLV e_wAS (by omega)) (fun r192 S193 hq194 => ?_)
      obtain ⟨rfl, h195, h196, h197, h198, h199, h200, mv201, e202, e203, hI204, hF205, hR206⟩ := hq194
      have hF207 := hF.trans hF205 rfl rfl
      have hR208 := hR.trans hR206 rfl
      have e209 := wSDx.fr e_wSD hF205 rfl rfl
      have e210 := CRx.fr e_CR hF205 rfl rfl
      refine Or.inl ⟨rfl, ?_⟩
      refine r_iinc (i := 146) (u := 1) (v := 2) (s := 1) (L1 := [some ((2, 43)), none, some (vi (k + 1)), none]) rfl rfl rfl rfl rfl ?_
      refine r_goto (i := 147) (v := 139) rfl ?_
      have h211 := hI204.f tf43_43
      have h212 := wcta_nn (Int.le_trans (by decide) (hI204.f tf43_10).1)
      have h213 : wcta S193 = wcta S0 := wctaX.fr hF207 rfl rfl
      have h214 := hI204.f tf43_51
      have h215 := wphi_nn hI204
      have h216 := wpsi_nn hI204
      have h217 := hI204.f tf43_20
      have h218 : S193.f 43 20 = S0.f 43 20 := hF207.f rfl
      exact ih S193 hI204 hF207 hR208 e202 e203 e209 e210 (k + 1) ⟨by omega, by omega⟩ (by omega) (by omega) (by omega) (by omega) (by omega) (by omega) (by omega) (by omega) (by intro hm9; exact fom_s (q_8 hm9) (by omega) (mv201 (hM_fr hF rfl rfl hm9)) (sZm_fr hF rfl rfl)) (by omega)
set_option maxHeartbeats 4000000 in
theorem lp265_108 {G : xk} {d : Nat} {S0 : yS}  (hd : 11 ≤ d + 1) : ∀ (n : Nat), ∀ (S : yS) (hI : yI S) (hF : yFr [(43, 42), (43, 43), (43, 49), (43, 50), (43, 51), (43, 52), (43, 53)] [68, 71, 72, 73, 74, 75, 76, 77] S0 S) (hR : yRm [] S0 S) (e_wLV : wLV S) (e_wAS : wAS S) (e_wSD : wSD S) (e_CR : CR S) (m : Int) (h_m : 0 ≤ m ∧ m ≤ 60) (q_0 : S.f 43 43 ≤ 26 + 44 * wct S m) (q_1 : S.f 43 51 = 0) (q_2 : wphi S ≤ 1000 + 269 * wct S m) (q_3 : wpsi S ≤ 130 + 6 * wct S m) (q_4 : m ≤ S.f 43 10) (q_5 : 0 ≤ wct S m ∧ wct S m ≤ m) (q_6 : hM S0 → mE S0 S (fcm S0 m)) (hn : 60 - m < (n : Nat)), yT xPr G LY xC265 108 [some ((2, 43)), none, some (vi m), none] [] S (d + 1) (fun r S' => r = (0, (0, 0)) ∧ (hM S0 → fiQ S0 S') ∧ wAS S' ∧ wSD S' ∧ CR S' ∧ yI S' ∧ yFr [(43, 42), (43, 43), (43, 49), (43, 50), (43, 51), (43, 52), (43, 53)] [68, 71, 72, 73, 74, 75, 76, 77] S0 S' ∧ yRm [] S0 S') := by
  intro n
  induction n with
  | zero => intro S hI hF hR e_wLV e_wAS e_wSD e_CR m h_m q_0 q_1 q_2 q_3 q_4 q_5 q_6 hn; exact absurd hn (by omega)
  | succ n ih =>
    intro S hI hF hR e_wLV e_wAS e_wSD e_CR m h_m q_0 q_1 q_2 q_3 q_4 q_5 q_6 hn
    have h1 := hI.f tf43_43
    have h2 := wct_0 (S := S)
    have h3 : wct S = wct S0 := wctX.fr hF rfl rfl
    have h4 : wct S m = wct S0 m := congrFun h3 _
    have h5 : wct S (m + 1) = wct S0 (m + 1) := congrFun h3 _
    have h6 := hI.f tf43_51
    have h7 := wphi_nn hI
    have h8 := wpsi_nn hI
    have h9 := hI.f tf43_10
    have h10 : S.f 43 10 = S0.f 43 10 := hF.f rfl
    refine r_load (i := 108) (u := 2) (w := 0) rfl rfl rfl ?_
    refine r_load (i := 109) (u := 0) (w := 2) rfl rfl rfl ?_
    refine r_getf (i := 110) (v := 10) (w := 11) (x := vi (S.f 43 10)) rfl ly43 rfl rfl fun h11 => ?_
    have h11 : Rg (S.f 43 10) := h11
    refine c_ge (i := 111) (v := 137) rfl ⟨by omega, by omega⟩ ⟨by omega, by omega⟩ (fun h12 => ?_) (fun h13 => ?_)
    · have wa9 := wcta_of (S := S) (m := m) (by omega)
      have sr9 := wSD_room e_wSD (hI.f tf43_20).1 (by omega)
      have sf9 := hI.f tf43_20
      refine r_const (i := 137) (u := 0) (z := 0) rfl rfl ?_
      refine r_store (i := 138) (u := 2) (w := 0) (L1 := [some ((2, 43)), none, some (vi 0), none]) rfl rfl rfl rfl ?_
      have h14 := wcta_nn (Int.le_trans (by decide) (hI.f tf43_10).1)
      have h15 : wcta S = wcta S0 := wctaX.fr hF rfl rfl
      have h16 := hI.f tf43_20
      have h17 : S.f 43 20 = S0.f 43 20 := hF.f rfl
      exact lp265_139   hd _ S hI hF hR e_wLV e_wAS e_wSD e_CR 0 ⟨by omega, by omega⟩ (by omega) (by omega) (by omega) (by omega) (by omega) (by omega) (by omega) (by omega) (by intro hm9; have w9 := q_6 hm9; rw [show m = S0.f 43 10 by omega] at w9; exact w9) (Int.lt_succ_toNat _)
    · have wn9 := wct_n (S := S) (m := m) (by omega)
      have wn8 := wct_nn (S := S) (m := m + 1) (by omega)
      refine r_load (i := 112) (u := 0) (w := 2) rfl rfl rfl ?_
      refine r_getf (i := 113) (v := 11) (w := 11) (x := (2, 52)) rfl ly43 rfl rfl fun _ => ?_
      refine r_load (i := 114) (u := 2) (w := 0) rfl rfl rfl ?_
      refine a_int (i := 115) rfl ly52 rfl (by omega) (by omega) fun h19 => ?_
      have h20 := hI.a ta52 m.toNat
      have h21 : S.a 52 m.toNat = S0.a 52 m.toNat := hF.a rfl _
      refine r_load (i := 116) (u := 0) (w := 2) rfl rfl rfl ?_
      have h22 := hI.f tf43_21
      have h23 : S.f 43 21 = S0.f 43 21 := hF.f rfl
      refine r_getf (i := 117) (v := 21) (w := 11) (x := vi (S.f 43 21)) rfl ly43 rfl rfl fun h24 => ?_
      have h24 : Rg (S.f 43 21) := h24
      refine c_ne (i := 118) (v := 135) rfl ⟨by omega, by omega⟩ ⟨by omega, by omega⟩ (fun h25 => ?_) (fun h26 => ?_)
      · refine r_iinc (i := 135) (u := 1) (v := 2) (s := 1) (L1 := [some ((2, 43)), none, some (vi (m + 1)), none]) rfl rfl rfl rfl rfl ?_
        refine r_goto (i := 136) (v := 108) rfl ?_
        exact ih S hI hF hR e_wLV e_wAS e_wSD e_CR (m + 1) ⟨by omega, by omega⟩ (by omega) (by omega) (by omega) (by omega) (by omega) (by omega) (by intro hm9; exact fcm_n (q_6 hm9) (by omega) (fun q9 => by have w9 := (oMn_e hF rfl rfl).mpr q9; obtain ⟨w1, w2, w3⟩ := w9; omega)) (by omega)
      · refine r_load (i := 119) (u := 0) (w := 2) rfl rfl rfl ?_
        refine r_getf (i := 120) (v := 12) (w := 11) (x := (2, 53)) rfl ly43 rfl rfl fun _ => ?_
        refine r_load (i := 121) (u := 2) (w := 0) rfl rfl rfl ?_
        refine a_int (i := 122) rfl ly53 rfl (by omega) (by omega) fun h28 => ?_
        have h29 := hI.a ta53 m.toNat
        have h30 : S.a 53 m.toNat = S0.a 53 m.toNat := hF.a rfl _
        refine r_const (i := 123) (u := 10) (z := 10) rfl rfl ?_
        refine c_ne (i := 124) (v := 135) rfl ⟨by omega, by omega⟩ ⟨by omega, by omega⟩ (fun h31 => ?_) (fun h32 => ?_)
        · refine r_iinc (i := 135) (u := 1) (v := 2) (s := 1) (L1 := [some ((2, 43)), none, some (vi (m + 1)), none]) rfl rfl rfl rfl rfl ?_
          refine r_goto (i := 136) (v := 108) rfl ?_
          exact ih S hI hF hR e_wLV e_wAS e_wSD e_CR (m + 1) ⟨by omega, by omega⟩ (by omega) (by omega) (by omega) (by omega) (by omega) (by omega) (by intro hm9; exact fcm_n (q_6 hm9) (by omega) (fun q9 => by have w9 := (oMn_e hF rfl rfl).mpr q9; obtain ⟨w1, w2, w3⟩ := w9; omega)) (by omega)
        · refine r_load (i := 125) (u := 0) (w := 2) rfl rfl rfl ?_
          refine r_getf (i := 126) (v := 13) (w := 11) (x := (2, 54)) rfl ly43 rfl rfl fun _ => ?_
          refine r_load (i := 127) (u := 2) (w := 0) rfl rfl rfl ?_
          refine a_int (i := 128) rfl ly54 rfl (by omega) (by omega) fun h34 => ?_
          have h35 := hI.a ta54 m.toNat
          have h36 : S.a 54 m.toNat = S0.a 54 m.toNat := hF.a rfl _
          refine r_const (i := 129) (u := 4) (z := 4) rfl rfl ?_
          refine r_iand (i := 130) rfl ?_
          have h37 := @yand_c (S.a 54 m.toNat) 4 (by decide) (by decide)
          refine z_ne (i := 131) (v := 135) rfl ⟨by omega, by omega⟩ (fun h38 => ?_) (fun h39 => ?_)
          · refine r_iinc (i := 135) (u := 1) (v := 2) (s := 1) (L1 := [some ((2, 43)), none, some (vi (m + 1)), none]) rfl rfl rfl rfl rfl ?_
            refine r_goto (i := 136) (v := 108) rfl ?_
            exact ih S hI hF hR e_wLV e_wAS e_wSD e_CR (m + 1) ⟨by omega, by omega⟩ (by omega) (by omega) (by omega) (by omega) (by omega) (by omega) (by intro hm9; exact fcm_n (q_6 hm9) (by omega) (fun q9 => by have w9 := (oMn_e hF rfl rfl).mpr q9; obtain ⟨w1, w2, w3⟩ := w9; omega)) (by omega)
          · have wy9 := wct_y (S := S) (m := m) (by omega) (by omega)
            refine r_load (i := 132) (u := 0) (w := 2) rfl rfl rfl ?_
            refine r_load (i := 133) (u := 2) (w := 0) rfl rfl rfl ?_
            have h40 := hI.a ta53 m.toNat
            refine r_call (i := 134) (u := 11) (v := 264) (w := 0) (b := 0) (na := 770) (C2 := xC264) (as := [(2, 43), vi m]) (s := []) rfl rfl rfl rfl rfl rfl rfl (sp264 (m := m) hI ⟨by omega, by omega⟩ (by omega) (by omega) (by omega) (by omega) (by omega) e_wLV e_CR (by omega)) (fun r41 S42 hq43 => ?_)
            obtain ⟨rfl, h44, h45, h46, h47, h48, mv49, e50, e51, hI52, hF53, hR54⟩ := hq43
            have hF55 := hF.trans hF53 rfl rfl
            have hR56 := hR.trans hR54 rfl
            have e57 := wASx.fr e_wAS hF53 rfl rfl
            have e58 := wSDx.fr e_wSD hF53 rfl rfl
            refine Or.inl ⟨rfl, ?_⟩
            refine r_iinc (i := 135) (u := 1) (v := 2) (s := 1) (L1 := [some ((2, 43)), none, some (vi (m + 1)), none]) rfl rfl rfl rfl rfl ?_
            refine r_goto (i := 136) (v := 108) rfl ?_
            have h59 := hI52.f tf43_43
            have h60 := wct_0 (S := S42)
            have h61 : wct S42 = wct S0 := wctX.fr hF55 rfl rfl
            have h62 : wct S42 m = wct S0 m := congrFun h61 _
            have h63 : wct S42 (m + 1) = wct S0 (m + 1) := congrFun h61 _
            have h64 := hI52.f tf43_51
            have h65 := wphi_nn hI52
            have h66 := wpsi_nn hI52
            have h67 := hI52.f tf43_10
            have h68 : S42.f 43 10 = S0.f 43 10 := hF55.f rfl
            exact ih S42 hI52 hF55 hR56 e50 e57 e58 e51 (m + 1) ⟨by omega, by omega⟩ (by omega) (by omega) (by omega) (by omega) (by omega) (by omega) (by intro hm9; exact fcm_y (q_6 hm9) (by omega) (mv49 (hM_fr hF rfl rfl hm9)) (sZm_fr hF rfl rfl) ((oMn_e hF rfl rfl).mp ⟨by omega, by omega, by omega⟩)) (by omega)
set_option maxHeartbeats 4000000 in
theorem lp265_68 {G : xk} {d : Nat} {S0 : yS}  (hd : 11 ≤ d + 1) : ∀ (n : Nat), ∀ (S : yS) (hI : yI S) (hF : yFr [(43, 42), (43, 43), (43, 49), (43, 50), (43, 51), (43, 52), (43, 53)] [68, 71, 72, 73, 74, 75, 76, 77] S0 S) (hR : yRm [] S0 S) (e_wLV : wLV S) (e_wAS : wAS S) (e_wSD : wSD S) (e_CR : CR S) (cn m : Int) (h_cn : 0 ≤ cn ∧ cn ≤ 60) (h_m : 0 ≤ m ∧ m ≤ 60) (q_0 : S.f 43 43 ≤ 24) (q_1 : S.f 43 51 = 0) (q_2 : wphi S ≤ 1000) (q_3 : wpsi S ≤ 130) (q_4 : cn ≤ m) (q_5 : mE S0 S (fun w => bg2 (bgm S0 (S0.f 43 22) w))) (q_6 : cn = occ (oMn S0) m.toNat) (q_7 : m ≤ S.f 43 10) (hn : 60 - m < (n : Nat)), yT xPr G LY xC265 68 [some ((2, 43)), some (vi cn), some (vi m), none] [] S (d + 1) (fun r S' => r = (0, (0, 0)) ∧ (hM S0 → fiQ S0 S') ∧ wAS S' ∧ wSD S' ∧ CR S' ∧ yI S' ∧ yFr [(43, 42), (43, 43), (43, 49), (43, 50), (43, 51), (43, 52), (43, 53)] [68, 71, 72, 73, 74, 75, 76, 77] S0 S' ∧ yRm [] S0 S') := by
  intro n
  induction n with
  | zero => intro S hI hF hR e_wLV e_wAS e_wSD e_CR cn m h_cn h_m q_0 q_1 q_2 q_3 q_4 q_5 q_6 q_7 hn; exact absurd hn (by omega)
  | succ n ih =>
    intro S hI hF hR e_wLV e_wAS e_wSD e_CR cn m h_cn h_m q_0 q_1 q_2 q_3 q_4 q_5 q_6 q_7 hn
    have h1 := hI.f tf43_43
    have h2 := hI.f tf43_51
    have h3 := wphi_nn hI
    have h4 := wpsi_nn hI
    have h5 := hI.f tf43_10
    have h6 : S.f 43 10 = S0.f 43 10 := hF.f rfl
    refine r_load (i := 68) (u := 2) (w := 0) rfl rfl rfl ?_
    refine r_load (i := 69) (u := 0) (w := 2) rfl rfl rfl ?_
    refine r_getf (i := 70) (v := 10) (w := 11) (x := vi (S.f 43 10)) rfl ly43 rfl rfl fun h7 => ?_
    have h7 : Rg (S.f 43 10) := h7
    refine c_ge (i := 71) (v := 100) rfl ⟨by omega, by omega⟩ ⟨by omega, by omega⟩ (fun h8 => ?_) (fun h9 => ?_)
    · refine r_load (i := 100) (u := 0) (w := 2) rfl rfl rfl ?_
      refine r_load (i := 101) (u := 1) (w := 0) rfl rfl rfl ?_
      refine r_load (i := 102) (u := 0) (w := 2) rfl rfl rfl ?_
      have h10 := hI.f tf43_20
      have h11 : S.f 43 20 = S0.f 43 20 := hF.f rfl
      refine r_getf (i := 103) (v := 20) (w := 11) (x := vi (S.f 43 20)) rfl ly43 rfl rfl fun h12 => ?_
      have h12 : Rg (S.f 43 20) := h12
      refine r_iadd (i := 104) rfl ?_
      refine r_call (i := 105) (u := 11) (v := 257) (w := 0) (b := 0) (na := 514) (C2 := xC257) (as := [(2, 43), vi (cn + (S.f 43 20))]) (s := []) rfl rfl rfl rfl rfl rfl rfl (sp257 (v := cn + (S.f 43 20)) hI ⟨by omega, by omega⟩ (by omega)  (by omega)) (fun r13 S14 hq15 => ?_)
      obtain ⟨rfl, h16, h17, mq18, hI19, hF20, hR21⟩ := hq15
      have hF22 := hF.trans hF20 rfl rfl
      have hR23 := hR.trans hR21 rfl
      have e24 := wLVx.fr e_wLV hF20 rfl rfl
      have e25 := wASx.fr e_wAS hF20 rfl rfl
      have e26 := wSDx.fr e_wSD hF20 rfl rfl
      have e27 := CRx.fr e_CR hF20 rfl rfl
      refine Or.inl ⟨rfl, ?_⟩
      refine r_const (i := 106) (u := 0) (z := 0) rfl rfl ?_
      refine r_store (i := 107) (u := 2) (w := 0) (L1 := [some ((2, 43)), some (vi cn), some (vi 0), none]) rfl rfl rfl rfl ?_
      refine yT_drop (L1 := [some ((2, 43)), none, some (vi 0), none]) rfl ?_
      have h28 := hI19.f tf43_43
      have h29 := wct_0 (S := S14)
      have h30 : wct S14 = wct S0 := wctX.fr hF22 rfl rfl
      have h31 : wct S14 m = wct S0 m := congrFun h30 _
      have h32 : wct S14 (m + 1) = wct S0 (m + 1) := congrFun h30 _
      have h33 := hI19.f tf43_51
      have h34 : S14.f 43 51 = S.f 43 51 := hF20.f rfl
      have h35 := wphi_nn hI19
      have h36 : wphi S14 = wphi S := wphiX.fr hF20 rfl rfl
      have h37 := wpsi_nn hI19
      have h38 : wpsi S14 = wpsi S := wpsiX.fr hF20 rfl rfl
      have h39 := hI19.f tf43_10
      have h40 : S14.f 43 10 = S0.f 43 10 := hF22.f rfl
      exact lp265_108   hd _ S14 hI19 hF22 hR23 e24 e25 e26 e27 0 ⟨by omega, by omega⟩ (by omega) (by omega) (by omega) (by omega) (by omega) (by omega) (by intro hm9; exact mE_c (mE_tr q_5 mq18) (fun w9 => wbm_m (by rw [q_6, show m = S0.f 43 10 by omega]) (by omega))) (Int.lt_succ_toNat _)
    · refine r_load (i := 72) (u := 1) (w := 0) rfl rfl rfl ?_
      refine r_load (i := 73) (u := 0) (w := 2) rfl rfl rfl ?_
      refine r_getf (i := 74) (v := 11) (w := 11) (x := (2, 52)) rfl ly43 rfl rfl fun _ => ?_
      refine r_load (i := 75) (u := 2) (w := 0) rfl rfl rfl ?_
      refine a_int (i := 76) rfl ly52 rfl (by omega) (by omega) fun h42 => ?_
      have h43 := hI.a ta52 m.toNat
      have h44 : S.a 52 m.toNat = S0.a 52 m.toNat := hF.a rfl _
      refine r_load (i := 77) (u := 0) (w := 2) rfl rfl rfl ?_
      have h45 := hI.f tf43_21
      have h46 : S.f 43 21 = S0.f 43 21 := hF.f rfl
      refine r_getf (i := 78) (v := 21) (w := 11) (x := vi (S.f 43 21)) rfl ly43 rfl rfl fun h47 => ?_
      have h47 : Rg (S.f 43 21) := h47
      refine c_ne (i := 79) (v := 95) rfl ⟨by omega, by omega⟩ ⟨by omega, by omega⟩ (fun h48 => ?_) (fun h49 => ?_)
      · refine r_const (i := 95) (u := 0) (z := 0) rfl rfl ?_
        exact lp265_96   hd (cn := cn) (m := m) ⟨by omega, by omega⟩ ⟨by omega, by omega⟩ n ih (by omega) S hI hF hR e_wLV e_wAS e_wSD e_CR cn 0 ⟨by omega, by omega⟩ ⟨by omega, by omega⟩ (by omega) (by omega) (by omega) (by omega) (by omega) (by omega) (by exact q_5) (by exact q_6) (by first | exact (cif_y ((oMn_e hF rfl rfl).mp ⟨by omega, by omega, by omega⟩)).symm | exact (cif_n (fun q9 => by have w9 := (oMn_e hF rfl rfl).mpr q9; obtain ⟨w1, w2, w3⟩ := w9; omega)).symm) 
      · refine r_load (i := 80) (u := 0) (w := 2) rfl rfl rfl ?_
        refine r_getf (i := 81) (v := 12) (w := 11) (x := (2, 53)) rfl ly43 rfl rfl fun _ => ?_
        refine r_load (i := 82) (u := 2) (w := 0) rfl rfl rfl ?_
        refine a_int (i := 83) rfl ly53 rfl (by omega) (by omega) fun h51 => ?_
        have h52 := hI.a ta53 m.toNat
        have h53 : S.a 53 m.toNat = S0.a 53 m.toNat := hF.a rfl _
        refine r_const (i := 84) (u := 10) (z := 10) rfl rfl ?_
        refine c_ne (i := 85) (v := 95) rfl ⟨by omega, by omega⟩ ⟨by omega, by omega⟩ (fun h54 => ?_) (fun h55 => ?_)
        · refine r_const (i := 95) (u := 0) (z := 0) rfl rfl ?_
          exact lp265_96   hd (cn := cn) (m := m) ⟨by omega, by omega⟩ ⟨by omega, by omega⟩ n ih (by omega) S hI hF hR e_wLV e_wAS e_wSD e_CR cn 0 ⟨by omega, by omega⟩ ⟨by omega, by omega⟩ (by omega) (by omega) (by omega) (by omega) (by omega) (by omega) (by exact q_5) (by exact q_6) (by first | exact (cif_y ((oMn_e hF rfl rfl).mp ⟨by omega, by omega, by omega⟩)).symm | exact (cif_n (fun q9 => by have w9 := (oMn_e hF rfl rfl).mpr q9; obtain ⟨w1, w2, w3⟩ := w9; omega)).symm) 
        · refine r_load (i := 86) (u := 0) (w := 2) rfl rfl rfl ?_
          refine r_getf (i := 87) (v := 13) (w := 11) (x := (2, 54)) rfl ly43 rfl rfl fun _ => ?_
          refine r_load (i := 88) (u := 2) (w := 0) rfl rfl rfl ?_
          refine a_int (i := 89) rfl ly54 rfl (by omega) (by omega) fun h57 => ?_
          have h58 := hI.a ta54 m.toNat
          have h59 : S.a 54 m.toNat = S0.a 54 m.toNat := hF.a rfl _
          refine r_const (i := 90) (u := 4) (z := 4) rfl rfl ?_
          refine r_iand (i := 91) rfl ?_
          have h60 := @yand_c (S.a 54 m.toNat) 4 (by decide) (by decide)
          refine z_ne (i := 92) (v := 95) rfl ⟨by omega, by omega⟩ (fun h61 => ?_) (fun h62 => ?_)
          · refine r_const (i := 95) (u := 0) (z := 0) rfl rfl ?_
            exact lp265_96   hd (cn := cn) (m := m) ⟨by omega, by omega⟩ ⟨by omega, by omega⟩ n ih (by omega) S hI hF hR e_wLV e_wAS e_wSD e_CR cn 0 ⟨by omega, by omega⟩ ⟨by omega, by omega⟩ (by omega) (by omega) (by omega) (by omega) (by omega) (by omega) (by exact q_5) (by exact q_6) (by first | exact (cif_y ((oMn_e hF rfl rfl).mp ⟨by omega, by omega, by omega⟩)).symm | exact (cif_n (fun q9 => by have w9 := (oMn_e hF rfl rfl).mpr q9; obtain ⟨w1, w2, w3⟩ := w9; omega)).symm) 
          · refine r_const (i := 93) (u := 1) (z := 1) rfl rfl ?_
            refine r_goto (i := 94) (v := 96) rfl ?_
            exact lp265_96   hd (cn := cn) (m := m) ⟨by omega, by omega⟩ ⟨by omega, by omega⟩ n ih (by omega) S hI hF hR e_wLV e_wAS e_wSD e_CR cn 1 ⟨by omega, by omega⟩ ⟨by omega, by omega⟩ (by omega) (by omega) (by omega) (by omega) (by omega) (by omega) (by exact q_5) (by exact q_6) (by first | exact (cif_y ((oMn_e hF rfl rfl).mp ⟨by omega, by omega, by omega⟩)).symm | exact (cif_n (fun q9 => by have w9 := (oMn_e hF rfl rfl).mpr q9; obtain ⟨w1, w2, w3⟩ := w9; omega)).symm) 
set_option maxHeartbeats 4000000 in
theorem lp265_31 {G : xk} {d : Nat} {S0 : yS}  (hd : 11 ≤ d + 1) : ∀ (n : Nat), ∀ (S : yS) (hI : yI S) (hF : yFr [(43, 42), (43, 43), (43, 49), (43, 50), (43, 51), (43, 52), (43, 53)] [68, 71, 72, 73, 74, 75, 76, 77] S0 S) (hR : yRm [] S0 S) (e_wLV : wLV S) (e_wAS : wAS S) (e_wSD : wSD S) (e_CR : CR S) (j : Int) (h_j : 0 ≤ j ∧ j ≤ 3) (q_0 : S.f 43 43 ≤ 8 + 2 * j) (q_1 : S.f 43 51 = 0) (q_2 : wphi S ≤ 1000) (q_3 : wpsi S ≤ 130) (q_4 : mE S0 S (bgm S0 j)) (q_5 : j ≤ S.f 43 22) (hn : 3 - j < (n : Nat)), yT xPr G LY xC265 31 [some ((2, 43)), some (vi j), none, none] [] S (d + 1) (fun r S' => r = (0, (0, 0)) ∧ (hM S0 → fiQ S0 S') ∧ wAS S' ∧ wSD S' ∧ CR S' ∧ yI S' ∧ yFr [(43, 42), (43, 43), (43, 49), (43, 50), (43, 51), (43, 52), (43, 53)] [68, 71, 72, 73, 74, 75, 76, 77] S0 S' ∧ yRm [] S0 S') := by
  intro n
  induction n with
  | zero => intro S hI hF hR e_wLV e_wAS e_wSD e_CR j h_j q_0 q_1 q_2 q_3 q_4 q_5 hn; exact absurd hn (by omega)
  | succ n ih =>
    intro S hI hF hR e_wLV e_wAS e_wSD e_CR j h_j q_0 q_1 q_2 q_3 q_4 q_5 hn
    have h1 := hI.f tf43_43
    have h2 := hI.f tf43_51
    have h3 := wphi_nn hI
    have h4 := wpsi_nn hI
    have h5 := hI.f tf43_22
    have h6 : S.f 43 22 = S0.f 43 22 := hF.f rfl
    refine r_load (i := 31) (u := 1) (w := 0) rfl rfl rfl ?_
    refine r_load (i := 32) (u := 0) (w := 2) rfl rfl rfl ?_
    refine r_getf (i := 33) (v := 22) (w := 11) (x := vi (S.f 43 22)) rfl ly43 rfl rfl fun h7 => ?_
    have h7 : Rg (S.f 43 22) := h7
    refine c_ge (i := 34) (v := 45) rfl ⟨by omega, by omega⟩ ⟨by omega, by omega⟩ (fun h8 => ?_) (fun h9 => ?_)
    · refine r_load (i := 45) (u := 0) (w := 2) rfl rfl rfl ?_
      refine r_const (i := 46) (u := 1) (z := 1) rfl rfl ?_
      refine r_call (i := 47) (u := 11) (v := 257) (w := 0) (b := 0) (na := 514) (C2 := xC257) (as := [(2, 43), vi 1]) (s := []) rfl rfl rfl rfl rfl rfl rfl (sp257 (v := 1) hI ⟨by omega, by omega⟩ (by omega)  (by omega)) (fun r10 S11 hq12 => ?_)
      obtain ⟨rfl, h13, h14, mq15, hI16, hF17, hR18⟩ := hq12
      have hF19 := hF.trans hF17 rfl rfl
      have hR20 := hR.trans hR18 rfl
      have e21 := wLVx.fr e_wLV hF17 rfl rfl
      have e22 := wASx.fr e_wAS hF17 rfl rfl
      have e23 := wSDx.fr e_wSD hF17 rfl rfl
      have e24 := CRx.fr e_CR hF17 rfl rfl
      refine Or.inl ⟨rfl, ?_⟩
      refine r_load (i := 48) (u := 0) (w := 2) rfl rfl rfl ?_
      refine r_const (i := 49) (u := 2) (z := 2) rfl rfl ?_
      have h25 := hI16.f tf43_43
      refine r_call (i := 50) (u := 11) (v := 257) (w := 0) (b := 0) (na := 514) (C2 := xC257) (as := [(2, 43), vi 2]) (s := []) rfl rfl rfl rfl rfl rfl rfl (sp257 (v := 2) hI16 ⟨by omega, by omega⟩ (by omega)  (by omega)) (fun r26 S27 hq28 => ?_)
      obtain ⟨rfl, h29, h30, mq31, hI32, hF33, hR34⟩ := hq28
      have hF35 := hF19.trans hF33 rfl rfl
      have hR36 := hR20.trans hR34 rfl
      have e37 := wLVx.fr e21 hF33 rfl rfl
      have e38 := wASx.fr e22 hF33 rfl rfl
      have e39 := wSDx.fr e23 hF33 rfl rfl
      have e40 := CRx.fr e24 hF33 rfl rfl
      refine Or.inl ⟨rfl, ?_⟩
      refine r_load (i := 51) (u := 0) (w := 2) rfl rfl rfl ?_
      refine r_load (i := 52) (u := 0) (w := 2) rfl rfl rfl ?_
      refine r_str (i := 53) (v := 46) rfl ?_
      have h41 := slv46
      have h42 := hI32.f tf43_51
      have h43 : S27.f 43 51 = S11.f 43 51 := hF33.f rfl
      have h44 : S11.f 43 51 = S.f 43 51 := hF17.f rfl
      have h45 := wphi_nn hI32
      have h46 : wphi S27 = wphi S11 := wphiX.fr hF33 rfl rfl
      have h47 : wphi S11 = wphi S := wphiX.fr hF17 rfl rfl
      have h48 := wpsi_nn hI32
      have h49 : wpsi S27 = wpsi S11 := wpsiX.fr hF33 rfl rfl
      have h50 : wpsi S11 = wpsi S := wpsiX.fr hF17 rfl rfl
      refine r_call (i := 54) (u := 11) (v := 252) (w := 0) (b := 0) (na := 514) (C2 := xC252) (as := [(2, 43), (6, 46)]) (s := [(2, 43)]) rfl rfl rfl rfl rfl rfl rfl (sp252 (s := 46) hI32 ⟨by decide, by decide⟩ (by omega) (by omega) (by omega) (by omega) e37 (by omega)) (fun r51 S52 hq53 => ?_)
      obtain ⟨z54, rfl, h55, h56, h57, h58, h59, fm60, mi61, e62, hI63, hF64, hR65⟩ := hq53
      have hF66 := hF35.trans hF64 rfl rfl
      have hR67 := hR36.trans hR65 rfl
      have e68 := wASx.fr e38 hF64 rfl rfl
      have e69 := wSDx.fr e39 hF64 rfl rfl
      have e70 := CRx.fr e40 hF64 rfl rfl
      refine Or.inr (Or.inl ⟨rfl, ?_⟩)
      have h71 := hI63.f tf43_43
      have h72 : S52.f 43 43 = S27.f 43 43 := hF64.f rfl
      refine r_call (i := 55) (u := 11) (v := 257) (w := 0) (b := 0) (na := 514) (C2 := xC257) (as := [(2, 43), vi z54]) (s := []) rfl rfl rfl rfl rfl rfl rfl (sp257 (v := z54) hI63 ⟨by omega, by omega⟩ (by omega)  (by omega)) (fun r73 S74 hq75 => ?_)
      obtain ⟨rfl, h76, h77, mq78, hI79, hF80, hR81⟩ := hq75
      have hF82 := hF66.trans hF80 rfl rfl
      have hR83 := hR67.trans hR81 rfl
      have e84 := wASx.fr e68 hF80 rfl rfl
      have e85 := wSDx.fr e69 hF80 rfl rfl
      have e86 := CRx.fr e70 hF80 rfl rfl
      have e87 := wLVx.fr e62 hF80 rfl rfl
      refine Or.inl ⟨rfl, ?_⟩
      refine r_load (i := 56) (u := 0) (w := 2) rfl rfl rfl ?_
      refine r_load (i := 57) (u := 0) (w := 2) rfl rfl rfl ?_
      refine r_str (i := 58) (v := 47) rfl ?_
      have h88 := slv47
      have h89 := hI79.f tf43_51
      have h90 : S74.f 43 51 = S52.f 43 51 := hF80.f rfl
      have h91 := wphi_nn hI79
      have h92 : wphi S74 = wphi S52 := wphiX.fr hF80 rfl rfl
      have h93 := wpsi_nn hI79
      have h94 : wpsi S74 = wpsi S52 := wpsiX.fr hF80 rfl rfl
      refine r_call (i := 59) (u := 11) (v := 252) (w := 0) (b := 0) (na := 514) (C2 := xC252) (as := [(2, 43), (6, 47)]) (s := [(2, 43)]) rfl rfl rfl rfl rfl rfl rfl (sp252 (s := 47) hI79 ⟨by decide, by decide⟩ (by omega) (by omega) (by omega) (by omega) e87 (by omega)) (fun r95 S96 hq97 => ?_)
      obtain ⟨z98, rfl, h99, h100, h101, h102, h103, fm104, mi105, e106, hI107, hF108, hR109⟩ := hq97
      have hF110 := hF82.trans hF108 rfl rfl
      have hR111 := hR83.trans hR109 rfl
      have e112 := wASx.fr e84 hF108 rfl rfl
      have e113 := wSDx.fr e85 hF108 rfl rfl
      have e114 := CRx.fr e86 hF108 rfl rfl
      refine Or.inr (Or.inl ⟨rfl, ?_⟩)
      have h115 := hI107.f tf43_43
      have h116 : S96.f 43 43 = S74.f 43 43 := hF108.f rfl
      refine r_call (i := 60) (u := 11) (v := 257) (w := 0) (b := 0) (na := 514) (C2 := xC257) (as := [(2, 43), vi z98]) (s := []) rfl rfl rfl rfl rfl rfl rfl (sp257 (v := z98) hI107 ⟨by omega, by omega⟩ (by omega)  (by omega)) (fun r117 S118 hq119 => ?_)
      obtain ⟨rfl, h120, h121, mq122, hI123, hF124, hR125⟩ := hq119
      have hF126 := hF110.trans hF124 rfl rfl
      have hR127 := hR111.trans hR125 rfl
      have e128 := wASx.fr e112 hF124 rfl rfl
      have e129 := wSDx.fr e113 hF124 rfl rfl
      have e130 := CRx.fr e114 hF124 rfl rfl
      have e131 := wLVx.fr e106 hF124 rfl rfl
      refine Or.inl ⟨rfl, ?_⟩
      refine r_load (i := 61) (u := 0) (w := 2) rfl rfl rfl ?_
      refine r_const (i := 62) (u := 0) (z := 0) rfl rfl ?_
      have h132 := hI123.f tf43_43
      refine r_call (i := 63) (u := 11) (v := 257) (w := 0) (b := 0) (na := 514) (C2 := xC257) (as := [(2, 43), vi 0]) (s := []) rfl rfl rfl rfl rfl rfl rfl (sp257 (v := 0) hI123 ⟨by omega, by omega⟩ (by omega)  (by omega)) (fun r133 S134 hq135 => ?_)
      obtain ⟨rfl, h136, h137, mq138, hI139, hF140, hR141⟩ := hq135
      have hF142 := hF126.trans hF140 rfl rfl
      have hR143 := hR127.trans hR141 rfl
      have e144 := wASx.fr e128 hF140 rfl rfl
      have e145 := wSDx.fr e129 hF140 rfl rfl
      have e146 := CRx.fr e130 hF140 rfl rfl
      have e147 := wLVx.fr e131 hF140 rfl rfl
      refine Or.inl ⟨rfl, ?_⟩
      refine r_const (i := 64) (u := 0) (z := 0) rfl rfl ?_
      refine r_store (i := 65) (u := 1) (w := 0) (L1 := [some ((2, 43)), some (vi 0), none, none]) rfl rfl rfl rfl ?_
      refine r_const (i := 66) (u := 0) (z := 0) rfl rfl ?_
      refine r_store (i := 67) (u := 2) (w := 0) (L1 := [some ((2, 43)), some (vi 0), some (vi 0), none]) rfl rfl rfl rfl ?_
      have h148 := hI139.f tf43_43
      have h149 := hI139.f tf43_51
      have h150 : S134.f 43 51 = S118.f 43 51 := hF140.f rfl
      have h151 : S118.f 43 51 = S96.f 43 51 := hF124.f rfl
      have h152 := wphi_nn hI139
      have h153 : wphi S134 = wphi S118 := wphiX.fr hF140 rfl rfl
      have h154 : wphi S118 = wphi S96 := wphiX.fr hF124 rfl rfl
      have h155 := wpsi_nn hI139
      have h156 : wpsi S134 = wpsi S118 := wpsiX.fr hF140 rfl rfl
      have h157 : wpsi S118 = wpsi S96 := wpsiX.fr hF124 rfl rfl
      have h158 := hI139.f tf43_10
      have h159 : S134.f 43 10 = S0.f 43 10 := hF142.f rfl
      exact lp265_68   hd _ S134 hI139 hF142 hR143 e147 e144 e145 e146 0 0 ⟨by omega, by omega⟩ ⟨by omega, by omega⟩ (by omega) (by omega) (by omega) (by omega) (by omega) (by exact mE_c (mE_tr (mE_i (mE_i (mE_tr (mE_tr q_4 mq15) mq31) mi61 mq78) mi105 mq122) mq138) (fun w9 => bg2_m.trans (by rw [show j = S0.f 43 22 by omega]))) (by exact rfl) (by omega) (Int.lt_succ_toNat _)
    · have as9 := e_wAS j.toNat (by omega)
      refine r_load (i := 35) (u := 0) (w := 2) rfl rfl rfl ?_
      refine r_load (i := 36) (u := 0) (w := 2) rfl rfl rfl ?_
      refine r_load (i := 37) (u := 0) (w := 2) rfl rfl rfl ?_
      refine r_getf (i := 38) (v := 27) (w := 11) (x := (2, 64)) rfl ly43 rfl rfl fun _ => ?_
      refine r_load (i := 39) (u := 1) (w := 0) rfl rfl rfl ?_
      refine a_int (i := 40) rfl ly64 rfl (by omega) (by omega) fun h161 => ?_
      have h162 := hI.a ta64 j.toNat
      have h163 : S.a 64 j.toNat = S0.a 64 j.toNat := hF.a rfl _
      refine r_call (i := 41) (u := 11) (v := 193) (w := 0) (b := 0) (na := 514) (C2 := xC193) (as := [(2, 43), vi (S.a 64 j.toNat)]) (s := [(2, 43)]) rfl rfl rfl rfl rfl rfl rfl (sp193 (t := S.a 64 j.toNat) hI ⟨by omega, by omega⟩ (by omega) (by omega) (by omega) e_wLV (by omega)) (fun r164 S165 hq166 => ?_)
      obtain ⟨z167, rfl, h168, h169, h170, h171, h172, mi173, e174, hI175, hF176, hR177⟩ := hq166
      have hF178 := hF.trans hF176 rfl rfl
      have hR179 := hR.trans hR177 rfl
      have e180 := wASx.fr e_wAS hF176 rfl rfl
      have e181 := wSDx.fr e_wSD hF176 rfl rfl
      have e182 := CRx.fr e_CR hF176 rfl rfl
      refine Or.inr (Or.inl ⟨rfl, ?_⟩)
      have h183 := hI175.f tf43_43
      have h184 : S165.f 43 43 = S.f 43 43 := hF176.f rfl
      refine r_call (i := 42) (u := 11) (v := 257) (w := 0) (b := 0) (na := 514) (C2 := xC257) (as := [(2, 43), vi z167]) (s := []) rfl rfl rfl rfl rfl rfl rfl (sp257 (v := z167) hI175 ⟨by omega, by omega⟩ (by omega)  (by omega)) (fun r185 S186 hq187 => ?_)
      obtain ⟨rfl, h188, h189, mq190, hI191, hF192, hR193⟩ := hq187
      have hF194 := hF178.trans hF192 rfl rfl
      have hR195 := hR179.trans hR193 rfl
      have e196 := wASx.fr e180 hF192 rfl rfl
      have e197 := wSDx.fr e181 hF192 rfl rfl
      have e198 := CRx.fr e182 hF192 rfl rfl
      have e199 := wLVx.fr e174 hF192 rfl rfl
      refine Or.inl ⟨rfl, ?_⟩
      refine r_iinc (i := 43) (u := 1) (v := 1) (s := 1) (L1 := [some ((2, 43)), some (vi (j + 1)), none, none]) rfl rfl rfl rfl rfl ?_
      refine r_goto (i := 44) (v := 31) rfl ?_
      have h200 := hI191.f tf43_43
      have h201 := hI191.f tf43_51
      have h202 : S186.f 43 51 = S165.f 43 51 := hF192.f rfl
      have h203 := wphi_nn hI191
      have h204 : wphi S186 = wphi S165 := wphiX.fr hF192 rfl rfl
      have h205 := wpsi_nn hI191
      have h206 : wpsi S186 = wpsi S165 := wpsiX.fr hF192 rfl rfl
      have h207 := hI191.f tf43_22
      have h208 : S186.f 43 22 = S0.f 43 22 := hF194.f rfl
      exact ih S186 hI191 hF194 hR195 e199 e196 e197 e198 (j + 1) ⟨by omega, by omega⟩ (by omega) (by omega) (by omega) (by omega) (by exact mE_c (mE_i q_4 mi173 mq190) (fun w9 => we0_eq (pkR_fr hF rfl) (by omega) (hF.a rfl _))) (by omega) (by omega)
set_option maxHeartbeats 4000000 in
/-- ProxyForgeModel.writeFile -/
theorem sp265 {G : xk} {S : yS} {d : Nat} (hI : yI S) (e_wAS : wAS S) (e_wSD : wSD S) (e_CR : CR S) (hd : 11 ≤ d) : yT xPr G LY xC265 0 [some ((2, 43))] [] S d (fun r S' => r = (0, (0, 0)) ∧ (hM S → fiQ S S') ∧ wAS S' ∧ wSD S' ∧ CR S' ∧ yI S' ∧ yFr [(43, 42), (43, 43), (43, 49), (43, 50), (43, 51), (43, 52), (43, 53)] [68, 71, 72, 73, 74, 75, 76, 77] S S' ∧ yRm [] S S') := by
  refine yT_pad 3 ?_
  show yT xPr G LY xC265 0 [some ((2, 43)), none, none, none] [] S d _
  obtain ⟨d, rfl⟩ : ∃ q, d = q + 1 := ⟨d - 1, by omega⟩
  have hF : yFr [(43, 42), (43, 43), (43, 49), (43, 50), (43, 51), (43, 52), (43, 53)] [68, 71, 72, 73, 74, 75, 76, 77] S S := yFr.refl S
  have hR : yRm [] S S := yRm.refl S
  refine r_load (i := 0) (u := 0) (w := 2) rfl rfl rfl ?_
  refine r_const (i := 1) (u := 0) (z := 0) rfl rfl ?_
  refine r_putI (i := 2) (v := 49) (w := 11) rfl ly43 rfl ⟨by omega, by omega⟩ ?_
  have hI2 := hI.setf (b := 43) (w := 49) (z := 0) tf43_49 rfl (by omega) (by omega)
  have hF4 := hF.setf (b := 43) (w := 49) (z := 0) rfl
  have hR5 := hR.setf (b := 43) (w := 49) (z := 0)
  have e6 := wASx.setf e_wAS (b := 43) (w := 49) (z := 0) rfl
  have e7 := wSDx.setf e_wSD (b := 43) (w := 49) (z := 0) rfl
  have e8 := CRx.setf e_CR (b := 43) (w := 49) (z := 0) rfl
  refine yT_gen (fun S1 hS3 => ?_)
  rw [hS3] at hI2 hF4 hR5 e6 e7 e8
  refine r_load (i := 3) (u := 0) (w := 2) rfl rfl rfl ?_
  refine r_const (i := 4) (u := 0) (z := 0) rfl rfl ?_
  refine r_putI (i := 5) (v := 50) (w := 11) rfl ly43 rfl ⟨by omega, by omega⟩ ?_
  have hI10 := hI2.setf (b := 43) (w := 50) (z := 0) tf43_50 rfl (by omega) (by omega)
  have hF12 := hF4.setf (b := 43) (w := 50) (z := 0) rfl
  have hR13 := hR5.setf (b := 43) (w := 50) (z := 0)
  have e14 := wASx.setf e6 (b := 43) (w := 50) (z := 0) rfl
  have e15 := wSDx.setf e7 (b := 43) (w := 50) (z := 0) rfl
  have e16 := CRx.setf e8 (b := 43) (w := 50) (z := 0) rfl
  refine yT_gen (fun S9 hS11 => ?_)
  rw [hS11] at hI10 hF12 hR13 e14 e15 e16
  refine r_load (i := 6) (u := 0) (w := 2) rfl rfl rfl ?_
  refine r_const (i := 7) (u := 0) (z := 0) rfl rfl ?_
  refine r_putI (i := 8) (v := 51) (w := 11) rfl ly43 rfl ⟨by omega, by omega⟩ ?_
  have hI18 := hI10.setf (b := 43) (w := 51) (z := 0) tf43_51 rfl (by omega) (by omega)
  have hF20 := hF12.setf (b := 43) (w := 51) (z := 0) rfl
  have hR21 := hR13.setf (b := 43) (w := 51) (z := 0)
  have e22 := wASx.setf e14 (b := 43) (w := 51) (z := 0) rfl
  have e23 := wSDx.setf e15 (b := 43) (w := 51) (z := 0) rfl
  have e24 := CRx.setf e16 (b := 43) (w := 51) (z := 0) rfl
  refine yT_gen (fun S17 hS19 => ?_)
  rw [hS19] at hI18 hF20 hR21 e22 e23 e24
  refine r_load (i := 9) (u := 0) (w := 2) rfl rfl rfl ?_
  refine r_const (i := 10) (u := 0) (z := 0) rfl rfl ?_
  refine r_putI (i := 11) (v := 43) (w := 11) rfl ly43 rfl ⟨by omega, by omega⟩ ?_
  have hI26 := hI18.setf (b := 43) (w := 43) (z := 0) tf43_43 rfl (by omega) (by omega)
  have hF28 := hF20.setf (b := 43) (w := 43) (z := 0) rfl
  have hR29 := hR21.setf (b := 43) (w := 43) (z := 0)
  have e30 := wASx.setf e22 (b := 43) (w := 43) (z := 0) rfl
  have e31 := wSDx.setf e23 (b := 43) (w := 43) (z := 0) rfl
  have e32 := CRx.setf e24 (b := 43) (w := 43) (z := 0) rfl
  refine yT_gen (fun S25 hS27 => ?_)
  rw [hS27] at hI26 hF28 hR29 e30 e31 e32
  have lv9 := wLV_0 (S := S25) (by subst_vars; rfl) (by subst_vars; rfl)
  have ph9 := wphi_0 (S := S25) (by subst_vars; rfl)
  have ps9 := wpsi_0 (S := S25) (by subst_vars; rfl)
  refine r_load (i := 12) (u := 0) (w := 2) rfl rfl rfl ?_
  refine r_const (i := 13) (u := 49) (z := 49) rfl rfl ?_
  have h33 := hI26.f tf43_43
  have h34 : S25.f 43 43 = 0 := by rw [← hS27]; exact ysf_eq
  refine r_call (i := 14) (u := 11) (v := 257) (w := 0) (b := 0) (na := 514) (C2 := xC257) (as := [(2, 43), vi 49]) (s := []) rfl rfl rfl rfl rfl rfl rfl (sp257 (v := 49) hI26 ⟨by omega, by omega⟩ (by omega)  (by omega)) (fun r35 S36 hq37 => ?_)
  obtain ⟨rfl, h38, h39, mq40, hI41, hF42, hR43⟩ := hq37
  have hF44 := hF28.trans hF42 rfl rfl
  have hR45 := hR29.trans hR43 rfl
  have e46 := wASx.fr e30 hF42 rfl rfl
  have e47 := wSDx.fr e31 hF42 rfl rfl
  have e48 := CRx.fr e32 hF42 rfl rfl
  have e49 := wLVx.fr lv9 hF42 rfl rfl
  refine Or.inl ⟨rfl, ?_⟩
  refine r_load (i := 15) (u := 0) (w := 2) rfl rfl rfl ?_
  refine r_load (i := 16) (u := 0) (w := 2) rfl rfl rfl ?_
  have h50 := hI41.f tf43_51
  have h51 : S36.f 43 51 = S25.f 43 51 := hF42.f rfl
  have h52 : S25.f 43 51 = S17.f 43 51 := by rw [← hS27]; exact ysf_ne (by decide)
  have h53 : S17.f 43 51 = 0 := by rw [← hS19]; exact ysf_eq
  have h54 := wphi_nn hI41
  have h55 : wphi S36 = wphi S25 := wphiX.fr hF42 rfl rfl
  have h56 : wphi S25 = wphi S17 := by rw [← hS27]; exact wphiX.setf rfl
  have h57 : wphi S17 = wphi S9 := by rw [← hS19]; exact wphiX.setf rfl
  have h58 : wphi S9 = wphi S1 := by rw [← hS11]; exact wphiX.setf rfl
  have h59 := wpsi_nn hI41
  have h60 : wpsi S36 = wpsi S25 := wpsiX.fr hF42 rfl rfl
  have h61 : wpsi S25 = wpsi S17 := by rw [← hS27]; exact wpsiX.setf rfl
  have h62 : wpsi S17 = wpsi S9 := by rw [← hS19]; exact wpsiX.setf rfl
  have h63 : wpsi S9 = wpsi S1 := by rw [← hS11]; exact wpsiX.setf rfl
  refine r_call (i := 17) (u := 11) (v := 233) (w := 0) (b := 0) (na := 257) (C2 := xC233) (as := [(2, 43)]) (s := [(2, 43)]) rfl rfl rfl rfl rfl rfl rfl (sp233  hI41  (by omega) (by omega) (by omega) e49 (by omega)) (fun r64 S65 hq66 => ?_)
  obtain ⟨z67, rfl, h68, h69, h70, h71, h72, mi73, e74, hI75, hF76, hR77⟩ := hq66
  have hF78 := hF44.trans hF76 rfl rfl
  have hR79 := hR45.trans hR77 rfl
  have e80 := wASx.fr e46 hF76 rfl rfl
  have e81 := wSDx.fr e47 hF76 rfl rfl
  have e82 := CRx.fr e48 hF76 rfl rfl
  refine Or.inr (Or.inl ⟨rfl, ?_⟩)
  have h83 := hI75.f tf43_43
  have h84 : S65.f 43 43 = S36.f 43 43 := hF76.f rfl
  refine r_call (i := 18) (u := 11) (v := 257) (w := 0) (b := 0) (na := 514) (C2 := xC257) (as := [(2, 43), vi z67]) (s := []) rfl rfl rfl rfl rfl rfl rfl (sp257 (v := z67) hI75 ⟨by omega, by omega⟩ (by omega)  (by omega)) (fun r85 S86 hq87 => ?_)
  obtain ⟨rfl, h88, h89, mq90, hI91, hF92, hR93⟩ := hq87
  have hF94 := hF78.trans hF92 rfl rfl
  have hR95 := hR79.trans hR93 rfl
  have e96 := wASx.fr e80 hF92 rfl rfl
  have e97 := wSDx.fr e81 hF92 rfl rfl
  have e98 := CRx.fr e82 hF92 rfl rfl
  have e99 := wLVx.fr e74 hF92 rfl rfl
  refine Or.inl ⟨rfl, ?_⟩
  refine r_load (i := 19) (u := 0) (w := 2) rfl rfl rfl ?_
  refine r_load (i := 20) (u := 0) (w := 2) rfl rfl rfl ?_
  refine r_load (i := 21) (u := 0) (w := 2) rfl rfl rfl ?_
  have h100 := hI91.f tf43_21
  have h101 : S86.f 43 21 = S.f 43 21 := hF94.f rfl
  refine r_getf (i := 22) (v := 21) (w := 11) (x := vi (S86.f 43 21)) rfl ly43 rfl rfl fun h102 => ?_
  have h102 : Rg (S86.f 43 21) := h102
  have h103 := hI91.f tf43_51
  have h104 : S86.f 43 51 = S65.f 43 51 := hF92.f rfl
  have h105 := wphi_nn hI91
  have h106 : wphi S86 = wphi S65 := wphiX.fr hF92 rfl rfl
  have h107 := wpsi_nn hI91
  have h108 : wpsi S86 = wpsi S65 := wpsiX.fr hF92 rfl rfl
  refine r_call (i := 23) (u := 11) (v := 193) (w := 0) (b := 0) (na := 514) (C2 := xC193) (as := [(2, 43), vi (S86.f 43 21)]) (s := [(2, 43)]) rfl rfl rfl rfl rfl rfl rfl (sp193 (t := S86.f 43 21) hI91 ⟨by omega, by omega⟩ (by omega) (by omega) (by omega) e99 (by omega)) (fun r109 S110 hq111 => ?_)
  obtain ⟨z112, rfl, h113, h114, h115, h116, h117, mi118, e119, hI120, hF121, hR122⟩ := hq111
  have hF123 := hF94.trans hF121 rfl rfl
  have hR124 := hR95.trans hR122 rfl
  have e125 := wASx.fr e96 hF121 rfl rfl
  have e126 := wSDx.fr e97 hF121 rfl rfl
  have e127 := CRx.fr e98 hF121 rfl rfl
  refine Or.inr (Or.inl ⟨rfl, ?_⟩)
  have h128 := hI120.f tf43_43
  have h129 : S110.f 43 43 = S86.f 43 43 := hF121.f rfl
  refine r_call (i := 24) (u := 11) (v := 257) (w := 0) (b := 0) (na := 514) (C2 := xC257) (as := [(2, 43), vi z112]) (s := []) rfl rfl rfl rfl rfl rfl rfl (sp257 (v := z112) hI120 ⟨by omega, by omega⟩ (by omega)  (by omega)) (fun r130 S131 hq132 => ?_)
  obtain ⟨rfl, h133, h134, mq135, hI136, hF137, hR138⟩ := hq132
  have hF139 := hF123.trans hF137 rfl rfl
  have hR140 := hR124.trans hR138 rfl
  have e141 := wASx.fr e125 hF137 rfl rfl
  have e142 := wSDx.fr e126 hF137 rfl rfl
  have e143 := CRx.fr e127 hF137 rfl rfl
  have e144 := wLVx.fr e119 hF137 rfl rfl
  refine Or.inl ⟨rfl, ?_⟩
  refine r_load (i := 25) (u := 0) (w := 2) rfl rfl rfl ?_
  refine r_load (i := 26) (u := 0) (w := 2) rfl rfl rfl ?_
  have h145 := hI136.f tf43_22
  have h146 : S131.f 43 22 = S.f 43 22 := hF139.f rfl
  refine r_getf (i := 27) (v := 22) (w := 11) (x := vi (S131.f 43 22)) rfl ly43 rfl rfl fun h147 => ?_
  have h147 : Rg (S131.f 43 22) := h147
  have h148 := hI136.f tf43_43
  refine r_call (i := 28) (u := 11) (v := 257) (w := 0) (b := 0) (na := 514) (C2 := xC257) (as := [(2, 43), vi (S131.f 43 22)]) (s := []) rfl rfl rfl rfl rfl rfl rfl (sp257 (v := S131.f 43 22) hI136 ⟨by omega, by omega⟩ (by omega)  (by omega)) (fun r149 S150 hq151 => ?_)
  obtain ⟨rfl, h152, h153, mq154, hI155, hF156, hR157⟩ := hq151
  have hF158 := hF139.trans hF156 rfl rfl
  have hR159 := hR140.trans hR157 rfl
  have e160 := wASx.fr e141 hF156 rfl rfl
  have e161 := wSDx.fr e142 hF156 rfl rfl
  have e162 := CRx.fr e143 hF156 rfl rfl
  have e163 := wLVx.fr e144 hF156 rfl rfl
  refine Or.inl ⟨rfl, ?_⟩
  refine r_const (i := 29) (u := 0) (z := 0) rfl rfl ?_
  refine r_store (i := 30) (u := 1) (w := 0) (L1 := [some ((2, 43)), some (vi 0), none, none]) rfl rfl rfl rfl ?_
  have h164 := hI155.f tf43_43
  have h165 := hI155.f tf43_51
  have h166 : S150.f 43 51 = S131.f 43 51 := hF156.f rfl
  have h167 : S131.f 43 51 = S110.f 43 51 := hF137.f rfl
  have h168 := wphi_nn hI155
  have h169 : wphi S150 = wphi S131 := wphiX.fr hF156 rfl rfl
  have h170 : wphi S131 = wphi S110 := wphiX.fr hF137 rfl rfl
  have h171 := wpsi_nn hI155
  have h172 : wpsi S150 = wpsi S131 := wpsiX.fr hF156 rfl rfl
  have h173 : wpsi S131 = wpsi S110 := wpsiX.fr hF137 rfl rfl
  have h174 := hI155.f tf43_22
  have h175 : S150.f 43 22 = S.f 43 22 := hF158.f rfl
  exact lp265_31   hd _ S150 hI155 hF158 hR159 e163 e160 e161 e162 0 ⟨by omega, by omega⟩ (by omega) (by omega) (by omega) (by omega) (by exact mE_c (mE_tr (mE_i (mE_i (mE_tr (mE_0 (S0 := S) (S := S25) (by rw [← hS27, ← hS19, ← hS11, ← hS3]; rfl) (by rw [← hS27, ← hS19, ← hS11, ← hS3]; rfl) (by rw [← hS27, ← hS19, ← hS11, ← hS3]; rfl) (fun j => by rw [← hS27, ← hS19, ← hS11, ← hS3]; rfl)) mq40) mi73 mq90) mi118 mq135) mq154) (fun w9 => bg1_m ((congrArg (fun z => S36.a 48 (Int.toNat z)) ((hF42.f (b := 43) (w := 21) rfl).trans ((show S25.f 43 21 = S17.f 43 21 by rw [← hS27]; rfl).trans ((show S17.f 43 21 = S9.f 43 21 by rw [← hS19]; rfl).trans ((show S9.f 43 21 = S1.f 43 21 by rw [← hS11]; rfl).trans (show S1.f 43 21 = S.f 43 21 by rw [← hS3]; rfl)))))).trans ((hF42.a (b := 48) rfl _).trans ((congrFun (show S25.a 48 = S17.a 48 by rw [← hS27]; rfl) _).trans ((congrFun (show S17.a 48 = S9.a 48 by rw [← hS19]; rfl) _).trans ((congrFun (show S9.a 48 = S1.a 48 by rw [← hS11]; rfl) _).trans (congrFun (show S1.a 48 = S.a 48 by rw [← hS3]; rfl) _)))))) ((pkR_fr (b := 48) hF92 rfl).trans ((pkR_fr (b := 48) hF76 rfl).trans ((pkR_fr (b := 48) hF42 rfl).trans ((show pkR 48 S25 = pkR 48 S17 by rw [← hS27]; rfl).trans ((show pkR 48 S17 = pkR 48 S9 by rw [← hS19]; rfl).trans ((show pkR 48 S9 = pkR 48 S1 by rw [← hS11]; rfl).trans (show pkR 48 S1 = pkR 48 S by rw [← hS3]; rfl))))))) ((hF92.f (b := 43) (w := 21) rfl).trans ((hF76.f (b := 43) (w := 21) rfl).trans ((hF42.f (b := 43) (w := 21) rfl).trans ((show S25.f 43 21 = S17.f 43 21 by rw [← hS27]; rfl).trans ((show S17.f 43 21 = S9.f 43 21 by rw [← hS19]; rfl).trans ((show S9.f 43 21 = S1.f 43 21 by rw [← hS11]; rfl).trans (show S1.f 43 21 = S.f 43 21 by rw [← hS3]; rfl))))))) (by omega))) (by omega) (Int.lt_succ_toNat _)
end XNC
