set_option linter.unusedVariables false
set_option maxRecDepth 4000
noncomputable section XNC
theorem lp266_197 {G : xk} {d : Nat} {S0 : yS} {k : Int} (h_k : 0 ≤ k ∧ k ≤ 23) (p_0 : S0.f 43 43 ≤ 23000) (p_1 : S0.f 43 51 = 0) (p_2 : wphi S0 ≤ 19000) (p_3 : wpsi S0 ≤ 1000) (hd : 10 ≤ d + 1) : ∀ (n : Nat), ∀ (S : yS) (hI : yI S) (hF : yFr [(43, 43), (43, 49), (43, 50), (43, 51), (43, 52), (43, 53)] [68, 72, 73, 74, 75, 76, 77] S0 S) (hR : yRm [] S0 S) (e_wLV : wLV S) (e_wAS : wAS S) (j : Int) (h_j : 0 ≤ j ∧ j ≤ 3) (q_0 : S0.f 43 43 ≤ S.f 43 43 ∧ S.f 43 43 ≤ S0.f 43 43 + 168 + 2 * j) (q_1 : S.f 43 51 = 0) (q_2 : wphi S ≤ wphi S0 + 320) (q_3 : wpsi S ≤ wpsi S0 + 17) (q_4 : S0.f 43 43 ≤ 23000 ∧ wphi S0 ≤ 19000 ∧ wpsi S0 ≤ 1000) (q_5 : wphi S + S.f 43 43 ≤ wphi S0 + S0.f 43 43 + 393 + 2 * j) (hn : 3 - j < (n : Nat)), yT xPr G LY xC266 197 [some ((2, 43)), some (vi k), none, none, none, none, some (vi j)] [] S (d + 1) (fun r S' => r = (0, (0, 0)) ∧ S0.f 43 43 ≤ S'.f 43 43 ∧ S'.f 43 43 ≤ S0.f 43 43 + 250 ∧ S'.f 43 51 = 0 ∧ wphi S' ≤ wphi S0 + 330 ∧ wpsi S' ≤ wpsi S0 + 17 ∧ wphi S' + S'.f 43 43 ≤ wphi S0 + S0.f 43 43 + 399 ∧ wLV S' ∧ wAS S' ∧ yI S' ∧ yFr [(43, 43), (43, 49), (43, 50), (43, 51), (43, 52), (43, 53)] [68, 72, 73, 74, 75, 76, 77] S0 S' ∧ yRm [] S0 S') := by
  intro n
  induction n with
  | zero => intro S hI hF hR e_wLV e_wAS j h_j q_0 q_1 q_2 q_3 q_4 q_5 hn; exact absurd hn (by omega)
  | succ n ih =>
    intro S hI hF hR e_wLV e_wAS j h_j q_0 q_1 q_2 q_3 q_4 q_5 hn
    have h1 := hI.f tf43_43
    have h2 := hI.f tf43_51
    have h3 := wphi_nn hI
    have h4 := wpsi_nn hI
    refine r_load (i := 197) (u := 6) (w := 0) rfl rfl rfl ?_
    refine r_load (i := 198) (u := 0) (w := 2) rfl rfl rfl ?_
    refine r_getf (i := 199) (v := 26) (w := 11) (x := (2, 63)) rfl ly43 rfl rfl fun _ => ?_
    refine r_load (i := 200) (u := 1) (w := 0) rfl rfl rfl ?_
    refine a_int (i := 201) rfl ly63 rfl (by omega) (by omega) fun h6 => ?_
    have h7 := hI.a ta63 k.toNat
    have h8 : S.a 63 k.toNat = S0.a 63 k.toNat := hF.a rfl _
    refine c_ge (i := 202) (v := 217) rfl ⟨by omega, by omega⟩ ⟨by omega, by omega⟩ (fun h9 => ?_) (fun h10 => ?_)
    · exact r_ret0 (i := 217) rfl ⟨rfl, (by omega), (by omega), (by omega), (by omega), (by omega), (by omega), e_wLV, e_wAS, hI, hF, hR⟩
    · refine r_load (i := 203) (u := 0) (w := 2) rfl rfl rfl ?_
      refine r_load (i := 204) (u := 0) (w := 2) rfl rfl rfl ?_
      refine r_load (i := 205) (u := 0) (w := 2) rfl rfl rfl ?_
      refine r_getf (i := 206) (v := 25) (w := 11) (x := (2, 62)) rfl ly43 rfl rfl fun _ => ?_
      refine r_const (i := 207) (u := 3) (z := 3) rfl rfl ?_
      refine r_load (i := 208) (u := 1) (w := 0) rfl rfl rfl ?_
      refine r_imul (i := 209) rfl ?_
      refine r_load (i := 210) (u := 6) (w := 0) rfl rfl rfl ?_
      refine r_iadd (i := 211) rfl ?_
      refine a_int (i := 212) rfl ly62 rfl (by omega) (by omega) fun h12 => ?_
      have h13 := hI.a ta62 ((3 * k) + j).toNat
      have h14 : S.a 62 ((3 * k) + j).toNat = S0.a 62 ((3 * k) + j).toNat := hF.a rfl _
      refine r_call (i := 213) (u := 11) (v := 193) (w := 0) (b := 0) (na := 514) (C2 := xC193) (as := [(2, 43), vi (S.a 62 ((3 * k) + j).toNat)]) (s := [(2, 43)]) rfl rfl rfl rfl rfl rfl rfl (sp193 (t := S.a 62 ((3 * k) + j).toNat) hI ⟨by omega, by omega⟩ (by omega) (by omega) (by omega) e_wLV (by omega)) (fun r15 S16 hq17 => ?_)
      obtain ⟨z18, rfl, h19, h20, h21, h22, h23, e24, hI25, hF26, hR27⟩ := hq17
      have hF28 := hF.trans hF26 rfl rfl
      have hR29 := hR.trans hR27 rfl
      have e30 := wASx.fr e_wAS hF26 rfl rfl
      refine Or.inr (Or.inl ⟨rfl, ?_⟩)
      have h31 := hI25.f tf43_43
      have h32 : S16.f 43 43 = S.f 43 43 := hF26.f rfl
      refine r_call (i := 214) (u := 11) (v := 257) (w := 0) (b := 0) (na := 514) (C2 := xC257) (as := [(2, 43), vi z18]) (s := []) rfl rfl rfl rfl rfl rfl rfl (sp257 (v := z18) hI25 ⟨by omega, by omega⟩ (by omega)  (by omega)) (fun r33 S34 hq35 => ?_)
      obtain ⟨rfl, h36, h37, hI38, hF39, hR40⟩ := hq35
      have hF41 := hF28.trans hF39 rfl rfl
      have hR42 := hR29.trans hR40 rfl
      have e43 := wASx.fr e30 hF39 rfl rfl
      have e44 := wLVx.fr e24 hF39 rfl rfl
      refine Or.inl ⟨rfl, ?_⟩
      refine r_iinc (i := 215) (u := 1) (v := 6) (s := 1) (L1 := [some ((2, 43)), some (vi k), none, none, none, none, some (vi (j + 1))]) rfl rfl rfl rfl rfl ?_
      refine r_goto (i := 216) (v := 197) rfl ?_
      have h45 := hI38.f tf43_43
      have h46 := hI38.f tf43_51
      have h47 : S34.f 43 51 = S16.f 43 51 := hF39.f rfl
      have h48 := wphi_nn hI38
      have h49 : wphi S34 = wphi S16 := wphiX.fr hF39 rfl rfl
      have h50 := wpsi_nn hI38
      have h51 : wpsi S34 = wpsi S16 := wpsiX.fr hF39 rfl rfl
      exact ih S34 hI38 hF41 hR42 e44 e43 (j + 1) ⟨by omega, by omega⟩ (by omega) (by omega) (by omega) (by omega) (by omega) (by omega) (by omega)
theorem lp266_168 {G : xk} {d : Nat} {S0 : yS} {k : Int} (h_k : 0 ≤ k ∧ k ≤ 23) (p_0 : S0.f 43 43 ≤ 23000) (p_1 : S0.f 43 51 = 0) (p_2 : wphi S0 ≤ 19000) (p_3 : wpsi S0 ≤ 1000) (hd : 10 ≤ d + 1) : ∀ (S : yS) (hI : yI S) (hF : yFr [(43, 43), (43, 49), (43, 50), (43, 51), (43, 52), (43, 53)] [68, 72, 73, 74, 75, 76, 77] S0 S) (hR : yRm [] S0 S) (e_wLV : wLV S) (e_wAS : wAS S)  (q_0 : S0.f 43 43 ≤ S.f 43 43 ∧ S.f 43 43 ≤ S0.f 43 43 + 160) (q_1 : S.f 43 51 = 0) (q_2 : wphi S ≤ wphi S0 + 320) (q_3 : wpsi S ≤ wpsi S0 + 17) (q_4 : S0.f 43 43 ≤ 23000 ∧ wphi S0 ≤ 19000 ∧ wpsi S0 ≤ 1000) (q_5 : wphi S + S.f 43 43 ≤ wphi S0 + S0.f 43 43 + 385), yT xPr G LY xC266 168 [some ((2, 43)), some (vi k), none, none, none, none, none] [] S (d + 1) (fun r S' => r = (0, (0, 0)) ∧ S0.f 43 43 ≤ S'.f 43 43 ∧ S'.f 43 43 ≤ S0.f 43 43 + 250 ∧ S'.f 43 51 = 0 ∧ wphi S' ≤ wphi S0 + 330 ∧ wpsi S' ≤ wpsi S0 + 17 ∧ wphi S' + S'.f 43 43 ≤ wphi S0 + S0.f 43 43 + 399 ∧ wLV S' ∧ wAS S' ∧ yI S' ∧ yFr [(43, 43), (43, 49), (43, 50), (43, 51), (43, 52), (43, 53)] [68, 72, 73, 74, 75, 76, 77] S0 S' ∧ yRm [] S0 S') := by
  intro S hI hF hR e_wLV e_wAS   q_0 q_1 q_2 q_3 q_4 q_5
  have h1 := hI.f tf43_43
  have h2 := hI.f tf43_51
  have h3 := wphi_nn hI
  have h4 := wpsi_nn hI
  refine r_load (i := 168) (u := 0) (w := 2) rfl rfl rfl ?_
  refine r_getf (i := 169) (v := 26) (w := 11) (x := (2, 63)) rfl ly43 rfl rfl fun _ => ?_
  refine r_load (i := 170) (u := 1) (w := 0) rfl rfl rfl ?_
  refine a_int (i := 171) rfl ly63 rfl (by omega) (by omega) fun h6 => ?_
  have h7 := hI.a ta63 k.toNat
  have h8 : S.a 63 k.toNat = S0.a 63 k.toNat := hF.a rfl _
  refine z_ne (i := 172) (v := 174) rfl ⟨by omega, by omega⟩ (fun h9 => ?_) (fun h10 => ?_)
  · refine r_load (i := 174) (u := 0) (w := 2) rfl rfl rfl ?_
    refine r_load (i := 175) (u := 0) (w := 2) rfl rfl rfl ?_
    refine r_str (i := 176) (v := 72) rfl ?_
    have h11 := slv72
    refine r_call (i := 177) (u := 11) (v := 252) (w := 0) (b := 0) (na := 514) (C2 := xC252) (as := [(2, 43), (6, 72)]) (s := [(2, 43)]) rfl rfl rfl rfl rfl rfl rfl (sp252 (s := 72) hI ⟨by decide, by decide⟩ (by omega) (by omega) (by omega) (by omega) e_wLV (by omega)) (fun r12 S13 hq14 => ?_)
    obtain ⟨z15, rfl, h16, h17, h18, h19, h20, fm21, e22, hI23, hF24, hR25⟩ := hq14
    have hF26 := hF.trans hF24 rfl rfl
    have hR27 := hR.trans hR25 rfl
    have e28 := wASx.fr e_wAS hF24 rfl rfl
    refine Or.inr (Or.inl ⟨rfl, ?_⟩)
    have h29 := hI23.f tf43_43
    have h30 : S13.f 43 43 = S.f 43 43 := hF24.f rfl
    refine r_call (i := 178) (u := 11) (v := 257) (w := 0) (b := 0) (na := 514) (C2 := xC257) (as := [(2, 43), vi z15]) (s := []) rfl rfl rfl rfl rfl rfl rfl (sp257 (v := z15) hI23 ⟨by omega, by omega⟩ (by omega)  (by omega)) (fun r31 S32 hq33 => ?_)
    obtain ⟨rfl, h34, h35, hI36, hF37, hR38⟩ := hq33
    have hF39 := hF26.trans hF37 rfl rfl
    have hR40 := hR27.trans hR38 rfl
    have e41 := wASx.fr e28 hF37 rfl rfl
    have e42 := wLVx.fr e22 hF37 rfl rfl
    refine Or.inl ⟨rfl, ?_⟩
    refine r_load (i := 179) (u := 0) (w := 2) rfl rfl rfl ?_
    refine r_const (i := 180) (u := 2) (z := 2) rfl rfl ?_
    refine r_const (i := 181) (u := 2) (z := 2) rfl rfl ?_
    refine r_load (i := 182) (u := 0) (w := 2) rfl rfl rfl ?_
    refine r_getf (i := 183) (v := 26) (w := 11) (x := (2, 63)) rfl ly43 rfl rfl fun _ => ?_
    refine r_load (i := 184) (u := 1) (w := 0) rfl rfl rfl ?_
    refine a_int (i := 185) rfl ly63 rfl (by omega) (by omega) fun h44 => ?_
    have h45 := hI36.a ta63 k.toNat
    have h46 : S32.a 63 k.toNat = S0.a 63 k.toNat := hF39.a rfl _
    refine r_imul (i := 186) rfl ?_
    refine r_iadd (i := 187) rfl ?_
    have h47 := hI36.f tf43_43
    refine r_call (i := 188) (u := 11) (v := 204) (w := 0) (b := 0) (na := 514) (C2 := xC204) (as := [(2, 43), vi (2 + (2 * (S32.a 63 k.toNat)))]) (s := []) rfl rfl rfl rfl rfl rfl rfl (sp204 (v := 2 + (2 * (S32.a 63 k.toNat))) hI36 ⟨by omega, by omega⟩ (by omega)  (by omega)) (fun r48 S49 hq50 => ?_)
    obtain ⟨rfl, h51, h52, hI53, hF54, hR55⟩ := hq50
    have hF56 := hF39.trans hF54 rfl rfl
    have hR57 := hR40.trans hR55 rfl
    have e58 := wASx.fr e41 hF54 rfl rfl
    have e59 := wLVx.fr e42 hF54 rfl rfl
    refine Or.inl ⟨rfl, ?_⟩
    refine r_load (i := 189) (u := 0) (w := 2) rfl rfl rfl ?_
    refine r_load (i := 190) (u := 0) (w := 2) rfl rfl rfl ?_
    refine r_getf (i := 191) (v := 26) (w := 11) (x := (2, 63)) rfl ly43 rfl rfl fun _ => ?_
    refine r_load (i := 192) (u := 1) (w := 0) rfl rfl rfl ?_
    refine a_int (i := 193) rfl ly63 rfl (by omega) (by omega) fun h61 => ?_
    have h62 := hI53.a ta63 k.toNat
    have h63 : S49.a 63 k.toNat = S0.a 63 k.toNat := hF56.a rfl _
    have h64 := hI53.f tf43_43
    refine r_call (i := 194) (u := 11) (v := 257) (w := 0) (b := 0) (na := 514) (C2 := xC257) (as := [(2, 43), vi (S49.a 63 k.toNat)]) (s := []) rfl rfl rfl rfl rfl rfl rfl (sp257 (v := S49.a 63 k.toNat) hI53 ⟨by omega, by omega⟩ (by omega)  (by omega)) (fun r65 S66 hq67 => ?_)
    obtain ⟨rfl, h68, h69, hI70, hF71, hR72⟩ := hq67
    have hF73 := hF56.trans hF71 rfl rfl
    have hR74 := hR57.trans hR72 rfl
    have e75 := wASx.fr e58 hF71 rfl rfl
    have e76 := wLVx.fr e59 hF71 rfl rfl
    refine Or.inl ⟨rfl, ?_⟩
    refine r_const (i := 195) (u := 0) (z := 0) rfl rfl ?_
    refine r_store (i := 196) (u := 6) (w := 0) (L1 := [some ((2, 43)), some (vi k), none, none, none, none, some (vi 0)]) rfl rfl rfl rfl ?_
    have h77 := hI70.f tf43_43
    have h78 := hI70.f tf43_51
    have h79 : S66.f 43 51 = S49.f 43 51 := hF71.f rfl
    have h80 : S49.f 43 51 = S32.f 43 51 := hF54.f rfl
    have h81 : S32.f 43 51 = S13.f 43 51 := hF37.f rfl
    have h82 := wphi_nn hI70
    have h83 : wphi S66 = wphi S49 := wphiX.fr hF71 rfl rfl
    have h84 : wphi S49 = wphi S32 := wphiX.fr hF54 rfl rfl
    have h85 : wphi S32 = wphi S13 := wphiX.fr hF37 rfl rfl
    have h86 := wpsi_nn hI70
    have h87 : wpsi S66 = wpsi S49 := wpsiX.fr hF71 rfl rfl
    have h88 : wpsi S49 = wpsi S32 := wpsiX.fr hF54 rfl rfl
    have h89 : wpsi S32 = wpsi S13 := wpsiX.fr hF37 rfl rfl
    exact lp266_197 h_k p_0 p_1 p_2 p_3 hd _ S66 hI70 hF73 hR74 e76 e75 0 ⟨by omega, by omega⟩ (by omega) (by omega) (by omega) (by omega) (by omega) (by omega) (Int.lt_succ_toNat _)
  · exact r_ret0 (i := 173) rfl ⟨rfl, (by omega), (by omega), (by omega), (by omega), (by omega), (by omega), e_wLV, e_wAS, hI, hF, hR⟩
theorem lp266_159 {G : xk} {d : Nat} {S0 : yS} {k : Int} (h_k : 0 ≤ k ∧ k ≤ 23) (p_0 : S0.f 43 43 ≤ 23000) (p_1 : S0.f 43 51 = 0) (p_2 : wphi S0 ≤ 19000) (p_3 : wpsi S0 ≤ 1000) (hd : 10 ≤ d + 1) : ∀ (S : yS) (hI : yI S) (hF : yFr [(43, 43), (43, 49), (43, 50), (43, 51), (43, 52), (43, 53)] [68, 72, 73, 74, 75, 76, 77] S0 S) (hR : yRm [] S0 S) (e_wLV : wLV S) (e_wAS : wAS S) (hs bg h : Int) (h_hs : 0 ≤ hs ∧ hs ≤ 1) (h_bg : 0 ≤ bg ∧ bg ≤ 23200) (h_h : 0 ≤ h ∧ h ≤ 23500) (q_0 : S0.f 43 43 ≤ S.f 43 43 ∧ S.f 43 43 ≤ S0.f 43 43 + 90) (q_1 : S.f 43 51 = 0) (q_2 : wphi S ≤ wphi S0 + 320) (q_3 : wpsi S ≤ wpsi S0 + 17) (q_4 : S0.f 43 43 ≤ 23000 ∧ wphi S0 ≤ 19000 ∧ wpsi S0 ≤ 1000) (q_5 : wphi S + S.f 43 43 ≤ wphi S0 + S0.f 43 43 + 375) (q_6 : bg + 14 ≤ S.f 43 43) (q_7 : hs = 1 → wphi S + S.f 43 43 ≤ wphi S0 + S0.f 43 43 + 315), yT xPr G LY xC266 159 [some ((2, 43)), some (vi k), none, some (vi hs), some (vi bg), some (vi h), none] [] S (d + 1) (fun r S' => r = (0, (0, 0)) ∧ S0.f 43 43 ≤ S'.f 43 43 ∧ S'.f 43 43 ≤ S0.f 43 43 + 250 ∧ S'.f 43 51 = 0 ∧ wphi S' ≤ wphi S0 + 330 ∧ wpsi S' ≤ wpsi S0 + 17 ∧ wphi S' + S'.f 43 43 ≤ wphi S0 + S0.f 43 43 + 399 ∧ wLV S' ∧ wAS S' ∧ yI S' ∧ yFr [(43, 43), (43, 49), (43, 50), (43, 51), (43, 52), (43, 53)] [68, 72, 73, 74, 75, 76, 77] S0 S' ∧ yRm [] S0 S') := by
  intro S hI hF hR e_wLV e_wAS hs bg h h_hs h_bg h_h q_0 q_1 q_2 q_3 q_4 q_5 q_6 q_7
  have h1 := hI.f tf43_43
  have h2 := hI.f tf43_51
  have h3 := wphi_nn hI
  have h4 := wpsi_nn hI
  refine r_load (i := 159) (u := 0) (w := 2) rfl rfl rfl ?_
  refine r_load (i := 160) (u := 4) (w := 0) rfl rfl rfl ?_
  refine r_load (i := 161) (u := 3) (w := 0) rfl rfl rfl ?_
  refine z_eq (i := 162) (v := 165) rfl ⟨by omega, by omega⟩ (fun h5 => ?_) (fun h6 => ?_)
  · refine r_const (i := 165) (u := 4294967295) (z := -1) rfl rfl ?_
    refine r_load (i := 166) (u := 1) (w := 0) rfl rfl rfl ?_
    refine r_call (i := 167) (u := 11) (v := 198) (w := 0) (b := 0) (na := 2052) (C2 := xC198) (as := [(2, 43), vi bg, vi (-1), vi k]) (s := []) rfl rfl rfl rfl rfl rfl rfl (sp198 (bg := bg) (h := -1) (k := k) hI ⟨by omega, by omega⟩ ⟨by omega, by omega⟩ ⟨by omega, by omega⟩ (by omega) (by omega) (by omega) (by omega) (by omega) e_wLV (by omega)) (fun r7 S8 hq9 => ?_)
    obtain ⟨rfl, h10, h11, h12, h13, h14, h15, e16, hI17, hF18, hR19⟩ := hq9
    have hF20 := hF.trans hF18 rfl rfl
    have hR21 := hR.trans hR19 rfl
    have e22 := wASx.fr e_wAS hF18 rfl rfl
    refine Or.inl ⟨rfl, ?_⟩
    refine yT_drop (L1 := [some ((2, 43)), some (vi k), none, none, none, none, none]) rfl ?_
    have h23 := hI17.f tf43_43
    have h24 := hI17.f tf43_51
    have h25 := wphi_nn hI17
    have h26 := wpsi_nn hI17
    exact lp266_168 h_k p_0 p_1 p_2 p_3 hd S8 hI17 hF20 hR21 e16 e22   (by omega) (by omega) (by omega) (by omega) (by omega) (by omega) 
  · refine r_load (i := 163) (u := 5) (w := 0) rfl rfl rfl ?_
    refine r_goto (i := 164) (v := 166) rfl ?_
    refine r_load (i := 166) (u := 1) (w := 0) rfl rfl rfl ?_
    refine r_call (i := 167) (u := 11) (v := 198) (w := 0) (b := 0) (na := 2052) (C2 := xC198) (as := [(2, 43), vi bg, vi h, vi k]) (s := []) rfl rfl rfl rfl rfl rfl rfl (sp198 (bg := bg) (h := h) (k := k) hI ⟨by omega, by omega⟩ ⟨by omega, by omega⟩ ⟨by omega, by omega⟩ (by omega) (by omega) (by omega) (by omega) (by omega) e_wLV (by omega)) (fun r27 S28 hq29 => ?_)
    obtain ⟨rfl, h30, h31, h32, h33, h34, h35, e36, hI37, hF38, hR39⟩ := hq29
    have hF40 := hF.trans hF38 rfl rfl
    have hR41 := hR.trans hR39 rfl
    have e42 := wASx.fr e_wAS hF38 rfl rfl
    refine Or.inl ⟨rfl, ?_⟩
    refine yT_drop (L1 := [some ((2, 43)), some (vi k), none, none, none, none, none]) rfl ?_
    have h43 := hI37.f tf43_43
    have h44 := hI37.f tf43_51
    have h45 := wphi_nn hI37
    have h46 := wpsi_nn hI37
    exact lp266_168 h_k p_0 p_1 p_2 p_3 hd S28 hI37 hF40 hR41 e36 e42   (by omega) (by omega) (by omega) (by omega) (by omega) (by omega) 
theorem lp266_143 {G : xk} {d : Nat} {S0 : yS} {k : Int} (h_k : 0 ≤ k ∧ k ≤ 23) (p_0 : S0.f 43 43 ≤ 23000) (p_1 : S0.f 43 51 = 0) (p_2 : wphi S0 ≤ 19000) (p_3 : wpsi S0 ≤ 1000) (hd : 10 ≤ d + 1) : ∀ (S : yS) (hI : yI S) (hF : yFr [(43, 43), (43, 49), (43, 50), (43, 51), (43, 52), (43, 53)] [68, 72, 73, 74, 75, 76, 77] S0 S) (hR : yRm [] S0 S) (e_wLV : wLV S) (e_wAS : wAS S) (m hs bg : Int) (h_m : 0 ≤ m ∧ m ≤ 59) (h_hs : 0 ≤ hs ∧ hs ≤ 1) (h_bg : 0 ≤ bg ∧ bg ≤ 23200) (q_0 : S0.f 43 43 ≤ S.f 43 43 ∧ S.f 43 43 ≤ S0.f 43 43 + 77) (q_1 : S.f 43 51 = 0) (q_2 : wphi S ≤ wphi S0 + 320) (q_3 : wpsi S ≤ wpsi S0 + 15) (q_4 : S0.f 43 43 ≤ 23000 ∧ wphi S0 ≤ 19000 ∧ wpsi S0 ≤ 1000) (q_5 : wphi S + S.f 43 43 ≤ wphi S0 + S0.f 43 43 + 375) (q_6 : bg + 14 ≤ S.f 43 43) (q_7 : hs = 1 → wphi S + S.f 43 43 ≤ wphi S0 + S0.f 43 43 + 292) (q_8 : hs = 0 ∨ wphi S ≤ wphi S0 + 215), yT xPr G LY xC266 143 [some ((2, 43)), some (vi k), some (vi m), some (vi hs), some (vi bg), none, none] [] S (d + 1) (fun r S' => r = (0, (0, 0)) ∧ S0.f 43 43 ≤ S'.f 43 43 ∧ S'.f 43 43 ≤ S0.f 43 43 + 250 ∧ S'.f 43 51 = 0 ∧ wphi S' ≤ wphi S0 + 330 ∧ wpsi S' ≤ wpsi S0 + 17 ∧ wphi S' + S'.f 43 43 ≤ wphi S0 + S0.f 43 43 + 399 ∧ wLV S' ∧ wAS S' ∧ yI S' ∧ yFr [(43, 43), (43, 49), (43, 50), (43, 51), (43, 52), (43, 53)] [68, 72, 73, 74, 75, 76, 77] S0 S' ∧ yRm [] S0 S') := by
  intro S hI hF hR e_wLV e_wAS m hs bg h_m h_hs h_bg q_0 q_1 q_2 q_3 q_4 q_5 q_6 q_7 q_8
  have h1 := hI.f tf43_43
  have h2 := hI.f tf43_51
  have h3 := wphi_nn hI
  have h4 := wpsi_nn hI
  refine r_load (i := 143) (u := 0) (w := 2) rfl rfl rfl ?_
  refine r_getf (i := 144) (v := 43) (w := 11) (x := vi (S.f 43 43)) rfl ly43 rfl rfl fun h5 => ?_
  have h5 : Rg (S.f 43 43) := h5
  refine r_load (i := 145) (u := 4) (w := 0) rfl rfl rfl ?_
  refine r_isub (i := 146) rfl ?_
  refine r_const (i := 147) (u := 14) (z := 14) rfl rfl ?_
  refine r_isub (i := 148) rfl ?_
  refine r_store (i := 149) (u := 5) (w := 0) (L1 := [some ((2, 43)), some (vi k), some (vi m), some (vi hs), some (vi bg), some (vi (((S.f 43 43) - bg) - 14)), none]) rfl rfl rfl rfl ?_
  refine r_load (i := 150) (u := 3) (w := 0) rfl rfl rfl ?_
  refine z_eq (i := 151) (v := 159) rfl ⟨by omega, by omega⟩ (fun h6 => ?_) (fun h7 => ?_)
  · refine yT_drop (L1 := [some ((2, 43)), some (vi k), none, some (vi hs), some (vi bg), some (vi (((S.f 43 43) - bg) - 14)), none]) rfl ?_
    exact lp266_159 h_k p_0 p_1 p_2 p_3 hd S hI hF hR e_wLV e_wAS hs bg (((S.f 43 43) - bg) - 14) ⟨by omega, by omega⟩ ⟨by omega, by omega⟩ ⟨by omega, by omega⟩ (by omega) (by omega) (by omega) (by omega) (by omega) (by omega) (by omega) (by omega) 
  · refine r_load (i := 152) (u := 0) (w := 2) rfl rfl rfl ?_
    refine r_const (i := 153) (u := 1) (z := 1) rfl rfl ?_
    refine r_load (i := 154) (u := 0) (w := 2) rfl rfl rfl ?_
    refine r_load (i := 155) (u := 2) (w := 0) rfl rfl rfl ?_
    refine r_call (i := 156) (u := 11) (v := 263) (w := 0) (b := 0) (na := 1026) (C2 := xC263) (as := [(2, 43), vi m]) (s := [vi 1, (2, 43)]) rfl rfl rfl rfl rfl rfl rfl (sp263 (m := m) hI ⟨by omega, by omega⟩   (by omega)) (fun r8 S9 hq10 => ?_)
    obtain ⟨z11, rfl, h12, h13, rfl⟩ := hq10
    refine Or.inr (Or.inl ⟨rfl, ?_⟩)
    refine r_iadd (i := 157) rfl ?_
    refine r_call (i := 158) (u := 11) (v := 254) (w := 0) (b := 0) (na := 770) (C2 := xC254) (as := [(2, 43), vi (1 + z11)]) (s := []) rfl rfl rfl rfl rfl rfl rfl (sp254 (lc := 1 + z11) hI ⟨by omega, by omega⟩ (by omega) (by omega) (by omega) (by omega) e_wLV (by omega)) (fun r14 S15 hq16 => ?_)
    obtain ⟨rfl, h17, h18, h19, h20, h21, e22, hI23, hF24, hR25⟩ := hq16
    have hF26 := hF.trans hF24 rfl rfl
    have hR27 := hR.trans hR25 rfl
    have e28 := wASx.fr e_wAS hF24 rfl rfl
    refine Or.inl ⟨rfl, ?_⟩
    refine yT_drop (L1 := [some ((2, 43)), some (vi k), none, some (vi hs), some (vi bg), some (vi (((S.f 43 43) - bg) - 14)), none]) rfl ?_
    have h29 := hI23.f tf43_43
    have h30 := hI23.f tf43_51
    have h31 := wphi_nn hI23
    have h32 := wpsi_nn hI23
    exact lp266_159 h_k p_0 p_1 p_2 p_3 hd S15 hI23 hF26 hR27 e22 e28 hs bg (((S.f 43 43) - bg) - 14) ⟨by omega, by omega⟩ ⟨by omega, by omega⟩ ⟨by omega, by omega⟩ (by omega) (by omega) (by omega) (by omega) (by omega) (by omega) (by omega) (by omega) 
theorem lp266_117 {G : xk} {d : Nat} {S0 : yS} {k : Int} (h_k : 0 ≤ k ∧ k ≤ 23) (p_0 : S0.f 43 43 ≤ 23000) (p_1 : S0.f 43 51 = 0) (p_2 : wphi S0 ≤ 19000) (p_3 : wpsi S0 ≤ 1000) (hd : 10 ≤ d + 1) : ∀ (S : yS) (hI : yI S) (hF : yFr [(43, 43), (43, 49), (43, 50), (43, 51), (43, 52), (43, 53)] [68, 72, 73, 74, 75, 76, 77] S0 S) (hR : yRm [] S0 S) (e_wLV : wLV S) (e_wAS : wAS S) (m : Int) (hs : Int) (bg : Int) (s9 : Nat) (h_m : 0 ≤ m ∧ m ≤ 59) (h_hs : 0 ≤ hs ∧ hs ≤ 1) (h_bg : 0 ≤ bg ∧ bg ≤ 23200) (h_s9 : yStr s9) (g_s9 : 39 ≤ s9) (q_0 : S0.f 43 43 ≤ S.f 43 43 ∧ S.f 43 43 ≤ S0.f 43 43 + 28) (q_1 : S.f 43 51 = 0) (q_2 : wphi S ≤ wphi S0 + 155) (q_3 : wpsi S ≤ wpsi S0 + 3) (q_4 : S0.f 43 43 ≤ 23000 ∧ wphi S0 ≤ 19000 ∧ wpsi S0 ≤ 1000) (q_5 : hs = 0) (q_6 : bg + 14 ≤ S.f 43 43), yT xPr G LY xC266 117 [some ((2, 43)), some (vi k), some (vi m), some (vi hs), some (vi bg), none, none] [(6, s9), (2, 43)] S (d + 1) (fun r S' => r = (0, (0, 0)) ∧ S0.f 43 43 ≤ S'.f 43 43 ∧ S'.f 43 43 ≤ S0.f 43 43 + 250 ∧ S'.f 43 51 = 0 ∧ wphi S' ≤ wphi S0 + 330 ∧ wpsi S' ≤ wpsi S0 + 17 ∧ wphi S' + S'.f 43 43 ≤ wphi S0 + S0.f 43 43 + 399 ∧ wLV S' ∧ wAS S' ∧ yI S' ∧ yFr [(43, 43), (43, 49), (43, 50), (43, 51), (43, 52), (43, 53)] [68, 72, 73, 74, 75, 76, 77] S0 S' ∧ yRm [] S0 S') := by
  intro S hI hF hR e_wLV e_wAS m hs bg s9 h_m h_hs h_bg h_s9 g_s9 q_0 q_1 q_2 q_3 q_4 q_5 q_6
  have h1 := hI.f tf43_43
  have h2 := hI.f tf43_51
  have h3 := wphi_nn hI
  have h4 := wpsi_nn hI
  refine r_str (i := 117) (v := 69) rfl ?_
  have h5 := slv69
  refine r_const (i := 118) (u := 2) (z := 2) rfl rfl ?_
  refine r_call (i := 119) (u := 11) (v := 183) (w := 0) (b := 0) (na := 1028) (C2 := xC183) (as := [(2, 43), (6, s9), (6, 69), vi 2]) (s := []) rfl rfl rfl rfl rfl rfl rfl (sp183 (s1 := s9) (s2 := 69) (n1 := 2) hI h_s9 ⟨by decide, by decide⟩ ⟨by omega, by omega⟩ (by omega) (by omega) (by omega) (by omega) (by omega) (by omega) e_wLV (by omega)) (fun r6 S7 hq8 => ?_)
  obtain ⟨rfl, h9, h10, h11, h12, h13, e14, hI15, hF16, hR17⟩ := hq8
  have hF18 := hF.trans hF16 rfl rfl
  have hR19 := hR.trans hR17 rfl
  have e20 := wASx.fr e_wAS hF16 rfl rfl
  refine Or.inl ⟨rfl, ?_⟩
  refine r_load (i := 120) (u := 0) (w := 2) rfl rfl rfl ?_
  refine r_getf (i := 121) (v := 24) (w := 11) (x := (2, 61)) rfl ly43 rfl rfl fun _ => ?_
  refine r_load (i := 122) (u := 1) (w := 0) rfl rfl rfl ?_
  refine a_int (i := 123) rfl ly61 rfl (by omega) (by omega) fun h22 => ?_
  have h23 := hI15.a ta61 k.toNat
  have h24 : S7.a 61 k.toNat = S0.a 61 k.toNat := hF18.a rfl _
  refine r_const (i := 124) (u := 1) (z := 1) rfl rfl ?_
  refine c_ne (i := 125) (v := 133) rfl ⟨by omega, by omega⟩ ⟨by omega, by omega⟩ (fun h25 => ?_) (fun h26 => ?_)
  · refine r_load (i := 133) (u := 0) (w := 2) rfl rfl rfl ?_
    refine r_load (i := 134) (u := 0) (w := 2) rfl rfl rfl ?_
    refine r_getf (i := 135) (v := 11) (w := 11) (x := (2, 52)) rfl ly43 rfl rfl fun _ => ?_
    refine r_load (i := 136) (u := 2) (w := 0) rfl rfl rfl ?_
    refine a_int (i := 137) rfl ly52 rfl (by omega) (by omega) fun h28 => ?_
    have h29 := hI15.a ta52 m.toNat
    have h30 : S7.a 52 m.toNat = S0.a 52 m.toNat := hF18.a rfl _
    have h31 := hI15.f tf43_43
    have h32 := hI15.f tf43_51
    have h33 := wphi_nn hI15
    have h34 := wpsi_nn hI15
    refine r_call (i := 138) (u := 11) (v := 190) (w := 0) (b := 0) (na := 514) (C2 := xC190) (as := [(2, 43), vi (S7.a 52 m.toNat)]) (s := []) rfl rfl rfl rfl rfl rfl rfl (sp190 (t := S7.a 52 m.toNat) hI15 ⟨by omega, by omega⟩ (by omega) (by omega) (by omega) (by omega) e14 (by omega)) (fun r35 S36 hq37 => ?_)
    obtain ⟨rfl, h38, h39, h40, h41, h42, e43, hI44, hF45, hR46⟩ := hq37
    have hF47 := hF18.trans hF45 rfl rfl
    have hR48 := hR19.trans hR46 rfl
    have e49 := wASx.fr e20 hF45 rfl rfl
    refine Or.inl ⟨rfl, ?_⟩
    refine r_load (i := 139) (u := 0) (w := 2) rfl rfl rfl ?_
    refine r_load (i := 140) (u := 1) (w := 0) rfl rfl rfl ?_
    refine r_load (i := 141) (u := 2) (w := 0) rfl rfl rfl ?_
    have h50 := hI44.f tf43_43
    have h51 := hI44.f tf43_51
    have h52 := wphi_nn hI44
    have h53 := wpsi_nn hI44
    refine r_call (i := 142) (u := 11) (v := 189) (w := 0) (b := 0) (na := 1539) (C2 := xC189) (as := [(2, 43), vi k, vi m]) (s := []) rfl rfl rfl rfl rfl rfl rfl (sp189 (k := k) (m := m) hI44 ⟨by omega, by omega⟩ ⟨by omega, by omega⟩ (by omega) (by omega) (by omega) (by omega) e43 e49 (by omega)) (fun r54 S55 hq56 => ?_)
    obtain ⟨rfl, h57, h58, h59, h60, h61, e62, e63, hI64, hF65, hR66⟩ := hq56
    have hF67 := hF47.trans hF65 rfl rfl
    have hR68 := hR48.trans hR66 rfl
    refine Or.inl ⟨rfl, ?_⟩
    have h69 := hI64.f tf43_43
    have h70 := hI64.f tf43_51
    have h71 := wphi_nn hI64
    have h72 := wpsi_nn hI64
    exact lp266_143 h_k p_0 p_1 p_2 p_3 hd S55 hI64 hF67 hR68 e62 e63 m hs bg ⟨by omega, by omega⟩ ⟨by omega, by omega⟩ ⟨by omega, by omega⟩ (by omega) (by omega) (by omega) (by omega) (by omega) (by omega) (by omega) (by omega) (by omega) 
  · refine r_load (i := 126) (u := 0) (w := 2) rfl rfl rfl ?_
    refine r_load (i := 127) (u := 0) (w := 2) rfl rfl rfl ?_
    refine r_getf (i := 128) (v := 15) (w := 11) (x := (2, 56)) rfl ly43 rfl rfl fun _ => ?_
    refine r_load (i := 129) (u := 2) (w := 0) rfl rfl rfl ?_
    refine a_int (i := 130) rfl ly56 rfl (by omega) (by omega) fun h74 => ?_
    have h75 := hI15.a ta56 m.toNat
    have h76 : S7.a 56 m.toNat = S0.a 56 m.toNat := hF18.a rfl _
    have h77 := hI15.f tf43_43
    have h78 := hI15.f tf43_51
    have h79 := wphi_nn hI15
    have h80 := wpsi_nn hI15
    refine r_call (i := 131) (u := 11) (v := 259) (w := 0) (b := 0) (na := 770) (C2 := xC259) (as := [(2, 43), vi (S7.a 56 m.toNat)]) (s := []) rfl rfl rfl rfl rfl rfl rfl (sp259 (k := S7.a 56 m.toNat) hI15 ⟨by omega, by omega⟩ (by omega) (by omega) (by omega) (by omega) e14 (by omega)) (fun r81 S82 hq83 => ?_)
    obtain ⟨rfl, h84, h85, h86, h87, h88, e89, hI90, hF91, hR92⟩ := hq83
    have hF93 := hF18.trans hF91 rfl rfl
    have hR94 := hR19.trans hR92 rfl
    have e95 := wASx.fr e20 hF91 rfl rfl
    refine Or.inl ⟨rfl, ?_⟩
    refine r_goto (i := 132) (v := 143) rfl ?_
    have h96 := hI90.f tf43_43
    have h97 := hI90.f tf43_51
    have h98 := wphi_nn hI90
    have h99 := wpsi_nn hI90
    exact lp266_143 h_k p_0 p_1 p_2 p_3 hd S82 hI90 hF93 hR94 e89 e95 m hs bg ⟨by omega, by omega⟩ ⟨by omega, by omega⟩ ⟨by omega, by omega⟩ (by omega) (by omega) (by omega) (by omega) (by omega) (by omega) (by omega) (by omega) (by omega) 
theorem lp266_74 {G : xk} {d : Nat} {S0 : yS} {k : Int} (h_k : 0 ≤ k ∧ k ≤ 23) (p_0 : S0.f 43 43 ≤ 23000) (p_1 : S0.f 43 51 = 0) (p_2 : wphi S0 ≤ 19000) (p_3 : wpsi S0 ≤ 1000) (hd : 10 ≤ d + 1) : ∀ (S : yS) (hI : yI S) (hF : yFr [(43, 43), (43, 49), (43, 50), (43, 51), (43, 52), (43, 53)] [68, 72, 73, 74, 75, 76, 77] S0 S) (hR : yRm [] S0 S) (e_wLV : wLV S) (e_wAS : wAS S) (m hs lc : Int) (h_m : 0 ≤ m ∧ m ≤ 59) (h_hs : 0 ≤ hs ∧ hs ≤ 1) (h_lc : 1 ≤ lc ∧ lc ≤ 10) (q_0 : S0.f 43 43 ≤ S.f 43 43 ∧ S.f 43 43 ≤ S0.f 43 43 + 8) (q_1 : S.f 43 51 = 0) (q_2 : wphi S ≤ wphi S0 + 145) (q_3 : wpsi S ≤ wpsi S0 + 1) (q_4 : S0.f 43 43 ≤ 23000 ∧ wphi S0 ≤ 19000 ∧ wpsi S0 ≤ 1000) (q_5 : hs = 1 → S.a 61 k.toNat = 0), yT xPr G LY xC266 74 [some ((2, 43)), some (vi k), some (vi m), some (vi hs), none, none, none] [vi lc, (2, 43)] S (d + 1) (fun r S' => r = (0, (0, 0)) ∧ S0.f 43 43 ≤ S'.f 43 43 ∧ S'.f 43 43 ≤ S0.f 43 43 + 250 ∧ S'.f 43 51 = 0 ∧ wphi S' ≤ wphi S0 + 330 ∧ wpsi S' ≤ wpsi S0 + 17 ∧ wphi S' + S'.f 43 43 ≤ wphi S0 + S0.f 43 43 + 399 ∧ wLV S' ∧ wAS S' ∧ yI S' ∧ yFr [(43, 43), (43, 49), (43, 50), (43, 51), (43, 52), (43, 53)] [68, 72, 73, 74, 75, 76, 77] S0 S' ∧ yRm [] S0 S') := by
  intro S hI hF hR e_wLV e_wAS m hs lc h_m h_hs h_lc q_0 q_1 q_2 q_3 q_4 q_5
  have h1 := hI.f tf43_43
  have h2 := hI.f tf43_51
  have h3 := wphi_nn hI
  have h4 := wpsi_nn hI
  have h5 := hI.a ta61 k.toNat
  have h6 : S.a 61 k.toNat = S0.a 61 k.toNat := hF.a rfl _
  refine r_call (i := 74) (u := 11) (v := 185) (w := 0) (b := 0) (na := 770) (C2 := xC185) (as := [(2, 43), vi lc]) (s := []) rfl rfl rfl rfl rfl rfl rfl (sp185 (lc := lc) hI ⟨by omega, by omega⟩ (by omega) (by omega) (by omega) (by omega) e_wLV (by omega)) (fun r7 S8 hq9 => ?_)
  obtain ⟨z10, rfl, h11, h12, h13, h14, h15, h16, h17, h18, e19, hI20, hF21, hR22⟩ := hq9
  have hF23 := hF.trans hF21 rfl rfl
  have hR24 := hR.trans hR22 rfl
  have e25 := wASx.fr e_wAS hF21 rfl rfl
  refine Or.inr (Or.inl ⟨rfl, ?_⟩)
  refine r_store (i := 75) (u := 4) (w := 0) (L1 := [some ((2, 43)), some (vi k), some (vi m), some (vi hs), some (vi z10), none, none]) rfl rfl rfl rfl ?_
  refine r_load (i := 76) (u := 0) (w := 2) rfl rfl rfl ?_
  refine r_getf (i := 77) (v := 24) (w := 11) (x := (2, 61)) rfl ly43 rfl rfl fun _ => ?_
  refine r_load (i := 78) (u := 1) (w := 0) rfl rfl rfl ?_
  refine a_int (i := 79) rfl ly61 rfl (by omega) (by omega) fun h27 => ?_
  have h28 := hI20.a ta61 k.toNat
  have h29 : S8.a 61 k.toNat = S0.a 61 k.toNat := hF23.a rfl _
  refine z_ne (i := 80) (v := 86) rfl ⟨by omega, by omega⟩ (fun h30 => ?_) (fun h31 => ?_)
  · refine r_load (i := 86) (u := 0) (w := 2) rfl rfl rfl ?_
    refine r_getf (i := 87) (v := 24) (w := 11) (x := (2, 61)) rfl ly43 rfl rfl fun _ => ?_
    refine r_load (i := 88) (u := 1) (w := 0) rfl rfl rfl ?_
    refine a_int (i := 89) rfl ly61 rfl (by omega) (by omega) fun h33 => ?_
    have h34 := hI20.a ta61 k.toNat
    refine r_const (i := 90) (u := 2) (z := 2) rfl rfl ?_
    refine c_ne (i := 91) (v := 102) rfl ⟨by omega, by omega⟩ ⟨by omega, by omega⟩ (fun h35 => ?_) (fun h36 => ?_)
    · refine r_load (i := 102) (u := 0) (w := 2) rfl rfl rfl ?_
      have h37 := hI20.f tf43_43
      have h38 := hI20.f tf43_51
      have h39 := wphi_nn hI20
      have h40 := wpsi_nn hI20
      refine r_call (i := 103) (u := 11) (v := 202) (w := 0) (b := 0) (na := 257) (C2 := xC202) (as := [(2, 43)]) (s := []) rfl rfl rfl rfl rfl rfl rfl (sp202  hI20  (by omega) (by omega) (by omega) (by omega) e19 (by omega)) (fun r41 S42 hq43 => ?_)
      obtain ⟨rfl, h44, h45, h46, h47, h48, e49, hI50, hF51, hR52⟩ := hq43
      have hF53 := hF23.trans hF51 rfl rfl
      have hR54 := hR24.trans hR52 rfl
      have e55 := wASx.fr e25 hF51 rfl rfl
      refine Or.inl ⟨rfl, ?_⟩
      refine r_load (i := 104) (u := 0) (w := 2) rfl rfl rfl ?_
      refine r_load (i := 105) (u := 1) (w := 0) rfl rfl rfl ?_
      have h56 := hI50.f tf43_43
      refine r_call (i := 106) (u := 11) (v := 234) (w := 0) (b := 0) (na := 514) (C2 := xC234) (as := [(2, 43), vi k]) (s := []) rfl rfl rfl rfl rfl rfl rfl (sp234 (n1 := k) hI50 ⟨by omega, by omega⟩ (by omega)  (by omega)) (fun r57 S58 hq59 => ?_)
      obtain ⟨rfl, h60, h61, h62, hI63, hF64, hR65⟩ := hq59
      have hF66 := hF53.trans hF64 rfl rfl
      have hR67 := hR54.trans hR65 rfl
      have e68 := wASx.fr e55 hF64 rfl rfl
      have e69 := wLVx.fr e49 hF64 rfl rfl
      refine Or.inl ⟨rfl, ?_⟩
      refine r_load (i := 107) (u := 0) (w := 2) rfl rfl rfl ?_
      refine r_load (i := 108) (u := 0) (w := 2) rfl rfl rfl ?_
      refine r_getf (i := 109) (v := 24) (w := 11) (x := (2, 61)) rfl ly43 rfl rfl fun _ => ?_
      refine r_load (i := 110) (u := 1) (w := 0) rfl rfl rfl ?_
      refine a_int (i := 111) rfl ly61 rfl (by omega) (by omega) fun h71 => ?_
      have h72 := hI63.a ta61 k.toNat
      have h73 : S58.a 61 k.toNat = S0.a 61 k.toNat := hF66.a rfl _
      refine r_const (i := 112) (u := 1) (z := 1) rfl rfl ?_
      refine c_ne (i := 113) (v := 116) rfl ⟨by omega, by omega⟩ ⟨by omega, by omega⟩ (fun h74 => ?_) (fun h75 => ?_)
      · refine r_str (i := 116) (v := 68) rfl ?_
        have h76 := slv68
        have h77 := hI63.f tf43_43
        have h78 := hI63.f tf43_51
        have h79 : S58.f 43 51 = S42.f 43 51 := hF64.f rfl
        have h80 := wphi_nn hI63
        have h81 : wphi S58 = wphi S42 := wphiX.fr hF64 rfl rfl
        have h82 := wpsi_nn hI63
        have h83 : wpsi S58 = wpsi S42 := wpsiX.fr hF64 rfl rfl
        exact lp266_117 h_k p_0 p_1 p_2 p_3 hd S58 hI63 hF66 hR67 e69 e68 m hs z10 68 ⟨by omega, by omega⟩ ⟨by omega, by omega⟩ ⟨by omega, by omega⟩ ⟨by omega, by omega⟩ (by omega) (by omega) (by omega) (by omega) (by omega) (by omega) (by omega) (by omega) 
      · refine r_str (i := 114) (v := 67) rfl ?_
        have h84 := slv67
        refine r_goto (i := 115) (v := 117) rfl ?_
        have h85 := hI63.f tf43_43
        have h86 := hI63.f tf43_51
        have h87 : S58.f 43 51 = S42.f 43 51 := hF64.f rfl
        have h88 := wphi_nn hI63
        have h89 : wphi S58 = wphi S42 := wphiX.fr hF64 rfl rfl
        have h90 := wpsi_nn hI63
        have h91 : wpsi S58 = wpsi S42 := wpsiX.fr hF64 rfl rfl
        exact lp266_117 h_k p_0 p_1 p_2 p_3 hd S58 hI63 hF66 hR67 e69 e68 m hs z10 67 ⟨by omega, by omega⟩ ⟨by omega, by omega⟩ ⟨by omega, by omega⟩ ⟨by omega, by omega⟩ (by omega) (by omega) (by omega) (by omega) (by omega) (by omega) (by omega) (by omega) 
    · refine r_load (i := 92) (u := 0) (w := 2) rfl rfl rfl ?_
      refine r_const (i := 93) (u := 42) (z := 42) rfl rfl ?_
      refine r_const (i := 94) (u := 0) (z := 0) rfl rfl ?_
      refine r_const (i := 95) (u := 1) (z := 1) rfl rfl ?_
      have h92 := hI20.f tf43_43
      refine r_call (i := 96) (u := 11) (v := 250) (w := 0) (b := 0) (na := 1028) (C2 := xC250) (as := [(2, 43), vi 42, vi 0, vi 1]) (s := []) rfl rfl rfl rfl rfl rfl rfl (sp250 (b0 := 42) (off := 0) (on := 1) hI20 ⟨by omega, by omega⟩ ⟨by omega, by omega⟩ ⟨by omega, by omega⟩ (by omega)  (by omega)) (fun r93 S94 hq95 => ?_)
      obtain ⟨rfl, h96, h97, hI98, hF99, hR100⟩ := hq95
      have hF101 := hF23.trans hF99 rfl rfl
      have hR102 := hR24.trans hR100 rfl
      have e103 := wASx.fr e25 hF99 rfl rfl
      have e104 := wLVx.fr e19 hF99 rfl rfl
      refine Or.inl ⟨rfl, ?_⟩
      refine r_load (i := 97) (u := 0) (w := 2) rfl rfl rfl ?_
      refine r_load (i := 98) (u := 1) (w := 0) rfl rfl rfl ?_
      refine r_load (i := 99) (u := 2) (w := 0) rfl rfl rfl ?_
      have h105 := hI98.f tf43_43
      have h106 := hI98.f tf43_51
      have h107 : S94.f 43 51 = S8.f 43 51 := hF99.f rfl
      have h108 := wphi_nn hI98
      have h109 : wphi S94 = wphi S8 := wphiX.fr hF99 rfl rfl
      have h110 := wpsi_nn hI98
      have h111 : wpsi S94 = wpsi S8 := wpsiX.fr hF99 rfl rfl
      refine r_call (i := 100) (u := 11) (v := 189) (w := 0) (b := 0) (na := 1539) (C2 := xC189) (as := [(2, 43), vi k, vi m]) (s := []) rfl rfl rfl rfl rfl rfl rfl (sp189 (k := k) (m := m) hI98 ⟨by omega, by omega⟩ ⟨by omega, by omega⟩ (by omega) (by omega) (by omega) (by omega) e104 e103 (by omega)) (fun r112 S113 hq114 => ?_)
      obtain ⟨rfl, h115, h116, h117, h118, h119, e120, e121, hI122, hF123, hR124⟩ := hq114
      have hF125 := hF101.trans hF123 rfl rfl
      have hR126 := hR102.trans hR124 rfl
      refine Or.inl ⟨rfl, ?_⟩
      refine r_goto (i := 101) (v := 143) rfl ?_
      have h127 := hI122.f tf43_43
      have h128 := hI122.f tf43_51
      have h129 := wphi_nn hI122
      have h130 := wpsi_nn hI122
      exact lp266_143 h_k p_0 p_1 p_2 p_3 hd S113 hI122 hF125 hR126 e120 e121 m hs z10 ⟨by omega, by omega⟩ ⟨by omega, by omega⟩ ⟨by omega, by omega⟩ (by omega) (by omega) (by omega) (by omega) (by omega) (by omega) (by omega) (by omega) (by omega) 
  · refine r_load (i := 81) (u := 0) (w := 2) rfl rfl rfl ?_
    refine r_load (i := 82) (u := 1) (w := 0) rfl rfl rfl ?_
    refine r_load (i := 83) (u := 2) (w := 0) rfl rfl rfl ?_
    have h131 := hI20.f tf43_43
    have h132 := hI20.f tf43_51
    have h133 := wphi_nn hI20
    have h134 := wpsi_nn hI20
    refine r_call (i := 84) (u := 11) (v := 207) (w := 0) (b := 0) (na := 1795) (C2 := xC207) (as := [(2, 43), vi k, vi m]) (s := []) rfl rfl rfl rfl rfl rfl rfl (sp207 (k := k) (m := m) hI20 ⟨by omega, by omega⟩ ⟨by omega, by omega⟩ (by omega) (by omega) (by omega) (by omega) e19 (by omega)) (fun r135 S136 hq137 => ?_)
    obtain ⟨rfl, h138, h139, h140, h141, h142, e143, hI144, hF145, hR146⟩ := hq137
    have hF147 := hF23.trans hF145 rfl rfl
    have hR148 := hR24.trans hR146 rfl
    have e149 := wASx.fr e25 hF145 rfl rfl
    refine Or.inl ⟨rfl, ?_⟩
    refine r_goto (i := 85) (v := 143) rfl ?_
    have h150 := hI144.f tf43_43
    have h151 := hI144.f tf43_51
    have h152 := wphi_nn hI144
    have h153 := wpsi_nn hI144
    exact lp266_143 h_k p_0 p_1 p_2 p_3 hd S136 hI144 hF147 hR148 e143 e149 m hs z10 ⟨by omega, by omega⟩ ⟨by omega, by omega⟩ ⟨by omega, by omega⟩ (by omega) (by omega) (by omega) (by omega) (by omega) (by omega) (by omega) (by omega) (by omega) 
theorem lp266_62 {G : xk} {d : Nat} {S0 : yS} {k : Int} (h_k : 0 ≤ k ∧ k ≤ 23) (p_0 : S0.f 43 43 ≤ 23000) (p_1 : S0.f 43 51 = 0) (p_2 : wphi S0 ≤ 19000) (p_3 : wpsi S0 ≤ 1000) (hd : 10 ≤ d + 1) : ∀ (S : yS) (hI : yI S) (hF : yFr [(43, 43), (43, 49), (43, 50), (43, 51), (43, 52), (43, 53)] [68, 72, 73, 74, 75, 76, 77] S0 S) (hR : yRm [] S0 S) (e_wLV : wLV S) (e_wAS : wAS S) (m hs : Int) (h_m : 0 ≤ m ∧ m ≤ 59) (h_hs : 0 ≤ hs ∧ hs ≤ 1) (q_0 : S0.f 43 43 ≤ S.f 43 43 ∧ S.f 43 43 ≤ S0.f 43 43 + 8) (q_1 : S.f 43 51 = 0) (q_2 : wphi S ≤ wphi S0 + 145) (q_3 : wpsi S ≤ wpsi S0 + 1) (q_4 : S0.f 43 43 ≤ 23000 ∧ wphi S0 ≤ 19000 ∧ wpsi S0 ≤ 1000) (q_5 : hs = 1 → S.a 61 k.toNat = 0), yT xPr G LY xC266 62 [some ((2, 43)), some (vi k), some (vi m), some (vi hs), none, none, none] [] S (d + 1) (fun r S' => r = (0, (0, 0)) ∧ S0.f 43 43 ≤ S'.f 43 43 ∧ S'.f 43 43 ≤ S0.f 43 43 + 250 ∧ S'.f 43 51 = 0 ∧ wphi S' ≤ wphi S0 + 330 ∧ wpsi S' ≤ wpsi S0 + 17 ∧ wphi S' + S'.f 43 43 ≤ wphi S0 + S0.f 43 43 + 399 ∧ wLV S' ∧ wAS S' ∧ yI S' ∧ yFr [(43, 43), (43, 49), (43, 50), (43, 51), (43, 52), (43, 53)] [68, 72, 73, 74, 75, 76, 77] S0 S' ∧ yRm [] S0 S') := by
  intro S hI hF hR e_wLV e_wAS m hs h_m h_hs q_0 q_1 q_2 q_3 q_4 q_5
  have h1 := hI.f tf43_43
  have h2 := hI.f tf43_51
  have h3 := wphi_nn hI
  have h4 := wpsi_nn hI
  have h5 := hI.a ta61 k.toNat
  have h6 : S.a 61 k.toNat = S0.a 61 k.toNat := hF.a rfl _
  refine r_load (i := 62) (u := 0) (w := 2) rfl rfl rfl ?_
  refine r_const (i := 63) (u := 1) (z := 1) rfl rfl ?_
  refine r_load (i := 64) (u := 0) (w := 2) rfl rfl rfl ?_
  refine r_load (i := 65) (u := 2) (w := 0) rfl rfl rfl ?_
  refine r_call (i := 66) (u := 11) (v := 263) (w := 0) (b := 0) (na := 1026) (C2 := xC263) (as := [(2, 43), vi m]) (s := [vi 1, (2, 43)]) rfl rfl rfl rfl rfl rfl rfl (sp263 (m := m) hI ⟨by omega, by omega⟩   (by omega)) (fun r7 S8 hq9 => ?_)
  obtain ⟨z10, rfl, h11, h12, rfl⟩ := hq9
  refine Or.inr (Or.inl ⟨rfl, ?_⟩)
  refine r_iadd (i := 67) rfl ?_
  refine r_load (i := 68) (u := 3) (w := 0) rfl rfl rfl ?_
  refine z_eq (i := 69) (v := 72) rfl ⟨by omega, by omega⟩ (fun h13 => ?_) (fun h14 => ?_)
  · refine r_const (i := 72) (u := 0) (z := 0) rfl rfl ?_
    refine r_iadd (i := 73) rfl ?_
    have h15 := hI.a ta61 k.toNat
    exact lp266_74 h_k p_0 p_1 p_2 p_3 hd S hI hF hR e_wLV e_wAS m hs ((1 + z10) + 0) ⟨by omega, by omega⟩ ⟨by omega, by omega⟩ ⟨by omega, by omega⟩ (by omega) (by omega) (by omega) (by omega) (by omega) (by omega) 
  · refine r_const (i := 70) (u := 1) (z := 1) rfl rfl ?_
    refine r_goto (i := 71) (v := 73) rfl ?_
    refine r_iadd (i := 73) rfl ?_
    have h16 := hI.a ta61 k.toNat
    exact lp266_74 h_k p_0 p_1 p_2 p_3 hd S hI hF hR e_wLV e_wAS m hs ((1 + z10) + 1) ⟨by omega, by omega⟩ ⟨by omega, by omega⟩ ⟨by omega, by omega⟩ (by omega) (by omega) (by omega) (by omega) (by omega) (by omega) 
theorem lp266_48 {G : xk} {d : Nat} {S0 : yS} {k : Int} (h_k : 0 ≤ k ∧ k ≤ 23) (p_0 : S0.f 43 43 ≤ 23000) (p_1 : S0.f 43 51 = 0) (p_2 : wphi S0 ≤ 19000) (p_3 : wpsi S0 ≤ 1000) (hd : 10 ≤ d + 1) : ∀ (S : yS) (hI : yI S) (hF : yFr [(43, 43), (43, 49), (43, 50), (43, 51), (43, 52), (43, 53)] [68, 72, 73, 74, 75, 76, 77] S0 S) (hR : yRm [] S0 S) (e_wLV : wLV S) (e_wAS : wAS S) (m n2 : Int) (h_m : 0 ≤ m ∧ m ≤ 59) (h_n2 : 1 ≤ n2 ∧ n2 ≤ 2) (q_0 : S0.f 43 43 ≤ S.f 43 43 ∧ S.f 43 43 ≤ S0.f 43 43 + 6) (q_1 : S.f 43 51 = 0) (q_2 : wphi S ≤ wphi S0 + 145) (q_3 : wpsi S ≤ wpsi S0 + 1) (q_4 : S0.f 43 43 ≤ 23000 ∧ wphi S0 ≤ 19000 ∧ wpsi S0 ≤ 1000), yT xPr G LY xC266 48 [some ((2, 43)), some (vi k), some (vi m), none, none, none, none] [vi n2, (2, 43)] S (d + 1) (fun r S' => r = (0, (0, 0)) ∧ S0.f 43 43 ≤ S'.f 43 43 ∧ S'.f 43 43 ≤ S0.f 43 43 + 250 ∧ S'.f 43 51 = 0 ∧ wphi S' ≤ wphi S0 + 330 ∧ wpsi S' ≤ wpsi S0 + 17 ∧ wphi S' + S'.f 43 43 ≤ wphi S0 + S0.f 43 43 + 399 ∧ wLV S' ∧ wAS S' ∧ yI S' ∧ yFr [(43, 43), (43, 49), (43, 50), (43, 51), (43, 52), (43, 53)] [68, 72, 73, 74, 75, 76, 77] S0 S' ∧ yRm [] S0 S') := by
  intro S hI hF hR e_wLV e_wAS m n2 h_m h_n2 q_0 q_1 q_2 q_3 q_4
  have h1 := hI.f tf43_43
  have h2 := hI.f tf43_51
  have h3 := wphi_nn hI
  have h4 := wpsi_nn hI
  refine r_call (i := 48) (u := 11) (v := 257) (w := 0) (b := 0) (na := 514) (C2 := xC257) (as := [(2, 43), vi n2]) (s := []) rfl rfl rfl rfl rfl rfl rfl (sp257 (v := n2) hI ⟨by omega, by omega⟩ (by omega)  (by omega)) (fun r5 S6 hq7 => ?_)
  obtain ⟨rfl, h8, h9, hI10, hF11, hR12⟩ := hq7
  have hF13 := hF.trans hF11 rfl rfl
  have hR14 := hR.trans hR12 rfl
  have e15 := wLVx.fr e_wLV hF11 rfl rfl
  have e16 := wASx.fr e_wAS hF11 rfl rfl
  refine Or.inl ⟨rfl, ?_⟩
  refine r_load (i := 49) (u := 0) (w := 2) rfl rfl rfl ?_
  refine r_getf (i := 50) (v := 24) (w := 11) (x := (2, 61)) rfl ly43 rfl rfl fun _ => ?_
  refine r_load (i := 51) (u := 1) (w := 0) rfl rfl rfl ?_
  refine a_int (i := 52) rfl ly61 rfl (by omega) (by omega) fun h18 => ?_
  have h19 := hI10.a ta61 k.toNat
  have h20 : S6.a 61 k.toNat = S0.a 61 k.toNat := hF13.a rfl _
  refine z_ne (i := 53) (v := 60) rfl ⟨by omega, by omega⟩ (fun h21 => ?_) (fun h22 => ?_)
  · refine r_const (i := 60) (u := 0) (z := 0) rfl rfl ?_
    refine r_store (i := 61) (u := 3) (w := 0) (L1 := [some ((2, 43)), some (vi k), some (vi m), some (vi 0), none, none, none]) rfl rfl rfl rfl ?_
    have h23 := hI10.f tf43_43
    have h24 := hI10.f tf43_51
    have h25 : S6.f 43 51 = S.f 43 51 := hF11.f rfl
    have h26 := wphi_nn hI10
    have h27 : wphi S6 = wphi S := wphiX.fr hF11 rfl rfl
    have h28 := wpsi_nn hI10
    have h29 : wpsi S6 = wpsi S := wpsiX.fr hF11 rfl rfl
    have h30 := hI10.a ta61 k.toNat
    exact lp266_62 h_k p_0 p_1 p_2 p_3 hd S6 hI10 hF13 hR14 e15 e16 m 0 ⟨by omega, by omega⟩ ⟨by omega, by omega⟩ (by omega) (by omega) (by omega) (by omega) (by omega) (by omega) 
  · refine r_load (i := 54) (u := 0) (w := 2) rfl rfl rfl ?_
    refine r_load (i := 55) (u := 1) (w := 0) rfl rfl rfl ?_
    refine r_call (i := 56) (u := 11) (v := 256) (w := 0) (b := 0) (na := 1026) (C2 := xC256) (as := [(2, 43), vi k]) (s := []) rfl rfl rfl rfl rfl rfl rfl (sp256 (k := k) hI10 ⟨by omega, by omega⟩   (by omega)) (fun r31 S32 hq33 => ?_)
    obtain ⟨z34, rfl, h35, h36, rfl⟩ := hq33
    refine Or.inr (Or.inl ⟨rfl, ?_⟩)
    refine z_ne (i := 57) (v := 60) rfl ⟨by omega, by omega⟩ (fun h37 => ?_) (fun h38 => ?_)
    · refine r_const (i := 60) (u := 0) (z := 0) rfl rfl ?_
      refine r_store (i := 61) (u := 3) (w := 0) (L1 := [some ((2, 43)), some (vi k), some (vi m), some (vi 0), none, none, none]) rfl rfl rfl rfl ?_
      have h39 := hI10.f tf43_43
      have h40 := hI10.f tf43_51
      have h41 : S6.f 43 51 = S.f 43 51 := hF11.f rfl
      have h42 := wphi_nn hI10
      have h43 : wphi S6 = wphi S := wphiX.fr hF11 rfl rfl
      have h44 := wpsi_nn hI10
      have h45 : wpsi S6 = wpsi S := wpsiX.fr hF11 rfl rfl
      have h46 := hI10.a ta61 k.toNat
      exact lp266_62 h_k p_0 p_1 p_2 p_3 hd S6 hI10 hF13 hR14 e15 e16 m 0 ⟨by omega, by omega⟩ ⟨by omega, by omega⟩ (by omega) (by omega) (by omega) (by omega) (by omega) (by omega) 
    · refine r_const (i := 58) (u := 1) (z := 1) rfl rfl ?_
      refine r_goto (i := 59) (v := 61) rfl ?_
      refine r_store (i := 61) (u := 3) (w := 0) (L1 := [some ((2, 43)), some (vi k), some (vi m), some (vi 1), none, none, none]) rfl rfl rfl rfl ?_
      have h47 := hI10.f tf43_43
      have h48 := hI10.f tf43_51
      have h49 : S6.f 43 51 = S.f 43 51 := hF11.f rfl
      have h50 := wphi_nn hI10
      have h51 : wphi S6 = wphi S := wphiX.fr hF11 rfl rfl
      have h52 := wpsi_nn hI10
      have h53 : wpsi S6 = wpsi S := wpsiX.fr hF11 rfl rfl
      have h54 := hI10.a ta61 k.toNat
      exact lp266_62 h_k p_0 p_1 p_2 p_3 hd S6 hI10 hF13 hR14 e15 e16 m 1 ⟨by omega, by omega⟩ ⟨by omega, by omega⟩ (by omega) (by omega) (by omega) (by omega) (by omega) (by omega) 
theorem lp266_25 {G : xk} {d : Nat} {S0 : yS} {k : Int} (h_k : 0 ≤ k ∧ k ≤ 23) (p_0 : S0.f 43 43 ≤ 23000) (p_1 : S0.f 43 51 = 0) (p_2 : wphi S0 ≤ 19000) (p_3 : wpsi S0 ≤ 1000) (hd : 10 ≤ d + 1) : ∀ (S : yS) (hI : yI S) (hF : yFr [(43, 43), (43, 49), (43, 50), (43, 51), (43, 52), (43, 53)] [68, 72, 73, 74, 75, 76, 77] S0 S) (hR : yRm [] S0 S) (e_wLV : wLV S) (e_wAS : wAS S) (m fl : Int) (h_m : 0 ≤ m ∧ m ≤ 59) (h_fl : 0 ≤ fl ∧ fl ≤ 20) (q_0 : S0.f 43 43 ≤ S.f 43 43 ∧ S.f 43 43 ≤ S0.f 43 43 + 0) (q_1 : S.f 43 51 = 0) (q_2 : wphi S ≤ wphi S0 + 0) (q_3 : wpsi S ≤ wpsi S0 + 0) (q_4 : S0.f 43 43 ≤ 23000 ∧ wphi S0 ≤ 19000 ∧ wpsi S0 ≤ 1000), yT xPr G LY xC266 25 [some ((2, 43)), some (vi k), some (vi m), none, none, none, none] [vi fl, (2, 43)] S (d + 1) (fun r S' => r = (0, (0, 0)) ∧ S0.f 43 43 ≤ S'.f 43 43 ∧ S'.f 43 43 ≤ S0.f 43 43 + 250 ∧ S'.f 43 51 = 0 ∧ wphi S' ≤ wphi S0 + 330 ∧ wpsi S' ≤ wpsi S0 + 17 ∧ wphi S' + S'.f 43 43 ≤ wphi S0 + S0.f 43 43 + 399 ∧ wLV S' ∧ wAS S' ∧ yI S' ∧ yFr [(43, 43), (43, 49), (43, 50), (43, 51), (43, 52), (43, 53)] [68, 72, 73, 74, 75, 76, 77] S0 S' ∧ yRm [] S0 S') := by
  intro S hI hF hR e_wLV e_wAS m fl h_m h_fl q_0 q_1 q_2 q_3 q_4
  have h1 := hI.f tf43_43
  have h2 := hI.f tf43_51
  have h3 := wphi_nn hI
  have h4 := wpsi_nn hI
  refine r_call (i := 25) (u := 11) (v := 257) (w := 0) (b := 0) (na := 514) (C2 := xC257) (as := [(2, 43), vi fl]) (s := []) rfl rfl rfl rfl rfl rfl rfl (sp257 (v := fl) hI ⟨by omega, by omega⟩ (by omega)  (by omega)) (fun r5 S6 hq7 => ?_)
  obtain ⟨rfl, h8, h9, hI10, hF11, hR12⟩ := hq7
  have hF13 := hF.trans hF11 rfl rfl
  have hR14 := hR.trans hR12 rfl
  have e15 := wLVx.fr e_wLV hF11 rfl rfl
  have e16 := wASx.fr e_wAS hF11 rfl rfl
  refine Or.inl ⟨rfl, ?_⟩
  refine r_load (i := 26) (u := 0) (w := 2) rfl rfl rfl ?_
  refine r_load (i := 27) (u := 0) (w := 2) rfl rfl rfl ?_
  refine r_load (i := 28) (u := 2) (w := 0) rfl rfl rfl ?_
  have h17 := hI10.f tf43_51
  have h18 : S6.f 43 51 = S.f 43 51 := hF11.f rfl
  have h19 := wphi_nn hI10
  have h20 : wphi S6 = wphi S := wphiX.fr hF11 rfl rfl
  have h21 := wpsi_nn hI10
  have h22 : wpsi S6 = wpsi S := wpsiX.fr hF11 rfl rfl
  refine r_call (i := 29) (u := 11) (v := 222) (w := 0) (b := 0) (na := 514) (C2 := xC222) (as := [(2, 43), vi m]) (s := [(2, 43)]) rfl rfl rfl rfl rfl rfl rfl (sp222 (m := m) hI10 ⟨by omega, by omega⟩ (by omega) (by omega) (by omega) e15 (by omega)) (fun r23 S24 hq25 => ?_)
  obtain ⟨z26, rfl, h27, h28, h29, h30, h31, e32, hI33, hF34, hR35⟩ := hq25
  have hF36 := hF13.trans hF34 rfl rfl
  have hR37 := hR14.trans hR35 rfl
  have e38 := wASx.fr e16 hF34 rfl rfl
  refine Or.inr (Or.inl ⟨rfl, ?_⟩)
  have h39 := hI33.f tf43_43
  have h40 : S24.f 43 43 = S6.f 43 43 := hF34.f rfl
  refine r_call (i := 30) (u := 11) (v := 257) (w := 0) (b := 0) (na := 514) (C2 := xC257) (as := [(2, 43), vi z26]) (s := []) rfl rfl rfl rfl rfl rfl rfl (sp257 (v := z26) hI33 ⟨by omega, by omega⟩ (by omega)  (by omega)) (fun r41 S42 hq43 => ?_)
  obtain ⟨rfl, h44, h45, hI46, hF47, hR48⟩ := hq43
  have hF49 := hF36.trans hF47 rfl rfl
  have hR50 := hR37.trans hR48 rfl
  have e51 := wASx.fr e38 hF47 rfl rfl
  have e52 := wLVx.fr e32 hF47 rfl rfl
  refine Or.inl ⟨rfl, ?_⟩
  refine r_load (i := 31) (u := 0) (w := 2) rfl rfl rfl ?_
  refine r_load (i := 32) (u := 2) (w := 0) rfl rfl rfl ?_
  refine r_const (i := 33) (u := 0) (z := 0) rfl rfl ?_
  have h53 := hI46.f tf43_51
  have h54 : S42.f 43 51 = S24.f 43 51 := hF47.f rfl
  have h55 := hI46.a ta56 m.toNat
  have h56 : S42.a 56 m.toNat = S0.a 56 m.toNat := hF49.a rfl _
  refine r_call (i := 34) (u := 11) (v := 246) (w := 0) (b := 0) (na := 1027) (C2 := xC246) (as := [(2, 43), vi m, vi 0]) (s := []) rfl rfl rfl rfl rfl rfl rfl (sp246 (m := m) (cb := 0) hI46 ⟨by omega, by omega⟩ ⟨by omega, by omega⟩ (by omega)  (by omega)) (fun r57 S58 hq59 => ?_)
  obtain ⟨rfl, h60, h61, hI62, hF63, hR64⟩ := hq59
  have hF65 := hF49.trans hF63 rfl rfl
  have hR66 := hR50.trans hR64 rfl
  have e67 := wASx.fr e51 hF63 rfl rfl
  have e68 := wLVx.fr e52 hF63 rfl rfl
  refine Or.inl ⟨rfl, ?_⟩
  refine r_load (i := 35) (u := 0) (w := 2) rfl rfl rfl ?_
  refine r_load (i := 36) (u := 0) (w := 2) rfl rfl rfl ?_
  have h69 := wphi_nn hI62
  have h70 : wphi S58 = wphi S42 := wphiX.fr hF63 rfl rfl
  have h71 : wphi S42 = wphi S24 := wphiX.fr hF47 rfl rfl
  have h72 := wpsi_nn hI62
  have h73 : wpsi S58 = wpsi S42 := wpsiX.fr hF63 rfl rfl
  have h74 : wpsi S42 = wpsi S24 := wpsiX.fr hF47 rfl rfl
  have h75 := hI62.f tf43_51
  refine r_call (i := 37) (u := 11) (v := 251) (w := 0) (b := 0) (na := 1281) (C2 := xC251) (as := [(2, 43)]) (s := [(2, 43)]) rfl rfl rfl rfl rfl rfl rfl (sp251  hI62  (by omega) (by omega) (by omega) e68 (by omega)) (fun r76 S77 hq78 => ?_)
  obtain ⟨z79, rfl, h80, h81, h82, h83, tx84, h85, e86, hI87, hF88, hR89⟩ := hq78
  have hF90 := hF65.trans hF88 rfl rfl
  have hR91 := hR66.trans hR89 rfl
  have e92 := wASx.fr e67 hF88 rfl rfl
  refine Or.inr (Or.inl ⟨rfl, ?_⟩)
  have h93 := hI87.f tf43_43
  have h94 : S77.f 43 43 = S58.f 43 43 := hF88.f rfl
  have h95 : S58.f 43 43 = S42.f 43 43 := hF63.f rfl
  refine r_call (i := 38) (u := 11) (v := 257) (w := 0) (b := 0) (na := 514) (C2 := xC257) (as := [(2, 43), vi z79]) (s := []) rfl rfl rfl rfl rfl rfl rfl (sp257 (v := z79) hI87 ⟨by omega, by omega⟩ (by omega)  (by omega)) (fun r96 S97 hq98 => ?_)
  obtain ⟨rfl, h99, h100, hI101, hF102, hR103⟩ := hq98
  have hF104 := hF90.trans hF102 rfl rfl
  have hR105 := hR91.trans hR103 rfl
  have e106 := wASx.fr e92 hF102 rfl rfl
  have e107 := wLVx.fr e86 hF102 rfl rfl
  refine Or.inl ⟨rfl, ?_⟩
  refine r_load (i := 39) (u := 0) (w := 2) rfl rfl rfl ?_
  refine r_load (i := 40) (u := 0) (w := 2) rfl rfl rfl ?_
  refine r_getf (i := 41) (v := 26) (w := 11) (x := (2, 63)) rfl ly43 rfl rfl fun _ => ?_
  refine r_load (i := 42) (u := 1) (w := 0) rfl rfl rfl ?_
  refine a_int (i := 43) rfl ly63 rfl (by omega) (by omega) fun h109 => ?_
  have h110 := hI101.a ta63 k.toNat
  have h111 : S97.a 63 k.toNat = S0.a 63 k.toNat := hF104.a rfl _
  refine z_le (i := 44) (v := 47) rfl ⟨by omega, by omega⟩ (fun h112 => ?_) (fun h113 => ?_)
  · refine r_const (i := 47) (u := 1) (z := 1) rfl rfl ?_
    have h114 := hI101.f tf43_43
    have h115 := hI101.f tf43_51
    have h116 : S97.f 43 51 = S77.f 43 51 := hF102.f rfl
    have h117 := wphi_nn hI101
    have h118 : wphi S97 = wphi S77 := wphiX.fr hF102 rfl rfl
    have h119 := wpsi_nn hI101
    have h120 : wpsi S97 = wpsi S77 := wpsiX.fr hF102 rfl rfl
    exact lp266_48 h_k p_0 p_1 p_2 p_3 hd S97 hI101 hF104 hR105 e107 e106 m 1 ⟨by omega, by omega⟩ ⟨by omega, by omega⟩ (by omega) (by omega) (by omega) (by omega) (by omega) 
  · refine r_const (i := 45) (u := 2) (z := 2) rfl rfl ?_
    refine r_goto (i := 46) (v := 48) rfl ?_
    have h121 := hI101.f tf43_43
    have h122 := hI101.f tf43_51
    have h123 : S97.f 43 51 = S77.f 43 51 := hF102.f rfl
    have h124 := wphi_nn hI101
    have h125 : wphi S97 = wphi S77 := wphiX.fr hF102 rfl rfl
    have h126 := wpsi_nn hI101
    have h127 : wpsi S97 = wpsi S77 := wpsiX.fr hF102 rfl rfl
    exact lp266_48 h_k p_0 p_1 p_2 p_3 hd S97 hI101 hF104 hR105 e107 e106 m 2 ⟨by omega, by omega⟩ ⟨by omega, by omega⟩ (by omega) (by omega) (by omega) (by omega) (by omega) 
/-- ProxyForgeModel.writeSlot -/
theorem sp266 {G : xk} {S : yS} {d : Nat} (hI : yI S) {k : Int} (h_k : 0 ≤ k ∧ k ≤ 23) (p_0 : S.f 43 43 ≤ 23000) (p_1 : S.f 43 51 = 0) (p_2 : wphi S ≤ 19000) (p_3 : wpsi S ≤ 1000) (e_wLV : wLV S) (e_wAS : wAS S) (hd : 10 ≤ d) : yT xPr G LY xC266 0 [some ((2, 43)), some (vi k)] [] S d (fun r S' => r = (0, (0, 0)) ∧ S.f 43 43 ≤ S'.f 43 43 ∧ S'.f 43 43 ≤ S.f 43 43 + 250 ∧ S'.f 43 51 = 0 ∧ wphi S' ≤ wphi S + 330 ∧ wpsi S' ≤ wpsi S + 17 ∧ wphi S' + S'.f 43 43 ≤ wphi S + S.f 43 43 + 399 ∧ wLV S' ∧ wAS S' ∧ yI S' ∧ yFr [(43, 43), (43, 49), (43, 50), (43, 51), (43, 52), (43, 53)] [68, 72, 73, 74, 75, 76, 77] S S' ∧ yRm [] S S') := by
  refine yT_pad 5 ?_
  show yT xPr G LY xC266 0 [some ((2, 43)), some (vi k), none, none, none, none, none] [] S d _
  obtain ⟨d, rfl⟩ : ∃ q, d = q + 1 := ⟨d - 1, by omega⟩
  have hF : yFr [(43, 43), (43, 49), (43, 50), (43, 51), (43, 52), (43, 53)] [68, 72, 73, 74, 75, 76, 77] S S := yFr.refl S
  have hR : yRm [] S S := yRm.refl S
  have h1 := hI.f tf43_43
  have h2 := hI.f tf43_51
  have h3 := wphi_nn hI
  have h4 := wpsi_nn hI
  refine r_load (i := 0) (u := 0) (w := 2) rfl rfl rfl ?_
  refine r_getf (i := 1) (v := 23) (w := 11) (x := (2, 60)) rfl ly43 rfl rfl fun _ => ?_
  refine r_load (i := 2) (u := 1) (w := 0) rfl rfl rfl ?_
  refine a_int (i := 3) rfl ly60 rfl (by omega) (by omega) fun h6 => ?_
  have h7 := hI.a ta60 k.toNat
  refine r_store (i := 4) (u := 2) (w := 0) (L1 := [some ((2, 43)), some (vi k), some (vi (S.a 60 k.toNat)), none, none, none, none]) rfl rfl rfl rfl ?_
  refine r_load (i := 5) (u := 0) (w := 2) rfl rfl rfl ?_
  refine r_load (i := 6) (u := 0) (w := 2) rfl rfl rfl ?_
  refine r_getf (i := 7) (v := 13) (w := 11) (x := (2, 54)) rfl ly43 rfl rfl fun _ => ?_
  refine r_load (i := 8) (u := 2) (w := 0) rfl rfl rfl ?_
  refine a_int (i := 9) rfl ly54 rfl (by omega) (by omega) fun h9 => ?_
  have h10 := hI.a ta54 (S.a 60 k.toNat).toNat
  refine r_const (i := 10) (u := 1) (z := 1) rfl rfl ?_
  refine r_iand (i := 11) rfl ?_
  have h11 := @yand_c (S.a 54 (S.a 60 k.toNat).toNat) 1 (by decide) (by decide)
  refine z_le (i := 12) (v := 15) rfl ⟨by omega, by omega⟩ (fun h12 => ?_) (fun h13 => ?_)
  · refine r_load (i := 15) (u := 0) (w := 2) rfl rfl rfl ?_
    refine r_getf (i := 16) (v := 13) (w := 11) (x := (2, 54)) rfl ly43 rfl rfl fun _ => ?_
    refine r_load (i := 17) (u := 2) (w := 0) rfl rfl rfl ?_
    refine a_int (i := 18) rfl ly54 rfl (by omega) (by omega) fun h15 => ?_
    have h16 := hI.a ta54 (S.a 60 k.toNat).toNat
    refine r_const (i := 19) (u := 2) (z := 2) rfl rfl ?_
    refine r_iand (i := 20) rfl ?_
    have h17 := @yand_c (S.a 54 (S.a 60 k.toNat).toNat) 2 (by decide) (by decide)
    refine z_le (i := 21) (v := 24) rfl ⟨by omega, by omega⟩ (fun h18 => ?_) (fun h19 => ?_)
    · refine r_const (i := 24) (u := 16) (z := 16) rfl rfl ?_
      exact lp266_25 h_k p_0 p_1 p_2 p_3 hd S hI hF hR e_wLV e_wAS (S.a 60 k.toNat) 16 ⟨by omega, by omega⟩ ⟨by omega, by omega⟩ (by omega) (by omega) (by omega) (by omega) (by omega) 
    · refine r_const (i := 22) (u := 20) (z := 20) rfl rfl ?_
      refine r_goto (i := 23) (v := 25) rfl ?_
      exact lp266_25 h_k p_0 p_1 p_2 p_3 hd S hI hF hR e_wLV e_wAS (S.a 60 k.toNat) 20 ⟨by omega, by omega⟩ ⟨by omega, by omega⟩ (by omega) (by omega) (by omega) (by omega) (by omega) 
  · refine r_const (i := 13) (u := 17) (z := 17) rfl rfl ?_
    refine r_goto (i := 14) (v := 25) rfl ?_
    exact lp266_25 h_k p_0 p_1 p_2 p_3 hd S hI hF hR e_wLV e_wAS (S.a 60 k.toNat) 17 ⟨by omega, by omega⟩ ⟨by omega, by omega⟩ (by omega) (by omega) (by omega) (by omega) (by omega) 
theorem lp264_20 {G : xk} {d : Nat} {S0 : yS} {m : Int} (h_m : 0 ≤ m ∧ m ≤ 59) (p_0 : S0.f 43 43 ≤ 23000) (p_1 : S0.f 43 51 = 0) (p_2 : wphi S0 ≤ 19000) (p_3 : wpsi S0 ≤ 1000) (p_4 : S0.a 53 m.toNat = 10) (hd : 9 ≤ d + 1) : ∀ (S : yS) (hI : yI S) (hF : yFr [(43, 43), (43, 49), (43, 50), (43, 51), (43, 52), (43, 53)] [72, 73, 74, 75, 76, 77] S0 S) (hR : yRm [] S0 S) (e_wLV : wLV S) (e_CR : CR S) (fl : Int) (h_fl : 0 ≤ fl ∧ fl ≤ 4) (q_0 : S0.f 43 43 ≤ S.f 43 43 ∧ S.f 43 43 ≤ S0.f 43 43 + 0) (q_1 : S.f 43 51 = 0) (q_2 : wphi S ≤ wphi S0 + 0) (q_3 : wpsi S ≤ wpsi S0 + 0) (q_4 : S0.f 43 43 ≤ 23000 ∧ wphi S0 ≤ 19000 ∧ wpsi S0 ≤ 1000) (q_5 : S.a 56 m.toNat = 0), yT xPr G LY xC264 20 [some ((2, 43)), some (vi m), none] [vi fl, (2, 43)] S (d + 1) (fun r S' => r = (0, (0, 0)) ∧ S0.f 43 43 ≤ S'.f 43 43 ∧ S'.f 43 43 ≤ S0.f 43 43 + 44 ∧ S'.f 43 51 = 0 ∧ wphi S' ≤ wphi S0 + 269 ∧ wpsi S' ≤ wpsi S0 + 6 ∧ wLV S' ∧ CR S' ∧ yI S' ∧ yFr [(43, 43), (43, 49), (43, 50), (43, 51), (43, 52), (43, 53)] [72, 73, 74, 75, 76, 77] S0 S' ∧ yRm [] S0 S') := by
  intro S hI hF hR e_wLV e_CR fl h_fl q_0 q_1 q_2 q_3 q_4 q_5
  have h1 := hI.f tf43_43
  have h2 := hI.f tf43_51
  have h3 := wphi_nn hI
  have h4 := wpsi_nn hI
  have h5 := hI.a ta56 m.toNat
  have h6 : S.a 56 m.toNat = S0.a 56 m.toNat := hF.a rfl _
  refine r_call (i := 20) (u := 11) (v := 257) (w := 0) (b := 0) (na := 514) (C2 := xC257) (as := [(2, 43), vi fl]) (s := []) rfl rfl rfl rfl rfl rfl rfl (sp257 (v := fl) hI ⟨by omega, by omega⟩ (by omega)  (by omega)) (fun r7 S8 hq9 => ?_)
  obtain ⟨rfl, h10, h11, hI12, hF13, hR14⟩ := hq9
  have hF15 := hF.trans hF13 rfl rfl
  have hR16 := hR.trans hR14 rfl
  have e17 := wLVx.fr e_wLV hF13 rfl rfl
  have e18 := CRx.fr e_CR hF13 rfl rfl
  refine Or.inl ⟨rfl, ?_⟩
  refine r_load (i := 21) (u := 0) (w := 2) rfl rfl rfl ?_
  refine r_load (i := 22) (u := 0) (w := 2) rfl rfl rfl ?_
  refine r_load (i := 23) (u := 1) (w := 0) rfl rfl rfl ?_
  have h19 := hI12.f tf43_51
  have h20 : S8.f 43 51 = S.f 43 51 := hF13.f rfl
  have h21 := wphi_nn hI12
  have h22 : wphi S8 = wphi S := wphiX.fr hF13 rfl rfl
  have h23 := wpsi_nn hI12
  have h24 : wpsi S8 = wpsi S := wpsiX.fr hF13 rfl rfl
  refine r_call (i := 24) (u := 11) (v := 222) (w := 0) (b := 0) (na := 514) (C2 := xC222) (as := [(2, 43), vi m]) (s := [(2, 43)]) rfl rfl rfl rfl rfl rfl rfl (sp222 (m := m) hI12 ⟨by omega, by omega⟩ (by omega) (by omega) (by omega) e17 (by omega)) (fun r25 S26 hq27 => ?_)
  obtain ⟨z28, rfl, h29, h30, h31, h32, h33, e34, hI35, hF36, hR37⟩ := hq27
  have hF38 := hF15.trans hF36 rfl rfl
  have hR39 := hR16.trans hR37 rfl
  have e40 := CRx.fr e18 hF36 rfl rfl
  refine Or.inr (Or.inl ⟨rfl, ?_⟩)
  have h41 := hI35.f tf43_43
  have h42 : S26.f 43 43 = S8.f 43 43 := hF36.f rfl
  refine r_call (i := 25) (u := 11) (v := 257) (w := 0) (b := 0) (na := 514) (C2 := xC257) (as := [(2, 43), vi z28]) (s := []) rfl rfl rfl rfl rfl rfl rfl (sp257 (v := z28) hI35 ⟨by omega, by omega⟩ (by omega)  (by omega)) (fun r43 S44 hq45 => ?_)
  obtain ⟨rfl, h46, h47, hI48, hF49, hR50⟩ := hq45
  have hF51 := hF38.trans hF49 rfl rfl
  have hR52 := hR39.trans hR50 rfl
  have e53 := CRx.fr e40 hF49 rfl rfl
  have e54 := wLVx.fr e34 hF49 rfl rfl
  refine Or.inl ⟨rfl, ?_⟩
  refine r_load (i := 26) (u := 0) (w := 2) rfl rfl rfl ?_
  refine r_load (i := 27) (u := 1) (w := 0) rfl rfl rfl ?_
  refine r_const (i := 28) (u := 1) (z := 1) rfl rfl ?_
  have h55 := hI48.f tf43_51
  have h56 : S44.f 43 51 = S26.f 43 51 := hF49.f rfl
  have h57 := hI48.a ta56 m.toNat
  have h58 : S44.a 56 m.toNat = S0.a 56 m.toNat := hF51.a rfl _
  refine r_call (i := 29) (u := 11) (v := 246) (w := 0) (b := 0) (na := 1027) (C2 := xC246) (as := [(2, 43), vi m, vi 1]) (s := []) rfl rfl rfl rfl rfl rfl rfl (sp246 (m := m) (cb := 1) hI48 ⟨by omega, by omega⟩ ⟨by omega, by omega⟩ (by omega)  (by omega)) (fun r59 S60 hq61 => ?_)
  obtain ⟨rfl, h62, h63, hI64, hF65, hR66⟩ := hq61
  have hF67 := hF51.trans hF65 rfl rfl
  have hR68 := hR52.trans hR66 rfl
  have e69 := CRx.fr e53 hF65 rfl rfl
  have e70 := wLVx.fr e54 hF65 rfl rfl
  refine Or.inl ⟨rfl, ?_⟩
  refine r_load (i := 30) (u := 0) (w := 2) rfl rfl rfl ?_
  refine r_load (i := 31) (u := 0) (w := 2) rfl rfl rfl ?_
  have h71 := wphi_nn hI64
  have h72 : wphi S60 = wphi S44 := wphiX.fr hF65 rfl rfl
  have h73 : wphi S44 = wphi S26 := wphiX.fr hF49 rfl rfl
  have h74 := wpsi_nn hI64
  have h75 : wpsi S60 = wpsi S44 := wpsiX.fr hF65 rfl rfl
  have h76 : wpsi S44 = wpsi S26 := wpsiX.fr hF49 rfl rfl
  have h77 := hI64.f tf43_51
  refine r_call (i := 32) (u := 11) (v := 251) (w := 0) (b := 0) (na := 1281) (C2 := xC251) (as := [(2, 43)]) (s := [(2, 43)]) rfl rfl rfl rfl rfl rfl rfl (sp251  hI64  (by omega) (by omega) (by omega) e70 (by omega)) (fun r78 S79 hq80 => ?_)
  obtain ⟨z81, rfl, h82, h83, h84, h85, tx86, h87, e88, hI89, hF90, hR91⟩ := hq80
  have hF92 := hF67.trans hF90 rfl rfl
  have hR93 := hR68.trans hR91 rfl
  have e94 := CRx.fr e69 hF90 rfl rfl
  refine Or.inr (Or.inl ⟨rfl, ?_⟩)
  have h95 := hI89.f tf43_43
  have h96 : S79.f 43 43 = S60.f 43 43 := hF90.f rfl
  have h97 : S60.f 43 43 = S44.f 43 43 := hF65.f rfl
  refine r_call (i := 33) (u := 11) (v := 257) (w := 0) (b := 0) (na := 514) (C2 := xC257) (as := [(2, 43), vi z81]) (s := []) rfl rfl rfl rfl rfl rfl rfl (sp257 (v := z81) hI89 ⟨by omega, by omega⟩ (by omega)  (by omega)) (fun r98 S99 hq100 => ?_)
  obtain ⟨rfl, h101, h102, hI103, hF104, hR105⟩ := hq100
  have hF106 := hF92.trans hF104 rfl rfl
  have hR107 := hR93.trans hR105 rfl
  have e108 := CRx.fr e94 hF104 rfl rfl
  have e109 := wLVx.fr e88 hF104 rfl rfl
  refine Or.inl ⟨rfl, ?_⟩
  refine r_load (i := 34) (u := 0) (w := 2) rfl rfl rfl ?_
  refine r_const (i := 35) (u := 1) (z := 1) rfl rfl ?_
  have h110 := hI103.f tf43_43
  refine r_call (i := 36) (u := 11) (v := 257) (w := 0) (b := 0) (na := 514) (C2 := xC257) (as := [(2, 43), vi 1]) (s := []) rfl rfl rfl rfl rfl rfl rfl (sp257 (v := 1) hI103 ⟨by omega, by omega⟩ (by omega)  (by omega)) (fun r111 S112 hq113 => ?_)
  obtain ⟨rfl, h114, h115, hI116, hF117, hR118⟩ := hq113
  have hF119 := hF106.trans hF117 rfl rfl
  have hR120 := hR107.trans hR118 rfl
  have e121 := CRx.fr e108 hF117 rfl rfl
  have e122 := wLVx.fr e109 hF117 rfl rfl
  refine Or.inl ⟨rfl, ?_⟩
  refine r_load (i := 37) (u := 0) (w := 2) rfl rfl rfl ?_
  refine r_const (i := 38) (u := 2) (z := 2) rfl rfl ?_
  refine r_load (i := 39) (u := 0) (w := 2) rfl rfl rfl ?_
  refine r_load (i := 40) (u := 1) (w := 0) rfl rfl rfl ?_
  refine r_call (i := 41) (u := 11) (v := 263) (w := 0) (b := 0) (na := 1026) (C2 := xC263) (as := [(2, 43), vi m]) (s := [vi 2, (2, 43)]) rfl rfl rfl rfl rfl rfl rfl (sp263 (m := m) hI116 ⟨by omega, by omega⟩   (by omega)) (fun r123 S124 hq125 => ?_)
  obtain ⟨z126, rfl, h127, h128, rfl⟩ := hq125
  refine Or.inr (Or.inl ⟨rfl, ?_⟩)
  refine r_iadd (i := 42) rfl ?_
  have h129 := hI116.f tf43_43
  have h130 := hI116.f tf43_51
  have h131 : S112.f 43 51 = S99.f 43 51 := hF117.f rfl
  have h132 : S99.f 43 51 = S79.f 43 51 := hF104.f rfl
  have h133 := wphi_nn hI116
  have h134 : wphi S112 = wphi S99 := wphiX.fr hF117 rfl rfl
  have h135 : wphi S99 = wphi S79 := wphiX.fr hF104 rfl rfl
  have h136 := wpsi_nn hI116
  have h137 : wpsi S112 = wpsi S99 := wpsiX.fr hF117 rfl rfl
  have h138 : wpsi S99 = wpsi S79 := wpsiX.fr hF104 rfl rfl
  refine r_call (i := 43) (u := 11) (v := 185) (w := 0) (b := 0) (na := 770) (C2 := xC185) (as := [(2, 43), vi (2 + z126)]) (s := []) rfl rfl rfl rfl rfl rfl rfl (sp185 (lc := 2 + z126) hI116 ⟨by omega, by omega⟩ (by omega) (by omega) (by omega) (by omega) e122 (by omega)) (fun r139 S140 hq141 => ?_)
  obtain ⟨z142, rfl, h143, h144, h145, h146, h147, h148, h149, h150, e151, hI152, hF153, hR154⟩ := hq141
  have hF155 := hF119.trans hF153 rfl rfl
  have hR156 := hR120.trans hR154 rfl
  have e157 := CRx.fr e121 hF153 rfl rfl
  refine Or.inr (Or.inl ⟨rfl, ?_⟩)
  refine r_store (i := 44) (u := 2) (w := 0) (L1 := [some ((2, 43)), some (vi m), some (vi z142)]) rfl rfl rfl rfl ?_
  refine r_load (i := 45) (u := 0) (w := 2) rfl rfl rfl ?_
  refine r_const (i := 46) (u := 42) (z := 42) rfl rfl ?_
  refine r_const (i := 47) (u := 0) (z := 0) rfl rfl ?_
  refine r_const (i := 48) (u := 1) (z := 1) rfl rfl ?_
  have h158 := hI152.f tf43_43
  refine r_call (i := 49) (u := 11) (v := 250) (w := 0) (b := 0) (na := 1028) (C2 := xC250) (as := [(2, 43), vi 42, vi 0, vi 1]) (s := []) rfl rfl rfl rfl rfl rfl rfl (sp250 (b0 := 42) (off := 0) (on := 1) hI152 ⟨by omega, by omega⟩ ⟨by omega, by omega⟩ ⟨by omega, by omega⟩ (by omega)  (by omega)) (fun r159 S160 hq161 => ?_)
  obtain ⟨rfl, h162, h163, hI164, hF165, hR166⟩ := hq161
  have hF167 := hF155.trans hF165 rfl rfl
  have hR168 := hR156.trans hR166 rfl
  have e169 := CRx.fr e157 hF165 rfl rfl
  have e170 := wLVx.fr e151 hF165 rfl rfl
  refine Or.inl ⟨rfl, ?_⟩
  refine r_load (i := 50) (u := 0) (w := 2) rfl rfl rfl ?_
  refine r_const (i := 51) (u := 43) (z := 43) rfl rfl ?_
  refine r_const (i := 52) (u := 0) (z := 0) rfl rfl ?_
  refine r_const (i := 53) (u := 1) (z := 1) rfl rfl ?_
  have h171 := hI164.f tf43_43
  refine r_call (i := 54) (u := 11) (v := 250) (w := 0) (b := 0) (na := 1028) (C2 := xC250) (as := [(2, 43), vi 43, vi 0, vi 1]) (s := []) rfl rfl rfl rfl rfl rfl rfl (sp250 (b0 := 43) (off := 0) (on := 1) hI164 ⟨by omega, by omega⟩ ⟨by omega, by omega⟩ ⟨by omega, by omega⟩ (by omega)  (by omega)) (fun r172 S173 hq174 => ?_)
  obtain ⟨rfl, h175, h176, hI177, hF178, hR179⟩ := hq174
  have hF180 := hF167.trans hF178 rfl rfl
  have hR181 := hR168.trans hR179 rfl
  have e182 := CRx.fr e169 hF178 rfl rfl
  have e183 := wLVx.fr e170 hF178 rfl rfl
  refine Or.inl ⟨rfl, ?_⟩
  refine r_load (i := 55) (u := 0) (w := 2) rfl rfl rfl ?_
  refine r_const (i := 56) (u := 181) (z := 181) rfl rfl ?_
  refine r_const (i := 57) (u := 2) (z := 2) rfl rfl ?_
  refine r_const (i := 58) (u := 0) (z := 0) rfl rfl ?_
  have h184 := hI177.f tf43_43
  refine r_call (i := 59) (u := 11) (v := 250) (w := 0) (b := 0) (na := 1028) (C2 := xC250) (as := [(2, 43), vi 181, vi 2, vi 0]) (s := []) rfl rfl rfl rfl rfl rfl rfl (sp250 (b0 := 181) (off := 2) (on := 0) hI177 ⟨by omega, by omega⟩ ⟨by omega, by omega⟩ ⟨by omega, by omega⟩ (by omega)  (by omega)) (fun r185 S186 hq187 => ?_)
  obtain ⟨rfl, h188, h189, hI190, hF191, hR192⟩ := hq187
  have hF193 := hF180.trans hF191 rfl rfl
  have hR194 := hR181.trans hR192 rfl
  have e195 := CRx.fr e182 hF191 rfl rfl
  have e196 := wLVx.fr e183 hF191 rfl rfl
  refine Or.inl ⟨rfl, ?_⟩
  refine r_load (i := 60) (u := 0) (w := 2) rfl rfl rfl ?_
  refine r_load (i := 61) (u := 0) (w := 2) rfl rfl rfl ?_
  refine r_const (i := 62) (u := 9) (z := 9) rfl rfl ?_
  refine r_load (i := 63) (u := 0) (w := 2) rfl rfl rfl ?_
  have h197 := hI190.f tf43_51
  have h198 : S186.f 43 51 = S173.f 43 51 := hF191.f rfl
  have h199 : S173.f 43 51 = S160.f 43 51 := hF178.f rfl
  have h200 : S160.f 43 51 = S140.f 43 51 := hF165.f rfl
  have h201 := wphi_nn hI190
  have h202 : wphi S186 = wphi S173 := wphiX.fr hF191 rfl rfl
  have h203 : wphi S173 = wphi S160 := wphiX.fr hF178 rfl rfl
  have h204 : wphi S160 = wphi S140 := wphiX.fr hF165 rfl rfl
  have h205 := wpsi_nn hI190
  have h206 : wpsi S186 = wpsi S173 := wpsiX.fr hF191 rfl rfl
  have h207 : wpsi S173 = wpsi S160 := wpsiX.fr hF178 rfl rfl
  have h208 : wpsi S160 = wpsi S140 := wpsiX.fr hF165 rfl rfl
  refine r_call (i := 64) (u := 11) (v := 233) (w := 0) (b := 0) (na := 257) (C2 := xC233) (as := [(2, 43)]) (s := [vi 9, (2, 43), (2, 43)]) rfl rfl rfl rfl rfl rfl rfl (sp233  hI190  (by omega) (by omega) (by omega) e196 (by omega)) (fun r209 S210 hq211 => ?_)
  obtain ⟨z212, rfl, h213, h214, h215, h216, h217, e218, hI219, hF220, hR221⟩ := hq211
  have hF222 := hF193.trans hF220 rfl rfl
  have hR223 := hR194.trans hR221 rfl
  have e224 := CRx.fr e195 hF220 rfl rfl
  refine Or.inr (Or.inl ⟨rfl, ?_⟩)
  refine r_str (i := 65) (v := 46) rfl ?_
  have h225 := slv46
  refine r_str (i := 66) (v := 47) rfl ?_
  have h226 := slv47
  have h227 := hI219.f tf43_51
  have h228 := wphi_nn hI219
  have h229 := wpsi_nn hI219
  refine r_call (i := 67) (u := 11) (v := 218) (w := 0) (b := 0) (na := 1797) (C2 := xC218) (as := [(2, 43), vi 9, vi z212, (6, 46), (6, 47)]) (s := [(2, 43)]) rfl rfl rfl rfl rfl rfl rfl (sp218 (w0 := 9) (ow := z212) (s1 := 46) (s2 := 47) hI219 ⟨by omega, by omega⟩ ⟨by omega, by omega⟩ ⟨by decide, by decide⟩ ⟨by decide, by decide⟩ (by omega) (by omega) (by omega) (by omega) (by omega) e218 (by omega)) (fun r230 S231 hq232 => ?_)
  obtain ⟨z233, rfl, h234, h235, h236, h237, h238, e239, hI240, hF241, hR242⟩ := hq232
  have hF243 := hF222.trans hF241 rfl rfl
  have hR244 := hR223.trans hR242 rfl
  have e245 := CRx.fr e224 hF241 rfl rfl
  refine Or.inr (Or.inl ⟨rfl, ?_⟩)
  have h246 := hI240.f tf43_43
  have h247 : S231.f 43 43 = S210.f 43 43 := hF241.f rfl
  have h248 : S210.f 43 43 = S186.f 43 43 := hF220.f rfl
  refine r_call (i := 68) (u := 11) (v := 257) (w := 0) (b := 0) (na := 514) (C2 := xC257) (as := [(2, 43), vi z233]) (s := []) rfl rfl rfl rfl rfl rfl rfl (sp257 (v := z233) hI240 ⟨by omega, by omega⟩ (by omega)  (by omega)) (fun r249 S250 hq251 => ?_)
  obtain ⟨rfl, h252, h253, hI254, hF255, hR256⟩ := hq251
  have hF257 := hF243.trans hF255 rfl rfl
  have hR258 := hR244.trans hR256 rfl
  have e259 := CRx.fr e245 hF255 rfl rfl
  have e260 := wLVx.fr e239 hF255 rfl rfl
  refine Or.inl ⟨rfl, ?_⟩
  refine r_load (i := 69) (u := 0) (w := 2) rfl rfl rfl ?_
  refine r_const (i := 70) (u := 42) (z := 42) rfl rfl ?_
  refine r_const (i := 71) (u := 0) (z := 0) rfl rfl ?_
  refine r_const (i := 72) (u := 1) (z := 1) rfl rfl ?_
  have h261 := hI254.f tf43_43
  refine r_call (i := 73) (u := 11) (v := 250) (w := 0) (b := 0) (na := 1028) (C2 := xC250) (as := [(2, 43), vi 42, vi 0, vi 1]) (s := []) rfl rfl rfl rfl rfl rfl rfl (sp250 (b0 := 42) (off := 0) (on := 1) hI254 ⟨by omega, by omega⟩ ⟨by omega, by omega⟩ ⟨by omega, by omega⟩ (by omega)  (by omega)) (fun r262 S263 hq264 => ?_)
  obtain ⟨rfl, h265, h266, hI267, hF268, hR269⟩ := hq264
  have hF270 := hF257.trans hF268 rfl rfl
  have hR271 := hR258.trans hR269 rfl
  have e272 := CRx.fr e259 hF268 rfl rfl
  have e273 := wLVx.fr e260 hF268 rfl rfl
  refine Or.inl ⟨rfl, ?_⟩
  refine r_load (i := 74) (u := 0) (w := 2) rfl rfl rfl ?_
  refine r_load (i := 75) (u := 1) (w := 0) rfl rfl rfl ?_
  refine r_const (i := 76) (u := 2) (z := 2) rfl rfl ?_
  have h274 := hI267.f tf43_43
  refine r_call (i := 77) (u := 11) (v := 215) (w := 0) (b := 0) (na := 1283) (C2 := xC215) (as := [(2, 43), vi m, vi 2]) (s := []) rfl rfl rfl rfl rfl rfl rfl (sp215 (m := m) (fr := 2) hI267 ⟨by omega, by omega⟩ ⟨by omega, by omega⟩ (by omega)  (by omega)) (fun r275 S276 hq277 => ?_)
  obtain ⟨rfl, h278, h279, hI280, hF281, hR282⟩ := hq277
  have hF283 := hF270.trans hF281 rfl rfl
  have hR284 := hR271.trans hR282 rfl
  have e285 := CRx.fr e272 hF281 rfl rfl
  have e286 := wLVx.fr e273 hF281 rfl rfl
  refine Or.inl ⟨rfl, ?_⟩
  refine r_load (i := 78) (u := 0) (w := 2) rfl rfl rfl ?_
  refine r_const (i := 79) (u := 183) (z := 183) rfl rfl ?_
  refine r_const (i := 80) (u := 1) (z := 1) rfl rfl ?_
  refine r_load (i := 81) (u := 0) (w := 2) rfl rfl rfl ?_
  refine r_load (i := 82) (u := 1) (w := 0) rfl rfl rfl ?_
  refine r_call (i := 83) (u := 11) (v := 263) (w := 0) (b := 0) (na := 1026) (C2 := xC263) (as := [(2, 43), vi m]) (s := [vi 1, vi 183, (2, 43)]) rfl rfl rfl rfl rfl rfl rfl (sp263 (m := m) hI280 ⟨by omega, by omega⟩   (by omega)) (fun r287 S288 hq289 => ?_)
  obtain ⟨z290, rfl, h291, h292, rfl⟩ := hq289
  refine Or.inr (Or.inl ⟨rfl, ?_⟩)
  refine r_iadd (i := 84) rfl ?_
  refine r_const (i := 85) (u := 0) (z := 0) rfl rfl ?_
  have h293 := hI280.f tf43_43
  refine r_call (i := 86) (u := 11) (v := 250) (w := 0) (b := 0) (na := 1028) (C2 := xC250) (as := [(2, 43), vi 183, vi (1 + z290), vi 0]) (s := []) rfl rfl rfl rfl rfl rfl rfl (sp250 (b0 := 183) (off := 1 + z290) (on := 0) hI280 ⟨by omega, by omega⟩ ⟨by omega, by omega⟩ ⟨by omega, by omega⟩ (by omega)  (by omega)) (fun r294 S295 hq296 => ?_)
  obtain ⟨rfl, h297, h298, hI299, hF300, hR301⟩ := hq296
  have hF302 := hF283.trans hF300 rfl rfl
  have hR303 := hR284.trans hR301 rfl
  have e304 := CRx.fr e285 hF300 rfl rfl
  have e305 := wLVx.fr e286 hF300 rfl rfl
  refine Or.inl ⟨rfl, ?_⟩
  refine r_load (i := 87) (u := 0) (w := 2) rfl rfl rfl ?_
  refine r_load (i := 88) (u := 0) (w := 2) rfl rfl rfl ?_
  refine r_const (i := 89) (u := 10) (z := 10) rfl rfl ?_
  refine r_load (i := 90) (u := 0) (w := 2) rfl rfl rfl ?_
  refine r_load (i := 91) (u := 0) (w := 2) rfl rfl rfl ?_
  have h306 := hI299.f tf43_21
  have h307 : S295.f 43 21 = S0.f 43 21 := hF302.f rfl
  refine r_getf (i := 92) (v := 21) (w := 11) (x := vi (S295.f 43 21)) rfl ly43 rfl rfl fun h308 => ?_
  have h308 : Rg (S295.f 43 21) := h308
  have h309 := hI299.f tf43_51
  have h310 : S295.f 43 51 = S276.f 43 51 := hF300.f rfl
  have h311 : S276.f 43 51 = S263.f 43 51 := hF281.f rfl
  have h312 : S263.f 43 51 = S250.f 43 51 := hF268.f rfl
  have h313 : S250.f 43 51 = S231.f 43 51 := hF255.f rfl
  have h314 := wphi_nn hI299
  have h315 : wphi S295 = wphi S276 := wphiX.fr hF300 rfl rfl
  have h316 : wphi S276 = wphi S263 := wphiX.fr hF281 rfl rfl
  have h317 : wphi S263 = wphi S250 := wphiX.fr hF268 rfl rfl
  have h318 : wphi S250 = wphi S231 := wphiX.fr hF255 rfl rfl
  have h319 := wpsi_nn hI299
  have h320 : wpsi S295 = wpsi S276 := wpsiX.fr hF300 rfl rfl
  have h321 : wpsi S276 = wpsi S263 := wpsiX.fr hF281 rfl rfl
  have h322 : wpsi S263 = wpsi S250 := wpsiX.fr hF268 rfl rfl
  have h323 : wpsi S250 = wpsi S231 := wpsiX.fr hF255 rfl rfl
  refine r_call (i := 93) (u := 11) (v := 193) (w := 0) (b := 0) (na := 514) (C2 := xC193) (as := [(2, 43), vi (S295.f 43 21)]) (s := [vi 10, (2, 43), (2, 43)]) rfl rfl rfl rfl rfl rfl rfl (sp193 (t := S295.f 43 21) hI299 ⟨by omega, by omega⟩ (by omega) (by omega) (by omega) e305 (by omega)) (fun r324 S325 hq326 => ?_)
  obtain ⟨z327, rfl, h328, h329, h330, h331, h332, e333, hI334, hF335, hR336⟩ := hq326
  have hF337 := hF302.trans hF335 rfl rfl
  have hR338 := hR303.trans hR336 rfl
  have e339 := CRx.fr e304 hF335 rfl rfl
  refine Or.inr (Or.inl ⟨rfl, ?_⟩)
  refine r_load (i := 94) (u := 1) (w := 0) rfl rfl rfl ?_
  have h340 := hI334.f tf43_51
  have h341 := wphi_nn hI334
  have h342 := wpsi_nn hI334
  have h343 := hI334.a ta56 m.toNat
  have h344 : S325.a 56 m.toNat = S0.a 56 m.toNat := hF337.a rfl _
  refine r_call (i := 95) (u := 11) (v := 219) (w := 0) (b := 0) (na := 1540) (C2 := xC219) (as := [(2, 43), vi 10, vi z327, vi m]) (s := [(2, 43)]) rfl rfl rfl rfl rfl rfl rfl (sp219 (w0 := 10) (ow := z327) (m := m) hI334 ⟨by omega, by omega⟩ ⟨by omega, by omega⟩ ⟨by omega, by omega⟩ (by omega) (by omega) (by omega) e333 (by omega)) (fun r345 S346 hq347 => ?_)
  obtain ⟨z348, rfl, h349, h350, h351, h352, h353, h354, e355, hI356, hF357, hR358⟩ := hq347
  have hF359 := hF337.trans hF357 rfl rfl
  have hR360 := hR338.trans hR358 rfl
  have e361 := CRx.fr e339 hF357 rfl rfl
  refine Or.inr (Or.inl ⟨rfl, ?_⟩)
  have h362 := hI356.f tf43_43
  have h363 : S346.f 43 43 = S325.f 43 43 := hF357.f rfl
  have h364 : S325.f 43 43 = S295.f 43 43 := hF335.f rfl
  refine r_call (i := 96) (u := 11) (v := 257) (w := 0) (b := 0) (na := 514) (C2 := xC257) (as := [(2, 43), vi z348]) (s := []) rfl rfl rfl rfl rfl rfl rfl (sp257 (v := z348) hI356 ⟨by omega, by omega⟩ (by omega)  (by omega)) (fun r365 S366 hq367 => ?_)
  obtain ⟨rfl, h368, h369, hI370, hF371, hR372⟩ := hq367
  have hF373 := hF359.trans hF371 rfl rfl
  have hR374 := hR360.trans hR372 rfl
  have e375 := CRx.fr e361 hF371 rfl rfl
  have e376 := wLVx.fr e355 hF371 rfl rfl
  refine Or.inl ⟨rfl, ?_⟩
  refine r_load (i := 97) (u := 0) (w := 2) rfl rfl rfl ?_
  refine r_const (i := 98) (u := 177) (z := 177) rfl rfl ?_
  refine r_const (i := 99) (u := 0) (z := 0) rfl rfl ?_
  refine r_const (i := 100) (u := 0) (z := 0) rfl rfl ?_
  have h377 := hI370.f tf43_43
  refine r_call (i := 101) (u := 11) (v := 250) (w := 0) (b := 0) (na := 1028) (C2 := xC250) (as := [(2, 43), vi 177, vi 0, vi 0]) (s := []) rfl rfl rfl rfl rfl rfl rfl (sp250 (b0 := 177) (off := 0) (on := 0) hI370 ⟨by omega, by omega⟩ ⟨by omega, by omega⟩ ⟨by omega, by omega⟩ (by omega)  (by omega)) (fun r378 S379 hq380 => ?_)
  obtain ⟨rfl, h381, h382, hI383, hF384, hR385⟩ := hq380
  have hF386 := hF373.trans hF384 rfl rfl
  have hR387 := hR374.trans hR385 rfl
  have e388 := CRx.fr e375 hF384 rfl rfl
  have e389 := wLVx.fr e376 hF384 rfl rfl
  refine Or.inl ⟨rfl, ?_⟩
  refine r_load (i := 102) (u := 0) (w := 2) rfl rfl rfl ?_
  refine r_load (i := 103) (u := 2) (w := 0) rfl rfl rfl ?_
  refine r_const (i := 104) (u := 4294967295) (z := -1) rfl rfl ?_
  refine r_const (i := 105) (u := 0) (z := 0) rfl rfl ?_
  have h390 := hI383.f tf43_43
  have h391 := hI383.f tf43_51
  have h392 : S379.f 43 51 = S366.f 43 51 := hF384.f rfl
  have h393 : S366.f 43 51 = S346.f 43 51 := hF371.f rfl
  have h394 := wphi_nn hI383
  have h395 : wphi S379 = wphi S366 := wphiX.fr hF384 rfl rfl
  have h396 : wphi S366 = wphi S346 := wphiX.fr hF371 rfl rfl
  have h397 := wpsi_nn hI383
  have h398 : wpsi S379 = wpsi S366 := wpsiX.fr hF384 rfl rfl
  have h399 : wpsi S366 = wpsi S346 := wpsiX.fr hF371 rfl rfl
  refine r_call (i := 106) (u := 11) (v := 198) (w := 0) (b := 0) (na := 2052) (C2 := xC198) (as := [(2, 43), vi z142, vi (-1), vi 0]) (s := []) rfl rfl rfl rfl rfl rfl rfl (sp198 (bg := z142) (h := -1) (k := 0) hI383 ⟨by omega, by omega⟩ ⟨by omega, by omega⟩ ⟨by omega, by omega⟩ (by omega) (by omega) (by omega) (by omega) (by omega) e389 (by omega)) (fun r400 S401 hq402 => ?_)
  obtain ⟨rfl, h403, h404, h405, h406, h407, h408, e409, hI410, hF411, hR412⟩ := hq402
  have hF413 := hF386.trans hF411 rfl rfl
  have hR414 := hR387.trans hR412 rfl
  have e415 := CRx.fr e388 hF411 rfl rfl
  refine Or.inl ⟨rfl, ?_⟩
  have h416 := hI410.f tf43_43
  have h417 := hI410.f tf43_51
  have h418 := wphi_nn hI410
  have h419 := wpsi_nn hI410
  exact r_ret0 (i := 107) rfl ⟨rfl, (by omega), (by omega), (by omega), (by omega), (by omega), e409, e415, hI410, hF413, hR414⟩
/-- ProxyForgeModel.writeConstructor -/
theorem sp264 {G : xk} {S : yS} {d : Nat} (hI : yI S) {m : Int} (h_m : 0 ≤ m ∧ m ≤ 59) (p_0 : S.f 43 43 ≤ 23000) (p_1 : S.f 43 51 = 0) (p_2 : wphi S ≤ 19000) (p_3 : wpsi S ≤ 1000) (p_4 : S.a 53 m.toNat = 10) (e_wLV : wLV S) (e_CR : CR S) (hd : 9 ≤ d) : yT xPr G LY xC264 0 [some ((2, 43)), some (vi m)] [] S d (fun r S' => r = (0, (0, 0)) ∧ S.f 43 43 ≤ S'.f 43 43 ∧ S'.f 43 43 ≤ S.f 43 43 + 44 ∧ S'.f 43 51 = 0 ∧ wphi S' ≤ wphi S + 269 ∧ wpsi S' ≤ wpsi S + 6 ∧ wLV S' ∧ CR S' ∧ yI S' ∧ yFr [(43, 43), (43, 49), (43, 50), (43, 51), (43, 52), (43, 53)] [72, 73, 74, 75, 76, 77] S S' ∧ yRm [] S S') := by
  refine yT_pad 1 ?_
  show yT xPr G LY xC264 0 [some ((2, 43)), some (vi m), none] [] S d _
  obtain ⟨d, rfl⟩ : ∃ q, d = q + 1 := ⟨d - 1, by omega⟩
  have hF : yFr [(43, 43), (43, 49), (43, 50), (43, 51), (43, 52), (43, 53)] [72, 73, 74, 75, 76, 77] S S := yFr.refl S
  have hR : yRm [] S S := yRm.refl S
  have h1 := hI.f tf43_43
  have h2 := hI.f tf43_51
  have h3 := wphi_nn hI
  have h4 := wpsi_nn hI
  have h5 := hI.a ta53 m.toNat
  have cr9 := e_CR m.toNat p_4
  refine r_load (i := 0) (u := 0) (w := 2) rfl rfl rfl ?_
  refine r_load (i := 1) (u := 0) (w := 2) rfl rfl rfl ?_
  refine r_getf (i := 2) (v := 13) (w := 11) (x := (2, 54)) rfl ly43 rfl rfl fun _ => ?_
  refine r_load (i := 3) (u := 1) (w := 0) rfl rfl rfl ?_
  refine a_int (i := 4) rfl ly54 rfl (by omega) (by omega) fun h7 => ?_
  have h8 := hI.a ta54 m.toNat
  refine r_const (i := 5) (u := 1) (z := 1) rfl rfl ?_
  refine r_iand (i := 6) rfl ?_
  have h9 := @yand_c (S.a 54 m.toNat) 1 (by decide) (by decide)
  refine z_le (i := 7) (v := 10) rfl ⟨by omega, by omega⟩ (fun h10 => ?_) (fun h11 => ?_)
  · refine r_load (i := 10) (u := 0) (w := 2) rfl rfl rfl ?_
    refine r_getf (i := 11) (v := 13) (w := 11) (x := (2, 54)) rfl ly43 rfl rfl fun _ => ?_
    refine r_load (i := 12) (u := 1) (w := 0) rfl rfl rfl ?_
    refine a_int (i := 13) rfl ly54 rfl (by omega) (by omega) fun h13 => ?_
    have h14 := hI.a ta54 m.toNat
    refine r_const (i := 14) (u := 2) (z := 2) rfl rfl ?_
    refine r_iand (i := 15) rfl ?_
    have h15 := @yand_c (S.a 54 m.toNat) 2 (by decide) (by decide)
    refine z_le (i := 16) (v := 19) rfl ⟨by omega, by omega⟩ (fun h16 => ?_) (fun h17 => ?_)
    · refine r_const (i := 19) (u := 0) (z := 0) rfl rfl ?_
      have h18 := hI.a ta56 m.toNat
      exact lp264_20 h_m p_0 p_1 p_2 p_3 p_4 hd S hI hF hR e_wLV e_CR 0 ⟨by omega, by omega⟩ (by omega) (by omega) (by omega) (by omega) (by omega) (by omega) 
    · refine r_const (i := 17) (u := 4) (z := 4) rfl rfl ?_
      refine r_goto (i := 18) (v := 20) rfl ?_
      have h19 := hI.a ta56 m.toNat
      exact lp264_20 h_m p_0 p_1 p_2 p_3 p_4 hd S hI hF hR e_wLV e_CR 4 ⟨by omega, by omega⟩ (by omega) (by omega) (by omega) (by omega) (by omega) (by omega) 
  · refine r_const (i := 8) (u := 1) (z := 1) rfl rfl ?_
    refine r_goto (i := 9) (v := 20) rfl ?_
    have h20 := hI.a ta56 m.toNat
    exact lp264_20 h_m p_0 p_1 p_2 p_3 p_4 hd S hI hF hR e_wLV e_CR 1 ⟨by omega, by omega⟩ (by omega) (by omega) (by omega) (by omega) (by omega) (by omega) 
/-- ProxyForgeModel.out -/
theorem sp226 {G : xk} {S : yS} {d : Nat} (hI : yI S) {v : Int} (h_v : -2147483648 ≤ v ∧ v ≤ 2147483647) (p_0 : S.f 43 42 ≤ 23499) (hd : 0 ≤ d) : yT xPr G LY xC226 0 [some ((2, 43)), some (vi v)] [] S d (fun r S' => r = (0, (0, 0)) ∧ S'.f 43 42 = S.f 43 42 + 1 ∧ yI S' ∧ yFr [(43, 42)] [71] S S' ∧ yRm [] S S') := by
  refine yT_pad 0 ?_
  show yT xPr G LY xC226 0 [some ((2, 43)), some (vi v)] [] S d _
  have hF : yFr [(43, 42)] [71] S S := yFr.refl S
  have hR : yRm [] S S := yRm.refl S
  have h1 := hI.f tf43_42
  refine r_load (i := 0) (u := 0) (w := 2) rfl rfl rfl ?_
  refine r_getf (i := 1) (v := 40) (w := 11) (x := (2, 71)) rfl ly43 rfl rfl fun _ => ?_
  refine r_load (i := 2) (u := 0) (w := 2) rfl rfl rfl ?_
  refine r_getf (i := 3) (v := 42) (w := 11) (x := vi (S.f 43 42)) rfl ly43 rfl rfl fun h3 => ?_
  have h3 : Rg (S.f 43 42) := h3
  refine r_load (i := 4) (u := 1) (w := 0) rfl rfl rfl ?_
  refine r_const (i := 5) (u := 255) (z := 255) rfl rfl ?_
  refine r_iand (i := 6) rfl ?_
  have h4 := @yand_c v 255 (by decide) (by decide)
  have h5 := yand_255 v
  refine s_int (i := 7) rfl ly71 rfl (by omega) (by omega) ⟨by omega, by omega⟩ ?_
  have hI7 := hI.seta (b := 71) (j := (S.f 43 42).toNat) (z := yand v 255) ta71 rfl (by omega) (by omega)
  have hF9 := hF.seta (b := 71) (j := (S.f 43 42).toNat) (z := yand v 255) rfl
  have hR10 := hR.seta (b := 71) (j := (S.f 43 42).toNat) (z := yand v 255)
  refine yT_gen (fun S6 hS8 => ?_)
  rw [hS8] at hI7 hF9 hR10 
  refine r_load (i := 8) (u := 0) (w := 2) rfl rfl rfl ?_
  refine r_dup (i := 9) rfl rfl ?_
  have h11 := hI7.f tf43_42
  have h12 : S6.f 43 42 = S.f 43 42 := by rw [← hS8]; rfl
  refine r_getf (i := 10) (v := 42) (w := 11) (x := vi (S6.f 43 42)) rfl ly43 rfl rfl fun h13 => ?_
  have h13 : Rg (S6.f 43 42) := h13
  refine r_const (i := 11) (u := 1) (z := 1) rfl rfl ?_
  refine r_iadd (i := 12) rfl ?_
  refine r_putI (i := 13) (v := 42) (w := 11) rfl ly43 rfl ⟨by omega, by omega⟩ ?_
  have hI15 := hI7.setf (b := 43) (w := 42) (z := (S6.f 43 42) + 1) tf43_42 rfl (by omega) (by omega)
  have hF17 := hF9.setf (b := 43) (w := 42) (z := (S6.f 43 42) + 1) rfl
  have hR18 := hR10.setf (b := 43) (w := 42) (z := (S6.f 43 42) + 1)
  refine yT_gen (fun S14 hS16 => ?_)
  rw [hS16] at hI15 hF17 hR18 
  have h19 := hI15.f tf43_42
  have h20 : S14.f 43 42 = (S6.f 43 42) + 1 := by rw [← hS16]; exact ysf_eq
  exact r_ret0 (i := 14) rfl ⟨rfl, (by omega), hI15, hF17, hR18⟩
/-- ProxyForgeModel.outTwo -/
theorem sp227 {G : xk} {S : yS} {d : Nat} (hI : yI S) {v : Int} (h_v : 0 ≤ v ∧ v ≤ 2147483647) (p_0 : S.f 43 42 ≤ 23498) (hd : 1 ≤ d) : yT xPr G LY xC227 0 [some ((2, 43)), some (vi v)] [] S d (fun r S' => r = (0, (0, 0)) ∧ S'.f 43 42 = S.f 43 42 + 2 ∧ yI S' ∧ yFr [(43, 42)] [71] S S' ∧ yRm [] S S') := by
  refine yT_pad 0 ?_
  show yT xPr G LY xC227 0 [some ((2, 43)), some (vi v)] [] S d _
  obtain ⟨d, rfl⟩ : ∃ q, d = q + 1 := ⟨d - 1, by omega⟩
  have hF : yFr [(43, 42)] [71] S S := yFr.refl S
  have hR : yRm [] S S := yRm.refl S
  have h1 := hI.f tf43_42
  refine r_load (i := 0) (u := 0) (w := 2) rfl rfl rfl ?_
  refine r_load (i := 1) (u := 1) (w := 0) rfl rfl rfl ?_
  refine r_const (i := 2) (u := 8) (z := 8) rfl rfl ?_
  refine r_ishr (i := 3) rfl (by omega) (by omega) (by omega) (by omega) ?_
  have h2 := @yshr_c v 8 (by omega) (by omega)
  refine r_call (i := 4) (u := 11) (v := 226) (w := 0) (b := 0) (na := 514) (C2 := xC226) (as := [(2, 43), vi (yshr v 8)]) (s := []) rfl rfl rfl rfl rfl rfl rfl (sp226 (v := yshr v 8) hI ⟨by omega, by omega⟩ (by omega)  (by omega)) (fun r3 S4 hq5 => ?_)
  obtain ⟨rfl, h6, hI7, hF8, hR9⟩ := hq5
  have hF10 := hF.trans hF8 rfl rfl
  have hR11 := hR.trans hR9 rfl
  refine Or.inl ⟨rfl, ?_⟩
  refine r_load (i := 5) (u := 0) (w := 2) rfl rfl rfl ?_
  refine r_load (i := 6) (u := 1) (w := 0) rfl rfl rfl ?_
  have h12 := hI7.f tf43_42
  refine r_call (i := 7) (u := 11) (v := 226) (w := 0) (b := 0) (na := 514) (C2 := xC226) (as := [(2, 43), vi v]) (s := []) rfl rfl rfl rfl rfl rfl rfl (sp226 (v := v) hI7 ⟨by omega, by omega⟩ (by omega)  (by omega)) (fun r13 S14 hq15 => ?_)
  obtain ⟨rfl, h16, hI17, hF18, hR19⟩ := hq15
  have hF20 := hF10.trans hF18 rfl rfl
  have hR21 := hR11.trans hR19 rfl
  refine Or.inl ⟨rfl, ?_⟩
  have h22 := hI17.f tf43_42
  exact r_ret0 (i := 8) rfl ⟨rfl, (by omega), hI17, hF20, hR21⟩
theorem lp265_204 {G : xk} {d : Nat} {S0 : yS}  (hd : 11 ≤ d + 1) {e : Int} (h_e : 1 ≤ e ∧ e ≤ 1199) (no : Nat) (K : ∀ (S : yS) (hI : yI S) (hF : yFr [(43, 42), (43, 43), (43, 49), (43, 50), (43, 51), (43, 52), (43, 53)] [68, 71, 72, 73, 74, 75, 76, 77] S0 S) (hR : yRm [] S0 S) (e_wAS : wAS S) (e_wSD : wSD S) (e_CR : CR S) (e : Int) (h_e : 1 ≤ e ∧ e ≤ 1200) (q_0 : S.f 43 42 = 10 + web S e) (q_1 : e ≤ S.f 43 49 + 1) (q_2 : wphi S + S.f 43 43 ≤ 23300) (hn : 1200 - e < (no : Nat)), yT xPr G LY xC265 180 [some ((2, 43)), none, some (vi e), none] [] S (d + 1) (fun r S' => r = (0, (0, 0)) ∧ wAS S' ∧ wSD S' ∧ CR S' ∧ yI S' ∧ yFr [(43, 42), (43, 43), (43, 49), (43, 50), (43, 51), (43, 52), (43, 53)] [68, 71, 72, 73, 74, 75, 76, 77] S0 S' ∧ yRm [] S0 S')) (hm : 1200 - e < ((no + 1 : Nat) : Int)) : ∀ (n : Nat), ∀ (S : yS) (hI : yI S) (hF : yFr [(43, 42), (43, 43), (43, 49), (43, 50), (43, 51), (43, 52), (43, 53)] [68, 71, 72, 73, 74, 75, 76, 77] S0 S) (hR : yRm [] S0 S) (e_wAS : wAS S) (e_wSD : wSD S) (e_CR : CR S) (q : Int) (h_q : 0 ≤ q ∧ q ≤ 1200) (q_0 : S.f 43 42 = 13 + web S e + q) (q_1 : e ≤ S.f 43 49) (q_2 : wphi S + S.f 43 43 ≤ 23300) (q_3 : q ≤ S.a 75 e.toNat) (q_4 : web S (e + 1) = web S e + 3 + S.a 75 e.toNat) (q_5 : web S (e + 1) ≤ wphi S) (hn : 1200 - q < (n : Nat)), yT xPr G LY xC265 204 [some ((2, 43)), none, some (vi e), some (vi q)] [] S (d + 1) (fun r S' => r = (0, (0, 0)) ∧ wAS S' ∧ wSD S' ∧ CR S' ∧ yI S' ∧ yFr [(43, 42), (43, 43), (43, 49), (43, 50), (43, 51), (43, 52), (43, 53)] [68, 71, 72, 73, 74, 75, 76, 77] S0 S' ∧ yRm [] S0 S') := by
  intro n
  induction n with
  | zero => intro S hI hF hR e_wAS e_wSD e_CR q h_q q_0 q_1 q_2 q_3 q_4 q_5 hn; exact absurd hn (by omega)
  | succ n ih =>
    intro S hI hF hR e_wAS e_wSD e_CR q h_q q_0 q_1 q_2 q_3 q_4 q_5 hn
    have h1 := hI.f tf43_42
    have h2 := web_1 (S := S)
    have h3 := hI.f tf43_49
    have h4 := hI.f tf43_43
    have h5 := wphi_nn hI
    have h6 := hI.a ta75 e.toNat
    have h7 := hI.a ta75 e.toNat
    refine r_load (i := 204) (u := 3) (w := 0) rfl rfl rfl ?_
    refine r_load (i := 205) (u := 0) (w := 2) rfl rfl rfl ?_
    refine r_getf (i := 206) (v := 46) (w := 11) (x := (2, 75)) rfl ly43 rfl rfl fun _ => ?_
    refine r_load (i := 207) (u := 2) (w := 0) rfl rfl rfl ?_
    refine a_int (i := 208) rfl ly75 rfl (by omega) (by omega) fun h9 => ?_
    have h10 := hI.a ta75 e.toNat
    refine c_ge (i := 209) (v := 223) rfl ⟨by omega, by omega⟩ ⟨by omega, by omega⟩ (fun h11 => ?_) (fun h12 => ?_)
    · refine r_goto (i := 223) (v := 242) rfl ?_
      refine r_iinc (i := 242) (u := 1) (v := 2) (s := 1) (L1 := [some ((2, 43)), none, some (vi (e + 1)), some (vi q)]) rfl rfl rfl rfl rfl ?_
      refine r_goto (i := 243) (v := 180) rfl ?_
      refine yT_drop (L1 := [some ((2, 43)), none, some (vi (e + 1)), none]) rfl ?_
      exact K S hI hF hR e_wAS e_wSD e_CR (e + 1) ⟨by omega, by omega⟩ (by omega) (by omega) (by omega) (by omega)
    · refine r_load (i := 210) (u := 0) (w := 2) rfl rfl rfl ?_
      refine r_load (i := 211) (u := 0) (w := 2) rfl rfl rfl ?_
      refine r_getf (i := 212) (v := 47) (w := 11) (x := (2, 76)) rfl ly43 rfl rfl fun _ => ?_
      refine r_load (i := 213) (u := 0) (w := 2) rfl rfl rfl ?_
      refine r_getf (i := 214) (v := 45) (w := 11) (x := (2, 74)) rfl ly43 rfl rfl fun _ => ?_
      refine r_load (i := 215) (u := 2) (w := 0) rfl rfl rfl ?_
      refine a_int (i := 216) rfl ly74 rfl (by omega) (by omega) fun h15 => ?_
      have h16 := hI.a ta74 e.toNat
      refine r_load (i := 217) (u := 3) (w := 0) rfl rfl rfl ?_
      refine r_iadd (i := 218) rfl ?_
      refine a_int (i := 219) rfl ly76 rfl (by omega) (by omega) fun h17 => ?_
      have h18 := hI.a ta76 ((S.a 74 e.toNat) + q).toNat
      refine r_call (i := 220) (u := 11) (v := 226) (w := 0) (b := 0) (na := 514) (C2 := xC226) (as := [(2, 43), vi (S.a 76 ((S.a 74 e.toNat) + q).toNat)]) (s := []) rfl rfl rfl rfl rfl rfl rfl (sp226 (v := S.a 76 ((S.a 74 e.toNat) + q).toNat) hI ⟨by omega, by omega⟩ (by omega)  (by omega)) (fun r19 S20 hq21 => ?_)
      obtain ⟨rfl, h22, hI23, hF24, hR25⟩ := hq21
      have hF26 := hF.trans hF24 rfl rfl
      have hR27 := hR.trans hR25 rfl
      have e28 := wASx.fr e_wAS hF24 rfl rfl
      have e29 := wSDx.fr e_wSD hF24 rfl rfl
      have e30 := CRx.fr e_CR hF24 rfl rfl
      refine Or.inl ⟨rfl, ?_⟩
      refine r_iinc (i := 221) (u := 1) (v := 3) (s := 1) (L1 := [some ((2, 43)), none, some (vi e), some (vi (q + 1))]) rfl rfl rfl rfl rfl ?_
      refine r_goto (i := 222) (v := 204) rfl ?_
      have h31 := hI23.f tf43_42
      have h32 := web_1 (S := S20)
      have h33 : web S20 = web S := webX.fr hF24 rfl rfl
      have h34 : web S20 e = web S e := congrFun h33 _
      have h35 : web S20 (e + 1) = web S (e + 1) := congrFun h33 _
      have h36 := hI23.f tf43_49
      have h37 : S20.f 43 49 = S.f 43 49 := hF24.f rfl
      have h38 := hI23.f tf43_43
      have h39 : S20.f 43 43 = S.f 43 43 := hF24.f rfl
      have h40 := wphi_nn hI23
      have h41 : wphi S20 = wphi S := wphiX.fr hF24 rfl rfl
      have h42 := hI23.a ta75 e.toNat
      have h43 : S20.a 75 e.toNat = S.a 75 e.toNat := hF24.a rfl _
      have h44 := hI23.a ta75 e.toNat
      exact ih S20 hI23 hF26 hR27 e28 e29 e30 (q + 1) ⟨by omega, by omega⟩ (by omega) (by omega) (by omega) (by omega) (by omega) (by omega) (by omega)
theorem lp265_96 {G : xk} {d : Nat} {S0 : yS}  (hd : 11 ≤ d + 1) {cn : Int} (h_cn : 0 ≤ cn ∧ cn ≤ 59) {m : Int} (h_m : 0 ≤ m ∧ m ≤ 59) (no : Nat) (K : ∀ (S : yS) (hI : yI S) (hF : yFr [(43, 42), (43, 43), (43, 49), (43, 50), (43, 51), (43, 52), (43, 53)] [68, 71, 72, 73, 74, 75, 76, 77] S0 S) (hR : yRm [] S0 S) (e_wLV : wLV S) (e_wAS : wAS S) (e_wSD : wSD S) (e_CR : CR S) (cn m : Int) (h_cn : 0 ≤ cn ∧ cn ≤ 60) (h_m : 0 ≤ m ∧ m ≤ 60) (q_0 : S.f 43 43 ≤ 24) (q_1 : S.f 43 51 = 0) (q_2 : wphi S ≤ 1000) (q_3 : wpsi S ≤ 130) (q_4 : cn ≤ m) (hn : 60 - m < (no : Nat)), yT xPr G LY xC265 68 [some ((2, 43)), some (vi cn), some (vi m), none] [] S (d + 1) (fun r S' => r = (0, (0, 0)) ∧ wAS S' ∧ wSD S' ∧ CR S' ∧ yI S' ∧ yFr [(43, 42), (43, 43), (43, 49), (43, 50), (43, 51), (43, 52), (43, 53)] [68, 71, 72, 73, 74, 75, 76, 77] S0 S' ∧ yRm [] S0 S')) (hm : 60 - m < ((no + 1 : Nat) : Int)) : ∀ (S : yS) (hI : yI S) (hF : yFr [(43, 42), (43, 43), (43, 49), (43, 50), (43, 51), (43, 52), (43, 53)] [68, 71, 72, 73, 74, 75, 76, 77] S0 S) (hR : yRm [] S0 S) (e_wLV : wLV S) (e_wAS : wAS S) (e_wSD : wSD S) (e_CR : CR S) (cn2 c0 : Int) (h_cn2 : 0 ≤ cn2 ∧ cn2 ≤ 59) (h_c0 : 0 ≤ c0 ∧ c0 ≤ 1) (q_0 : S.f 43 43 ≤ 24) (q_1 : S.f 43 51 = 0) (q_2 : wphi S ≤ 1000) (q_3 : wpsi S ≤ 130) (q_4 : cn2 ≤ m) (q_5 : m < S.f 43 10), yT xPr G LY xC265 96 [some ((2, 43)), some (vi cn), some (vi m), none] [vi c0, vi cn2] S (d + 1) (fun r S' => r = (0, (0, 0)) ∧ wAS S' ∧ wSD S' ∧ CR S' ∧ yI S' ∧ yFr [(43, 42), (43, 43), (43, 49), (43, 50), (43, 51), (43, 52), (43, 53)] [68, 71, 72, 73, 74, 75, 76, 77] S0 S' ∧ yRm [] S0 S') := by
  intro S hI hF hR e_wLV e_wAS e_wSD e_CR cn2 c0 h_cn2 h_c0 q_0 q_1 q_2 q_3 q_4 q_5
  have h1 := hI.f tf43_43
  have h2 := hI.f tf43_51
  have h3 := wphi_nn hI
  have h4 := wpsi_nn hI
  have h5 := hI.f tf43_10
  have h6 : S.f 43 10 = S0.f 43 10 := hF.f rfl
  refine r_iadd (i := 96) rfl ?_
  refine r_store (i := 97) (u := 1) (w := 0) (L1 := [some ((2, 43)), some (vi (cn2 + c0)), some (vi m), none]) rfl rfl rfl rfl ?_
  refine r_iinc (i := 98) (u := 1) (v := 2) (s := 1) (L1 := [some ((2, 43)), some (vi (cn2 + c0)), some (vi (m + 1)), none]) rfl rfl rfl rfl rfl ?_
  refine r_goto (i := 99) (v := 68) rfl ?_
  exact K S hI hF hR e_wLV e_wAS e_wSD e_CR (cn2 + c0) (m + 1) ⟨by omega, by omega⟩ ⟨by omega, by omega⟩ (by omega) (by omega) (by omega) (by omega) (by omega) (by omega)
theorem lp265_246 {G : xk} {d : Nat} {S0 : yS}  (hd : 11 ≤ d + 1) : ∀ (n : Nat), ∀ (S : yS) (hI : yI S) (hF : yFr [(43, 42), (43, 43), (43, 49), (43, 50), (43, 51), (43, 52), (43, 53)] [68, 71, 72, 73, 74, 75, 76, 77] S0 S) (hR : yRm [] S0 S) (e_wAS : wAS S) (e_wSD : wSD S) (e_CR : CR S) (q : Int) (h_q : 0 ≤ q ∧ q ≤ 23300) (q_0 : S.f 43 42 ≤ 10 + wphi S + q) (q_1 : wphi S + S.f 43 43 ≤ 23300) (q_2 : q ≤ S.f 43 43) (hn : 23300 - q < (n : Nat)), yT xPr G LY xC265 246 [some ((2, 43)), none, some (vi q), none] [] S (d + 1) (fun r S' => r = (0, (0, 0)) ∧ wAS S' ∧ wSD S' ∧ CR S' ∧ yI S' ∧ yFr [(43, 42), (43, 43), (43, 49), (43, 50), (43, 51), (43, 52), (43, 53)] [68, 71, 72, 73, 74, 75, 76, 77] S0 S' ∧ yRm [] S0 S') := by
  intro n
  induction n with
  | zero => intro S hI hF hR e_wAS e_wSD e_CR q h_q q_0 q_1 q_2 hn; exact absurd hn (by omega)
  | succ n ih =>
    intro S hI hF hR e_wAS e_wSD e_CR q h_q q_0 q_1 q_2 hn
    have h1 := hI.f tf43_42
    have h2 := wphi_nn hI
    have h3 := hI.f tf43_43
    refine r_load (i := 246) (u := 2) (w := 0) rfl rfl rfl ?_
    refine r_load (i := 247) (u := 0) (w := 2) rfl rfl rfl ?_
    refine r_getf (i := 248) (v := 43) (w := 11) (x := vi (S.f 43 43)) rfl ly43 rfl rfl fun h4 => ?_
    have h4 : Rg (S.f 43 43) := h4
    refine c_ge (i := 249) (v := 258) rfl ⟨by omega, by omega⟩ ⟨by omega, by omega⟩ (fun h5 => ?_) (fun h6 => ?_)
    · exact r_ret0 (i := 258) rfl ⟨rfl,  e_wAS, e_wSD, e_CR, hI, hF, hR⟩
    · refine r_load (i := 250) (u := 0) (w := 2) rfl rfl rfl ?_
      refine r_load (i := 251) (u := 0) (w := 2) rfl rfl rfl ?_
      refine r_getf (i := 252) (v := 41) (w := 11) (x := (2, 72)) rfl ly43 rfl rfl fun _ => ?_
      refine r_load (i := 253) (u := 2) (w := 0) rfl rfl rfl ?_
      refine a_int (i := 254) rfl ly72 rfl (by omega) (by omega) fun h8 => ?_
      refine r_call (i := 255) (u := 11) (v := 226) (w := 0) (b := 0) (na := 514) (C2 := xC226) (as := [(2, 43), vi (S.a 72 q.toNat)]) (s := []) rfl rfl rfl rfl rfl rfl rfl (sp226 (v := S.a 72 q.toNat) hI ⟨by omega, by omega⟩ (by omega)  (by omega)) (fun r9 S10 hq11 => ?_)
      obtain ⟨rfl, h12, hI13, hF14, hR15⟩ := hq11
      have hF16 := hF.trans hF14 rfl rfl
      have hR17 := hR.trans hR15 rfl
      have e18 := wASx.fr e_wAS hF14 rfl rfl
      have e19 := wSDx.fr e_wSD hF14 rfl rfl
      have e20 := CRx.fr e_CR hF14 rfl rfl
      refine Or.inl ⟨rfl, ?_⟩
      refine r_iinc (i := 256) (u := 1) (v := 2) (s := 1) (L1 := [some ((2, 43)), none, some (vi (q + 1)), none]) rfl rfl rfl rfl rfl ?_
      refine r_goto (i := 257) (v := 246) rfl ?_
      have h21 := hI13.f tf43_42
      have h22 := wphi_nn hI13
      have h23 : wphi S10 = wphi S := wphiX.fr hF14 rfl rfl
      have h24 := hI13.f tf43_43
      have h25 : S10.f 43 43 = S.f 43 43 := hF14.f rfl
      exact ih S10 hI13 hF16 hR17 e18 e19 e20 (q + 1) ⟨by omega, by omega⟩ (by omega) (by omega) (by omega) (by omega)
theorem lp265_180 {G : xk} {d : Nat} {S0 : yS}  (hd : 11 ≤ d + 1) : ∀ (n : Nat), ∀ (S : yS) (hI : yI S) (hF : yFr [(43, 42), (43, 43), (43, 49), (43, 50), (43, 51), (43, 52), (43, 53)] [68, 71, 72, 73, 74, 75, 76, 77] S0 S) (hR : yRm [] S0 S) (e_wAS : wAS S) (e_wSD : wSD S) (e_CR : CR S) (e : Int) (h_e : 1 ≤ e ∧ e ≤ 1200) (q_0 : S.f 43 42 = 10 + web S e) (q_1 : e ≤ S.f 43 49 + 1) (q_2 : wphi S + S.f 43 43 ≤ 23300) (hn : 1200 - e < (n : Nat)), yT xPr G LY xC265 180 [some ((2, 43)), none, some (vi e), none] [] S (d + 1) (fun r S' => r = (0, (0, 0)) ∧ wAS S' ∧ wSD S' ∧ CR S' ∧ yI S' ∧ yFr [(43, 42), (43, 43), (43, 49), (43, 50), (43, 51), (43, 52), (43, 53)] [68, 71, 72, 73, 74, 75, 76, 77] S0 S' ∧ yRm [] S0 S') := by
  intro n
  induction n with
  | zero => intro S hI hF hR e_wAS e_wSD e_CR e h_e q_0 q_1 q_2 hn; exact absurd hn (by omega)
  | succ n ih =>
    intro S hI hF hR e_wAS e_wSD e_CR e h_e q_0 q_1 q_2 hn
    have h1 := hI.f tf43_42
    have h2 := web_1 (S := S)
    have h3 := hI.f tf43_49
    have h4 := hI.f tf43_43
    have h5 := wphi_nn hI
    refine r_load (i := 180) (u := 2) (w := 0) rfl rfl rfl ?_
    refine r_load (i := 181) (u := 0) (w := 2) rfl rfl rfl ?_
    refine r_getf (i := 182) (v := 49) (w := 11) (x := vi (S.f 43 49)) rfl ly43 rfl rfl fun h6 => ?_
    have h6 : Rg (S.f 43 49) := h6
    refine c_gt (i := 183) (v := 244) rfl ⟨by omega, by omega⟩ ⟨by omega, by omega⟩ (fun h7 => ?_) (fun h8 => ?_)
    · have wl9 := web_le hI (e := e) (by omega) (by omega)
      refine r_const (i := 244) (u := 0) (z := 0) rfl rfl ?_
      refine r_store (i := 245) (u := 2) (w := 0) (L1 := [some ((2, 43)), none, some (vi 0), none]) rfl rfl rfl rfl ?_
      exact lp265_246   hd _ S hI hF hR e_wAS e_wSD e_CR 0 ⟨by omega, by omega⟩ (by omega) (by omega) (by omega) (Int.lt_succ_toNat _)
    · have wl9 := web_le hI (e := e) (by omega) (by omega)
      have wl8 := web_le hI (e := e + 1) (by omega) (by omega)
      refine r_load (i := 184) (u := 0) (w := 2) rfl rfl rfl ?_
      refine r_load (i := 185) (u := 0) (w := 2) rfl rfl rfl ?_
      refine r_getf (i := 186) (v := 44) (w := 11) (x := (2, 73)) rfl ly43 rfl rfl fun _ => ?_
      refine r_load (i := 187) (u := 2) (w := 0) rfl rfl rfl ?_
      refine a_int (i := 188) rfl ly73 rfl (by omega) (by omega) fun h10 => ?_
      have h11 := hI.a ta73 e.toNat
      refine r_call (i := 189) (u := 11) (v := 226) (w := 0) (b := 0) (na := 514) (C2 := xC226) (as := [(2, 43), vi (S.a 73 e.toNat)]) (s := []) rfl rfl rfl rfl rfl rfl rfl (sp226 (v := S.a 73 e.toNat) hI ⟨by omega, by omega⟩ (by omega)  (by omega)) (fun r12 S13 hq14 => ?_)
      obtain ⟨rfl, h15, hI16, hF17, hR18⟩ := hq14
      have hF19 := hF.trans hF17 rfl rfl
      have hR20 := hR.trans hR18 rfl
      have e21 := wASx.fr e_wAS hF17 rfl rfl
      have e22 := wSDx.fr e_wSD hF17 rfl rfl
      have e23 := CRx.fr e_CR hF17 rfl rfl
      refine Or.inl ⟨rfl, ?_⟩
      refine r_load (i := 190) (u := 0) (w := 2) rfl rfl rfl ?_
      refine r_getf (i := 191) (v := 44) (w := 11) (x := (2, 73)) rfl ly43 rfl rfl fun _ => ?_
      refine r_load (i := 192) (u := 2) (w := 0) rfl rfl rfl ?_
      refine a_int (i := 193) rfl ly73 rfl (by omega) (by omega) fun h25 => ?_
      have h26 := hI16.a ta73 e.toNat
      have h27 : S13.a 73 e.toNat = S.a 73 e.toNat := hF17.a rfl _
      refine r_const (i := 194) (u := 1) (z := 1) rfl rfl ?_
      refine c_ne (i := 195) (v := 224) rfl ⟨by omega, by omega⟩ ⟨by omega, by omega⟩ (fun h28 => ?_) (fun h29 => ?_)
      · have wc9 : S13.a 73 e.toNat = 7 → web S13 (e + 1) = web S13 e + 3 := fun h => web_c (by omega) h
        refine r_load (i := 224) (u := 0) (w := 2) rfl rfl rfl ?_
        refine r_load (i := 225) (u := 0) (w := 2) rfl rfl rfl ?_
        refine r_getf (i := 226) (v := 45) (w := 11) (x := (2, 74)) rfl ly43 rfl rfl fun _ => ?_
        refine r_load (i := 227) (u := 2) (w := 0) rfl rfl rfl ?_
        refine a_int (i := 228) rfl ly74 rfl (by omega) (by omega) fun h31 => ?_
        have h32 := hI16.a ta74 e.toNat
        have h33 : S13.a 74 e.toNat = S.a 74 e.toNat := hF17.a rfl _
        have h34 := hI16.f tf43_42
        refine r_call (i := 229) (u := 11) (v := 227) (w := 0) (b := 0) (na := 514) (C2 := xC227) (as := [(2, 43), vi (S13.a 74 e.toNat)]) (s := []) rfl rfl rfl rfl rfl rfl rfl (sp227 (v := S13.a 74 e.toNat) hI16 ⟨by omega, by omega⟩ (by omega)  (by omega)) (fun r35 S36 hq37 => ?_)
        obtain ⟨rfl, h38, hI39, hF40, hR41⟩ := hq37
        have hF42 := hF19.trans hF40 rfl rfl
        have hR43 := hR20.trans hR41 rfl
        have e44 := wASx.fr e21 hF40 rfl rfl
        have e45 := wSDx.fr e22 hF40 rfl rfl
        have e46 := CRx.fr e23 hF40 rfl rfl
        refine Or.inl ⟨rfl, ?_⟩
        refine r_load (i := 230) (u := 0) (w := 2) rfl rfl rfl ?_
        refine r_getf (i := 231) (v := 44) (w := 11) (x := (2, 73)) rfl ly43 rfl rfl fun _ => ?_
        refine r_load (i := 232) (u := 2) (w := 0) rfl rfl rfl ?_
        refine a_int (i := 233) rfl ly73 rfl (by omega) (by omega) fun h48 => ?_
        have h49 := hI39.a ta73 e.toNat
        have h50 : S36.a 73 e.toNat = S13.a 73 e.toNat := hF40.a rfl _
        have h51 : S13.a 73 e.toNat = S.a 73 e.toNat := hF17.a rfl _
        refine r_const (i := 234) (u := 7) (z := 7) rfl rfl ?_
        refine c_eq (i := 235) (v := 242) rfl ⟨by omega, by omega⟩ ⟨by omega, by omega⟩ (fun h52 => ?_) (fun h53 => ?_)
        · refine r_iinc (i := 242) (u := 1) (v := 2) (s := 1) (L1 := [some ((2, 43)), none, some (vi (e + 1)), none]) rfl rfl rfl rfl rfl ?_
          refine r_goto (i := 243) (v := 180) rfl ?_
          have h54 := hI39.f tf43_42
          have h55 := web_1 (S := S36)
          have h56 : web S36 = web S13 := webX.fr hF40 rfl rfl
          have h57 : web S36 e = web S13 e := congrFun h56 _
          have h58 : web S36 (e + 1) = web S13 (e + 1) := congrFun h56 _
          have h59 : web S13 = web S := webX.fr hF17 rfl rfl
          have h60 : web S13 e = web S e := congrFun h59 _
          have h61 : web S13 (e + 1) = web S (e + 1) := congrFun h59 _
          have h62 := hI39.f tf43_49
          have h63 : S36.f 43 49 = S13.f 43 49 := hF40.f rfl
          have h64 : S13.f 43 49 = S.f 43 49 := hF17.f rfl
          have h65 := hI39.f tf43_43
          have h66 : S36.f 43 43 = S13.f 43 43 := hF40.f rfl
          have h67 : S13.f 43 43 = S.f 43 43 := hF17.f rfl
          have h68 := wphi_nn hI39
          have h69 : wphi S36 = wphi S13 := wphiX.fr hF40 rfl rfl
          have h70 : wphi S13 = wphi S := wphiX.fr hF17 rfl rfl
          exact ih S36 hI39 hF42 hR43 e44 e45 e46 (e + 1) ⟨by omega, by omega⟩ (by omega) (by omega) (by omega) (by omega)
        · have wt9 := web_o (S := S36) (e := e) (by omega) (by omega) (by omega)
          refine r_load (i := 236) (u := 0) (w := 2) rfl rfl rfl ?_
          refine r_load (i := 237) (u := 0) (w := 2) rfl rfl rfl ?_
          refine r_getf (i := 238) (v := 46) (w := 11) (x := (2, 75)) rfl ly43 rfl rfl fun _ => ?_
          refine r_load (i := 239) (u := 2) (w := 0) rfl rfl rfl ?_
          refine a_int (i := 240) rfl ly75 rfl (by omega) (by omega) fun h72 => ?_
          have h73 := hI39.a ta75 e.toNat
          have h74 : S36.a 75 e.toNat = S13.a 75 e.toNat := hF40.a rfl _
          have h75 : S13.a 75 e.toNat = S.a 75 e.toNat := hF17.a rfl _
          have h76 := hI39.f tf43_42
          refine r_call (i := 241) (u := 11) (v := 227) (w := 0) (b := 0) (na := 514) (C2 := xC227) (as := [(2, 43), vi (S36.a 75 e.toNat)]) (s := []) rfl rfl rfl rfl rfl rfl rfl (sp227 (v := S36.a 75 e.toNat) hI39 ⟨by omega, by omega⟩ (by omega)  (by omega)) (fun r77 S78 hq79 => ?_)
          obtain ⟨rfl, h80, hI81, hF82, hR83⟩ := hq79
          have hF84 := hF42.trans hF82 rfl rfl
          have hR85 := hR43.trans hR83 rfl
          have e86 := wASx.fr e44 hF82 rfl rfl
          have e87 := wSDx.fr e45 hF82 rfl rfl
          have e88 := CRx.fr e46 hF82 rfl rfl
          refine Or.inl ⟨rfl, ?_⟩
          refine r_iinc (i := 242) (u := 1) (v := 2) (s := 1) (L1 := [some ((2, 43)), none, some (vi (e + 1)), none]) rfl rfl rfl rfl rfl ?_
          refine r_goto (i := 243) (v := 180) rfl ?_
          have h89 := hI81.f tf43_42
          have h90 := web_1 (S := S78)
          have h91 : web S78 = web S36 := webX.fr hF82 rfl rfl
          have h92 : web S78 e = web S36 e := congrFun h91 _
          have h93 : web S78 (e + 1) = web S36 (e + 1) := congrFun h91 _
          have h94 : web S36 = web S13 := webX.fr hF40 rfl rfl
          have h95 : web S36 e = web S13 e := congrFun h94 _
          have h96 : web S36 (e + 1) = web S13 (e + 1) := congrFun h94 _
          have h97 : web S13 = web S := webX.fr hF17 rfl rfl
          have h98 : web S13 e = web S e := congrFun h97 _
          have h99 : web S13 (e + 1) = web S (e + 1) := congrFun h97 _
          have h100 := hI81.f tf43_49
          have h101 : S78.f 43 49 = S36.f 43 49 := hF82.f rfl
          have h102 : S36.f 43 49 = S13.f 43 49 := hF40.f rfl
          have h103 : S13.f 43 49 = S.f 43 49 := hF17.f rfl
          have h104 := hI81.f tf43_43
          have h105 : S78.f 43 43 = S36.f 43 43 := hF82.f rfl
          have h106 : S36.f 43 43 = S13.f 43 43 := hF40.f rfl
          have h107 : S13.f 43 43 = S.f 43 43 := hF17.f rfl
          have h108 := wphi_nn hI81
          have h109 : wphi S78 = wphi S36 := wphiX.fr hF82 rfl rfl
          have h110 : wphi S36 = wphi S13 := wphiX.fr hF40 rfl rfl
          have h111 : wphi S13 = wphi S := wphiX.fr hF17 rfl rfl
          exact ih S78 hI81 hF84 hR85 e86 e87 e88 (e + 1) ⟨by omega, by omega⟩ (by omega) (by omega) (by omega) (by omega)
      · have wt9 := web_t (S := S13) (e := e) (by omega) (by omega)
        refine r_load (i := 196) (u := 0) (w := 2) rfl rfl rfl ?_
        refine r_load (i := 197) (u := 0) (w := 2) rfl rfl rfl ?_
        refine r_getf (i := 198) (v := 46) (w := 11) (x := (2, 75)) rfl ly43 rfl rfl fun _ => ?_
        refine r_load (i := 199) (u := 2) (w := 0) rfl rfl rfl ?_
        refine a_int (i := 200) rfl ly75 rfl (by omega) (by omega) fun h113 => ?_
        have h114 := hI16.a ta75 e.toNat
        have h115 : S13.a 75 e.toNat = S.a 75 e.toNat := hF17.a rfl _
        have h116 := hI16.f tf43_42
        refine r_call (i := 201) (u := 11) (v := 227) (w := 0) (b := 0) (na := 514) (C2 := xC227) (as := [(2, 43), vi (S13.a 75 e.toNat)]) (s := []) rfl rfl rfl rfl rfl rfl rfl (sp227 (v := S13.a 75 e.toNat) hI16 ⟨by omega, by omega⟩ (by omega)  (by omega)) (fun r117 S118 hq119 => ?_)
        obtain ⟨rfl, h120, hI121, hF122, hR123⟩ := hq119
        have hF124 := hF19.trans hF122 rfl rfl
        have hR125 := hR20.trans hR123 rfl
        have e126 := wASx.fr e21 hF122 rfl rfl
        have e127 := wSDx.fr e22 hF122 rfl rfl
        have e128 := CRx.fr e23 hF122 rfl rfl
        refine Or.inl ⟨rfl, ?_⟩
        refine r_const (i := 202) (u := 0) (z := 0) rfl rfl ?_
        refine r_store (i := 203) (u := 3) (w := 0) (L1 := [some ((2, 43)), none, some (vi e), some (vi 0)]) rfl rfl rfl rfl ?_
        have h129 := hI121.f tf43_42
        have h130 := web_1 (S := S118)
        have h131 : web S118 = web S13 := webX.fr hF122 rfl rfl
        have h132 : web S118 e = web S13 e := congrFun h131 _
        have h133 : web S118 (e + 1) = web S13 (e + 1) := congrFun h131 _
        have h134 : web S13 = web S := webX.fr hF17 rfl rfl
        have h135 : web S13 e = web S e := congrFun h134 _
        have h136 : web S13 (e + 1) = web S (e + 1) := congrFun h134 _
        have h137 := hI121.f tf43_49
        have h138 : S118.f 43 49 = S13.f 43 49 := hF122.f rfl
        have h139 : S13.f 43 49 = S.f 43 49 := hF17.f rfl
        have h140 := hI121.f tf43_43
        have h141 : S118.f 43 43 = S13.f 43 43 := hF122.f rfl
        have h142 : S13.f 43 43 = S.f 43 43 := hF17.f rfl
        have h143 := wphi_nn hI121
        have h144 : wphi S118 = wphi S13 := wphiX.fr hF122 rfl rfl
        have h145 : wphi S13 = wphi S := wphiX.fr hF17 rfl rfl
        have h146 := hI121.a ta75 e.toNat
        have h147 : S118.a 75 e.toNat = S13.a 75 e.toNat := hF122.a rfl _
        have h148 : S13.a 75 e.toNat = S.a 75 e.toNat := hF17.a rfl _
        have h149 := hI121.a ta75 e.toNat
        exact lp265_204   hd (e := e) ⟨by omega, by omega⟩ n ih (by omega) _ S118 hI121 hF124 hR125 e126 e127 e128 0 ⟨by omega, by omega⟩ (by omega) (by omega) (by omega) (by omega) (by omega) (by omega) (Int.lt_succ_toNat _)
theorem lp265_139 {G : xk} {d : Nat} {S0 : yS}  (hd : 11 ≤ d + 1) : ∀ (n : Nat), ∀ (S : yS) (hI : yI S) (hF : yFr [(43, 42), (43, 43), (43, 49), (43, 50), (43, 51), (43, 52), (43, 53)] [68, 71, 72, 73, 74, 75, 76, 77] S0 S) (hR : yRm [] S0 S) (e_wLV : wLV S) (e_wAS : wAS S) (e_wSD : wSD S) (e_CR : CR S) (k : Int) (h_k : 0 ≤ k ∧ k ≤ 24) (q_0 : S.f 43 43 ≤ 26 + 44 * wcta S + 250 * k) (q_1 : S.f 43 51 = 0) (q_2 : wphi S ≤ 1000 + 269 * wcta S + 330 * k) (q_3 : wpsi S ≤ 130 + 6 * wcta S + 17 * k) (q_4 : wphi S + S.f 43 43 ≤ 1026 + 313 * wcta S + 399 * k) (q_5 : wcta S + S.f 43 20 ≤ 60) (q_6 : S.f 43 20 ≤ 24) (q_7 : k ≤ S.f 43 20) (hn : 24 - k < (n : Nat)), yT xPr G LY xC265 139 [some ((2, 43)), none, some (vi k), none] [] S (d + 1) (fun r S' => r = (0, (0, 0)) ∧ wAS S' ∧ wSD S' ∧ CR S' ∧ yI S' ∧ yFr [(43, 42), (43, 43), (43, 49), (43, 50), (43, 51), (43, 52), (43, 53)] [68, 71, 72, 73, 74, 75, 76, 77] S0 S' ∧ yRm [] S0 S') := by
  intro n
  induction n with
  | zero => intro S hI hF hR e_wLV e_wAS e_wSD e_CR k h_k q_0 q_1 q_2 q_3 q_4 q_5 q_6 q_7 hn; exact absurd hn (by omega)
  | succ n ih =>
    intro S hI hF hR e_wLV e_wAS e_wSD e_CR k h_k q_0 q_1 q_2 q_3 q_4 q_5 q_6 q_7 hn
    have h1 := hI.f tf43_43
    have h2 := wcta_nn (Int.le_trans (by decide) (hI.f tf43_10).1)
    have h3 : wcta S = wcta S0 := wctaX.fr hF rfl rfl
    have h4 := hI.f tf43_51
    have h5 := wphi_nn hI
    have h6 := wpsi_nn hI
    have h7 := hI.f tf43_20
    have h8 : S.f 43 20 = S0.f 43 20 := hF.f rfl
    refine r_load (i := 139) (u := 2) (w := 0) rfl rfl rfl ?_
    refine r_load (i := 140) (u := 0) (w := 2) rfl rfl rfl ?_
    refine r_getf (i := 141) (v := 20) (w := 11) (x := vi (S.f 43 20)) rfl ly43 rfl rfl fun h9 => ?_
    have h9 : Rg (S.f 43 20) := h9
    refine c_ge (i := 142) (v := 148) rfl ⟨by omega, by omega⟩ ⟨by omega, by omega⟩ (fun h10 => ?_) (fun h11 => ?_)
    · refine r_load (i := 148) (u := 0) (w := 2) rfl rfl rfl ?_
      refine r_const (i := 149) (u := 0) (z := 0) rfl rfl ?_
      refine r_call (i := 150) (u := 11) (v := 257) (w := 0) (b := 0) (na := 514) (C2 := xC257) (as := [(2, 43), vi 0]) (s := []) rfl rfl rfl rfl rfl rfl rfl (sp257 (v := 0) hI ⟨by omega, by omega⟩ (by omega)  (by omega)) (fun r12 S13 hq14 => ?_)
      obtain ⟨rfl, h15, h16, hI17, hF18, hR19⟩ := hq14
      have hF20 := hF.trans hF18 rfl rfl
      have hR21 := hR.trans hR19 rfl
      have e22 := wLVx.fr e_wLV hF18 rfl rfl
      have e23 := wASx.fr e_wAS hF18 rfl rfl
      have e24 := wSDx.fr e_wSD hF18 rfl rfl
      have e25 := CRx.fr e_CR hF18 rfl rfl
      refine Or.inl ⟨rfl, ?_⟩
      refine r_load (i := 151) (u := 0) (w := 2) rfl rfl rfl ?_
      refine r_const (i := 152) (u := 0) (z := 0) rfl rfl ?_
      refine r_putI (i := 153) (v := 42) (w := 11) rfl ly43 rfl ⟨by omega, by omega⟩ ?_
      have hI27 := hI17.setf (b := 43) (w := 42) (z := 0) tf43_42 rfl (by omega) (by omega)
      have hF29 := hF20.setf (b := 43) (w := 42) (z := 0) rfl
      have hR30 := hR21.setf (b := 43) (w := 42) (z := 0)
      have e31 := wLVx.setf e22 (b := 43) (w := 42) (z := 0) rfl
      have e32 := wASx.setf e23 (b := 43) (w := 42) (z := 0) rfl
      have e33 := wSDx.setf e24 (b := 43) (w := 42) (z := 0) rfl
      have e34 := CRx.setf e25 (b := 43) (w := 42) (z := 0) rfl
      refine yT_gen (fun S26 hS28 => ?_)
      rw [hS28] at hI27 hF29 hR30 e31 e32 e33 e34
      refine r_load (i := 154) (u := 0) (w := 2) rfl rfl rfl ?_
      refine r_const (i := 155) (u := 202) (z := 202) rfl rfl ?_
      have h35 := hI27.f tf43_42
      have h36 : S26.f 43 42 = 0 := by rw [← hS28]; exact ysf_eq
      refine r_call (i := 156) (u := 11) (v := 226) (w := 0) (b := 0) (na := 514) (C2 := xC226) (as := [(2, 43), vi 202]) (s := []) rfl rfl rfl rfl rfl rfl rfl (sp226 (v := 202) hI27 ⟨by omega, by omega⟩ (by omega)  (by omega)) (fun r37 S38 hq39 => ?_)
      obtain ⟨rfl, h40, hI41, hF42, hR43⟩ := hq39
      have hF44 := hF29.trans hF42 rfl rfl
      have hR45 := hR30.trans hR43 rfl
      have e46 := wLVx.fr e31 hF42 rfl rfl
      have e47 := wASx.fr e32 hF42 rfl rfl
      have e48 := wSDx.fr e33 hF42 rfl rfl
      have e49 := CRx.fr e34 hF42 rfl rfl
      refine Or.inl ⟨rfl, ?_⟩
      refine r_load (i := 157) (u := 0) (w := 2) rfl rfl rfl ?_
      refine r_const (i := 158) (u := 254) (z := 254) rfl rfl ?_
      have h50 := hI41.f tf43_42
      refine r_call (i := 159) (u := 11) (v := 226) (w := 0) (b := 0) (na := 514) (C2 := xC226) (as := [(2, 43), vi 254]) (s := []) rfl rfl rfl rfl rfl rfl rfl (sp226 (v := 254) hI41 ⟨by omega, by omega⟩ (by omega)  (by omega)) (fun r51 S52 hq53 => ?_)
      obtain ⟨rfl, h54, hI55, hF56, hR57⟩ := hq53
      have hF58 := hF44.trans hF56 rfl rfl
      have hR59 := hR45.trans hR57 rfl
      have e60 := wLVx.fr e46 hF56 rfl rfl
      have e61 := wASx.fr e47 hF56 rfl rfl
      have e62 := wSDx.fr e48 hF56 rfl rfl
      have e63 := CRx.fr e49 hF56 rfl rfl
      refine Or.inl ⟨rfl, ?_⟩
      refine r_load (i := 160) (u := 0) (w := 2) rfl rfl rfl ?_
      refine r_const (i := 161) (u := 186) (z := 186) rfl rfl ?_
      have h64 := hI55.f tf43_42
      refine r_call (i := 162) (u := 11) (v := 226) (w := 0) (b := 0) (na := 514) (C2 := xC226) (as := [(2, 43), vi 186]) (s := []) rfl rfl rfl rfl rfl rfl rfl (sp226 (v := 186) hI55 ⟨by omega, by omega⟩ (by omega)  (by omega)) (fun r65 S66 hq67 => ?_)
      obtain ⟨rfl, h68, hI69, hF70, hR71⟩ := hq67
      have hF72 := hF58.trans hF70 rfl rfl
      have hR73 := hR59.trans hR71 rfl
      have e74 := wLVx.fr e60 hF70 rfl rfl
      have e75 := wASx.fr e61 hF70 rfl rfl
      have e76 := wSDx.fr e62 hF70 rfl rfl
      have e77 := CRx.fr e63 hF70 rfl rfl
      refine Or.inl ⟨rfl, ?_⟩
      refine r_load (i := 163) (u := 0) (w := 2) rfl rfl rfl ?_
      refine r_const (i := 164) (u := 190) (z := 190) rfl rfl ?_
      have h78 := hI69.f tf43_42
      refine r_call (i := 165) (u := 11) (v := 226) (w := 0) (b := 0) (na := 514) (C2 := xC226) (as := [(2, 43), vi 190]) (s := []) rfl rfl rfl rfl rfl rfl rfl (sp226 (v := 190) hI69 ⟨by omega, by omega⟩ (by omega)  (by omega)) (fun r79 S80 hq81 => ?_)
      obtain ⟨rfl, h82, hI83, hF84, hR85⟩ := hq81
      have hF86 := hF72.trans hF84 rfl rfl
      have hR87 := hR73.trans hR85 rfl
      have e88 := wLVx.fr e74 hF84 rfl rfl
      have e89 := wASx.fr e75 hF84 rfl rfl
      have e90 := wSDx.fr e76 hF84 rfl rfl
      have e91 := CRx.fr e77 hF84 rfl rfl
      refine Or.inl ⟨rfl, ?_⟩
      refine r_load (i := 166) (u := 0) (w := 2) rfl rfl rfl ?_
      refine r_const (i := 167) (u := 0) (z := 0) rfl rfl ?_
      have h92 := hI83.f tf43_42
      refine r_call (i := 168) (u := 11) (v := 227) (w := 0) (b := 0) (na := 514) (C2 := xC227) (as := [(2, 43), vi 0]) (s := []) rfl rfl rfl rfl rfl rfl rfl (sp227 (v := 0) hI83 ⟨by omega, by omega⟩ (by omega)  (by omega)) (fun r93 S94 hq95 => ?_)
      obtain ⟨rfl, h96, hI97, hF98, hR99⟩ := hq95
      have hF100 := hF86.trans hF98 rfl rfl
      have hR101 := hR87.trans hR99 rfl
      have e102 := wLVx.fr e88 hF98 rfl rfl
      have e103 := wASx.fr e89 hF98 rfl rfl
      have e104 := wSDx.fr e90 hF98 rfl rfl
      have e105 := CRx.fr e91 hF98 rfl rfl
      refine Or.inl ⟨rfl, ?_⟩
      refine r_load (i := 169) (u := 0) (w := 2) rfl rfl rfl ?_
      refine r_const (i := 170) (u := 52) (z := 52) rfl rfl ?_
      have h106 := hI97.f tf43_42
      refine r_call (i := 171) (u := 11) (v := 227) (w := 0) (b := 0) (na := 514) (C2 := xC227) (as := [(2, 43), vi 52]) (s := []) rfl rfl rfl rfl rfl rfl rfl (sp227 (v := 52) hI97 ⟨by omega, by omega⟩ (by omega)  (by omega)) (fun r107 S108 hq109 => ?_)
      obtain ⟨rfl, h110, hI111, hF112, hR113⟩ := hq109
      have hF114 := hF100.trans hF112 rfl rfl
      have hR115 := hR101.trans hR113 rfl
      have e116 := wLVx.fr e102 hF112 rfl rfl
      have e117 := wASx.fr e103 hF112 rfl rfl
      have e118 := wSDx.fr e104 hF112 rfl rfl
      have e119 := CRx.fr e105 hF112 rfl rfl
      refine Or.inl ⟨rfl, ?_⟩
      refine r_load (i := 172) (u := 0) (w := 2) rfl rfl rfl ?_
      refine r_load (i := 173) (u := 0) (w := 2) rfl rfl rfl ?_
      have h120 := hI111.f tf43_49
      have h121 : S108.f 43 49 = S94.f 43 49 := hF112.f rfl
      have h122 : S94.f 43 49 = S80.f 43 49 := hF98.f rfl
      have h123 : S80.f 43 49 = S66.f 43 49 := hF84.f rfl
      have h124 : S66.f 43 49 = S52.f 43 49 := hF70.f rfl
      have h125 : S52.f 43 49 = S38.f 43 49 := hF56.f rfl
      have h126 : S38.f 43 49 = S26.f 43 49 := hF42.f rfl
      have h127 : S26.f 43 49 = S13.f 43 49 := by rw [← hS28]; exact ysf_ne (by decide)
      have h128 : S13.f 43 49 = S.f 43 49 := hF18.f rfl
      refine r_getf (i := 174) (v := 49) (w := 11) (x := vi (S108.f 43 49)) rfl ly43 rfl rfl fun h129 => ?_
      have h129 : Rg (S108.f 43 49) := h129
      refine r_const (i := 175) (u := 1) (z := 1) rfl rfl ?_
      refine r_iadd (i := 176) rfl ?_
      have h130 := hI111.f tf43_42
      refine r_call (i := 177) (u := 11) (v := 227) (w := 0) (b := 0) (na := 514) (C2 := xC227) (as := [(2, 43), vi ((S108.f 43 49) + 1)]) (s := []) rfl rfl rfl rfl rfl rfl rfl (sp227 (v := (S108.f 43 49) + 1) hI111 ⟨by omega, by omega⟩ (by omega)  (by omega)) (fun r131 S132 hq133 => ?_)
      obtain ⟨rfl, h134, hI135, hF136, hR137⟩ := hq133
      have hF138 := hF114.trans hF136 rfl rfl
      have hR139 := hR115.trans hR137 rfl
      have e140 := wLVx.fr e116 hF136 rfl rfl
      have e141 := wASx.fr e117 hF136 rfl rfl
      have e142 := wSDx.fr e118 hF136 rfl rfl
      have e143 := CRx.fr e119 hF136 rfl rfl
      refine Or.inl ⟨rfl, ?_⟩
      refine r_const (i := 178) (u := 1) (z := 1) rfl rfl ?_
      refine r_store (i := 179) (u := 2) (w := 0) (L1 := [some ((2, 43)), none, some (vi 1), none]) rfl rfl rfl rfl ?_
      have h144 := hI135.f tf43_42
      have h145 := web_1 (S := S132)
      have h146 : web S132 = web S108 := webX.fr hF136 rfl rfl
      have h147 : web S108 = web S94 := webX.fr hF112 rfl rfl
      have h148 : web S94 = web S80 := webX.fr hF98 rfl rfl
      have h149 : web S80 = web S66 := webX.fr hF84 rfl rfl
      have h150 : web S66 = web S52 := webX.fr hF70 rfl rfl
      have h151 : web S52 = web S38 := webX.fr hF56 rfl rfl
      have h152 : web S38 = web S26 := webX.fr hF42 rfl rfl
      have h153 : web S26 = web S13 := by rw [← hS28]; exact webX.setf rfl
      have h154 : web S13 = web S := webX.fr hF18 rfl rfl
      have h155 := hI135.f tf43_49
      have h156 : S132.f 43 49 = S108.f 43 49 := hF136.f rfl
      have h157 : S108.f 43 49 = S94.f 43 49 := hF112.f rfl
      have h158 : S94.f 43 49 = S80.f 43 49 := hF98.f rfl
      have h159 : S80.f 43 49 = S66.f 43 49 := hF84.f rfl
      have h160 : S66.f 43 49 = S52.f 43 49 := hF70.f rfl
      have h161 : S52.f 43 49 = S38.f 43 49 := hF56.f rfl
      have h162 : S38.f 43 49 = S26.f 43 49 := hF42.f rfl
      have h163 : S26.f 43 49 = S13.f 43 49 := by rw [← hS28]; exact ysf_ne (by decide)
      have h164 : S13.f 43 49 = S.f 43 49 := hF18.f rfl
      have h165 := hI135.f tf43_43
      have h166 : S132.f 43 43 = S108.f 43 43 := hF136.f rfl
      have h167 : S108.f 43 43 = S94.f 43 43 := hF112.f rfl
      have h168 : S94.f 43 43 = S80.f 43 43 := hF98.f rfl
      have h169 : S80.f 43 43 = S66.f 43 43 := hF84.f rfl
      have h170 : S66.f 43 43 = S52.f 43 43 := hF70.f rfl
      have h171 : S52.f 43 43 = S38.f 43 43 := hF56.f rfl
      have h172 : S38.f 43 43 = S26.f 43 43 := hF42.f rfl
      have h173 : S26.f 43 43 = S13.f 43 43 := by rw [← hS28]; exact ysf_ne (by decide)
      have h174 := wphi_nn hI135
      have h175 : wphi S132 = wphi S108 := wphiX.fr hF136 rfl rfl
      have h176 : wphi S108 = wphi S94 := wphiX.fr hF112 rfl rfl
      have h177 : wphi S94 = wphi S80 := wphiX.fr hF98 rfl rfl
      have h178 : wphi S80 = wphi S66 := wphiX.fr hF84 rfl rfl
      have h179 : wphi S66 = wphi S52 := wphiX.fr hF70 rfl rfl
      have h180 : wphi S52 = wphi S38 := wphiX.fr hF56 rfl rfl
      have h181 : wphi S38 = wphi S26 := wphiX.fr hF42 rfl rfl
      have h182 : wphi S26 = wphi S13 := by rw [← hS28]; exact wphiX.setf rfl
      have h183 : wphi S13 = wphi S := wphiX.fr hF18 rfl rfl
      exact lp265_180   hd _ S132 hI135 hF138 hR139 e141 e142 e143 1 ⟨by omega, by omega⟩ (by omega) (by omega) (by omega) (Int.lt_succ_toNat _)
    · refine r_load (i := 143) (u := 0) (w := 2) rfl rfl rfl ?_
      refine r_load (i := 144) (u := 2) (w := 0) rfl rfl rfl ?_
      refine r_call (i := 145) (u := 11) (v := 266) (w := 0) (b := 0) (na := 1794) (C2 := xC266) (as := [(2, 43), vi k]) (s := []) rfl rfl rfl rfl rfl rfl rfl (sp266 (k := k) hI ⟨by omega, by omega⟩ (by omega) (by omega) (by omega) (by omega) e_wLV e_wAS (by omega)) (fun r184 S185 hq186 => ?_)
      obtain ⟨rfl, h187, h188, h189, h190, h191, h192, e193, e194, hI195, hF196, hR197⟩ := hq186
      have hF198 := hF.trans hF196 rfl rfl
      have hR199 := hR.trans hR197 rfl
      have e200 := wSDx.fr e_wSD hF196 rfl rfl
      have e201 := CRx.fr e_CR hF196 rfl rfl
      refine Or.inl ⟨rfl, ?_⟩
      refine r_iinc (i := 146) (u := 1) (v := 2) (s := 1) (L1 := [some ((2, 43)), none, some (vi (k + 1)), none]) rfl rfl rfl rfl rfl ?_
      refine r_goto (i := 147) (v := 139) rfl ?_
      have h202 := hI195.f tf43_43
      have h203 := wcta_nn (Int.le_trans (by decide) (hI195.f tf43_10).1)
      have h204 : wcta S185 = wcta S0 := wctaX.fr hF198 rfl rfl
      have h205 := hI195.f tf43_51
      have h206 := wphi_nn hI195
      have h207 := wpsi_nn hI195
      have h208 := hI195.f tf43_20
      have h209 : S185.f 43 20 = S0.f 43 20 := hF198.f rfl
      exact ih S185 hI195 hF198 hR199 e193 e194 e200 e201 (k + 1) ⟨by omega, by omega⟩ (by omega) (by omega) (by omega) (by omega) (by omega) (by omega) (by omega) (by omega) (by omega)
theorem lp265_108 {G : xk} {d : Nat} {S0 : yS}  (hd : 11 ≤ d + 1) : ∀ (n : Nat), ∀ (S : yS) (hI : yI S) (hF : yFr [(43, 42), (43, 43), (43, 49), (43, 50), (43, 51), (43, 52), (43, 53)] [68, 71, 72, 73, 74, 75, 76, 77] S0 S) (hR : yRm [] S0 S) (e_wLV : wLV S) (e_wAS : wAS S) (e_wSD : wSD S) (e_CR : CR S) (m : Int) (h_m : 0 ≤ m ∧ m ≤ 60) (q_0 : S.f 43 43 ≤ 26 + 44 * wct S m) (q_1 : S.f 43 51 = 0) (q_2 : wphi S ≤ 1000 + 269 * wct S m) (q_3 : wpsi S ≤ 130 + 6 * wct S m) (q_4 : m ≤ S.f 43 10) (q_5 : 0 ≤ wct S m ∧ wct S m ≤ m) (hn : 60 - m < (n : Nat)), yT xPr G LY xC265 108 [some ((2, 43)), none, some (vi m), none] [] S (d + 1) (fun r S' => r = (0, (0, 0)) ∧ wAS S' ∧ wSD S' ∧ CR S' ∧ yI S' ∧ yFr [(43, 42), (43, 43), (43, 49), (43, 50), (43, 51), (43, 52), (43, 53)] [68, 71, 72, 73, 74, 75, 76, 77] S0 S' ∧ yRm [] S0 S') := by
  intro n
  induction n with
  | zero => intro S hI hF hR e_wLV e_wAS e_wSD e_CR m h_m q_0 q_1 q_2 q_3 q_4 q_5 hn; exact absurd hn (by omega)
  | succ n ih =>
    intro S hI hF hR e_wLV e_wAS e_wSD e_CR m h_m q_0 q_1 q_2 q_3 q_4 q_5 hn
    have h1 := hI.f tf43_43
    have h2 := wct_0 (S := S)
    have h3 : wct S = wct S0 := wctX.fr hF rfl rfl
    have h4 : wct S m = wct S0 m := congrFun h3 _
    have h5 : wct S (m + 1) = wct S0 (m + 1) := congrFun h3 _
    have h6 := hI.f tf43_51
    have h7 := wphi_nn hI
    have h8 := wpsi_nn hI
    have h9 := hI.f tf43_10
    have h10 : S.f 43 10 = S0.f 43 10 := hF.f rfl
    refine r_load (i := 108) (u := 2) (w := 0) rfl rfl rfl ?_
    refine r_load (i := 109) (u := 0) (w := 2) rfl rfl rfl ?_
    refine r_getf (i := 110) (v := 10) (w := 11) (x := vi (S.f 43 10)) rfl ly43 rfl rfl fun h11 => ?_
    have h11 : Rg (S.f 43 10) := h11
    refine c_ge (i := 111) (v := 137) rfl ⟨by omega, by omega⟩ ⟨by omega, by omega⟩ (fun h12 => ?_) (fun h13 => ?_)
    · have wa9 := wcta_of (S := S) (m := m) (by omega)
      have sr9 := wSD_room e_wSD (hI.f tf43_20).1 (by omega)
      have sf9 := hI.f tf43_20
      refine r_const (i := 137) (u := 0) (z := 0) rfl rfl ?_
      refine r_store (i := 138) (u := 2) (w := 0) (L1 := [some ((2, 43)), none, some (vi 0), none]) rfl rfl rfl rfl ?_
      have h14 := wcta_nn (Int.le_trans (by decide) (hI.f tf43_10).1)
      have h15 : wcta S = wcta S0 := wctaX.fr hF rfl rfl
      have h16 := hI.f tf43_20
      have h17 : S.f 43 20 = S0.f 43 20 := hF.f rfl
      exact lp265_139   hd _ S hI hF hR e_wLV e_wAS e_wSD e_CR 0 ⟨by omega, by omega⟩ (by omega) (by omega) (by omega) (by omega) (by omega) (by omega) (by omega) (by omega) (Int.lt_succ_toNat _)
    · have wn9 := wct_n (S := S) (m := m) (by omega)
      have wn8 := wct_nn (S := S) (m := m + 1) (by omega)
      refine r_load (i := 112) (u := 0) (w := 2) rfl rfl rfl ?_
      refine r_getf (i := 113) (v := 11) (w := 11) (x := (2, 52)) rfl ly43 rfl rfl fun _ => ?_
      refine r_load (i := 114) (u := 2) (w := 0) rfl rfl rfl ?_
      refine a_int (i := 115) rfl ly52 rfl (by omega) (by omega) fun h19 => ?_
      have h20 := hI.a ta52 m.toNat
      have h21 : S.a 52 m.toNat = S0.a 52 m.toNat := hF.a rfl _
      refine r_load (i := 116) (u := 0) (w := 2) rfl rfl rfl ?_
      have h22 := hI.f tf43_21
      have h23 : S.f 43 21 = S0.f 43 21 := hF.f rfl
      refine r_getf (i := 117) (v := 21) (w := 11) (x := vi (S.f 43 21)) rfl ly43 rfl rfl fun h24 => ?_
      have h24 : Rg (S.f 43 21) := h24
      refine c_ne (i := 118) (v := 135) rfl ⟨by omega, by omega⟩ ⟨by omega, by omega⟩ (fun h25 => ?_) (fun h26 => ?_)
      · refine r_iinc (i := 135) (u := 1) (v := 2) (s := 1) (L1 := [some ((2, 43)), none, some (vi (m + 1)), none]) rfl rfl rfl rfl rfl ?_
        refine r_goto (i := 136) (v := 108) rfl ?_
        exact ih S hI hF hR e_wLV e_wAS e_wSD e_CR (m + 1) ⟨by omega, by omega⟩ (by omega) (by omega) (by omega) (by omega) (by omega) (by omega) (by omega)
      · refine r_load (i := 119) (u := 0) (w := 2) rfl rfl rfl ?_
        refine r_getf (i := 120) (v := 12) (w := 11) (x := (2, 53)) rfl ly43 rfl rfl fun _ => ?_
        refine r_load (i := 121) (u := 2) (w := 0) rfl rfl rfl ?_
        refine a_int (i := 122) rfl ly53 rfl (by omega) (by omega) fun h28 => ?_
        have h29 := hI.a ta53 m.toNat
        have h30 : S.a 53 m.toNat = S0.a 53 m.toNat := hF.a rfl _
        refine r_const (i := 123) (u := 10) (z := 10) rfl rfl ?_
        refine c_ne (i := 124) (v := 135) rfl ⟨by omega, by omega⟩ ⟨by omega, by omega⟩ (fun h31 => ?_) (fun h32 => ?_)
        · refine r_iinc (i := 135) (u := 1) (v := 2) (s := 1) (L1 := [some ((2, 43)), none, some (vi (m + 1)), none]) rfl rfl rfl rfl rfl ?_
          refine r_goto (i := 136) (v := 108) rfl ?_
          exact ih S hI hF hR e_wLV e_wAS e_wSD e_CR (m + 1) ⟨by omega, by omega⟩ (by omega) (by omega) (by omega) (by omega) (by omega) (by omega) (by omega)
        · refine r_load (i := 125) (u := 0) (w := 2) rfl rfl rfl ?_
          refine r_getf (i := 126) (v := 13) (w := 11) (x := (2, 54)) rfl ly43 rfl rfl fun _ => ?_
          refine r_load (i := 127) (u := 2) (w := 0) rfl rfl rfl ?_
          refine a_int (i := 128) rfl ly54 rfl (by omega) (by omega) fun h34 => ?_
          have h35 := hI.a ta54 m.toNat
          have h36 : S.a 54 m.toNat = S0.a 54 m.toNat := hF.a rfl _
          refine r_const (i := 129) (u := 4) (z := 4) rfl rfl ?_
          refine r_iand (i := 130) rfl ?_
          have h37 := @yand_c (S.a 54 m.toNat) 4 (by decide) (by decide)
          refine z_ne (i := 131) (v := 135) rfl ⟨by omega, by omega⟩ (fun h38 => ?_) (fun h39 => ?_)
          · refine r_iinc (i := 135) (u := 1) (v := 2) (s := 1) (L1 := [some ((2, 43)), none, some (vi (m + 1)), none]) rfl rfl rfl rfl rfl ?_
            refine r_goto (i := 136) (v := 108) rfl ?_
            exact ih S hI hF hR e_wLV e_wAS e_wSD e_CR (m + 1) ⟨by omega, by omega⟩ (by omega) (by omega) (by omega) (by omega) (by omega) (by omega) (by omega)
          · have wy9 := wct_y (S := S) (m := m) (by omega) (by omega)
            refine r_load (i := 132) (u := 0) (w := 2) rfl rfl rfl ?_
            refine r_load (i := 133) (u := 2) (w := 0) rfl rfl rfl ?_
            have h40 := hI.a ta53 m.toNat
            refine r_call (i := 134) (u := 11) (v := 264) (w := 0) (b := 0) (na := 770) (C2 := xC264) (as := [(2, 43), vi m]) (s := []) rfl rfl rfl rfl rfl rfl rfl (sp264 (m := m) hI ⟨by omega, by omega⟩ (by omega) (by omega) (by omega) (by omega) (by omega) e_wLV e_CR (by omega)) (fun r41 S42 hq43 => ?_)
            obtain ⟨rfl, h44, h45, h46, h47, h48, e49, e50, hI51, hF52, hR53⟩ := hq43
            have hF54 := hF.trans hF52 rfl rfl
            have hR55 := hR.trans hR53 rfl
            have e56 := wASx.fr e_wAS hF52 rfl rfl
            have e57 := wSDx.fr e_wSD hF52 rfl rfl
            refine Or.inl ⟨rfl, ?_⟩
            refine r_iinc (i := 135) (u := 1) (v := 2) (s := 1) (L1 := [some ((2, 43)), none, some (vi (m + 1)), none]) rfl rfl rfl rfl rfl ?_
            refine r_goto (i := 136) (v := 108) rfl ?_
            have h58 := hI51.f tf43_43
            have h59 := wct_0 (S := S42)
            have h60 : wct S42 = wct S0 := wctX.fr hF54 rfl rfl
            have h61 : wct S42 m = wct S0 m := congrFun h60 _
            have h62 : wct S42 (m + 1) = wct S0 (m + 1) := congrFun h60 _
            have h63 := hI51.f tf43_51
            have h64 := wphi_nn hI51
            have h65 := wpsi_nn hI51
            have h66 := hI51.f tf43_10
            have h67 : S42.f 43 10 = S0.f 43 10 := hF54.f rfl
            exact ih S42 hI51 hF54 hR55 e49 e56 e57 e50 (m + 1) ⟨by omega, by omega⟩ (by omega) (by omega) (by omega) (by omega) (by omega) (by omega) (by omega)
theorem lp265_68 {G : xk} {d : Nat} {S0 : yS}  (hd : 11 ≤ d + 1) : ∀ (n : Nat), ∀ (S : yS) (hI : yI S) (hF : yFr [(43, 42), (43, 43), (43, 49), (43, 50), (43, 51), (43, 52), (43, 53)] [68, 71, 72, 73, 74, 75, 76, 77] S0 S) (hR : yRm [] S0 S) (e_wLV : wLV S) (e_wAS : wAS S) (e_wSD : wSD S) (e_CR : CR S) (cn m : Int) (h_cn : 0 ≤ cn ∧ cn ≤ 60) (h_m : 0 ≤ m ∧ m ≤ 60) (q_0 : S.f 43 43 ≤ 24) (q_1 : S.f 43 51 = 0) (q_2 : wphi S ≤ 1000) (q_3 : wpsi S ≤ 130) (q_4 : cn ≤ m) (hn : 60 - m < (n : Nat)), yT xPr G LY xC265 68 [some ((2, 43)), some (vi cn), some (vi m), none] [] S (d + 1) (fun r S' => r = (0, (0, 0)) ∧ wAS S' ∧ wSD S' ∧ CR S' ∧ yI S' ∧ yFr [(43, 42), (43, 43), (43, 49), (43, 50), (43, 51), (43, 52), (43, 53)] [68, 71, 72, 73, 74, 75, 76, 77] S0 S' ∧ yRm [] S0 S') := by
  intro n
  induction n with
  | zero => intro S hI hF hR e_wLV e_wAS e_wSD e_CR cn m h_cn h_m q_0 q_1 q_2 q_3 q_4 hn; exact absurd hn (by omega)
  | succ n ih =>
    intro S hI hF hR e_wLV e_wAS e_wSD e_CR cn m h_cn h_m q_0 q_1 q_2 q_3 q_4 hn
    have h1 := hI.f tf43_43
    have h2 := hI.f tf43_51
    have h3 := wphi_nn hI
    have h4 := wpsi_nn hI
    refine r_load (i := 68) (u := 2) (w := 0) rfl rfl rfl ?_
    refine r_load (i := 69) (u := 0) (w := 2) rfl rfl rfl ?_
    have h5 := hI.f tf43_10
    have h6 : S.f 43 10 = S0.f 43 10 := hF.f rfl
    refine r_getf (i := 70) (v := 10) (w := 11) (x := vi (S.f 43 10)) rfl ly43 rfl rfl fun h7 => ?_
    have h7 : Rg (S.f 43 10) := h7
    refine c_ge (i := 71) (v := 100) rfl ⟨by omega, by omega⟩ ⟨by omega, by omega⟩ (fun h8 => ?_) (fun h9 => ?_)
    · refine r_load (i := 100) (u := 0) (w := 2) rfl rfl rfl ?_
      refine r_load (i := 101) (u := 1) (w := 0) rfl rfl rfl ?_
      refine r_load (i := 102) (u := 0) (w := 2) rfl rfl rfl ?_
      have h10 := hI.f tf43_20
      have h11 : S.f 43 20 = S0.f 43 20 := hF.f rfl
      refine r_getf (i := 103) (v := 20) (w := 11) (x := vi (S.f 43 20)) rfl ly43 rfl rfl fun h12 => ?_
      have h12 : Rg (S.f 43 20) := h12
      refine r_iadd (i := 104) rfl ?_
      refine r_call (i := 105) (u := 11) (v := 257) (w := 0) (b := 0) (na := 514) (C2 := xC257) (as := [(2, 43), vi (cn + (S.f 43 20))]) (s := []) rfl rfl rfl rfl rfl rfl rfl (sp257 (v := cn + (S.f 43 20)) hI ⟨by omega, by omega⟩ (by omega)  (by omega)) (fun r13 S14 hq15 => ?_)
      obtain ⟨rfl, h16, h17, hI18, hF19, hR20⟩ := hq15
      have hF21 := hF.trans hF19 rfl rfl
      have hR22 := hR.trans hR20 rfl
      have e23 := wLVx.fr e_wLV hF19 rfl rfl
      have e24 := wASx.fr e_wAS hF19 rfl rfl
      have e25 := wSDx.fr e_wSD hF19 rfl rfl
      have e26 := CRx.fr e_CR hF19 rfl rfl
      refine Or.inl ⟨rfl, ?_⟩
      refine r_const (i := 106) (u := 0) (z := 0) rfl rfl ?_
      refine r_store (i := 107) (u := 2) (w := 0) (L1 := [some ((2, 43)), some (vi cn), some (vi 0), none]) rfl rfl rfl rfl ?_
      refine yT_drop (L1 := [some ((2, 43)), none, some (vi 0), none]) rfl ?_
      have h27 := hI18.f tf43_43
      have h28 := wct_0 (S := S14)
      have h29 : wct S14 = wct S0 := wctX.fr hF21 rfl rfl
      have h30 : wct S14 m = wct S0 m := congrFun h29 _
      have h31 : wct S14 (m + 1) = wct S0 (m + 1) := congrFun h29 _
      have h32 := hI18.f tf43_51
      have h33 : S14.f 43 51 = S.f 43 51 := hF19.f rfl
      have h34 := wphi_nn hI18
      have h35 : wphi S14 = wphi S := wphiX.fr hF19 rfl rfl
      have h36 := wpsi_nn hI18
      have h37 : wpsi S14 = wpsi S := wpsiX.fr hF19 rfl rfl
      have h38 := hI18.f tf43_10
      have h39 : S14.f 43 10 = S0.f 43 10 := hF21.f rfl
      exact lp265_108   hd _ S14 hI18 hF21 hR22 e23 e24 e25 e26 0 ⟨by omega, by omega⟩ (by omega) (by omega) (by omega) (by omega) (by omega) (by omega) (Int.lt_succ_toNat _)
    · refine r_load (i := 72) (u := 1) (w := 0) rfl rfl rfl ?_
      refine r_load (i := 73) (u := 0) (w := 2) rfl rfl rfl ?_
      refine r_getf (i := 74) (v := 11) (w := 11) (x := (2, 52)) rfl ly43 rfl rfl fun _ => ?_
      refine r_load (i := 75) (u := 2) (w := 0) rfl rfl rfl ?_
      refine a_int (i := 76) rfl ly52 rfl (by omega) (by omega) fun h41 => ?_
      have h42 := hI.a ta52 m.toNat
      have h43 : S.a 52 m.toNat = S0.a 52 m.toNat := hF.a rfl _
      refine r_load (i := 77) (u := 0) (w := 2) rfl rfl rfl ?_
      have h44 := hI.f tf43_21
      have h45 : S.f 43 21 = S0.f 43 21 := hF.f rfl
      refine r_getf (i := 78) (v := 21) (w := 11) (x := vi (S.f 43 21)) rfl ly43 rfl rfl fun h46 => ?_
      have h46 : Rg (S.f 43 21) := h46
      refine c_ne (i := 79) (v := 95) rfl ⟨by omega, by omega⟩ ⟨by omega, by omega⟩ (fun h47 => ?_) (fun h48 => ?_)
      · refine r_const (i := 95) (u := 0) (z := 0) rfl rfl ?_
        exact lp265_96   hd (cn := cn) (m := m) ⟨by omega, by omega⟩ ⟨by omega, by omega⟩ n ih (by omega) S hI hF hR e_wLV e_wAS e_wSD e_CR cn 0 ⟨by omega, by omega⟩ ⟨by omega, by omega⟩ (by omega) (by omega) (by omega) (by omega) (by omega) (by omega) 
      · refine r_load (i := 80) (u := 0) (w := 2) rfl rfl rfl ?_
        refine r_getf (i := 81) (v := 12) (w := 11) (x := (2, 53)) rfl ly43 rfl rfl fun _ => ?_
        refine r_load (i := 82) (u := 2) (w := 0) rfl rfl rfl ?_
        refine a_int (i := 83) rfl ly53 rfl (by omega) (by omega) fun h50 => ?_
        have h51 := hI.a ta53 m.toNat
        have h52 : S.a 53 m.toNat = S0.a 53 m.toNat := hF.a rfl _
        refine r_const (i := 84) (u := 10) (z := 10) rfl rfl ?_
        refine c_ne (i := 85) (v := 95) rfl ⟨by omega, by omega⟩ ⟨by omega, by omega⟩ (fun h53 => ?_) (fun h54 => ?_)
        · refine r_const (i := 95) (u := 0) (z := 0) rfl rfl ?_
          exact lp265_96   hd (cn := cn) (m := m) ⟨by omega, by omega⟩ ⟨by omega, by omega⟩ n ih (by omega) S hI hF hR e_wLV e_wAS e_wSD e_CR cn 0 ⟨by omega, by omega⟩ ⟨by omega, by omega⟩ (by omega) (by omega) (by omega) (by omega) (by omega) (by omega) 
        · refine r_load (i := 86) (u := 0) (w := 2) rfl rfl rfl ?_
          refine r_getf (i := 87) (v := 13) (w := 11) (x := (2, 54)) rfl ly43 rfl rfl fun _ => ?_
          refine r_load (i := 88) (u := 2) (w := 0) rfl rfl rfl ?_
          refine a_int (i := 89) rfl ly54 rfl (by omega) (by omega) fun h56 => ?_
          have h57 := hI.a ta54 m.toNat
          have h58 : S.a 54 m.toNat = S0.a 54 m.toNat := hF.a rfl _
          refine r_const (i := 90) (u := 4) (z := 4) rfl rfl ?_
          refine r_iand (i := 91) rfl ?_
          have h59 := @yand_c (S.a 54 m.toNat) 4 (by decide) (by decide)
          refine z_ne (i := 92) (v := 95) rfl ⟨by omega, by omega⟩ (fun h60 => ?_) (fun h61 => ?_)
          · refine r_const (i := 95) (u := 0) (z := 0) rfl rfl ?_
            exact lp265_96   hd (cn := cn) (m := m) ⟨by omega, by omega⟩ ⟨by omega, by omega⟩ n ih (by omega) S hI hF hR e_wLV e_wAS e_wSD e_CR cn 0 ⟨by omega, by omega⟩ ⟨by omega, by omega⟩ (by omega) (by omega) (by omega) (by omega) (by omega) (by omega) 
          · refine r_const (i := 93) (u := 1) (z := 1) rfl rfl ?_
            refine r_goto (i := 94) (v := 96) rfl ?_
            exact lp265_96   hd (cn := cn) (m := m) ⟨by omega, by omega⟩ ⟨by omega, by omega⟩ n ih (by omega) S hI hF hR e_wLV e_wAS e_wSD e_CR cn 1 ⟨by omega, by omega⟩ ⟨by omega, by omega⟩ (by omega) (by omega) (by omega) (by omega) (by omega) (by omega) 
theorem lp265_31 {G : xk} {d : Nat} {S0 : yS}  (hd : 11 ≤ d + 1) : ∀ (n : Nat), ∀ (S : yS) (hI : yI S) (hF : yFr [(43, 42), (43, 43), (43, 49), (43, 50), (43, 51), (43, 52), (43, 53)] [68, 71, 72, 73, 74, 75, 76, 77] S0 S) (hR : yRm [] S0 S) (e_wLV : wLV S) (e_wAS : wAS S) (e_wSD : wSD S) (e_CR : CR S) (j : Int) (h_j : 0 ≤ j ∧ j ≤ 3) (q_0 : S.f 43 43 ≤ 8 + 2 * j) (q_1 : S.f 43 51 = 0) (q_2 : wphi S ≤ 1000) (q_3 : wpsi S ≤ 130) (hn : 3 - j < (n : Nat)), yT xPr G LY xC265 31 [some ((2, 43)), some (vi j), none, none] [] S (d + 1) (fun r S' => r = (0, (0, 0)) ∧ wAS S' ∧ wSD S' ∧ CR S' ∧ yI S' ∧ yFr [(43, 42), (43, 43), (43, 49), (43, 50), (43, 51), (43, 52), (43, 53)] [68, 71, 72, 73, 74, 75, 76, 77] S0 S' ∧ yRm [] S0 S') := by
  intro n
  induction n with
  | zero => intro S hI hF hR e_wLV e_wAS e_wSD e_CR j h_j q_0 q_1 q_2 q_3 hn; exact absurd hn (by omega)
  | succ n ih =>
    intro S hI hF hR e_wLV e_wAS e_wSD e_CR j h_j q_0 q_1 q_2 q_3 hn
    have h1 := hI.f tf43_43
    have h2 := hI.f tf43_51
    have h3 := wphi_nn hI
    have h4 := wpsi_nn hI
    refine r_load (i := 31) (u := 1) (w := 0) rfl rfl rfl ?_
    refine r_load (i := 32) (u := 0) (w := 2) rfl rfl rfl ?_
    have h5 := hI.f tf43_22
    have h6 : S.f 43 22 = S0.f 43 22 := hF.f rfl
    refine r_getf (i := 33) (v := 22) (w := 11) (x := vi (S.f 43 22)) rfl ly43 rfl rfl fun h7 => ?_
    have h7 : Rg (S.f 43 22) := h7
    refine c_ge (i := 34) (v := 45) rfl ⟨by omega, by omega⟩ ⟨by omega, by omega⟩ (fun h8 => ?_) (fun h9 => ?_)
    · refine r_load (i := 45) (u := 0) (w := 2) rfl rfl rfl ?_
      refine r_const (i := 46) (u := 1) (z := 1) rfl rfl ?_
      refine r_call (i := 47) (u := 11) (v := 257) (w := 0) (b := 0) (na := 514) (C2 := xC257) (as := [(2, 43), vi 1]) (s := []) rfl rfl rfl rfl rfl rfl rfl (sp257 (v := 1) hI ⟨by omega, by omega⟩ (by omega)  (by omega)) (fun r10 S11 hq12 => ?_)
      obtain ⟨rfl, h13, h14, hI15, hF16, hR17⟩ := hq12
      have hF18 := hF.trans hF16 rfl rfl
      have hR19 := hR.trans hR17 rfl
      have e20 := wLVx.fr e_wLV hF16 rfl rfl
      have e21 := wASx.fr e_wAS hF16 rfl rfl
      have e22 := wSDx.fr e_wSD hF16 rfl rfl
      have e23 := CRx.fr e_CR hF16 rfl rfl
      refine Or.inl ⟨rfl, ?_⟩
      refine r_load (i := 48) (u := 0) (w := 2) rfl rfl rfl ?_
      refine r_const (i := 49) (u := 2) (z := 2) rfl rfl ?_
      have h24 := hI15.f tf43_43
      refine r_call (i := 50) (u := 11) (v := 257) (w := 0) (b := 0) (na := 514) (C2 := xC257) (as := [(2, 43), vi 2]) (s := []) rfl rfl rfl rfl rfl rfl rfl (sp257 (v := 2) hI15 ⟨by omega, by omega⟩ (by omega)  (by omega)) (fun r25 S26 hq27 => ?_)
      obtain ⟨rfl, h28, h29, hI30, hF31, hR32⟩ := hq27
      have hF33 := hF18.trans hF31 rfl rfl
      have hR34 := hR19.trans hR32 rfl
      have e35 := wLVx.fr e20 hF31 rfl rfl
      have e36 := wASx.fr e21 hF31 rfl rfl
      have e37 := wSDx.fr e22 hF31 rfl rfl
      have e38 := CRx.fr e23 hF31 rfl rfl
      refine Or.inl ⟨rfl, ?_⟩
      refine r_load (i := 51) (u := 0) (w := 2) rfl rfl rfl ?_
      refine r_load (i := 52) (u := 0) (w := 2) rfl rfl rfl ?_
      refine r_str (i := 53) (v := 46) rfl ?_
      have h39 := slv46
      have h40 := hI30.f tf43_51
      have h41 : S26.f 43 51 = S11.f 43 51 := hF31.f rfl
      have h42 : S11.f 43 51 = S.f 43 51 := hF16.f rfl
      have h43 := wphi_nn hI30
      have h44 : wphi S26 = wphi S11 := wphiX.fr hF31 rfl rfl
      have h45 : wphi S11 = wphi S := wphiX.fr hF16 rfl rfl
      have h46 := wpsi_nn hI30
      have h47 : wpsi S26 = wpsi S11 := wpsiX.fr hF31 rfl rfl
      have h48 : wpsi S11 = wpsi S := wpsiX.fr hF16 rfl rfl
      refine r_call (i := 54) (u := 11) (v := 252) (w := 0) (b := 0) (na := 514) (C2 := xC252) (as := [(2, 43), (6, 46)]) (s := [(2, 43)]) rfl rfl rfl rfl rfl rfl rfl (sp252 (s := 46) hI30 ⟨by decide, by decide⟩ (by omega) (by omega) (by omega) (by omega) e35 (by omega)) (fun r49 S50 hq51 => ?_)
      obtain ⟨z52, rfl, h53, h54, h55, h56, h57, fm58, e59, hI60, hF61, hR62⟩ := hq51
      have hF63 := hF33.trans hF61 rfl rfl
      have hR64 := hR34.trans hR62 rfl
      have e65 := wASx.fr e36 hF61 rfl rfl
      have e66 := wSDx.fr e37 hF61 rfl rfl
      have e67 := CRx.fr e38 hF61 rfl rfl
      refine Or.inr (Or.inl ⟨rfl, ?_⟩)
      have h68 := hI60.f tf43_43
      have h69 : S50.f 43 43 = S26.f 43 43 := hF61.f rfl
      refine r_call (i := 55) (u := 11) (v := 257) (w := 0) (b := 0) (na := 514) (C2 := xC257) (as := [(2, 43), vi z52]) (s := []) rfl rfl rfl rfl rfl rfl rfl (sp257 (v := z52) hI60 ⟨by omega, by omega⟩ (by omega)  (by omega)) (fun r70 S71 hq72 => ?_)
      obtain ⟨rfl, h73, h74, hI75, hF76, hR77⟩ := hq72
      have hF78 := hF63.trans hF76 rfl rfl
      have hR79 := hR64.trans hR77 rfl
      have e80 := wASx.fr e65 hF76 rfl rfl
      have e81 := wSDx.fr e66 hF76 rfl rfl
      have e82 := CRx.fr e67 hF76 rfl rfl
      have e83 := wLVx.fr e59 hF76 rfl rfl
      refine Or.inl ⟨rfl, ?_⟩
      refine r_load (i := 56) (u := 0) (w := 2) rfl rfl rfl ?_
      refine r_load (i := 57) (u := 0) (w := 2) rfl rfl rfl ?_
      refine r_str (i := 58) (v := 47) rfl ?_
      have h84 := slv47
      have h85 := hI75.f tf43_51
      have h86 : S71.f 43 51 = S50.f 43 51 := hF76.f rfl
      have h87 := wphi_nn hI75
      have h88 : wphi S71 = wphi S50 := wphiX.fr hF76 rfl rfl
      have h89 := wpsi_nn hI75
      have h90 : wpsi S71 = wpsi S50 := wpsiX.fr hF76 rfl rfl
      refine r_call (i := 59) (u := 11) (v := 252) (w := 0) (b := 0) (na := 514) (C2 := xC252) (as := [(2, 43), (6, 47)]) (s := [(2, 43)]) rfl rfl rfl rfl rfl rfl rfl (sp252 (s := 47) hI75 ⟨by decide, by decide⟩ (by omega) (by omega) (by omega) (by omega) e83 (by omega)) (fun r91 S92 hq93 => ?_)
      obtain ⟨z94, rfl, h95, h96, h97, h98, h99, fm100, e101, hI102, hF103, hR104⟩ := hq93
      have hF105 := hF78.trans hF103 rfl rfl
      have hR106 := hR79.trans hR104 rfl
      have e107 := wASx.fr e80 hF103 rfl rfl
      have e108 := wSDx.fr e81 hF103 rfl rfl
      have e109 := CRx.fr e82 hF103 rfl rfl
      refine Or.inr (Or.inl ⟨rfl, ?_⟩)
      have h110 := hI102.f tf43_43
      have h111 : S92.f 43 43 = S71.f 43 43 := hF103.f rfl
      refine r_call (i := 60) (u := 11) (v := 257) (w := 0) (b := 0) (na := 514) (C2 := xC257) (as := [(2, 43), vi z94]) (s := []) rfl rfl rfl rfl rfl rfl rfl (sp257 (v := z94) hI102 ⟨by omega, by omega⟩ (by omega)  (by omega)) (fun r112 S113 hq114 => ?_)
      obtain ⟨rfl, h115, h116, hI117, hF118, hR119⟩ := hq114
      have hF120 := hF105.trans hF118 rfl rfl
      have hR121 := hR106.trans hR119 rfl
      have e122 := wASx.fr e107 hF118 rfl rfl
      have e123 := wSDx.fr e108 hF118 rfl rfl
      have e124 := CRx.fr e109 hF118 rfl rfl
      have e125 := wLVx.fr e101 hF118 rfl rfl
      refine Or.inl ⟨rfl, ?_⟩
      refine r_load (i := 61) (u := 0) (w := 2) rfl rfl rfl ?_
      refine r_const (i := 62) (u := 0) (z := 0) rfl rfl ?_
      have h126 := hI117.f tf43_43
      refine r_call (i := 63) (u := 11) (v := 257) (w := 0) (b := 0) (na := 514) (C2 := xC257) (as := [(2, 43), vi 0]) (s := []) rfl rfl rfl rfl rfl rfl rfl (sp257 (v := 0) hI117 ⟨by omega, by omega⟩ (by omega)  (by omega)) (fun r127 S128 hq129 => ?_)
      obtain ⟨rfl, h130, h131, hI132, hF133, hR134⟩ := hq129
      have hF135 := hF120.trans hF133 rfl rfl
      have hR136 := hR121.trans hR134 rfl
      have e137 := wASx.fr e122 hF133 rfl rfl
      have e138 := wSDx.fr e123 hF133 rfl rfl
      have e139 := CRx.fr e124 hF133 rfl rfl
      have e140 := wLVx.fr e125 hF133 rfl rfl
      refine Or.inl ⟨rfl, ?_⟩
      refine r_const (i := 64) (u := 0) (z := 0) rfl rfl ?_
      refine r_store (i := 65) (u := 1) (w := 0) (L1 := [some ((2, 43)), some (vi 0), none, none]) rfl rfl rfl rfl ?_
      refine r_const (i := 66) (u := 0) (z := 0) rfl rfl ?_
      refine r_store (i := 67) (u := 2) (w := 0) (L1 := [some ((2, 43)), some (vi 0), some (vi 0), none]) rfl rfl rfl rfl ?_
      have h141 := hI132.f tf43_43
      have h142 := hI132.f tf43_51
      have h143 : S128.f 43 51 = S113.f 43 51 := hF133.f rfl
      have h144 : S113.f 43 51 = S92.f 43 51 := hF118.f rfl
      have h145 := wphi_nn hI132
      have h146 : wphi S128 = wphi S113 := wphiX.fr hF133 rfl rfl
      have h147 : wphi S113 = wphi S92 := wphiX.fr hF118 rfl rfl
      have h148 := wpsi_nn hI132
      have h149 : wpsi S128 = wpsi S113 := wpsiX.fr hF133 rfl rfl
      have h150 : wpsi S113 = wpsi S92 := wpsiX.fr hF118 rfl rfl
      exact lp265_68   hd _ S128 hI132 hF135 hR136 e140 e137 e138 e139 0 0 ⟨by omega, by omega⟩ ⟨by omega, by omega⟩ (by omega) (by omega) (by omega) (by omega) (by omega) (Int.lt_succ_toNat _)
    · have as9 := e_wAS j.toNat (by omega)
      refine r_load (i := 35) (u := 0) (w := 2) rfl rfl rfl ?_
      refine r_load (i := 36) (u := 0) (w := 2) rfl rfl rfl ?_
      refine r_load (i := 37) (u := 0) (w := 2) rfl rfl rfl ?_
      refine r_getf (i := 38) (v := 27) (w := 11) (x := (2, 64)) rfl ly43 rfl rfl fun _ => ?_
      refine r_load (i := 39) (u := 1) (w := 0) rfl rfl rfl ?_
      refine a_int (i := 40) rfl ly64 rfl (by omega) (by omega) fun h152 => ?_
      have h153 := hI.a ta64 j.toNat
      have h154 : S.a 64 j.toNat = S0.a 64 j.toNat := hF.a rfl _
      refine r_call (i := 41) (u := 11) (v := 193) (w := 0) (b := 0) (na := 514) (C2 := xC193) (as := [(2, 43), vi (S.a 64 j.toNat)]) (s := [(2, 43)]) rfl rfl rfl rfl rfl rfl rfl (sp193 (t := S.a 64 j.toNat) hI ⟨by omega, by omega⟩ (by omega) (by omega) (by omega) e_wLV (by omega)) (fun r155 S156 hq157 => ?_)
      obtain ⟨z158, rfl, h159, h160, h161, h162, h163, e164, hI165, hF166, hR167⟩ := hq157
      have hF168 := hF.trans hF166 rfl rfl
      have hR169 := hR.trans hR167 rfl
      have e170 := wASx.fr e_wAS hF166 rfl rfl
      have e171 := wSDx.fr e_wSD hF166 rfl rfl
      have e172 := CRx.fr e_CR hF166 rfl rfl
      refine Or.inr (Or.inl ⟨rfl, ?_⟩)
      have h173 := hI165.f tf43_43
      have h174 : S156.f 43 43 = S.f 43 43 := hF166.f rfl
      refine r_call (i := 42) (u := 11) (v := 257) (w := 0) (b := 0) (na := 514) (C2 := xC257) (as := [(2, 43), vi z158]) (s := []) rfl rfl rfl rfl rfl rfl rfl (sp257 (v := z158) hI165 ⟨by omega, by omega⟩ (by omega)  (by omega)) (fun r175 S176 hq177 => ?_)
      obtain ⟨rfl, h178, h179, hI180, hF181, hR182⟩ := hq177
      have hF183 := hF168.trans hF181 rfl rfl
      have hR184 := hR169.trans hR182 rfl
      have e185 := wASx.fr e170 hF181 rfl rfl
      have e186 := wSDx.fr e171 hF181 rfl rfl
      have e187 := CRx.fr e172 hF181 rfl rfl
      have e188 := wLVx.fr e164 hF181 rfl rfl
      refine Or.inl ⟨rfl, ?_⟩
      refine r_iinc (i := 43) (u := 1) (v := 1) (s := 1) (L1 := [some ((2, 43)), some (vi (j + 1)), none, none]) rfl rfl rfl rfl rfl ?_
      refine r_goto (i := 44) (v := 31) rfl ?_
      have h189 := hI180.f tf43_43
      have h190 := hI180.f tf43_51
      have h191 : S176.f 43 51 = S156.f 43 51 := hF181.f rfl
      have h192 := wphi_nn hI180
      have h193 : wphi S176 = wphi S156 := wphiX.fr hF181 rfl rfl
      have h194 := wpsi_nn hI180
      have h195 : wpsi S176 = wpsi S156 := wpsiX.fr hF181 rfl rfl
      exact ih S176 hI180 hF183 hR184 e188 e185 e186 e187 (j + 1) ⟨by omega, by omega⟩ (by omega) (by omega) (by omega) (by omega) (by omega)
/-- ProxyForgeModel.writeFile -/
theorem sp265 {G : xk} {S : yS} {d : Nat} (hI : yI S) (e_wAS : wAS S) (e_wSD : wSD S) (e_CR : CR S) (hd : 11 ≤ d) : yT xPr G LY xC265 0 [some ((2, 43))] [] S d (fun r S' => r = (0, (0, 0)) ∧ wAS S' ∧ wSD S' ∧ CR S' ∧ yI S' ∧ yFr [(43, 42), (43, 43), (43, 49), (43, 50), (43, 51), (43, 52), (43, 53)] [68, 71, 72, 73, 74, 75, 76, 77] S S' ∧ yRm [] S S') := by
  refine yT_pad 3 ?_
  show yT xPr G LY xC265 0 [some ((2, 43)), none, none, none] [] S d _
  obtain ⟨d, rfl⟩ : ∃ q, d = q + 1 := ⟨d - 1, by omega⟩
  have hF : yFr [(43, 42), (43, 43), (43, 49), (43, 50), (43, 51), (43, 52), (43, 53)] [68, 71, 72, 73, 74, 75, 76, 77] S S := yFr.refl S
  have hR : yRm [] S S := yRm.refl S
  refine r_load (i := 0) (u := 0) (w := 2) rfl rfl rfl ?_
  refine r_const (i := 1) (u := 0) (z := 0) rfl rfl ?_
  refine r_putI (i := 2) (v := 49) (w := 11) rfl ly43 rfl ⟨by omega, by omega⟩ ?_
  have hI2 := hI.setf (b := 43) (w := 49) (z := 0) tf43_49 rfl (by omega) (by omega)
  have hF4 := hF.setf (b := 43) (w := 49) (z := 0) rfl
  have hR5 := hR.setf (b := 43) (w := 49) (z := 0)
  have e6 := wASx.setf e_wAS (b := 43) (w := 49) (z := 0) rfl
  have e7 := wSDx.setf e_wSD (b := 43) (w := 49) (z := 0) rfl
  have e8 := CRx.setf e_CR (b := 43) (w := 49) (z := 0) rfl
  refine yT_gen (fun S1 hS3 => ?_)
  rw [hS3] at hI2 hF4 hR5 e6 e7 e8
  refine r_load (i := 3) (u := 0) (w := 2) rfl rfl rfl ?_
  refine r_const (i := 4) (u := 0) (z := 0) rfl rfl ?_
  refine r_putI (i := 5) (v := 50) (w := 11) rfl ly43 rfl ⟨by omega, by omega⟩ ?_
  have hI10 := hI2.setf (b := 43) (w := 50) (z := 0) tf43_50 rfl (by omega) (by omega)
  have hF12 := hF4.setf (b := 43) (w := 50) (z := 0) rfl
  have hR13 := hR5.setf (b := 43) (w := 50) (z := 0)
  have e14 := wASx.setf e6 (b := 43) (w := 50) (z := 0) rfl
  have e15 := wSDx.setf e7 (b := 43) (w := 50) (z := 0) rfl
  have e16 := CRx.setf e8 (b := 43) (w := 50) (z := 0) rfl
  refine yT_gen (fun S9 hS11 => ?_)
  rw [hS11] at hI10 hF12 hR13 e14 e15 e16
  refine r_load (i := 6) (u := 0) (w := 2) rfl rfl rfl ?_
  refine r_const (i := 7) (u := 0) (z := 0) rfl rfl ?_
  refine r_putI (i := 8) (v := 51) (w := 11) rfl ly43 rfl ⟨by omega, by omega⟩ ?_
  have hI18 := hI10.setf (b := 43) (w := 51) (z := 0) tf43_51 rfl (by omega) (by omega)
  have hF20 := hF12.setf (b := 43) (w := 51) (z := 0) rfl
  have hR21 := hR13.setf (b := 43) (w := 51) (z := 0)
  have e22 := wASx.setf e14 (b := 43) (w := 51) (z := 0) rfl
  have e23 := wSDx.setf e15 (b := 43) (w := 51) (z := 0) rfl
  have e24 := CRx.setf e16 (b := 43) (w := 51) (z := 0) rfl
  refine yT_gen (fun S17 hS19 => ?_)
  rw [hS19] at hI18 hF20 hR21 e22 e23 e24
  refine r_load (i := 9) (u := 0) (w := 2) rfl rfl rfl ?_
  refine r_const (i := 10) (u := 0) (z := 0) rfl rfl ?_
  refine r_putI (i := 11) (v := 43) (w := 11) rfl ly43 rfl ⟨by omega, by omega⟩ ?_
  have hI26 := hI18.setf (b := 43) (w := 43) (z := 0) tf43_43 rfl (by omega) (by omega)
  have hF28 := hF20.setf (b := 43) (w := 43) (z := 0) rfl
  have hR29 := hR21.setf (b := 43) (w := 43) (z := 0)
  have e30 := wASx.setf e22 (b := 43) (w := 43) (z := 0) rfl
  have e31 := wSDx.setf e23 (b := 43) (w := 43) (z := 0) rfl
  have e32 := CRx.setf e24 (b := 43) (w := 43) (z := 0) rfl
  refine yT_gen (fun S25 hS27 => ?_)
  rw [hS27] at hI26 hF28 hR29 e30 e31 e32
  have lv9 := wLV_0 (S := S25) (by subst_vars; rfl) (by subst_vars; rfl)
  have ph9 := wphi_0 (S := S25) (by subst_vars; rfl)
  have ps9 := wpsi_0 (S := S25) (by subst_vars; rfl)
  refine r_load (i := 12) (u := 0) (w := 2) rfl rfl rfl ?_
  refine r_const (i := 13) (u := 49) (z := 49) rfl rfl ?_
  have h33 := hI26.f tf43_43
  have h34 : S25.f 43 43 = 0 := by rw [← hS27]; exact ysf_eq
  refine r_call (i := 14) (u := 11) (v := 257) (w := 0) (b := 0) (na := 514) (C2 := xC257) (as := [(2, 43), vi 49]) (s := []) rfl rfl rfl rfl rfl rfl rfl (sp257 (v := 49) hI26 ⟨by omega, by omega⟩ (by omega)  (by omega)) (fun r35 S36 hq37 => ?_)
  obtain ⟨rfl, h38, h39, hI40, hF41, hR42⟩ := hq37
  have hF43 := hF28.trans hF41 rfl rfl
  have hR44 := hR29.trans hR42 rfl
  have e45 := wASx.fr e30 hF41 rfl rfl
  have e46 := wSDx.fr e31 hF41 rfl rfl
  have e47 := CRx.fr e32 hF41 rfl rfl
  have e48 := wLVx.fr lv9 hF41 rfl rfl
  refine Or.inl ⟨rfl, ?_⟩
  refine r_load (i := 15) (u := 0) (w := 2) rfl rfl rfl ?_
  refine r_load (i := 16) (u := 0) (w := 2) rfl rfl rfl ?_
  have h49 := hI40.f tf43_51
  have h50 : S36.f 43 51 = S25.f 43 51 := hF41.f rfl
  have h51 : S25.f 43 51 = S17.f 43 51 := by rw [← hS27]; exact ysf_ne (by decide)
  have h52 : S17.f 43 51 = 0 := by rw [← hS19]; exact ysf_eq
  have h53 := wphi_nn hI40
  have h54 : wphi S36 = wphi S25 := wphiX.fr hF41 rfl rfl
  have h55 : wphi S25 = wphi S17 := by rw [← hS27]; exact wphiX.setf rfl
  have h56 : wphi S17 = wphi S9 := by rw [← hS19]; exact wphiX.setf rfl
  have h57 : wphi S9 = wphi S1 := by rw [← hS11]; exact wphiX.setf rfl
  have h58 := wpsi_nn hI40
  have h59 : wpsi S36 = wpsi S25 := wpsiX.fr hF41 rfl rfl
  have h60 : wpsi S25 = wpsi S17 := by rw [← hS27]; exact wpsiX.setf rfl
  have h61 : wpsi S17 = wpsi S9 := by rw [← hS19]; exact wpsiX.setf rfl
  have h62 : wpsi S9 = wpsi S1 := by rw [← hS11]; exact wpsiX.setf rfl
  refine r_call (i := 17) (u := 11) (v := 233) (w := 0) (b := 0) (na := 257) (C2 := xC233) (as := [(2, 43)]) (s := [(2, 43)]) rfl rfl rfl rfl rfl rfl rfl (sp233  hI40  (by omega) (by omega) (by omega) e48 (by omega)) (fun r63 S64 hq65 => ?_)
  obtain ⟨z66, rfl, h67, h68, h69, h70, h71, e72, hI73, hF74, hR75⟩ := hq65
  have hF76 := hF43.trans hF74 rfl rfl
  have hR77 := hR44.trans hR75 rfl
  have e78 := wASx.fr e45 hF74 rfl rfl
  have e79 := wSDx.fr e46 hF74 rfl rfl
  have e80 := CRx.fr e47 hF74 rfl rfl
  refine Or.inr (Or.inl ⟨rfl, ?_⟩)
  have h81 := hI73.f tf43_43
  have h82 : S64.f 43 43 = S36.f 43 43 := hF74.f rfl
  refine r_call (i := 18) (u := 11) (v := 257) (w := 0) (b := 0) (na := 514) (C2 := xC257) (as := [(2, 43), vi z66]) (s := []) rfl rfl rfl rfl rfl rfl rfl (sp257 (v := z66) hI73 ⟨by omega, by omega⟩ (by omega)  (by omega)) (fun r83 S84 hq85 => ?_)
  obtain ⟨rfl, h86, h87, hI88, hF89, hR90⟩ := hq85
  have hF91 := hF76.trans hF89 rfl rfl
  have hR92 := hR77.trans hR90 rfl
  have e93 := wASx.fr e78 hF89 rfl rfl
  have e94 := wSDx.fr e79 hF89 rfl rfl
  have e95 := CRx.fr e80 hF89 rfl rfl
  have e96 := wLVx.fr e72 hF89 rfl rfl
  refine Or.inl ⟨rfl, ?_⟩
  refine r_load (i := 19) (u := 0) (w := 2) rfl rfl rfl ?_
  refine r_load (i := 20) (u := 0) (w := 2) rfl rfl rfl ?_
  refine r_load (i := 21) (u := 0) (w := 2) rfl rfl rfl ?_
  have h97 := hI88.f tf43_21
  have h98 : S84.f 43 21 = S.f 43 21 := hF91.f rfl
  refine r_getf (i := 22) (v := 21) (w := 11) (x := vi (S84.f 43 21)) rfl ly43 rfl rfl fun h99 => ?_
  have h99 : Rg (S84.f 43 21) := h99
  have h100 := hI88.f tf43_51
  have h101 : S84.f 43 51 = S64.f 43 51 := hF89.f rfl
  have h102 := wphi_nn hI88
  have h103 : wphi S84 = wphi S64 := wphiX.fr hF89 rfl rfl
  have h104 := wpsi_nn hI88
  have h105 : wpsi S84 = wpsi S64 := wpsiX.fr hF89 rfl rfl
  refine r_call (i := 23) (u := 11) (v := 193) (w := 0) (b := 0) (na := 514) (C2 := xC193) (as := [(2, 43), vi (S84.f 43 21)]) (s := [(2, 43)]) rfl rfl rfl rfl rfl rfl rfl (sp193 (t := S84.f 43 21) hI88 ⟨by omega, by omega⟩ (by omega) (by omega) (by omega) e96 (by omega)) (fun r106 S107 hq108 => ?_)
  obtain ⟨z109, rfl, h110, h111, h112, h113, h114, e115, hI116, hF117, hR118⟩ := hq108
  have hF119 := hF91.trans hF117 rfl rfl
  have hR120 := hR92.trans hR118 rfl
  have e121 := wASx.fr e93 hF117 rfl rfl
  have e122 := wSDx.fr e94 hF117 rfl rfl
  have e123 := CRx.fr e95 hF117 rfl rfl
  refine Or.inr (Or.inl ⟨rfl, ?_⟩)
  have h124 := hI116.f tf43_43
  have h125 : S107.f 43 43 = S84.f 43 43 := hF117.f rfl
  refine r_call (i := 24) (u := 11) (v := 257) (w := 0) (b := 0) (na := 514) (C2 := xC257) (as := [(2, 43), vi z109]) (s := []) rfl rfl rfl rfl rfl rfl rfl (sp257 (v := z109) hI116 ⟨by omega, by omega⟩ (by omega)  (by omega)) (fun r126 S127 hq128 => ?_)
  obtain ⟨rfl, h129, h130, hI131, hF132, hR133⟩ := hq128
  have hF134 := hF119.trans hF132 rfl rfl
  have hR135 := hR120.trans hR133 rfl
  have e136 := wASx.fr e121 hF132 rfl rfl
  have e137 := wSDx.fr e122 hF132 rfl rfl
  have e138 := CRx.fr e123 hF132 rfl rfl
  have e139 := wLVx.fr e115 hF132 rfl rfl
  refine Or.inl ⟨rfl, ?_⟩
  refine r_load (i := 25) (u := 0) (w := 2) rfl rfl rfl ?_
  refine r_load (i := 26) (u := 0) (w := 2) rfl rfl rfl ?_
  have h140 := hI131.f tf43_22
  have h141 : S127.f 43 22 = S.f 43 22 := hF134.f rfl
  refine r_getf (i := 27) (v := 22) (w := 11) (x := vi (S127.f 43 22)) rfl ly43 rfl rfl fun h142 => ?_
  have h142 : Rg (S127.f 43 22) := h142
  have h143 := hI131.f tf43_43
  refine r_call (i := 28) (u := 11) (v := 257) (w := 0) (b := 0) (na := 514) (C2 := xC257) (as := [(2, 43), vi (S127.f 43 22)]) (s := []) rfl rfl rfl rfl rfl rfl rfl (sp257 (v := S127.f 43 22) hI131 ⟨by omega, by omega⟩ (by omega)  (by omega)) (fun r144 S145 hq146 => ?_)
  obtain ⟨rfl, h147, h148, hI149, hF150, hR151⟩ := hq146
  have hF152 := hF134.trans hF150 rfl rfl
  have hR153 := hR135.trans hR151 rfl
  have e154 := wASx.fr e136 hF150 rfl rfl
  have e155 := wSDx.fr e137 hF150 rfl rfl
  have e156 := CRx.fr e138 hF150 rfl rfl
  have e157 := wLVx.fr e139 hF150 rfl rfl
  refine Or.inl ⟨rfl, ?_⟩
  refine r_const (i := 29) (u := 0) (z := 0) rfl rfl ?_
  refine r_store (i := 30) (u := 1) (w := 0) (L1 := [some ((2, 43)), some (vi 0), none, none]) rfl rfl rfl rfl ?_
  have h158 := hI149.f tf43_43
  have h159 := hI149.f tf43_51
  have h160 : S145.f 43 51 = S127.f 43 51 := hF150.f rfl
  have h161 : S127.f 43 51 = S107.f 43 51 := hF132.f rfl
  have h162 := wphi_nn hI149
  have h163 : wphi S145 = wphi S127 := wphiX.fr hF150 rfl rfl
  have h164 : wphi S127 = wphi S107 := wphiX.fr hF132 rfl rfl
  have h165 := wpsi_nn hI149
  have h166 : wpsi S145 = wpsi S127 := wpsiX.fr hF150 rfl rfl
  have h167 : wpsi S127 = wpsi S107 := wpsiX.fr hF132 rfl rfl
  exact lp265_31   hd _ S145 hI149 hF152 hR153 e157 e154 e155 e156 0 ⟨by omega, by omega⟩ (by omega) (by omega) (by omega) (by omega) (Int.lt_succ_toNat _)
end XNC
