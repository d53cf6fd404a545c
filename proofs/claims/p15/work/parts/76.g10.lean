set_option linter.unusedVariables false
set_option maxRecDepth 4000
noncomputable section XNC
theorem lp166_143 {G : xk} {d : Nat} {S0 : yS} {k : Int} (h_k : 0 ≤ k ∧ k ≤ 23) (p_0 : S0.f 31 1 + 1144 ≤ 60000) (p_1 : S0.f 34 1 + 179 ≤ 60000) (hd : 9 ≤ d + 1) : ∀ (S : yS) (hI : yI S) (hF : yFr [(31, 1), (33, 10), (33, 11), (33, 12), (33, 13), (33, 14), (33, 15), (34, 1), (36, 5)] [37, 100, 101, 102, 103, 105] S0 S) (hR : yRm [0, 1, 2, 3] S0 S) (e_PL : PL S) (e_FA : FA S) (m th bh g0 : Int) (h_m : 0 ≤ m ∧ m ≤ 59) (h_th : 0 ≤ th ∧ th ≤ 3) (h_bh : 1 ≤ bh ∧ bh ≤ 9) (h_g0 : 0 ≤ g0 ∧ g0 ≤ 1) (q_0 : 6 ≤ S.f 33 12 ∧ S.f 33 12 + 8 ≤ S.f 34 1 ∧ S.f 33 13 = S.f 33 12 + 8) (q_1 : S0.f 31 1 ≤ S.f 31 1 ∧ S.f 31 1 ≤ S0.f 31 1 + 1035) (q_2 : S0.f 34 1 ≤ S.f 34 1 ∧ S.f 34 1 ≤ S0.f 34 1 + 165), yT xPr G LY xC166 143 [some ((2, 33)), some (vi k), some (vi m), some (vi th), some (vi bh), some (vi g0), none] [] S (d + 1) (fun r S' => r = (0, (0, 0)) ∧ (S0.f 31 1 ≤ S'.f 31 1 ∧ S'.f 31 1 ≤ S0.f 31 1 + 1144) ∧ (S0.f 34 1 ≤ S'.f 34 1 ∧ S'.f 34 1 ≤ S0.f 34 1 + 179) ∧ PL S' ∧ FA S' ∧ yI S' ∧ yFr [(31, 1), (33, 10), (33, 11), (33, 12), (33, 13), (33, 14), (33, 15), (34, 1), (36, 5)] [37, 100, 101, 102, 103, 105] S0 S' ∧ yRm [0, 1, 2, 3] S0 S') := by
  intro S hI hF hR e_PL e_FA m th bh g0 h_m h_th h_bh h_g0 q_0 q_1 q_2
  have h1 := hI.b1
  have h2 := hI.b0
  refine r_load (i := 143) (u := 0) (w := 2) rfl rfl rfl ?_
  refine r_call (i := 144) (u := 8) (v := 152) (w := 0) (b := 0) (na := 257) (C2 := xC152) (as := [(2, 33)]) (s := []) rfl rfl rfl rfl rfl rfl rfl (sp152  hI  (by omega) (by omega)  (by omega)) (fun r3 S4 hq5 => ?_)
  obtain ⟨rfl, h6, hI7, hF8, hR9⟩ := hq5
  have hF10 := hF.trans hF8 rfl rfl
  have hR11 := hR.trans hR9 rfl
  have e12 := PLx.fr e_PL hF8 hR9 rfl rfl rfl
  have e13 := FAx.fr e_FA hF8 rfl rfl
  have e14 := PTx.fr e_PL hF8 hR9 rfl rfl rfl
  refine Or.inl ⟨rfl, ?_⟩
  refine r_load (i := 145) (u := 3) (w := 0) rfl rfl rfl ?_
  refine z_le (i := 146) (v := 151) rfl ⟨by omega, by omega⟩ (fun h15 => ?_) (fun h16 => ?_)
  · have h17 := hI7.b0
    have h18 : S4.f 31 1 = S.f 31 1 := hF8.f rfl
    have h19 := hI7.b1
    have h20 : S4.f 34 1 = S.f 34 1 := hF8.f rfl
    exact r_ret0 (i := 151) rfl ⟨rfl, (by omega), (by omega), e12, e13, hI7, hF10, hR11⟩
  · refine r_load (i := 147) (u := 0) (w := 2) rfl rfl rfl ?_
    refine r_load (i := 148) (u := 2) (w := 0) rfl rfl rfl ?_
    refine r_load (i := 149) (u := 3) (w := 0) rfl rfl rfl ?_
    have h21 := hI7.b0
    have h22 : S4.f 31 1 = S.f 31 1 := hF8.f rfl
    have h23 := hI7.b1
    have h24 : S4.f 34 1 = S.f 34 1 := hF8.f rfl
    refine r_call (i := 150) (u := 8) (v := 154) (w := 0) (b := 0) (na := 1027) (C2 := xC154) (as := [(2, 33), vi m, vi th]) (s := []) rfl rfl rfl rfl rfl rfl rfl (sp154 (m := m) (h0 := th) hI7 ⟨by omega, by omega⟩ ⟨by omega, by omega⟩ (by omega) (by omega) e12 (by omega)) (fun r25 S26 hq27 => ?_)
    obtain ⟨rfl, h28, h29, e30, hI31, hF32, hR33⟩ := hq27
    have hF34 := hF10.trans hF32 rfl rfl
    have hR35 := hR11.trans hR33 rfl
    have e36 := FAx.fr e13 hF32 rfl rfl
    refine Or.inl ⟨rfl, ?_⟩
    have h37 := hI31.b0
    have h38 := hI31.b1
    exact r_ret0 (i := 151) rfl ⟨rfl, (by omega), (by omega), e30, e36, hI31, hF34, hR35⟩
theorem lp166_128 {G : xk} {d : Nat} {S0 : yS} {k : Int} (h_k : 0 ≤ k ∧ k ≤ 23) (p_0 : S0.f 31 1 + 1144 ≤ 60000) (p_1 : S0.f 34 1 + 179 ≤ 60000) (hd : 9 ≤ d + 1) : ∀ (S : yS) (hI : yI S) (hF : yFr [(31, 1), (33, 10), (33, 11), (33, 12), (33, 13), (33, 14), (33, 15), (34, 1), (36, 5)] [37, 100, 101, 102, 103, 105] S0 S) (hR : yRm [0, 1, 2, 3] S0 S) (e_PL : PL S) (e_FA : FA S) (m th bh g0 hd0 : Int) (h_m : 0 ≤ m ∧ m ≤ 59) (h_th : 0 ≤ th ∧ th ≤ 3) (h_bh : 1 ≤ bh ∧ bh ≤ 9) (h_g0 : 0 ≤ g0 ∧ g0 ≤ 1) (h_hd0 : 0 ≤ hd0 ∧ hd0 ≤ 60000) (q_0 : 6 ≤ S.f 33 12 ∧ S.f 33 12 + 8 ≤ S.f 34 1 ∧ S.f 33 13 = S.f 33 12 + 8) (q_1 : S0.f 31 1 ≤ S.f 31 1 ∧ S.f 31 1 ≤ S0.f 31 1 + 795) (q_2 : S0.f 34 1 ≤ S.f 34 1 ∧ S.f 34 1 ≤ S0.f 34 1 + 95), yT xPr G LY xC166 128 [some ((2, 33)), some (vi k), some (vi m), some (vi th), some (vi bh), some (vi g0), some (vi hd0)] [] S (d + 1) (fun r S' => r = (0, (0, 0)) ∧ (S0.f 31 1 ≤ S'.f 31 1 ∧ S'.f 31 1 ≤ S0.f 31 1 + 1144) ∧ (S0.f 34 1 ≤ S'.f 34 1 ∧ S'.f 34 1 ≤ S0.f 34 1 + 179) ∧ PL S' ∧ FA S' ∧ yI S' ∧ yFr [(31, 1), (33, 10), (33, 11), (33, 12), (33, 13), (33, 14), (33, 15), (34, 1), (36, 5)] [37, 100, 101, 102, 103, 105] S0 S' ∧ yRm [0, 1, 2, 3] S0 S') := by
  intro S hI hF hR e_PL e_FA m th bh g0 hd0 h_m h_th h_bh h_g0 h_hd0 q_0 q_1 q_2
  have h1 := hI.b1
  have h2 := hI.b0
  refine r_load (i := 128) (u := 0) (w := 2) rfl rfl rfl ?_
  refine r_call (i := 129) (u := 8) (v := 153) (w := 0) (b := 0) (na := 257) (C2 := xC153) (as := [(2, 33)]) (s := []) rfl rfl rfl rfl rfl rfl rfl (sp153  hI  (by omega) (by omega)  (by omega)) (fun r3 S4 hq5 => ?_)
  obtain ⟨rfl, h6, hI7, hF8, hR9⟩ := hq5
  have hF10 := hF.trans hF8 rfl rfl
  have hR11 := hR.trans hR9 rfl
  have e12 := PLx.fr e_PL hF8 hR9 rfl rfl rfl
  have e13 := FAx.fr e_FA hF8 rfl rfl
  have e14 := PTx.fr e_PL hF8 hR9 rfl rfl rfl
  refine Or.inl ⟨rfl, ?_⟩
  refine r_load (i := 130) (u := 5) (w := 0) rfl rfl rfl ?_
  refine z_eq (i := 131) (v := 141) rfl ⟨by omega, by omega⟩ (fun h15 => ?_) (fun h16 => ?_)
  · refine r_load (i := 141) (u := 0) (w := 2) rfl rfl rfl ?_
    have h17 := hI7.b1
    have h18 : S4.f 34 1 = S.f 34 1 := hF8.f rfl
    refine r_call (i := 142) (u := 8) (v := 162) (w := 0) (b := 0) (na := 257) (C2 := xC162) (as := [(2, 33)]) (s := []) rfl rfl rfl rfl rfl rfl rfl (sp162  hI7  (by omega)  (by omega)) (fun r19 S20 hq21 => ?_)
    obtain ⟨rfl, h22, hI23, hF24, hR25⟩ := hq21
    have hF26 := hF10.trans hF24 rfl rfl
    have hR27 := hR11.trans hR25 rfl
    have e28 := PLx.fr e12 hF24 hR25 rfl rfl rfl
    have e29 := FAx.fr e13 hF24 rfl rfl
    have e30 := PTx.fr e14 hF24 hR25 rfl rfl rfl
    refine Or.inl ⟨rfl, ?_⟩
    refine yT_drop (L1 := [some ((2, 33)), some (vi k), some (vi m), some (vi th), some (vi bh), some (vi g0), none]) rfl ?_
    have h31 : S20.f 33 12 = S4.f 33 12 := hF24.f rfl
    have h32 : S4.f 33 12 = S.f 33 12 := hF8.f rfl
    have h33 := hI23.b1
    have h34 : S20.f 33 13 = S4.f 33 13 := hF24.f rfl
    have h35 : S4.f 33 13 = S.f 33 13 := hF8.f rfl
    have h36 := hI23.b0
    have h37 : S20.f 31 1 = S4.f 31 1 := hF24.f rfl
    have h38 : S4.f 31 1 = S.f 31 1 := hF8.f rfl
    exact lp166_143 h_k p_0 p_1 hd S20 hI23 hF26 hR27 e28 e29 m th bh g0 ⟨by omega, by omega⟩ ⟨by omega, by omega⟩ ⟨by omega, by omega⟩ ⟨by omega, by omega⟩ (by omega) (by omega) (by omega) 
  · refine r_load (i := 132) (u := 0) (w := 2) rfl rfl rfl ?_
    refine r_load (i := 133) (u := 2) (w := 0) rfl rfl rfl ?_
    refine r_load (i := 134) (u := 3) (w := 0) rfl rfl rfl ?_
    refine r_load (i := 135) (u := 6) (w := 0) rfl rfl rfl ?_
    have h39 := hI7.b0
    have h40 : S4.f 31 1 = S.f 31 1 := hF8.f rfl
    have h41 := hI7.b1
    have h42 : S4.f 34 1 = S.f 34 1 := hF8.f rfl
    refine r_call (i := 136) (u := 8) (v := 155) (w := 0) (b := 0) (na := 1284) (C2 := xC155) (as := [(2, 33), vi m, vi th, vi hd0]) (s := []) rfl rfl rfl rfl rfl rfl rfl (sp155 (m := m) (h0 := th) (rt := hd0) hI7 ⟨by omega, by omega⟩ ⟨by omega, by omega⟩ ⟨by omega, by omega⟩ (by omega) (by omega) e12 (by omega)) (fun r43 S44 hq45 => ?_)
    obtain ⟨rfl, h46, h47, e48, hI49, hF50, hR51⟩ := hq45
    have hF52 := hF10.trans hF50 rfl rfl
    have hR53 := hR11.trans hR51 rfl
    have e54 := FAx.fr e13 hF50 rfl rfl
    refine Or.inl ⟨rfl, ?_⟩
    refine r_load (i := 137) (u := 0) (w := 2) rfl rfl rfl ?_
    refine r_load (i := 138) (u := 6) (w := 0) rfl rfl rfl ?_
    have h55 := hI49.b0
    have h56 := hI49.b1
    refine r_call (i := 139) (u := 8) (v := 170) (w := 0) (b := 0) (na := 1026) (C2 := xC170) (as := [(2, 33), vi hd0]) (s := []) rfl rfl rfl rfl rfl rfl rfl (sp170 (h0 := hd0) hI49 ⟨by omega, by omega⟩ (by omega) (by omega) e48 (by omega)) (fun r57 S58 hq59 => ?_)
    obtain ⟨rfl, h60, h61, e62, hI63, hF64, hR65⟩ := hq59
    have hF66 := hF52.trans hF64 rfl rfl
    have hR67 := hR53.trans hR65 rfl
    have e68 := FAx.fr e54 hF64 rfl rfl
    refine Or.inl ⟨rfl, ?_⟩
    refine r_goto (i := 140) (v := 143) rfl ?_
    refine yT_drop (L1 := [some ((2, 33)), some (vi k), some (vi m), some (vi th), some (vi bh), some (vi g0), none]) rfl ?_
    have h69 : S58.f 33 12 = S44.f 33 12 := hF64.f rfl
    have h70 : S44.f 33 12 = S4.f 33 12 := hF50.f rfl
    have h71 : S4.f 33 12 = S.f 33 12 := hF8.f rfl
    have h72 := hI63.b1
    have h73 : S58.f 33 13 = S44.f 33 13 := hF64.f rfl
    have h74 : S44.f 33 13 = S4.f 33 13 := hF50.f rfl
    have h75 : S4.f 33 13 = S.f 33 13 := hF8.f rfl
    have h76 := hI63.b0
    exact lp166_143 h_k p_0 p_1 hd S58 hI63 hF66 hR67 e62 e68 m th bh g0 ⟨by omega, by omega⟩ ⟨by omega, by omega⟩ ⟨by omega, by omega⟩ ⟨by omega, by omega⟩ (by omega) (by omega) (by omega) 
theorem lp166_116 {G : xk} {d : Nat} {S0 : yS} {k : Int} (h_k : 0 ≤ k ∧ k ≤ 23) (p_0 : S0.f 31 1 + 1144 ≤ 60000) (p_1 : S0.f 34 1 + 179 ≤ 60000) (hd : 9 ≤ d + 1) : ∀ (S : yS) (hI : yI S) (hF : yFr [(31, 1), (33, 10), (33, 11), (33, 12), (33, 13), (33, 14), (33, 15), (34, 1), (36, 5)] [37, 100, 101, 102, 103, 105] S0 S) (hR : yRm [0, 1, 2, 3] S0 S) (e_PL : PL S) (e_FA : FA S) (m th bh g0 : Int) (h_m : 0 ≤ m ∧ m ≤ 59) (h_th : 0 ≤ th ∧ th ≤ 3) (h_bh : 1 ≤ bh ∧ bh ≤ 9) (h_g0 : 0 ≤ g0 ∧ g0 ≤ 1) (q_0 : 6 ≤ S.f 33 12 ∧ S.f 33 12 + 8 ≤ S.f 34 1 ∧ S.f 33 13 = S.f 33 12 + 8) (q_1 : S0.f 31 1 ≤ S.f 31 1 ∧ S.f 31 1 ≤ S0.f 31 1 + 645) (q_2 : S0.f 34 1 ≤ S.f 34 1 ∧ S.f 34 1 ≤ S0.f 34 1 + 82), yT xPr G LY xC166 116 [some ((2, 33)), some (vi k), some (vi m), some (vi th), some (vi bh), some (vi g0), none] [] S (d + 1) (fun r S' => r = (0, (0, 0)) ∧ (S0.f 31 1 ≤ S'.f 31 1 ∧ S'.f 31 1 ≤ S0.f 31 1 + 1144) ∧ (S0.f 34 1 ≤ S'.f 34 1 ∧ S'.f 34 1 ≤ S0.f 34 1 + 179) ∧ PL S' ∧ FA S' ∧ yI S' ∧ yFr [(31, 1), (33, 10), (33, 11), (33, 12), (33, 13), (33, 14), (33, 15), (34, 1), (36, 5)] [37, 100, 101, 102, 103, 105] S0 S' ∧ yRm [0, 1, 2, 3] S0 S') := by
  intro S hI hF hR e_PL e_FA m th bh g0 h_m h_th h_bh h_g0 q_0 q_1 q_2
  have h1 := hI.b1
  have h2 := hI.b0
  refine r_load (i := 116) (u := 0) (w := 2) rfl rfl rfl ?_
  refine r_getf (i := 117) (v := 5) (w := 8) (x := (2, 34)) rfl ly33 rfl rfl fun _ => ?_
  refine r_getf (i := 118) (v := 1) (w := 7) (x := vi (S.f 34 1)) rfl ly34 rfl rfl fun h4 => ?_
  have h4 : Rg (S.f 34 1) := h4
  refine r_load (i := 119) (u := 0) (w := 2) rfl rfl rfl ?_
  refine r_getf (i := 120) (v := 13) (w := 8) (x := vi (S.f 33 13)) rfl ly33 rfl rfl fun h5 => ?_
  have h5 : Rg (S.f 33 13) := h5
  refine r_isub (i := 121) rfl ?_
  refine r_store (i := 122) (u := 6) (w := 0) (L1 := [some ((2, 33)), some (vi k), some (vi m), some (vi th), some (vi bh), some (vi g0), some (vi ((S.f 34 1) - (S.f 33 13)))]) rfl rfl rfl rfl ?_
  refine r_load (i := 123) (u := 5) (w := 0) rfl rfl rfl ?_
  refine z_eq (i := 124) (v := 128) rfl ⟨by omega, by omega⟩ (fun h6 => ?_) (fun h7 => ?_)
  · exact lp166_128 h_k p_0 p_1 hd S hI hF hR e_PL e_FA m th bh g0 ((S.f 34 1) - (S.f 33 13)) ⟨by omega, by omega⟩ ⟨by omega, by omega⟩ ⟨by omega, by omega⟩ ⟨by omega, by omega⟩ ⟨by omega, by omega⟩ (by omega) (by omega) (by omega) 
  · refine r_load (i := 125) (u := 0) (w := 2) rfl rfl rfl ?_
    refine r_load (i := 126) (u := 4) (w := 0) rfl rfl rfl ?_
    refine r_call (i := 127) (u := 8) (v := 169) (w := 0) (b := 0) (na := 514) (C2 := xC169) (as := [(2, 33), vi bh]) (s := []) rfl rfl rfl rfl rfl rfl rfl (sp169 (l0 := bh) hI ⟨by omega, by omega⟩ (by omega) (by omega) e_PL (by omega)) (fun r8 S9 hq10 => ?_)
    obtain ⟨rfl, h11, h12, e13, hI14, hF15, hR16⟩ := hq10
    have hF17 := hF.trans hF15 rfl rfl
    have hR18 := hR.trans hR16 rfl
    have e19 := FAx.fr e_FA hF15 rfl rfl
    refine Or.inl ⟨rfl, ?_⟩
    have h20 : S9.f 33 12 = S.f 33 12 := hF15.f rfl
    have h21 := hI14.b1
    have h22 : S9.f 33 13 = S.f 33 13 := hF15.f rfl
    have h23 := hI14.b0
    exact lp166_128 h_k p_0 p_1 hd S9 hI14 hF17 hR18 e13 e19 m th bh g0 ((S.f 34 1) - (S.f 33 13)) ⟨by omega, by omega⟩ ⟨by omega, by omega⟩ ⟨by omega, by omega⟩ ⟨by omega, by omega⟩ ⟨by omega, by omega⟩ (by omega) (by omega) (by omega) 
theorem lp166_37 {G : xk} {d : Nat} {S0 : yS} {k : Int} (h_k : 0 ≤ k ∧ k ≤ 23) (p_0 : S0.f 31 1 + 1144 ≤ 60000) (p_1 : S0.f 34 1 + 179 ≤ 60000) (hd : 9 ≤ d + 1) : ∀ (S : yS) (hI : yI S) (hF : yFr [(31, 1), (33, 10), (33, 11), (33, 12), (33, 13), (33, 14), (33, 15), (34, 1), (36, 5)] [37, 100, 101, 102, 103, 105] S0 S) (hR : yRm [0, 1, 2, 3] S0 S) (e_PL : PL S) (e_FA : FA S) (m th bh g0 : Int) (h_m : 0 ≤ m ∧ m ≤ 59) (h_th : 0 ≤ th ∧ th ≤ 3) (h_bh : 1 ≤ bh ∧ bh ≤ 9) (h_g0 : 0 ≤ g0 ∧ g0 ≤ 1) (q_0 : S0.f 31 1 ≤ S.f 31 1 ∧ S.f 31 1 ≤ S0.f 31 1 + 0) (q_1 : S0.f 34 1 ≤ S.f 34 1 ∧ S.f 34 1 ≤ S0.f 34 1 + 0), yT xPr G LY xC166 37 [some ((2, 33)), some (vi k), some (vi m), some (vi th), some (vi bh), none, none] [vi g0] S (d + 1) (fun r S' => r = (0, (0, 0)) ∧ (S0.f 31 1 ≤ S'.f 31 1 ∧ S'.f 31 1 ≤ S0.f 31 1 + 1144) ∧ (S0.f 34 1 ≤ S'.f 34 1 ∧ S'.f 34 1 ≤ S0.f 34 1 + 179) ∧ PL S' ∧ FA S' ∧ yI S' ∧ yFr [(31, 1), (33, 10), (33, 11), (33, 12), (33, 13), (33, 14), (33, 15), (34, 1), (36, 5)] [37, 100, 101, 102, 103, 105] S0 S' ∧ yRm [0, 1, 2, 3] S0 S') := by
  intro S hI hF hR e_PL e_FA m th bh g0 h_m h_th h_bh h_g0 q_0 q_1
  have h1 := hI.b0
  have h2 := hI.b1
  refine r_store (i := 37) (u := 5) (w := 0) (L1 := [some ((2, 33)), some (vi k), some (vi m), some (vi th), some (vi bh), some (vi g0), none]) rfl rfl rfl rfl ?_
  refine r_load (i := 38) (u := 0) (w := 2) rfl rfl rfl ?_
  refine r_load (i := 39) (u := 2) (w := 0) rfl rfl rfl ?_
  refine r_const (i := 40) (u := 16) (z := 16) rfl rfl ?_
  refine r_str (i := 41) (v := 14) rfl ?_
  have h3 := slv14
  refine r_load (i := 42) (u := 3) (w := 0) rfl rfl rfl ?_
  refine z_le (i := 43) (v := 46) rfl ⟨by omega, by omega⟩ (fun h4 => ?_) (fun h5 => ?_)
  · refine r_const (i := 46) (u := 1) (z := 1) rfl rfl ?_
    refine r_call (i := 47) (u := 8) (v := 156) (w := 0) (b := 0) (na := 1541) (C2 := xC156) (as := [(2, 33), vi m, vi 16, (6, 14), vi 1]) (s := []) rfl rfl rfl rfl rfl rfl rfl (sp156 (m := m) (mo := 16) (s := 14) (at0 := 1) hI ⟨by omega, by omega⟩ ⟨by omega, by omega⟩ ⟨by decide, by decide⟩ ⟨by omega, by omega⟩ (by omega) (by omega) e_PL (by omega)) (fun r6 S7 hq8 => ?_)
    obtain ⟨rfl, h9, h10, e11, hI12, hF13, hR14⟩ := hq8
    have hF15 := hF.trans hF13 rfl rfl
    have hR16 := hR.trans hR14 rfl
    have e17 := FAx.fr e_FA hF13 rfl rfl
    refine Or.inl ⟨rfl, ?_⟩
    refine r_load (i := 48) (u := 0) (w := 2) rfl rfl rfl ?_
    refine r_load (i := 49) (u := 5) (w := 0) rfl rfl rfl ?_
    refine z_eq (i := 50) (v := 55) rfl ⟨by omega, by omega⟩ (fun h18 => ?_) (fun h19 => ?_)
    · refine r_load (i := 55) (u := 4) (w := 0) rfl rfl rfl ?_
      have h20 := hI12.b0
      have h21 := hI12.b1
      refine r_call (i := 56) (u := 8) (v := 171) (w := 0) (b := 0) (na := 514) (C2 := xC171) (as := [(2, 33), vi bh]) (s := []) rfl rfl rfl rfl rfl rfl rfl (sp171 (lc := bh) hI12 ⟨by omega, by omega⟩ (by omega) (by omega) e11 (by omega)) (fun r22 S23 hq24 => ?_)
      obtain ⟨rfl, h25, h26, h27, e28, hI29, hF30, hR31⟩ := hq24
      have hF32 := hF15.trans hF30 rfl rfl
      have hR33 := hR16.trans hR31 rfl
      have e34 := FAx.fr e17 hF30 rfl rfl
      refine Or.inl ⟨rfl, ?_⟩
      refine r_load (i := 57) (u := 0) (w := 2) rfl rfl rfl ?_
      refine r_getf (i := 58) (v := 3) (w := 8) (x := (2, 22)) rfl ly33 rfl rfl fun _ => ?_
      refine r_getf (i := 59) (v := 1) (w := 4) (x := (2, 24)) rfl ly22 rfl rfl fun _ => ?_
      refine r_load (i := 60) (u := 1) (w := 0) rfl rfl rfl ?_
      refine a_int (i := 61) rfl ly24 rfl (by omega) (by omega) fun h37 => ?_
      have h38 := hI29.a ta24 k.toNat
      have h39 : S23.a 24 k.toNat = S7.a 24 k.toNat := hF30.a rfl _
      have h40 : S7.a 24 k.toNat = S.a 24 k.toNat := hF13.a rfl _
      have h41 : S.a 24 k.toNat = S0.a 24 k.toNat := hF.a rfl _
      rcases (show (S23.a 24 k.toNat) = 0 ∨ (S23.a 24 k.toNat) = 1 ∨ (S23.a 24 k.toNat) = 2 ∨ (S23.a 24 k.toNat) = 3 by omega) with h42 | h43 | h44 | h45
      · refine r_swK (i := 62) (u := 0) (v := 102) (k := 0) (t := 63) rfl rfl h42 (by decide) (by decide) rfl ?_
        refine r_load (i := 63) (u := 0) (w := 2) rfl rfl rfl ?_
        refine r_load (i := 64) (u := 1) (w := 0) rfl rfl rfl ?_
        refine r_load (i := 65) (u := 0) (w := 2) rfl rfl rfl ?_
        refine r_getf (i := 66) (v := 1) (w := 8) (x := (2, 9)) rfl ly33 rfl rfl fun _ => ?_
        refine r_getf (i := 67) (v := 4) (w := 2) (x := (2, 13)) rfl ly9 rfl rfl fun _ => ?_
        refine r_load (i := 68) (u := 2) (w := 0) rfl rfl rfl ?_
        refine a_int (i := 69) rfl ly13 rfl (by omega) (by omega) fun h48 => ?_
        have kp49 := hI29.k13 m.toNat
        have h50 : S23.a 13 m.toNat = S7.a 13 m.toNat := hF30.a rfl _
        have h51 : S7.a 13 m.toNat = S.a 13 m.toNat := hF13.a rfl _
        have h52 : S.a 13 m.toNat = S0.a 13 m.toNat := hF.a rfl _
        have h53 := hI29.b0
        have h54 := hI29.b1
        refine r_call (i := 70) (u := 8) (v := 142) (w := 0) (b := 0) (na := 2051) (C2 := xC142) (as := [(2, 33), vi k, vi (S23.a 13 m.toNat)]) (s := []) rfl rfl rfl rfl rfl rfl rfl (sp142 (k := k) (p := S23.a 13 m.toNat) hI29 ⟨by omega, by omega⟩ ⟨by omega, by omega⟩ (by omega) (by omega) e28 (by omega)) (fun r55 S56 hq57 => ?_)
        obtain ⟨rfl, h58, h59, e60, hI61, hF62, hR63⟩ := hq57
        have hF64 := hF32.trans hF62 rfl rfl
        have hR65 := hR33.trans hR63 rfl
        have e66 := FAx.fr e34 hF62 rfl rfl
        refine Or.inl ⟨rfl, ?_⟩
        refine r_load (i := 71) (u := 0) (w := 2) rfl rfl rfl ?_
        refine r_load (i := 72) (u := 0) (w := 2) rfl rfl rfl ?_
        refine r_getf (i := 73) (v := 1) (w := 8) (x := (2, 9)) rfl ly33 rfl rfl fun _ => ?_
        refine r_getf (i := 74) (v := 5) (w := 2) (x := (2, 14)) rfl ly9 rfl rfl fun _ => ?_
        refine r_load (i := 75) (u := 2) (w := 0) rfl rfl rfl ?_
        refine a_int (i := 76) rfl ly14 rfl (by omega) (by omega) fun h69 => ?_
        have h70 := hI61.a ta14 m.toNat
        have h71 : S56.a 14 m.toNat = S23.a 14 m.toNat := hF62.a rfl _
        have h72 : S23.a 14 m.toNat = S7.a 14 m.toNat := hF30.a rfl _
        have h73 : S7.a 14 m.toNat = S.a 14 m.toNat := hF13.a rfl _
        have h74 : S.a 14 m.toNat = S0.a 14 m.toNat := hF.a rfl _
        have h75 := hI61.b0
        have h76 := hI61.b1
        refine r_call (i := 77) (u := 8) (v := 172) (w := 0) (b := 0) (na := 1026) (C2 := xC172) (as := [(2, 33), vi (S56.a 14 m.toNat)]) (s := []) rfl rfl rfl rfl rfl rfl rfl (sp172 (k := S56.a 14 m.toNat) hI61 ⟨by omega, by omega⟩ (by omega) (by omega) e60 (by omega)) (fun r77 S78 hq79 => ?_)
        obtain ⟨rfl, h80, h81, e82, hI83, hF84, hR85⟩ := hq79
        have hF86 := hF64.trans hF84 rfl rfl
        have hR87 := hR65.trans hR85 rfl
        have e88 := FAx.fr e66 hF84 rfl rfl
        refine Or.inl ⟨rfl, ?_⟩
        refine r_goto (i := 78) (v := 116) rfl ?_
        have h89 : S78.f 33 12 = S56.f 33 12 := hF84.f rfl
        have h90 : S56.f 33 12 = S23.f 33 12 := hF62.f rfl
        have h91 := hI83.b1
        have h92 : S78.f 33 13 = S56.f 33 13 := hF84.f rfl
        have h93 : S56.f 33 13 = S23.f 33 13 := hF62.f rfl
        have h94 := hI83.b0
        exact lp166_116 h_k p_0 p_1 hd S78 hI83 hF86 hR87 e82 e88 m th bh g0 ⟨by omega, by omega⟩ ⟨by omega, by omega⟩ ⟨by omega, by omega⟩ ⟨by omega, by omega⟩ (by omega) (by omega) (by omega) 
      · refine r_swK (i := 62) (u := 0) (v := 102) (k := 1) (t := 79) rfl rfl h43 (by decide) (by decide) rfl ?_
        refine r_load (i := 79) (u := 0) (w := 2) rfl rfl rfl ?_
        refine r_load (i := 80) (u := 1) (w := 0) rfl rfl rfl ?_
        refine r_str (i := 81) (v := 31) rfl ?_
        have h95 := slv31
        have h96 := hI29.b0
        have h97 := hI29.b1
        refine r_call (i := 82) (u := 8) (v := 141) (w := 0) (b := 0) (na := 771) (C2 := xC141) (as := [(2, 33), vi k, (6, 31)]) (s := []) rfl rfl rfl rfl rfl rfl rfl (sp141 (k := k) (s := 31) hI29 ⟨by omega, by omega⟩ ⟨by decide, by decide⟩ (by omega) (by omega) e28 (by omega)) (fun r98 S99 hq100 => ?_)
        obtain ⟨rfl, h101, h102, e103, hI104, hF105, hR106⟩ := hq100
        have hF107 := hF32.trans hF105 rfl rfl
        have hR108 := hR33.trans hR106 rfl
        have e109 := FAx.fr e34 hF105 rfl rfl
        refine Or.inl ⟨rfl, ?_⟩
        refine r_load (i := 83) (u := 0) (w := 2) rfl rfl rfl ?_
        refine r_load (i := 84) (u := 0) (w := 2) rfl rfl rfl ?_
        refine r_getf (i := 85) (v := 1) (w := 8) (x := (2, 9)) rfl ly33 rfl rfl fun _ => ?_
        refine r_getf (i := 86) (v := 5) (w := 2) (x := (2, 14)) rfl ly9 rfl rfl fun _ => ?_
        refine r_load (i := 87) (u := 2) (w := 0) rfl rfl rfl ?_
        refine a_int (i := 88) rfl ly14 rfl (by omega) (by omega) fun h112 => ?_
        have h113 := hI104.a ta14 m.toNat
        have h114 : S99.a 14 m.toNat = S23.a 14 m.toNat := hF105.a rfl _
        have h115 : S23.a 14 m.toNat = S7.a 14 m.toNat := hF30.a rfl _
        have h116 : S7.a 14 m.toNat = S.a 14 m.toNat := hF13.a rfl _
        have h117 : S.a 14 m.toNat = S0.a 14 m.toNat := hF.a rfl _
        have h118 := hI104.b0
        have h119 := hI104.b1
        refine r_call (i := 89) (u := 8) (v := 172) (w := 0) (b := 0) (na := 1026) (C2 := xC172) (as := [(2, 33), vi (S99.a 14 m.toNat)]) (s := []) rfl rfl rfl rfl rfl rfl rfl (sp172 (k := S99.a 14 m.toNat) hI104 ⟨by omega, by omega⟩ (by omega) (by omega) e103 (by omega)) (fun r120 S121 hq122 => ?_)
        obtain ⟨rfl, h123, h124, e125, hI126, hF127, hR128⟩ := hq122
        have hF129 := hF107.trans hF127 rfl rfl
        have hR130 := hR108.trans hR128 rfl
        have e131 := FAx.fr e109 hF127 rfl rfl
        refine Or.inl ⟨rfl, ?_⟩
        refine r_goto (i := 90) (v := 116) rfl ?_
        have h132 : S121.f 33 12 = S99.f 33 12 := hF127.f rfl
        have h133 : S99.f 33 12 = S23.f 33 12 := hF105.f rfl
        have h134 := hI126.b1
        have h135 : S121.f 33 13 = S99.f 33 13 := hF127.f rfl
        have h136 : S99.f 33 13 = S23.f 33 13 := hF105.f rfl
        have h137 := hI126.b0
        exact lp166_116 h_k p_0 p_1 hd S121 hI126 hF129 hR130 e125 e131 m th bh g0 ⟨by omega, by omega⟩ ⟨by omega, by omega⟩ ⟨by omega, by omega⟩ ⟨by omega, by omega⟩ (by omega) (by omega) (by omega) 
      · refine r_swK (i := 62) (u := 0) (v := 102) (k := 2) (t := 91) rfl rfl h44 (by decide) (by decide) rfl ?_
        refine r_load (i := 91) (u := 0) (w := 2) rfl rfl rfl ?_
        refine r_load (i := 92) (u := 2) (w := 0) rfl rfl rfl ?_
        have h138 := hI29.b0
        have h139 := hI29.b1
        refine r_call (i := 93) (u := 8) (v := 145) (w := 0) (b := 0) (na := 770) (C2 := xC145) (as := [(2, 33), vi m]) (s := []) rfl rfl rfl rfl rfl rfl rfl (sp145 (m := m) hI29 ⟨by omega, by omega⟩ (by omega) (by omega) e28 e34 (by omega)) (fun r140 S141 hq142 => ?_)
        obtain ⟨rfl, h143, h144, e145, e146, hI147, hF148, hR149⟩ := hq142
        have hF150 := hF32.trans hF148 rfl rfl
        have hR151 := hR33.trans hR149 rfl
        refine Or.inl ⟨rfl, ?_⟩
        refine r_load (i := 94) (u := 0) (w := 2) rfl rfl rfl ?_
        refine r_load (i := 95) (u := 0) (w := 2) rfl rfl rfl ?_
        refine r_getf (i := 96) (v := 1) (w := 8) (x := (2, 9)) rfl ly33 rfl rfl fun _ => ?_
        refine r_getf (i := 97) (v := 5) (w := 2) (x := (2, 14)) rfl ly9 rfl rfl fun _ => ?_
        refine r_load (i := 98) (u := 2) (w := 0) rfl rfl rfl ?_
        refine a_int (i := 99) rfl ly14 rfl (by omega) (by omega) fun h154 => ?_
        have h155 := hI147.a ta14 m.toNat
        have h156 : S141.a 14 m.toNat = S23.a 14 m.toNat := hF148.a rfl _
        have h157 : S23.a 14 m.toNat = S7.a 14 m.toNat := hF30.a rfl _
        have h158 : S7.a 14 m.toNat = S.a 14 m.toNat := hF13.a rfl _
        have h159 : S.a 14 m.toNat = S0.a 14 m.toNat := hF.a rfl _
        have h160 := hI147.b1
        refine r_call (i := 100) (u := 8) (v := 157) (w := 0) (b := 0) (na := 770) (C2 := xC157) (as := [(2, 33), vi (S141.a 14 m.toNat)]) (s := []) rfl rfl rfl rfl rfl rfl rfl (sp157 (k := S141.a 14 m.toNat) hI147 ⟨by omega, by omega⟩ (by omega)  (by omega)) (fun r161 S162 hq163 => ?_)
        obtain ⟨rfl, h164, hI165, hF166, hR167⟩ := hq163
        have hF168 := hF150.trans hF166 rfl rfl
        have hR169 := hR151.trans hR167 rfl
        have e170 := PLx.fr e145 hF166 hR167 rfl rfl rfl
        have e171 := FAx.fr e146 hF166 rfl rfl
        have e172 := PTx.fr e145 hF166 hR167 rfl rfl rfl
        refine Or.inl ⟨rfl, ?_⟩
        refine r_goto (i := 101) (v := 116) rfl ?_
        have h173 : S162.f 33 12 = S141.f 33 12 := hF166.f rfl
        have h174 : S141.f 33 12 = S23.f 33 12 := hF148.f rfl
        have h175 := hI165.b1
        have h176 : S162.f 33 13 = S141.f 33 13 := hF166.f rfl
        have h177 : S141.f 33 13 = S23.f 33 13 := hF148.f rfl
        have h178 := hI165.b0
        have h179 : S162.f 31 1 = S141.f 31 1 := hF166.f rfl
        exact lp166_116 h_k p_0 p_1 hd S162 hI165 hF168 hR169 e170 e171 m th bh g0 ⟨by omega, by omega⟩ ⟨by omega, by omega⟩ ⟨by omega, by omega⟩ ⟨by omega, by omega⟩ (by omega) (by omega) (by omega) 
      · refine r_swK (i := 62) (u := 0) (v := 102) (k := 3) (t := 102) rfl rfl h45 (by decide) (by decide) rfl ?_
        refine r_load (i := 102) (u := 0) (w := 2) rfl rfl rfl ?_
        refine r_load (i := 103) (u := 1) (w := 0) rfl rfl rfl ?_
        refine r_str (i := 104) (v := 33) rfl ?_
        have h180 := slv33
        have h181 := hI29.b0
        have h182 := hI29.b1
        refine r_call (i := 105) (u := 8) (v := 141) (w := 0) (b := 0) (na := 771) (C2 := xC141) (as := [(2, 33), vi k, (6, 33)]) (s := []) rfl rfl rfl rfl rfl rfl rfl (sp141 (k := k) (s := 33) hI29 ⟨by omega, by omega⟩ ⟨by decide, by decide⟩ (by omega) (by omega) e28 (by omega)) (fun r183 S184 hq185 => ?_)
        obtain ⟨rfl, h186, h187, e188, hI189, hF190, hR191⟩ := hq185
        have hF192 := hF32.trans hF190 rfl rfl
        have hR193 := hR33.trans hR191 rfl
        have e194 := FAx.fr e34 hF190 rfl rfl
        refine Or.inl ⟨rfl, ?_⟩
        refine r_load (i := 106) (u := 0) (w := 2) rfl rfl rfl ?_
        refine r_load (i := 107) (u := 2) (w := 0) rfl rfl rfl ?_
        have h195 := hI189.b0
        have h196 := hI189.b1
        refine r_call (i := 108) (u := 8) (v := 144) (w := 0) (b := 0) (na := 770) (C2 := xC144) (as := [(2, 33), vi m]) (s := []) rfl rfl rfl rfl rfl rfl rfl (sp144 (m := m) hI189 ⟨by omega, by omega⟩ (by omega) (by omega) e188 (by omega)) (fun r197 S198 hq199 => ?_)
        obtain ⟨rfl, h200, h201, e202, hI203, hF204, hR205⟩ := hq199
        have hF206 := hF192.trans hF204 rfl rfl
        have hR207 := hR193.trans hR205 rfl
        have e208 := FAx.fr e194 hF204 rfl rfl
        refine Or.inl ⟨rfl, ?_⟩
        refine r_load (i := 109) (u := 0) (w := 2) rfl rfl rfl ?_
        refine r_load (i := 110) (u := 0) (w := 2) rfl rfl rfl ?_
        refine r_getf (i := 111) (v := 1) (w := 8) (x := (2, 9)) rfl ly33 rfl rfl fun _ => ?_
        refine r_getf (i := 112) (v := 5) (w := 2) (x := (2, 14)) rfl ly9 rfl rfl fun _ => ?_
        refine r_load (i := 113) (u := 2) (w := 0) rfl rfl rfl ?_
        refine a_int (i := 114) rfl ly14 rfl (by omega) (by omega) fun h211 => ?_
        have h212 := hI203.a ta14 m.toNat
        have h213 : S198.a 14 m.toNat = S184.a 14 m.toNat := hF204.a rfl _
        have h214 : S184.a 14 m.toNat = S23.a 14 m.toNat := hF190.a rfl _
        have h215 : S23.a 14 m.toNat = S7.a 14 m.toNat := hF30.a rfl _
        have h216 : S7.a 14 m.toNat = S.a 14 m.toNat := hF13.a rfl _
        have h217 : S.a 14 m.toNat = S0.a 14 m.toNat := hF.a rfl _
        have h218 := hI203.b1
        refine r_call (i := 115) (u := 8) (v := 157) (w := 0) (b := 0) (na := 770) (C2 := xC157) (as := [(2, 33), vi (S198.a 14 m.toNat)]) (s := []) rfl rfl rfl rfl rfl rfl rfl (sp157 (k := S198.a 14 m.toNat) hI203 ⟨by omega, by omega⟩ (by omega)  (by omega)) (fun r219 S220 hq221 => ?_)
        obtain ⟨rfl, h222, hI223, hF224, hR225⟩ := hq221
        have hF226 := hF206.trans hF224 rfl rfl
        have hR227 := hR207.trans hR225 rfl
        have e228 := FAx.fr e208 hF224 rfl rfl
        have e229 := PLx.fr e202 hF224 hR225 rfl rfl rfl
        have e230 := PTx.fr e202 hF224 hR225 rfl rfl rfl
        refine Or.inl ⟨rfl, ?_⟩
        have h231 : S220.f 33 12 = S198.f 33 12 := hF224.f rfl
        have h232 : S198.f 33 12 = S184.f 33 12 := hF204.f rfl
        have h233 : S184.f 33 12 = S23.f 33 12 := hF190.f rfl
        have h234 := hI223.b1
        have h235 : S220.f 33 13 = S198.f 33 13 := hF224.f rfl
        have h236 : S198.f 33 13 = S184.f 33 13 := hF204.f rfl
        have h237 : S184.f 33 13 = S23.f 33 13 := hF190.f rfl
        have h238 := hI223.b0
        have h239 : S220.f 31 1 = S198.f 31 1 := hF224.f rfl
        exact lp166_116 h_k p_0 p_1 hd S220 hI223 hF226 hR227 e229 e228 m th bh g0 ⟨by omega, by omega⟩ ⟨by omega, by omega⟩ ⟨by omega, by omega⟩ ⟨by omega, by omega⟩ (by omega) (by omega) (by omega) 
    · refine r_load (i := 51) (u := 4) (w := 0) rfl rfl rfl ?_
      refine r_const (i := 52) (u := 1) (z := 1) rfl rfl ?_
      refine r_iadd (i := 53) rfl ?_
      refine r_goto (i := 54) (v := 56) rfl ?_
      have h240 := hI12.b0
      have h241 := hI12.b1
      refine r_call (i := 56) (u := 8) (v := 171) (w := 0) (b := 0) (na := 514) (C2 := xC171) (as := [(2, 33), vi (bh + 1)]) (s := []) rfl rfl rfl rfl rfl rfl rfl (sp171 (lc := bh + 1) hI12 ⟨by omega, by omega⟩ (by omega) (by omega) e11 (by omega)) (fun r242 S243 hq244 => ?_)
      obtain ⟨rfl, h245, h246, h247, e248, hI249, hF250, hR251⟩ := hq244
      have hF252 := hF15.trans hF250 rfl rfl
      have hR253 := hR16.trans hR251 rfl
      have e254 := FAx.fr e17 hF250 rfl rfl
      refine Or.inl ⟨rfl, ?_⟩
      refine r_load (i := 57) (u := 0) (w := 2) rfl rfl rfl ?_
      refine r_getf (i := 58) (v := 3) (w := 8) (x := (2, 22)) rfl ly33 rfl rfl fun _ => ?_
      refine r_getf (i := 59) (v := 1) (w := 4) (x := (2, 24)) rfl ly22 rfl rfl fun _ => ?_
      refine r_load (i := 60) (u := 1) (w := 0) rfl rfl rfl ?_
      refine a_int (i := 61) rfl ly24 rfl (by omega) (by omega) fun h257 => ?_
      have h258 := hI249.a ta24 k.toNat
      have h259 : S243.a 24 k.toNat = S7.a 24 k.toNat := hF250.a rfl _
      have h260 : S7.a 24 k.toNat = S.a 24 k.toNat := hF13.a rfl _
      have h261 : S.a 24 k.toNat = S0.a 24 k.toNat := hF.a rfl _
      rcases (show (S243.a 24 k.toNat) = 0 ∨ (S243.a 24 k.toNat) = 1 ∨ (S243.a 24 k.toNat) = 2 ∨ (S243.a 24 k.toNat) = 3 by omega) with h262 | h263 | h264 | h265
      · refine r_swK (i := 62) (u := 0) (v := 102) (k := 0) (t := 63) rfl rfl h262 (by decide) (by decide) rfl ?_
        refine r_load (i := 63) (u := 0) (w := 2) rfl rfl rfl ?_
        refine r_load (i := 64) (u := 1) (w := 0) rfl rfl rfl ?_
        refine r_load (i := 65) (u := 0) (w := 2) rfl rfl rfl ?_
        refine r_getf (i := 66) (v := 1) (w := 8) (x := (2, 9)) rfl ly33 rfl rfl fun _ => ?_
        refine r_getf (i := 67) (v := 4) (w := 2) (x := (2, 13)) rfl ly9 rfl rfl fun _ => ?_
        refine r_load (i := 68) (u := 2) (w := 0) rfl rfl rfl ?_
        refine a_int (i := 69) rfl ly13 rfl (by omega) (by omega) fun h268 => ?_
        have kp269 := hI249.k13 m.toNat
        have h270 : S243.a 13 m.toNat = S7.a 13 m.toNat := hF250.a rfl _
        have h271 : S7.a 13 m.toNat = S.a 13 m.toNat := hF13.a rfl _
        have h272 : S.a 13 m.toNat = S0.a 13 m.toNat := hF.a rfl _
        have h273 := hI249.b0
        have h274 := hI249.b1
        refine r_call (i := 70) (u := 8) (v := 142) (w := 0) (b := 0) (na := 2051) (C2 := xC142) (as := [(2, 33), vi k, vi (S243.a 13 m.toNat)]) (s := []) rfl rfl rfl rfl rfl rfl rfl (sp142 (k := k) (p := S243.a 13 m.toNat) hI249 ⟨by omega, by omega⟩ ⟨by omega, by omega⟩ (by omega) (by omega) e248 (by omega)) (fun r275 S276 hq277 => ?_)
        obtain ⟨rfl, h278, h279, e280, hI281, hF282, hR283⟩ := hq277
        have hF284 := hF252.trans hF282 rfl rfl
        have hR285 := hR253.trans hR283 rfl
        have e286 := FAx.fr e254 hF282 rfl rfl
        refine Or.inl ⟨rfl, ?_⟩
        refine r_load (i := 71) (u := 0) (w := 2) rfl rfl rfl ?_
        refine r_load (i := 72) (u := 0) (w := 2) rfl rfl rfl ?_
        refine r_getf (i := 73) (v := 1) (w := 8) (x := (2, 9)) rfl ly33 rfl rfl fun _ => ?_
        refine r_getf (i := 74) (v := 5) (w := 2) (x := (2, 14)) rfl ly9 rfl rfl fun _ => ?_
        refine r_load (i := 75) (u := 2) (w := 0) rfl rfl rfl ?_
        refine a_int (i := 76) rfl ly14 rfl (by omega) (by omega) fun h289 => ?_
        have h290 := hI281.a ta14 m.toNat
        have h291 : S276.a 14 m.toNat = S243.a 14 m.toNat := hF282.a rfl _
        have h292 : S243.a 14 m.toNat = S7.a 14 m.toNat := hF250.a rfl _
        have h293 : S7.a 14 m.toNat = S.a 14 m.toNat := hF13.a rfl _
        have h294 : S.a 14 m.toNat = S0.a 14 m.toNat := hF.a rfl _
        have h295 := hI281.b0
        have h296 := hI281.b1
        refine r_call (i := 77) (u := 8) (v := 172) (w := 0) (b := 0) (na := 1026) (C2 := xC172) (as := [(2, 33), vi (S276.a 14 m.toNat)]) (s := []) rfl rfl rfl rfl rfl rfl rfl (sp172 (k := S276.a 14 m.toNat) hI281 ⟨by omega, by omega⟩ (by omega) (by omega) e280 (by omega)) (fun r297 S298 hq299 => ?_)
        obtain ⟨rfl, h300, h301, e302, hI303, hF304, hR305⟩ := hq299
        have hF306 := hF284.trans hF304 rfl rfl
        have hR307 := hR285.trans hR305 rfl
        have e308 := FAx.fr e286 hF304 rfl rfl
        refine Or.inl ⟨rfl, ?_⟩
        refine r_goto (i := 78) (v := 116) rfl ?_
        have h309 : S298.f 33 12 = S276.f 33 12 := hF304.f rfl
        have h310 : S276.f 33 12 = S243.f 33 12 := hF282.f rfl
        have h311 := hI303.b1
        have h312 : S298.f 33 13 = S276.f 33 13 := hF304.f rfl
        have h313 : S276.f 33 13 = S243.f 33 13 := hF282.f rfl
        have h314 := hI303.b0
        exact lp166_116 h_k p_0 p_1 hd S298 hI303 hF306 hR307 e302 e308 m th bh g0 ⟨by omega, by omega⟩ ⟨by omega, by omega⟩ ⟨by omega, by omega⟩ ⟨by omega, by omega⟩ (by omega) (by omega) (by omega) 
      · refine r_swK (i := 62) (u := 0) (v := 102) (k := 1) (t := 79) rfl rfl h263 (by decide) (by decide) rfl ?_
        refine r_load (i := 79) (u := 0) (w := 2) rfl rfl rfl ?_
        refine r_load (i := 80) (u := 1) (w := 0) rfl rfl rfl ?_
        refine r_str (i := 81) (v := 31) rfl ?_
        have h315 := slv31
        have h316 := hI249.b0
        have h317 := hI249.b1
        refine r_call (i := 82) (u := 8) (v := 141) (w := 0) (b := 0) (na := 771) (C2 := xC141) (as := [(2, 33), vi k, (6, 31)]) (s := []) rfl rfl rfl rfl rfl rfl rfl (sp141 (k := k) (s := 31) hI249 ⟨by omega, by omega⟩ ⟨by decide, by decide⟩ (by omega) (by omega) e248 (by omega)) (fun r318 S319 hq320 => ?_)
        obtain ⟨rfl, h321, h322, e323, hI324, hF325, hR326⟩ := hq320
        have hF327 := hF252.trans hF325 rfl rfl
        have hR328 := hR253.trans hR326 rfl
        have e329 := FAx.fr e254 hF325 rfl rfl
        refine Or.inl ⟨rfl, ?_⟩
        refine r_load (i := 83) (u := 0) (w := 2) rfl rfl rfl ?_
        refine r_load (i := 84) (u := 0) (w := 2) rfl rfl rfl ?_
        refine r_getf (i := 85) (v := 1) (w := 8) (x := (2, 9)) rfl ly33 rfl rfl fun _ => ?_
        refine r_getf (i := 86) (v := 5) (w := 2) (x := (2, 14)) rfl ly9 rfl rfl fun _ => ?_
        refine r_load (i := 87) (u := 2) (w := 0) rfl rfl rfl ?_
        refine a_int (i := 88) rfl ly14 rfl (by omega) (by omega) fun h332 => ?_
        have h333 := hI324.a ta14 m.toNat
        have h334 : S319.a 14 m.toNat = S243.a 14 m.toNat := hF325.a rfl _
        have h335 : S243.a 14 m.toNat = S7.a 14 m.toNat := hF250.a rfl _
        have h336 : S7.a 14 m.toNat = S.a 14 m.toNat := hF13.a rfl _
        have h337 : S.a 14 m.toNat = S0.a 14 m.toNat := hF.a rfl _
        have h338 := hI324.b0
        have h339 := hI324.b1
        refine r_call (i := 89) (u := 8) (v := 172) (w := 0) (b := 0) (na := 1026) (C2 := xC172) (as := [(2, 33), vi (S319.a 14 m.toNat)]) (s := []) rfl rfl rfl rfl rfl rfl rfl (sp172 (k := S319.a 14 m.toNat) hI324 ⟨by omega, by omega⟩ (by omega) (by omega) e323 (by omega)) (fun r340 S341 hq342 => ?_)
        obtain ⟨rfl, h343, h344, e345, hI346, hF347, hR348⟩ := hq342
        have hF349 := hF327.trans hF347 rfl rfl
        have hR350 := hR328.trans hR348 rfl
        have e351 := FAx.fr e329 hF347 rfl rfl
        refine Or.inl ⟨rfl, ?_⟩
        refine r_goto (i := 90) (v := 116) rfl ?_
        have h352 : S341.f 33 12 = S319.f 33 12 := hF347.f rfl
        have h353 : S319.f 33 12 = S243.f 33 12 := hF325.f rfl
        have h354 := hI346.b1
        have h355 : S341.f 33 13 = S319.f 33 13 := hF347.f rfl
        have h356 : S319.f 33 13 = S243.f 33 13 := hF325.f rfl
        have h357 := hI346.b0
        exact lp166_116 h_k p_0 p_1 hd S341 hI346 hF349 hR350 e345 e351 m th bh g0 ⟨by omega, by omega⟩ ⟨by omega, by omega⟩ ⟨by omega, by omega⟩ ⟨by omega, by omega⟩ (by omega) (by omega) (by omega) 
      · refine r_swK (i := 62) (u := 0) (v := 102) (k := 2) (t := 91) rfl rfl h264 (by decide) (by decide) rfl ?_
        refine r_load (i := 91) (u := 0) (w := 2) rfl rfl rfl ?_
        refine r_load (i := 92) (u := 2) (w := 0) rfl rfl rfl ?_
        have h358 := hI249.b0
        have h359 := hI249.b1
        refine r_call (i := 93) (u := 8) (v := 145) (w := 0) (b := 0) (na := 770) (C2 := xC145) (as := [(2, 33), vi m]) (s := []) rfl rfl rfl rfl rfl rfl rfl (sp145 (m := m) hI249 ⟨by omega, by omega⟩ (by omega) (by omega) e248 e254 (by omega)) (fun r360 S361 hq362 => ?_)
        obtain ⟨rfl, h363, h364, e365, e366, hI367, hF368, hR369⟩ := hq362
        have hF370 := hF252.trans hF368 rfl rfl
        have hR371 := hR253.trans hR369 rfl
        refine Or.inl ⟨rfl, ?_⟩
        refine r_load (i := 94) (u := 0) (w := 2) rfl rfl rfl ?_
        refine r_load (i := 95) (u := 0) (w := 2) rfl rfl rfl ?_
        refine r_getf (i := 96) (v := 1) (w := 8) (x := (2, 9)) rfl ly33 rfl rfl fun _ => ?_
        refine r_getf (i := 97) (v := 5) (w := 2) (x := (2, 14)) rfl ly9 rfl rfl fun _ => ?_
        refine r_load (i := 98) (u := 2) (w := 0) rfl rfl rfl ?_
        refine a_int (i := 99) rfl ly14 rfl (by omega) (by omega) fun h374 => ?_
        have h375 := hI367.a ta14 m.toNat
        have h376 : S361.a 14 m.toNat = S243.a 14 m.toNat := hF368.a rfl _
        have h377 : S243.a 14 m.toNat = S7.a 14 m.toNat := hF250.a rfl _
        have h378 : S7.a 14 m.toNat = S.a 14 m.toNat := hF13.a rfl _
        have h379 : S.a 14 m.toNat = S0.a 14 m.toNat := hF.a rfl _
        have h380 := hI367.b1
        refine r_call (i := 100) (u := 8) (v := 157) (w := 0) (b := 0) (na := 770) (C2 := xC157) (as := [(2, 33), vi (S361.a 14 m.toNat)]) (s := []) rfl rfl rfl rfl rfl rfl rfl (sp157 (k := S361.a 14 m.toNat) hI367 ⟨by omega, by omega⟩ (by omega)  (by omega)) (fun r381 S382 hq383 => ?_)
        obtain ⟨rfl, h384, hI385, hF386, hR387⟩ := hq383
        have hF388 := hF370.trans hF386 rfl rfl
        have hR389 := hR371.trans hR387 rfl
        have e390 := PLx.fr e365 hF386 hR387 rfl rfl rfl
        have e391 := FAx.fr e366 hF386 rfl rfl
        have e392 := PTx.fr e365 hF386 hR387 rfl rfl rfl
        refine Or.inl ⟨rfl, ?_⟩
        refine r_goto (i := 101) (v := 116) rfl ?_
        have h393 : S382.f 33 12 = S361.f 33 12 := hF386.f rfl
        have h394 : S361.f 33 12 = S243.f 33 12 := hF368.f rfl
        have h395 := hI385.b1
        have h396 : S382.f 33 13 = S361.f 33 13 := hF386.f rfl
        have h397 : S361.f 33 13 = S243.f 33 13 := hF368.f rfl
        have h398 := hI385.b0
        have h399 : S382.f 31 1 = S361.f 31 1 := hF386.f rfl
        exact lp166_116 h_k p_0 p_1 hd S382 hI385 hF388 hR389 e390 e391 m th bh g0 ⟨by omega, by omega⟩ ⟨by omega, by omega⟩ ⟨by omega, by omega⟩ ⟨by omega, by omega⟩ (by omega) (by omega) (by omega) 
      · refine r_swK (i := 62) (u := 0) (v := 102) (k := 3) (t := 102) rfl rfl h265 (by decide) (by decide) rfl ?_
        refine r_load (i := 102) (u := 0) (w := 2) rfl rfl rfl ?_
        refine r_load (i := 103) (u := 1) (w := 0) rfl rfl rfl ?_
        refine r_str (i := 104) (v := 33) rfl ?_
        have h400 := slv33
        have h401 := hI249.b0
        have h402 := hI249.b1
        refine r_call (i := 105) (u := 8) (v := 141) (w := 0) (b := 0) (na := 771) (C2 := xC141) (as := [(2, 33), vi k, (6, 33)]) (s := []) rfl rfl rfl rfl rfl rfl rfl (sp141 (k := k) (s := 33) hI249 ⟨by omega, by omega⟩ ⟨by decide, by decide⟩ (by omega) (by omega) e248 (by omega)) (fun r403 S404 hq405 => ?_)
        obtain ⟨rfl, h406, h407, e408, hI409, hF410, hR411⟩ := hq405
        have hF412 := hF252.trans hF410 rfl rfl
        have hR413 := hR253.trans hR411 rfl
        have e414 := FAx.fr e254 hF410 rfl rfl
        refine Or.inl ⟨rfl, ?_⟩
        refine r_load (i := 106) (u := 0) (w := 2) rfl rfl rfl ?_
        refine r_load (i := 107) (u := 2) (w := 0) rfl rfl rfl ?_
        have h415 := hI409.b0
        have h416 := hI409.b1
        refine r_call (i := 108) (u := 8) (v := 144) (w := 0) (b := 0) (na := 770) (C2 := xC144) (as := [(2, 33), vi m]) (s := []) rfl rfl rfl rfl rfl rfl rfl (sp144 (m := m) hI409 ⟨by omega, by omega⟩ (by omega) (by omega) e408 (by omega)) (fun r417 S418 hq419 => ?_)
        obtain ⟨rfl, h420, h421, e422, hI423, hF424, hR425⟩ := hq419
        have hF426 := hF412.trans hF424 rfl rfl
        have hR427 := hR413.trans hR425 rfl
        have e428 := FAx.fr e414 hF424 rfl rfl
        refine Or.inl ⟨rfl, ?_⟩
        refine r_load (i := 109) (u := 0) (w := 2) rfl rfl rfl ?_
        refine r_load (i := 110) (u := 0) (w := 2) rfl rfl rfl ?_
        refine r_getf (i := 111) (v := 1) (w := 8) (x := (2, 9)) rfl ly33 rfl rfl fun _ => ?_
        refine r_getf (i := 112) (v := 5) (w := 2) (x := (2, 14)) rfl ly9 rfl rfl fun _ => ?_
        refine r_load (i := 113) (u := 2) (w := 0) rfl rfl rfl ?_
        refine a_int (i := 114) rfl ly14 rfl (by omega) (by omega) fun h431 => ?_
        have h432 := hI423.a ta14 m.toNat
        have h433 : S418.a 14 m.toNat = S404.a 14 m.toNat := hF424.a rfl _
        have h434 : S404.a 14 m.toNat = S243.a 14 m.toNat := hF410.a rfl _
        have h435 : S243.a 14 m.toNat = S7.a 14 m.toNat := hF250.a rfl _
        have h436 : S7.a 14 m.toNat = S.a 14 m.toNat := hF13.a rfl _
        have h437 : S.a 14 m.toNat = S0.a 14 m.toNat := hF.a rfl _
        have h438 := hI423.b1
        refine r_call (i := 115) (u := 8) (v := 157) (w := 0) (b := 0) (na := 770) (C2 := xC157) (as := [(2, 33), vi (S418.a 14 m.toNat)]) (s := []) rfl rfl rfl rfl rfl rfl rfl (sp157 (k := S418.a 14 m.toNat) hI423 ⟨by omega, by omega⟩ (by omega)  (by omega)) (fun r439 S440 hq441 => ?_)
        obtain ⟨rfl, h442, hI443, hF444, hR445⟩ := hq441
        have hF446 := hF426.trans hF444 rfl rfl
        have hR447 := hR427.trans hR445 rfl
        have e448 := FAx.fr e428 hF444 rfl rfl
        have e449 := PLx.fr e422 hF444 hR445 rfl rfl rfl
        have e450 := PTx.fr e422 hF444 hR445 rfl rfl rfl
        refine Or.inl ⟨rfl, ?_⟩
        have h451 : S440.f 33 12 = S418.f 33 12 := hF444.f rfl
        have h452 : S418.f 33 12 = S404.f 33 12 := hF424.f rfl
        have h453 : S404.f 33 12 = S243.f 33 12 := hF410.f rfl
        have h454 := hI443.b1
        have h455 : S440.f 33 13 = S418.f 33 13 := hF444.f rfl
        have h456 : S418.f 33 13 = S404.f 33 13 := hF424.f rfl
        have h457 : S404.f 33 13 = S243.f 33 13 := hF410.f rfl
        have h458 := hI443.b0
        have h459 : S440.f 31 1 = S418.f 31 1 := hF444.f rfl
        exact lp166_116 h_k p_0 p_1 hd S440 hI443 hF446 hR447 e449 e448 m th bh g0 ⟨by omega, by omega⟩ ⟨by omega, by omega⟩ ⟨by omega, by omega⟩ ⟨by omega, by omega⟩ (by omega) (by omega) (by omega) 
  · refine r_const (i := 44) (u := 2) (z := 2) rfl rfl ?_
    refine r_goto (i := 45) (v := 47) rfl ?_
    refine r_call (i := 47) (u := 8) (v := 156) (w := 0) (b := 0) (na := 1541) (C2 := xC156) (as := [(2, 33), vi m, vi 16, (6, 14), vi 2]) (s := []) rfl rfl rfl rfl rfl rfl rfl (sp156 (m := m) (mo := 16) (s := 14) (at0 := 2) hI ⟨by omega, by omega⟩ ⟨by omega, by omega⟩ ⟨by decide, by decide⟩ ⟨by omega, by omega⟩ (by omega) (by omega) e_PL (by omega)) (fun r460 S461 hq462 => ?_)
    obtain ⟨rfl, h463, h464, e465, hI466, hF467, hR468⟩ := hq462
    have hF469 := hF.trans hF467 rfl rfl
    have hR470 := hR.trans hR468 rfl
    have e471 := FAx.fr e_FA hF467 rfl rfl
    refine Or.inl ⟨rfl, ?_⟩
    refine r_load (i := 48) (u := 0) (w := 2) rfl rfl rfl ?_
    refine r_load (i := 49) (u := 5) (w := 0) rfl rfl rfl ?_
    refine z_eq (i := 50) (v := 55) rfl ⟨by omega, by omega⟩ (fun h472 => ?_) (fun h473 => ?_)
    · refine r_load (i := 55) (u := 4) (w := 0) rfl rfl rfl ?_
      have h474 := hI466.b0
      have h475 := hI466.b1
      refine r_call (i := 56) (u := 8) (v := 171) (w := 0) (b := 0) (na := 514) (C2 := xC171) (as := [(2, 33), vi bh]) (s := []) rfl rfl rfl rfl rfl rfl rfl (sp171 (lc := bh) hI466 ⟨by omega, by omega⟩ (by omega) (by omega) e465 (by omega)) (fun r476 S477 hq478 => ?_)
      obtain ⟨rfl, h479, h480, h481, e482, hI483, hF484, hR485⟩ := hq478
      have hF486 := hF469.trans hF484 rfl rfl
      have hR487 := hR470.trans hR485 rfl
      have e488 := FAx.fr e471 hF484 rfl rfl
      refine Or.inl ⟨rfl, ?_⟩
      refine r_load (i := 57) (u := 0) (w := 2) rfl rfl rfl ?_
      refine r_getf (i := 58) (v := 3) (w := 8) (x := (2, 22)) rfl ly33 rfl rfl fun _ => ?_
      refine r_getf (i := 59) (v := 1) (w := 4) (x := (2, 24)) rfl ly22 rfl rfl fun _ => ?_
      refine r_load (i := 60) (u := 1) (w := 0) rfl rfl rfl ?_
      refine a_int (i := 61) rfl ly24 rfl (by omega) (by omega) fun h491 => ?_
      have h492 := hI483.a ta24 k.toNat
      have h493 : S477.a 24 k.toNat = S461.a 24 k.toNat := hF484.a rfl _
      have h494 : S461.a 24 k.toNat = S.a 24 k.toNat := hF467.a rfl _
      have h495 : S.a 24 k.toNat = S0.a 24 k.toNat := hF.a rfl _
      rcases (show (S477.a 24 k.toNat) = 0 ∨ (S477.a 24 k.toNat) = 1 ∨ (S477.a 24 k.toNat) = 2 ∨ (S477.a 24 k.toNat) = 3 by omega) with h496 | h497 | h498 | h499
      · refine r_swK (i := 62) (u := 0) (v := 102) (k := 0) (t := 63) rfl rfl h496 (by decide) (by decide) rfl ?_
        refine r_load (i := 63) (u := 0) (w := 2) rfl rfl rfl ?_
        refine r_load (i := 64) (u := 1) (w := 0) rfl rfl rfl ?_
        refine r_load (i := 65) (u := 0) (w := 2) rfl rfl rfl ?_
        refine r_getf (i := 66) (v := 1) (w := 8) (x := (2, 9)) rfl ly33 rfl rfl fun _ => ?_
        refine r_getf (i := 67) (v := 4) (w := 2) (x := (2, 13)) rfl ly9 rfl rfl fun _ => ?_
        refine r_load (i := 68) (u := 2) (w := 0) rfl rfl rfl ?_
        refine a_int (i := 69) rfl ly13 rfl (by omega) (by omega) fun h502 => ?_
        have kp503 := hI483.k13 m.toNat
        have h504 : S477.a 13 m.toNat = S461.a 13 m.toNat := hF484.a rfl _
        have h505 : S461.a 13 m.toNat = S.a 13 m.toNat := hF467.a rfl _
        have h506 : S.a 13 m.toNat = S0.a 13 m.toNat := hF.a rfl _
        have h507 := hI483.b0
        have h508 := hI483.b1
        refine r_call (i := 70) (u := 8) (v := 142) (w := 0) (b := 0) (na := 2051) (C2 := xC142) (as := [(2, 33), vi k, vi (S477.a 13 m.toNat)]) (s := []) rfl rfl rfl rfl rfl rfl rfl (sp142 (k := k) (p := S477.a 13 m.toNat) hI483 ⟨by omega, by omega⟩ ⟨by omega, by omega⟩ (by omega) (by omega) e482 (by omega)) (fun r509 S510 hq511 => ?_)
        obtain ⟨rfl, h512, h513, e514, hI515, hF516, hR517⟩ := hq511
        have hF518 := hF486.trans hF516 rfl rfl
        have hR519 := hR487.trans hR517 rfl
        have e520 := FAx.fr e488 hF516 rfl rfl
        refine Or.inl ⟨rfl, ?_⟩
        refine r_load (i := 71) (u := 0) (w := 2) rfl rfl rfl ?_
        refine r_load (i := 72) (u := 0) (w := 2) rfl rfl rfl ?_
        refine r_getf (i := 73) (v := 1) (w := 8) (x := (2, 9)) rfl ly33 rfl rfl fun _ => ?_
        refine r_getf (i := 74) (v := 5) (w := 2) (x := (2, 14)) rfl ly9 rfl rfl fun _ => ?_
        refine r_load (i := 75) (u := 2) (w := 0) rfl rfl rfl ?_
        refine a_int (i := 76) rfl ly14 rfl (by omega) (by omega) fun h523 => ?_
        have h524 := hI515.a ta14 m.toNat
        have h525 : S510.a 14 m.toNat = S477.a 14 m.toNat := hF516.a rfl _
        have h526 : S477.a 14 m.toNat = S461.a 14 m.toNat := hF484.a rfl _
        have h527 : S461.a 14 m.toNat = S.a 14 m.toNat := hF467.a rfl _
        have h528 : S.a 14 m.toNat = S0.a 14 m.toNat := hF.a rfl _
        have h529 := hI515.b0
        have h530 := hI515.b1
        refine r_call (i := 77) (u := 8) (v := 172) (w := 0) (b := 0) (na := 1026) (C2 := xC172) (as := [(2, 33), vi (S510.a 14 m.toNat)]) (s := []) rfl rfl rfl rfl rfl rfl rfl (sp172 (k := S510.a 14 m.toNat) hI515 ⟨by omega, by omega⟩ (by omega) (by omega) e514 (by omega)) (fun r531 S532 hq533 => ?_)
        obtain ⟨rfl, h534, h535, e536, hI537, hF538, hR539⟩ := hq533
        have hF540 := hF518.trans hF538 rfl rfl
        have hR541 := hR519.trans hR539 rfl
        have e542 := FAx.fr e520 hF538 rfl rfl
        refine Or.inl ⟨rfl, ?_⟩
        refine r_goto (i := 78) (v := 116) rfl ?_
        have h543 : S532.f 33 12 = S510.f 33 12 := hF538.f rfl
        have h544 : S510.f 33 12 = S477.f 33 12 := hF516.f rfl
        have h545 := hI537.b1
        have h546 : S532.f 33 13 = S510.f 33 13 := hF538.f rfl
        have h547 : S510.f 33 13 = S477.f 33 13 := hF516.f rfl
        have h548 := hI537.b0
        exact lp166_116 h_k p_0 p_1 hd S532 hI537 hF540 hR541 e536 e542 m th bh g0 ⟨by omega, by omega⟩ ⟨by omega, by omega⟩ ⟨by omega, by omega⟩ ⟨by omega, by omega⟩ (by omega) (by omega) (by omega) 
      · refine r_swK (i := 62) (u := 0) (v := 102) (k := 1) (t := 79) rfl rfl h497 (by decide) (by decide) rfl ?_
        refine r_load (i := 79) (u := 0) (w := 2) rfl rfl rfl ?_
        refine r_load (i := 80) (u := 1) (w := 0) rfl rfl rfl ?_
        refine r_str (i := 81) (v := 31) rfl ?_
        have h549 := slv31
        have h550 := hI483.b0
        have h551 := hI483.b1
        refine r_call (i := 82) (u := 8) (v := 141) (w := 0) (b := 0) (na := 771) (C2 := xC141) (as := [(2, 33), vi k, (6, 31)]) (s := []) rfl rfl rfl rfl rfl rfl rfl (sp141 (k := k) (s := 31) hI483 ⟨by omega, by omega⟩ ⟨by decide, by decide⟩ (by omega) (by omega) e482 (by omega)) (fun r552 S553 hq554 => ?_)
        obtain ⟨rfl, h555, h556, e557, hI558, hF559, hR560⟩ := hq554
        have hF561 := hF486.trans hF559 rfl rfl
        have hR562 := hR487.trans hR560 rfl
        have e563 := FAx.fr e488 hF559 rfl rfl
        refine Or.inl ⟨rfl, ?_⟩
        refine r_load (i := 83) (u := 0) (w := 2) rfl rfl rfl ?_
        refine r_load (i := 84) (u := 0) (w := 2) rfl rfl rfl ?_
        refine r_getf (i := 85) (v := 1) (w := 8) (x := (2, 9)) rfl ly33 rfl rfl fun _ => ?_
        refine r_getf (i := 86) (v := 5) (w := 2) (x := (2, 14)) rfl ly9 rfl rfl fun _ => ?_
        refine r_load (i := 87) (u := 2) (w := 0) rfl rfl rfl ?_
        refine a_int (i := 88) rfl ly14 rfl (by omega) (by omega) fun h566 => ?_
        have h567 := hI558.a ta14 m.toNat
        have h568 : S553.a 14 m.toNat = S477.a 14 m.toNat := hF559.a rfl _
        have h569 : S477.a 14 m.toNat = S461.a 14 m.toNat := hF484.a rfl _
        have h570 : S461.a 14 m.toNat = S.a 14 m.toNat := hF467.a rfl _
        have h571 : S.a 14 m.toNat = S0.a 14 m.toNat := hF.a rfl _
        have h572 := hI558.b0
        have h573 := hI558.b1
        refine r_call (i := 89) (u := 8) (v := 172) (w := 0) (b := 0) (na := 1026) (C2 := xC172) (as := [(2, 33), vi (S553.a 14 m.toNat)]) (s := []) rfl rfl rfl rfl rfl rfl rfl (sp172 (k := S553.a 14 m.toNat) hI558 ⟨by omega, by omega⟩ (by omega) (by omega) e557 (by omega)) (fun r574 S575 hq576 => ?_)
        obtain ⟨rfl, h577, h578, e579, hI580, hF581, hR582⟩ := hq576
        have hF583 := hF561.trans hF581 rfl rfl
        have hR584 := hR562.trans hR582 rfl
        have e585 := FAx.fr e563 hF581 rfl rfl
        refine Or.inl ⟨rfl, ?_⟩
        refine r_goto (i := 90) (v := 116) rfl ?_
        have h586 : S575.f 33 12 = S553.f 33 12 := hF581.f rfl
        have h587 : S553.f 33 12 = S477.f 33 12 := hF559.f rfl
        have h588 := hI580.b1
        have h589 : S575.f 33 13 = S553.f 33 13 := hF581.f rfl
        have h590 : S553.f 33 13 = S477.f 33 13 := hF559.f rfl
        have h591 := hI580.b0
        exact lp166_116 h_k p_0 p_1 hd S575 hI580 hF583 hR584 e579 e585 m th bh g0 ⟨by omega, by omega⟩ ⟨by omega, by omega⟩ ⟨by omega, by omega⟩ ⟨by omega, by omega⟩ (by omega) (by omega) (by omega) 
      · refine r_swK (i := 62) (u := 0) (v := 102) (k := 2) (t := 91) rfl rfl h498 (by decide) (by decide) rfl ?_
        refine r_load (i := 91) (u := 0) (w := 2) rfl rfl rfl ?_
        refine r_load (i := 92) (u := 2) (w := 0) rfl rfl rfl ?_
        have h592 := hI483.b0
        have h593 := hI483.b1
        refine r_call (i := 93) (u := 8) (v := 145) (w := 0) (b := 0) (na := 770) (C2 := xC145) (as := [(2, 33), vi m]) (s := []) rfl rfl rfl rfl rfl rfl rfl (sp145 (m := m) hI483 ⟨by omega, by omega⟩ (by omega) (by omega) e482 e488 (by omega)) (fun r594 S595 hq596 => ?_)
        obtain ⟨rfl, h597, h598, e599, e600, hI601, hF602, hR603⟩ := hq596
        have hF604 := hF486.trans hF602 rfl rfl
        have hR605 := hR487.trans hR603 rfl
        refine Or.inl ⟨rfl, ?_⟩
        refine r_load (i := 94) (u := 0) (w := 2) rfl rfl rfl ?_
        refine r_load (i := 95) (u := 0) (w := 2) rfl rfl rfl ?_
        refine r_getf (i := 96) (v := 1) (w := 8) (x := (2, 9)) rfl ly33 rfl rfl fun _ => ?_
        refine r_getf (i := 97) (v := 5) (w := 2) (x := (2, 14)) rfl ly9 rfl rfl fun _ => ?_
        refine r_load (i := 98) (u := 2) (w := 0) rfl rfl rfl ?_
        refine a_int (i := 99) rfl ly14 rfl (by omega) (by omega) fun h608 => ?_
        have h609 := hI601.a ta14 m.toNat
        have h610 : S595.a 14 m.toNat = S477.a 14 m.toNat := hF602.a rfl _
        have h611 : S477.a 14 m.toNat = S461.a 14 m.toNat := hF484.a rfl _
        have h612 : S461.a 14 m.toNat = S.a 14 m.toNat := hF467.a rfl _
        have h613 : S.a 14 m.toNat = S0.a 14 m.toNat := hF.a rfl _
        have h614 := hI601.b1
        refine r_call (i := 100) (u := 8) (v := 157) (w := 0) (b := 0) (na := 770) (C2 := xC157) (as := [(2, 33), vi (S595.a 14 m.toNat)]) (s := []) rfl rfl rfl rfl rfl rfl rfl (sp157 (k := S595.a 14 m.toNat) hI601 ⟨by omega, by omega⟩ (by omega)  (by omega)) (fun r615 S616 hq617 => ?_)
        obtain ⟨rfl, h618, hI619, hF620, hR621⟩ := hq617
        have hF622 := hF604.trans hF620 rfl rfl
        have hR623 := hR605.trans hR621 rfl
        have e624 := PLx.fr e599 hF620 hR621 rfl rfl rfl
        have e625 := FAx.fr e600 hF620 rfl rfl
        have e626 := PTx.fr e599 hF620 hR621 rfl rfl rfl
        refine Or.inl ⟨rfl, ?_⟩
        refine r_goto (i := 101) (v := 116) rfl ?_
        have h627 : S616.f 33 12 = S595.f 33 12 := hF620.f rfl
        have h628 : S595.f 33 12 = S477.f 33 12 := hF602.f rfl
        have h629 := hI619.b1
        have h630 : S616.f 33 13 = S595.f 33 13 := hF620.f rfl
        have h631 : S595.f 33 13 = S477.f 33 13 := hF602.f rfl
        have h632 := hI619.b0
        have h633 : S616.f 31 1 = S595.f 31 1 := hF620.f rfl
        exact lp166_116 h_k p_0 p_1 hd S616 hI619 hF622 hR623 e624 e625 m th bh g0 ⟨by omega, by omega⟩ ⟨by omega, by omega⟩ ⟨by omega, by omega⟩ ⟨by omega, by omega⟩ (by omega) (by omega) (by omega) 
      · refine r_swK (i := 62) (u := 0) (v := 102) (k := 3) (t := 102) rfl rfl h499 (by decide) (by decide) rfl ?_
        refine r_load (i := 102) (u := 0) (w := 2) rfl rfl rfl ?_
        refine r_load (i := 103) (u := 1) (w := 0) rfl rfl rfl ?_
        refine r_str (i := 104) (v := 33) rfl ?_
        have h634 := slv33
        have h635 := hI483.b0
        have h636 := hI483.b1
        refine r_call (i := 105) (u := 8) (v := 141) (w := 0) (b := 0) (na := 771) (C2 := xC141) (as := [(2, 33), vi k, (6, 33)]) (s := []) rfl rfl rfl rfl rfl rfl rfl (sp141 (k := k) (s := 33) hI483 ⟨by omega, by omega⟩ ⟨by decide, by decide⟩ (by omega) (by omega) e482 (by omega)) (fun r637 S638 hq639 => ?_)
        obtain ⟨rfl, h640, h641, e642, hI643, hF644, hR645⟩ := hq639
        have hF646 := hF486.trans hF644 rfl rfl
        have hR647 := hR487.trans hR645 rfl
        have e648 := FAx.fr e488 hF644 rfl rfl
        refine Or.inl ⟨rfl, ?_⟩
        refine r_load (i := 106) (u := 0) (w := 2) rfl rfl rfl ?_
        refine r_load (i := 107) (u := 2) (w := 0) rfl rfl rfl ?_
        have h649 := hI643.b0
        have h650 := hI643.b1
        refine r_call (i := 108) (u := 8) (v := 144) (w := 0) (b := 0) (na := 770) (C2 := xC144) (as := [(2, 33), vi m]) (s := []) rfl rfl rfl rfl rfl rfl rfl (sp144 (m := m) hI643 ⟨by omega, by omega⟩ (by omega) (by omega) e642 (by omega)) (fun r651 S652 hq653 => ?_)
        obtain ⟨rfl, h654, h655, e656, hI657, hF658, hR659⟩ := hq653
        have hF660 := hF646.trans hF658 rfl rfl
        have hR661 := hR647.trans hR659 rfl
        have e662 := FAx.fr e648 hF658 rfl rfl
        refine Or.inl ⟨rfl, ?_⟩
        refine r_load (i := 109) (u := 0) (w := 2) rfl rfl rfl ?_
        refine r_load (i := 110) (u := 0) (w := 2) rfl rfl rfl ?_
        refine r_getf (i := 111) (v := 1) (w := 8) (x := (2, 9)) rfl ly33 rfl rfl fun _ => ?_
        refine r_getf (i := 112) (v := 5) (w := 2) (x := (2, 14)) rfl ly9 rfl rfl fun _ => ?_
        refine r_load (i := 113) (u := 2) (w := 0) rfl rfl rfl ?_
        refine a_int (i := 114) rfl ly14 rfl (by omega) (by omega) fun h665 => ?_
        have h666 := hI657.a ta14 m.toNat
        have h667 : S652.a 14 m.toNat = S638.a 14 m.toNat := hF658.a rfl _
        have h668 : S638.a 14 m.toNat = S477.a 14 m.toNat := hF644.a rfl _
        have h669 : S477.a 14 m.toNat = S461.a 14 m.toNat := hF484.a rfl _
        have h670 : S461.a 14 m.toNat = S.a 14 m.toNat := hF467.a rfl _
        have h671 : S.a 14 m.toNat = S0.a 14 m.toNat := hF.a rfl _
        have h672 := hI657.b1
        refine r_call (i := 115) (u := 8) (v := 157) (w := 0) (b := 0) (na := 770) (C2 := xC157) (as := [(2, 33), vi (S652.a 14 m.toNat)]) (s := []) rfl rfl rfl rfl rfl rfl rfl (sp157 (k := S652.a 14 m.toNat) hI657 ⟨by omega, by omega⟩ (by omega)  (by omega)) (fun r673 S674 hq675 => ?_)
        obtain ⟨rfl, h676, hI677, hF678, hR679⟩ := hq675
        have hF680 := hF660.trans hF678 rfl rfl
        have hR681 := hR661.trans hR679 rfl
        have e682 := FAx.fr e662 hF678 rfl rfl
        have e683 := PLx.fr e656 hF678 hR679 rfl rfl rfl
        have e684 := PTx.fr e656 hF678 hR679 rfl rfl rfl
        refine Or.inl ⟨rfl, ?_⟩
        have h685 : S674.f 33 12 = S652.f 33 12 := hF678.f rfl
        have h686 : S652.f 33 12 = S638.f 33 12 := hF658.f rfl
        have h687 : S638.f 33 12 = S477.f 33 12 := hF644.f rfl
        have h688 := hI677.b1
        have h689 : S674.f 33 13 = S652.f 33 13 := hF678.f rfl
        have h690 : S652.f 33 13 = S638.f 33 13 := hF658.f rfl
        have h691 : S638.f 33 13 = S477.f 33 13 := hF644.f rfl
        have h692 := hI677.b0
        have h693 : S674.f 31 1 = S652.f 31 1 := hF678.f rfl
        exact lp166_116 h_k p_0 p_1 hd S674 hI677 hF680 hR681 e683 e682 m th bh g0 ⟨by omega, by omega⟩ ⟨by omega, by omega⟩ ⟨by omega, by omega⟩ ⟨by omega, by omega⟩ (by omega) (by omega) (by omega) 
    · refine r_load (i := 51) (u := 4) (w := 0) rfl rfl rfl ?_
      refine r_const (i := 52) (u := 1) (z := 1) rfl rfl ?_
      refine r_iadd (i := 53) rfl ?_
      refine r_goto (i := 54) (v := 56) rfl ?_
      have h694 := hI466.b0
      have h695 := hI466.b1
      refine r_call (i := 56) (u := 8) (v := 171) (w := 0) (b := 0) (na := 514) (C2 := xC171) (as := [(2, 33), vi (bh + 1)]) (s := []) rfl rfl rfl rfl rfl rfl rfl (sp171 (lc := bh + 1) hI466 ⟨by omega, by omega⟩ (by omega) (by omega) e465 (by omega)) (fun r696 S697 hq698 => ?_)
      obtain ⟨rfl, h699, h700, h701, e702, hI703, hF704, hR705⟩ := hq698
      have hF706 := hF469.trans hF704 rfl rfl
      have hR707 := hR470.trans hR705 rfl
      have e708 := FAx.fr e471 hF704 rfl rfl
      refine Or.inl ⟨rfl, ?_⟩
      refine r_load (i := 57) (u := 0) (w := 2) rfl rfl rfl ?_
      refine r_getf (i := 58) (v := 3) (w := 8) (x := (2, 22)) rfl ly33 rfl rfl fun _ => ?_
      refine r_getf (i := 59) (v := 1) (w := 4) (x := (2, 24)) rfl ly22 rfl rfl fun _ => ?_
      refine r_load (i := 60) (u := 1) (w := 0) rfl rfl rfl ?_
      refine a_int (i := 61) rfl ly24 rfl (by omega) (by omega) fun h711 => ?_
      have h712 := hI703.a ta24 k.toNat
      have h713 : S697.a 24 k.toNat = S461.a 24 k.toNat := hF704.a rfl _
      have h714 : S461.a 24 k.toNat = S.a 24 k.toNat := hF467.a rfl _
      have h715 : S.a 24 k.toNat = S0.a 24 k.toNat := hF.a rfl _
      rcases (show (S697.a 24 k.toNat) = 0 ∨ (S697.a 24 k.toNat) = 1 ∨ (S697.a 24 k.toNat) = 2 ∨ (S697.a 24 k.toNat) = 3 by omega) with h716 | h717 | h718 | h719
      · refine r_swK (i := 62) (u := 0) (v := 102) (k := 0) (t := 63) rfl rfl h716 (by decide) (by decide) rfl ?_
        refine r_load (i := 63) (u := 0) (w := 2) rfl rfl rfl ?_
        refine r_load (i := 64) (u := 1) (w := 0) rfl rfl rfl ?_
        refine r_load (i := 65) (u := 0) (w := 2) rfl rfl rfl ?_
        refine r_getf (i := 66) (v := 1) (w := 8) (x := (2, 9)) rfl ly33 rfl rfl fun _ => ?_
        refine r_getf (i := 67) (v := 4) (w := 2) (x := (2, 13)) rfl ly9 rfl rfl fun _ => ?_
        refine r_load (i := 68) (u := 2) (w := 0) rfl rfl rfl ?_
        refine a_int (i := 69) rfl ly13 rfl (by omega) (by omega) fun h722 => ?_
        have kp723 := hI703.k13 m.toNat
        have h724 : S697.a 13 m.toNat = S461.a 13 m.toNat := hF704.a rfl _
        have h725 : S461.a 13 m.toNat = S.a 13 m.toNat := hF467.a rfl _
        have h726 : S.a 13 m.toNat = S0.a 13 m.toNat := hF.a rfl _
        have h727 := hI703.b0
        have h728 := hI703.b1
        refine r_call (i := 70) (u := 8) (v := 142) (w := 0) (b := 0) (na := 2051) (C2 := xC142) (as := [(2, 33), vi k, vi (S697.a 13 m.toNat)]) (s := []) rfl rfl rfl rfl rfl rfl rfl (sp142 (k := k) (p := S697.a 13 m.toNat) hI703 ⟨by omega, by omega⟩ ⟨by omega, by omega⟩ (by omega) (by omega) e702 (by omega)) (fun r729 S730 hq731 => ?_)
        obtain ⟨rfl, h732, h733, e734, hI735, hF736, hR737⟩ := hq731
        have hF738 := hF706.trans hF736 rfl rfl
        have hR739 := hR707.trans hR737 rfl
        have e740 := FAx.fr e708 hF736 rfl rfl
        refine Or.inl ⟨rfl, ?_⟩
        refine r_load (i := 71) (u := 0) (w := 2) rfl rfl rfl ?_
        refine r_load (i := 72) (u := 0) (w := 2) rfl rfl rfl ?_
        refine r_getf (i := 73) (v := 1) (w := 8) (x := (2, 9)) rfl ly33 rfl rfl fun _ => ?_
        refine r_getf (i := 74) (v := 5) (w := 2) (x := (2, 14)) rfl ly9 rfl rfl fun _ => ?_
        refine r_load (i := 75) (u := 2) (w := 0) rfl rfl rfl ?_
        refine a_int (i := 76) rfl ly14 rfl (by omega) (by omega) fun h743 => ?_
        have h744 := hI735.a ta14 m.toNat
        have h745 : S730.a 14 m.toNat = S697.a 14 m.toNat := hF736.a rfl _
        have h746 : S697.a 14 m.toNat = S461.a 14 m.toNat := hF704.a rfl _
        have h747 : S461.a 14 m.toNat = S.a 14 m.toNat := hF467.a rfl _
        have h748 : S.a 14 m.toNat = S0.a 14 m.toNat := hF.a rfl _
        have h749 := hI735.b0
        have h750 := hI735.b1
        refine r_call (i := 77) (u := 8) (v := 172) (w := 0) (b := 0) (na := 1026) (C2 := xC172) (as := [(2, 33), vi (S730.a 14 m.toNat)]) (s := []) rfl rfl rfl rfl rfl rfl rfl (sp172 (k := S730.a 14 m.toNat) hI735 ⟨by omega, by omega⟩ (by omega) (by omega) e734 (by omega)) (fun r751 S752 hq753 => ?_)
        obtain ⟨rfl, h754, h755, e756, hI757, hF758, hR759⟩ := hq753
        have hF760 := hF738.trans hF758 rfl rfl
        have hR761 := hR739.trans hR759 rfl
        have e762 := FAx.fr e740 hF758 rfl rfl
        refine Or.inl ⟨rfl, ?_⟩
        refine r_goto (i := 78) (v := 116) rfl ?_
        have h763 : S752.f 33 12 = S730.f 33 12 := hF758.f rfl
        have h764 : S730.f 33 12 = S697.f 33 12 := hF736.f rfl
        have h765 := hI757.b1
        have h766 : S752.f 33 13 = S730.f 33 13 := hF758.f rfl
        have h767 : S730.f 33 13 = S697.f 33 13 := hF736.f rfl
        have h768 := hI757.b0
        exact lp166_116 h_k p_0 p_1 hd S752 hI757 hF760 hR761 e756 e762 m th bh g0 ⟨by omega, by omega⟩ ⟨by omega, by omega⟩ ⟨by omega, by omega⟩ ⟨by omega, by omega⟩ (by omega) (by omega) (by omega) 
      · refine r_swK (i := 62) (u := 0) (v := 102) (k := 1) (t := 79) rfl rfl h717 (by decide) (by decide) rfl ?_
        refine r_load (i := 79) (u := 0) (w := 2) rfl rfl rfl ?_
        refine r_load (i := 80) (u := 1) (w := 0) rfl rfl rfl ?_
        refine r_str (i := 81) (v := 31) rfl ?_
        have h769 := slv31
        have h770 := hI703.b0
        have h771 := hI703.b1
        refine r_call (i := 82) (u := 8) (v := 141) (w := 0) (b := 0) (na := 771) (C2 := xC141) (as := [(2, 33), vi k, (6, 31)]) (s := []) rfl rfl rfl rfl rfl rfl rfl (sp141 (k := k) (s := 31) hI703 ⟨by omega, by omega⟩ ⟨by decide, by decide⟩ (by omega) (by omega) e702 (by omega)) (fun r772 S773 hq774 => ?_)
        obtain ⟨rfl, h775, h776, e777, hI778, hF779, hR780⟩ := hq774
        have hF781 := hF706.trans hF779 rfl rfl
        have hR782 := hR707.trans hR780 rfl
        have e783 := FAx.fr e708 hF779 rfl rfl
        refine Or.inl ⟨rfl, ?_⟩
        refine r_load (i := 83) (u := 0) (w := 2) rfl rfl rfl ?_
        refine r_load (i := 84) (u := 0) (w := 2) rfl rfl rfl ?_
        refine r_getf (i := 85) (v := 1) (w := 8) (x := (2, 9)) rfl ly33 rfl rfl fun _ => ?_
        refine r_getf (i := 86) (v := 5) (w := 2) (x := (2, 14)) rfl ly9 rfl rfl fun _ => ?_
        refine r_load (i := 87) (u := 2) (w := 0) rfl rfl rfl ?_
        refine a_int (i := 88) rfl ly14 rfl (by omega) (by omega) fun h786 => ?_
        have h787 := hI778.a ta14 m.toNat
        have h788 : S773.a 14 m.toNat = S697.a 14 m.toNat := hF779.a rfl _
        have h789 : S697.a 14 m.toNat = S461.a 14 m.toNat := hF704.a rfl _
        have h790 : S461.a 14 m.toNat = S.a 14 m.toNat := hF467.a rfl _
        have h791 : S.a 14 m.toNat = S0.a 14 m.toNat := hF.a rfl _
        have h792 := hI778.b0
        have h793 := hI778.b1
        refine r_call (i := 89) (u := 8) (v := 172) (w := 0) (b := 0) (na := 1026) (C2 := xC172) (as := [(2, 33), vi (S773.a 14 m.toNat)]) (s := []) rfl rfl rfl rfl rfl rfl rfl (sp172 (k := S773.a 14 m.toNat) hI778 ⟨by omega, by omega⟩ (by omega) (by omega) e777 (by omega)) (fun r794 S795 hq796 => ?_)
        obtain ⟨rfl, h797, h798, e799, hI800, hF801, hR802⟩ := hq796
        have hF803 := hF781.trans hF801 rfl rfl
        have hR804 := hR782.trans hR802 rfl
        have e805 := FAx.fr e783 hF801 rfl rfl
        refine Or.inl ⟨rfl, ?_⟩
        refine r_goto (i := 90) (v := 116) rfl ?_
        have h806 : S795.f 33 12 = S773.f 33 12 := hF801.f rfl
        have h807 : S773.f 33 12 = S697.f 33 12 := hF779.f rfl
        have h808 := hI800.b1
        have h809 : S795.f 33 13 = S773.f 33 13 := hF801.f rfl
        have h810 : S773.f 33 13 = S697.f 33 13 := hF779.f rfl
        have h811 := hI800.b0
        exact lp166_116 h_k p_0 p_1 hd S795 hI800 hF803 hR804 e799 e805 m th bh g0 ⟨by omega, by omega⟩ ⟨by omega, by omega⟩ ⟨by omega, by omega⟩ ⟨by omega, by omega⟩ (by omega) (by omega) (by omega) 
      · refine r_swK (i := 62) (u := 0) (v := 102) (k := 2) (t := 91) rfl rfl h718 (by decide) (by decide) rfl ?_
        refine r_load (i := 91) (u := 0) (w := 2) rfl rfl rfl ?_
        refine r_load (i := 92) (u := 2) (w := 0) rfl rfl rfl ?_
        have h812 := hI703.b0
        have h813 := hI703.b1
        refine r_call (i := 93) (u := 8) (v := 145) (w := 0) (b := 0) (na := 770) (C2 := xC145) (as := [(2, 33), vi m]) (s := []) rfl rfl rfl rfl rfl rfl rfl (sp145 (m := m) hI703 ⟨by omega, by omega⟩ (by omega) (by omega) e702 e708 (by omega)) (fun r814 S815 hq816 => ?_)
        obtain ⟨rfl, h817, h818, e819, e820, hI821, hF822, hR823⟩ := hq816
        have hF824 := hF706.trans hF822 rfl rfl
        have hR825 := hR707.trans hR823 rfl
        refine Or.inl ⟨rfl, ?_⟩
        refine r_load (i := 94) (u := 0) (w := 2) rfl rfl rfl ?_
        refine r_load (i := 95) (u := 0) (w := 2) rfl rfl rfl ?_
        refine r_getf (i := 96) (v := 1) (w := 8) (x := (2, 9)) rfl ly33 rfl rfl fun _ => ?_
        refine r_getf (i := 97) (v := 5) (w := 2) (x := (2, 14)) rfl ly9 rfl rfl fun _ => ?_
        refine r_load (i := 98) (u := 2) (w := 0) rfl rfl rfl ?_
        refine a_int (i := 99) rfl ly14 rfl (by omega) (by omega) fun h828 => ?_
        have h829 := hI821.a ta14 m.toNat
        have h830 : S815.a 14 m.toNat = S697.a 14 m.toNat := hF822.a rfl _
        have h831 : S697.a 14 m.toNat = S461.a 14 m.toNat := hF704.a rfl _
        have h832 : S461.a 14 m.toNat = S.a 14 m.toNat := hF467.a rfl _
        have h833 : S.a 14 m.toNat = S0.a 14 m.toNat := hF.a rfl _
        have h834 := hI821.b1
        refine r_call (i := 100) (u := 8) (v := 157) (w := 0) (b := 0) (na := 770) (C2 := xC157) (as := [(2, 33), vi (S815.a 14 m.toNat)]) (s := []) rfl rfl rfl rfl rfl rfl rfl (sp157 (k := S815.a 14 m.toNat) hI821 ⟨by omega, by omega⟩ (by omega)  (by omega)) (fun r835 S836 hq837 => ?_)
        obtain ⟨rfl, h838, hI839, hF840, hR841⟩ := hq837
        have hF842 := hF824.trans hF840 rfl rfl
        have hR843 := hR825.trans hR841 rfl
        have e844 := PLx.fr e819 hF840 hR841 rfl rfl rfl
        have e845 := FAx.fr e820 hF840 rfl rfl
        have e846 := PTx.fr e819 hF840 hR841 rfl rfl rfl
        refine Or.inl ⟨rfl, ?_⟩
        refine r_goto (i := 101) (v := 116) rfl ?_
        have h847 : S836.f 33 12 = S815.f 33 12 := hF840.f rfl
        have h848 : S815.f 33 12 = S697.f 33 12 := hF822.f rfl
        have h849 := hI839.b1
        have h850 : S836.f 33 13 = S815.f 33 13 := hF840.f rfl
        have h851 : S815.f 33 13 = S697.f 33 13 := hF822.f rfl
        have h852 := hI839.b0
        have h853 : S836.f 31 1 = S815.f 31 1 := hF840.f rfl
        exact lp166_116 h_k p_0 p_1 hd S836 hI839 hF842 hR843 e844 e845 m th bh g0 ⟨by omega, by omega⟩ ⟨by omega, by omega⟩ ⟨by omega, by omega⟩ ⟨by omega, by omega⟩ (by omega) (by omega) (by omega) 
      · refine r_swK (i := 62) (u := 0) (v := 102) (k := 3) (t := 102) rfl rfl h719 (by decide) (by decide) rfl ?_
        refine r_load (i := 102) (u := 0) (w := 2) rfl rfl rfl ?_
        refine r_load (i := 103) (u := 1) (w := 0) rfl rfl rfl ?_
        refine r_str (i := 104) (v := 33) rfl ?_
        have h854 := slv33
        have h855 := hI703.b0
        have h856 := hI703.b1
        refine r_call (i := 105) (u := 8) (v := 141) (w := 0) (b := 0) (na := 771) (C2 := xC141) (as := [(2, 33), vi k, (6, 33)]) (s := []) rfl rfl rfl rfl rfl rfl rfl (sp141 (k := k) (s := 33) hI703 ⟨by omega, by omega⟩ ⟨by decide, by decide⟩ (by omega) (by omega) e702 (by omega)) (fun r857 S858 hq859 => ?_)
        obtain ⟨rfl, h860, h861, e862, hI863, hF864, hR865⟩ := hq859
        have hF866 := hF706.trans hF864 rfl rfl
        have hR867 := hR707.trans hR865 rfl
        have e868 := FAx.fr e708 hF864 rfl rfl
        refine Or.inl ⟨rfl, ?_⟩
        refine r_load (i := 106) (u := 0) (w := 2) rfl rfl rfl ?_
        refine r_load (i := 107) (u := 2) (w := 0) rfl rfl rfl ?_
        have h869 := hI863.b0
        have h870 := hI863.b1
        refine r_call (i := 108) (u := 8) (v := 144) (w := 0) (b := 0) (na := 770) (C2 := xC144) (as := [(2, 33), vi m]) (s := []) rfl rfl rfl rfl rfl rfl rfl (sp144 (m := m) hI863 ⟨by omega, by omega⟩ (by omega) (by omega) e862 (by omega)) (fun r871 S872 hq873 => ?_)
        obtain ⟨rfl, h874, h875, e876, hI877, hF878, hR879⟩ := hq873
        have hF880 := hF866.trans hF878 rfl rfl
        have hR881 := hR867.trans hR879 rfl
        have e882 := FAx.fr e868 hF878 rfl rfl
        refine Or.inl ⟨rfl, ?_⟩
        refine r_load (i := 109) (u := 0) (w := 2) rfl rfl rfl ?_
        refine r_load (i := 110) (u := 0) (w := 2) rfl rfl rfl ?_
        refine r_getf (i := 111) (v := 1) (w := 8) (x := (2, 9)) rfl ly33 rfl rfl fun _ => ?_
        refine r_getf (i := 112) (v := 5) (w := 2) (x := (2, 14)) rfl ly9 rfl rfl fun _ => ?_
        refine r_load (i := 113) (u := 2) (w := 0) rfl rfl rfl ?_
        refine a_int (i := 114) rfl ly14 rfl (by omega) (by omega) fun h885 => ?_
        have h886 := hI877.a ta14 m.toNat
        have h887 : S872.a 14 m.toNat = S858.a 14 m.toNat := hF878.a rfl _
        have h888 : S858.a 14 m.toNat = S697.a 14 m.toNat := hF864.a rfl _
        have h889 : S697.a 14 m.toNat = S461.a 14 m.toNat := hF704.a rfl _
        have h890 : S461.a 14 m.toNat = S.a 14 m.toNat := hF467.a rfl _
        have h891 : S.a 14 m.toNat = S0.a 14 m.toNat := hF.a rfl _
        have h892 := hI877.b1
        refine r_call (i := 115) (u := 8) (v := 157) (w := 0) (b := 0) (na := 770) (C2 := xC157) (as := [(2, 33), vi (S872.a 14 m.toNat)]) (s := []) rfl rfl rfl rfl rfl rfl rfl (sp157 (k := S872.a 14 m.toNat) hI877 ⟨by omega, by omega⟩ (by omega)  (by omega)) (fun r893 S894 hq895 => ?_)
        obtain ⟨rfl, h896, hI897, hF898, hR899⟩ := hq895
        have hF900 := hF880.trans hF898 rfl rfl
        have hR901 := hR881.trans hR899 rfl
        have e902 := FAx.fr e882 hF898 rfl rfl
        have e903 := PLx.fr e876 hF898 hR899 rfl rfl rfl
        have e904 := PTx.fr e876 hF898 hR899 rfl rfl rfl
        refine Or.inl ⟨rfl, ?_⟩
        have h905 : S894.f 33 12 = S872.f 33 12 := hF898.f rfl
        have h906 : S872.f 33 12 = S858.f 33 12 := hF878.f rfl
        have h907 : S858.f 33 12 = S697.f 33 12 := hF864.f rfl
        have h908 := hI897.b1
        have h909 : S894.f 33 13 = S872.f 33 13 := hF898.f rfl
        have h910 : S872.f 33 13 = S858.f 33 13 := hF878.f rfl
        have h911 : S858.f 33 13 = S697.f 33 13 := hF864.f rfl
        have h912 := hI897.b0
        have h913 : S894.f 31 1 = S872.f 31 1 := hF898.f rfl
        exact lp166_116 h_k p_0 p_1 hd S894 hI897 hF900 hR901 e903 e902 m th bh g0 ⟨by omega, by omega⟩ ⟨by omega, by omega⟩ ⟨by omega, by omega⟩ ⟨by omega, by omega⟩ (by omega) (by omega) (by omega) 
/-- ProxyForge$Writer.override -/
theorem sp166 {G : xk} {S : yS} {d : Nat} (hI : yI S) {k : Int} (h_k : 0 ≤ k ∧ k ≤ 23) (p_0 : S.f 31 1 + 1144 ≤ 60000) (p_1 : S.f 34 1 + 179 ≤ 60000) (e_PL : PL S) (e_FA : FA S) (hd : 9 ≤ d) : yT xPr G LY xC166 0 [some ((2, 33)), some (vi k)] [] S d (fun r S' => r = (0, (0, 0)) ∧ (S.f 31 1 ≤ S'.f 31 1 ∧ S'.f 31 1 ≤ S.f 31 1 + 1144) ∧ (S.f 34 1 ≤ S'.f 34 1 ∧ S'.f 34 1 ≤ S.f 34 1 + 179) ∧ PL S' ∧ FA S' ∧ yI S' ∧ yFr [(31, 1), (33, 10), (33, 11), (33, 12), (33, 13), (33, 14), (33, 15), (34, 1), (36, 5)] [37, 100, 101, 102, 103, 105] S S' ∧ yRm [0, 1, 2, 3] S S') := by
  refine yT_pad 5 ?_
  show yT xPr G LY xC166 0 [some ((2, 33)), some (vi k), none, none, none, none, none] [] S d _
  obtain ⟨d, rfl⟩ : ∃ q, d = q + 1 := ⟨d - 1, by omega⟩
  have hF : yFr [(31, 1), (33, 10), (33, 11), (33, 12), (33, 13), (33, 14), (33, 15), (34, 1), (36, 5)] [37, 100, 101, 102, 103, 105] S S := yFr.refl S
  have hR : yRm [0, 1, 2, 3] S S := yRm.refl S
  have h1 := hI.b0
  have h2 := hI.b1
  refine r_load (i := 0) (u := 0) (w := 2) rfl rfl rfl ?_
  refine r_getf (i := 1) (v := 3) (w := 8) (x := (2, 22)) rfl ly33 rfl rfl fun _ => ?_
  refine r_getf (i := 2) (v := 0) (w := 4) (x := (2, 23)) rfl ly22 rfl rfl fun _ => ?_
  refine r_load (i := 3) (u := 1) (w := 0) rfl rfl rfl ?_
  refine a_int (i := 4) rfl ly23 rfl (by omega) (by omega) fun h5 => ?_
  have h6 := hI.a ta23 k.toNat
  refine r_store (i := 5) (u := 2) (w := 0) (L1 := [some ((2, 33)), some (vi k), some (vi (S.a 23 k.toNat)), none, none, none, none]) rfl rfl rfl rfl ?_
  refine r_load (i := 6) (u := 0) (w := 2) rfl rfl rfl ?_
  refine r_getf (i := 7) (v := 3) (w := 8) (x := (2, 22)) rfl ly33 rfl rfl fun _ => ?_
  refine r_getf (i := 8) (v := 2) (w := 4) (x := (2, 25)) rfl ly22 rfl rfl fun _ => ?_
  refine r_load (i := 9) (u := 1) (w := 0) rfl rfl rfl ?_
  refine a_int (i := 10) rfl ly25 rfl (by omega) (by omega) fun h9 => ?_
  have h10 := hI.a ta25 k.toNat
  refine r_store (i := 11) (u := 3) (w := 0) (L1 := [some ((2, 33)), some (vi k), some (vi (S.a 23 k.toNat)), some (vi (S.a 25 k.toNat)), none, none, none]) rfl rfl rfl rfl ?_
  refine r_const (i := 12) (u := 1) (z := 1) rfl rfl ?_
  refine r_load (i := 13) (u := 0) (w := 2) rfl rfl rfl ?_
  refine r_getf (i := 14) (v := 1) (w := 8) (x := (2, 9)) rfl ly33 rfl rfl fun _ => ?_
  refine r_getf (i := 15) (v := 4) (w := 2) (x := (2, 13)) rfl ly9 rfl rfl fun _ => ?_
  refine r_load (i := 16) (u := 2) (w := 0) rfl rfl rfl ?_
  refine a_int (i := 17) rfl ly13 rfl (by omega) (by omega) fun h13 => ?_
  have kp14 := hI.k13 (S.a 23 k.toNat).toNat
  refine r_call (i := 18) (u := 65535) (v := 71) (w := 0) (b := 2) (na := 769) (C2 := xC71) (as := [vi (S.a 13 (S.a 23 k.toNat).toNat)]) (s := [vi 1]) rfl rfl rfl rfl rfl rfl rfl (sp71 (p := S.a 13 (S.a 23 k.toNat).toNat) hI ⟨by omega, by omega⟩   (by omega)) (fun r15 S16 hq17 => ?_)
  obtain ⟨z18, rfl, h19, h20, rfl⟩ := hq17
  refine Or.inr (Or.inl ⟨rfl, ?_⟩)
  refine r_iadd (i := 19) rfl ?_
  refine r_store (i := 20) (u := 4) (w := 0) (L1 := [some ((2, 33)), some (vi k), some (vi (S.a 23 k.toNat)), some (vi (S.a 25 k.toNat)), some (vi (1 + z18)), none, none]) rfl rfl rfl rfl ?_
  refine r_load (i := 21) (u := 0) (w := 2) rfl rfl rfl ?_
  refine r_getf (i := 22) (v := 3) (w := 8) (x := (2, 22)) rfl ly33 rfl rfl fun _ => ?_
  refine r_getf (i := 23) (v := 1) (w := 4) (x := (2, 24)) rfl ly22 rfl rfl fun _ => ?_
  refine r_load (i := 24) (u := 1) (w := 0) rfl rfl rfl ?_
  refine a_int (i := 25) rfl ly24 rfl (by omega) (by omega) fun h23 => ?_
  have h24 := hI.a ta24 k.toNat
  refine z_ne (i := 26) (v := 36) rfl ⟨by omega, by omega⟩ (fun h25 => ?_) (fun h26 => ?_)
  · refine r_const (i := 36) (u := 0) (z := 0) rfl rfl ?_
    exact lp166_37 h_k p_0 p_1 hd S hI hF hR e_PL e_FA (S.a 23 k.toNat) (S.a 25 k.toNat) (1 + z18) 0 ⟨by omega, by omega⟩ ⟨by omega, by omega⟩ ⟨by omega, by omega⟩ ⟨by omega, by omega⟩ (by omega) (by omega) 
  · refine r_load (i := 27) (u := 0) (w := 2) rfl rfl rfl ?_
    refine r_getf (i := 28) (v := 1) (w := 8) (x := (2, 9)) rfl ly33 rfl rfl fun _ => ?_
    refine r_load (i := 29) (u := 2) (w := 0) rfl rfl rfl ?_
    refine r_load (i := 30) (u := 3) (w := 0) rfl rfl rfl ?_
    refine r_const (i := 31) (u := 1) (z := 1) rfl rfl ?_
    refine r_call (i := 32) (u := 2) (v := 87) (w := 0) (b := 0) (na := 1284) (C2 := xC87) (as := [(2, 9), vi (S.a 23 k.toNat), vi (S.a 25 k.toNat), vi 1]) (s := []) rfl rfl rfl rfl rfl rfl rfl (sp87 (m := S.a 23 k.toNat) (h0 := S.a 25 k.toNat) (t := 1) hI ⟨by omega, by omega⟩ ⟨by omega, by omega⟩ ⟨by omega, by omega⟩   (by omega)) (fun r28 S29 hq30 => ?_)
    obtain ⟨z31, rfl, h32, h33, ya34, na35, rfl⟩ := hq30
    refine Or.inr (Or.inl ⟨rfl, ?_⟩)
    refine z_ne (i := 33) (v := 36) rfl ⟨by omega, by omega⟩ (fun h36 => ?_) (fun h37 => ?_)
    · refine r_const (i := 36) (u := 0) (z := 0) rfl rfl ?_
      exact lp166_37 h_k p_0 p_1 hd S hI hF hR e_PL e_FA (S.a 23 k.toNat) (S.a 25 k.toNat) (1 + z18) 0 ⟨by omega, by omega⟩ ⟨by omega, by omega⟩ ⟨by omega, by omega⟩ ⟨by omega, by omega⟩ (by omega) (by omega) 
    · refine r_const (i := 34) (u := 1) (z := 1) rfl rfl ?_
      refine r_goto (i := 35) (v := 37) rfl ?_
      exact lp166_37 h_k p_0 p_1 hd S hI hF hR e_PL e_FA (S.a 23 k.toNat) (S.a 25 k.toNat) (1 + z18) 1 ⟨by omega, by omega⟩ ⟨by omega, by omega⟩ ⟨by omega, by omega⟩ ⟨by omega, by omega⟩ (by omega) (by omega) 
theorem lp143_65 {G : xk} {d : Nat} {S0 : yS}  (hd : 7 ≤ d + 1) : ∀ (n : Nat), ∀ (S : yS) (hI : yI S) (hF : yFr [(31, 1), (33, 7), (33, 8), (33, 9), (34, 1), (36, 5)] [37, 100, 101, 102, 103, 105] S0 S) (hR : yRm [0, 1, 2, 3] S0 S) (e_PL : PL S) (e_FA : FA S) (k : Int) (h_k : 0 ≤ k ∧ k ≤ 3) (q_0 : 10 ≤ S.f 31 1 ∧ S.f 31 1 ≤ 52 + 32 * k) (q_1 : S.f 34 1 ≤ 8 + 2 * k) (hn : 3 - k < (n : Nat)), yT xPr G LY xC143 65 [some ((2, 33)), some (vi k)] [] S (d + 1) (fun r S' => r = (0, (0, 0)) ∧ (10 ≤ S'.f 31 1 ∧ S'.f 31 1 ≤ 169) ∧ S'.f 34 1 ≤ 26 ∧ PL S' ∧ FA S' ∧ yI S' ∧ yFr [(31, 1), (33, 7), (33, 8), (33, 9), (34, 1), (36, 5)] [37, 100, 101, 102, 103, 105] S0 S' ∧ yRm [0, 1, 2, 3] S0 S') := by
  intro n
  induction n with
  | zero => intro S hI hF hR e_PL e_FA k h_k q_0 q_1 hn; exact absurd hn (by omega)
  | succ n ih =>
    intro S hI hF hR e_PL e_FA k h_k q_0 q_1 hn
    have h1 := hI.b0
    have h2 := hI.b1
    refine r_load (i := 65) (u := 1) (w := 0) rfl rfl rfl ?_
    refine r_load (i := 66) (u := 0) (w := 2) rfl rfl rfl ?_
    refine r_getf (i := 67) (v := 2) (w := 8) (x := (2, 17)) rfl ly33 rfl rfl fun _ => ?_
    have h4 := hI.f tf17_7
    have h5 : S.f 17 7 = S0.f 17 7 := hF.f rfl
    refine r_getf (i := 68) (v := 7) (w := 3) (x := vi (S.f 17 7)) rfl ly17 rfl rfl fun h6 => ?_
    have h6 : Rg (S.f 17 7) := h6
    refine c_ge (i := 69) (v := 83) rfl ⟨by omega, by omega⟩ ⟨by omega, by omega⟩ (fun h7 => ?_) (fun h8 => ?_)
    · refine r_load (i := 83) (u := 0) (w := 2) rfl rfl rfl ?_
      refine r_getf (i := 84) (v := 5) (w := 8) (x := (2, 34)) rfl ly33 rfl rfl fun _ => ?_
      refine r_const (i := 85) (u := 1) (z := 1) rfl rfl ?_
      refine r_call (i := 86) (u := 7) (v := 36) (w := 0) (b := 0) (na := 514) (C2 := xC36) (as := [(2, 34), vi 1]) (s := []) rfl rfl rfl rfl rfl rfl rfl (sp36_34 (b := 1) hI ⟨by omega, by omega⟩ (by omega)  (by omega)) (fun r10 S11 hq12 => ?_)
      obtain ⟨rfl, h13, hI14, hF15, hR16⟩ := hq12
      have hF17 := hF.trans hF15 rfl rfl
      have hR18 := hR.trans hR16 rfl
      have e19 := PLx.fr e_PL hF15 hR16 rfl rfl rfl
      have e20 := FAx.fr e_FA hF15 rfl rfl
      have e21 := PTx.fr e_PL hF15 hR16 rfl rfl rfl
      refine Or.inl ⟨rfl, ?_⟩
      refine r_load (i := 87) (u := 0) (w := 2) rfl rfl rfl ?_
      refine r_getf (i := 88) (v := 5) (w := 8) (x := (2, 34)) rfl ly33 rfl rfl fun _ => ?_
      refine r_const (i := 89) (u := 2) (z := 2) rfl rfl ?_
      have h23 := hI14.b1
      refine r_call (i := 90) (u := 7) (v := 36) (w := 0) (b := 0) (na := 514) (C2 := xC36) (as := [(2, 34), vi 2]) (s := []) rfl rfl rfl rfl rfl rfl rfl (sp36_34 (b := 2) hI14 ⟨by omega, by omega⟩ (by omega)  (by omega)) (fun r24 S25 hq26 => ?_)
      obtain ⟨rfl, h27, hI28, hF29, hR30⟩ := hq26
      have hF31 := hF17.trans hF29 rfl rfl
      have hR32 := hR18.trans hR30 rfl
      have e33 := PLx.fr e19 hF29 hR30 rfl rfl rfl
      have e34 := FAx.fr e20 hF29 rfl rfl
      have e35 := PTx.fr e21 hF29 hR30 rfl rfl rfl
      refine Or.inl ⟨rfl, ?_⟩
      refine r_load (i := 91) (u := 0) (w := 2) rfl rfl rfl ?_
      refine r_load (i := 92) (u := 0) (w := 2) rfl rfl rfl ?_
      refine r_getf (i := 93) (v := 6) (w := 8) (x := (2, 36)) rfl ly33 rfl rfl fun _ => ?_
      refine r_str (i := 94) (v := 10) rfl ?_
      have h37 := slv10
      have h38 := hI28.b0
      have h39 : S25.f 31 1 = S11.f 31 1 := hF29.f rfl
      have h40 : S11.f 31 1 = S.f 31 1 := hF15.f rfl
      refine r_call (i := 95) (u := 9) (v := 98) (w := 0) (b := 0) (na := 770) (C2 := xC98) (as := [(2, 36), (6, 10)]) (s := [(2, 33)]) rfl rfl rfl rfl rfl rfl rfl (sp98 (s := 10) hI28 ⟨by decide, by decide⟩ (by omega) e33 (by omega)) (fun r41 S42 hq43 => ?_)
      obtain ⟨z44, rfl, h45, h46, h47, e48, hI49, hF50, hR51⟩ := hq43
      have hF52 := hF31.trans hF50 rfl rfl
      have hR53 := hR32.trans hR51 rfl
      have e54 := FAx.fr e34 hF50 rfl rfl
      refine Or.inr (Or.inl ⟨rfl, ?_⟩)
      refine r_putI (i := 96) (v := 8) (w := 8) rfl ly33 rfl ⟨by omega, by omega⟩ ?_
      have hI56 := hI49.setf0 (b := 33) (w := 8) (z := z44) rfl rfl
      have hF58 := hF52.setf (b := 33) (w := 8) (z := z44) rfl
      have hR59 := hR53.setf (b := 33) (w := 8) (z := z44)
      have e60 := FAx.setf e54 (b := 33) (w := 8) (z := z44) rfl
      have e61 := PLx.setf e48 (b := 33) (w := 8) (z := z44) rfl
      have e62 := PTx.setf e48 (b := 33) (w := 8) (z := z44) rfl
      refine yT_gen (fun S55 hS57 => ?_)
      rw [hS57] at hI56 hF58 hR59 e60 e61 e62
      refine r_load (i := 97) (u := 0) (w := 2) rfl rfl rfl ?_
      refine r_load (i := 98) (u := 0) (w := 2) rfl rfl rfl ?_
      refine r_getf (i := 99) (v := 6) (w := 8) (x := (2, 36)) rfl ly33 rfl rfl fun _ => ?_
      refine r_str (i := 100) (v := 11) rfl ?_
      have h64 := slv11
      have h65 := hI56.b0
      have h66 : S55.f 31 1 = S42.f 31 1 := by rw [← hS57]; exact ysf_ne (by decide)
      refine r_call (i := 101) (u := 9) (v := 98) (w := 0) (b := 0) (na := 770) (C2 := xC98) (as := [(2, 36), (6, 11)]) (s := [(2, 33)]) rfl rfl rfl rfl rfl rfl rfl (sp98 (s := 11) hI56 ⟨by decide, by decide⟩ (by omega) e61 (by omega)) (fun r67 S68 hq69 => ?_)
      obtain ⟨z70, rfl, h71, h72, h73, e74, hI75, hF76, hR77⟩ := hq69
      have hF78 := hF58.trans hF76 rfl rfl
      have hR79 := hR59.trans hR77 rfl
      have e80 := FAx.fr e60 hF76 rfl rfl
      refine Or.inr (Or.inl ⟨rfl, ?_⟩)
      refine r_putI (i := 102) (v := 9) (w := 8) rfl ly33 rfl ⟨by omega, by omega⟩ ?_
      have hI82 := hI75.setf0 (b := 33) (w := 9) (z := z70) rfl rfl
      have hF84 := hF78.setf (b := 33) (w := 9) (z := z70) rfl
      have hR85 := hR79.setf (b := 33) (w := 9) (z := z70)
      have e86 := FAx.setf e80 (b := 33) (w := 9) (z := z70) rfl
      have e87 := PLx.setf e74 (b := 33) (w := 9) (z := z70) rfl
      have e88 := PTx.setf e74 (b := 33) (w := 9) (z := z70) rfl
      refine yT_gen (fun S81 hS83 => ?_)
      rw [hS83] at hI82 hF84 hR85 e86 e87 e88
      refine r_load (i := 103) (u := 0) (w := 2) rfl rfl rfl ?_
      refine r_getf (i := 104) (v := 5) (w := 8) (x := (2, 34)) rfl ly33 rfl rfl fun _ => ?_
      refine r_load (i := 105) (u := 0) (w := 2) rfl rfl rfl ?_
      have h90 : S81.f 33 8 = S68.f 33 8 := by rw [← hS83]; exact ysf_ne (by decide)
      have h91 : S68.f 33 8 = S55.f 33 8 := hF76.f rfl
      have h92 : S55.f 33 8 = z44 := by rw [← hS57]; exact ysf_eq
      refine r_getf (i := 106) (v := 8) (w := 8) (x := vi (S81.f 33 8)) rfl ly33 rfl rfl fun h93 => ?_
      have h93 : Rg (S81.f 33 8) := h93
      have h94 := hI82.b1
      have h95 : S81.f 34 1 = S68.f 34 1 := by rw [← hS83]; exact ysf_ne (by decide)
      have h96 : S68.f 34 1 = S55.f 34 1 := hF76.f rfl
      have h97 : S55.f 34 1 = S42.f 34 1 := by rw [← hS57]; exact ysf_ne (by decide)
      have h98 : S42.f 34 1 = S25.f 34 1 := hF50.f rfl
      refine r_call (i := 107) (u := 7) (v := 36) (w := 0) (b := 0) (na := 514) (C2 := xC36) (as := [(2, 34), vi (S81.f 33 8)]) (s := []) rfl rfl rfl rfl rfl rfl rfl (sp36_34 (b := S81.f 33 8) hI82 ⟨by omega, by omega⟩ (by omega)  (by omega)) (fun r99 S100 hq101 => ?_)
      obtain ⟨rfl, h102, hI103, hF104, hR105⟩ := hq101
      have hF106 := hF84.trans hF104 rfl rfl
      have hR107 := hR85.trans hR105 rfl
      have e108 := FAx.fr e86 hF104 rfl rfl
      have e109 := PLx.fr e87 hF104 hR105 rfl rfl rfl
      have e110 := PTx.fr e88 hF104 hR105 rfl rfl rfl
      refine Or.inl ⟨rfl, ?_⟩
      refine r_load (i := 108) (u := 0) (w := 2) rfl rfl rfl ?_
      refine r_getf (i := 109) (v := 5) (w := 8) (x := (2, 34)) rfl ly33 rfl rfl fun _ => ?_
      refine r_load (i := 110) (u := 0) (w := 2) rfl rfl rfl ?_
      have h112 : S100.f 33 9 = S81.f 33 9 := hF104.f rfl
      have h113 : S81.f 33 9 = z70 := by rw [← hS83]; exact ysf_eq
      refine r_getf (i := 111) (v := 9) (w := 8) (x := vi (S100.f 33 9)) rfl ly33 rfl rfl fun h114 => ?_
      have h114 : Rg (S100.f 33 9) := h114
      have h115 := hI103.b1
      refine r_call (i := 112) (u := 7) (v := 36) (w := 0) (b := 0) (na := 514) (C2 := xC36) (as := [(2, 34), vi (S100.f 33 9)]) (s := []) rfl rfl rfl rfl rfl rfl rfl (sp36_34 (b := S100.f 33 9) hI103 ⟨by omega, by omega⟩ (by omega)  (by omega)) (fun r116 S117 hq118 => ?_)
      obtain ⟨rfl, h119, hI120, hF121, hR122⟩ := hq118
      have hF123 := hF106.trans hF121 rfl rfl
      have hR124 := hR107.trans hR122 rfl
      have e125 := FAx.fr e108 hF121 rfl rfl
      have e126 := PLx.fr e109 hF121 hR122 rfl rfl rfl
      have e127 := PTx.fr e110 hF121 hR122 rfl rfl rfl
      refine Or.inl ⟨rfl, ?_⟩
      refine r_load (i := 113) (u := 0) (w := 2) rfl rfl rfl ?_
      refine r_getf (i := 114) (v := 5) (w := 8) (x := (2, 34)) rfl ly33 rfl rfl fun _ => ?_
      refine r_const (i := 115) (u := 0) (z := 0) rfl rfl ?_
      have h129 := hI120.b1
      refine r_call (i := 116) (u := 7) (v := 36) (w := 0) (b := 0) (na := 514) (C2 := xC36) (as := [(2, 34), vi 0]) (s := []) rfl rfl rfl rfl rfl rfl rfl (sp36_34 (b := 0) hI120 ⟨by omega, by omega⟩ (by omega)  (by omega)) (fun r130 S131 hq132 => ?_)
      obtain ⟨rfl, h133, hI134, hF135, hR136⟩ := hq132
      have hF137 := hF123.trans hF135 rfl rfl
      have hR138 := hR124.trans hR136 rfl
      have e139 := FAx.fr e125 hF135 rfl rfl
      have e140 := PLx.fr e126 hF135 hR136 rfl rfl rfl
      have e141 := PTx.fr e127 hF135 hR136 rfl rfl rfl
      refine Or.inl ⟨rfl, ?_⟩
      refine r_load (i := 117) (u := 0) (w := 2) rfl rfl rfl ?_
      refine r_getf (i := 118) (v := 5) (w := 8) (x := (2, 34)) rfl ly33 rfl rfl fun _ => ?_
      refine r_load (i := 119) (u := 0) (w := 2) rfl rfl rfl ?_
      refine r_call (i := 120) (u := 8) (v := 150) (w := 0) (b := 0) (na := 769) (C2 := xC150) (as := [(2, 33)]) (s := [(2, 34)]) rfl rfl rfl rfl rfl rfl rfl (sp150  hI134    (by omega)) (fun r143 S144 hq145 => ?_)
      obtain ⟨z146, rfl, h147, h148, rfl⟩ := hq145
      refine Or.inr (Or.inl ⟨rfl, ?_⟩)
      refine r_load (i := 121) (u := 0) (w := 2) rfl rfl rfl ?_
      refine r_getf (i := 122) (v := 3) (w := 8) (x := (2, 22)) rfl ly33 rfl rfl fun _ => ?_
      have h150 := hI134.f tf22_3
      have h151 : S131.f 22 3 = S117.f 22 3 := hF135.f rfl
      have h152 : S117.f 22 3 = S100.f 22 3 := hF121.f rfl
      have h153 : S100.f 22 3 = S81.f 22 3 := hF104.f rfl
      have h154 : S81.f 22 3 = S68.f 22 3 := by rw [← hS83]; exact ysf_ne (by decide)
      have h155 : S68.f 22 3 = S55.f 22 3 := hF76.f rfl
      have h156 : S55.f 22 3 = S42.f 22 3 := by rw [← hS57]; exact ysf_ne (by decide)
      have h157 : S42.f 22 3 = S25.f 22 3 := hF50.f rfl
      have h158 : S25.f 22 3 = S11.f 22 3 := hF29.f rfl
      have h159 : S11.f 22 3 = S.f 22 3 := hF15.f rfl
      have h160 : S.f 22 3 = S0.f 22 3 := hF.f rfl
      refine r_getf (i := 123) (v := 3) (w := 4) (x := vi (S131.f 22 3)) rfl ly22 rfl rfl fun h161 => ?_
      have h161 : Rg (S131.f 22 3) := h161
      refine r_iadd (i := 124) rfl ?_
      have h162 := hI134.b1
      refine r_call (i := 125) (u := 7) (v := 36) (w := 0) (b := 0) (na := 514) (C2 := xC36) (as := [(2, 34), vi (z146 + (S131.f 22 3))]) (s := []) rfl rfl rfl rfl rfl rfl rfl (sp36_34 (b := z146 + (S131.f 22 3)) hI134 ⟨by omega, by omega⟩ (by omega)  (by omega)) (fun r163 S164 hq165 => ?_)
      obtain ⟨rfl, h166, hI167, hF168, hR169⟩ := hq165
      have hF170 := hF137.trans hF168 rfl rfl
      have hR171 := hR138.trans hR169 rfl
      have e172 := FAx.fr e139 hF168 rfl rfl
      have e173 := PLx.fr e140 hF168 hR169 rfl rfl rfl
      have e174 := PTx.fr e141 hF168 hR169 rfl rfl rfl
      refine Or.inl ⟨rfl, ?_⟩
      have h175 := hI167.b0
      have h176 : S164.f 31 1 = S131.f 31 1 := hF168.f rfl
      have h177 : S131.f 31 1 = S117.f 31 1 := hF135.f rfl
      have h178 : S117.f 31 1 = S100.f 31 1 := hF121.f rfl
      have h179 : S100.f 31 1 = S81.f 31 1 := hF104.f rfl
      have h180 : S81.f 31 1 = S68.f 31 1 := by rw [← hS83]; exact ysf_ne (by decide)
      have h181 := hI167.b1
      exact r_ret0 (i := 126) rfl ⟨rfl, (by omega), (by omega), e173, e172, hI167, hF170, hR171⟩
    · refine r_load (i := 70) (u := 0) (w := 2) rfl rfl rfl ?_
      refine r_getf (i := 71) (v := 5) (w := 8) (x := (2, 34)) rfl ly33 rfl rfl fun _ => ?_
      refine r_load (i := 72) (u := 0) (w := 2) rfl rfl rfl ?_
      refine r_getf (i := 73) (v := 6) (w := 8) (x := (2, 36)) rfl ly33 rfl rfl fun _ => ?_
      refine r_load (i := 74) (u := 0) (w := 2) rfl rfl rfl ?_
      refine r_getf (i := 75) (v := 2) (w := 8) (x := (2, 17)) rfl ly33 rfl rfl fun _ => ?_
      refine r_getf (i := 76) (v := 2) (w := 3) (x := (2, 18)) rfl ly17 rfl rfl fun _ => ?_
      refine r_load (i := 77) (u := 1) (w := 0) rfl rfl rfl ?_
      refine a_int (i := 78) rfl ly18 rfl (by omega) (by omega) fun h186 => ?_
      have h187 := hI.a ta18 k.toNat
      have h188 : S.a 18 k.toNat = S0.a 18 k.toNat := hF.a rfl _
      have fa9 := e_FA k.toNat (by omega)
      refine r_call (i := 79) (u := 9) (v := 89) (w := 0) (b := 0) (na := 770) (C2 := xC89) (as := [(2, 36), vi (S.a 18 k.toNat)]) (s := [(2, 34)]) rfl rfl rfl rfl rfl rfl rfl (sp89 (t := S.a 18 k.toNat) hI ⟨by omega, by omega⟩ (by omega) e_PL (by omega)) (fun r189 S190 hq191 => ?_)
      obtain ⟨z192, rfl, h193, h194, h195, e196, hI197, hF198, hR199⟩ := hq191
      have hF200 := hF.trans hF198 rfl rfl
      have hR201 := hR.trans hR199 rfl
      have e202 := FAx.fr e_FA hF198 rfl rfl
      refine Or.inr (Or.inl ⟨rfl, ?_⟩)
      have h203 := hI197.b1
      have h204 : S190.f 34 1 = S.f 34 1 := hF198.f rfl
      refine r_call (i := 80) (u := 7) (v := 36) (w := 0) (b := 0) (na := 514) (C2 := xC36) (as := [(2, 34), vi z192]) (s := []) rfl rfl rfl rfl rfl rfl rfl (sp36_34 (b := z192) hI197 ⟨by omega, by omega⟩ (by omega)  (by omega)) (fun r205 S206 hq207 => ?_)
      obtain ⟨rfl, h208, hI209, hF210, hR211⟩ := hq207
      have hF212 := hF200.trans hF210 rfl rfl
      have hR213 := hR201.trans hR211 rfl
      have e214 := FAx.fr e202 hF210 rfl rfl
      have e215 := PLx.fr e196 hF210 hR211 rfl rfl rfl
      have e216 := PTx.fr e196 hF210 hR211 rfl rfl rfl
      refine Or.inl ⟨rfl, ?_⟩
      refine r_iinc (i := 81) (u := 1) (v := 1) (s := 1) (L1 := [some ((2, 33)), some (vi (k + 1))]) rfl rfl rfl rfl rfl ?_
      refine r_goto (i := 82) (v := 65) rfl ?_
      have h217 := hI209.b0
      have h218 : S206.f 31 1 = S190.f 31 1 := hF210.f rfl
      have h219 := hI209.b1
      exact ih S206 hI209 hF212 hR213 e215 e214 (k + 1) ⟨by omega, by omega⟩ (by omega) (by omega) (by omega)
/-- ProxyForge$Writer.begin -/
theorem sp143 {G : xk} {S : yS} {d : Nat} (hI : yI S) (e_N23 : N23 S) (e_FA : FA S) (hd : 7 ≤ d) : yT xPr G LY xC143 0 [some ((2, 33))] [] S d (fun r S' => r = (0, (0, 0)) ∧ (10 ≤ S'.f 31 1 ∧ S'.f 31 1 ≤ 169) ∧ S'.f 34 1 ≤ 26 ∧ PL S' ∧ FA S' ∧ yI S' ∧ yFr [(31, 1), (33, 7), (33, 8), (33, 9), (34, 1), (36, 5)] [37, 100, 101, 102, 103, 105] S S' ∧ yRm [0, 1, 2, 3] S S') := by
  refine yT_pad 1 ?_
  show yT xPr G LY xC143 0 [some ((2, 33)), none] [] S d _
  obtain ⟨d, rfl⟩ : ∃ q, d = q + 1 := ⟨d - 1, by omega⟩
  have hF : yFr [(31, 1), (33, 7), (33, 8), (33, 9), (34, 1), (36, 5)] [37, 100, 101, 102, 103, 105] S S := yFr.refl S
  have hR : yRm [0, 1, 2, 3] S S := yRm.refl S
  refine r_load (i := 0) (u := 0) (w := 2) rfl rfl rfl ?_
  refine r_getf (i := 1) (v := 4) (w := 8) (x := (2, 31)) rfl ly33 rfl rfl fun _ => ?_
  refine r_const (i := 2) (u := 0) (z := 0) rfl rfl ?_
  refine r_putI (i := 3) (v := 1) (w := 7) rfl ly31 rfl ⟨by omega, by omega⟩ ?_
  have h6 := hI.bn
  have h7 := hI.br
  have hI3 := hI.use0 (z := 0) (by omega) (by omega) (by omega)
  have hF5 := hF.setf (b := 31) (w := 1) (z := 0) rfl
  have hR8 := hR.setf (b := 31) (w := 1) (z := 0)
  have e9 := N23x.setf e_N23 (b := 31) (w := 1) (z := 0) rfl
  have e10 := FAx.setf e_FA (b := 31) (w := 1) (z := 0) rfl
  refine yT_gen (fun S2 hS4 => ?_)
  rw [hS4] at hI3 hF5 hR8 e9 e10
  refine r_load (i := 4) (u := 0) (w := 2) rfl rfl rfl ?_
  refine r_getf (i := 5) (v := 4) (w := 8) (x := (2, 31)) rfl ly33 rfl rfl fun _ => ?_
  refine r_const (i := 6) (u := 3405691582) (z := -889275714) rfl rfl ?_
  have h12 := hI3.b0
  have h13 : S2.f 31 1 = 0 := by rw [← hS4]; exact ysf_eq
  refine r_call (i := 7) (u := 7) (v := 24) (w := 0) (b := 0) (na := 514) (C2 := xC24) (as := [(2, 31), vi (-889275714)]) (s := []) rfl rfl rfl rfl rfl rfl rfl (sp24_31 (b := -889275714) hI3 ⟨by omega, by omega⟩ (by omega)  (by omega)) (fun r14 S15 hq16 => ?_)
  obtain ⟨rfl, h17, hI18, hF19, hR20⟩ := hq16
  have hF21 := hF5.trans hF19 rfl rfl
  have hR22 := hR8.trans hR20 rfl
  have e23 := N23x.fr e9 hF19 hR20 rfl rfl rfl
  have e24 := FAx.fr e10 hF19 rfl rfl
  refine Or.inl ⟨rfl, ?_⟩
  refine r_load (i := 8) (u := 0) (w := 2) rfl rfl rfl ?_
  refine r_getf (i := 9) (v := 4) (w := 8) (x := (2, 31)) rfl ly33 rfl rfl fun _ => ?_
  refine r_const (i := 10) (u := 0) (z := 0) rfl rfl ?_
  have h26 := hI18.b0
  refine r_call (i := 11) (u := 7) (v := 36) (w := 0) (b := 0) (na := 514) (C2 := xC36) (as := [(2, 31), vi 0]) (s := []) rfl rfl rfl rfl rfl rfl rfl (sp36_31 (b := 0) hI18 ⟨by omega, by omega⟩ (by omega)  (by omega)) (fun r27 S28 hq29 => ?_)
  obtain ⟨rfl, h30, hI31, hF32, hR33⟩ := hq29
  have hF34 := hF21.trans hF32 rfl rfl
  have hR35 := hR22.trans hR33 rfl
  have e36 := N23x.fr e23 hF32 hR33 rfl rfl rfl
  have e37 := FAx.fr e24 hF32 rfl rfl
  refine Or.inl ⟨rfl, ?_⟩
  refine r_load (i := 12) (u := 0) (w := 2) rfl rfl rfl ?_
  refine r_getf (i := 13) (v := 4) (w := 8) (x := (2, 31)) rfl ly33 rfl rfl fun _ => ?_
  refine r_const (i := 14) (u := 52) (z := 52) rfl rfl ?_
  have h39 := hI31.b0
  refine r_call (i := 15) (u := 7) (v := 36) (w := 0) (b := 0) (na := 514) (C2 := xC36) (as := [(2, 31), vi 52]) (s := []) rfl rfl rfl rfl rfl rfl rfl (sp36_31 (b := 52) hI31 ⟨by omega, by omega⟩ (by omega)  (by omega)) (fun r40 S41 hq42 => ?_)
  obtain ⟨rfl, h43, hI44, hF45, hR46⟩ := hq42
  have hF47 := hF34.trans hF45 rfl rfl
  have hR48 := hR35.trans hR46 rfl
  have e49 := N23x.fr e36 hF45 hR46 rfl rfl rfl
  have e50 := FAx.fr e37 hF45 rfl rfl
  refine Or.inl ⟨rfl, ?_⟩
  refine r_load (i := 16) (u := 0) (w := 2) rfl rfl rfl ?_
  refine r_getf (i := 17) (v := 4) (w := 8) (x := (2, 31)) rfl ly33 rfl rfl fun _ => ?_
  refine r_const (i := 18) (u := 0) (z := 0) rfl rfl ?_
  have h52 := hI44.b0
  refine r_call (i := 19) (u := 7) (v := 36) (w := 0) (b := 0) (na := 514) (C2 := xC36) (as := [(2, 31), vi 0]) (s := []) rfl rfl rfl rfl rfl rfl rfl (sp36_31 (b := 0) hI44 ⟨by omega, by omega⟩ (by omega)  (by omega)) (fun r53 S54 hq55 => ?_)
  obtain ⟨rfl, h56, hI57, hF58, hR59⟩ := hq55
  have hF60 := hF47.trans hF58 rfl rfl
  have hR61 := hR48.trans hR59 rfl
  have e62 := N23x.fr e49 hF58 hR59 rfl rfl rfl
  have e63 := FAx.fr e50 hF58 rfl rfl
  refine Or.inl ⟨rfl, ?_⟩
  refine r_load (i := 20) (u := 0) (w := 2) rfl rfl rfl ?_
  refine r_getf (i := 21) (v := 6) (w := 8) (x := (2, 36)) rfl ly33 rfl rfl fun _ => ?_
  refine r_call (i := 22) (u := 9) (v := 90) (w := 0) (b := 0) (na := 257) (C2 := xC90) (as := [(2, 36)]) (s := []) rfl rfl rfl rfl rfl rfl rfl (sp90  hI57   e62 (by omega)) (fun r65 S66 hq67 => ?_)
  obtain ⟨rfl, e68, hI69, hF70, hR71⟩ := hq67
  have hF72 := hF60.trans hF70 rfl rfl
  have hR73 := hR61.trans hR71 rfl
  have e74 := N23x.fr e62 hF70 hR71 rfl rfl rfl
  have e75 := FAx.fr e63 hF70 rfl rfl
  refine Or.inl ⟨rfl, ?_⟩
  refine r_load (i := 23) (u := 0) (w := 2) rfl rfl rfl ?_
  refine r_getf (i := 24) (v := 5) (w := 8) (x := (2, 34)) rfl ly33 rfl rfl fun _ => ?_
  refine r_const (i := 25) (u := 0) (z := 0) rfl rfl ?_
  refine r_putI (i := 26) (v := 1) (w := 7) rfl ly34 rfl ⟨by omega, by omega⟩ ?_
  have h81 := hI69.bn
  have h82 := hI69.br
  have h83 := e68.n
  have h84 : S66.n 0 = S54.n 0 := hR71.eq rfl rfl
  have h85 : S66.n 1 = S54.n 1 := hR71.eq rfl rfl
  have h86 : S66.n 2 = S54.n 2 := hR71.eq rfl rfl
  have h87 : S66.n 3 = S54.n 3 := hR71.eq rfl rfl
  have h88 : S66.n 4 = S54.n 4 := hR71.eq rfl rfl
  have h89 : S41.n 0 ≤ S54.n 0 := hR59.n 0 (by decide)
  have h90 : S54.n 1 = S41.n 1 := hR59.eq rfl rfl
  have h91 : S54.n 2 = S41.n 2 := hR59.eq rfl rfl
  have h92 : S54.n 3 = S41.n 3 := hR59.eq rfl rfl
  have h93 : S54.n 4 = S41.n 4 := hR59.eq rfl rfl
  have h94 : S28.n 0 ≤ S41.n 0 := hR46.n 0 (by decide)
  have h95 : S41.n 1 = S28.n 1 := hR46.eq rfl rfl
  have h96 : S41.n 2 = S28.n 2 := hR46.eq rfl rfl
  have h97 : S41.n 3 = S28.n 3 := hR46.eq rfl rfl
  have h98 : S41.n 4 = S28.n 4 := hR46.eq rfl rfl
  have h99 : S15.n 0 ≤ S28.n 0 := hR33.n 0 (by decide)
  have h100 : S28.n 1 = S15.n 1 := hR33.eq rfl rfl
  have h101 : S28.n 2 = S15.n 2 := hR33.eq rfl rfl
  have h102 : S28.n 3 = S15.n 3 := hR33.eq rfl rfl
  have h103 : S28.n 4 = S15.n 4 := hR33.eq rfl rfl
  have h104 : S2.n 0 ≤ S15.n 0 := hR20.n 0 (by decide)
  have h105 : S15.n 1 = S2.n 1 := hR20.eq rfl rfl
  have h106 : S15.n 2 = S2.n 2 := hR20.eq rfl rfl
  have h107 : S15.n 3 = S2.n 3 := hR20.eq rfl rfl
  have h108 : S15.n 4 = S2.n 4 := hR20.eq rfl rfl
  have h109 : S2.n = S.n := by rw [← hS4]; rfl
  have h110 : S2.n 0 = S.n 0 := congrFun h109 0
  have h111 : S2.n 1 = S.n 1 := congrFun h109 1
  have h112 : S2.n 2 = S.n 2 := congrFun h109 2
  have h113 : S2.n 3 = S.n 3 := congrFun h109 3
  have h114 : S2.n 4 = S.n 4 := congrFun h109 4
  have hI78 := hI69.use1 (z := 0) (by omega) (by omega) (by omega)
  have hF80 := hF72.setf (b := 34) (w := 1) (z := 0) rfl
  have hR115 := hR73.setf (b := 34) (w := 1) (z := 0)
  have e116 := N23x.setf e74 (b := 34) (w := 1) (z := 0) rfl
  have e117 := FAx.setf e75 (b := 34) (w := 1) (z := 0) rfl
  have e118 := PLx.setf e68 (b := 34) (w := 1) (z := 0) rfl
  have e119 := PTx.setf e68 (b := 34) (w := 1) (z := 0) rfl
  refine yT_gen (fun S77 hS79 => ?_)
  rw [hS79] at hI78 hF80 hR115 e116 e117 e118 e119
  refine r_load (i := 27) (u := 0) (w := 2) rfl rfl rfl ?_
  refine r_getf (i := 28) (v := 5) (w := 8) (x := (2, 34)) rfl ly33 rfl rfl fun _ => ?_
  refine r_const (i := 29) (u := 49) (z := 49) rfl rfl ?_
  have h121 := hI78.b1
  have h122 : S77.f 34 1 = 0 := by rw [← hS79]; exact ysf_eq
  refine r_call (i := 30) (u := 7) (v := 36) (w := 0) (b := 0) (na := 514) (C2 := xC36) (as := [(2, 34), vi 49]) (s := []) rfl rfl rfl rfl rfl rfl rfl (sp36_34 (b := 49) hI78 ⟨by omega, by omega⟩ (by omega)  (by omega)) (fun r123 S124 hq125 => ?_)
  obtain ⟨rfl, h126, hI127, hF128, hR129⟩ := hq125
  have hF130 := hF80.trans hF128 rfl rfl
  have hR131 := hR115.trans hR129 rfl
  have e132 := N23x.fr e116 hF128 hR129 rfl rfl rfl
  have e133 := FAx.fr e117 hF128 rfl rfl
  have e134 := PLx.fr e118 hF128 hR129 rfl rfl rfl
  have e135 := PTx.fr e119 hF128 hR129 rfl rfl rfl
  refine Or.inl ⟨rfl, ?_⟩
  refine r_load (i := 31) (u := 0) (w := 2) rfl rfl rfl ?_
  refine r_load (i := 32) (u := 0) (w := 2) rfl rfl rfl ?_
  refine r_getf (i := 33) (v := 6) (w := 8) (x := (2, 36)) rfl ly33 rfl rfl fun _ => ?_
  refine r_load (i := 34) (u := 0) (w := 2) rfl rfl rfl ?_
  refine r_getf (i := 35) (v := 0) (w := 8) (x := (2, 1)) rfl ly33 rfl rfl fun _ => ?_
  refine r_getf (i := 36) (v := 2) (w := 1) (x := (2, 4)) rfl ly1 rfl rfl fun _ => ?_
  refine r_load (i := 37) (u := 0) (w := 2) rfl rfl rfl ?_
  refine r_getf (i := 38) (v := 2) (w := 8) (x := (2, 17)) rfl ly33 rfl rfl fun _ => ?_
  have h140 := hI127.f tf17_6
  have h141 : S124.f 17 6 = S77.f 17 6 := hF128.f rfl
  have h142 : S77.f 17 6 = S66.f 17 6 := by rw [← hS79]; exact ysf_ne (by decide)
  have h143 : S66.f 17 6 = S54.f 17 6 := hF70.f rfl
  have h144 : S54.f 17 6 = S41.f 17 6 := hF58.f rfl
  have h145 : S41.f 17 6 = S28.f 17 6 := hF45.f rfl
  have h146 : S28.f 17 6 = S15.f 17 6 := hF32.f rfl
  have h147 : S15.f 17 6 = S2.f 17 6 := hF19.f rfl
  have h148 : S2.f 17 6 = S.f 17 6 := by rw [← hS4]; exact ysf_ne (by decide)
  refine r_getf (i := 39) (v := 6) (w := 3) (x := vi (S124.f 17 6)) rfl ly17 rfl rfl fun h149 => ?_
  have h149 : Rg (S124.f 17 6) := h149
  refine a_int (i := 40) rfl ly4 rfl (by omega) (by omega) fun h150 => ?_
  have h151 := hI127.a ta4 (S124.f 17 6).toNat
  have h152 : S124.a 4 (S124.f 17 6).toNat = S77.a 4 (S124.f 17 6).toNat := hF128.a rfl _
  have h153 : S77.a 4 (S124.f 17 6).toNat = S66.a 4 (S124.f 17 6).toNat := by rw [← hS79]; rfl
  have h154 : S66.a 4 (S124.f 17 6).toNat = S54.a 4 (S124.f 17 6).toNat := hF70.a rfl _
  have h155 : S54.a 4 (S124.f 17 6).toNat = S41.a 4 (S124.f 17 6).toNat := hF58.a rfl _
  have h156 : S41.a 4 (S124.f 17 6).toNat = S28.a 4 (S124.f 17 6).toNat := hF45.a rfl _
  have h157 : S28.a 4 (S124.f 17 6).toNat = S15.a 4 (S124.f 17 6).toNat := hF32.a rfl _
  have h158 := hI127.b0
  have h159 : S124.f 31 1 = S77.f 31 1 := hF128.f rfl
  have h160 : S77.f 31 1 = S66.f 31 1 := by rw [← hS79]; exact ysf_ne (by decide)
  have h161 : S66.f 31 1 = S54.f 31 1 := hF70.f rfl
  refine r_call (i := 41) (u := 9) (v := 95) (w := 0) (b := 0) (na := 770) (C2 := xC95) (as := [(2, 36), vi (S124.a 4 (S124.f 17 6).toNat)]) (s := [(2, 33)]) rfl rfl rfl rfl rfl rfl rfl (sp95 (p := S124.a 4 (S124.f 17 6).toNat) hI127 ⟨by omega, by omega⟩ (by omega) e134 (by omega)) (fun r162 S163 hq164 => ?_)
  obtain ⟨z165, rfl, h166, h167, h168, e169, hI170, hF171, hR172⟩ := hq164
  have hF173 := hF130.trans hF171 rfl rfl
  have hR174 := hR131.trans hR172 rfl
  have e175 := FAx.fr e133 hF171 rfl rfl
  refine Or.inr (Or.inl ⟨rfl, ?_⟩)
  refine r_putI (i := 42) (v := 7) (w := 8) rfl ly33 rfl ⟨by omega, by omega⟩ ?_
  have hI177 := hI170.setf0 (b := 33) (w := 7) (z := z165) rfl rfl
  have hF179 := hF173.setf (b := 33) (w := 7) (z := z165) rfl
  have hR180 := hR174.setf (b := 33) (w := 7) (z := z165)
  have e181 := FAx.setf e175 (b := 33) (w := 7) (z := z165) rfl
  have e182 := PLx.setf e169 (b := 33) (w := 7) (z := z165) rfl
  have e183 := PTx.setf e169 (b := 33) (w := 7) (z := z165) rfl
  refine yT_gen (fun S176 hS178 => ?_)
  rw [hS178] at hI177 hF179 hR180 e181 e182 e183
  refine r_load (i := 43) (u := 0) (w := 2) rfl rfl rfl ?_
  refine r_getf (i := 44) (v := 5) (w := 8) (x := (2, 34)) rfl ly33 rfl rfl fun _ => ?_
  refine r_load (i := 45) (u := 0) (w := 2) rfl rfl rfl ?_
  have h185 : S176.f 33 7 = z165 := by rw [← hS178]; exact ysf_eq
  refine r_getf (i := 46) (v := 7) (w := 8) (x := vi (S176.f 33 7)) rfl ly33 rfl rfl fun h186 => ?_
  have h186 : Rg (S176.f 33 7) := h186
  have h187 := hI177.b1
  have h188 : S176.f 34 1 = S163.f 34 1 := by rw [← hS178]; exact ysf_ne (by decide)
  have h189 : S163.f 34 1 = S124.f 34 1 := hF171.f rfl
  refine r_call (i := 47) (u := 7) (v := 36) (w := 0) (b := 0) (na := 514) (C2 := xC36) (as := [(2, 34), vi (S176.f 33 7)]) (s := []) rfl rfl rfl rfl rfl rfl rfl (sp36_34 (b := S176.f 33 7) hI177 ⟨by omega, by omega⟩ (by omega)  (by omega)) (fun r190 S191 hq192 => ?_)
  obtain ⟨rfl, h193, hI194, hF195, hR196⟩ := hq192
  have hF197 := hF179.trans hF195 rfl rfl
  have hR198 := hR180.trans hR196 rfl
  have e199 := FAx.fr e181 hF195 rfl rfl
  have e200 := PLx.fr e182 hF195 hR196 rfl rfl rfl
  have e201 := PTx.fr e183 hF195 hR196 rfl rfl rfl
  refine Or.inl ⟨rfl, ?_⟩
  refine r_load (i := 48) (u := 0) (w := 2) rfl rfl rfl ?_
  refine r_getf (i := 49) (v := 5) (w := 8) (x := (2, 34)) rfl ly33 rfl rfl fun _ => ?_
  refine r_load (i := 50) (u := 0) (w := 2) rfl rfl rfl ?_
  refine r_getf (i := 51) (v := 6) (w := 8) (x := (2, 36)) rfl ly33 rfl rfl fun _ => ?_
  refine r_load (i := 52) (u := 0) (w := 2) rfl rfl rfl ?_
  refine r_getf (i := 53) (v := 2) (w := 8) (x := (2, 17)) rfl ly33 rfl rfl fun _ => ?_
  have h205 := hI194.f tf17_6
  have h206 : S191.f 17 6 = S176.f 17 6 := hF195.f rfl
  have h207 : S176.f 17 6 = S163.f 17 6 := by rw [← hS178]; exact ysf_ne (by decide)
  have h208 : S163.f 17 6 = S124.f 17 6 := hF171.f rfl
  have h209 : S124.f 17 6 = S77.f 17 6 := hF128.f rfl
  have h210 : S77.f 17 6 = S66.f 17 6 := by rw [← hS79]; exact ysf_ne (by decide)
  have h211 : S66.f 17 6 = S54.f 17 6 := hF70.f rfl
  have h212 : S54.f 17 6 = S41.f 17 6 := hF58.f rfl
  have h213 : S41.f 17 6 = S28.f 17 6 := hF45.f rfl
  have h214 : S28.f 17 6 = S15.f 17 6 := hF32.f rfl
  have h215 : S15.f 17 6 = S2.f 17 6 := hF19.f rfl
  have h216 : S2.f 17 6 = S.f 17 6 := by rw [← hS4]; exact ysf_ne (by decide)
  refine r_getf (i := 54) (v := 6) (w := 3) (x := vi (S191.f 17 6)) rfl ly17 rfl rfl fun h217 => ?_
  have h217 : Rg (S191.f 17 6) := h217
  have h218 := hI194.b0
  have h219 : S191.f 31 1 = S176.f 31 1 := hF195.f rfl
  have h220 : S176.f 31 1 = S163.f 31 1 := by rw [← hS178]; exact ysf_ne (by decide)
  refine r_call (i := 55) (u := 9) (v := 89) (w := 0) (b := 0) (na := 770) (C2 := xC89) (as := [(2, 36), vi (S191.f 17 6)]) (s := [(2, 34)]) rfl rfl rfl rfl rfl rfl rfl (sp89 (t := S191.f 17 6) hI194 ⟨by omega, by omega⟩ (by omega) e200 (by omega)) (fun r221 S222 hq223 => ?_)
  obtain ⟨z224, rfl, h225, h226, h227, e228, hI229, hF230, hR231⟩ := hq223
  have hF232 := hF197.trans hF230 rfl rfl
  have hR233 := hR198.trans hR231 rfl
  have e234 := FAx.fr e199 hF230 rfl rfl
  refine Or.inr (Or.inl ⟨rfl, ?_⟩)
  have h235 := hI229.b1
  have h236 : S222.f 34 1 = S191.f 34 1 := hF230.f rfl
  refine r_call (i := 56) (u := 7) (v := 36) (w := 0) (b := 0) (na := 514) (C2 := xC36) (as := [(2, 34), vi z224]) (s := []) rfl rfl rfl rfl rfl rfl rfl (sp36_34 (b := z224) hI229 ⟨by omega, by omega⟩ (by omega)  (by omega)) (fun r237 S238 hq239 => ?_)
  obtain ⟨rfl, h240, hI241, hF242, hR243⟩ := hq239
  have hF244 := hF232.trans hF242 rfl rfl
  have hR245 := hR233.trans hR243 rfl
  have e246 := FAx.fr e234 hF242 rfl rfl
  have e247 := PLx.fr e228 hF242 hR243 rfl rfl rfl
  have e248 := PTx.fr e228 hF242 hR243 rfl rfl rfl
  refine Or.inl ⟨rfl, ?_⟩
  refine r_load (i := 57) (u := 0) (w := 2) rfl rfl rfl ?_
  refine r_getf (i := 58) (v := 5) (w := 8) (x := (2, 34)) rfl ly33 rfl rfl fun _ => ?_
  refine r_load (i := 59) (u := 0) (w := 2) rfl rfl rfl ?_
  refine r_getf (i := 60) (v := 2) (w := 8) (x := (2, 17)) rfl ly33 rfl rfl fun _ => ?_
  have h251 := hI241.f tf17_7
  have h252 : S238.f 17 7 = S222.f 17 7 := hF242.f rfl
  have h253 : S222.f 17 7 = S191.f 17 7 := hF230.f rfl
  have h254 : S191.f 17 7 = S176.f 17 7 := hF195.f rfl
  have h255 : S176.f 17 7 = S163.f 17 7 := by rw [← hS178]; exact ysf_ne (by decide)
  have h256 : S163.f 17 7 = S124.f 17 7 := hF171.f rfl
  have h257 : S124.f 17 7 = S77.f 17 7 := hF128.f rfl
  have h258 : S77.f 17 7 = S66.f 17 7 := by rw [← hS79]; exact ysf_ne (by decide)
  have h259 : S66.f 17 7 = S54.f 17 7 := hF70.f rfl
  have h260 : S54.f 17 7 = S41.f 17 7 := hF58.f rfl
  have h261 : S41.f 17 7 = S28.f 17 7 := hF45.f rfl
  have h262 : S28.f 17 7 = S15.f 17 7 := hF32.f rfl
  have h263 : S15.f 17 7 = S2.f 17 7 := hF19.f rfl
  have h264 : S2.f 17 7 = S.f 17 7 := by rw [← hS4]; exact ysf_ne (by decide)
  refine r_getf (i := 61) (v := 7) (w := 3) (x := vi (S238.f 17 7)) rfl ly17 rfl rfl fun h265 => ?_
  have h265 : Rg (S238.f 17 7) := h265
  have h266 := hI241.b1
  refine r_call (i := 62) (u := 7) (v := 36) (w := 0) (b := 0) (na := 514) (C2 := xC36) (as := [(2, 34), vi (S238.f 17 7)]) (s := []) rfl rfl rfl rfl rfl rfl rfl (sp36_34 (b := S238.f 17 7) hI241 ⟨by omega, by omega⟩ (by omega)  (by omega)) (fun r267 S268 hq269 => ?_)
  obtain ⟨rfl, h270, hI271, hF272, hR273⟩ := hq269
  have hF274 := hF244.trans hF272 rfl rfl
  have hR275 := hR245.trans hR273 rfl
  have e276 := FAx.fr e246 hF272 rfl rfl
  have e277 := PLx.fr e247 hF272 hR273 rfl rfl rfl
  have e278 := PTx.fr e248 hF272 hR273 rfl rfl rfl
  refine Or.inl ⟨rfl, ?_⟩
  refine r_const (i := 63) (u := 0) (z := 0) rfl rfl ?_
  refine r_store (i := 64) (u := 1) (w := 0) (L1 := [some ((2, 33)), some (vi 0)]) rfl rfl rfl rfl ?_
  have h279 := hI271.b0
  have h280 : S268.f 31 1 = S238.f 31 1 := hF272.f rfl
  have h281 : S238.f 31 1 = S222.f 31 1 := hF242.f rfl
  have h282 := hI271.b1
  exact lp143_65   hd _ S268 hI271 hF274 hR275 e277 e276 0 ⟨by omega, by omega⟩ (by omega) (by omega) (Int.lt_succ_toNat _)
/-- ProxyForge$Writer.end -/
theorem sp151 {G : xk} {S : yS} {d : Nat} (hI : yI S) (p_0 : 10 ≤ S.f 31 1) (p_1 : S.f 31 1 + S.f 34 1 + 2 ≤ 60000) (e_PL : PL S) (hd : 6 ≤ d) : yT xPr G LY xC151 0 [some ((2, 33))] [] S d (fun r S' => r = (0, (0, 0)) ∧ S.f 31 1 ≤ S'.f 31 1 ∧ PL S' ∧ yI S' ∧ yFr [(31, 1), (34, 1)] [100, 101, 105] S S' ∧ yRm [0, 1] S S') := by
  refine yT_pad 0 ?_
  show yT xPr G LY xC151 0 [some ((2, 33))] [] S d _
  obtain ⟨d, rfl⟩ : ∃ q, d = q + 1 := ⟨d - 1, by omega⟩
  have hF : yFr [(31, 1), (34, 1)] [100, 101, 105] S S := yFr.refl S
  have hR : yRm [0, 1] S S := yRm.refl S
  have h1 := hI.b0
  have h2 := hI.b1
  refine r_load (i := 0) (u := 0) (w := 2) rfl rfl rfl ?_
  refine r_getf (i := 1) (v := 5) (w := 8) (x := (2, 34)) rfl ly33 rfl rfl fun _ => ?_
  refine r_const (i := 2) (u := 0) (z := 0) rfl rfl ?_
  refine r_call (i := 3) (u := 7) (v := 36) (w := 0) (b := 0) (na := 514) (C2 := xC36) (as := [(2, 34), vi 0]) (s := []) rfl rfl rfl rfl rfl rfl rfl (sp36_34 (b := 0) hI ⟨by omega, by omega⟩ (by omega)  (by omega)) (fun r4 S5 hq6 => ?_)
  obtain ⟨rfl, h7, hI8, hF9, hR10⟩ := hq6
  have hF11 := hF.trans hF9 rfl rfl
  have hR12 := hR.trans hR10 rfl
  have e13 := PLx.fr e_PL hF9 hR10 rfl rfl rfl
  have e14 := PTx.fr e_PL hF9 hR10 rfl rfl rfl
  refine Or.inl ⟨rfl, ?_⟩
  refine r_load (i := 4) (u := 0) (w := 2) rfl rfl rfl ?_
  refine r_getf (i := 5) (v := 4) (w := 8) (x := (2, 31)) rfl ly33 rfl rfl fun _ => ?_
  refine r_const (i := 6) (u := 8) (z := 8) rfl rfl ?_
  refine r_load (i := 7) (u := 0) (w := 2) rfl rfl rfl ?_
  refine r_getf (i := 8) (v := 6) (w := 8) (x := (2, 36)) rfl ly33 rfl rfl fun _ => ?_
  have h17 : S5.f 36 5 = S.f 36 5 := hF9.f rfl
  refine r_getf (i := 9) (v := 5) (w := 9) (x := vi (S5.f 36 5)) rfl ly36 rfl rfl fun h18 => ?_
  have h18 : Rg (S5.f 36 5) := h18
  refine r_const (i := 10) (u := 1) (z := 1) rfl rfl ?_
  have pn9 := (e13).n
  have bn9 := (hI8).bn
  refine r_iadd (i := 11) rfl ?_
  have h19 := hI8.bn
  have h20 := hI8.br
  have h21 := e13.n
  have h22 : S5.n 0 = S.n 0 := hR10.eq rfl rfl
  have h23 : S.n 1 ≤ S5.n 1 := hR10.n 1 (by decide)
  have h24 : S5.n 2 = S.n 2 := hR10.eq rfl rfl
  have h25 : S5.n 3 = S.n 3 := hR10.eq rfl rfl
  have h26 : S5.n 4 = S.n 4 := hR10.eq rfl rfl
  refine r_call (i := 12) (u := 7) (v := 33) (w := 0) (b := 0) (na := 771) (C2 := xC33) (as := [(2, 31), vi 8, vi ((S5.f 36 5) + 1)]) (s := []) rfl rfl rfl rfl rfl rfl rfl (sp33_31 (k := 8) (b := (S5.f 36 5) + 1) hI8 ⟨by omega, by omega⟩ ⟨by omega, by omega⟩ (by omega)  (by omega)) (fun r27 S28 hq29 => ?_)
  obtain ⟨rfl, hI30, hF31, hR32⟩ := hq29
  have hF33 := hF11.trans hF31 rfl rfl
  have hR34 := hR12.trans hR32 rfl
  have e35 := PLx.fr e13 hF31 hR32 rfl rfl rfl
  have e36 := PTx.fr e14 hF31 hR32 rfl rfl rfl
  refine Or.inl ⟨rfl, ?_⟩
  refine r_load (i := 13) (u := 0) (w := 2) rfl rfl rfl ?_
  refine r_getf (i := 14) (v := 4) (w := 8) (x := (2, 31)) rfl ly33 rfl rfl fun _ => ?_
  refine r_load (i := 15) (u := 0) (w := 2) rfl rfl rfl ?_
  refine r_getf (i := 16) (v := 5) (w := 8) (x := (2, 34)) rfl ly33 rfl rfl fun _ => ?_
  have h39 := hI30.b0
  have h40 : S28.f 31 1 = S5.f 31 1 := hF31.f rfl
  have h41 : S5.f 31 1 = S.f 31 1 := hF9.f rfl
  have h42 := hI30.b1
  have h43 : S28.f 34 1 = S5.f 34 1 := hF31.f rfl
  refine r_call (i := 17) (u := 7) (v := 23) (w := 0) (b := 0) (na := 770) (C2 := xC23) (as := [(2, 31), (2, 34)]) (s := []) rfl rfl rfl rfl rfl rfl rfl (sp23_31  hI30  (by omega)  (by omega)) (fun r44 S45 hq46 => ?_)
  obtain ⟨rfl, h47, hI48, hF49, hR50⟩ := hq46
  have hF51 := hF33.trans hF49 rfl rfl
  have hR52 := hR34.trans hR50 rfl
  have h54 := hI48.b0
  have e53 : PL S45 := PLat.up e35 (hF49.f rfl) (by omega) (hR50.eq rfl rfl) (hR50.eq rfl rfl) (hF49.a rfl) (hF49.a rfl) (hF49.a rfl)
  have e55 := PTx.fr e36 hF49 hR50 rfl rfl rfl
  refine Or.inl ⟨rfl, ?_⟩
  have h56 := hI48.b0
  exact r_ret0 (i := 18) rfl ⟨rfl, (by omega), e53, hI48, hF51, hR52⟩
/-- ProxyForge.areFacesInOrder -/
theorem sp2 {G : xk} {S : yS} {d : Nat} (hI : yI S) {a : Int} (h_a : -2147483648 ≤ a ∧ a ≤ 2147483647) {b : Int} (h_b : -2147483648 ≤ b ∧ b ≤ 2147483647) {c : Int} (h_c : -2147483648 ≤ c ∧ c ≤ 2147483647) (hd : 1 ≤ d) : yT xPr G LY xC2 0 [some ((2, 0)), some (vi a), some (vi b), some (vi c)] [] S d (fun r S' => ∃ z : Int, r = (1, vi z) ∧ 0 ≤ z ∧ z ≤ 1 ∧ (z = 1 → -1 ≤ a ∧ a ≤ 19 ∧ -1 ≤ b ∧ b ≤ 19 ∧ -1 ≤ c ∧ c ≤ 19) ∧ (z = 1 → ∀ t9 : Int, 0 ≤ t9 → t9 < S.f 1 7 → goC S t9 a b c) ∧ (z = 0 → ∀ t9 : Int, ¬ goC S t9 a b c) ∧ S = S') := by
  refine yT_pad 0 ?_
  show yT xPr G LY xC2 0 [some ((2, 0)), some (vi a), some (vi b), some (vi c)] [] S d _
  obtain ⟨d, rfl⟩ : ∃ q, d = q + 1 := ⟨d - 1, by omega⟩
  refine r_load (i := 0) (u := 1) (w := 0) rfl rfl rfl ?_
  refine r_const (i := 1) (u := 4294967295) (z := -1) rfl rfl ?_
  refine c_ne (i := 2) (v := 13) rfl ⟨by omega, by omega⟩ ⟨by omega, by omega⟩ (fun h1 => ?_) (fun h2 => ?_)
  · refine r_load (i := 13) (u := 2) (w := 0) rfl rfl rfl ?_
    refine r_const (i := 14) (u := 4294967295) (z := -1) rfl rfl ?_
    refine c_ne (i := 15) (v := 29) rfl ⟨by omega, by omega⟩ ⟨by omega, by omega⟩ (fun h3 => ?_) (fun h4 => ?_)
    · refine r_load (i := 29) (u := 0) (w := 2) rfl rfl rfl ?_
      refine r_getf (i := 30) (v := 0) (w := 0) (x := (2, 1)) rfl ly0 rfl rfl fun _ => ?_
      refine r_load (i := 31) (u := 1) (w := 0) rfl rfl rfl ?_
      refine r_i2l (i := 32) rfl ⟨by omega, by omega⟩ ?_
      have h6 := hI.f tf1_7
      refine r_call (i := 33) (u := 1) (v := 131) (w := 0) (b := 0) (na := 770) (C2 := xC131) (as := [(2, 1), vl a]) (s := []) rfl rfl rfl rfl rfl rfl rfl (sp131 (t := a) hI ⟨by omega, by omega⟩   (by omega)) (fun r7 S8 hq9 => ?_)
      obtain ⟨z10, rfl, h11, h12, h13, h14, rfl⟩ := hq9
      refine Or.inr (Or.inl ⟨rfl, ?_⟩)
      refine z_eq (i := 34) (v := 52) rfl ⟨by omega, by omega⟩ (fun h15 => ?_) (fun h16 => ?_)
      · refine r_const (i := 52) (u := 0) (z := 0) rfl rfl ?_
        exact r_retZ (i := 53) rfl (by omega) (by omega) ⟨0, rfl, by omega, by omega, (by omega), (by intro hz; first | exact absurd hz (by omega) | exact fun t9 a9 b9 => ⟨⟨a9, b9⟩, by omega⟩), (by intro hz; first | exact absurd hz (by omega) | exact fun t9 h9 => by unfold goC at h9; omega), rfl⟩
      · refine r_load (i := 35) (u := 0) (w := 2) rfl rfl rfl ?_
        refine r_getf (i := 36) (v := 0) (w := 0) (x := (2, 1)) rfl ly0 rfl rfl fun _ => ?_
        refine r_load (i := 37) (u := 2) (w := 0) rfl rfl rfl ?_
        refine r_i2l (i := 38) rfl ⟨by omega, by omega⟩ ?_
        refine r_call (i := 39) (u := 1) (v := 131) (w := 0) (b := 0) (na := 770) (C2 := xC131) (as := [(2, 1), vl b]) (s := []) rfl rfl rfl rfl rfl rfl rfl (sp131 (t := b) hI ⟨by omega, by omega⟩   (by omega)) (fun r18 S19 hq20 => ?_)
        obtain ⟨z21, rfl, h22, h23, h24, h25, rfl⟩ := hq20
        refine Or.inr (Or.inl ⟨rfl, ?_⟩)
        refine z_eq (i := 40) (v := 52) rfl ⟨by omega, by omega⟩ (fun h26 => ?_) (fun h27 => ?_)
        · refine r_const (i := 52) (u := 0) (z := 0) rfl rfl ?_
          exact r_retZ (i := 53) rfl (by omega) (by omega) ⟨0, rfl, by omega, by omega, (by omega), (by intro hz; first | exact absurd hz (by omega) | exact fun t9 a9 b9 => ⟨⟨a9, b9⟩, by omega⟩), (by intro hz; first | exact absurd hz (by omega) | exact fun t9 h9 => by unfold goC at h9; omega), rfl⟩
        · refine r_load (i := 41) (u := 3) (w := 0) rfl rfl rfl ?_
          refine r_const (i := 42) (u := 4294967295) (z := -1) rfl rfl ?_
          refine c_eq (i := 43) (v := 50) rfl ⟨by omega, by omega⟩ ⟨by omega, by omega⟩ (fun h28 => ?_) (fun h29 => ?_)
          · refine r_const (i := 50) (u := 1) (z := 1) rfl rfl ?_
            refine r_goto (i := 51) (v := 53) rfl ?_
            exact r_retZ (i := 53) rfl (by omega) (by omega) ⟨1, rfl, by omega, by omega, (by omega), (by intro hz; first | exact absurd hz (by omega) | exact fun t9 a9 b9 => ⟨⟨a9, b9⟩, by omega⟩), (by intro hz; first | exact absurd hz (by omega) | exact fun t9 h9 => by unfold goC at h9; omega), rfl⟩
          · refine r_load (i := 44) (u := 0) (w := 2) rfl rfl rfl ?_
            refine r_getf (i := 45) (v := 0) (w := 0) (x := (2, 1)) rfl ly0 rfl rfl fun _ => ?_
            refine r_load (i := 46) (u := 3) (w := 0) rfl rfl rfl ?_
            refine r_i2l (i := 47) rfl ⟨by omega, by omega⟩ ?_
            refine r_call (i := 48) (u := 1) (v := 131) (w := 0) (b := 0) (na := 770) (C2 := xC131) (as := [(2, 1), vl c]) (s := []) rfl rfl rfl rfl rfl rfl rfl (sp131 (t := c) hI ⟨by omega, by omega⟩   (by omega)) (fun r31 S32 hq33 => ?_)
            obtain ⟨z34, rfl, h35, h36, h37, h38, rfl⟩ := hq33
            refine Or.inr (Or.inl ⟨rfl, ?_⟩)
            refine z_eq (i := 49) (v := 52) rfl ⟨by omega, by omega⟩ (fun h39 => ?_) (fun h40 => ?_)
            · refine r_const (i := 52) (u := 0) (z := 0) rfl rfl ?_
              exact r_retZ (i := 53) rfl (by omega) (by omega) ⟨0, rfl, by omega, by omega, (by omega), (by intro hz; first | exact absurd hz (by omega) | exact fun t9 a9 b9 => ⟨⟨a9, b9⟩, by omega⟩), (by intro hz; first | exact absurd hz (by omega) | exact fun t9 h9 => by unfold goC at h9; omega), rfl⟩
            · refine r_const (i := 50) (u := 1) (z := 1) rfl rfl ?_
              refine r_goto (i := 51) (v := 53) rfl ?_
              exact r_retZ (i := 53) rfl (by omega) (by omega) ⟨1, rfl, by omega, by omega, (by omega), (by intro hz; first | exact absurd hz (by omega) | exact fun t9 a9 b9 => ⟨⟨a9, b9⟩, by omega⟩), (by intro hz; first | exact absurd hz (by omega) | exact fun t9 h9 => by unfold goC at h9; omega), rfl⟩
    · refine r_load (i := 16) (u := 0) (w := 2) rfl rfl rfl ?_
      refine r_getf (i := 17) (v := 0) (w := 0) (x := (2, 1)) rfl ly0 rfl rfl fun _ => ?_
      refine r_load (i := 18) (u := 1) (w := 0) rfl rfl rfl ?_
      refine r_i2l (i := 19) rfl ⟨by omega, by omega⟩ ?_
      have h42 := hI.f tf1_7
      refine r_call (i := 20) (u := 1) (v := 131) (w := 0) (b := 0) (na := 770) (C2 := xC131) (as := [(2, 1), vl a]) (s := []) rfl rfl rfl rfl rfl rfl rfl (sp131 (t := a) hI ⟨by omega, by omega⟩   (by omega)) (fun r43 S44 hq45 => ?_)
      obtain ⟨z46, rfl, h47, h48, h49, h50, rfl⟩ := hq45
      refine Or.inr (Or.inl ⟨rfl, ?_⟩)
      refine z_eq (i := 21) (v := 27) rfl ⟨by omega, by omega⟩ (fun h51 => ?_) (fun h52 => ?_)
      · refine r_const (i := 27) (u := 0) (z := 0) rfl rfl ?_
        exact r_retZ (i := 28) rfl (by omega) (by omega) ⟨0, rfl, by omega, by omega, (by omega), (by intro hz; first | exact absurd hz (by omega) | exact fun t9 a9 b9 => ⟨⟨a9, b9⟩, by omega⟩), (by intro hz; first | exact absurd hz (by omega) | exact fun t9 h9 => by unfold goC at h9; omega), rfl⟩
      · refine r_load (i := 22) (u := 3) (w := 0) rfl rfl rfl ?_
        refine r_const (i := 23) (u := 4294967295) (z := -1) rfl rfl ?_
        refine c_ne (i := 24) (v := 27) rfl ⟨by omega, by omega⟩ ⟨by omega, by omega⟩ (fun h53 => ?_) (fun h54 => ?_)
        · refine r_const (i := 27) (u := 0) (z := 0) rfl rfl ?_
          exact r_retZ (i := 28) rfl (by omega) (by omega) ⟨0, rfl, by omega, by omega, (by omega), (by intro hz; first | exact absurd hz (by omega) | exact fun t9 a9 b9 => ⟨⟨a9, b9⟩, by omega⟩), (by intro hz; first | exact absurd hz (by omega) | exact fun t9 h9 => by unfold goC at h9; omega), rfl⟩
        · refine r_const (i := 25) (u := 1) (z := 1) rfl rfl ?_
          refine r_goto (i := 26) (v := 28) rfl ?_
          exact r_retZ (i := 28) rfl (by omega) (by omega) ⟨1, rfl, by omega, by omega, (by omega), (by intro hz; first | exact absurd hz (by omega) | exact fun t9 a9 b9 => ⟨⟨a9, b9⟩, by omega⟩), (by intro hz; first | exact absurd hz (by omega) | exact fun t9 h9 => by unfold goC at h9; omega), rfl⟩
  · refine r_load (i := 3) (u := 2) (w := 0) rfl rfl rfl ?_
    refine r_const (i := 4) (u := 4294967295) (z := -1) rfl rfl ?_
    refine c_ne (i := 5) (v := 11) rfl ⟨by omega, by omega⟩ ⟨by omega, by omega⟩ (fun h55 => ?_) (fun h56 => ?_)
    · refine r_const (i := 11) (u := 0) (z := 0) rfl rfl ?_
      have h57 := hI.f tf1_7
      exact r_retZ (i := 12) rfl (by omega) (by omega) ⟨0, rfl, by omega, by omega, (by omega), (by intro hz; first | exact absurd hz (by omega) | exact fun t9 a9 b9 => ⟨⟨a9, b9⟩, by omega⟩), (by intro hz; first | exact absurd hz (by omega) | exact fun t9 h9 => by unfold goC at h9; omega), rfl⟩
    · refine r_load (i := 6) (u := 3) (w := 0) rfl rfl rfl ?_
      refine r_const (i := 7) (u := 4294967295) (z := -1) rfl rfl ?_
      refine c_ne (i := 8) (v := 11) rfl ⟨by omega, by omega⟩ ⟨by omega, by omega⟩ (fun h58 => ?_) (fun h59 => ?_)
      · refine r_const (i := 11) (u := 0) (z := 0) rfl rfl ?_
        have h60 := hI.f tf1_7
        exact r_retZ (i := 12) rfl (by omega) (by omega) ⟨0, rfl, by omega, by omega, (by omega), (by intro hz; first | exact absurd hz (by omega) | exact fun t9 a9 b9 => ⟨⟨a9, b9⟩, by omega⟩), (by intro hz; first | exact absurd hz (by omega) | exact fun t9 h9 => by unfold goC at h9; omega), rfl⟩
      · refine r_const (i := 9) (u := 1) (z := 1) rfl rfl ?_
        refine r_goto (i := 10) (v := 12) rfl ?_
        have h61 := hI.f tf1_7
        exact r_retZ (i := 12) rfl (by omega) (by omega) ⟨1, rfl, by omega, by omega, (by omega), (by intro hz; first | exact absurd hz (by omega) | exact fun t9 a9 b9 => ⟨⟨a9, b9⟩, by omega⟩), (by intro hz; first | exact absurd hz (by omega) | exact fun t9 h9 => by unfold goC at h9; omega), rfl⟩
/-- ProxyForge.isAnswer -/
theorem sp11 {G : xk} {S : yS} {d : Nat} (hI : yI S) {k : Int} (h_k : -2147483648 ≤ k ∧ k ≤ 2147483647) {v : Int} (h_v : Rl v) (hd : 1 ≤ d) : yT xPr G LY xC11 0 [some ((2, 0)), some (vi k), some (vl v), none] [] S d (fun r S' => ∃ z : Int, r = (1, vi z) ∧ 0 ≤ z ∧ z ≤ 1 ∧ (z = 1 → 0 ≤ k ∧ k ≤ 5 ∧ (4 ≤ k → 0 ≤ v ∧ v ≤ 19)) ∧ S = S') := by
  refine yT_pad 0 ?_
  show yT xPr G LY xC11 0 [some ((2, 0)), some (vi k), some (vl v), none] [] S d _
  obtain ⟨d, rfl⟩ : ∃ q, d = q + 1 := ⟨d - 1, by omega⟩
  refine r_load (i := 0) (u := 1) (w := 0) rfl rfl rfl ?_
  refine r_const (i := 1) (u := 4) (z := 4) rfl rfl ?_
  refine c_ne (i := 2) (v := 8) rfl ⟨by omega, by omega⟩ ⟨by omega, by omega⟩ (fun h1 => ?_) (fun h2 => ?_)
  · refine r_load (i := 8) (u := 1) (w := 0) rfl rfl rfl ?_
    refine r_const (i := 9) (u := 5) (z := 5) rfl rfl ?_
    refine c_ne (i := 10) (v := 27) rfl ⟨by omega, by omega⟩ ⟨by omega, by omega⟩ (fun h3 => ?_) (fun h4 => ?_)
    · refine r_load (i := 27) (u := 1) (w := 0) rfl rfl rfl ?_
      refine z_lt (i := 28) (v := 34) rfl ⟨by omega, by omega⟩ (fun h5 => ?_) (fun h6 => ?_)
      · refine r_const (i := 34) (u := 0) (z := 0) rfl rfl ?_
        exact r_retZ (i := 35) rfl (by omega) (by omega) ⟨0, rfl, by omega, by omega, (by omega), rfl⟩
      · refine r_load (i := 29) (u := 1) (w := 0) rfl rfl rfl ?_
        refine r_const (i := 30) (u := 3) (z := 3) rfl rfl ?_
        refine c_gt (i := 31) (v := 34) rfl ⟨by omega, by omega⟩ ⟨by omega, by omega⟩ (fun h7 => ?_) (fun h8 => ?_)
        · refine r_const (i := 34) (u := 0) (z := 0) rfl rfl ?_
          exact r_retZ (i := 35) rfl (by omega) (by omega) ⟨0, rfl, by omega, by omega, (by omega), rfl⟩
        · refine r_const (i := 32) (u := 1) (z := 1) rfl rfl ?_
          refine r_goto (i := 33) (v := 35) rfl ?_
          exact r_retZ (i := 35) rfl (by omega) (by omega) ⟨1, rfl, by omega, by omega, (by omega), rfl⟩
    · refine r_load (i := 11) (u := 0) (w := 2) rfl rfl rfl ?_
      refine r_getf (i := 12) (v := 0) (w := 0) (x := (2, 1)) rfl ly0 rfl rfl fun _ => ?_
      refine r_load (i := 13) (u := 2) (w := 1) rfl rfl rfl ?_
      have h10 := hI.f tf1_7
      refine r_call (i := 14) (u := 1) (v := 131) (w := 0) (b := 0) (na := 770) (C2 := xC131) (as := [(2, 1), vl v]) (s := []) rfl rfl rfl rfl rfl rfl rfl (sp131 (t := v) hI ⟨by omega, by omega⟩   (by omega)) (fun r11 S12 hq13 => ?_)
      obtain ⟨z14, rfl, h15, h16, h17, h18, rfl⟩ := hq13
      refine Or.inr (Or.inl ⟨rfl, ?_⟩)
      refine z_eq (i := 15) (v := 25) rfl ⟨by omega, by omega⟩ (fun h19 => ?_) (fun h20 => ?_)
      · refine r_const (i := 25) (u := 0) (z := 0) rfl rfl ?_
        exact r_retZ (i := 26) rfl (by omega) (by omega) ⟨0, rfl, by omega, by omega, (by omega), rfl⟩
      · refine r_load (i := 16) (u := 0) (w := 2) rfl rfl rfl ?_
        refine r_getf (i := 17) (v := 0) (w := 0) (x := (2, 1)) rfl ly0 rfl rfl fun _ => ?_
        refine r_load (i := 18) (u := 2) (w := 1) rfl rfl rfl ?_
        refine r_l2i (i := 19) rfl ?_
        rw [vi_sg v]
        have h22 := ysg_fact v
        refine r_const (i := 20) (u := 1) (z := 1) rfl rfl ?_
        refine r_call (i := 21) (u := 1) (v := 133) (w := 0) (b := 0) (na := 771) (C2 := xC133) (as := [(2, 1), vi (ysg v), vi 1]) (s := []) rfl rfl rfl rfl rfl rfl rfl (sp133 (t := ysg v) (o := 1) hI ⟨by omega, by omega⟩ ⟨by omega, by omega⟩   (by omega)) (fun r23 S24 hq25 => ?_)
        obtain ⟨z26, rfl, h27, h28, yb29, nb30, rfl⟩ := hq25
        refine Or.inr (Or.inl ⟨rfl, ?_⟩)
        refine z_eq (i := 22) (v := 25) rfl ⟨by omega, by omega⟩ (fun h31 => ?_) (fun h32 => ?_)
        · refine r_const (i := 25) (u := 0) (z := 0) rfl rfl ?_
          exact r_retZ (i := 26) rfl (by omega) (by omega) ⟨0, rfl, by omega, by omega, (by omega), rfl⟩
        · refine r_const (i := 23) (u := 1) (z := 1) rfl rfl ?_
          refine r_goto (i := 24) (v := 26) rfl ?_
          exact r_retZ (i := 26) rfl (by omega) (by omega) ⟨1, rfl, by omega, by omega, (by omega), rfl⟩
  · refine r_load (i := 3) (u := 0) (w := 2) rfl rfl rfl ?_
    refine r_getf (i := 4) (v := 0) (w := 0) (x := (2, 1)) rfl ly0 rfl rfl fun _ => ?_
    refine r_load (i := 5) (u := 2) (w := 1) rfl rfl rfl ?_
    have h34 := hI.f tf1_7
    refine r_call (i := 6) (u := 1) (v := 131) (w := 0) (b := 0) (na := 770) (C2 := xC131) (as := [(2, 1), vl v]) (s := []) rfl rfl rfl rfl rfl rfl rfl (sp131 (t := v) hI ⟨by omega, by omega⟩   (by omega)) (fun r35 S36 hq37 => ?_)
    obtain ⟨z38, rfl, h39, h40, h41, h42, rfl⟩ := hq37
    refine Or.inr (Or.inl ⟨rfl, ?_⟩)
    exact r_retZ (i := 7) rfl (by omega) (by omega) ⟨z38, rfl, by omega, by omega, (by omega), rfl⟩
/-- ProxyForge.isSubtype -/
theorem sp12 {G : xk} {S : yS} {d : Nat} (hI : yI S) {t : Int} (h_t : -2147483648 ≤ t ∧ t ≤ 2147483647) {o : Int} (h_o : -2147483648 ≤ o ∧ o ≤ 2147483647) (hd : 1 ≤ d) : yT xPr G LY xC12 0 [some ((2, 0)), some (vi t), some (vi o)] [] S d (fun r S' => ∃ z : Int, r = (1, vi z) ∧ 0 ≤ z ∧ z ≤ 1 ∧ (z = 1 ↔ (0 ≤ t ∧ t < S.f 1 7 ∧ 0 ≤ o ∧ o < S.f 1 7 ∧ bt (S.a 6 t.toNat) o)) ∧ S = S') := by
  refine yT_pad 0 ?_
  show yT xPr G LY xC12 0 [some ((2, 0)), some (vi t), some (vi o)] [] S d _
  obtain ⟨d, rfl⟩ : ∃ q, d = q + 1 := ⟨d - 1, by omega⟩
  refine r_load (i := 0) (u := 0) (w := 2) rfl rfl rfl ?_
  refine r_getf (i := 1) (v := 0) (w := 0) (x := (2, 1)) rfl ly0 rfl rfl fun _ => ?_
  refine r_load (i := 2) (u := 1) (w := 0) rfl rfl rfl ?_
  refine r_i2l (i := 3) rfl ⟨by omega, by omega⟩ ?_
  have h2 := hI.f tf1_7
  refine r_call (i := 4) (u := 1) (v := 131) (w := 0) (b := 0) (na := 770) (C2 := xC131) (as := [(2, 1), vl t]) (s := []) rfl rfl rfl rfl rfl rfl rfl (sp131 (t := t) hI ⟨by omega, by omega⟩   (by omega)) (fun r3 S4 hq5 => ?_)
  obtain ⟨z6, rfl, h7, h8, h9, h10, rfl⟩ := hq5
  refine Or.inr (Or.inl ⟨rfl, ?_⟩)
  refine z_eq (i := 5) (v := 20) rfl ⟨by omega, by omega⟩ (fun h11 => ?_) (fun h12 => ?_)
  · refine r_const (i := 20) (u := 0) (z := 0) rfl rfl ?_
    exact r_retZ (i := 21) rfl (by omega) (by omega) ⟨0, rfl, by omega, by omega, (by exact ⟨fun h9 => by exfalso; omega, fun h9 => by obtain ⟨a1, a2, a3, a4, -⟩ := h9; exfalso; omega⟩), rfl⟩
  · refine r_load (i := 6) (u := 0) (w := 2) rfl rfl rfl ?_
    refine r_getf (i := 7) (v := 0) (w := 0) (x := (2, 1)) rfl ly0 rfl rfl fun _ => ?_
    refine r_load (i := 8) (u := 2) (w := 0) rfl rfl rfl ?_
    refine r_i2l (i := 9) rfl ⟨by omega, by omega⟩ ?_
    refine r_call (i := 10) (u := 1) (v := 131) (w := 0) (b := 0) (na := 770) (C2 := xC131) (as := [(2, 1), vl o]) (s := []) rfl rfl rfl rfl rfl rfl rfl (sp131 (t := o) hI ⟨by omega, by omega⟩   (by omega)) (fun r14 S15 hq16 => ?_)
    obtain ⟨z17, rfl, h18, h19, h20, h21, rfl⟩ := hq16
    refine Or.inr (Or.inl ⟨rfl, ?_⟩)
    refine z_eq (i := 11) (v := 20) rfl ⟨by omega, by omega⟩ (fun h22 => ?_) (fun h23 => ?_)
    · refine r_const (i := 20) (u := 0) (z := 0) rfl rfl ?_
      exact r_retZ (i := 21) rfl (by omega) (by omega) ⟨0, rfl, by omega, by omega, (by exact ⟨fun h9 => by exfalso; omega, fun h9 => by obtain ⟨a1, a2, a3, a4, -⟩ := h9; exfalso; omega⟩), rfl⟩
    · refine r_load (i := 12) (u := 0) (w := 2) rfl rfl rfl ?_
      refine r_getf (i := 13) (v := 0) (w := 0) (x := (2, 1)) rfl ly0 rfl rfl fun _ => ?_
      refine r_load (i := 14) (u := 1) (w := 0) rfl rfl rfl ?_
      refine r_load (i := 15) (u := 2) (w := 0) rfl rfl rfl ?_
      refine r_call (i := 16) (u := 1) (v := 133) (w := 0) (b := 0) (na := 771) (C2 := xC133) (as := [(2, 1), vi t, vi o]) (s := []) rfl rfl rfl rfl rfl rfl rfl (sp133 (t := t) (o := o) hI ⟨by omega, by omega⟩ ⟨by omega, by omega⟩   (by omega)) (fun r25 S26 hq27 => ?_)
      obtain ⟨z28, rfl, h29, h30, yb31, nb32, rfl⟩ := hq27
      refine Or.inr (Or.inl ⟨rfl, ?_⟩)
      refine z_eq (i := 17) (v := 20) rfl ⟨by omega, by omega⟩ (fun h33 => ?_) (fun h34 => ?_)
      · refine r_const (i := 20) (u := 0) (z := 0) rfl rfl ?_
        exact r_retZ (i := 21) rfl (by omega) (by omega) ⟨0, rfl, by omega, by omega, (by exact ⟨fun h9 => ⟨by omega, by omega, by omega, by omega, yb31 (by omega)⟩, fun h9 => by first | omega | exact absurd h9.2.2.2.2 (nb32 (by omega))⟩), rfl⟩
      · refine r_const (i := 18) (u := 1) (z := 1) rfl rfl ?_
        refine r_goto (i := 19) (v := 21) rfl ?_
        exact r_retZ (i := 21) rfl (by omega) (by omega) ⟨1, rfl, by omega, by omega, (by exact ⟨fun h9 => ⟨by omega, by omega, by omega, by omega, yb31 (by omega)⟩, fun h9 => by first | omega | exact absurd h9.2.2.2.2 (nb32 (by omega))⟩), rfl⟩
/-- ProxyForge.policy -/
theorem sp14 {G : xk} {S : yS} {d : Nat} (hI : yI S) {w0 : Int} (h_w0 : -2147483648 ≤ w0 ∧ w0 ≤ 2147483647) {k : Int} (h_k : -2147483648 ≤ k ∧ k ≤ 2147483647) (hd : 0 ≤ d) : yT xPr G LY xC14 0 [some ((2, 0)), some (vi w0), some (vi k)] [] S d (fun r S' => ∃ z : Int, r = (1, vi z) ∧ 0 ≤ z ∧ z ≤ 1 ∧ (z = 1 ∧ 0 ≤ w0 ∧ w0 ≤ 9 ∧ 0 ≤ k ∧ k ≤ 3 ∨ z = 0 ∧ (w0 < 0 ∨ 9 < w0 ∨ k < 0 ∨ 3 < k)) ∧ plQ 42 S S' w0 k z ∧ yI S' ∧ yFr [] [42] S S' ∧ yRm [] S S') := by
  refine yT_pad 0 ?_
  show yT xPr G LY xC14 0 [some ((2, 0)), some (vi w0), some (vi k)] [] S d _
  have hF : yFr [] [42] S S := yFr.refl S
  have hR : yRm [] S S := yRm.refl S
  refine r_load (i := 0) (u := 1) (w := 0) rfl rfl rfl ?_
  refine z_lt (i := 1) (v := 10) rfl ⟨by omega, by omega⟩ (fun h1 => ?_) (fun h2 => ?_)
  · refine r_const (i := 10) (u := 0) (z := 0) rfl rfl ?_
    exact r_retZ (i := 11) rfl (by omega) (by omega) ⟨0, rfl, by omega, by omega, (by omega), (by exact ⟨fun h9 => by first | exact absurd h9 (by omega) | exact fun j => by skip; rfl, fun h9 => by first | exact absurd h9 (by omega) | exact fun j => by skip; rfl⟩), hI, hF, hR⟩
  · refine r_load (i := 2) (u := 1) (w := 0) rfl rfl rfl ?_
    refine r_const (i := 3) (u := 10) (z := 10) rfl rfl ?_
    refine c_ge (i := 4) (v := 10) rfl ⟨by omega, by omega⟩ ⟨by omega, by omega⟩ (fun h3 => ?_) (fun h4 => ?_)
    · refine r_const (i := 10) (u := 0) (z := 0) rfl rfl ?_
      exact r_retZ (i := 11) rfl (by omega) (by omega) ⟨0, rfl, by omega, by omega, (by omega), (by exact ⟨fun h9 => by first | exact absurd h9 (by omega) | exact fun j => by skip; rfl, fun h9 => by first | exact absurd h9 (by omega) | exact fun j => by skip; rfl⟩), hI, hF, hR⟩
    · refine r_load (i := 5) (u := 2) (w := 0) rfl rfl rfl ?_
      refine z_lt (i := 6) (v := 10) rfl ⟨by omega, by omega⟩ (fun h5 => ?_) (fun h6 => ?_)
      · refine r_const (i := 10) (u := 0) (z := 0) rfl rfl ?_
        exact r_retZ (i := 11) rfl (by omega) (by omega) ⟨0, rfl, by omega, by omega, (by omega), (by exact ⟨fun h9 => by first | exact absurd h9 (by omega) | exact fun j => by skip; rfl, fun h9 => by first | exact absurd h9 (by omega) | exact fun j => by skip; rfl⟩), hI, hF, hR⟩
      · refine r_load (i := 7) (u := 2) (w := 0) rfl rfl rfl ?_
        refine r_const (i := 8) (u := 3) (z := 3) rfl rfl ?_
        refine c_le (i := 9) (v := 12) rfl ⟨by omega, by omega⟩ ⟨by omega, by omega⟩ (fun h7 => ?_) (fun h8 => ?_)
        · refine r_load (i := 12) (u := 0) (w := 2) rfl rfl rfl ?_
          refine r_getf (i := 13) (v := 9) (w := 0) (x := (2, 42)) rfl ly0 rfl rfl fun _ => ?_
          refine r_load (i := 14) (u := 1) (w := 0) rfl rfl rfl ?_
          refine r_load (i := 15) (u := 2) (w := 0) rfl rfl rfl ?_
          refine s_int (i := 16) rfl ly42 rfl (by omega) (by omega) ⟨by omega, by omega⟩ ?_
          have hI11 := hI.seta (b := 42) (j := w0.toNat) (z := k) ta42 rfl (by omega) (by omega)
          have hF13 := hF.seta (b := 42) (j := w0.toNat) (z := k) rfl
          have hR14 := hR.seta (b := 42) (j := w0.toNat) (z := k)
          refine yT_gen (fun S10 hS12 => ?_)
          rw [hS12] at hI11 hF13 hR14 
          refine r_const (i := 17) (u := 1) (z := 1) rfl rfl ?_
          exact r_retZ (i := 18) rfl (by omega) (by omega) ⟨1, rfl, by omega, by omega, (by omega), (by exact ⟨fun h9 => by first | exact absurd h9 (by omega) | exact fun j => by subst hS12; rfl, fun h9 => by first | exact absurd h9 (by omega) | exact fun j => by subst hS12; rfl⟩), hI11, hF13, hR14⟩
        · refine r_const (i := 10) (u := 0) (z := 0) rfl rfl ?_
          exact r_retZ (i := 11) rfl (by omega) (by omega) ⟨0, rfl, by omega, by omega, (by omega), (by exact ⟨fun h9 => by first | exact absurd h9 (by omega) | exact fun j => by skip; rfl, fun h9 => by first | exact absurd h9 (by omega) | exact fun j => by skip; rfl⟩), hI, hF, hR⟩
/-- ProxyForge.slots -/
theorem sp19 {G : xk} {S : yS} {d : Nat} (hI : yI S)  (hd : 0 ≤ d) : yT xPr G LY xC19 0 [some ((2, 0))] [] S d (fun r S' => ∃ z : Int, r = (1, vi z) ∧ -2147483648 ≤ z ∧ z ≤ 2147483647 ∧ z = S.f 22 3 ∧ S = S') := by
  refine yT_pad 0 ?_
  show yT xPr G LY xC19 0 [some ((2, 0))] [] S d _
  refine r_load (i := 0) (u := 0) (w := 2) rfl rfl rfl ?_
  refine r_getf (i := 1) (v := 3) (w := 0) (x := (2, 22)) rfl ly0 rfl rfl fun _ => ?_
  have h2 := hI.f tf22_3
  refine r_getf (i := 2) (v := 3) (w := 4) (x := vi (S.f 22 3)) rfl ly22 rfl rfl fun h3 => ?_
  have h3 : Rg (S.f 22 3) := h3
  exact r_retI (i := 3) rfl ⟨S.f 22 3, rfl, by omega, by omega, (by omega), rfl⟩
/-- ProxyForge.asked -/
theorem sp3 {G : xk} {S : yS} {d : Nat} (hI : yI S)  (hd : 0 ≤ d) : yT xPr G LY xC3 0 [some ((2, 0))] [] S d (fun r S' => ∃ z : Int, r = (1, vi z) ∧ -2147483648 ≤ z ∧ z ≤ 2147483647 ∧ S = S') := by
  refine yT_pad 0 ?_
  show yT xPr G LY xC3 0 [some ((2, 0))] [] S d _
  refine r_load (i := 0) (u := 0) (w := 2) rfl rfl rfl ?_
  refine r_getf (i := 1) (v := 4) (w := 0) (x := (2, 26)) rfl ly0 rfl rfl fun _ => ?_
  have h2 := hI.f tf26_3
  refine r_getf (i := 2) (v := 3) (w := 5) (x := vi (S.f 26 3)) rfl ly26 rfl rfl fun h3 => ?_
  have h3 : Rg (S.f 26 3) := h3
  exact r_retI (i := 3) rfl ⟨S.f 26 3, rfl, by omega, by omega, rfl⟩
/-- ProxyForge.size -/
theorem sp17 {G : xk} {S : yS} {d : Nat} (hI : yI S)  (hd : 0 ≤ d) : yT xPr G LY xC17 0 [some ((2, 0))] [] S d (fun r S' => ∃ z : Int, r = (1, vi z) ∧ -2147483648 ≤ z ∧ z ≤ 2147483647 ∧ S = S') := by
  refine yT_pad 0 ?_
  show yT xPr G LY xC17 0 [some ((2, 0))] [] S d _
  refine r_load (i := 0) (u := 0) (w := 2) rfl rfl rfl ?_
  refine r_getf (i := 1) (v := 6) (w := 0) (x := (2, 31)) rfl ly0 rfl rfl fun _ => ?_
  have h2 := hI.b0
  refine r_getf (i := 2) (v := 1) (w := 7) (x := vi (S.f 31 1)) rfl ly31 rfl rfl fun h3 => ?_
  have h3 : Rg (S.f 31 1) := h3
  exact r_retI (i := 3) rfl ⟨S.f 31 1, rfl, by omega, by omega, rfl⟩
/-- ProxyForge.slot -/
theorem sp18 {G : xk} {S : yS} {d : Nat} (hI : yI S) {k : Int} (h_k : -2147483648 ≤ k ∧ k ≤ 2147483647) (hd : 1 ≤ d) : yT xPr G LY xC18 0 [some ((2, 0)), some (vi k)] [] S d (fun r S' => ∃ z : Int, r = (1, vi z) ∧ -2147483648 ≤ z ∧ z ≤ 2147483647 ∧ ((z = -1 ∧ ¬ (0 ≤ k ∧ k < S.f 22 3)) ∨ ((0 ≤ k ∧ k < S.f 22 3) ∧ z = S.a 23 k.toNat)) ∧ S = S') := by
  refine yT_pad 0 ?_
  show yT xPr G LY xC18 0 [some ((2, 0)), some (vi k)] [] S d _
  obtain ⟨d, rfl⟩ : ∃ q, d = q + 1 := ⟨d - 1, by omega⟩
  refine r_load (i := 0) (u := 0) (w := 2) rfl rfl rfl ?_
  refine r_getf (i := 1) (v := 3) (w := 0) (x := (2, 22)) rfl ly0 rfl rfl fun _ => ?_
  refine r_load (i := 2) (u := 1) (w := 0) rfl rfl rfl ?_
  have h2 := hI.f tf22_3
  refine r_call (i := 3) (u := 4) (v := 101) (w := 0) (b := 0) (na := 514) (C2 := xC101) (as := [(2, 22), vi k]) (s := []) rfl rfl rfl rfl rfl rfl rfl (sp101 (k := k) hI ⟨by omega, by omega⟩   (by omega)) (fun r3 S4 hq5 => ?_)
  obtain ⟨z6, rfl, h7, h8, h9, h10, rfl⟩ := hq5
  refine Or.inr (Or.inl ⟨rfl, ?_⟩)
  refine z_eq (i := 4) (v := 11) rfl ⟨by omega, by omega⟩ (fun h11 => ?_) (fun h12 => ?_)
  · refine r_const (i := 11) (u := 4294967295) (z := -1) rfl rfl ?_
    have h13 := hI.a ta23 k.toNat
    exact r_retI (i := 12) rfl ⟨-1, rfl, by omega, by omega, (by omega), rfl⟩
  · refine r_load (i := 5) (u := 0) (w := 2) rfl rfl rfl ?_
    refine r_getf (i := 6) (v := 3) (w := 0) (x := (2, 22)) rfl ly0 rfl rfl fun _ => ?_
    refine r_getf (i := 7) (v := 0) (w := 4) (x := (2, 23)) rfl ly22 rfl rfl fun _ => ?_
    refine r_load (i := 8) (u := 1) (w := 0) rfl rfl rfl ?_
    refine a_int (i := 9) rfl ly23 rfl (by omega) (by omega) fun h16 => ?_
    have h17 := hI.a ta23 k.toNat
    refine r_goto (i := 10) (v := 12) rfl ?_
    have h18 := hI.a ta23 k.toNat
    exact r_retI (i := 12) rfl ⟨S.a 23 k.toNat, rfl, by omega, by omega, (by omega), rfl⟩
/-- ProxyForge.result -/
theorem sp16 {G : xk} {S : yS} {d : Nat} (hI : yI S)  (hd : 0 ≤ d) : yT xPr G LY xC16 0 [some ((2, 0))] [] S d (fun r S' => ∃ z : Int, r = (1, vl z) ∧ Rl z ∧ S = S') := by
  refine yT_pad 0 ?_
  show yT xPr G LY xC16 0 [some ((2, 0))] [] S d _
  refine r_load (i := 0) (u := 0) (w := 2) rfl rfl rfl ?_
  refine r_getf (i := 1) (v := 5) (w := 0) (x := (2, 29)) rfl ly0 rfl rfl fun _ => ?_
  refine r_getf (i := 2) (v := 5) (w := 6) (x := vl (S.f 29 5)) rfl ly29 rfl rfl fun h2 => ?_
  have h2 : Rl (S.f 29 5) := h2
  exact r_retL (i := 3) rfl ⟨S.f 29 5, rfl, ⟨by omega, by omega⟩, rfl⟩
/-- ProxyForge.given -/
theorem sp9 {G : xk} {S : yS} {d : Nat} (hI : yI S) {i0 : Int} (h_i0 : -2147483648 ≤ i0 ∧ i0 ≤ 2147483647) {w0 : Int} (h_w0 : -2147483648 ≤ w0 ∧ w0 ≤ 2147483647) (hd : 0 ≤ d) : yT xPr G LY xC9 0 [some ((2, 0)), some (vi i0), some (vi w0)] [] S d (fun r S' => ∃ z : Int, r = (1, vl z) ∧ Rl z ∧ gnP (S.f 26 2) (S.a 27 i0.toNat) (S.a 28 i0.toNat) i0 w0 z ∧ S = S') := by
  refine yT_pad 0 ?_
  show yT xPr G LY xC9 0 [some ((2, 0)), some (vi i0), some (vi w0)] [] S d _
  refine r_load (i := 0) (u := 1) (w := 0) rfl rfl rfl ?_
  refine z_lt (i := 1) (v := 7) rfl ⟨by omega, by omega⟩ (fun h1 => ?_) (fun h2 => ?_)
  · refine r_lconst (i := 7) (u := 18446744073709551615) (z := -1) rfl rfl ?_
    have h3 := hI.f tf26_2
    have h4 := hI.a ta27 i0.toNat
    exact r_retL (i := 8) rfl ⟨-1, rfl, ⟨by omega, by omega⟩, (by unfold gnP; omega), rfl⟩
  · refine r_load (i := 2) (u := 1) (w := 0) rfl rfl rfl ?_
    refine r_load (i := 3) (u := 0) (w := 2) rfl rfl rfl ?_
    refine r_getf (i := 4) (v := 4) (w := 0) (x := (2, 26)) rfl ly0 rfl rfl fun _ => ?_
    have h6 := hI.f tf26_2
    refine r_getf (i := 5) (v := 2) (w := 5) (x := vi (S.f 26 2)) rfl ly26 rfl rfl fun h7 => ?_
    have h7 : Rg (S.f 26 2) := h7
    refine c_lt (i := 6) (v := 9) rfl ⟨by omega, by omega⟩ ⟨by omega, by omega⟩ (fun h8 => ?_) (fun h9 => ?_)
    · refine r_load (i := 9) (u := 2) (w := 0) rfl rfl rfl ?_
      refine z_ne (i := 10) (v := 18) rfl ⟨by omega, by omega⟩ (fun h10 => ?_) (fun h11 => ?_)
      · refine r_load (i := 18) (u := 2) (w := 0) rfl rfl rfl ?_
        refine r_const (i := 19) (u := 1) (z := 1) rfl rfl ?_
        refine c_ne (i := 20) (v := 27) rfl ⟨by omega, by omega⟩ ⟨by omega, by omega⟩ (fun h12 => ?_) (fun h13 => ?_)
        · refine r_lconst (i := 27) (u := 18446744073709551615) (z := -1) rfl rfl ?_
          have h14 := hI.a ta27 i0.toNat
          exact r_retL (i := 28) rfl ⟨-1, rfl, ⟨by omega, by omega⟩, (by unfold gnP; omega), rfl⟩
        · refine r_load (i := 21) (u := 0) (w := 2) rfl rfl rfl ?_
          refine r_getf (i := 22) (v := 4) (w := 0) (x := (2, 26)) rfl ly0 rfl rfl fun _ => ?_
          refine r_getf (i := 23) (v := 1) (w := 5) (x := (2, 28)) rfl ly26 rfl rfl fun _ => ?_
          refine r_load (i := 24) (u := 1) (w := 0) rfl rfl rfl ?_
          refine r_laload (i := 25) rfl ly28 (by decide) (by omega) (by omega) fun h17 => ?_
          refine r_goto (i := 26) (v := 28) rfl ?_
          have h18 := hI.a ta27 i0.toNat
          exact r_retL (i := 28) rfl ⟨S.a 28 i0.toNat, rfl, ⟨by omega, by omega⟩, (by unfold gnP; omega), rfl⟩
      · refine r_load (i := 11) (u := 0) (w := 2) rfl rfl rfl ?_
        refine r_getf (i := 12) (v := 4) (w := 0) (x := (2, 26)) rfl ly0 rfl rfl fun _ => ?_
        refine r_getf (i := 13) (v := 0) (w := 5) (x := (2, 27)) rfl ly26 rfl rfl fun _ => ?_
        refine r_load (i := 14) (u := 1) (w := 0) rfl rfl rfl ?_
        refine a_int (i := 15) rfl ly27 rfl (by omega) (by omega) fun h21 => ?_
        have h22 := hI.a ta27 i0.toNat
        refine r_i2l (i := 16) rfl ⟨by omega, by omega⟩ ?_
        have h23 := hI.a ta27 i0.toNat
        exact r_retL (i := 17) rfl ⟨S.a 27 i0.toNat, rfl, ⟨by omega, by omega⟩, (by unfold gnP; omega), rfl⟩
    · refine r_lconst (i := 7) (u := 18446744073709551615) (z := -1) rfl rfl ?_
      have h24 := hI.a ta27 i0.toNat
      exact r_retL (i := 8) rfl ⟨-1, rfl, ⟨by omega, by omega⟩, (by unfold gnP; omega), rfl⟩
/-- ProxyForge.byteAt -/
theorem sp4 {G : xk} {S : yS} {d : Nat} (hI : yI S) {k : Int} (h_k : -2147483648 ≤ k ∧ k ≤ 2147483647) (hd : 1 ≤ d) : yT xPr G LY xC4 0 [some ((2, 0)), some (vi k)] [] S d (fun r S' => ∃ z : Int, r = (1, vi z) ∧ -2147483648 ≤ z ∧ z ≤ 2147483647 ∧ S = S') := by
  refine yT_pad 0 ?_
  show yT xPr G LY xC4 0 [some ((2, 0)), some (vi k)] [] S d _
  obtain ⟨d, rfl⟩ : ∃ q, d = q + 1 := ⟨d - 1, by omega⟩
  refine r_load (i := 0) (u := 0) (w := 2) rfl rfl rfl ?_
  refine r_getf (i := 1) (v := 6) (w := 0) (x := (2, 31)) rfl ly0 rfl rfl fun _ => ?_
  refine r_load (i := 2) (u := 1) (w := 0) rfl rfl rfl ?_
  have h2 := hI.b0
  refine r_call (i := 3) (u := 7) (v := 27) (w := 0) (b := 0) (na := 514) (C2 := xC27) (as := [(2, 31), vi k]) (s := []) rfl rfl rfl rfl rfl rfl rfl (sp27_31 (k := k) hI ⟨by omega, by omega⟩   (by omega)) (fun r3 S4 hq5 => ?_)
  obtain ⟨z6, rfl, h7, h8, h9, rfl⟩ := hq5
  refine Or.inr (Or.inl ⟨rfl, ?_⟩)
  refine z_eq (i := 4) (v := 10) rfl ⟨by omega, by omega⟩ (fun h10 => ?_) (fun h11 => ?_)
  · refine r_const (i := 10) (u := 4294967295) (z := -1) rfl rfl ?_
    exact r_retI (i := 11) rfl ⟨-1, rfl, by omega, by omega, rfl⟩
  · refine r_load (i := 5) (u := 0) (w := 2) rfl rfl rfl ?_
    refine r_getf (i := 6) (v := 6) (w := 0) (x := (2, 31)) rfl ly0 rfl rfl fun _ => ?_
    refine r_load (i := 7) (u := 1) (w := 0) rfl rfl rfl ?_
    have h13 := hI.bn
    have h14 := hI.br
    refine r_call (i := 8) (u := 7) (v := 25) (w := 0) (b := 0) (na := 514) (C2 := xC25) (as := [(2, 31), vi k]) (s := []) rfl rfl rfl rfl rfl rfl rfl (sp25_31 (k := k) hI ⟨by omega, by omega⟩ (by omega)  (by omega)) (fun r15 S16 hq17 => ?_)
    obtain ⟨z18, rfl, h19, h20, h21, rfl⟩ := hq17
    refine Or.inr (Or.inl ⟨rfl, ?_⟩)
    refine r_goto (i := 9) (v := 11) rfl ?_
    exact r_retI (i := 11) rfl ⟨z18, rfl, by omega, by omega, rfl⟩
/-- ProxyForge.change -/
theorem sp6 {G : xk} {S : yS} {d : Nat} (hI : yI S) {k : Int} (h_k : -2147483648 ≤ k ∧ k ≤ 2147483647) {b : Int} (h_b : -2147483648 ≤ b ∧ b ≤ 2147483647) (hd : 1 ≤ d) : yT xPr G LY xC6 0 [some ((2, 0)), some (vi k), some (vi b)] [] S d (fun r S' => ∃ z : Int, r = (1, vi z) ∧ 0 ≤ z ∧ z ≤ 1 ∧ yI S' ∧ yFr [] [100] S S' ∧ yRm [] S S') := by
  refine yT_pad 0 ?_
  show yT xPr G LY xC6 0 [some ((2, 0)), some (vi k), some (vi b)] [] S d _
  obtain ⟨d, rfl⟩ : ∃ q, d = q + 1 := ⟨d - 1, by omega⟩
  have hF : yFr [] [100] S S := yFr.refl S
  have hR : yRm [] S S := yRm.refl S
  refine r_load (i := 0) (u := 0) (w := 2) rfl rfl rfl ?_
  refine r_getf (i := 1) (v := 6) (w := 0) (x := (2, 31)) rfl ly0 rfl rfl fun _ => ?_
  refine r_load (i := 2) (u := 1) (w := 0) rfl rfl rfl ?_
  have h2 := hI.b0
  refine r_call (i := 3) (u := 7) (v := 27) (w := 0) (b := 0) (na := 514) (C2 := xC27) (as := [(2, 31), vi k]) (s := []) rfl rfl rfl rfl rfl rfl rfl (sp27_31 (k := k) hI ⟨by omega, by omega⟩   (by omega)) (fun r3 S4 hq5 => ?_)
  obtain ⟨z6, rfl, h7, h8, h9, rfl⟩ := hq5
  refine Or.inr (Or.inl ⟨rfl, ?_⟩)
  refine z_ne (i := 4) (v := 7) rfl ⟨by omega, by omega⟩ (fun h10 => ?_) (fun h11 => ?_)
  · refine r_load (i := 7) (u := 0) (w := 2) rfl rfl rfl ?_
    refine r_getf (i := 8) (v := 6) (w := 0) (x := (2, 31)) rfl ly0 rfl rfl fun _ => ?_
    refine r_load (i := 9) (u := 1) (w := 0) rfl rfl rfl ?_
    refine r_load (i := 10) (u := 2) (w := 0) rfl rfl rfl ?_
    have h13 := hI.bn
    have h14 := hI.br
    refine r_call (i := 11) (u := 7) (v := 31) (w := 0) (b := 0) (na := 771) (C2 := xC31) (as := [(2, 31), vi k, vi b]) (s := []) rfl rfl rfl rfl rfl rfl rfl (sp31_31 (k := k) (b := b) hI ⟨by omega, by omega⟩ ⟨by omega, by omega⟩ (by omega)  (by omega)) (fun r15 S16 hq17 => ?_)
    obtain ⟨rfl, hI18, hF19, hR20⟩ := hq17
    have hF21 := hF.trans hF19 rfl rfl
    have hR22 := hR.trans hR20 rfl
    refine Or.inl ⟨rfl, ?_⟩
    refine r_const (i := 12) (u := 1) (z := 1) rfl rfl ?_
    exact r_retZ (i := 13) rfl (by omega) (by omega) ⟨1, rfl, by omega, by omega, hI18, hF21, hR22⟩
  · refine r_const (i := 5) (u := 0) (z := 0) rfl rfl ?_
    exact r_retZ (i := 6) rfl (by omega) (by omega) ⟨0, rfl, by omega, by omega, hI, hF, hR⟩
/-- ProxyForge.cut -/
theorem sp7 {G : xk} {S : yS} {d : Nat} (hI : yI S) {k : Int} (h_k : -2147483648 ≤ k ∧ k ≤ 2147483647) (hd : 0 ≤ d) : yT xPr G LY xC7 0 [some ((2, 0)), some (vi k)] [] S d (fun r S' => ∃ z : Int, r = (1, vi z) ∧ 0 ≤ z ∧ z ≤ 1 ∧ yI S' ∧ yFr [(31, 1)] [] S S' ∧ yRm [] S S') := by
  refine yT_pad 0 ?_
  show yT xPr G LY xC7 0 [some ((2, 0)), some (vi k)] [] S d _
  have hF : yFr [(31, 1)] [] S S := yFr.refl S
  have hR : yRm [] S S := yRm.refl S
  refine r_load (i := 0) (u := 1) (w := 0) rfl rfl rfl ?_
  refine z_lt (i := 1) (v := 7) rfl ⟨by omega, by omega⟩ (fun h1 => ?_) (fun h2 => ?_)
  · refine r_const (i := 7) (u := 0) (z := 0) rfl rfl ?_
    exact r_retZ (i := 8) rfl (by omega) (by omega) ⟨0, rfl, by omega, by omega, hI, hF, hR⟩
  · refine r_load (i := 2) (u := 1) (w := 0) rfl rfl rfl ?_
    refine r_load (i := 3) (u := 0) (w := 2) rfl rfl rfl ?_
    refine r_getf (i := 4) (v := 6) (w := 0) (x := (2, 31)) rfl ly0 rfl rfl fun _ => ?_
    have h4 := hI.b0
    refine r_getf (i := 5) (v := 1) (w := 7) (x := vi (S.f 31 1)) rfl ly31 rfl rfl fun h5 => ?_
    have h5 : Rg (S.f 31 1) := h5
    refine c_le (i := 6) (v := 9) rfl ⟨by omega, by omega⟩ ⟨by omega, by omega⟩ (fun h6 => ?_) (fun h7 => ?_)
    · refine r_load (i := 9) (u := 0) (w := 2) rfl rfl rfl ?_
      refine r_getf (i := 10) (v := 6) (w := 0) (x := (2, 31)) rfl ly0 rfl rfl fun _ => ?_
      refine r_load (i := 11) (u := 1) (w := 0) rfl rfl rfl ?_
      refine r_putI (i := 12) (v := 1) (w := 7) rfl ly31 rfl ⟨by omega, by omega⟩ ?_
      have h13 := hI.bn
      have h14 := hI.br
      have hI10 := hI.use0 (z := k) (by omega) (by omega) (by omega)
      have hF12 := hF.setf (b := 31) (w := 1) (z := k) rfl
      have hR15 := hR.setf (b := 31) (w := 1) (z := k)
      refine yT_gen (fun S9 hS11 => ?_)
      rw [hS11] at hI10 hF12 hR15 
      refine r_const (i := 13) (u := 1) (z := 1) rfl rfl ?_
      exact r_retZ (i := 14) rfl (by omega) (by omega) ⟨1, rfl, by omega, by omega, hI10, hF12, hR15⟩
    · refine r_const (i := 7) (u := 0) (z := 0) rfl rfl ?_
      exact r_retZ (i := 8) rfl (by omega) (by omega) ⟨0, rfl, by omega, by omega, hI, hF, hR⟩
/-- ProxyForge.type -/
theorem sp21 {G : xk} {S : yS} {d : Nat} (hI : yI S) {b : Int} (h_b : 0 ≤ b ∧ b ≤ 1) {fl : Int} (h_fl : -2147483648 ≤ fl ∧ fl ≤ 2147483647) {p : Int} (h_p : -2147483648 ≤ p ∧ p ≤ 2147483647) {up : Int} (h_up : -2147483648 ≤ up ∧ up ≤ 2147483647) (hd : 6 ≤ d) : yT xPr G LY xC21 0 [some ((2, 0)), some (vi b), some (vi fl), some (vi p), some (vi up)] [] S d (fun r S' => (∃ z : Int, r = (1, vi z) ∧ -2147483648 ≤ z ∧ z ≤ 2147483647 ∧ tyC S b fl p up ∧ S.f 1 7 ≤ 19 ∧ z = S.f 1 7 ∧ cTy S S' b fl p up ∧ c6T S S' up ∧ yI S' ∧ yFr [(1, 7)] [2, 3, 4, 5, 6] S S' ∧ yRm [] S S') ∨ ∃ a c : Nat, r = (2, (c, a)) ∧ ((c = 12 ∧ (¬ tyC S b fl p up)) ∨ (c = 13 ∧ (tyC S b fl p up ∧ 20 ≤ S.f 1 7))) ∧ S' = ycost S 1 6) := by
  refine yT_pad 0 ?_
  show yT xPr G LY xC21 0 [some ((2, 0)), some (vi b), some (vi fl), some (vi p), some (vi up)] [] S d _
  obtain ⟨d, rfl⟩ : ∃ q, d = q + 1 := ⟨d - 1, by omega⟩
  have hF : yFr [(1, 7)] [2, 3, 4, 5, 6] S S := yFr.refl S
  have hR : yRm [] S S := yRm.refl S
  refine r_load (i := 0) (u := 0) (w := 2) rfl rfl rfl ?_
  refine r_getf (i := 1) (v := 0) (w := 0) (x := (2, 1)) rfl ly0 rfl rfl fun _ => ?_
  refine r_load (i := 2) (u := 1) (w := 0) rfl rfl rfl ?_
  refine r_load (i := 3) (u := 2) (w := 0) rfl rfl rfl ?_
  refine r_load (i := 4) (u := 3) (w := 0) rfl rfl rfl ?_
  refine r_load (i := 5) (u := 4) (w := 0) rfl rfl rfl ?_
  have h2 := hI.f tf1_7
  have h3 := hI.a ta3 up.toNat
  have h4 := hI.a ta3 up.toNat
  refine r_call (i := 6) (u := 1) (v := 137) (w := 0) (b := 0) (na := 1541) (C2 := xC137) (as := [(2, 1), vi b, vi fl, vi p, vi up]) (s := []) rfl rfl rfl rfl rfl rfl rfl (sp137 (b := b) (fl := fl) (p := p) (up := up) hI ⟨by omega, by omega⟩ ⟨by omega, by omega⟩ ⟨by omega, by omega⟩ ⟨by omega, by omega⟩   (by omega)) (fun r5 S6 hq7 => ?_)
  obtain ⟨z8, rfl, h9, h10, h11, h12, h13, rfl⟩ := hq7
  refine Or.inr (Or.inl ⟨rfl, ?_⟩)
  refine z_ne (i := 7) (v := 12) rfl ⟨by omega, by omega⟩ (fun h14 => ?_) (fun h15 => ?_)
  · refine r_load (i := 12) (u := 0) (w := 2) rfl rfl rfl ?_
    refine r_getf (i := 13) (v := 0) (w := 0) (x := (2, 1)) rfl ly0 rfl rfl fun _ => ?_
    refine r_getf (i := 14) (v := 7) (w := 1) (x := vi (S.f 1 7)) rfl ly1 rfl rfl fun h17 => ?_
    have h17 : Rg (S.f 1 7) := h17
    refine r_const (i := 15) (u := 20) (z := 20) rfl rfl ?_
    refine c_lt (i := 16) (v := 21) rfl ⟨by omega, by omega⟩ ⟨by omega, by omega⟩ (fun h18 => ?_) (fun h19 => ?_)
    · refine r_load (i := 21) (u := 0) (w := 2) rfl rfl rfl ?_
      refine r_getf (i := 22) (v := 0) (w := 0) (x := (2, 1)) rfl ly0 rfl rfl fun _ => ?_
      refine r_load (i := 23) (u := 1) (w := 0) rfl rfl rfl ?_
      refine r_load (i := 24) (u := 2) (w := 0) rfl rfl rfl ?_
      refine r_load (i := 25) (u := 3) (w := 0) rfl rfl rfl ?_
      refine r_load (i := 26) (u := 4) (w := 0) rfl rfl rfl ?_
      refine r_call (i := 27) (u := 1) (v := 128) (w := 0) (b := 0) (na := 1541) (C2 := xC128) (as := [(2, 1), vi b, vi fl, vi p, vi up]) (s := []) rfl rfl rfl rfl rfl rfl rfl (sp128 (b := b) (fl := fl) (p := p) (up := up) hI ⟨by omega, by omega⟩ ⟨by omega, by omega⟩ ⟨by omega, by omega⟩ ⟨by omega, by omega⟩ (by omega)  (by omega)) (fun r21 S22 hq23 => ?_)
      obtain ⟨z24, rfl, h25, h26, h27, ct28, c629, hI30, hF31, hR32⟩ := hq23
      have hF33 := hF.trans hF31 rfl rfl
      have hR34 := hR.trans hR32 rfl
      refine Or.inr (Or.inl ⟨rfl, ?_⟩)
      exact r_retI (i := 28) rfl (Or.inl ⟨z24, rfl, by omega, by omega, (by unfold tyC; omega), (by omega), (by omega), (by exact ct28), (by exact c629 (by omega) (by omega)), hI30, hF33, hR34⟩)
    · have h35 := hI.bn
      have h36 := hI.br
      exact r_throw (i := 17) (v := 13) (w := 99) rfl (by omega) (by omega) (by omega) (by decide) (fun a => Or.inr ⟨a, 13, rfl, Or.inr ⟨rfl, by exact ⟨by unfold tyC; omega, by omega⟩⟩, rfl⟩)
  · have h37 := hI.bn
    have h38 := hI.br
    exact r_throw (i := 8) (v := 12) (w := 92) rfl (by omega) (by omega) (by omega) (by decide) (fun a => Or.inr ⟨a, 12, rfl, Or.inl ⟨rfl, by unfold tyC; omega⟩, rfl⟩)
/-- ProxyForge.implement -/
theorem sp10 {G : xk} {S : yS} {d : Nat} (hI : yI S) {t : Int} (h_t : -2147483648 ≤ t ∧ t ≤ 2147483647) {f : Int} (h_f : -2147483648 ≤ f ∧ f ≤ 2147483647) (hd : 6 ≤ d) : yT xPr G LY xC10 0 [some ((2, 0)), some (vi t), some (vi f)] [] S d (fun r S' => (r = (0, (0, 0)) ∧ imC S t f ∧ cIm S S' t f ∧ yI S' ∧ yFr [] [6, 7, 8] S S' ∧ yRm [] S S') ∨ ∃ a c : Nat, r = (2, (c, a)) ∧ ((c = 12 ∧ (¬ imC S t f))) ∧ S' = ycost S 1 6) := by
  refine yT_pad 0 ?_
  show yT xPr G LY xC10 0 [some ((2, 0)), some (vi t), some (vi f)] [] S d _
  obtain ⟨d, rfl⟩ : ∃ q, d = q + 1 := ⟨d - 1, by omega⟩
  have hF : yFr [] [6, 7, 8] S S := yFr.refl S
  have hR : yRm [] S S := yRm.refl S
  refine r_load (i := 0) (u := 0) (w := 2) rfl rfl rfl ?_
  refine r_getf (i := 1) (v := 0) (w := 0) (x := (2, 1)) rfl ly0 rfl rfl fun _ => ?_
  refine r_load (i := 2) (u := 1) (w := 0) rfl rfl rfl ?_
  refine r_load (i := 3) (u := 2) (w := 0) rfl rfl rfl ?_
  have h2 := hI.f tf1_7
  have h3 := hI.a ta7 t.toNat
  refine r_call (i := 4) (u := 1) (v := 138) (w := 0) (b := 0) (na := 1027) (C2 := xC138) (as := [(2, 1), vi t, vi f]) (s := []) rfl rfl rfl rfl rfl rfl rfl (sp138 (t := t) (f := f) hI ⟨by omega, by omega⟩ ⟨by omega, by omega⟩   (by omega)) (fun r4 S5 hq6 => ?_)
  obtain ⟨z7, rfl, h8, h9, h10, yi11, ni12, rfl⟩ := hq6
  refine Or.inr (Or.inl ⟨rfl, ?_⟩)
  refine z_ne (i := 5) (v := 10) rfl ⟨by omega, by omega⟩ (fun h13 => ?_) (fun h14 => ?_)
  · refine r_load (i := 10) (u := 0) (w := 2) rfl rfl rfl ?_
    refine r_getf (i := 11) (v := 0) (w := 0) (x := (2, 1)) rfl ly0 rfl rfl fun _ => ?_
    refine r_load (i := 12) (u := 1) (w := 0) rfl rfl rfl ?_
    refine r_load (i := 13) (u := 2) (w := 0) rfl rfl rfl ?_
    have h16 := hI.a ta7 t.toNat
    refine r_call (i := 14) (u := 1) (v := 129) (w := 0) (b := 0) (na := 1027) (C2 := xC129) (as := [(2, 1), vi t, vi f]) (s := []) rfl rfl rfl rfl rfl rfl rfl (sp129 (t := t) (f := f) hI ⟨by omega, by omega⟩ ⟨by omega, by omega⟩ (by omega) (by exact (yi11 (by omega)).2.2.2.2.2)  (by omega)) (fun r17 S18 hq19 => ?_)
    obtain ⟨rfl, ci20, hI21, hF22, hR23⟩ := hq19
    have hF24 := hF.trans hF22 rfl rfl
    have hR25 := hR.trans hR23 rfl
    refine Or.inl ⟨rfl, ?_⟩
    exact r_ret0 (i := 15) rfl (Or.inl ⟨rfl, (by exact yi11 (by omega)), (by exact ci20), hI21, hF24, hR25⟩)
  · have h26 := hI.bn
    have h27 := hI.br
    exact r_throw (i := 6) (v := 12) (w := 92) rfl (by omega) (by omega) (by omega) (by decide) (fun a => Or.inr ⟨a, 12, rfl, ⟨rfl, by exact ni12 (by omega)⟩, rfl⟩)
/-- ProxyForge.method -/
theorem sp13 {G : xk} {S : yS} {d : Nat} (hI : yI S) {t : Int} (h_t : -2147483648 ≤ t ∧ t ≤ 2147483647) {w0 : Int} (h_w0 : -2147483648 ≤ w0 ∧ w0 ≤ 2147483647) {fl : Int} (h_fl : -2147483648 ≤ fl ∧ fl ≤ 2147483647) {p : Int} (h_p : -2147483648 ≤ p ∧ p ≤ 2147483647) {b : Int} (h_b : -2147483648 ≤ b ∧ b ≤ 2147483647) (hd : 6 ≤ d) : yT xPr G LY xC13 0 [some ((2, 0)), some (vi t), some (vi w0), some (vi fl), some (vi p), some (vi b)] [] S d (fun r S' => (∃ z : Int, r = (1, vi z) ∧ -2147483648 ≤ z ∧ z ≤ 2147483647 ∧ mbC S t w0 fl p b ∧ S.f 9 8 ≤ 59 ∧ z = S.f 9 8 ∧ cMe S S' t w0 fl p b ∧ yI S' ∧ yFr [(9, 8)] [10, 11, 12, 13, 14] S S' ∧ yRm [] S S') ∨ ∃ a c : Nat, r = (2, (c, a)) ∧ ((c = 12 ∧ (¬ mbC S t w0 fl p b)) ∨ (c = 13 ∧ (mbC S t w0 fl p b ∧ 60 ≤ S.f 9 8))) ∧ S' = ycost S 1 6) := by
  refine yT_pad 0 ?_
  show yT xPr G LY xC13 0 [some ((2, 0)), some (vi t), some (vi w0), some (vi fl), some (vi p), some (vi b)] [] S d _
  obtain ⟨d, rfl⟩ : ∃ q, d = q + 1 := ⟨d - 1, by omega⟩
  have hF : yFr [(9, 8)] [10, 11, 12, 13, 14] S S := yFr.refl S
  have hR : yRm [] S S := yRm.refl S
  refine r_load (i := 0) (u := 0) (w := 2) rfl rfl rfl ?_
  refine r_getf (i := 1) (v := 1) (w := 0) (x := (2, 9)) rfl ly0 rfl rfl fun _ => ?_
  refine r_load (i := 2) (u := 1) (w := 0) rfl rfl rfl ?_
  refine r_load (i := 3) (u := 2) (w := 0) rfl rfl rfl ?_
  refine r_load (i := 4) (u := 3) (w := 0) rfl rfl rfl ?_
  refine r_load (i := 5) (u := 4) (w := 0) rfl rfl rfl ?_
  refine r_load (i := 6) (u := 5) (w := 0) rfl rfl rfl ?_
  have h2 := hI.f tf1_7
  refine r_call (i := 7) (u := 2) (v := 82) (w := 0) (b := 0) (na := 1798) (C2 := xC82) (as := [(2, 9), vi t, vi w0, vi fl, vi p, vi b]) (s := []) rfl rfl rfl rfl rfl rfl rfl (sp82 (t := t) (w0 := w0) (fl := fl) (p := p) (b := b) hI ⟨by omega, by omega⟩ ⟨by omega, by omega⟩ ⟨by omega, by omega⟩ ⟨by omega, by omega⟩ ⟨by omega, by omega⟩   (by omega)) (fun r3 S4 hq5 => ?_)
  obtain ⟨z6, rfl, h7, h8, h9, h10, h11, h12, h13, yb14, nb15, rfl⟩ := hq5
  refine Or.inr (Or.inl ⟨rfl, ?_⟩)
  refine z_ne (i := 8) (v := 13) rfl ⟨by omega, by omega⟩ (fun h16 => ?_) (fun h17 => ?_)
  · refine r_load (i := 13) (u := 0) (w := 2) rfl rfl rfl ?_
    refine r_getf (i := 14) (v := 1) (w := 0) (x := (2, 9)) rfl ly0 rfl rfl fun _ => ?_
    have h19 := hI.f tf9_8
    refine r_getf (i := 15) (v := 8) (w := 2) (x := vi (S.f 9 8)) rfl ly9 rfl rfl fun h20 => ?_
    have h20 : Rg (S.f 9 8) := h20
    refine r_const (i := 16) (u := 60) (z := 60) rfl rfl ?_
    refine c_lt (i := 17) (v := 22) rfl ⟨by omega, by omega⟩ ⟨by omega, by omega⟩ (fun h21 => ?_) (fun h22 => ?_)
    · refine r_load (i := 22) (u := 0) (w := 2) rfl rfl rfl ?_
      refine r_getf (i := 23) (v := 1) (w := 0) (x := (2, 9)) rfl ly0 rfl rfl fun _ => ?_
      refine r_load (i := 24) (u := 1) (w := 0) rfl rfl rfl ?_
      refine r_load (i := 25) (u := 2) (w := 0) rfl rfl rfl ?_
      refine r_load (i := 26) (u := 3) (w := 0) rfl rfl rfl ?_
      refine r_load (i := 27) (u := 4) (w := 0) rfl rfl rfl ?_
      refine r_load (i := 28) (u := 5) (w := 0) rfl rfl rfl ?_
      refine r_call (i := 29) (u := 2) (v := 73) (w := 0) (b := 0) (na := 1798) (C2 := xC73) (as := [(2, 9), vi t, vi w0, vi fl, vi p, vi b]) (s := []) rfl rfl rfl rfl rfl rfl rfl (sp73 (t := t) (w0 := w0) (fl := fl) (p := p) (b := b) hI ⟨by omega, by omega⟩ ⟨by omega, by omega⟩ ⟨by omega, by omega⟩ ⟨by omega, by omega⟩ ⟨by omega, by omega⟩ (by omega) (by first | assumption | grind)  (by omega)) (fun r24 S25 hq26 => ?_)
      obtain ⟨z27, rfl, h28, h29, h30, cm31, hI32, hF33, hR34⟩ := hq26
      have hF35 := hF.trans hF33 rfl rfl
      have hR36 := hR.trans hR34 rfl
      refine Or.inr (Or.inl ⟨rfl, ?_⟩)
      exact r_retI (i := 30) rfl (Or.inl ⟨z27, rfl, by omega, by omega, (by exact yb14 (by omega)), (by omega), (by omega), (by exact cm31), hI32, hF35, hR36⟩)
    · have h37 := hI.bn
      have h38 := hI.br
      exact r_throw (i := 18) (v := 13) (w := 99) rfl (by omega) (by omega) (by omega) (by decide) (fun a => Or.inr ⟨a, 13, rfl, Or.inr ⟨rfl, by exact ⟨yb14 (by omega), by omega⟩⟩, rfl⟩)
  · have h39 := hI.bn
    have h40 := hI.br
    exact r_throw (i := 9) (v := 12) (w := 92) rfl (by omega) (by omega) (by omega) (by decide) (fun a => Or.inr ⟨a, 12, rfl, Or.inl ⟨rfl, by exact nb15 (by omega)⟩, rfl⟩)
/-- ProxyForge.throwing -/
theorem sp20 {G : xk} {S : yS} {d : Nat} (hI : yI S) {m : Int} (h_m : -2147483648 ≤ m ∧ m ≤ 2147483647) {t : Int} (h_t : -2147483648 ≤ t ∧ t ≤ 2147483647) (hd : 6 ≤ d) : yT xPr G LY xC20 0 [some ((2, 0)), some (vi m), some (vi t)] [] S d (fun r S' => (r = (0, (0, 0)) ∧ thC S m t ∧ cTh S S' m t ∧ yI S' ∧ yFr [] [15, 16] S S' ∧ yRm [] S S') ∨ ∃ a c : Nat, r = (2, (c, a)) ∧ ((c = 12 ∧ (¬ thC S m t))) ∧ S' = ycost S 1 6) := by
  refine yT_pad 0 ?_
  show yT xPr G LY xC20 0 [some ((2, 0)), some (vi m), some (vi t)] [] S d _
  obtain ⟨d, rfl⟩ : ∃ q, d = q + 1 := ⟨d - 1, by omega⟩
  have hF : yFr [] [15, 16] S S := yFr.refl S
  have hR : yRm [] S S := yRm.refl S
  refine r_load (i := 0) (u := 0) (w := 2) rfl rfl rfl ?_
  refine r_getf (i := 1) (v := 1) (w := 0) (x := (2, 9)) rfl ly0 rfl rfl fun _ => ?_
  refine r_load (i := 2) (u := 1) (w := 0) rfl rfl rfl ?_
  refine r_load (i := 3) (u := 2) (w := 0) rfl rfl rfl ?_
  have h2 := hI.f tf9_8
  have h3 := hI.f tf1_7
  have h4 := hI.a ta15 m.toNat
  refine r_call (i := 4) (u := 2) (v := 85) (w := 0) (b := 0) (na := 771) (C2 := xC85) (as := [(2, 9), vi m, vi t]) (s := []) rfl rfl rfl rfl rfl rfl rfl (sp85 (m := m) (t := t) hI ⟨by omega, by omega⟩ ⟨by omega, by omega⟩   (by omega)) (fun r5 S6 hq7 => ?_)
  obtain ⟨z8, rfl, h9, h10, h11, yt12, nt13, rfl⟩ := hq7
  refine Or.inr (Or.inl ⟨rfl, ?_⟩)
  refine z_ne (i := 5) (v := 10) rfl ⟨by omega, by omega⟩ (fun h14 => ?_) (fun h15 => ?_)
  · refine r_load (i := 10) (u := 0) (w := 2) rfl rfl rfl ?_
    refine r_getf (i := 11) (v := 1) (w := 0) (x := (2, 9)) rfl ly0 rfl rfl fun _ => ?_
    refine r_load (i := 12) (u := 1) (w := 0) rfl rfl rfl ?_
    refine r_load (i := 13) (u := 2) (w := 0) rfl rfl rfl ?_
    have h17 := hI.a ta15 m.toNat
    refine r_call (i := 14) (u := 2) (v := 74) (w := 0) (b := 0) (na := 771) (C2 := xC74) (as := [(2, 9), vi m, vi t]) (s := []) rfl rfl rfl rfl rfl rfl rfl (sp74 (m := m) (t := t) hI ⟨by omega, by omega⟩ ⟨by omega, by omega⟩ (by omega)  (by omega)) (fun r18 S19 hq20 => ?_)
    obtain ⟨rfl, cth21, hI22, hF23, hR24⟩ := hq20
    have hF25 := hF.trans hF23 rfl rfl
    have hR26 := hR.trans hR24 rfl
    refine Or.inl ⟨rfl, ?_⟩
    exact r_ret0 (i := 15) rfl (Or.inl ⟨rfl, (by exact yt12 (by omega)), (by exact cth21), hI22, hF25, hR26⟩)
  · have h27 := hI.bn
    have h28 := hI.br
    exact r_throw (i := 6) (v := 12) (w := 92) rfl (by omega) (by omega) (by omega) (by decide) (fun a => Or.inr ⟨a, 12, rfl, ⟨rfl, by exact nt13 (by omega)⟩, rfl⟩)
/-- ProxyForge.answer -/
theorem sp1 {G : xk} {S : yS} {d : Nat} (hI : yI S) {k : Int} (h_k : -2147483648 ≤ k ∧ k ≤ 2147483647) {v : Int} (h_v : Rl v) (hd : 6 ≤ d) : yT xPr G LY xC1 0 [some ((2, 0)), some (vi k), some (vl v), none] [] S d (fun r S' => (r = (0, (0, 0)) ∧ yI S' ∧ yFr [(26, 4), (26, 5)] [] S S' ∧ yRm [] S S') ∨ ∃ a c : Nat, r = (2, (c, a)) ∧ (c = 12) ∧ S' = ycost S 1 6) := by
  refine yT_pad 0 ?_
  show yT xPr G LY xC1 0 [some ((2, 0)), some (vi k), some (vl v), none] [] S d _
  obtain ⟨d, rfl⟩ : ∃ q, d = q + 1 := ⟨d - 1, by omega⟩
  have hF : yFr [(26, 4), (26, 5)] [] S S := yFr.refl S
  have hR : yRm [] S S := yRm.refl S
  refine r_load (i := 0) (u := 0) (w := 2) rfl rfl rfl ?_
  refine r_load (i := 1) (u := 1) (w := 0) rfl rfl rfl ?_
  refine r_load (i := 2) (u := 2) (w := 1) rfl rfl rfl ?_
  refine r_call (i := 3) (u := 0) (v := 11) (w := 0) (b := 0) (na := 1027) (C2 := xC11) (as := [(2, 0), vi k, vl v]) (s := []) rfl rfl rfl rfl rfl rfl rfl (sp11 (k := k) (v := v) hI ⟨by omega, by omega⟩ ⟨by omega, by omega⟩   (by omega)) (fun r1 S2 hq3 => ?_)
  obtain ⟨z4, rfl, h5, h6, h7, rfl⟩ := hq3
  refine Or.inr (Or.inl ⟨rfl, ?_⟩)
  refine z_ne (i := 4) (v := 9) rfl ⟨by omega, by omega⟩ (fun h8 => ?_) (fun h9 => ?_)
  · refine r_load (i := 9) (u := 0) (w := 2) rfl rfl rfl ?_
    refine r_getf (i := 10) (v := 4) (w := 0) (x := (2, 26)) rfl ly0 rfl rfl fun _ => ?_
    refine r_load (i := 11) (u := 1) (w := 0) rfl rfl rfl ?_
    refine r_load (i := 12) (u := 2) (w := 1) rfl rfl rfl ?_
    refine r_call (i := 13) (u := 5) (v := 38) (w := 0) (b := 0) (na := 1027) (C2 := xC38) (as := [(2, 26), vi k, vl v]) (s := []) rfl rfl rfl rfl rfl rfl rfl (sp38 (k := k) (v := v) hI ⟨by omega, by omega⟩ ⟨by omega, by omega⟩ (by omega)  (by omega)) (fun r11 S12 hq13 => ?_)
    obtain ⟨rfl, hI14, hF15, hR16⟩ := hq13
    have hF17 := hF.trans hF15 rfl rfl
    have hR18 := hR.trans hR16 rfl
    refine Or.inl ⟨rfl, ?_⟩
    exact r_ret0 (i := 14) rfl (Or.inl ⟨rfl,  hI14, hF17, hR18⟩)
  · have h19 := hI.bn
    have h20 := hI.br
    exact r_throw (i := 5) (v := 12) (w := 92) rfl (by omega) (by omega) (by omega) (by decide) (fun a => Or.inr ⟨a, 12, rfl, by decide, rfl⟩)
/-- ProxyForge.call -/
theorem sp5 {G : xk} {S : yS} {d : Nat} (hI : yI S) {k : Int} (h_k : -2147483648 ≤ k ∧ k ≤ 2147483647) {a : Int} (h_a : Rl a) {b : Int} (h_b : Rl b) {c : Int} (h_c : Rl c) {e : Int} (h_e : Rl e) (hd : 6 ≤ d) : yT xPr G LY xC5 0 [some ((2, 0)), some (vi k), some (vl a), none, some (vl b), none, some (vl c), none, some (vl e), none] [] S d (fun r S' => (∃ z : Int, r = (1, vi z) ∧ -2147483648 ≤ z ∧ z ≤ 2147483647 ∧ (0 ≤ k ∧ k < S.f 22 3) ∧ giC S S' k (ag4 a b c e) ∧ yI S' ∧ yFr [(26, 2), (26, 3), (29, 5)] [27, 28, 30] S S' ∧ yRm [] S S') ∨ ∃ a c : Nat, r = (2, (c, a)) ∧ ((c = 12 ∧ (k < 0 ∨ S.f 22 3 ≤ k))) ∧ S' = ycost S 1 6) := by
  refine yT_pad 0 ?_
  show yT xPr G LY xC5 0 [some ((2, 0)), some (vi k), some (vl a), none, some (vl b), none, some (vl c), none, some (vl e), none] [] S d _
  obtain ⟨d, rfl⟩ : ∃ q, d = q + 1 := ⟨d - 1, by omega⟩
  have hF : yFr [(26, 2), (26, 3), (29, 5)] [27, 28, 30] S S := yFr.refl S
  have hR : yRm [] S S := yRm.refl S
  refine r_load (i := 0) (u := 0) (w := 2) rfl rfl rfl ?_
  refine r_getf (i := 1) (v := 3) (w := 0) (x := (2, 22)) rfl ly0 rfl rfl fun _ => ?_
  refine r_load (i := 2) (u := 1) (w := 0) rfl rfl rfl ?_
  have h2 := hI.f tf22_3
  refine r_call (i := 3) (u := 4) (v := 101) (w := 0) (b := 0) (na := 514) (C2 := xC101) (as := [(2, 22), vi k]) (s := []) rfl rfl rfl rfl rfl rfl rfl (sp101 (k := k) hI ⟨by omega, by omega⟩   (by omega)) (fun r3 S4 hq5 => ?_)
  obtain ⟨z6, rfl, h7, h8, h9, h10, rfl⟩ := hq5
  refine Or.inr (Or.inl ⟨rfl, ?_⟩)
  refine z_ne (i := 4) (v := 9) rfl ⟨by omega, by omega⟩ (fun h11 => ?_) (fun h12 => ?_)
  · refine r_load (i := 9) (u := 0) (w := 2) rfl rfl rfl ?_
    refine r_getf (i := 10) (v := 5) (w := 0) (x := (2, 29)) rfl ly0 rfl rfl fun _ => ?_
    refine r_getf (i := 11) (v := 4) (w := 6) (x := (2, 30)) rfl ly29 rfl rfl fun _ => ?_
    refine r_const (i := 12) (u := 0) (z := 0) rfl rfl ?_
    refine r_load (i := 13) (u := 2) (w := 1) rfl rfl rfl ?_
    refine r_lastore (i := 14) rfl ly30 (by decide) (by omega) (by omega) ⟨by omega, by omega⟩ ?_
    have hI16 := hI.seta0 (b := 30) (j := (0 : Int).toNat) (z := a) rfl rfl
    have hF18 := hF.seta (b := 30) (j := (0 : Int).toNat) (z := a) rfl
    have hR19 := hR.seta (b := 30) (j := (0 : Int).toNat) (z := a)
    refine yT_gen (fun S15 hS17 => ?_)
    rw [hS17] at hI16 hF18 hR19 
    refine r_load (i := 15) (u := 0) (w := 2) rfl rfl rfl ?_
    refine r_getf (i := 16) (v := 5) (w := 0) (x := (2, 29)) rfl ly0 rfl rfl fun _ => ?_
    refine r_getf (i := 17) (v := 4) (w := 6) (x := (2, 30)) rfl ly29 rfl rfl fun _ => ?_
    refine r_const (i := 18) (u := 1) (z := 1) rfl rfl ?_
    refine r_load (i := 19) (u := 4) (w := 1) rfl rfl rfl ?_
    refine r_lastore (i := 20) rfl ly30 (by decide) (by omega) (by omega) ⟨by omega, by omega⟩ ?_
    have hI23 := hI16.seta0 (b := 30) (j := (1 : Int).toNat) (z := b) rfl rfl
    have hF25 := hF18.seta (b := 30) (j := (1 : Int).toNat) (z := b) rfl
    have hR26 := hR19.seta (b := 30) (j := (1 : Int).toNat) (z := b)
    refine yT_gen (fun S22 hS24 => ?_)
    rw [hS24] at hI23 hF25 hR26 
    refine r_load (i := 21) (u := 0) (w := 2) rfl rfl rfl ?_
    refine r_getf (i := 22) (v := 5) (w := 0) (x := (2, 29)) rfl ly0 rfl rfl fun _ => ?_
    refine r_getf (i := 23) (v := 4) (w := 6) (x := (2, 30)) rfl ly29 rfl rfl fun _ => ?_
    refine r_const (i := 24) (u := 2) (z := 2) rfl rfl ?_
    refine r_load (i := 25) (u := 6) (w := 1) rfl rfl rfl ?_
    refine r_lastore (i := 26) rfl ly30 (by decide) (by omega) (by omega) ⟨by omega, by omega⟩ ?_
    have hI30 := hI23.seta0 (b := 30) (j := (2 : Int).toNat) (z := c) rfl rfl
    have hF32 := hF25.seta (b := 30) (j := (2 : Int).toNat) (z := c) rfl
    have hR33 := hR26.seta (b := 30) (j := (2 : Int).toNat) (z := c)
    refine yT_gen (fun S29 hS31 => ?_)
    rw [hS31] at hI30 hF32 hR33 
    refine r_load (i := 27) (u := 0) (w := 2) rfl rfl rfl ?_
    refine r_getf (i := 28) (v := 5) (w := 0) (x := (2, 29)) rfl ly0 rfl rfl fun _ => ?_
    refine r_getf (i := 29) (v := 4) (w := 6) (x := (2, 30)) rfl ly29 rfl rfl fun _ => ?_
    refine r_const (i := 30) (u := 3) (z := 3) rfl rfl ?_
    refine r_load (i := 31) (u := 8) (w := 1) rfl rfl rfl ?_
    refine r_lastore (i := 32) rfl ly30 (by decide) (by omega) (by omega) ⟨by omega, by omega⟩ ?_
    have hI37 := hI30.seta0 (b := 30) (j := (3 : Int).toNat) (z := e) rfl rfl
    have hF39 := hF32.seta (b := 30) (j := (3 : Int).toNat) (z := e) rfl
    have hR40 := hR33.seta (b := 30) (j := (3 : Int).toNat) (z := e)
    refine yT_gen (fun S36 hS38 => ?_)
    rw [hS38] at hI37 hF39 hR40 
    refine r_load (i := 33) (u := 0) (w := 2) rfl rfl rfl ?_
    refine r_getf (i := 34) (v := 5) (w := 0) (x := (2, 29)) rfl ly0 rfl rfl fun _ => ?_
    refine r_load (i := 35) (u := 1) (w := 0) rfl rfl rfl ?_
    refine r_call (i := 36) (u := 6) (v := 47) (w := 0) (b := 0) (na := 1282) (C2 := xC47) (as := [(2, 29), vi k]) (s := []) rfl rfl rfl rfl rfl rfl rfl (sp47 (k := k) hI37 ⟨by omega, by omega⟩   (by omega)) (fun r42 S43 hq44 => ?_)
    obtain ⟨z45, rfl, h46, h47, gic48, hI49, hF50, hR51⟩ := hq44
    have hF52 := hF39.trans hF50 rfl rfl
    have hR53 := hR40.trans hR51 rfl
    refine Or.inr (Or.inl ⟨rfl, ?_⟩)
    exact r_retI (i := 37) rfl (Or.inl ⟨z45, rfl, by omega, by omega, (by omega), (by subst hS17 hS24 hS31 hS38; exact giC_4 (hI49.f tf26_2).2 gic48), hI49, hF52, hR53⟩)
  · have h54 := hI.bn
    have h55 := hI.br
    exact r_throw (i := 5) (v := 12) (w := 92) rfl (by omega) (by omega) (by omega) (by decide) (fun a => Or.inr ⟨a, 12, rfl, ⟨rfl, by omega⟩, rfl⟩)
theorem lp8_64 {G : xk} {d : Nat} {S0 : yS} {t : Int} (h_t : -2147483648 ≤ t ∧ t ≤ 2147483647) {fa : Int} (h_fa : -2147483648 ≤ fa ∧ fa ≤ 2147483647) {fb : Int} (h_fb : -2147483648 ≤ fb ∧ fb ≤ 2147483647) {fc : Int} (h_fc : -2147483648 ≤ fc ∧ fc ≤ 2147483647) (hd : 25 ≤ d + 1) : ∀ (n : Nat), ∀ (S : yS) (hI : yI S) (hF : yFr [(17, 6), (17, 7), (17, 8), (17, 9), (17, 10), (17, 11), (17, 12), (22, 3), (31, 1), (33, 7), (33, 8), (33, 9), (33, 10), (33, 11), (33, 12), (33, 13), (33, 14), (33, 15), (34, 1), (36, 5)] [18, 19, 20, 21, 23, 24, 25, 37, 100, 101, 102, 103, 105] S0 S) (hR : yRm [0, 1, 2, 3] S0 S) (e_PL : PL S) (e_FA : FA S) (rf k : Int) (h_rf : 0 ≤ rf ∧ rf ≤ 6) (h_k : 0 ≤ k ∧ k ≤ 24) (q_0 : 10 ≤ S.f 31 1 ∧ S.f 31 1 ≤ 22429 + 1144 * k) (q_1 : S.f 34 1 ≤ 2666 + 179 * k) (q_2 : foX S0 S rf t fa fb fc) (q_3 : rf = 0) (hn : 24 - k < (n : Nat)), yT xPr G LY xC8 64 [some ((2, 0)), some (vi t), some (vi fa), some (vi fb), some (vi fc), some (vi rf), some (vi k)] [] S (d + 1) (fun r S' => (∃ z : Int, r = (1, vi z) ∧ -2147483648 ≤ z ∧ z ≤ 2147483647 ∧ foX S0 S' z t fa fb fc ∧ N23 S' ∧ yI S' ∧ yFr [(17, 6), (17, 7), (17, 8), (17, 9), (17, 10), (17, 11), (17, 12), (22, 3), (31, 1), (33, 7), (33, 8), (33, 9), (33, 10), (33, 11), (33, 12), (33, 13), (33, 14), (33, 15), (34, 1), (36, 5)] [18, 19, 20, 21, 23, 24, 25, 37, 100, 101, 102, 103, 105] S0 S' ∧ yRm [0, 1, 2, 3] S0 S') ∨ ∃ a c : Nat, r = (2, (c, a)) ∧ ((c = 12 ∧ (¬ goC S0 t fa fb fc))) ∧ S' = ycost S0 1 6) := by
  intro n
  induction n with
  | zero => intro S hI hF hR e_PL e_FA rf k h_rf h_k q_0 q_1 q_2 q_3 hn; exact absurd hn (by omega)
  | succ n ih =>
    intro S hI hF hR e_PL e_FA rf k h_rf h_k q_0 q_1 q_2 q_3 hn
    have h1 := hI.b0
    have h2 := hI.b1
    refine r_load (i := 64) (u := 6) (w := 0) rfl rfl rfl ?_
    refine r_load (i := 65) (u := 0) (w := 2) rfl rfl rfl ?_
    refine r_getf (i := 66) (v := 3) (w := 0) (x := (2, 22)) rfl ly0 rfl rfl fun _ => ?_
    have h4 := hI.f tf22_3
    refine r_getf (i := 67) (v := 3) (w := 4) (x := vi (S.f 22 3)) rfl ly22 rfl rfl fun h5 => ?_
    have h5 : Rg (S.f 22 3) := h5
    refine c_ge (i := 68) (v := 75) rfl ⟨by omega, by omega⟩ ⟨by omega, by omega⟩ (fun h6 => ?_) (fun h7 => ?_)
    · refine r_load (i := 75) (u := 0) (w := 2) rfl rfl rfl ?_
      refine r_getf (i := 76) (v := 7) (w := 0) (x := (2, 33)) rfl ly0 rfl rfl fun _ => ?_
      refine r_call (i := 77) (u := 8) (v := 151) (w := 0) (b := 0) (na := 257) (C2 := xC151) (as := [(2, 33)]) (s := []) rfl rfl rfl rfl rfl rfl rfl (sp151  hI  (by omega) (by omega) e_PL (by omega)) (fun r9 S10 hq11 => ?_)
      obtain ⟨rfl, h12, e13, hI14, hF15, hR16⟩ := hq11
      have hF17 := hF.trans hF15 rfl rfl
      have hR18 := hR.trans hR16 rfl
      have e19 := FAx.fr e_FA hF15 rfl rfl
      refine Or.inl ⟨rfl, ?_⟩
      refine r_const (i := 78) (u := 0) (z := 0) rfl rfl ?_
      exact r_retI (i := 79) rfl (Or.inl ⟨0, rfl, by omega, by omega, (by have w9 := foX_up q_2 (sSl_fr hF15 rfl rfl); rw [show rf = 0 by omega] at w9; exact w9), (by exact (e13).n.2.2.1), hI14, hF17, hR18⟩)
    · refine r_load (i := 69) (u := 0) (w := 2) rfl rfl rfl ?_
      refine r_getf (i := 70) (v := 7) (w := 0) (x := (2, 33)) rfl ly0 rfl rfl fun _ => ?_
      refine r_load (i := 71) (u := 6) (w := 0) rfl rfl rfl ?_
      refine r_call (i := 72) (u := 8) (v := 166) (w := 0) (b := 0) (na := 1794) (C2 := xC166) (as := [(2, 33), vi k]) (s := []) rfl rfl rfl rfl rfl rfl rfl (sp166 (k := k) hI ⟨by omega, by omega⟩ (by omega) (by omega) e_PL e_FA (by omega)) (fun r21 S22 hq23 => ?_)
      obtain ⟨rfl, h24, h25, e26, e27, hI28, hF29, hR30⟩ := hq23
      have hF31 := hF.trans hF29 rfl rfl
      have hR32 := hR.trans hR30 rfl
      refine Or.inl ⟨rfl, ?_⟩
      refine r_iinc (i := 73) (u := 1) (v := 6) (s := 1) (L1 := [some ((2, 0)), some (vi t), some (vi fa), some (vi fb), some (vi fc), some (vi rf), some (vi (k + 1))]) rfl rfl rfl rfl rfl ?_
      refine r_goto (i := 74) (v := 64) rfl ?_
      have h33 := hI28.b0
      have h34 := hI28.b1
      exact ih S22 hI28 hF31 hR32 e26 e27 rf (k + 1) ⟨by omega, by omega⟩ ⟨by omega, by omega⟩ (by omega) (by omega) (by exact foX_up q_2 (sSl_fr hF29 rfl rfl)) (by omega) (by omega)
theorem lp8_45 {G : xk} {d : Nat} {S0 : yS} {t : Int} (h_t : -2147483648 ≤ t ∧ t ≤ 2147483647) {fa : Int} (h_fa : -2147483648 ≤ fa ∧ fa ≤ 2147483647) {fb : Int} (h_fb : -2147483648 ≤ fb ∧ fb ≤ 2147483647) {fc : Int} (h_fc : -2147483648 ≤ fc ∧ fc ≤ 2147483647) (hd : 25 ≤ d + 1) : ∀ (n : Nat), ∀ (S : yS) (hI : yI S) (hF : yFr [(17, 6), (17, 7), (17, 8), (17, 9), (17, 10), (17, 11), (17, 12), (22, 3), (31, 1), (33, 7), (33, 8), (33, 9), (33, 10), (33, 11), (33, 12), (33, 13), (33, 14), (33, 15), (34, 1), (36, 5)] [18, 19, 20, 21, 23, 24, 25, 37, 100, 101, 102, 103, 105] S0 S) (hR : yRm [0, 1, 2, 3] S0 S) (e_PL : PL S) (e_FA : FA S) (rf m : Int) (h_rf : 0 ≤ rf ∧ rf ≤ 6) (h_m : 0 ≤ m ∧ m ≤ 60) (q_0 : 10 ≤ S.f 31 1 ∧ S.f 31 1 ≤ 169 + 371 * m) (q_1 : S.f 34 1 ≤ 26 + 44 * m) (q_2 : foX S0 S rf t fa fb fc) (q_3 : rf = 0) (hn : 60 - m < (n : Nat)), yT xPr G LY xC8 45 [some ((2, 0)), some (vi t), some (vi fa), some (vi fb), some (vi fc), some (vi rf), some (vi m)] [] S (d + 1) (fun r S' => (∃ z : Int, r = (1, vi z) ∧ -2147483648 ≤ z ∧ z ≤ 2147483647 ∧ foX S0 S' z t fa fb fc ∧ N23 S' ∧ yI S' ∧ yFr [(17, 6), (17, 7), (17, 8), (17, 9), (17, 10), (17, 11), (17, 12), (22, 3), (31, 1), (33, 7), (33, 8), (33, 9), (33, 10), (33, 11), (33, 12), (33, 13), (33, 14), (33, 15), (34, 1), (36, 5)] [18, 19, 20, 21, 23, 24, 25, 37, 100, 101, 102, 103, 105] S0 S' ∧ yRm [0, 1, 2, 3] S0 S') ∨ ∃ a c : Nat, r = (2, (c, a)) ∧ ((c = 12 ∧ (¬ goC S0 t fa fb fc))) ∧ S' = ycost S0 1 6) := by
  intro n
  induction n with
  | zero => intro S hI hF hR e_PL e_FA rf m h_rf h_m q_0 q_1 q_2 q_3 hn; exact absurd hn (by omega)
  | succ n ih =>
    intro S hI hF hR e_PL e_FA rf m h_rf h_m q_0 q_1 q_2 q_3 hn
    have h1 := hI.b0
    have h2 := hI.b1
    refine r_load (i := 45) (u := 6) (w := 0) rfl rfl rfl ?_
    refine r_load (i := 46) (u := 0) (w := 2) rfl rfl rfl ?_
    refine r_getf (i := 47) (v := 1) (w := 0) (x := (2, 9)) rfl ly0 rfl rfl fun _ => ?_
    have h4 := hI.f tf9_8
    have h5 : S.f 9 8 = S0.f 9 8 := hF.f rfl
    refine r_getf (i := 48) (v := 8) (w := 2) (x := vi (S.f 9 8)) rfl ly9 rfl rfl fun h6 => ?_
    have h6 : Rg (S.f 9 8) := h6
    refine c_ge (i := 49) (v := 62) rfl ⟨by omega, by omega⟩ ⟨by omega, by omega⟩ (fun h7 => ?_) (fun h8 => ?_)
    · refine r_const (i := 62) (u := 0) (z := 0) rfl rfl ?_
      refine r_store (i := 63) (u := 6) (w := 0) (L1 := [some ((2, 0)), some (vi t), some (vi fa), some (vi fb), some (vi fc), some (vi rf), some (vi 0)]) rfl rfl rfl rfl ?_
      exact lp8_64 h_t h_fa h_fb h_fc  hd _ S hI hF hR e_PL e_FA rf 0 ⟨by omega, by omega⟩ ⟨by omega, by omega⟩ (by omega) (by omega) (by exact foX_up q_2 sSl_rfl) (by omega) (Int.lt_succ_toNat _)
    · refine r_load (i := 50) (u := 0) (w := 2) rfl rfl rfl ?_
      refine r_getf (i := 51) (v := 1) (w := 0) (x := (2, 9)) rfl ly0 rfl rfl fun _ => ?_
      refine r_load (i := 52) (u := 6) (w := 0) rfl rfl rfl ?_
      refine r_load (i := 53) (u := 1) (w := 0) rfl rfl rfl ?_
      refine r_call (i := 54) (u := 2) (v := 79) (w := 0) (b := 0) (na := 771) (C2 := xC79) (as := [(2, 9), vi m, vi t]) (s := []) rfl rfl rfl rfl rfl rfl rfl (sp79 (m := m) (t := t) hI ⟨by omega, by omega⟩ ⟨by omega, by omega⟩   (by omega)) (fun r10 S11 hq12 => ?_)
      obtain ⟨z13, rfl, h14, h15, yo16, no17, rfl⟩ := hq12
      refine Or.inr (Or.inl ⟨rfl, ?_⟩)
      refine z_eq (i := 55) (v := 60) rfl ⟨by omega, by omega⟩ (fun h18 => ?_) (fun h19 => ?_)
      · refine r_iinc (i := 60) (u := 1) (v := 6) (s := 1) (L1 := [some ((2, 0)), some (vi t), some (vi fa), some (vi fb), some (vi fc), some (vi rf), some (vi (m + 1))]) rfl rfl rfl rfl rfl ?_
        refine r_goto (i := 61) (v := 45) rfl ?_
        exact ih S hI hF hR e_PL e_FA rf (m + 1) ⟨by omega, by omega⟩ ⟨by omega, by omega⟩ (by omega) (by omega) (by exact foX_up q_2 sSl_rfl) (by omega) (by omega)
      · refine r_load (i := 56) (u := 0) (w := 2) rfl rfl rfl ?_
        refine r_getf (i := 57) (v := 7) (w := 0) (x := (2, 33)) rfl ly0 rfl rfl fun _ => ?_
        refine r_load (i := 58) (u := 6) (w := 0) rfl rfl rfl ?_
        refine r_call (i := 59) (u := 8) (v := 149) (w := 0) (b := 0) (na := 1538) (C2 := xC149) (as := [(2, 33), vi m]) (s := []) rfl rfl rfl rfl rfl rfl rfl (sp149 (m := m) hI ⟨by omega, by omega⟩ (by omega) (by omega) e_PL (by omega)) (fun r21 S22 hq23 => ?_)
        obtain ⟨rfl, h24, h25, e26, hI27, hF28, hR29⟩ := hq23
        have hF30 := hF.trans hF28 rfl rfl
        have hR31 := hR.trans hR29 rfl
        have e32 := FAx.fr e_FA hF28 rfl rfl
        refine Or.inl ⟨rfl, ?_⟩
        refine r_iinc (i := 60) (u := 1) (v := 6) (s := 1) (L1 := [some ((2, 0)), some (vi t), some (vi fa), some (vi fb), some (vi fc), some (vi rf), some (vi (m + 1))]) rfl rfl rfl rfl rfl ?_
        refine r_goto (i := 61) (v := 45) rfl ?_
        have h33 := hI27.b0
        have h34 := hI27.b1
        exact ih S22 hI27 hF30 hR31 e26 e32 rf (m + 1) ⟨by omega, by omega⟩ ⟨by omega, by omega⟩ (by omega) (by omega) (by exact foX_up q_2 (sSl_fr hF28 rfl rfl)) (by omega) (by omega)
/-- ProxyForge.forge -/
theorem sp8 {G : xk} {S : yS} {d : Nat} (hI : yI S) {t : Int} (h_t : -2147483648 ≤ t ∧ t ≤ 2147483647) {fa : Int} (h_fa : -2147483648 ≤ fa ∧ fa ≤ 2147483647) {fb : Int} (h_fb : -2147483648 ≤ fb ∧ fb ≤ 2147483647) {fc : Int} (h_fc : -2147483648 ≤ fc ∧ fc ≤ 2147483647) (e_N23 : N23 S) (hd : 25 ≤ d) : yT xPr G LY xC8 0 [some ((2, 0)), some (vi t), some (vi fa), some (vi fb), some (vi fc)] [] S d (fun r S' => (∃ z : Int, r = (1, vi z) ∧ -2147483648 ≤ z ∧ z ≤ 2147483647 ∧ foX S S' z t fa fb fc ∧ N23 S' ∧ yI S' ∧ yFr [(17, 6), (17, 7), (17, 8), (17, 9), (17, 10), (17, 11), (17, 12), (22, 3), (31, 1), (33, 7), (33, 8), (33, 9), (33, 10), (33, 11), (33, 12), (33, 13), (33, 14), (33, 15), (34, 1), (36, 5)] [18, 19, 20, 21, 23, 24, 25, 37, 100, 101, 102, 103, 105] S S' ∧ yRm [0, 1, 2, 3] S S') ∨ ∃ a c : Nat, r = (2, (c, a)) ∧ ((c = 12 ∧ (¬ goC S t fa fb fc))) ∧ S' = ycost S 1 6) := by
  refine yT_pad 2 ?_
  show yT xPr G LY xC8 0 [some ((2, 0)), some (vi t), some (vi fa), some (vi fb), some (vi fc), none, none] [] S d _
  obtain ⟨d, rfl⟩ : ∃ q, d = q + 1 := ⟨d - 1, by omega⟩
  have hF : yFr [(17, 6), (17, 7), (17, 8), (17, 9), (17, 10), (17, 11), (17, 12), (22, 3), (31, 1), (33, 7), (33, 8), (33, 9), (33, 10), (33, 11), (33, 12), (33, 13), (33, 14), (33, 15), (34, 1), (36, 5)] [18, 19, 20, 21, 23, 24, 25, 37, 100, 101, 102, 103, 105] S S := yFr.refl S
  have hR : yRm [0, 1, 2, 3] S S := yRm.refl S
  refine r_load (i := 0) (u := 0) (w := 2) rfl rfl rfl ?_
  refine r_getf (i := 1) (v := 0) (w := 0) (x := (2, 1)) rfl ly0 rfl rfl fun _ => ?_
  refine r_load (i := 2) (u := 1) (w := 0) rfl rfl rfl ?_
  refine r_i2l (i := 3) rfl ⟨by omega, by omega⟩ ?_
  have h2 := hI.f tf1_7
  refine r_call (i := 4) (u := 1) (v := 131) (w := 0) (b := 0) (na := 770) (C2 := xC131) (as := [(2, 1), vl t]) (s := []) rfl rfl rfl rfl rfl rfl rfl (sp131 (t := t) hI ⟨by omega, by omega⟩   (by omega)) (fun r3 S4 hq5 => ?_)
  obtain ⟨z6, rfl, h7, h8, h9, h10, rfl⟩ := hq5
  refine Or.inr (Or.inl ⟨rfl, ?_⟩)
  refine z_eq (i := 5) (v := 12) rfl ⟨by omega, by omega⟩ (fun h11 => ?_) (fun h12 => ?_)
  · have h13 := hI.bn
    have h14 := hI.br
    exact r_throw (i := 12) (v := 12) (w := 92) rfl (by omega) (by omega) (by omega) (by decide) (fun a => Or.inr ⟨a, 12, rfl, ⟨rfl, by exact fun h9 => absurd h9.1 (by omega)⟩, rfl⟩)
  · refine r_load (i := 6) (u := 0) (w := 2) rfl rfl rfl ?_
    refine r_load (i := 7) (u := 2) (w := 0) rfl rfl rfl ?_
    refine r_load (i := 8) (u := 3) (w := 0) rfl rfl rfl ?_
    refine r_load (i := 9) (u := 4) (w := 0) rfl rfl rfl ?_
    refine r_call (i := 10) (u := 0) (v := 2) (w := 0) (b := 0) (na := 1028) (C2 := xC2) (as := [(2, 0), vi fa, vi fb, vi fc]) (s := []) rfl rfl rfl rfl rfl rfl rfl (sp2 (a := fa) (b := fb) (c := fc) hI ⟨by omega, by omega⟩ ⟨by omega, by omega⟩ ⟨by omega, by omega⟩   (by omega)) (fun r15 S16 hq17 => ?_)
    obtain ⟨z18, rfl, h19, h20, h21, yao22, nao23, rfl⟩ := hq17
    refine Or.inr (Or.inl ⟨rfl, ?_⟩)
    refine z_ne (i := 11) (v := 16) rfl ⟨by omega, by omega⟩ (fun h24 => ?_) (fun h25 => ?_)
    · refine r_load (i := 16) (u := 0) (w := 2) rfl rfl rfl ?_
      refine r_getf (i := 17) (v := 2) (w := 0) (x := (2, 17)) rfl ly0 rfl rfl fun _ => ?_
      refine r_load (i := 18) (u := 1) (w := 0) rfl rfl rfl ?_
      refine r_load (i := 19) (u := 2) (w := 0) rfl rfl rfl ?_
      refine r_load (i := 20) (u := 3) (w := 0) rfl rfl rfl ?_
      refine r_load (i := 21) (u := 4) (w := 0) rfl rfl rfl ?_
      refine r_call (i := 22) (u := 3) (v := 52) (w := 0) (b := 0) (na := 1285) (C2 := xC52) (as := [(2, 17), vi t, vi fa, vi fb, vi fc]) (s := []) rfl rfl rfl rfl rfl rfl rfl (sp52 (t := t) (a := fa) (b := fb) (c := fc) hI ⟨by omega, by omega⟩ ⟨by omega, by omega⟩ ⟨by omega, by omega⟩ ⟨by omega, by omega⟩   (by omega)) (fun r27 S28 hq29 => ?_)
      obtain ⟨rfl, as30, e31, hI32, hF33, hR34⟩ := hq29
      have hF35 := hF.trans hF33 rfl rfl
      have hR36 := hR.trans hR34 rfl
      have e37 := N23x.fr e_N23 hF33 hR34 rfl rfl rfl
      refine Or.inl ⟨rfl, ?_⟩
      refine r_load (i := 23) (u := 0) (w := 2) rfl rfl rfl ?_
      refine r_getf (i := 24) (v := 2) (w := 0) (x := (2, 17)) rfl ly0 rfl rfl fun _ => ?_
      refine r_call (i := 25) (u := 3) (v := 62) (w := 0) (b := 0) (na := 257) (C2 := xC62) (as := [(2, 17)]) (s := []) rfl rfl rfl rfl rfl rfl rfl (sp62  hI32   e31 (by omega)) (fun r39 S40 hq41 => ?_)
      obtain ⟨z42, rfl, h43, h44, h45, h46, rf47, rf048, e49, hI50, hF51, hR52⟩ := hq41
      have hF53 := hF35.trans hF51 rfl rfl
      have hR54 := hR36.trans hR52 rfl
      have e55 := N23x.fr e37 hF51 hR52 rfl rfl rfl
      refine Or.inr (Or.inl ⟨rfl, ?_⟩)
      refine r_store (i := 26) (u := 5) (w := 0) (L1 := [some ((2, 0)), some (vi t), some (vi fa), some (vi fb), some (vi fc), some (vi z42), none]) rfl rfl rfl rfl ?_
      refine r_load (i := 27) (u := 5) (w := 0) rfl rfl rfl ?_
      refine z_eq (i := 28) (v := 31) rfl ⟨by omega, by omega⟩ (fun h56 => ?_) (fun h57 => ?_)
      · have fn9 := (show FN S40 by grind)
        refine r_load (i := 31) (u := 0) (w := 2) rfl rfl rfl ?_
        refine r_getf (i := 32) (v := 3) (w := 0) (x := (2, 22)) rfl ly0 rfl rfl fun _ => ?_
        refine r_load (i := 33) (u := 0) (w := 2) rfl rfl rfl ?_
        refine r_getf (i := 34) (v := 2) (w := 0) (x := (2, 17)) rfl ly0 rfl rfl fun _ => ?_
        refine r_load (i := 35) (u := 0) (w := 2) rfl rfl rfl ?_
        refine r_getf (i := 36) (v := 1) (w := 0) (x := (2, 9)) rfl ly0 rfl rfl fun _ => ?_
        refine r_load (i := 37) (u := 0) (w := 2) rfl rfl rfl ?_
        refine r_getf (i := 38) (v := 9) (w := 0) (x := (2, 42)) rfl ly0 rfl rfl fun _ => ?_
        refine r_call (i := 39) (u := 4) (v := 102) (w := 0) (b := 0) (na := 1540) (C2 := xC102) (as := [(2, 22), (2, 17), (2, 9), (2, 42)]) (s := []) rfl rfl rfl rfl rfl rfl rfl (sp102  hI50   fn9 (by omega)) (fun r62 S63 hq64 => ?_)
        obtain ⟨rfl, tk65, hI66, hF67, hR68⟩ := hq64
        have hF69 := hF53.trans hF67 rfl rfl
        have hR70 := hR54.trans hR68 rfl
        have e71 := N23x.fr e55 hF67 hR68 rfl rfl rfl
        have e72 := FAx.fr e49 hF67 rfl rfl
        have e73 := FNx.fr fn9 hF67 rfl rfl
        refine Or.inl ⟨rfl, ?_⟩
        refine r_load (i := 40) (u := 0) (w := 2) rfl rfl rfl ?_
        refine r_getf (i := 41) (v := 7) (w := 0) (x := (2, 33)) rfl ly0 rfl rfl fun _ => ?_
        refine r_call (i := 42) (u := 8) (v := 143) (w := 0) (b := 0) (na := 513) (C2 := xC143) (as := [(2, 33)]) (s := []) rfl rfl rfl rfl rfl rfl rfl (sp143  hI66   e71 e72 (by omega)) (fun r75 S76 hq77 => ?_)
        obtain ⟨rfl, h78, h79, e80, e81, hI82, hF83, hR84⟩ := hq77
        have hF85 := hF69.trans hF83 rfl rfl
        have hR86 := hR70.trans hR84 rfl
        have e87 := FNx.fr e73 hF83 rfl rfl
        refine Or.inl ⟨rfl, ?_⟩
        refine r_const (i := 43) (u := 0) (z := 0) rfl rfl ?_
        refine r_store (i := 44) (u := 6) (w := 0) (L1 := [some ((2, 0)), some (vi t), some (vi fa), some (vi fb), some (vi fc), some (vi z42), some (vi 0)]) rfl rfl rfl rfl ?_
        have h88 := hI82.b0
        have h89 := hI82.b1
        exact lp8_45 h_t h_fa h_fb h_fc  hd _ S76 hI82 hF85 hR86 e80 e81 z42 0 ⟨by omega, by omega⟩ ⟨by omega, by omega⟩ (by omega) (by omega) (by exact ⟨yao22 (by omega) t (by omega) (by omega), S28, S40, as30, sAs_fr hF33 rfl rfl, rf47, rf048, sPb_fr hF33 hF51 rfl rfl, fun q9 => absurd q9 (by omega), fun _ => slC_up (slC_of tk65 (by omega)) (sSl_fr hF83 rfl rfl)⟩) (by omega) (Int.lt_succ_toNat _)
      · refine r_load (i := 29) (u := 5) (w := 0) rfl rfl rfl ?_
        exact r_retI (i := 30) rfl (Or.inl ⟨z42, rfl, by omega, by omega, (by exact ⟨yao22 (by omega) t (by omega) (by omega), S28, S40, as30, sAs_fr hF33 rfl rfl, rf47, rf048, sPb_fr hF33 hF51 rfl rfl, fun _ => (sSl_tr (sSl_fr hF33 rfl rfl) (sSl_fr hF51 rfl rfl)), fun q9 => absurd q9 (by omega)⟩), e55, hI50, hF53, hR54⟩)
    · have h90 := hI.bn
      have h91 := hI.br
      exact r_throw (i := 12) (v := 12) (w := 92) rfl (by omega) (by omega) (by omega) (by decide) (fun a => Or.inr ⟨a, 12, rfl, ⟨rfl, by exact nao23 (by omega) t⟩, rfl⟩)
end XNC
