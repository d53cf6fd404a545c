set_option linter.unusedVariables false
set_option maxRecDepth 4000
noncomputable section XNC
theorem lp118_13 {G : xk} {d : Nat} {S0 : yS} (p_0 : S0.f 40 5 = -1 → S0.f 40 2 ≤ S0.f 40 3) (hd : 5 ≤ d + 1) : ∀ (S : yS) (hI : yI S) (hF : yFr [(40, 2), (40, 3), (40, 4), (40, 5)] [104, 105] S0 S) (hR : yRm [4] S0 S) (e_RE : RE S) (tv : Int) (h_tv : 0 ≤ tv ∧ tv ≤ 255) (q_0 : S.f 40 5 = S0.f 40 5 ∨ S.f 40 5 ≠ -1) (q_1 : RLt S (S.f 40 4) tv) (q_2 : S.f 40 3 = S.f 40 4 + 1 ∧ S.f 40 5 = -1 ∧ S.f 40 2 ≤ S.f 40 3), yT xPr G LY xC118 13 [some ((2, 40)), some (vi tv)] [] S (d + 1) (fun r S' => r = (0, (0, 0)) ∧ (S'.f 40 5 = S0.f 40 5 ∨ S'.f 40 5 ≠ -1) ∧ (S'.f 40 5 = -1 → S'.f 40 2 ≤ S'.f 40 3) ∧ RD S' ∧ yI S' ∧ yFr [(40, 2), (40, 3), (40, 4), (40, 5)] [104, 105] S0 S' ∧ yRm [4] S0 S') := by
  intro S hI hF hR e_RE tv h_tv q_0 q_1 q_2
  have h1 := hI.f tf40_5
  have h2 := hI.f tf40_4
  have h3 := hI.f tf40_3
  have h4 := hI.f tf40_2
  refine r_load (i := 13) (u := 1) (w := 0) rfl rfl rfl ?_
  refine r_const (i := 14) (u := 1) (z := 1) rfl rfl ?_
  refine c_ne (i := 15) (v := 22) rfl ⟨by omega, by omega⟩ ⟨by omega, by omega⟩ (fun h5 => ?_) (fun h6 => ?_)
  · refine r_load (i := 22) (u := 1) (w := 0) rfl rfl rfl ?_
    refine r_const (i := 23) (u := 7) (z := 7) rfl rfl ?_
    refine c_ne (i := 24) (v := 30) rfl ⟨by omega, by omega⟩ ⟨by omega, by omega⟩ (fun h7 => ?_) (fun h8 => ?_)
    · refine r_load (i := 30) (u := 1) (w := 0) rfl rfl rfl ?_
      refine r_const (i := 31) (u := 9) (z := 9) rfl rfl ?_
      refine c_lt (i := 32) (v := 45) rfl ⟨by omega, by omega⟩ ⟨by omega, by omega⟩ (fun h9 => ?_) (fun h10 => ?_)
      · refine r_load (i := 45) (u := 0) (w := 2) rfl rfl rfl ?_
        refine r_const (i := 46) (u := 0) (z := 0) rfl rfl ?_
        refine r_call (i := 47) (u := 10) (v := 125) (w := 0) (b := 0) (na := 514) (C2 := xC125) (as := [(2, 40), vi 0]) (s := []) rfl rfl rfl rfl rfl rfl rfl (sp125 (g0 := 0) hI ⟨by omega, by omega⟩   (by omega)) (fun r11 S12 hq13 => ?_)
        obtain ⟨rfl, h14, h15, hI16, hF17, hR18⟩ := hq13
        have hF19 := hF.trans hF17 rfl rfl
        have hR20 := hR.trans hR18 rfl
        have e21 := REx.up e_RE hF17 hR18 rfl rfl rfl (by omega)
        have e22 := RLx.fr q_1 hF17 hR18 rfl rfl rfl
        refine Or.inl ⟨rfl, ?_⟩
        have h23 := hI16.f tf40_5
        have h24 := hI16.f tf40_2
        have h25 : S12.f 40 2 = S.f 40 2 := hF17.f rfl
        have h26 := hI16.f tf40_3
        have h27 : S12.f 40 3 = S.f 40 3 := hF17.f rfl
        have h28 := hI16.bn
        have h29 := hI16.br
        have h30 : S12.n 0 = S.n 0 := hR18.eq rfl rfl
        have h31 : S12.n 1 = S.n 1 := hR18.eq rfl rfl
        have h32 : S12.n 2 = S.n 2 := hR18.eq rfl rfl
        have h33 : S12.n 3 = S.n 3 := hR18.eq rfl rfl
        have h34 : S12.n 4 = S.n 4 := hR18.eq rfl rfl
        have h35 : S.n 0 = S0.n 0 := hR.eq rfl rfl
        have h36 : S.n 1 = S0.n 1 := hR.eq rfl rfl
        have h37 : S.n 2 = S0.n 2 := hR.eq rfl rfl
        have h38 : S.n 3 = S0.n 3 := hR.eq rfl rfl
        have h39 : S0.n 4 ≤ S.n 4 := hR.n 4 (by decide)
        have h40 := hI16.b0
        have h41 : S12.f 31 1 = S.f 31 1 := hF17.f rfl
        have h42 : S.f 31 1 = S0.f 31 1 := hF.f rfl
        exact r_ret0 (i := 48) rfl ⟨rfl, (by omega), (by omega), (by exact RD_done e21 e22 (by omega)), hI16, hF19, hR20⟩
      · refine r_load (i := 33) (u := 1) (w := 0) rfl rfl rfl ?_
        refine r_const (i := 34) (u := 12) (z := 12) rfl rfl ?_
        refine c_gt (i := 35) (v := 45) rfl ⟨by omega, by omega⟩ ⟨by omega, by omega⟩ (fun h43 => ?_) (fun h44 => ?_)
        · refine r_load (i := 45) (u := 0) (w := 2) rfl rfl rfl ?_
          refine r_const (i := 46) (u := 0) (z := 0) rfl rfl ?_
          refine r_call (i := 47) (u := 10) (v := 125) (w := 0) (b := 0) (na := 514) (C2 := xC125) (as := [(2, 40), vi 0]) (s := []) rfl rfl rfl rfl rfl rfl rfl (sp125 (g0 := 0) hI ⟨by omega, by omega⟩   (by omega)) (fun r45 S46 hq47 => ?_)
          obtain ⟨rfl, h48, h49, hI50, hF51, hR52⟩ := hq47
          have hF53 := hF.trans hF51 rfl rfl
          have hR54 := hR.trans hR52 rfl
          have e55 := REx.up e_RE hF51 hR52 rfl rfl rfl (by omega)
          have e56 := RLx.fr q_1 hF51 hR52 rfl rfl rfl
          refine Or.inl ⟨rfl, ?_⟩
          have h57 := hI50.f tf40_5
          have h58 := hI50.f tf40_2
          have h59 : S46.f 40 2 = S.f 40 2 := hF51.f rfl
          have h60 := hI50.f tf40_3
          have h61 : S46.f 40 3 = S.f 40 3 := hF51.f rfl
          have h62 := hI50.bn
          have h63 := hI50.br
          have h64 : S46.n 0 = S.n 0 := hR52.eq rfl rfl
          have h65 : S46.n 1 = S.n 1 := hR52.eq rfl rfl
          have h66 : S46.n 2 = S.n 2 := hR52.eq rfl rfl
          have h67 : S46.n 3 = S.n 3 := hR52.eq rfl rfl
          have h68 : S46.n 4 = S.n 4 := hR52.eq rfl rfl
          have h69 : S.n 0 = S0.n 0 := hR.eq rfl rfl
          have h70 : S.n 1 = S0.n 1 := hR.eq rfl rfl
          have h71 : S.n 2 = S0.n 2 := hR.eq rfl rfl
          have h72 : S.n 3 = S0.n 3 := hR.eq rfl rfl
          have h73 : S0.n 4 ≤ S.n 4 := hR.n 4 (by decide)
          have h74 := hI50.b0
          have h75 : S46.f 31 1 = S.f 31 1 := hF51.f rfl
          have h76 : S.f 31 1 = S0.f 31 1 := hF.f rfl
          exact r_ret0 (i := 48) rfl ⟨rfl, (by omega), (by omega), (by exact RD_done e55 e56 (by omega)), hI50, hF53, hR54⟩
        · refine r_load (i := 36) (u := 0) (w := 2) rfl rfl rfl ?_
          refine r_const (i := 37) (u := 2) (z := 2) rfl rfl ?_
          have h77 := hI.b0
          have h78 : S.f 31 1 = S0.f 31 1 := hF.f rfl
          refine r_call (i := 38) (u := 10) (v := 115) (w := 0) (b := 0) (na := 1026) (C2 := xC115) (as := [(2, 40), vi 2]) (s := []) rfl rfl rfl rfl rfl rfl rfl (sp115 (w0 := 2) hI ⟨by omega, by omega⟩   (by omega)) (fun r79 S80 hq81 => ?_)
          obtain ⟨z82, rfl, h83, h84, h85, h86, h87, h88, h89, h90, hI91, hF92, hR93⟩ := hq81
          have hF94 := hF.trans hF92 rfl rfl
          have hR95 := hR.trans hR93 rfl
          have e96 := REx.up e_RE hF92 hR93 rfl rfl rfl (by omega)
          have e97 := RLx.fr q_1 hF92 hR93 rfl rfl rfl
          refine Or.inr (Or.inl ⟨rfl, ?_⟩)
          refine r_pop (i := 39) rfl rfl ?_
          refine r_load (i := 40) (u := 0) (w := 2) rfl rfl rfl ?_
          refine r_const (i := 41) (u := 2) (z := 2) rfl rfl ?_
          have h98 := hI91.f tf40_3
          have h99 := hI91.b0
          have h100 : S80.f 31 1 = S.f 31 1 := hF92.f rfl
          have h101 : S.f 31 1 = S0.f 31 1 := hF.f rfl
          have h102 := hI91.f tf40_5
          refine r_call (i := 42) (u := 10) (v := 115) (w := 0) (b := 0) (na := 1026) (C2 := xC115) (as := [(2, 40), vi 2]) (s := []) rfl rfl rfl rfl rfl rfl rfl (sp115 (w0 := 2) hI91 ⟨by omega, by omega⟩   (by omega)) (fun r103 S104 hq105 => ?_)
          obtain ⟨z106, rfl, h107, h108, h109, h110, h111, h112, h113, h114, hI115, hF116, hR117⟩ := hq105
          have hF118 := hF94.trans hF116 rfl rfl
          have hR119 := hR95.trans hR117 rfl
          have e120 := REx.up e96 hF116 hR117 rfl rfl rfl (by omega)
          have e121 := RLx.fr e97 hF116 hR117 rfl rfl rfl
          refine Or.inr (Or.inl ⟨rfl, ?_⟩)
          refine r_pop (i := 43) rfl rfl ?_
          refine r_goto (i := 44) (v := 48) rfl ?_
          have h122 := hI115.f tf40_5
          have h123 := hI115.f tf40_2
          have h124 : S104.f 40 2 = S80.f 40 2 := hF116.f rfl
          have h125 : S80.f 40 2 = S.f 40 2 := hF92.f rfl
          have h126 := hI115.f tf40_3
          have h127 := hI115.bn
          have h128 := hI115.br
          have h129 : S104.n 0 = S80.n 0 := hR117.eq rfl rfl
          have h130 : S104.n 1 = S80.n 1 := hR117.eq rfl rfl
          have h131 : S104.n 2 = S80.n 2 := hR117.eq rfl rfl
          have h132 : S104.n 3 = S80.n 3 := hR117.eq rfl rfl
          have h133 : S104.n 4 = S80.n 4 := hR117.eq rfl rfl
          have h134 : S80.n 0 = S.n 0 := hR93.eq rfl rfl
          have h135 : S80.n 1 = S.n 1 := hR93.eq rfl rfl
          have h136 : S80.n 2 = S.n 2 := hR93.eq rfl rfl
          have h137 : S80.n 3 = S.n 3 := hR93.eq rfl rfl
          have h138 : S80.n 4 = S.n 4 := hR93.eq rfl rfl
          have h139 : S.n 0 = S0.n 0 := hR.eq rfl rfl
          have h140 : S.n 1 = S0.n 1 := hR.eq rfl rfl
          have h141 : S.n 2 = S0.n 2 := hR.eq rfl rfl
          have h142 : S.n 3 = S0.n 3 := hR.eq rfl rfl
          have h143 : S0.n 4 ≤ S.n 4 := hR.n 4 (by decide)
          have h144 := hI115.b0
          have h145 : S104.f 31 1 = S80.f 31 1 := hF116.f rfl
          have h146 : S80.f 31 1 = S.f 31 1 := hF92.f rfl
          have h147 : S.f 31 1 = S0.f 31 1 := hF.f rfl
          exact r_ret0 (i := 48) rfl ⟨rfl, (by omega), (by omega), (by exact RD_done e120 e121 (by omega)), hI115, hF118, hR119⟩
    · refine r_load (i := 25) (u := 0) (w := 2) rfl rfl rfl ?_
      refine r_const (i := 26) (u := 2) (z := 2) rfl rfl ?_
      have h148 := hI.b0
      have h149 : S.f 31 1 = S0.f 31 1 := hF.f rfl
      refine r_call (i := 27) (u := 10) (v := 115) (w := 0) (b := 0) (na := 1026) (C2 := xC115) (as := [(2, 40), vi 2]) (s := []) rfl rfl rfl rfl rfl rfl rfl (sp115 (w0 := 2) hI ⟨by omega, by omega⟩   (by omega)) (fun r150 S151 hq152 => ?_)
      obtain ⟨z153, rfl, h154, h155, h156, h157, h158, h159, h160, h161, hI162, hF163, hR164⟩ := hq152
      have hF165 := hF.trans hF163 rfl rfl
      have hR166 := hR.trans hR164 rfl
      have e167 := REx.up e_RE hF163 hR164 rfl rfl rfl (by omega)
      have e168 := RLx.fr q_1 hF163 hR164 rfl rfl rfl
      refine Or.inr (Or.inl ⟨rfl, ?_⟩)
      refine r_pop (i := 28) rfl rfl ?_
      refine r_goto (i := 29) (v := 48) rfl ?_
      have h169 := hI162.f tf40_5
      have h170 := hI162.f tf40_2
      have h171 : S151.f 40 2 = S.f 40 2 := hF163.f rfl
      have h172 := hI162.f tf40_3
      have h173 := hI162.bn
      have h174 := hI162.br
      have h175 : S151.n 0 = S.n 0 := hR164.eq rfl rfl
      have h176 : S151.n 1 = S.n 1 := hR164.eq rfl rfl
      have h177 : S151.n 2 = S.n 2 := hR164.eq rfl rfl
      have h178 : S151.n 3 = S.n 3 := hR164.eq rfl rfl
      have h179 : S151.n 4 = S.n 4 := hR164.eq rfl rfl
      have h180 : S.n 0 = S0.n 0 := hR.eq rfl rfl
      have h181 : S.n 1 = S0.n 1 := hR.eq rfl rfl
      have h182 : S.n 2 = S0.n 2 := hR.eq rfl rfl
      have h183 : S.n 3 = S0.n 3 := hR.eq rfl rfl
      have h184 : S0.n 4 ≤ S.n 4 := hR.n 4 (by decide)
      have h185 := hI162.b0
      have h186 : S151.f 31 1 = S.f 31 1 := hF163.f rfl
      have h187 : S.f 31 1 = S0.f 31 1 := hF.f rfl
      exact r_ret0 (i := 48) rfl ⟨rfl, (by omega), (by omega), (by exact RD_done e167 e168 (by omega)), hI162, hF165, hR166⟩
  · refine r_load (i := 16) (u := 0) (w := 2) rfl rfl rfl ?_
    refine r_load (i := 17) (u := 0) (w := 2) rfl rfl rfl ?_
    refine r_const (i := 18) (u := 2) (z := 2) rfl rfl ?_
    have h188 := hI.b0
    have h189 : S.f 31 1 = S0.f 31 1 := hF.f rfl
    refine r_call (i := 19) (u := 10) (v := 115) (w := 0) (b := 0) (na := 1026) (C2 := xC115) (as := [(2, 40), vi 2]) (s := [(2, 40)]) rfl rfl rfl rfl rfl rfl rfl (sp115 (w0 := 2) hI ⟨by omega, by omega⟩   (by omega)) (fun r190 S191 hq192 => ?_)
    obtain ⟨z193, rfl, h194, h195, h196, h197, h198, h199, h200, h201, hI202, hF203, hR204⟩ := hq192
    have hF205 := hF.trans hF203 rfl rfl
    have hR206 := hR.trans hR204 rfl
    have e207 := REx.up e_RE hF203 hR204 rfl rfl rfl (by omega)
    have e208 := RLx.fr q_1 hF203 hR204 rfl rfl rfl
    refine Or.inr (Or.inl ⟨rfl, ?_⟩)
    have h209 := hI202.f tf40_5
    have h210 := hI202.f tf40_3
    refine r_call (i := 20) (u := 10) (v := 124) (w := 0) (b := 0) (na := 1282) (C2 := xC124) (as := [(2, 40), vi z193]) (s := []) rfl rfl rfl rfl rfl rfl rfl (sp124 (ln := z193) hI202 ⟨by omega, by omega⟩   (by omega)) (fun r211 S212 hq213 => ?_)
    obtain ⟨rfl, h214, h215, hI216, hF217, hR218⟩ := hq213
    have hF219 := hF205.trans hF217 rfl rfl
    have hR220 := hR206.trans hR218 rfl
    have e221 := REx.up e207 hF217 hR218 rfl rfl rfl (by omega)
    have e222 := RLx.fr e208 hF217 hR218 rfl rfl rfl
    refine Or.inl ⟨rfl, ?_⟩
    refine r_goto (i := 21) (v := 48) rfl ?_
    have h223 := hI216.f tf40_5
    have h224 := hI216.f tf40_2
    have h225 : S212.f 40 2 = S191.f 40 2 := hF217.f rfl
    have h226 : S191.f 40 2 = S.f 40 2 := hF203.f rfl
    have h227 := hI216.f tf40_3
    have h228 := hI216.bn
    have h229 := hI216.br
    have h230 : S212.n 0 = S191.n 0 := hR218.eq rfl rfl
    have h231 : S212.n 1 = S191.n 1 := hR218.eq rfl rfl
    have h232 : S212.n 2 = S191.n 2 := hR218.eq rfl rfl
    have h233 : S212.n 3 = S191.n 3 := hR218.eq rfl rfl
    have h234 : S212.n 4 = S191.n 4 := hR218.eq rfl rfl
    have h235 : S191.n 0 = S.n 0 := hR204.eq rfl rfl
    have h236 : S191.n 1 = S.n 1 := hR204.eq rfl rfl
    have h237 : S191.n 2 = S.n 2 := hR204.eq rfl rfl
    have h238 : S191.n 3 = S.n 3 := hR204.eq rfl rfl
    have h239 : S191.n 4 = S.n 4 := hR204.eq rfl rfl
    have h240 : S.n 0 = S0.n 0 := hR.eq rfl rfl
    have h241 : S.n 1 = S0.n 1 := hR.eq rfl rfl
    have h242 : S.n 2 = S0.n 2 := hR.eq rfl rfl
    have h243 : S.n 3 = S0.n 3 := hR.eq rfl rfl
    have h244 : S0.n 4 ≤ S.n 4 := hR.n 4 (by decide)
    have h245 := hI216.b0
    have h246 : S212.f 31 1 = S191.f 31 1 := hF217.f rfl
    have h247 : S191.f 31 1 = S.f 31 1 := hF203.f rfl
    have h248 : S.f 31 1 = S0.f 31 1 := hF.f rfl
    exact r_ret0 (i := 48) rfl ⟨rfl, (by omega), (by omega), (by exact RD_done e221 e222 (by omega)), hI216, hF219, hR220⟩
/-- ProxyForge$Reader.readEntry -/
theorem sp118 {G : xk} {S : yS} {d : Nat} (hI : yI S) (p_0 : S.f 40 5 = -1 → S.f 40 2 ≤ S.f 40 3) (e_RD : RD S) (hd : 5 ≤ d) : yT xPr G LY xC118 0 [some ((2, 40))] [] S d (fun r S' => r = (0, (0, 0)) ∧ (S'.f 40 5 = S.f 40 5 ∨ S'.f 40 5 ≠ -1) ∧ (S'.f 40 5 = -1 → S'.f 40 2 ≤ S'.f 40 3) ∧ RD S' ∧ yI S' ∧ yFr [(40, 2), (40, 3), (40, 4), (40, 5)] [104, 105] S S' ∧ yRm [4] S S') := by
  refine yT_pad 1 ?_
  show yT xPr G LY xC118 0 [some ((2, 40)), none] [] S d _
  obtain ⟨d, rfl⟩ : ∃ q, d = q + 1 := ⟨d - 1, by omega⟩
  have hF : yFr [(40, 2), (40, 3), (40, 4), (40, 5)] [104, 105] S S := yFr.refl S
  have hR : yRm [4] S S := yRm.refl S
  have h1 := hI.f tf40_5
  have h2 := hI.f tf40_2
  have h3 := hI.f tf40_3
  refine r_load (i := 0) (u := 0) (w := 2) rfl rfl rfl ?_
  refine r_const (i := 1) (u := 1) (z := 1) rfl rfl ?_
  have h4 := hI.b0
  refine r_call (i := 2) (u := 10) (v := 115) (w := 0) (b := 0) (na := 1026) (C2 := xC115) (as := [(2, 40), vi 1]) (s := []) rfl rfl rfl rfl rfl rfl rfl (sp115 (w0 := 1) hI ⟨by omega, by omega⟩   (by omega)) (fun r5 S6 hq7 => ?_)
  obtain ⟨z8, rfl, h9, h10, h11, h12, h13, h14, h15, h16, hI17, hF18, hR19⟩ := hq7
  have hF20 := hF.trans hF18 rfl rfl
  have hR21 := hR.trans hR19 rfl
  have e22 := RDx.up e_RD hF18 hR19 rfl rfl rfl (by omega)
  refine Or.inr (Or.inl ⟨rfl, ?_⟩)
  refine r_store (i := 3) (u := 1) (w := 0) (L1 := [some ((2, 40)), some (vi z8)]) rfl rfl rfl rfl ?_
  refine r_load (i := 4) (u := 0) (w := 2) rfl rfl rfl ?_
  have h23 := hI17.f tf40_5
  refine r_getf (i := 5) (v := 5) (w := 10) (x := vi (S6.f 40 5)) rfl ly40 rfl rfl fun h24 => ?_
  have h24 : Rg (S6.f 40 5) := h24
  refine r_const (i := 6) (u := 4294967295) (z := -1) rfl rfl ?_
  refine c_eq (i := 7) (v := 9) rfl ⟨by omega, by omega⟩ ⟨by omega, by omega⟩ (fun h25 => ?_) (fun h26 => ?_)
  · refine r_load (i := 9) (u := 0) (w := 2) rfl rfl rfl ?_
    refine r_load (i := 10) (u := 0) (w := 2) rfl rfl rfl ?_
    have h27 := hI17.f tf40_4
    refine r_getf (i := 11) (v := 4) (w := 10) (x := vi (S6.f 40 4)) rfl ly40 rfl rfl fun h28 => ?_
    have h28 : Rg (S6.f 40 4) := h28
    have h29 := hI17.b0
    have h30 : S6.f 31 1 = S.f 31 1 := hF18.f rfl
    have h31 := hI17.f tf40_2
    have h32 : S6.f 40 2 = S.f 40 2 := hF18.f rfl
    refine r_call (i := 12) (u := 10) (v := 104) (w := 0) (b := 0) (na := 514) (C2 := xC104) (as := [(2, 40), vi (S6.f 40 4)]) (s := []) rfl rfl rfl rfl rfl rfl rfl (sp104 (pl := S6.f 40 4) hI17 ⟨by omega, by omega⟩ (by omega) (by omega) e22 (by omega)) (fun r33 S34 hq35 => ?_)
    obtain ⟨rfl, h36, h37, h38, e39, hI40, hF41, hR42⟩ := hq35
    have hF43 := hF20.trans hF41 rfl rfl
    have hR44 := hR21.trans hR42 rfl
    refine Or.inl ⟨rfl, ?_⟩
    have h45 := hI40.f tf40_5
    have h46 : S34.f 40 5 = S6.f 40 5 := hF41.f rfl
    have h47 := hI40.f tf40_4
    have h48 : S34.f 40 4 = S6.f 40 4 := hF41.f rfl
    have h49 := hI40.f tf40_3
    have h50 : S34.f 40 3 = S6.f 40 3 := hF41.f rfl
    have h51 := hI40.f tf40_2
    exact lp118_13  p_0 hd S34 hI40 hF43 hR44 e39 z8 ⟨by omega, by omega⟩ (by omega) (by exact ⟨by omega, by grind⟩) (by omega) 
  · have h52 := hI17.f tf40_2
    have h53 : S6.f 40 2 = S.f 40 2 := hF18.f rfl
    have h54 := hI17.f tf40_3
    exact r_ret0 (i := 8) rfl ⟨rfl, (by omega), (by omega), e22, hI17, hF20, hR21⟩
theorem lp123_13 {G : xk} {d : Nat} {S0 : yS} (p_0 : S0.f 40 5 = -1 → S0.f 40 2 ≤ S0.f 40 3) (hd : 6 ≤ d + 1) : ∀ (n : Nat), ∀ (S : yS) (hI : yI S) (hF : yFr [(40, 2), (40, 3), (40, 4), (40, 5)] [104, 105] S0 S) (hR : yRm [4] S0 S) (e_RD : RD S) (ab k : Int) (h_ab : 0 ≤ ab ∧ ab ≤ 65535) (h_k : 1 ≤ k ∧ k ≤ 65536) (q_0 : S.f 40 5 = S0.f 40 5 ∨ S.f 40 5 ≠ -1) (q_1 : S.f 40 5 = -1 → S.f 40 2 ≤ S.f 40 3) (hn : 65537 - k < (n : Nat)), yT xPr G LY xC123 13 [some ((2, 40)), some (vi ab), some (vi k)] [] S (d + 1) (fun r S' => r = (0, (0, 0)) ∧ (S'.f 40 5 = S0.f 40 5 ∨ S'.f 40 5 ≠ -1) ∧ RD S' ∧ yI S' ∧ yFr [(40, 2), (40, 3), (40, 4), (40, 5)] [104, 105] S0 S' ∧ yRm [4] S0 S') := by
  intro n
  induction n with
  | zero => intro S hI hF hR e_RD ab k h_ab h_k q_0 q_1 hn; exact absurd hn (by omega)
  | succ n ih =>
    intro S hI hF hR e_RD ab k h_ab h_k q_0 q_1 hn
    have h1 := hI.f tf40_5
    have h2 := hI.f tf40_2
    have h3 := hI.f tf40_3
    refine r_load (i := 13) (u := 2) (w := 0) rfl rfl rfl ?_
    refine r_load (i := 14) (u := 1) (w := 0) rfl rfl rfl ?_
    refine c_ge (i := 15) (v := 24) rfl ⟨by omega, by omega⟩ ⟨by omega, by omega⟩ (fun h4 => ?_) (fun h5 => ?_)
    · exact r_ret0 (i := 24) rfl ⟨rfl, (by omega), e_RD, hI, hF, hR⟩
    · refine r_load (i := 16) (u := 0) (w := 2) rfl rfl rfl ?_
      refine r_getf (i := 17) (v := 5) (w := 10) (x := vi (S.f 40 5)) rfl ly40 rfl rfl fun h6 => ?_
      have h6 : Rg (S.f 40 5) := h6
      refine r_const (i := 18) (u := 4294967295) (z := -1) rfl rfl ?_
      refine c_ne (i := 19) (v := 24) rfl ⟨by omega, by omega⟩ ⟨by omega, by omega⟩ (fun h7 => ?_) (fun h8 => ?_)
      · exact r_ret0 (i := 24) rfl ⟨rfl, (by omega), e_RD, hI, hF, hR⟩
      · refine r_load (i := 20) (u := 0) (w := 2) rfl rfl rfl ?_
        refine r_call (i := 21) (u := 10) (v := 118) (w := 0) (b := 0) (na := 513) (C2 := xC118) (as := [(2, 40)]) (s := []) rfl rfl rfl rfl rfl rfl rfl (sp118  hI  (by omega) e_RD (by omega)) (fun r9 S10 hq11 => ?_)
        obtain ⟨rfl, h12, h13, e14, hI15, hF16, hR17⟩ := hq11
        have hF18 := hF.trans hF16 rfl rfl
        have hR19 := hR.trans hR17 rfl
        refine Or.inl ⟨rfl, ?_⟩
        refine r_iinc (i := 22) (u := 1) (v := 2) (s := 1) (L1 := [some ((2, 40)), some (vi ab), some (vi (k + 1))]) rfl rfl rfl rfl rfl ?_
        refine r_goto (i := 23) (v := 13) rfl ?_
        have h20 := hI15.f tf40_5
        have h21 := hI15.f tf40_2
        have h22 := hI15.f tf40_3
        exact ih S10 hI15 hF18 hR19 e14 ab (k + 1) ⟨by omega, by omega⟩ ⟨by omega, by omega⟩ (by omega) (by omega) (by omega)
/-- ProxyForge$Reader.readPool -/
theorem sp123 {G : xk} {S : yS} {d : Nat} (hI : yI S) (p_0 : S.f 40 5 = -1 → S.f 40 2 ≤ S.f 40 3) (e_RD : RD S) (hd : 6 ≤ d) : yT xPr G LY xC123 0 [some ((2, 40))] [] S d (fun r S' => r = (0, (0, 0)) ∧ (S'.f 40 5 = S.f 40 5 ∨ S'.f 40 5 ≠ -1) ∧ RD S' ∧ yI S' ∧ yFr [(40, 2), (40, 3), (40, 4), (40, 5)] [104, 105] S S' ∧ yRm [4] S S') := by
  refine yT_pad 2 ?_
  show yT xPr G LY xC123 0 [some ((2, 40)), none, none] [] S d _
  obtain ⟨d, rfl⟩ : ∃ q, d = q + 1 := ⟨d - 1, by omega⟩
  have hF : yFr [(40, 2), (40, 3), (40, 4), (40, 5)] [104, 105] S S := yFr.refl S
  have hR : yRm [4] S S := yRm.refl S
  have h1 := hI.f tf40_5
  have h2 := hI.f tf40_2
  have h3 := hI.f tf40_3
  refine r_load (i := 0) (u := 0) (w := 2) rfl rfl rfl ?_
  refine r_const (i := 1) (u := 2) (z := 2) rfl rfl ?_
  have h4 := hI.b0
  refine r_call (i := 2) (u := 10) (v := 115) (w := 0) (b := 0) (na := 1026) (C2 := xC115) (as := [(2, 40), vi 2]) (s := []) rfl rfl rfl rfl rfl rfl rfl (sp115 (w0 := 2) hI ⟨by omega, by omega⟩   (by omega)) (fun r5 S6 hq7 => ?_)
  obtain ⟨z8, rfl, h9, h10, h11, h12, h13, h14, h15, h16, hI17, hF18, hR19⟩ := hq7
  have hF20 := hF.trans hF18 rfl rfl
  have hR21 := hR.trans hR19 rfl
  have e22 := RDx.up e_RD hF18 hR19 rfl rfl rfl (by omega)
  refine Or.inr (Or.inl ⟨rfl, ?_⟩)
  refine r_store (i := 3) (u := 1) (w := 0) (L1 := [some ((2, 40)), some (vi z8), none]) rfl rfl rfl rfl ?_
  refine r_load (i := 4) (u := 0) (w := 2) rfl rfl rfl ?_
  refine r_load (i := 5) (u := 1) (w := 0) rfl rfl rfl ?_
  refine z_eq (i := 6) (v := 9) rfl ⟨by omega, by omega⟩ (fun h23 => ?_) (fun h24 => ?_)
  · refine r_const (i := 9) (u := 0) (z := 0) rfl rfl ?_
    have h25 := hI17.f tf40_5
    refine r_call (i := 10) (u := 10) (v := 125) (w := 0) (b := 0) (na := 514) (C2 := xC125) (as := [(2, 40), vi 0]) (s := []) rfl rfl rfl rfl rfl rfl rfl (sp125 (g0 := 0) hI17 ⟨by omega, by omega⟩   (by omega)) (fun r26 S27 hq28 => ?_)
    obtain ⟨rfl, h29, h30, hI31, hF32, hR33⟩ := hq28
    have hF34 := hF20.trans hF32 rfl rfl
    have hR35 := hR21.trans hR33 rfl
    have e36 := RDx.up e22 hF32 hR33 rfl rfl rfl (by omega)
    refine Or.inl ⟨rfl, ?_⟩
    refine r_const (i := 11) (u := 1) (z := 1) rfl rfl ?_
    refine r_store (i := 12) (u := 2) (w := 0) (L1 := [some ((2, 40)), some (vi z8), some (vi 1)]) rfl rfl rfl rfl ?_
    have h37 := hI31.f tf40_5
    have h38 := hI31.f tf40_2
    have h39 : S27.f 40 2 = S6.f 40 2 := hF32.f rfl
    have h40 : S6.f 40 2 = S.f 40 2 := hF18.f rfl
    have h41 := hI31.f tf40_3
    have h42 : S27.f 40 3 = S6.f 40 3 := hF32.f rfl
    exact lp123_13  p_0 hd _ S27 hI31 hF34 hR35 e36 z8 1 ⟨by omega, by omega⟩ ⟨by omega, by omega⟩ (by omega) (by omega) (Int.lt_succ_toNat _)
  · refine r_const (i := 7) (u := 1) (z := 1) rfl rfl ?_
    refine r_goto (i := 8) (v := 10) rfl ?_
    have h43 := hI17.f tf40_5
    refine r_call (i := 10) (u := 10) (v := 125) (w := 0) (b := 0) (na := 514) (C2 := xC125) (as := [(2, 40), vi 1]) (s := []) rfl rfl rfl rfl rfl rfl rfl (sp125 (g0 := 1) hI17 ⟨by omega, by omega⟩   (by omega)) (fun r44 S45 hq46 => ?_)
    obtain ⟨rfl, h47, h48, hI49, hF50, hR51⟩ := hq46
    have hF52 := hF20.trans hF50 rfl rfl
    have hR53 := hR21.trans hR51 rfl
    have e54 := RDx.up e22 hF50 hR51 rfl rfl rfl (by omega)
    refine Or.inl ⟨rfl, ?_⟩
    refine r_const (i := 11) (u := 1) (z := 1) rfl rfl ?_
    refine r_store (i := 12) (u := 2) (w := 0) (L1 := [some ((2, 40)), some (vi z8), some (vi 1)]) rfl rfl rfl rfl ?_
    have h55 := hI49.f tf40_5
    have h56 := hI49.f tf40_2
    have h57 : S45.f 40 2 = S6.f 40 2 := hF50.f rfl
    have h58 : S6.f 40 2 = S.f 40 2 := hF18.f rfl
    have h59 := hI49.f tf40_3
    have h60 : S45.f 40 3 = S6.f 40 3 := hF50.f rfl
    exact lp123_13  p_0 hd _ S45 hI49 hF52 hR53 e54 z8 1 ⟨by omega, by omega⟩ ⟨by omega, by omega⟩ (by omega) (by omega) (Int.lt_succ_toNat _)
theorem lp117_78 {G : xk} {d : Nat} {S0 : yS}  (hd : 7 ≤ d + 1) : ∀ (S : yS) (hI : yI S) (hF : yFr [(40, 3), (40, 4), (40, 5)] [] S0 S) (hR : yRm [] S0 S) (e_RD : RD S) (sd sp0 st0 : Int) (h_sd : -2147483648 ≤ sd ∧ sd ≤ 2147483647) (h_sp0 : 0 ≤ sp0 ∧ sp0 ≤ 60000) (h_st0 : 0 ≤ st0 ∧ st0 ≤ 60000) (q_0 : S.f 40 5 = S0.f 40 5 ∨ S.f 40 5 ≠ -1), yT xPr G LY xC117 78 [some ((2, 40)), some (vi sd), some (vi sp0), some (vi st0), none, none, none] [] S (d + 1) (fun r S' => r = (0, (0, 0)) ∧ (S'.f 40 5 = S0.f 40 5 ∨ S'.f 40 5 ≠ -1) ∧ RD S' ∧ yI S' ∧ yFr [(40, 3), (40, 4), (40, 5)] [] S0 S' ∧ yRm [] S0 S') := by
  intro S hI hF hR e_RD sd sp0 st0 h_sd h_sp0 h_st0 q_0
  have h1 := hI.f tf40_5
  refine r_load (i := 78) (u := 0) (w := 2) rfl rfl rfl ?_
  refine r_load (i := 79) (u := 2) (w := 0) rfl rfl rfl ?_
  refine r_load (i := 80) (u := 1) (w := 0) rfl rfl rfl ?_
  refine r_load (i := 81) (u := 0) (w := 2) rfl rfl rfl ?_
  have h2 := hI.f tf40_3
  refine r_getf (i := 82) (v := 3) (w := 10) (x := vi (S.f 40 3)) rfl ly40 rfl rfl fun h3 => ?_
  have h3 : Rg (S.f 40 3) := h3
  refine r_load (i := 83) (u := 3) (w := 0) rfl rfl rfl ?_
  refine r_isub (i := 84) rfl ?_
  refine r_call (i := 85) (u := 10) (v := 105) (w := 0) (b := 0) (na := 1028) (C2 := xC105) (as := [(2, 40), vi sp0, vi sd, vi ((S.f 40 3) - st0)]) (s := []) rfl rfl rfl rfl rfl rfl rfl (sp105 (sp0 := sp0) (sd := sd) (ln := (S.f 40 3) - st0) hI ⟨by omega, by omega⟩ ⟨by omega, by omega⟩ ⟨by omega, by omega⟩   (by omega)) (fun r4 S5 hq6 => ?_)
  obtain ⟨rfl, h7, hI8, hF9, hR10⟩ := hq6
  have hF11 := hF.trans hF9 rfl rfl
  have hR12 := hR.trans hR10 rfl
  have e13 := RDx.up e_RD hF9 hR10 rfl rfl rfl (by omega)
  refine Or.inl ⟨rfl, ?_⟩
  have h14 := hI8.f tf40_5
  exact r_ret0 (i := 86) rfl ⟨rfl, (by omega), e13, hI8, hF11, hR12⟩
theorem lp117_66 {G : xk} {d : Nat} {S0 : yS}  (hd : 7 ≤ d + 1) : ∀ (S : yS) (hI : yI S) (hF : yFr [(40, 3), (40, 4), (40, 5)] [] S0 S) (hR : yRm [] S0 S) (e_RD : RD S) (sd sp0 st0 tb g0 : Int) (h_sd : -2147483648 ≤ sd ∧ sd ≤ 2147483647) (h_sp0 : 0 ≤ sp0 ∧ sp0 ≤ 60000) (h_st0 : 0 ≤ st0 ∧ st0 ≤ 60000) (h_tb : 0 ≤ tb ∧ tb ≤ 65535) (h_g0 : 0 ≤ g0 ∧ g0 ≤ 1) (q_0 : S.f 40 5 = S0.f 40 5 ∨ S.f 40 5 ≠ -1), yT xPr G LY xC117 66 [some ((2, 40)), some (vi sd), some (vi sp0), some (vi st0), none, none, some (vi tb)] [vi g0, (2, 40)] S (d + 1) (fun r S' => r = (0, (0, 0)) ∧ (S'.f 40 5 = S0.f 40 5 ∨ S'.f 40 5 ≠ -1) ∧ RD S' ∧ yI S' ∧ yFr [(40, 3), (40, 4), (40, 5)] [] S0 S' ∧ yRm [] S0 S') := by
  intro S hI hF hR e_RD sd sp0 st0 tb g0 h_sd h_sp0 h_st0 h_tb h_g0 q_0
  have h1 := hI.f tf40_5
  refine r_call (i := 66) (u := 10) (v := 125) (w := 0) (b := 0) (na := 514) (C2 := xC125) (as := [(2, 40), vi g0]) (s := []) rfl rfl rfl rfl rfl rfl rfl (sp125 (g0 := g0) hI ⟨by omega, by omega⟩   (by omega)) (fun r2 S3 hq4 => ?_)
  obtain ⟨rfl, h5, h6, hI7, hF8, hR9⟩ := hq4
  have hF10 := hF.trans hF8 rfl rfl
  have hR11 := hR.trans hR9 rfl
  have e12 := RDx.up e_RD hF8 hR9 rfl rfl rfl (by omega)
  refine Or.inl ⟨rfl, ?_⟩
  refine r_load (i := 67) (u := 6) (w := 0) rfl rfl rfl ?_
  refine r_const (i := 68) (u := 1) (z := 1) rfl rfl ?_
  refine c_ne (i := 69) (v := 78) rfl ⟨by omega, by omega⟩ ⟨by omega, by omega⟩ (fun h13 => ?_) (fun h14 => ?_)
  · refine yT_drop (L1 := [some ((2, 40)), some (vi sd), some (vi sp0), some (vi st0), none, none, none]) rfl ?_
    have h15 := hI7.f tf40_5
    exact lp117_78   hd S3 hI7 hF10 hR11 e12 sd sp0 st0 ⟨by omega, by omega⟩ ⟨by omega, by omega⟩ ⟨by omega, by omega⟩ (by omega) 
  · refine r_load (i := 70) (u := 0) (w := 2) rfl rfl rfl ?_
    refine r_str (i := 71) (v := 2) rfl ?_
    have h16 := slv2
    have h17 := hI7.f tf40_5
    refine r_call (i := 72) (u := 10) (v := 111) (w := 0) (b := 0) (na := 770) (C2 := xC111) (as := [(2, 40), (6, 2)]) (s := []) rfl rfl rfl rfl rfl rfl rfl (sp111 (s := 2) hI7 ⟨by decide, by decide⟩  e12 (by omega)) (fun r18 S19 hq20 => ?_)
    obtain ⟨rfl, h21, e22, hI23, hF24, hR25⟩ := hq20
    have hF26 := hF10.trans hF24 rfl rfl
    have hR27 := hR11.trans hR25 rfl
    refine Or.inl ⟨rfl, ?_⟩
    refine r_load (i := 73) (u := 0) (w := 2) rfl rfl rfl ?_
    refine r_load (i := 74) (u := 0) (w := 2) rfl rfl rfl ?_
    refine r_const (i := 75) (u := 4) (z := 4) rfl rfl ?_
    have h28 := hI23.f tf40_3
    have h29 := hI23.b0
    have h30 : S19.f 31 1 = S3.f 31 1 := hF24.f rfl
    have h31 : S3.f 31 1 = S.f 31 1 := hF8.f rfl
    have h32 : S.f 31 1 = S0.f 31 1 := hF.f rfl
    have h33 := hI23.f tf40_5
    refine r_call (i := 76) (u := 10) (v := 115) (w := 0) (b := 0) (na := 1026) (C2 := xC115) (as := [(2, 40), vi 4]) (s := [(2, 40)]) rfl rfl rfl rfl rfl rfl rfl (sp115 (w0 := 4) hI23 ⟨by omega, by omega⟩   (by omega)) (fun r34 S35 hq36 => ?_)
    obtain ⟨z37, rfl, h38, h39, h40, h41, h42, h43, h44, h45, hI46, hF47, hR48⟩ := hq36
    have hF49 := hF26.trans hF47 rfl rfl
    have hR50 := hR27.trans hR48 rfl
    have e51 := RDx.up e22 hF47 hR48 rfl rfl rfl (by omega)
    refine Or.inr (Or.inl ⟨rfl, ?_⟩)
    have h52 := hI46.f tf40_5
    have h53 := hI46.f tf40_3
    have h54 := hI46.b0
    have h55 : S35.f 31 1 = S19.f 31 1 := hF47.f rfl
    have h56 : S19.f 31 1 = S3.f 31 1 := hF24.f rfl
    have h57 : S3.f 31 1 = S.f 31 1 := hF8.f rfl
    have h58 : S.f 31 1 = S0.f 31 1 := hF.f rfl
    refine r_call (i := 77) (u := 10) (v := 126) (w := 0) (b := 0) (na := 514) (C2 := xC126) (as := [(2, 40), vi z37]) (s := []) rfl rfl rfl rfl rfl rfl rfl (sp126 (ln := z37) hI46 ⟨by omega, by omega⟩   (by omega)) (fun r59 S60 hq61 => ?_)
    obtain ⟨rfl, h62, h63, hI64, hF65, hR66⟩ := hq61
    have hF67 := hF49.trans hF65 rfl rfl
    have hR68 := hR50.trans hR66 rfl
    have e69 := RDx.up e51 hF65 hR66 rfl rfl rfl (by omega)
    refine Or.inl ⟨rfl, ?_⟩
    refine yT_drop (L1 := [some ((2, 40)), some (vi sd), some (vi sp0), some (vi st0), none, none, none]) rfl ?_
    have h70 := hI64.f tf40_5
    exact lp117_78   hd S60 hI64 hF67 hR68 e69 sd sp0 st0 ⟨by omega, by omega⟩ ⟨by omega, by omega⟩ ⟨by omega, by omega⟩ (by omega) 
theorem lp117_53 {G : xk} {d : Nat} {S0 : yS}  (hd : 7 ≤ d + 1) : ∀ (S : yS) (hI : yI S) (hF : yFr [(40, 3), (40, 4), (40, 5)] [] S0 S) (hR : yRm [] S0 S) (e_RD : RD S) (sd sp0 st0 : Int) (h_sd : -2147483648 ≤ sd ∧ sd ≤ 2147483647) (h_sp0 : 0 ≤ sp0 ∧ sp0 ≤ 60000) (h_st0 : 0 ≤ st0 ∧ st0 ≤ 60000) (q_0 : S.f 40 5 = S0.f 40 5 ∨ S.f 40 5 ≠ -1), yT xPr G LY xC117 53 [some ((2, 40)), some (vi sd), some (vi sp0), some (vi st0), none, none, none] [] S (d + 1) (fun r S' => r = (0, (0, 0)) ∧ (S'.f 40 5 = S0.f 40 5 ∨ S'.f 40 5 ≠ -1) ∧ RD S' ∧ yI S' ∧ yFr [(40, 3), (40, 4), (40, 5)] [] S0 S' ∧ yRm [] S0 S') := by
  intro S hI hF hR e_RD sd sp0 st0 h_sd h_sp0 h_st0 q_0
  have h1 := hI.f tf40_5
  refine r_load (i := 53) (u := 0) (w := 2) rfl rfl rfl ?_
  refine r_const (i := 54) (u := 2) (z := 2) rfl rfl ?_
  have h2 := hI.f tf40_3
  have h3 := hI.b0
  have h4 : S.f 31 1 = S0.f 31 1 := hF.f rfl
  refine r_call (i := 55) (u := 10) (v := 115) (w := 0) (b := 0) (na := 1026) (C2 := xC115) (as := [(2, 40), vi 2]) (s := []) rfl rfl rfl rfl rfl rfl rfl (sp115 (w0 := 2) hI ⟨by omega, by omega⟩   (by omega)) (fun r5 S6 hq7 => ?_)
  obtain ⟨z8, rfl, h9, h10, h11, h12, h13, h14, h15, h16, hI17, hF18, hR19⟩ := hq7
  have hF20 := hF.trans hF18 rfl rfl
  have hR21 := hR.trans hR19 rfl
  have e22 := RDx.up e_RD hF18 hR19 rfl rfl rfl (by omega)
  refine Or.inr (Or.inl ⟨rfl, ?_⟩)
  refine r_store (i := 56) (u := 6) (w := 0) (L1 := [some ((2, 40)), some (vi sd), some (vi sp0), some (vi st0), none, none, some (vi z8)]) rfl rfl rfl rfl ?_
  refine r_load (i := 57) (u := 0) (w := 2) rfl rfl rfl ?_
  refine r_load (i := 58) (u := 6) (w := 0) rfl rfl rfl ?_
  refine z_eq (i := 59) (v := 63) rfl ⟨by omega, by omega⟩ (fun h23 => ?_) (fun h24 => ?_)
  · refine r_const (i := 63) (u := 1) (z := 1) rfl rfl ?_
    refine r_goto (i := 64) (v := 66) rfl ?_
    have h25 := hI17.f tf40_5
    exact lp117_66   hd S6 hI17 hF20 hR21 e22 sd sp0 st0 z8 1 ⟨by omega, by omega⟩ ⟨by omega, by omega⟩ ⟨by omega, by omega⟩ ⟨by omega, by omega⟩ ⟨by omega, by omega⟩ (by omega) 
  · refine r_load (i := 60) (u := 6) (w := 0) rfl rfl rfl ?_
    refine r_const (i := 61) (u := 1) (z := 1) rfl rfl ?_
    refine c_ne (i := 62) (v := 65) rfl ⟨by omega, by omega⟩ ⟨by omega, by omega⟩ (fun h26 => ?_) (fun h27 => ?_)
    · refine r_const (i := 65) (u := 0) (z := 0) rfl rfl ?_
      have h28 := hI17.f tf40_5
      exact lp117_66   hd S6 hI17 hF20 hR21 e22 sd sp0 st0 z8 0 ⟨by omega, by omega⟩ ⟨by omega, by omega⟩ ⟨by omega, by omega⟩ ⟨by omega, by omega⟩ ⟨by omega, by omega⟩ (by omega) 
    · refine r_const (i := 63) (u := 1) (z := 1) rfl rfl ?_
      refine r_goto (i := 64) (v := 66) rfl ?_
      have h29 := hI17.f tf40_5
      exact lp117_66   hd S6 hI17 hF20 hR21 e22 sd sp0 st0 z8 1 ⟨by omega, by omega⟩ ⟨by omega, by omega⟩ ⟨by omega, by omega⟩ ⟨by omega, by omega⟩ ⟨by omega, by omega⟩ (by omega) 
theorem lp117_41 {G : xk} {d : Nat} {S0 : yS}  (hd : 7 ≤ d + 1) : ∀ (n : Nat), ∀ (S : yS) (hI : yI S) (hF : yFr [(40, 3), (40, 4), (40, 5)] [] S0 S) (hR : yRm [] S0 S) (e_RD : RD S) (sd sp0 st0 ln hn0 k : Int) (h_sd : -2147483648 ≤ sd ∧ sd ≤ 2147483647) (h_sp0 : 0 ≤ sp0 ∧ sp0 ≤ 60000) (h_st0 : 0 ≤ st0 ∧ st0 ≤ 60000) (h_ln : -2147483648 ≤ ln ∧ ln ≤ 2147483647) (h_hn0 : 0 ≤ hn0 ∧ hn0 ≤ 65535) (h_k : 0 ≤ k ∧ k ≤ 65535) (q_0 : S.f 40 5 = S0.f 40 5 ∨ S.f 40 5 ≠ -1) (hn : 65536 - k < (n : Nat)), yT xPr G LY xC117 41 [some ((2, 40)), some (vi sd), some (vi sp0), some (vi st0), some (vi ln), some (vi hn0), some (vi k)] [] S (d + 1) (fun r S' => r = (0, (0, 0)) ∧ (S'.f 40 5 = S0.f 40 5 ∨ S'.f 40 5 ≠ -1) ∧ RD S' ∧ yI S' ∧ yFr [(40, 3), (40, 4), (40, 5)] [] S0 S' ∧ yRm [] S0 S') := by
  intro n
  induction n with
  | zero => intro S hI hF hR e_RD sd sp0 st0 ln hn0 k h_sd h_sp0 h_st0 h_ln h_hn0 h_k q_0 hn; exact absurd hn (by omega)
  | succ n ih =>
    intro S hI hF hR e_RD sd sp0 st0 ln hn0 k h_sd h_sp0 h_st0 h_ln h_hn0 h_k q_0 hn
    have h1 := hI.f tf40_5
    refine r_load (i := 41) (u := 6) (w := 0) rfl rfl rfl ?_
    refine r_load (i := 42) (u := 5) (w := 0) rfl rfl rfl ?_
    refine c_ge (i := 43) (v := 53) rfl ⟨by omega, by omega⟩ ⟨by omega, by omega⟩ (fun h2 => ?_) (fun h3 => ?_)
    · refine yT_drop (L1 := [some ((2, 40)), some (vi sd), some (vi sp0), some (vi st0), none, none, none]) rfl ?_
      exact lp117_53   hd S hI hF hR e_RD sd sp0 st0 ⟨by omega, by omega⟩ ⟨by omega, by omega⟩ ⟨by omega, by omega⟩ (by omega) 
    · refine r_load (i := 44) (u := 0) (w := 2) rfl rfl rfl ?_
      refine r_getf (i := 45) (v := 5) (w := 10) (x := vi (S.f 40 5)) rfl ly40 rfl rfl fun h4 => ?_
      have h4 : Rg (S.f 40 5) := h4
      refine r_const (i := 46) (u := 4294967295) (z := -1) rfl rfl ?_
      refine c_ne (i := 47) (v := 53) rfl ⟨by omega, by omega⟩ ⟨by omega, by omega⟩ (fun h5 => ?_) (fun h6 => ?_)
      · refine yT_drop (L1 := [some ((2, 40)), some (vi sd), some (vi sp0), some (vi st0), none, none, none]) rfl ?_
        exact lp117_53   hd S hI hF hR e_RD sd sp0 st0 ⟨by omega, by omega⟩ ⟨by omega, by omega⟩ ⟨by omega, by omega⟩ (by omega) 
      · refine r_load (i := 48) (u := 0) (w := 2) rfl rfl rfl ?_
        refine r_load (i := 49) (u := 4) (w := 0) rfl rfl rfl ?_
        refine r_call (i := 50) (u := 10) (v := 120) (w := 0) (b := 0) (na := 1026) (C2 := xC120) (as := [(2, 40), vi ln]) (s := []) rfl rfl rfl rfl rfl rfl rfl (sp120 (ln := ln) hI ⟨by omega, by omega⟩  e_RD (by omega)) (fun r7 S8 hq9 => ?_)
        obtain ⟨rfl, h10, e11, hI12, hF13, hR14⟩ := hq9
        have hF15 := hF.trans hF13 rfl rfl
        have hR16 := hR.trans hR14 rfl
        refine Or.inl ⟨rfl, ?_⟩
        refine r_iinc (i := 51) (u := 1) (v := 6) (s := 1) (L1 := [some ((2, 40)), some (vi sd), some (vi sp0), some (vi st0), some (vi ln), some (vi hn0), some (vi (k + 1))]) rfl rfl rfl rfl rfl ?_
        refine r_goto (i := 52) (v := 41) rfl ?_
        have h17 := hI12.f tf40_5
        exact ih S8 hI12 hF15 hR16 e11 sd sp0 st0 ln hn0 (k + 1) ⟨by omega, by omega⟩ ⟨by omega, by omega⟩ ⟨by omega, by omega⟩ ⟨by omega, by omega⟩ ⟨by omega, by omega⟩ ⟨by omega, by omega⟩ (by omega) (by omega)
theorem lp117_31 {G : xk} {d : Nat} {S0 : yS}  (hd : 7 ≤ d + 1) : ∀ (S : yS) (hI : yI S) (hF : yFr [(40, 3), (40, 4), (40, 5)] [] S0 S) (hR : yRm [] S0 S) (e_RD : RD S) (sd sp0 st0 ln g0 : Int) (h_sd : -2147483648 ≤ sd ∧ sd ≤ 2147483647) (h_sp0 : 0 ≤ sp0 ∧ sp0 ≤ 60000) (h_st0 : 0 ≤ st0 ∧ st0 ≤ 60000) (h_ln : -2147483648 ≤ ln ∧ ln ≤ 2147483647) (h_g0 : 0 ≤ g0 ∧ g0 ≤ 1) (q_0 : S.f 40 5 = S0.f 40 5 ∨ S.f 40 5 ≠ -1), yT xPr G LY xC117 31 [some ((2, 40)), some (vi sd), some (vi sp0), some (vi st0), some (vi ln), none, none] [vi g0, (2, 40)] S (d + 1) (fun r S' => r = (0, (0, 0)) ∧ (S'.f 40 5 = S0.f 40 5 ∨ S'.f 40 5 ≠ -1) ∧ RD S' ∧ yI S' ∧ yFr [(40, 3), (40, 4), (40, 5)] [] S0 S' ∧ yRm [] S0 S') := by
  intro S hI hF hR e_RD sd sp0 st0 ln g0 h_sd h_sp0 h_st0 h_ln h_g0 q_0
  have h1 := hI.f tf40_5
  refine r_call (i := 31) (u := 10) (v := 125) (w := 0) (b := 0) (na := 514) (C2 := xC125) (as := [(2, 40), vi g0]) (s := []) rfl rfl rfl rfl rfl rfl rfl (sp125 (g0 := g0) hI ⟨by omega, by omega⟩   (by omega)) (fun r2 S3 hq4 => ?_)
  obtain ⟨rfl, h5, h6, hI7, hF8, hR9⟩ := hq4
  have hF10 := hF.trans hF8 rfl rfl
  have hR11 := hR.trans hR9 rfl
  have e12 := RDx.up e_RD hF8 hR9 rfl rfl rfl (by omega)
  refine Or.inl ⟨rfl, ?_⟩
  refine r_load (i := 32) (u := 0) (w := 2) rfl rfl rfl ?_
  refine r_load (i := 33) (u := 4) (w := 0) rfl rfl rfl ?_
  have h13 := hI7.f tf40_5
  have h14 := hI7.f tf40_3
  have h15 : S3.f 40 3 = S.f 40 3 := hF8.f rfl
  have h16 := hI7.b0
  have h17 : S3.f 31 1 = S.f 31 1 := hF8.f rfl
  have h18 : S.f 31 1 = S0.f 31 1 := hF.f rfl
  refine r_call (i := 34) (u := 10) (v := 126) (w := 0) (b := 0) (na := 514) (C2 := xC126) (as := [(2, 40), vi ln]) (s := []) rfl rfl rfl rfl rfl rfl rfl (sp126 (ln := ln) hI7 ⟨by omega, by omega⟩   (by omega)) (fun r19 S20 hq21 => ?_)
  obtain ⟨rfl, h22, h23, hI24, hF25, hR26⟩ := hq21
  have hF27 := hF10.trans hF25 rfl rfl
  have hR28 := hR11.trans hR26 rfl
  have e29 := RDx.up e12 hF25 hR26 rfl rfl rfl (by omega)
  refine Or.inl ⟨rfl, ?_⟩
  refine r_load (i := 35) (u := 0) (w := 2) rfl rfl rfl ?_
  refine r_const (i := 36) (u := 2) (z := 2) rfl rfl ?_
  have h30 := hI24.f tf40_3
  have h31 := hI24.b0
  have h32 : S20.f 31 1 = S3.f 31 1 := hF25.f rfl
  have h33 : S3.f 31 1 = S.f 31 1 := hF8.f rfl
  have h34 : S.f 31 1 = S0.f 31 1 := hF.f rfl
  have h35 := hI24.f tf40_5
  refine r_call (i := 37) (u := 10) (v := 115) (w := 0) (b := 0) (na := 1026) (C2 := xC115) (as := [(2, 40), vi 2]) (s := []) rfl rfl rfl rfl rfl rfl rfl (sp115 (w0 := 2) hI24 ⟨by omega, by omega⟩   (by omega)) (fun r36 S37 hq38 => ?_)
  obtain ⟨z39, rfl, h40, h41, h42, h43, h44, h45, h46, h47, hI48, hF49, hR50⟩ := hq38
  have hF51 := hF27.trans hF49 rfl rfl
  have hR52 := hR28.trans hR50 rfl
  have e53 := RDx.up e29 hF49 hR50 rfl rfl rfl (by omega)
  refine Or.inr (Or.inl ⟨rfl, ?_⟩)
  refine r_store (i := 38) (u := 5) (w := 0) (L1 := [some ((2, 40)), some (vi sd), some (vi sp0), some (vi st0), some (vi ln), some (vi z39), none]) rfl rfl rfl rfl ?_
  refine r_const (i := 39) (u := 0) (z := 0) rfl rfl ?_
  refine r_store (i := 40) (u := 6) (w := 0) (L1 := [some ((2, 40)), some (vi sd), some (vi sp0), some (vi st0), some (vi ln), some (vi z39), some (vi 0)]) rfl rfl rfl rfl ?_
  have h54 := hI48.f tf40_5
  exact lp117_41   hd _ S37 hI48 hF51 hR52 e53 sd sp0 st0 ln z39 0 ⟨by omega, by omega⟩ ⟨by omega, by omega⟩ ⟨by omega, by omega⟩ ⟨by omega, by omega⟩ ⟨by omega, by omega⟩ ⟨by omega, by omega⟩ (by omega) (Int.lt_succ_toNat _)
theorem lp117_21 {G : xk} {d : Nat} {S0 : yS}  (hd : 7 ≤ d + 1) : ∀ (S : yS) (hI : yI S) (hF : yFr [(40, 3), (40, 4), (40, 5)] [] S0 S) (hR : yRm [] S0 S) (e_RD : RD S) (sd sp0 st0 : Int) (h_sd : -2147483648 ≤ sd ∧ sd ≤ 2147483647) (h_sp0 : 0 ≤ sp0 ∧ sp0 ≤ 60000) (h_st0 : 0 ≤ st0 ∧ st0 ≤ 60000) (q_0 : S.f 40 5 = S0.f 40 5 ∨ S.f 40 5 ≠ -1), yT xPr G LY xC117 21 [some ((2, 40)), some (vi sd), some (vi sp0), some (vi st0), none, none, none] [] S (d + 1) (fun r S' => r = (0, (0, 0)) ∧ (S'.f 40 5 = S0.f 40 5 ∨ S'.f 40 5 ≠ -1) ∧ RD S' ∧ yI S' ∧ yFr [(40, 3), (40, 4), (40, 5)] [] S0 S' ∧ yRm [] S0 S') := by
  intro S hI hF hR e_RD sd sp0 st0 h_sd h_sp0 h_st0 q_0
  have h1 := hI.f tf40_5
  refine r_load (i := 21) (u := 0) (w := 2) rfl rfl rfl ?_
  refine r_const (i := 22) (u := 4) (z := 4) rfl rfl ?_
  have h2 := hI.f tf40_3
  have h3 := hI.b0
  have h4 : S.f 31 1 = S0.f 31 1 := hF.f rfl
  refine r_call (i := 23) (u := 10) (v := 115) (w := 0) (b := 0) (na := 1026) (C2 := xC115) (as := [(2, 40), vi 4]) (s := []) rfl rfl rfl rfl rfl rfl rfl (sp115 (w0 := 4) hI ⟨by omega, by omega⟩   (by omega)) (fun r5 S6 hq7 => ?_)
  obtain ⟨z8, rfl, h9, h10, h11, h12, h13, h14, h15, h16, hI17, hF18, hR19⟩ := hq7
  have hF20 := hF.trans hF18 rfl rfl
  have hR21 := hR.trans hR19 rfl
  have e22 := RDx.up e_RD hF18 hR19 rfl rfl rfl (by omega)
  refine Or.inr (Or.inl ⟨rfl, ?_⟩)
  refine r_store (i := 24) (u := 4) (w := 0) (L1 := [some ((2, 40)), some (vi sd), some (vi sp0), some (vi st0), some (vi z8), none, none]) rfl rfl rfl rfl ?_
  refine r_load (i := 25) (u := 0) (w := 2) rfl rfl rfl ?_
  refine r_load (i := 26) (u := 4) (w := 0) rfl rfl rfl ?_
  refine z_eq (i := 27) (v := 30) rfl ⟨by omega, by omega⟩ (fun h23 => ?_) (fun h24 => ?_)
  · refine r_const (i := 30) (u := 0) (z := 0) rfl rfl ?_
    have h25 := hI17.f tf40_5
    exact lp117_31   hd S6 hI17 hF20 hR21 e22 sd sp0 st0 z8 0 ⟨by omega, by omega⟩ ⟨by omega, by omega⟩ ⟨by omega, by omega⟩ ⟨by omega, by omega⟩ ⟨by omega, by omega⟩ (by omega) 
  · refine r_const (i := 28) (u := 1) (z := 1) rfl rfl ?_
    refine r_goto (i := 29) (v := 31) rfl ?_
    have h26 := hI17.f tf40_5
    exact lp117_31   hd S6 hI17 hF20 hR21 e22 sd sp0 st0 z8 1 ⟨by omega, by omega⟩ ⟨by omega, by omega⟩ ⟨by omega, by omega⟩ ⟨by omega, by omega⟩ ⟨by omega, by omega⟩ (by omega) 
theorem lp117_13 {G : xk} {d : Nat} {S0 : yS}  (hd : 7 ≤ d + 1) : ∀ (S : yS) (hI : yI S) (hF : yFr [(40, 3), (40, 4), (40, 5)] [] S0 S) (hR : yRm [] S0 S) (e_RD : RD S) (sd sp0 st0 : Int) (h_sd : -2147483648 ≤ sd ∧ sd ≤ 2147483647) (h_sp0 : 0 ≤ sp0 ∧ sp0 ≤ 60000) (h_st0 : 0 ≤ st0 ∧ st0 ≤ 60000) (q_0 : S.f 40 5 = S0.f 40 5 ∨ S.f 40 5 ≠ -1), yT xPr G LY xC117 13 [some ((2, 40)), some (vi sd), some (vi sp0), some (vi st0), none, none, none] [] S (d + 1) (fun r S' => r = (0, (0, 0)) ∧ (S'.f 40 5 = S0.f 40 5 ∨ S'.f 40 5 ≠ -1) ∧ RD S' ∧ yI S' ∧ yFr [(40, 3), (40, 4), (40, 5)] [] S0 S' ∧ yRm [] S0 S') := by
  intro S hI hF hR e_RD sd sp0 st0 h_sd h_sp0 h_st0 q_0
  have h1 := hI.f tf40_5
  refine r_load (i := 13) (u := 0) (w := 2) rfl rfl rfl ?_
  refine r_const (i := 14) (u := 2) (z := 2) rfl rfl ?_
  have h2 := hI.f tf40_3
  have h3 := hI.b0
  have h4 : S.f 31 1 = S0.f 31 1 := hF.f rfl
  refine r_call (i := 15) (u := 10) (v := 115) (w := 0) (b := 0) (na := 1026) (C2 := xC115) (as := [(2, 40), vi 2]) (s := []) rfl rfl rfl rfl rfl rfl rfl (sp115 (w0 := 2) hI ⟨by omega, by omega⟩   (by omega)) (fun r5 S6 hq7 => ?_)
  obtain ⟨z8, rfl, h9, h10, h11, h12, h13, h14, h15, h16, hI17, hF18, hR19⟩ := hq7
  have hF20 := hF.trans hF18 rfl rfl
  have hR21 := hR.trans hR19 rfl
  have e22 := RDx.up e_RD hF18 hR19 rfl rfl rfl (by omega)
  refine Or.inr (Or.inl ⟨rfl, ?_⟩)
  refine r_pop (i := 16) rfl rfl ?_
  refine r_load (i := 17) (u := 0) (w := 2) rfl rfl rfl ?_
  refine r_const (i := 18) (u := 2) (z := 2) rfl rfl ?_
  have h23 := hI17.f tf40_3
  have h24 := hI17.b0
  have h25 : S6.f 31 1 = S.f 31 1 := hF18.f rfl
  have h26 : S.f 31 1 = S0.f 31 1 := hF.f rfl
  have h27 := hI17.f tf40_5
  refine r_call (i := 19) (u := 10) (v := 115) (w := 0) (b := 0) (na := 1026) (C2 := xC115) (as := [(2, 40), vi 2]) (s := []) rfl rfl rfl rfl rfl rfl rfl (sp115 (w0 := 2) hI17 ⟨by omega, by omega⟩   (by omega)) (fun r28 S29 hq30 => ?_)
  obtain ⟨z31, rfl, h32, h33, h34, h35, h36, h37, h38, h39, hI40, hF41, hR42⟩ := hq30
  have hF43 := hF20.trans hF41 rfl rfl
  have hR44 := hR21.trans hR42 rfl
  have e45 := RDx.up e22 hF41 hR42 rfl rfl rfl (by omega)
  refine Or.inr (Or.inl ⟨rfl, ?_⟩)
  refine r_pop (i := 20) rfl rfl ?_
  have h46 := hI40.f tf40_5
  exact lp117_21   hd S29 hI40 hF43 hR44 e45 sd sp0 st0 ⟨by omega, by omega⟩ ⟨by omega, by omega⟩ ⟨by omega, by omega⟩ (by omega) 
theorem lp117_7 {G : xk} {d : Nat} {S0 : yS}  (hd : 7 ≤ d + 1) : ∀ (S : yS) (hI : yI S) (hF : yFr [(40, 3), (40, 4), (40, 5)] [] S0 S) (hR : yRm [] S0 S) (e_RD : RD S) (sd : Int) (h_sd : -2147483648 ≤ sd ∧ sd ≤ 2147483647) (q_0 : S.f 40 5 = S0.f 40 5 ∨ S.f 40 5 ≠ -1), yT xPr G LY xC117 7 [some ((2, 40)), some (vi sd), none, none, none, none, none] [] S (d + 1) (fun r S' => r = (0, (0, 0)) ∧ (S'.f 40 5 = S0.f 40 5 ∨ S'.f 40 5 ≠ -1) ∧ RD S' ∧ yI S' ∧ yFr [(40, 3), (40, 4), (40, 5)] [] S0 S' ∧ yRm [] S0 S') := by
  intro S hI hF hR e_RD sd h_sd q_0
  have h1 := hI.f tf40_5
  refine r_load (i := 7) (u := 0) (w := 2) rfl rfl rfl ?_
  have h2 := hI.f tf40_4
  refine r_getf (i := 8) (v := 4) (w := 10) (x := vi (S.f 40 4)) rfl ly40 rfl rfl fun h3 => ?_
  have h3 : Rg (S.f 40 4) := h3
  refine r_store (i := 9) (u := 2) (w := 0) (L1 := [some ((2, 40)), some (vi sd), some (vi (S.f 40 4)), none, none, none, none]) rfl rfl rfl rfl ?_
  refine r_load (i := 10) (u := 0) (w := 2) rfl rfl rfl ?_
  have h4 := hI.f tf40_3
  refine r_getf (i := 11) (v := 3) (w := 10) (x := vi (S.f 40 3)) rfl ly40 rfl rfl fun h5 => ?_
  have h5 : Rg (S.f 40 3) := h5
  refine r_store (i := 12) (u := 3) (w := 0) (L1 := [some ((2, 40)), some (vi sd), some (vi (S.f 40 4)), some (vi (S.f 40 3)), none, none, none]) rfl rfl rfl rfl ?_
  exact lp117_13   hd S hI hF hR e_RD sd (S.f 40 4) (S.f 40 3) ⟨by omega, by omega⟩ ⟨by omega, by omega⟩ ⟨by omega, by omega⟩ (by omega) 
/-- ProxyForge$Reader.readCode -/
theorem sp117 {G : xk} {S : yS} {d : Nat} (hI : yI S) (e_RD : RD S) (hd : 7 ≤ d) : yT xPr G LY xC117 0 [some ((2, 40))] [] S d (fun r S' => r = (0, (0, 0)) ∧ (S'.f 40 5 = S.f 40 5 ∨ S'.f 40 5 ≠ -1) ∧ RD S' ∧ yI S' ∧ yFr [(40, 3), (40, 4), (40, 5)] [] S S' ∧ yRm [] S S') := by
  refine yT_pad 6 ?_
  show yT xPr G LY xC117 0 [some ((2, 40)), none, none, none, none, none, none] [] S d _
  obtain ⟨d, rfl⟩ : ∃ q, d = q + 1 := ⟨d - 1, by omega⟩
  have hF : yFr [(40, 3), (40, 4), (40, 5)] [] S S := yFr.refl S
  have hR : yRm [] S S := yRm.refl S
  refine r_load (i := 0) (u := 0) (w := 2) rfl rfl rfl ?_
  refine r_str (i := 1) (v := 1) rfl ?_
  have h1 := slv1
  have h2 := hI.f tf40_5
  refine r_call (i := 2) (u := 10) (v := 111) (w := 0) (b := 0) (na := 770) (C2 := xC111) (as := [(2, 40), (6, 1)]) (s := []) rfl rfl rfl rfl rfl rfl rfl (sp111 (s := 1) hI ⟨by decide, by decide⟩  e_RD (by omega)) (fun r3 S4 hq5 => ?_)
  obtain ⟨rfl, h6, e7, hI8, hF9, hR10⟩ := hq5
  have hF11 := hF.trans hF9 rfl rfl
  have hR12 := hR.trans hR10 rfl
  refine Or.inl ⟨rfl, ?_⟩
  refine r_load (i := 3) (u := 0) (w := 2) rfl rfl rfl ?_
  refine r_const (i := 4) (u := 4) (z := 4) rfl rfl ?_
  have h13 := hI8.f tf40_3
  have h14 := hI8.b0
  have h15 : S4.f 31 1 = S.f 31 1 := hF9.f rfl
  have h16 := hI8.f tf40_5
  refine r_call (i := 5) (u := 10) (v := 115) (w := 0) (b := 0) (na := 1026) (C2 := xC115) (as := [(2, 40), vi 4]) (s := []) rfl rfl rfl rfl rfl rfl rfl (sp115 (w0 := 4) hI8 ⟨by omega, by omega⟩   (by omega)) (fun r17 S18 hq19 => ?_)
  obtain ⟨z20, rfl, h21, h22, h23, h24, h25, h26, h27, h28, hI29, hF30, hR31⟩ := hq19
  have hF32 := hF11.trans hF30 rfl rfl
  have hR33 := hR12.trans hR31 rfl
  have e34 := RDx.up e7 hF30 hR31 rfl rfl rfl (by omega)
  refine Or.inr (Or.inl ⟨rfl, ?_⟩)
  refine r_store (i := 6) (u := 1) (w := 0) (L1 := [some ((2, 40)), some (vi z20), none, none, none, none, none]) rfl rfl rfl rfl ?_
  have h35 := hI29.f tf40_5
  exact lp117_7   hd S18 hI29 hF32 hR33 e34 z20 ⟨by omega, by omega⟩ (by omega) 
theorem lp122_44 {G : xk} {d : Nat} {S0 : yS}  (hd : 8 ≤ d + 1) : ∀ (S : yS) (hI : yI S) (hF : yFr [(40, 3), (40, 4), (40, 5)] [] S0 S) (hR : yRm [] S0 S) (e_RD : RD S) (at0 : Int) (h_at0 : 0 ≤ at0 ∧ at0 ≤ 65535) (q_0 : S.f 40 5 = S0.f 40 5 ∨ S.f 40 5 ≠ -1), yT xPr G LY xC122 44 [some ((2, 40)), none, none, some (vi at0)] [] S (d + 1) (fun r S' => r = (0, (0, 0)) ∧ (S'.f 40 5 = S0.f 40 5 ∨ S'.f 40 5 ≠ -1) ∧ RD S' ∧ yI S' ∧ yFr [(40, 3), (40, 4), (40, 5)] [] S0 S' ∧ yRm [] S0 S') := by
  intro S hI hF hR e_RD at0 h_at0 q_0
  have h1 := hI.f tf40_5
  refine r_load (i := 44) (u := 3) (w := 0) rfl rfl rfl ?_
  refine r_const (i := 45) (u := 2) (z := 2) rfl rfl ?_
  refine c_ne (i := 46) (v := 49) rfl ⟨by omega, by omega⟩ ⟨by omega, by omega⟩ (fun h2 => ?_) (fun h3 => ?_)
  · exact r_ret0 (i := 49) rfl ⟨rfl, (by omega), e_RD, hI, hF, hR⟩
  · refine r_load (i := 47) (u := 0) (w := 2) rfl rfl rfl ?_
    refine r_call (i := 48) (u := 10) (v := 119) (w := 0) (b := 0) (na := 1025) (C2 := xC119) (as := [(2, 40)]) (s := []) rfl rfl rfl rfl rfl rfl rfl (sp119  hI   e_RD (by omega)) (fun r4 S5 hq6 => ?_)
    obtain ⟨rfl, h7, e8, hI9, hF10, hR11⟩ := hq6
    have hF12 := hF.trans hF10 rfl rfl
    have hR13 := hR.trans hR11 rfl
    refine Or.inl ⟨rfl, ?_⟩
    have h14 := hI9.f tf40_5
    exact r_ret0 (i := 49) rfl ⟨rfl, (by omega), e8, hI9, hF12, hR13⟩
theorem lp122_41 {G : xk} {d : Nat} {S0 : yS}  (hd : 8 ≤ d + 1) : ∀ (S : yS) (hI : yI S) (hF : yFr [(40, 3), (40, 4), (40, 5)] [] S0 S) (hR : yRm [] S0 S) (e_RD : RD S) (at0 g0 : Int) (h_at0 : 0 ≤ at0 ∧ at0 ≤ 65535) (h_g0 : 0 ≤ g0 ∧ g0 ≤ 1) (q_0 : S.f 40 5 = S0.f 40 5 ∨ S.f 40 5 ≠ -1), yT xPr G LY xC122 41 [some ((2, 40)), none, none, some (vi at0)] [vi g0, (2, 40)] S (d + 1) (fun r S' => r = (0, (0, 0)) ∧ (S'.f 40 5 = S0.f 40 5 ∨ S'.f 40 5 ≠ -1) ∧ RD S' ∧ yI S' ∧ yFr [(40, 3), (40, 4), (40, 5)] [] S0 S' ∧ yRm [] S0 S') := by
  intro S hI hF hR e_RD at0 g0 h_at0 h_g0 q_0
  have h1 := hI.f tf40_5
  refine r_call (i := 41) (u := 10) (v := 125) (w := 0) (b := 0) (na := 514) (C2 := xC125) (as := [(2, 40), vi g0]) (s := []) rfl rfl rfl rfl rfl rfl rfl (sp125 (g0 := g0) hI ⟨by omega, by omega⟩   (by omega)) (fun r2 S3 hq4 => ?_)
  obtain ⟨rfl, h5, h6, hI7, hF8, hR9⟩ := hq4
  have hF10 := hF.trans hF8 rfl rfl
  have hR11 := hR.trans hR9 rfl
  have e12 := RDx.up e_RD hF8 hR9 rfl rfl rfl (by omega)
  refine Or.inl ⟨rfl, ?_⟩
  refine r_load (i := 42) (u := 0) (w := 2) rfl rfl rfl ?_
  have h13 := hI7.f tf40_5
  refine r_call (i := 43) (u := 10) (v := 117) (w := 0) (b := 0) (na := 1793) (C2 := xC117) (as := [(2, 40)]) (s := []) rfl rfl rfl rfl rfl rfl rfl (sp117  hI7   e12 (by omega)) (fun r14 S15 hq16 => ?_)
  obtain ⟨rfl, h17, e18, hI19, hF20, hR21⟩ := hq16
  have hF22 := hF10.trans hF20 rfl rfl
  have hR23 := hR11.trans hR21 rfl
  refine Or.inl ⟨rfl, ?_⟩
  have h24 := hI19.f tf40_5
  exact lp122_44   hd S15 hI19 hF22 hR23 e18 at0 ⟨by omega, by omega⟩ (by omega) 
theorem lp122_27 {G : xk} {d : Nat} {S0 : yS}  (hd : 8 ≤ d + 1) : ∀ (S : yS) (hI : yI S) (hF : yFr [(40, 3), (40, 4), (40, 5)] [] S0 S) (hR : yRm [] S0 S) (e_RD : RD S)  (q_0 : S.f 40 5 = S0.f 40 5 ∨ S.f 40 5 ≠ -1), yT xPr G LY xC122 27 [some ((2, 40)), none, none, none] [] S (d + 1) (fun r S' => r = (0, (0, 0)) ∧ (S'.f 40 5 = S0.f 40 5 ∨ S'.f 40 5 ≠ -1) ∧ RD S' ∧ yI S' ∧ yFr [(40, 3), (40, 4), (40, 5)] [] S0 S' ∧ yRm [] S0 S') := by
  intro S hI hF hR e_RD   q_0
  have h1 := hI.f tf40_5
  refine r_load (i := 27) (u := 0) (w := 2) rfl rfl rfl ?_
  refine r_const (i := 28) (u := 2) (z := 2) rfl rfl ?_
  have h2 := hI.f tf40_3
  have h3 := hI.b0
  have h4 : S.f 31 1 = S0.f 31 1 := hF.f rfl
  refine r_call (i := 29) (u := 10) (v := 115) (w := 0) (b := 0) (na := 1026) (C2 := xC115) (as := [(2, 40), vi 2]) (s := []) rfl rfl rfl rfl rfl rfl rfl (sp115 (w0 := 2) hI ⟨by omega, by omega⟩   (by omega)) (fun r5 S6 hq7 => ?_)
  obtain ⟨z8, rfl, h9, h10, h11, h12, h13, h14, h15, h16, hI17, hF18, hR19⟩ := hq7
  have hF20 := hF.trans hF18 rfl rfl
  have hR21 := hR.trans hR19 rfl
  have e22 := RDx.up e_RD hF18 hR19 rfl rfl rfl (by omega)
  refine Or.inr (Or.inl ⟨rfl, ?_⟩)
  refine r_store (i := 30) (u := 3) (w := 0) (L1 := [some ((2, 40)), none, none, some (vi z8)]) rfl rfl rfl rfl ?_
  refine r_load (i := 31) (u := 0) (w := 2) rfl rfl rfl ?_
  refine r_load (i := 32) (u := 3) (w := 0) rfl rfl rfl ?_
  refine r_const (i := 33) (u := 1) (z := 1) rfl rfl ?_
  refine c_eq (i := 34) (v := 38) rfl ⟨by omega, by omega⟩ ⟨by omega, by omega⟩ (fun h23 => ?_) (fun h24 => ?_)
  · refine r_const (i := 38) (u := 1) (z := 1) rfl rfl ?_
    refine r_goto (i := 39) (v := 41) rfl ?_
    have h25 := hI17.f tf40_5
    exact lp122_41   hd S6 hI17 hF20 hR21 e22 z8 1 ⟨by omega, by omega⟩ ⟨by omega, by omega⟩ (by omega) 
  · refine r_load (i := 35) (u := 3) (w := 0) rfl rfl rfl ?_
    refine r_const (i := 36) (u := 2) (z := 2) rfl rfl ?_
    refine c_ne (i := 37) (v := 40) rfl ⟨by omega, by omega⟩ ⟨by omega, by omega⟩ (fun h26 => ?_) (fun h27 => ?_)
    · refine r_const (i := 40) (u := 0) (z := 0) rfl rfl ?_
      have h28 := hI17.f tf40_5
      exact lp122_41   hd S6 hI17 hF20 hR21 e22 z8 0 ⟨by omega, by omega⟩ ⟨by omega, by omega⟩ (by omega) 
    · refine r_const (i := 38) (u := 1) (z := 1) rfl rfl ?_
      refine r_goto (i := 39) (v := 41) rfl ?_
      have h29 := hI17.f tf40_5
      exact lp122_41   hd S6 hI17 hF20 hR21 e22 z8 1 ⟨by omega, by omega⟩ ⟨by omega, by omega⟩ (by omega) 
theorem lp122_20 {G : xk} {d : Nat} {S0 : yS}  (hd : 8 ≤ d + 1) : ∀ (S : yS) (hI : yI S) (hF : yFr [(40, 3), (40, 4), (40, 5)] [] S0 S) (hR : yRm [] S0 S) (e_RD : RD S) (g0 : Int) (h_g0 : 0 ≤ g0 ∧ g0 ≤ 1) (q_0 : S.f 40 5 = S0.f 40 5 ∨ S.f 40 5 ≠ -1), yT xPr G LY xC122 20 [some ((2, 40)), none, none, none] [vi g0, (2, 40)] S (d + 1) (fun r S' => r = (0, (0, 0)) ∧ (S'.f 40 5 = S0.f 40 5 ∨ S'.f 40 5 ≠ -1) ∧ RD S' ∧ yI S' ∧ yFr [(40, 3), (40, 4), (40, 5)] [] S0 S' ∧ yRm [] S0 S') := by
  intro S hI hF hR e_RD g0 h_g0 q_0
  have h1 := hI.f tf40_5
  refine r_call (i := 20) (u := 10) (v := 125) (w := 0) (b := 0) (na := 514) (C2 := xC125) (as := [(2, 40), vi g0]) (s := []) rfl rfl rfl rfl rfl rfl rfl (sp125 (g0 := g0) hI ⟨by omega, by omega⟩   (by omega)) (fun r2 S3 hq4 => ?_)
  obtain ⟨rfl, h5, h6, hI7, hF8, hR9⟩ := hq4
  have hF10 := hF.trans hF8 rfl rfl
  have hR11 := hR.trans hR9 rfl
  have e12 := RDx.up e_RD hF8 hR9 rfl rfl rfl (by omega)
  refine Or.inl ⟨rfl, ?_⟩
  refine r_load (i := 21) (u := 0) (w := 2) rfl rfl rfl ?_
  refine r_const (i := 22) (u := 1) (z := 1) rfl rfl ?_
  have h13 := hI7.f tf40_5
  refine r_call (i := 23) (u := 10) (v := 110) (w := 0) (b := 0) (na := 514) (C2 := xC110) (as := [(2, 40), vi 1]) (s := []) rfl rfl rfl rfl rfl rfl rfl (sp110 (t := 1) hI7 ⟨by omega, by omega⟩  e12 (by omega)) (fun r14 S15 hq16 => ?_)
  obtain ⟨rfl, h17, e18, hI19, hF20, hR21⟩ := hq16
  have hF22 := hF10.trans hF20 rfl rfl
  have hR23 := hR11.trans hR21 rfl
  refine Or.inl ⟨rfl, ?_⟩
  refine r_load (i := 24) (u := 0) (w := 2) rfl rfl rfl ?_
  refine r_const (i := 25) (u := 1) (z := 1) rfl rfl ?_
  have h24 := hI19.f tf40_5
  refine r_call (i := 26) (u := 10) (v := 110) (w := 0) (b := 0) (na := 514) (C2 := xC110) (as := [(2, 40), vi 1]) (s := []) rfl rfl rfl rfl rfl rfl rfl (sp110 (t := 1) hI19 ⟨by omega, by omega⟩  e18 (by omega)) (fun r25 S26 hq27 => ?_)
  obtain ⟨rfl, h28, e29, hI30, hF31, hR32⟩ := hq27
  have hF33 := hF22.trans hF31 rfl rfl
  have hR34 := hR23.trans hR32 rfl
  refine Or.inl ⟨rfl, ?_⟩
  have h35 := hI30.f tf40_5
  exact lp122_27   hd S26 hI30 hF33 hR34 e29   (by omega) 
/-- ProxyForge$Reader.readMethod -/
theorem sp122 {G : xk} {S : yS} {d : Nat} (hI : yI S) (e_RD : RD S) (hd : 8 ≤ d) : yT xPr G LY xC122 0 [some ((2, 40))] [] S d (fun r S' => r = (0, (0, 0)) ∧ (S'.f 40 5 = S.f 40 5 ∨ S'.f 40 5 ≠ -1) ∧ RD S' ∧ yI S' ∧ yFr [(40, 3), (40, 4), (40, 5)] [] S S' ∧ yRm [] S S') := by
  refine yT_pad 3 ?_
  show yT xPr G LY xC122 0 [some ((2, 40)), none, none, none] [] S d _
  obtain ⟨d, rfl⟩ : ∃ q, d = q + 1 := ⟨d - 1, by omega⟩
  have hF : yFr [(40, 3), (40, 4), (40, 5)] [] S S := yFr.refl S
  have hR : yRm [] S S := yRm.refl S
  refine r_load (i := 0) (u := 0) (w := 2) rfl rfl rfl ?_
  refine r_const (i := 1) (u := 2) (z := 2) rfl rfl ?_
  have h1 := hI.f tf40_3
  have h2 := hI.b0
  have h3 := hI.f tf40_5
  refine r_call (i := 2) (u := 10) (v := 115) (w := 0) (b := 0) (na := 1026) (C2 := xC115) (as := [(2, 40), vi 2]) (s := []) rfl rfl rfl rfl rfl rfl rfl (sp115 (w0 := 2) hI ⟨by omega, by omega⟩   (by omega)) (fun r4 S5 hq6 => ?_)
  obtain ⟨z7, rfl, h8, h9, h10, h11, h12, h13, h14, h15, hI16, hF17, hR18⟩ := hq6
  have hF19 := hF.trans hF17 rfl rfl
  have hR20 := hR.trans hR18 rfl
  have e21 := RDx.up e_RD hF17 hR18 rfl rfl rfl (by omega)
  refine Or.inr (Or.inl ⟨rfl, ?_⟩)
  refine r_store (i := 3) (u := 1) (w := 0) (L1 := [some ((2, 40)), some (vi z7), none, none]) rfl rfl rfl rfl ?_
  refine r_load (i := 4) (u := 1) (w := 0) rfl rfl rfl ?_
  refine r_const (i := 5) (u := 4294967279) (z := -17) rfl rfl ?_
  refine r_iand (i := 6) rfl ?_
  have h22 := yand_rg z7 (-17)
  refine r_store (i := 7) (u := 2) (w := 0) (L1 := [some ((2, 40)), some (vi z7), some (vi (yand z7 (-17))), none]) rfl rfl rfl rfl ?_
  refine r_load (i := 8) (u := 0) (w := 2) rfl rfl rfl ?_
  refine r_load (i := 9) (u := 2) (w := 0) rfl rfl rfl ?_
  refine z_eq (i := 10) (v := 17) rfl ⟨by omega, by omega⟩ (fun h23 => ?_) (fun h24 => ?_)
  · refine r_const (i := 17) (u := 1) (z := 1) rfl rfl ?_
    refine r_goto (i := 18) (v := 20) rfl ?_
    refine yT_drop (L1 := [some ((2, 40)), none, none, none]) rfl ?_
    have h25 := hI16.f tf40_5
    exact lp122_20   hd S5 hI16 hF19 hR20 e21 1 ⟨by omega, by omega⟩ (by omega) 
  · refine r_load (i := 11) (u := 2) (w := 0) rfl rfl rfl ?_
    refine r_const (i := 12) (u := 1) (z := 1) rfl rfl ?_
    refine c_eq (i := 13) (v := 17) rfl ⟨by omega, by omega⟩ ⟨by omega, by omega⟩ (fun h26 => ?_) (fun h27 => ?_)
    · refine r_const (i := 17) (u := 1) (z := 1) rfl rfl ?_
      refine r_goto (i := 18) (v := 20) rfl ?_
      refine yT_drop (L1 := [some ((2, 40)), none, none, none]) rfl ?_
      have h28 := hI16.f tf40_5
      exact lp122_20   hd S5 hI16 hF19 hR20 e21 1 ⟨by omega, by omega⟩ (by omega) 
    · refine r_load (i := 14) (u := 2) (w := 0) rfl rfl rfl ?_
      refine r_const (i := 15) (u := 4) (z := 4) rfl rfl ?_
      refine c_ne (i := 16) (v := 19) rfl ⟨by omega, by omega⟩ ⟨by omega, by omega⟩ (fun h29 => ?_) (fun h30 => ?_)
      · refine r_const (i := 19) (u := 0) (z := 0) rfl rfl ?_
        refine yT_drop (L1 := [some ((2, 40)), none, none, none]) rfl ?_
        have h31 := hI16.f tf40_5
        exact lp122_20   hd S5 hI16 hF19 hR20 e21 0 ⟨by omega, by omega⟩ (by omega) 
      · refine r_const (i := 17) (u := 1) (z := 1) rfl rfl ?_
        refine r_goto (i := 18) (v := 20) rfl ?_
        refine yT_drop (L1 := [some ((2, 40)), none, none, none]) rfl ?_
        have h32 := hI16.f tf40_5
        exact lp122_20   hd S5 hI16 hF19 hR20 e21 1 ⟨by omega, by omega⟩ (by omega) 
theorem lp112_23 {G : xk} {d : Nat} {S0 : yS}  (hd : 9 ≤ d + 1) : ∀ (n : Nat), ∀ (S : yS) (hI : yI S) (hF : yFr [(40, 2), (40, 3), (40, 4), (40, 5)] [104, 105] S0 S) (hR : yRm [4] S0 S) (e_RD : RD S) (hm0 k : Int) (h_hm0 : 0 ≤ hm0 ∧ hm0 ≤ 65535) (h_k : 0 ≤ k ∧ k ≤ 65535) (hn : 65536 - k < (n : Nat)), yT xPr G LY xC112 23 [some ((2, 40)), some (vi hm0), some (vi k)] [] S (d + 1) (fun r S' => ∃ z : Int, r = (1, vi z) ∧ -2147483648 ≤ z ∧ z ≤ 2147483647 ∧ yI S' ∧ yFr [(40, 2), (40, 3), (40, 4), (40, 5)] [104, 105] S0 S' ∧ yRm [4] S0 S') := by
  intro n
  induction n with
  | zero => intro S hI hF hR e_RD hm0 k h_hm0 h_k hn; exact absurd hn (by omega)
  | succ n ih =>
    intro S hI hF hR e_RD hm0 k h_hm0 h_k hn
    refine r_load (i := 23) (u := 2) (w := 0) rfl rfl rfl ?_
    refine r_load (i := 24) (u := 1) (w := 0) rfl rfl rfl ?_
    refine c_ge (i := 25) (v := 34) rfl ⟨by omega, by omega⟩ ⟨by omega, by omega⟩ (fun h1 => ?_) (fun h2 => ?_)
    · refine r_load (i := 34) (u := 0) (w := 2) rfl rfl rfl ?_
      refine r_const (i := 35) (u := 2) (z := 2) rfl rfl ?_
      refine r_const (i := 36) (u := 0) (z := 0) rfl rfl ?_
      have h3 := hI.f tf40_5
      have h4 := hI.f tf40_3
      refine r_call (i := 37) (u := 10) (v := 108) (w := 0) (b := 0) (na := 771) (C2 := xC108) (as := [(2, 40), vi 2, vi 0]) (s := []) rfl rfl rfl rfl rfl rfl rfl (sp108 (w0 := 2) (v := 0) hI ⟨by omega, by omega⟩ ⟨by omega, by omega⟩   (by omega)) (fun r5 S6 hq7 => ?_)
      obtain ⟨rfl, h8, h9, hI10, hF11, hR12⟩ := hq7
      have hF13 := hF.trans hF11 rfl rfl
      have hR14 := hR.trans hR12 rfl
      have e15 := RDx.up e_RD hF11 hR12 rfl rfl rfl (by omega)
      refine Or.inl ⟨rfl, ?_⟩
      refine r_load (i := 38) (u := 0) (w := 2) rfl rfl rfl ?_
      have h16 := hI10.f tf40_5
      refine r_getf (i := 39) (v := 5) (w := 10) (x := vi (S6.f 40 5)) rfl ly40 rfl rfl fun h17 => ?_
      have h17 : Rg (S6.f 40 5) := h17
      refine r_const (i := 40) (u := 4294967295) (z := -1) rfl rfl ?_
      refine c_ne (i := 41) (v := 52) rfl ⟨by omega, by omega⟩ ⟨by omega, by omega⟩ (fun h18 => ?_) (fun h19 => ?_)
      · refine r_load (i := 52) (u := 0) (w := 2) rfl rfl rfl ?_
        refine r_getf (i := 53) (v := 5) (w := 10) (x := vi (S6.f 40 5)) rfl ly40 rfl rfl fun h20 => ?_
        have h20 : Rg (S6.f 40 5) := h20
        exact r_retI (i := 54) rfl ⟨S6.f 40 5, rfl, by omega, by omega, hI10, hF13, hR14⟩
      · refine r_load (i := 42) (u := 0) (w := 2) rfl rfl rfl ?_
        have h21 := hI10.f tf40_3
        refine r_getf (i := 43) (v := 3) (w := 10) (x := vi (S6.f 40 3)) rfl ly40 rfl rfl fun h22 => ?_
        have h22 : Rg (S6.f 40 3) := h22
        refine r_load (i := 44) (u := 0) (w := 2) rfl rfl rfl ?_
        refine r_getf (i := 45) (v := 0) (w := 10) (x := (2, 31)) rfl ly40 rfl rfl fun _ => ?_
        have h24 := hI10.b0
        have h25 : S6.f 31 1 = S.f 31 1 := hF11.f rfl
        have h26 : S.f 31 1 = S0.f 31 1 := hF.f rfl
        refine r_getf (i := 46) (v := 1) (w := 7) (x := vi (S6.f 31 1)) rfl ly31 rfl rfl fun h27 => ?_
        have h27 : Rg (S6.f 31 1) := h27
        refine c_ge (i := 47) (v := 52) rfl ⟨by omega, by omega⟩ ⟨by omega, by omega⟩ (fun h28 => ?_) (fun h29 => ?_)
        · refine r_load (i := 52) (u := 0) (w := 2) rfl rfl rfl ?_
          refine r_getf (i := 53) (v := 5) (w := 10) (x := vi (S6.f 40 5)) rfl ly40 rfl rfl fun h30 => ?_
          have h30 : Rg (S6.f 40 5) := h30
          exact r_retI (i := 54) rfl ⟨S6.f 40 5, rfl, by omega, by omega, hI10, hF13, hR14⟩
        · refine r_load (i := 48) (u := 0) (w := 2) rfl rfl rfl ?_
          refine r_load (i := 49) (u := 0) (w := 2) rfl rfl rfl ?_
          refine r_getf (i := 50) (v := 3) (w := 10) (x := vi (S6.f 40 3)) rfl ly40 rfl rfl fun h31 => ?_
          have h31 : Rg (S6.f 40 3) := h31
          refine r_putI (i := 51) (v := 5) (w := 10) rfl ly40 rfl ⟨by omega, by omega⟩ ?_
          have hI33 := hI10.setf (b := 40) (w := 5) (z := S6.f 40 3) tf40_5 rfl (by omega) (by omega)
          have hF35 := hF13.setf (b := 40) (w := 5) (z := S6.f 40 3) rfl
          have hR36 := hR14.setf (b := 40) (w := 5) (z := S6.f 40 3)
          have e37 := RDx.flt e15 (z := S6.f 40 3) (by omega)
          refine yT_gen (fun S32 hS34 => ?_)
          rw [hS34] at hI33 hF35 hR36 e37
          refine r_load (i := 52) (u := 0) (w := 2) rfl rfl rfl ?_
          have h38 := hI33.f tf40_5
          have h39 : S32.f 40 5 = S6.f 40 3 := by rw [← hS34]; exact ysf_eq
          refine r_getf (i := 53) (v := 5) (w := 10) (x := vi (S32.f 40 5)) rfl ly40 rfl rfl fun h40 => ?_
          have h40 : Rg (S32.f 40 5) := h40
          exact r_retI (i := 54) rfl ⟨S32.f 40 5, rfl, by omega, by omega, hI33, hF35, hR36⟩
    · refine r_load (i := 26) (u := 0) (w := 2) rfl rfl rfl ?_
      have h41 := hI.f tf40_5
      refine r_getf (i := 27) (v := 5) (w := 10) (x := vi (S.f 40 5)) rfl ly40 rfl rfl fun h42 => ?_
      have h42 : Rg (S.f 40 5) := h42
      refine r_const (i := 28) (u := 4294967295) (z := -1) rfl rfl ?_
      refine c_ne (i := 29) (v := 34) rfl ⟨by omega, by omega⟩ ⟨by omega, by omega⟩ (fun h43 => ?_) (fun h44 => ?_)
      · refine r_load (i := 34) (u := 0) (w := 2) rfl rfl rfl ?_
        refine r_const (i := 35) (u := 2) (z := 2) rfl rfl ?_
        refine r_const (i := 36) (u := 0) (z := 0) rfl rfl ?_
        have h45 := hI.f tf40_3
        refine r_call (i := 37) (u := 10) (v := 108) (w := 0) (b := 0) (na := 771) (C2 := xC108) (as := [(2, 40), vi 2, vi 0]) (s := []) rfl rfl rfl rfl rfl rfl rfl (sp108 (w0 := 2) (v := 0) hI ⟨by omega, by omega⟩ ⟨by omega, by omega⟩   (by omega)) (fun r46 S47 hq48 => ?_)
        obtain ⟨rfl, h49, h50, hI51, hF52, hR53⟩ := hq48
        have hF54 := hF.trans hF52 rfl rfl
        have hR55 := hR.trans hR53 rfl
        have e56 := RDx.up e_RD hF52 hR53 rfl rfl rfl (by omega)
        refine Or.inl ⟨rfl, ?_⟩
        refine r_load (i := 38) (u := 0) (w := 2) rfl rfl rfl ?_
        have h57 := hI51.f tf40_5
        refine r_getf (i := 39) (v := 5) (w := 10) (x := vi (S47.f 40 5)) rfl ly40 rfl rfl fun h58 => ?_
        have h58 : Rg (S47.f 40 5) := h58
        refine r_const (i := 40) (u := 4294967295) (z := -1) rfl rfl ?_
        refine c_ne (i := 41) (v := 52) rfl ⟨by omega, by omega⟩ ⟨by omega, by omega⟩ (fun h59 => ?_) (fun h60 => ?_)
        · refine r_load (i := 52) (u := 0) (w := 2) rfl rfl rfl ?_
          refine r_getf (i := 53) (v := 5) (w := 10) (x := vi (S47.f 40 5)) rfl ly40 rfl rfl fun h61 => ?_
          have h61 : Rg (S47.f 40 5) := h61
          exact r_retI (i := 54) rfl ⟨S47.f 40 5, rfl, by omega, by omega, hI51, hF54, hR55⟩
        · refine r_load (i := 42) (u := 0) (w := 2) rfl rfl rfl ?_
          have h62 := hI51.f tf40_3
          refine r_getf (i := 43) (v := 3) (w := 10) (x := vi (S47.f 40 3)) rfl ly40 rfl rfl fun h63 => ?_
          have h63 : Rg (S47.f 40 3) := h63
          refine r_load (i := 44) (u := 0) (w := 2) rfl rfl rfl ?_
          refine r_getf (i := 45) (v := 0) (w := 10) (x := (2, 31)) rfl ly40 rfl rfl fun _ => ?_
          have h65 := hI51.b0
          have h66 : S47.f 31 1 = S.f 31 1 := hF52.f rfl
          have h67 : S.f 31 1 = S0.f 31 1 := hF.f rfl
          refine r_getf (i := 46) (v := 1) (w := 7) (x := vi (S47.f 31 1)) rfl ly31 rfl rfl fun h68 => ?_
          have h68 : Rg (S47.f 31 1) := h68
          refine c_ge (i := 47) (v := 52) rfl ⟨by omega, by omega⟩ ⟨by omega, by omega⟩ (fun h69 => ?_) (fun h70 => ?_)
          · refine r_load (i := 52) (u := 0) (w := 2) rfl rfl rfl ?_
            refine r_getf (i := 53) (v := 5) (w := 10) (x := vi (S47.f 40 5)) rfl ly40 rfl rfl fun h71 => ?_
            have h71 : Rg (S47.f 40 5) := h71
            exact r_retI (i := 54) rfl ⟨S47.f 40 5, rfl, by omega, by omega, hI51, hF54, hR55⟩
          · refine r_load (i := 48) (u := 0) (w := 2) rfl rfl rfl ?_
            refine r_load (i := 49) (u := 0) (w := 2) rfl rfl rfl ?_
            refine r_getf (i := 50) (v := 3) (w := 10) (x := vi (S47.f 40 3)) rfl ly40 rfl rfl fun h72 => ?_
            have h72 : Rg (S47.f 40 3) := h72
            refine r_putI (i := 51) (v := 5) (w := 10) rfl ly40 rfl ⟨by omega, by omega⟩ ?_
            have hI74 := hI51.setf (b := 40) (w := 5) (z := S47.f 40 3) tf40_5 rfl (by omega) (by omega)
            have hF76 := hF54.setf (b := 40) (w := 5) (z := S47.f 40 3) rfl
            have hR77 := hR55.setf (b := 40) (w := 5) (z := S47.f 40 3)
            have e78 := RDx.flt e56 (z := S47.f 40 3) (by omega)
            refine yT_gen (fun S73 hS75 => ?_)
            rw [hS75] at hI74 hF76 hR77 e78
            refine r_load (i := 52) (u := 0) (w := 2) rfl rfl rfl ?_
            have h79 := hI74.f tf40_5
            have h80 : S73.f 40 5 = S47.f 40 3 := by rw [← hS75]; exact ysf_eq
            refine r_getf (i := 53) (v := 5) (w := 10) (x := vi (S73.f 40 5)) rfl ly40 rfl rfl fun h81 => ?_
            have h81 : Rg (S73.f 40 5) := h81
            exact r_retI (i := 54) rfl ⟨S73.f 40 5, rfl, by omega, by omega, hI74, hF76, hR77⟩
      · refine r_load (i := 30) (u := 0) (w := 2) rfl rfl rfl ?_
        refine r_call (i := 31) (u := 10) (v := 122) (w := 0) (b := 0) (na := 1025) (C2 := xC122) (as := [(2, 40)]) (s := []) rfl rfl rfl rfl rfl rfl rfl (sp122  hI   e_RD (by omega)) (fun r82 S83 hq84 => ?_)
        obtain ⟨rfl, h85, e86, hI87, hF88, hR89⟩ := hq84
        have hF90 := hF.trans hF88 rfl rfl
        have hR91 := hR.trans hR89 rfl
        refine Or.inl ⟨rfl, ?_⟩
        refine r_iinc (i := 32) (u := 1) (v := 2) (s := 1) (L1 := [some ((2, 40)), some (vi hm0), some (vi (k + 1))]) rfl rfl rfl rfl rfl ?_
        refine r_goto (i := 33) (v := 23) rfl ?_
        exact ih S83 hI87 hF90 hR91 e86 hm0 (k + 1) ⟨by omega, by omega⟩ ⟨by omega, by omega⟩  (by omega)
/-- ProxyForge$Reader.firstFault -/
theorem sp112 {G : xk} {S : yS} {d : Nat} (hI : yI S)  (hd : 9 ≤ d) : yT xPr G LY xC112 0 [some ((2, 40))] [] S d (fun r S' => ∃ z : Int, r = (1, vi z) ∧ -2147483648 ≤ z ∧ z ≤ 2147483647 ∧ yI S' ∧ yFr [(40, 2), (40, 3), (40, 4), (40, 5)] [104, 105] S S' ∧ yRm [4] S S') := by
  refine yT_pad 2 ?_
  show yT xPr G LY xC112 0 [some ((2, 40)), none, none] [] S d _
  obtain ⟨d, rfl⟩ : ∃ q, d = q + 1 := ⟨d - 1, by omega⟩
  have hF : yFr [(40, 2), (40, 3), (40, 4), (40, 5)] [104, 105] S S := yFr.refl S
  have hR : yRm [4] S S := yRm.refl S
  refine r_load (i := 0) (u := 0) (w := 2) rfl rfl rfl ?_
  refine r_const (i := 1) (u := 0) (z := 0) rfl rfl ?_
  refine r_putI (i := 2) (v := 3) (w := 10) rfl ly40 rfl ⟨by omega, by omega⟩ ?_
  have hI2 := hI.setf (b := 40) (w := 3) (z := 0) tf40_3 rfl (by omega) (by omega)
  have hF4 := hF.setf (b := 40) (w := 3) (z := 0) rfl
  have hR5 := hR.setf (b := 40) (w := 3) (z := 0)
  refine yT_gen (fun S1 hS3 => ?_)
  rw [hS3] at hI2 hF4 hR5 
  refine r_load (i := 3) (u := 0) (w := 2) rfl rfl rfl ?_
  refine r_const (i := 4) (u := 0) (z := 0) rfl rfl ?_
  refine r_putI (i := 5) (v := 2) (w := 10) rfl ly40 rfl ⟨by omega, by omega⟩ ?_
  have hI7 := hI2.setf (b := 40) (w := 2) (z := 0) tf40_2 rfl (by omega) (by omega)
  have hF9 := hF4.setf (b := 40) (w := 2) (z := 0) rfl
  have hR10 := hR5.setf (b := 40) (w := 2) (z := 0)
  refine yT_gen (fun S6 hS8 => ?_)
  rw [hS8] at hI7 hF9 hR10 
  refine r_load (i := 6) (u := 0) (w := 2) rfl rfl rfl ?_
  refine r_const (i := 7) (u := 4294967295) (z := -1) rfl rfl ?_
  refine r_putI (i := 8) (v := 5) (w := 10) rfl ly40 rfl ⟨by omega, by omega⟩ ?_
  have hI12 := hI7.setf (b := 40) (w := 5) (z := -1) tf40_5 rfl (by omega) (by omega)
  have hF14 := hF9.setf (b := 40) (w := 5) (z := -1) rfl
  have hR15 := hR10.setf (b := 40) (w := 5) (z := -1)
  refine yT_gen (fun S11 hS13 => ?_)
  rw [hS13] at hI12 hF14 hR15 
  have bn9 := (hI12).bn
  have rd0 := (show RD S11 from RD_0 (by subst_vars; rfl) (by omega))
  refine r_load (i := 9) (u := 0) (w := 2) rfl rfl rfl ?_
  have h16 := hI12.f tf40_5
  have h17 : S11.f 40 5 = -1 := by rw [← hS13]; exact ysf_eq
  refine r_call (i := 10) (u := 10) (v := 121) (w := 0) (b := 0) (na := 257) (C2 := xC121) (as := [(2, 40)]) (s := []) rfl rfl rfl rfl rfl rfl rfl (sp121  hI12    (by omega)) (fun r18 S19 hq20 => ?_)
  obtain ⟨rfl, h21, hI22, hF23, hR24⟩ := hq20
  have hF25 := hF14.trans hF23 rfl rfl
  have hR26 := hR15.trans hR24 rfl
  have e27 := RDx.up rd0 hF23 hR24 rfl rfl rfl (by omega)
  refine Or.inl ⟨rfl, ?_⟩
  refine r_load (i := 11) (u := 0) (w := 2) rfl rfl rfl ?_
  have h28 := hI22.f tf40_5
  have h29 := hI22.f tf40_2
  have h30 : S19.f 40 2 = S11.f 40 2 := hF23.f rfl
  have h31 : S11.f 40 2 = S6.f 40 2 := by rw [← hS13]; exact ysf_ne (by decide)
  have h32 : S6.f 40 2 = 0 := by rw [← hS8]; exact ysf_eq
  have h33 := hI22.f tf40_3
  refine r_call (i := 12) (u := 10) (v := 123) (w := 0) (b := 0) (na := 769) (C2 := xC123) (as := [(2, 40)]) (s := []) rfl rfl rfl rfl rfl rfl rfl (sp123  hI22  (by omega) e27 (by omega)) (fun r34 S35 hq36 => ?_)
  obtain ⟨rfl, h37, e38, hI39, hF40, hR41⟩ := hq36
  have hF42 := hF25.trans hF40 rfl rfl
  have hR43 := hR26.trans hR41 rfl
  refine Or.inl ⟨rfl, ?_⟩
  refine r_load (i := 13) (u := 0) (w := 2) rfl rfl rfl ?_
  have h44 := hI39.f tf40_5
  refine r_call (i := 14) (u := 10) (v := 106) (w := 0) (b := 0) (na := 1025) (C2 := xC106) (as := [(2, 40)]) (s := []) rfl rfl rfl rfl rfl rfl rfl (sp106  hI39   e38 (by omega)) (fun r45 S46 hq47 => ?_)
  obtain ⟨rfl, h48, e49, hI50, hF51, hR52⟩ := hq47
  have hF53 := hF42.trans hF51 rfl rfl
  have hR54 := hR43.trans hR52 rfl
  refine Or.inl ⟨rfl, ?_⟩
  refine r_load (i := 15) (u := 0) (w := 2) rfl rfl rfl ?_
  have h55 := hI50.f tf40_5
  refine r_call (i := 16) (u := 10) (v := 116) (w := 0) (b := 0) (na := 257) (C2 := xC116) (as := [(2, 40)]) (s := []) rfl rfl rfl rfl rfl rfl rfl (sp116  hI50   e49 (by omega)) (fun r56 S57 hq58 => ?_)
  obtain ⟨rfl, h59, e60, hI61, hF62, hR63⟩ := hq58
  have hF64 := hF53.trans hF62 rfl rfl
  have hR65 := hR54.trans hR63 rfl
  refine Or.inl ⟨rfl, ?_⟩
  refine r_load (i := 17) (u := 0) (w := 2) rfl rfl rfl ?_
  refine r_const (i := 18) (u := 2) (z := 2) rfl rfl ?_
  have h66 := hI61.f tf40_3
  have h67 := hI61.b0
  have h68 : S57.f 31 1 = S46.f 31 1 := hF62.f rfl
  have h69 : S46.f 31 1 = S35.f 31 1 := hF51.f rfl
  have h70 : S35.f 31 1 = S19.f 31 1 := hF40.f rfl
  have h71 : S19.f 31 1 = S11.f 31 1 := hF23.f rfl
  have h72 : S11.f 31 1 = S6.f 31 1 := by rw [← hS13]; exact ysf_ne (by decide)
  have h73 : S6.f 31 1 = S1.f 31 1 := by rw [← hS8]; exact ysf_ne (by decide)
  have h74 : S1.f 31 1 = S.f 31 1 := by rw [← hS3]; exact ysf_ne (by decide)
  have h75 := hI61.f tf40_5
  refine r_call (i := 19) (u := 10) (v := 115) (w := 0) (b := 0) (na := 1026) (C2 := xC115) (as := [(2, 40), vi 2]) (s := []) rfl rfl rfl rfl rfl rfl rfl (sp115 (w0 := 2) hI61 ⟨by omega, by omega⟩   (by omega)) (fun r76 S77 hq78 => ?_)
  obtain ⟨z79, rfl, h80, h81, h82, h83, h84, h85, h86, h87, hI88, hF89, hR90⟩ := hq78
  have hF91 := hF64.trans hF89 rfl rfl
  have hR92 := hR65.trans hR90 rfl
  have e93 := RDx.up e60 hF89 hR90 rfl rfl rfl (by omega)
  refine Or.inr (Or.inl ⟨rfl, ?_⟩)
  refine r_store (i := 20) (u := 1) (w := 0) (L1 := [some ((2, 40)), some (vi z79), none]) rfl rfl rfl rfl ?_
  refine r_const (i := 21) (u := 0) (z := 0) rfl rfl ?_
  refine r_store (i := 22) (u := 2) (w := 0) (L1 := [some ((2, 40)), some (vi z79), some (vi 0)]) rfl rfl rfl rfl ?_
  exact lp112_23   hd _ S77 hI88 hF91 hR92 e93 z79 0 ⟨by omega, by omega⟩ ⟨by omega, by omega⟩  (Int.lt_succ_toNat _)
/-- ProxyForge.read -/
theorem sp15 {G : xk} {S : yS} {d : Nat} (hI : yI S)  (hd : 10 ≤ d) : yT xPr G LY xC15 0 [some ((2, 0))] [] S d (fun r S' => ∃ z : Int, r = (1, vi z) ∧ -2147483648 ≤ z ∧ z ≤ 2147483647 ∧ yI S' ∧ yFr [(40, 2), (40, 3), (40, 4), (40, 5)] [104, 105] S S' ∧ yRm [4] S S') := by
  refine yT_pad 0 ?_
  show yT xPr G LY xC15 0 [some ((2, 0))] [] S d _
  obtain ⟨d, rfl⟩ : ∃ q, d = q + 1 := ⟨d - 1, by omega⟩
  have hF : yFr [(40, 2), (40, 3), (40, 4), (40, 5)] [104, 105] S S := yFr.refl S
  have hR : yRm [4] S S := yRm.refl S
  refine r_load (i := 0) (u := 0) (w := 2) rfl rfl rfl ?_
  refine r_getf (i := 1) (v := 8) (w := 0) (x := (2, 40)) rfl ly0 rfl rfl fun _ => ?_
  refine r_call (i := 2) (u := 10) (v := 112) (w := 0) (b := 0) (na := 769) (C2 := xC112) (as := [(2, 40)]) (s := []) rfl rfl rfl rfl rfl rfl rfl (sp112  hI    (by omega)) (fun r2 S3 hq4 => ?_)
  obtain ⟨z5, rfl, h6, h7, hI8, hF9, hR10⟩ := hq4
  have hF11 := hF.trans hF9 rfl rfl
  have hR12 := hR.trans hR10 rfl
  refine Or.inr (Or.inl ⟨rfl, ?_⟩)
  exact r_retI (i := 3) rfl ⟨z5, rfl, by omega, by omega, hI8, hF11, hR12⟩
end XNC
