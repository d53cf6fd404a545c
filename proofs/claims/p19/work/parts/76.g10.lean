set_option linter.unusedVariables false
set_option maxRecDepth 4000
noncomputable section XNC
set_option maxHeartbeats 4000000 in
theorem lp166_143 {G : xk} {d : Nat} {S0 : yS} {k : Int} (h_k : 0 ≤ k ∧ k ≤ 23) (p_0 : S0.f 31 1 + 1144 ≤ 60000) (p_1 : S0.f 34 1 + 179 ≤ 60000) (hd : 9 ≤ d + 1) : ∀ (S : yS) (hI : yI S) (hF : yFr [(31, 1), (33, 10), (33, 11), (33, 12), (33, 13), (33, 14), (33, 15), (34, 1), (36, 5)] [37, 100, 101, 102, 103, 105] S0 S) (hR : yRm [0, 1, 2, 3] S0 S) (e_PL : PL S) (e_FA : FA S) (m th bh g0 : Int) (h_m : 0 ≤ m ∧ m ≤ 59) (h_th : 0 ≤ th ∧ th ≤ 3) (h_bh : 1 ≤ bh ∧ bh ≤ 9) (h_g0 : 0 ≤ g0 ∧ g0 ≤ 1) (q_0 : 6 ≤ S.f 33 12 ∧ S.f 33 12 + 8 ≤ S.f 34 1 ∧ S.f 33 13 = S.f 33 12 + 8) (q_1 : S0.f 31 1 ≤ S.f 31 1 ∧ S.f 31 1 ≤ S0.f 31 1 + 1035) (q_2 : S0.f 34 1 ≤ S.f 34 1 ∧ S.f 34 1 ≤ S0.f 34 1 + 165) (q_3 : m = S0.a 23 k.toNat) (q_4 : th = S0.a 25 k.toNat) (q_5 : bh = 1 + wdA (S0.a 13 m.toNat) 4) (q_6 : g0 = cif (gdP (dK S0) k) 1 0) (q_7 : wPJ S0 S (ov3 (pkR 4 S0) (thR S0 m) k (acX (S0.a 12 m.toNat)) (S0.a 11 m.toNat) (S0.a 13 m.toNat) (S0.a 14 m.toNat) (S0.a 24 k.toNat) th g0 (S0.a 10 m.toNat) (S0.a 2 (S0.a 10 m.toNat).toNat) (suT (dK S0) (S0.a 10 m.toNat)) (suG (dK S0) (S0.a 10 m.toNat))) (ovA (pkR 4 S0) (acX (S0.a 12 m.toNat)) (S0.a 11 m.toNat) (S0.a 13 m.toNat) (S0.a 14 m.toNat) th) (fun _ => 0) 0), yT xPr G LY xC166 143 [some ((2, 33)), some (vi k), some (vi m), some (vi th), some (vi bh), some (vi g0), none] [] S (d + 1) (fun r S' => r = (0, (0, 0)) ∧ (S0.f 31 1 ≤ S'.f 31 1 ∧ S'.f 31 1 ≤ S0.f 31 1 + 1144) ∧ (S0.f 34 1 ≤ S'.f 34 1 ∧ S'.f 34 1 ≤ S0.f 34 1 + 179) ∧ wP S0 S' (ovC (dK S0) k) ∧ PL S' ∧ FA S' ∧ yI S' ∧ yFr [(31, 1), (33, 10), (33, 11), (33, 12), (33, 13), (33, 14), (33, 15), (34, 1), (36, 5)] [37, 100, 101, 102, 103, 105] S0 S' ∧ yRm [0, 1, 2, 3] S0 S') := by
  intro S hI hF hR e_PL e_FA m th bh g0 h_m h_th h_bh h_g0 q_0 q_1 q_2 q_3 q_4 q_5 q_6 q_7
  have h1 := hI.b1
  have h2 := hI.b0
  refine r_load (i := 143) (u := 0) (w := 2) rfl rfl rfl ?_
  refine r_call (i := 144) (u := 8) (v := 152) (w := 0) (b := 0) (na := 257) (C2 := xC152) (as := [(2, 33)]) (s := []) rfl rfl rfl rfl rfl rfl rfl (sp152  hI  (by omega) (by omega)  (by omega)) (fun r3 S4 hq5 => ?_)
  obtain ⟨rfl, h6, wec7, hI8, hF9, hR10⟩ := hq5
  have hF11 := hF.trans hF9 rfl rfl
  have hR12 := hR.trans hR10 rfl
  have e13 := PLx.fr e_PL hF9 hR10 rfl rfl rfl
  have e14 := FAx.fr e_FA hF9 rfl rfl
  have e15 := PTx.fr e_PL hF9 hR10 rfl rfl rfl
  refine Or.inl ⟨rfl, ?_⟩
  refine r_load (i := 145) (u := 3) (w := 0) rfl rfl rfl ?_
  refine z_le (i := 146) (v := 151) rfl ⟨by omega, by omega⟩ (fun h16 => ?_) (fun h17 => ?_)
  · have h18 := hI8.b0
    have h19 : S4.f 31 1 = S.f 31 1 := hF9.f rfl
    have h20 := hI8.b1
    have h21 : S4.f 34 1 = S.f 34 1 := hF9.f rfl
    exact r_ret0 (i := 151) rfl ⟨rfl, (by omega), (by omega), (by intro w9 hw0 hp9; obtain ⟨h91, h92, h93⟩ := q_7 _ hw0 hp9; have h94 := wec7 _ h91; have h96 := cW_c h94 (wov_n (by omega) h92); subst q_6; subst q_4; subst q_3; exact h96), e13, e14, hI8, hF11, hR12⟩
  · refine r_load (i := 147) (u := 0) (w := 2) rfl rfl rfl ?_
    refine r_load (i := 148) (u := 2) (w := 0) rfl rfl rfl ?_
    refine r_load (i := 149) (u := 3) (w := 0) rfl rfl rfl ?_
    have h22 := hI8.b0
    have h23 : S4.f 31 1 = S.f 31 1 := hF9.f rfl
    have h24 := hI8.b1
    have h25 : S4.f 34 1 = S.f 34 1 := hF9.f rfl
    refine r_call (i := 150) (u := 8) (v := 154) (w := 0) (b := 0) (na := 1027) (C2 := xC154) (as := [(2, 33), vi m, vi th]) (s := []) rfl rfl rfl rfl rfl rfl rfl (sp154 (m := m) (h0 := th) hI8 ⟨by omega, by omega⟩ ⟨by omega, by omega⟩ (by omega) (by omega) e13 (by omega)) (fun r26 S27 hq28 => ?_)
    obtain ⟨rfl, h29, h30, wq31, e32, hI33, hF34, hR35⟩ := hq28
    have hF36 := hF11.trans hF34 rfl rfl
    have hR37 := hR12.trans hR35 rfl
    have e38 := FAx.fr e14 hF34 rfl rfl
    refine Or.inl ⟨rfl, ?_⟩
    have h39 := hI33.b0
    have h40 := hI33.b1
    exact r_ret0 (i := 151) rfl ⟨rfl, (by omega), (by omega), (by intro w9 hw0 hp9; obtain ⟨h91, h92, h93⟩ := q_7 _ hw0 hp9; have h94 := wec7 _ h91; have h95 := wq31 _ h94; have h96 := cW_c h95 (wov_y (by omega) h92 ((pkR_fr (b := 4) hF9 rfl).trans (pkR_fr (b := 4) hF rfl)) ((thR_fr hF9 rfl).trans (thR_fr hF rfl))); subst q_6; subst q_4; subst q_3; exact h96), e32, e38, hI33, hF36, hR37⟩
set_option maxHeartbeats 4000000 in
theorem lp166_128 {G : xk} {d : Nat} {S0 : yS} {k : Int} (h_k : 0 ≤ k ∧ k ≤ 23) (p_0 : S0.f 31 1 + 1144 ≤ 60000) (p_1 : S0.f 34 1 + 179 ≤ 60000) (hd : 9 ≤ d + 1) : ∀ (S : yS) (hI : yI S) (hF : yFr [(31, 1), (33, 10), (33, 11), (33, 12), (33, 13), (33, 14), (33, 15), (34, 1), (36, 5)] [37, 100, 101, 102, 103, 105] S0 S) (hR : yRm [0, 1, 2, 3] S0 S) (e_PL : PL S) (e_FA : FA S) (m th bh g0 hd0 : Int) (h_m : 0 ≤ m ∧ m ≤ 59) (h_th : 0 ≤ th ∧ th ≤ 3) (h_bh : 1 ≤ bh ∧ bh ≤ 9) (h_g0 : 0 ≤ g0 ∧ g0 ≤ 1) (h_hd0 : 0 ≤ hd0 ∧ hd0 ≤ 60000) (q_0 : 6 ≤ S.f 33 12 ∧ S.f 33 12 + 8 ≤ S.f 34 1 ∧ S.f 33 13 = S.f 33 12 + 8) (q_1 : S0.f 31 1 ≤ S.f 31 1 ∧ S.f 31 1 ≤ S0.f 31 1 + 795) (q_2 : S0.f 34 1 ≤ S.f 34 1 ∧ S.f 34 1 ≤ S0.f 34 1 + 95) (q_3 : m = S0.a 23 k.toNat) (q_4 : th = S0.a 25 k.toNat) (q_5 : bh = 1 + wdA (S0.a 13 m.toNat) 4) (q_6 : g0 = cif (gdP (dK S0) k) 1 0) (q_7 : wPJ S0 S (ovR (pkR 4 S0) k (acX (S0.a 12 m.toNat)) (S0.a 11 m.toNat) (S0.a 13 m.toNat) (S0.a 14 m.toNat) (S0.a 24 k.toNat) th g0 (S0.a 10 m.toNat) (S0.a 2 (S0.a 10 m.toNat).toNat) (suT (dK S0) (S0.a 10 m.toNat)) (suG (dK S0) (S0.a 10 m.toNat))) (ovA (pkR 4 S0) (acX (S0.a 12 m.toNat)) (S0.a 11 m.toNat) (S0.a 13 m.toNat) (S0.a 14 m.toNat) th) (ovh (pkR 4 S0) k (acX (S0.a 12 m.toNat)) (S0.a 11 m.toNat) (S0.a 13 m.toNat) (S0.a 14 m.toNat) (S0.a 24 k.toNat) th g0 (S0.a 10 m.toNat) (S0.a 2 (S0.a 10 m.toNat).toNat) (suT (dK S0) (S0.a 10 m.toNat)) (suG (dK S0) (S0.a 10 m.toNat))) hd0), yT xPr G LY xC166 128 [some ((2, 33)), some (vi k), some (vi m), some (vi th), some (vi bh), some (vi g0), some (vi hd0)] [] S (d + 1) (fun r S' => r = (0, (0, 0)) ∧ (S0.f 31 1 ≤ S'.f 31 1 ∧ S'.f 31 1 ≤ S0.f 31 1 + 1144) ∧ (S0.f 34 1 ≤ S'.f 34 1 ∧ S'.f 34 1 ≤ S0.f 34 1 + 179) ∧ wP S0 S' (ovC (dK S0) k) ∧ PL S' ∧ FA S' ∧ yI S' ∧ yFr [(31, 1), (33, 10), (33, 11), (33, 12), (33, 13), (33, 14), (33, 15), (34, 1), (36, 5)] [37, 100, 101, 102, 103, 105] S0 S' ∧ yRm [0, 1, 2, 3] S0 S') := by
  intro S hI hF hR e_PL e_FA m th bh g0 hd0 h_m h_th h_bh h_g0 h_hd0 q_0 q_1 q_2 q_3 q_4 q_5 q_6 q_7
  have h1 := hI.b1
  have h2 := hI.b0
  refine r_load (i := 128) (u := 0) (w := 2) rfl rfl rfl ?_
  refine r_call (i := 129) (u := 8) (v := 153) (w := 0) (b := 0) (na := 257) (C2 := xC153) (as := [(2, 33)]) (s := []) rfl rfl rfl rfl rfl rfl rfl (sp153  hI  (by omega) (by omega)  (by omega)) (fun r3 S4 hq5 => ?_)
  obtain ⟨rfl, h6, wei7, hI8, hF9, hR10⟩ := hq5
  have hF11 := hF.trans hF9 rfl rfl
  have hR12 := hR.trans hR10 rfl
  have e13 := PLx.fr e_PL hF9 hR10 rfl rfl rfl
  have e14 := FAx.fr e_FA hF9 rfl rfl
  have e15 := PTx.fr e_PL hF9 hR10 rfl rfl rfl
  refine Or.inl ⟨rfl, ?_⟩
  refine r_load (i := 130) (u := 5) (w := 0) rfl rfl rfl ?_
  refine z_eq (i := 131) (v := 141) rfl ⟨by omega, by omega⟩ (fun h16 => ?_) (fun h17 => ?_)
  · refine r_load (i := 141) (u := 0) (w := 2) rfl rfl rfl ?_
    have h18 := hI8.b1
    have h19 : S4.f 34 1 = S.f 34 1 := hF9.f rfl
    refine r_call (i := 142) (u := 8) (v := 162) (w := 0) (b := 0) (na := 257) (C2 := xC162) (as := [(2, 33)]) (s := []) rfl rfl rfl rfl rfl rfl rfl (sp162  hI8  (by omega)  (by omega)) (fun r20 S21 hq22 => ?_)
    obtain ⟨rfl, h23, wq24, hI25, hF26, hR27⟩ := hq22
    have hF28 := hF11.trans hF26 rfl rfl
    have hR29 := hR12.trans hR27 rfl
    have e30 := PLx.fr e13 hF26 hR27 rfl rfl rfl
    have e31 := FAx.fr e14 hF26 rfl rfl
    have e32 := PTx.fr e15 hF26 hR27 rfl rfl rfl
    refine Or.inl ⟨rfl, ?_⟩
    refine yT_drop (L1 := [some ((2, 33)), some (vi k), some (vi m), some (vi th), some (vi bh), some (vi g0), none]) rfl ?_
    have h33 : S21.f 33 12 = S4.f 33 12 := hF26.f rfl
    have h34 : S4.f 33 12 = S.f 33 12 := hF9.f rfl
    have h35 := hI25.b1
    have h36 : S21.f 33 13 = S4.f 33 13 := hF26.f rfl
    have h37 : S4.f 33 13 = S.f 33 13 := hF9.f rfl
    have h38 := hI25.b0
    have h39 : S21.f 31 1 = S4.f 31 1 := hF26.f rfl
    have h40 : S4.f 31 1 = S.f 31 1 := hF9.f rfl
    exact lp166_143 h_k p_0 p_1 hd S21 hI25 hF28 hR29 e30 e31 m th bh g0 ⟨by omega, by omega⟩ ⟨by omega, by omega⟩ ⟨by omega, by omega⟩ ⟨by omega, by omega⟩ (by omega) (by omega) (by omega) (by exact q_3) (by exact q_4) (by exact q_5) (by exact q_6) (by intro w9 hw0 hp9; obtain ⟨h91, h92, h93⟩ := q_7 _ hw0 hp9; have h94 := wei7 _ h91; have h95 := wq24 _ h94; exact ⟨cW_c h95 (ov3_n (by omega) h92), ((hF26.f rfl).trans (hF9.f rfl)).trans h92, rfl⟩) 
  · refine r_load (i := 132) (u := 0) (w := 2) rfl rfl rfl ?_
    refine r_load (i := 133) (u := 2) (w := 0) rfl rfl rfl ?_
    refine r_load (i := 134) (u := 3) (w := 0) rfl rfl rfl ?_
    refine r_load (i := 135) (u := 6) (w := 0) rfl rfl rfl ?_
    have h41 := hI8.b0
    have h42 : S4.f 31 1 = S.f 31 1 := hF9.f rfl
    have h43 := hI8.b1
    have h44 : S4.f 34 1 = S.f 34 1 := hF9.f rfl
    refine r_call (i := 136) (u := 8) (v := 155) (w := 0) (b := 0) (na := 1284) (C2 := xC155) (as := [(2, 33), vi m, vi th, vi hd0]) (s := []) rfl rfl rfl rfl rfl rfl rfl (sp155 (m := m) (h0 := th) (rt := hd0) hI8 ⟨by omega, by omega⟩ ⟨by omega, by omega⟩ ⟨by omega, by omega⟩ (by omega) (by omega) e13 (by omega)) (fun r45 S46 hq47 => ?_)
    obtain ⟨rfl, h48, h49, wq50, e51, hI52, hF53, hR54⟩ := hq47
    have hF55 := hF11.trans hF53 rfl rfl
    have hR56 := hR12.trans hR54 rfl
    have e57 := FAx.fr e14 hF53 rfl rfl
    refine Or.inl ⟨rfl, ?_⟩
    refine r_load (i := 137) (u := 0) (w := 2) rfl rfl rfl ?_
    refine r_load (i := 138) (u := 6) (w := 0) rfl rfl rfl ?_
    have h58 := hI52.b0
    have h59 := hI52.b1
    refine r_call (i := 139) (u := 8) (v := 170) (w := 0) (b := 0) (na := 1026) (C2 := xC170) (as := [(2, 33), vi hd0]) (s := []) rfl rfl rfl rfl rfl rfl rfl (sp170 (h0 := hd0) hI52 ⟨by omega, by omega⟩ (by omega) (by omega) e51 (by omega)) (fun r60 S61 hq62 => ?_)
    obtain ⟨rfl, h63, h64, wq65, e66, hI67, hF68, hR69⟩ := hq62
    have hF70 := hF55.trans hF68 rfl rfl
    have hR71 := hR56.trans hR69 rfl
    have e72 := FAx.fr e57 hF68 rfl rfl
    refine Or.inl ⟨rfl, ?_⟩
    refine r_goto (i := 140) (v := 143) rfl ?_
    refine yT_drop (L1 := [some ((2, 33)), some (vi k), some (vi m), some (vi th), some (vi bh), some (vi g0), none]) rfl ?_
    have h73 : S61.f 33 12 = S46.f 33 12 := hF68.f rfl
    have h74 : S46.f 33 12 = S4.f 33 12 := hF53.f rfl
    have h75 : S4.f 33 12 = S.f 33 12 := hF9.f rfl
    have h76 := hI67.b1
    have h77 : S61.f 33 13 = S46.f 33 13 := hF68.f rfl
    have h78 : S46.f 33 13 = S4.f 33 13 := hF53.f rfl
    have h79 : S4.f 33 13 = S.f 33 13 := hF9.f rfl
    have h80 := hI67.b0
    exact lp166_143 h_k p_0 p_1 hd S61 hI67 hF70 hR71 e66 e72 m th bh g0 ⟨by omega, by omega⟩ ⟨by omega, by omega⟩ ⟨by omega, by omega⟩ ⟨by omega, by omega⟩ (by omega) (by omega) (by omega) (by exact q_3) (by exact q_4) (by exact q_5) (by exact q_6) (by intro w9 hw0 hp9; obtain ⟨h91, h92, h93⟩ := q_7 _ hw0 hp9; have h94 := wei7 _ h91; have h95 := wq50 _ h94; have h96 := wq65 _ h95; exact ⟨cW_c h96 (ov3_y (by omega) h92 ((pkR_fr (b := 4) hF9 rfl).trans (pkR_fr (b := 4) hF rfl)) ((thR_fr hF9 rfl).trans (thR_fr hF rfl)) ((pkR_fr (b := 4) hF53 rfl).trans ((pkR_fr (b := 4) hF9 rfl).trans (pkR_fr (b := 4) hF rfl))) h93), ((hF68.f rfl).trans ((hF53.f rfl).trans (hF9.f rfl))).trans h92, rfl⟩) 
set_option maxHeartbeats 4000000 in
theorem lp166_116 {G : xk} {d : Nat} {S0 : yS} {k : Int} (h_k : 0 ≤ k ∧ k ≤ 23) (p_0 : S0.f 31 1 + 1144 ≤ 60000) (p_1 : S0.f 34 1 + 179 ≤ 60000) (hd : 9 ≤ d + 1) : ∀ (S : yS) (hI : yI S) (hF : yFr [(31, 1), (33, 10), (33, 11), (33, 12), (33, 13), (33, 14), (33, 15), (34, 1), (36, 5)] [37, 100, 101, 102, 103, 105] S0 S) (hR : yRm [0, 1, 2, 3] S0 S) (e_PL : PL S) (e_FA : FA S) (m th bh g0 : Int) (h_m : 0 ≤ m ∧ m ≤ 59) (h_th : 0 ≤ th ∧ th ≤ 3) (h_bh : 1 ≤ bh ∧ bh ≤ 9) (h_g0 : 0 ≤ g0 ∧ g0 ≤ 1) (q_0 : 6 ≤ S.f 33 12 ∧ S.f 33 12 + 8 ≤ S.f 34 1 ∧ S.f 33 13 = S.f 33 12 + 8) (q_1 : S0.f 31 1 ≤ S.f 31 1 ∧ S.f 31 1 ≤ S0.f 31 1 + 645) (q_2 : S0.f 34 1 ≤ S.f 34 1 ∧ S.f 34 1 ≤ S0.f 34 1 + 82) (q_3 : m = S0.a 23 k.toNat) (q_4 : th = S0.a 25 k.toNat) (q_5 : bh = 1 + wdA (S0.a 13 m.toNat) 4) (q_6 : g0 = cif (gdP (dK S0) k) 1 0) (q_7 : wPJ S0 S (ov1 (pkR 4 S0) k (acX (S0.a 12 m.toNat)) (S0.a 11 m.toNat) (S0.a 13 m.toNat) (S0.a 14 m.toNat) (S0.a 24 k.toNat) th g0 (S0.a 10 m.toNat) (S0.a 2 (S0.a 10 m.toNat).toNat) (suT (dK S0) (S0.a 10 m.toNat)) (suG (dK S0) (S0.a 10 m.toNat))) (ovA (pkR 4 S0) (acX (S0.a 12 m.toNat)) (S0.a 11 m.toNat) (S0.a 13 m.toNat) (S0.a 14 m.toNat) th) (fun _ => 0) 0), yT xPr G LY xC166 116 [some ((2, 33)), some (vi k), some (vi m), some (vi th), some (vi bh), some (vi g0), none] [] S (d + 1) (fun r S' => r = (0, (0, 0)) ∧ (S0.f 31 1 ≤ S'.f 31 1 ∧ S'.f 31 1 ≤ S0.f 31 1 + 1144) ∧ (S0.f 34 1 ≤ S'.f 34 1 ∧ S'.f 34 1 ≤ S0.f 34 1 + 179) ∧ wP S0 S' (ovC (dK S0) k) ∧ PL S' ∧ FA S' ∧ yI S' ∧ yFr [(31, 1), (33, 10), (33, 11), (33, 12), (33, 13), (33, 14), (33, 15), (34, 1), (36, 5)] [37, 100, 101, 102, 103, 105] S0 S' ∧ yRm [0, 1, 2, 3] S0 S') := by
  intro S hI hF hR e_PL e_FA m th bh g0 h_m h_th h_bh h_g0 q_0 q_1 q_2 q_3 q_4 q_5 q_6 q_7
  have h1 := hI.b1
  have h2 := hI.b0
  refine r_load (i := 116) (u := 0) (w := 2) rfl rfl rfl ?_
  refine r_getf (i := 117) (v := 5) (w := 8) (x := (2, 34)) rfl ly33 rfl rfl fun _ => ?_
  refine r_getf (i := 118) (v := 1) (w := 7) (x := vi (S.f 34 1)) rfl ly34 rfl rfl fun h4 => ?_
  have h4 : Rg (S.f 34 1) := h4
  refine r_load (i := 119) (u := 0) (w := 2) rfl rfl rfl ?_
  refine r_getf (i := 120) (v := 13) (w := 8) (x := vi (S.f 33 13)) rfl ly33 rfl rfl fun h5 => ?_
  have h5 : Rg (S.f 33 13) := h5
  refine r_isub (i := 121) rfl ?_
  refine r_store (i := 122) (u := 6) (w := 0) (L1 := [some ((2, 33)), some (vi k), some (vi m), some (vi th), some (vi bh), some (vi g0), some (vi ((S.f 34 1) - (S.f 33 13)))]) rfl rfl rfl rfl ?_
  refine r_load (i := 123) (u := 5) (w := 0) rfl rfl rfl ?_
  refine z_eq (i := 124) (v := 128) rfl ⟨by omega, by omega⟩ (fun h6 => ?_) (fun h7 => ?_)
  · exact lp166_128 h_k p_0 p_1 hd S hI hF hR e_PL e_FA m th bh g0 ((S.f 34 1) - (S.f 33 13)) ⟨by omega, by omega⟩ ⟨by omega, by omega⟩ ⟨by omega, by omega⟩ ⟨by omega, by omega⟩ ⟨by omega, by omega⟩ (by omega) (by omega) (by omega) (by exact q_3) (by exact q_4) (by exact q_5) (by exact q_6) (by intro w9 hw0 hp9; obtain ⟨h91, h92, h93⟩ := q_7 _ hw0 hp9; have ln9 := cW_ln h91 (by omega); exact ⟨cW_c h91 (ovR_n (by omega)), h92, by unfold ovh; omega⟩) 
  · refine r_load (i := 125) (u := 0) (w := 2) rfl rfl rfl ?_
    refine r_load (i := 126) (u := 4) (w := 0) rfl rfl rfl ?_
    refine r_call (i := 127) (u := 8) (v := 169) (w := 0) (b := 0) (na := 514) (C2 := xC169) (as := [(2, 33), vi bh]) (s := []) rfl rfl rfl rfl rfl rfl rfl (sp169 (l0 := bh) hI ⟨by omega, by omega⟩ (by omega) (by omega) e_PL (by omega)) (fun r8 S9 hq10 => ?_)
    obtain ⟨rfl, h11, h12, wq13, e14, hI15, hF16, hR17⟩ := hq10
    have hF18 := hF.trans hF16 rfl rfl
    have hR19 := hR.trans hR17 rfl
    have e20 := FAx.fr e_FA hF16 rfl rfl
    refine Or.inl ⟨rfl, ?_⟩
    have h21 : S9.f 33 12 = S.f 33 12 := hF16.f rfl
    have h22 := hI15.b1
    have h23 : S9.f 33 13 = S.f 33 13 := hF16.f rfl
    have h24 := hI15.b0
    exact lp166_128 h_k p_0 p_1 hd S9 hI15 hF18 hR19 e14 e20 m th bh g0 ((S.f 34 1) - (S.f 33 13)) ⟨by omega, by omega⟩ ⟨by omega, by omega⟩ ⟨by omega, by omega⟩ ⟨by omega, by omega⟩ ⟨by omega, by omega⟩ (by omega) (by omega) (by omega) (by exact q_3) (by exact q_4) (by exact q_5) (by exact q_6) (by intro w9 hw0 hp9; obtain ⟨h91, h92, h93⟩ := q_7 _ hw0 hp9; have ln9 := cW_ln h91 (by omega); have h94 := wq13 _ h91; exact ⟨cW_c h94 (ovR_y (by omega) q_5), (hF16.f rfl).trans h92, by unfold ovh; omega⟩) 
set_option maxHeartbeats 4000000 in
theorem lp166_37 {G : xk} {d : Nat} {S0 : yS} {k : Int} (h_k : 0 ≤ k ∧ k ≤ 23) (p_0 : S0.f 31 1 + 1144 ≤ 60000) (p_1 : S0.f 34 1 + 179 ≤ 60000) (hd : 9 ≤ d + 1) : ∀ (S : yS) (hI : yI S) (hF : yFr [(31, 1), (33, 10), (33, 11), (33, 12), (33, 13), (33, 14), (33, 15), (34, 1), (36, 5)] [37, 100, 101, 102, 103, 105] S0 S) (hR : yRm [0, 1, 2, 3] S0 S) (e_PL : PL S) (e_FA : FA S) (m th bh g0 : Int) (h_m : 0 ≤ m ∧ m ≤ 59) (h_th : 0 ≤ th ∧ th ≤ 3) (h_bh : 1 ≤ bh ∧ bh ≤ 9) (h_g0 : 0 ≤ g0 ∧ g0 ≤ 1) (q_0 : S0.f 31 1 ≤ S.f 31 1 ∧ S.f 31 1 ≤ S0.f 31 1 + 0) (q_1 : S0.f 34 1 ≤ S.f 34 1 ∧ S.f 34 1 ≤ S0.f 34 1 + 0) (q_2 : m = S0.a 23 k.toNat) (q_3 : th = S0.a 25 k.toNat) (q_4 : bh = 1 + wdA (S0.a 13 m.toNat) 4) (q_5 : g0 = cif (gdP (dK S0) k) 1 0) (q_6 : wP S0 S (fun w => w)), yT xPr G LY xC166 37 [some ((2, 33)), some (vi k), some (vi m), some (vi th), some (vi bh), none, none] [vi g0] S (d + 1) (fun r S' => r = (0, (0, 0)) ∧ (S0.f 31 1 ≤ S'.f 31 1 ∧ S'.f 31 1 ≤ S0.f 31 1 + 1144) ∧ (S0.f 34 1 ≤ S'.f 34 1 ∧ S'.f 34 1 ≤ S0.f 34 1 + 179) ∧ wP S0 S' (ovC (dK S0) k) ∧ PL S' ∧ FA S' ∧ yI S' ∧ yFr [(31, 1), (33, 10), (33, 11), (33, 12), (33, 13), (33, 14), (33, 15), (34, 1), (36, 5)] [37, 100, 101, 102, 103, 105] S0 S' ∧ yRm [0, 1, 2, 3] S0 S') := by
  intro S hI hF hR e_PL e_FA m th bh g0 h_m h_th h_bh h_g0 q_0 q_1 q_2 q_3 q_4 q_5 q_6
  have h1 := hI.b0
  have h2 := hI.b1
  refine r_store (i := 37) (u := 5) (w := 0) (L1 := [some ((2, 33)), some (vi k), some (vi m), some (vi th), some (vi bh), some (vi g0), none]) rfl rfl rfl rfl ?_
  refine r_load (i := 38) (u := 0) (w := 2) rfl rfl rfl ?_
  refine r_load (i := 39) (u := 2) (w := 0) rfl rfl rfl ?_
  refine r_const (i := 40) (u := 16) (z := 16) rfl rfl ?_
  refine r_str (i := 41) (v := 14) rfl ?_
  have h3 := slv14
  refine r_load (i := 42) (u := 3) (w := 0) rfl rfl rfl ?_
  refine z_le (i := 43) (v := 46) rfl ⟨by omega, by omega⟩ (fun h4 => ?_) (fun h5 => ?_)
  · refine r_const (i := 46) (u := 1) (z := 1) rfl rfl ?_
    have h6 := hI.a ta12 m.toNat
    have h7 : S.a 12 m.toNat = S0.a 12 m.toNat := hF.a rfl _
    have h8 := hI.a ta11 m.toNat
    have h9 : S.a 11 m.toNat = S0.a 11 m.toNat := hF.a rfl _
    have h10 : S.a 13 m.toNat = S0.a 13 m.toNat := hF.a rfl _
    have h11 := hI.a ta14 m.toNat
    have h12 : S.a 14 m.toNat = S0.a 14 m.toNat := hF.a rfl _
    refine r_call (i := 47) (u := 8) (v := 156) (w := 0) (b := 0) (na := 1541) (C2 := xC156) (as := [(2, 33), vi m, vi 16, (6, 14), vi 1]) (s := []) rfl rfl rfl rfl rfl rfl rfl (sp156 (m := m) (mo := 16) (s := 14) (at0 := 1) hI ⟨by omega, by omega⟩ ⟨by omega, by omega⟩ ⟨by decide, by decide⟩ ⟨by omega, by omega⟩ (by omega) (by omega) e_PL (by omega)) (fun r13 S14 hq15 => ?_)
    obtain ⟨rfl, h16, h17, whd18, e19, hI20, hF21, hR22⟩ := hq15
    have hF23 := hF.trans hF21 rfl rfl
    have hR24 := hR.trans hR22 rfl
    have e25 := FAx.fr e_FA hF21 rfl rfl
    refine Or.inl ⟨rfl, ?_⟩
    refine r_load (i := 48) (u := 0) (w := 2) rfl rfl rfl ?_
    refine r_load (i := 49) (u := 5) (w := 0) rfl rfl rfl ?_
    refine z_eq (i := 50) (v := 55) rfl ⟨by omega, by omega⟩ (fun h26 => ?_) (fun h27 => ?_)
    · refine r_load (i := 55) (u := 4) (w := 0) rfl rfl rfl ?_
      have h28 := hI20.b0
      have h29 := hI20.b1
      refine r_call (i := 56) (u := 8) (v := 171) (w := 0) (b := 0) (na := 514) (C2 := xC171) (as := [(2, 33), vi bh]) (s := []) rfl rfl rfl rfl rfl rfl rfl (sp171 (lc := bh) hI20 ⟨by omega, by omega⟩ (by omega) (by omega) e19 (by omega)) (fun r30 S31 hq32 => ?_)
      obtain ⟨rfl, h33, h34, h35, wq36, e37, hI38, hF39, hR40⟩ := hq32
      have hF41 := hF23.trans hF39 rfl rfl
      have hR42 := hR24.trans hR40 rfl
      have e43 := FAx.fr e25 hF39 rfl rfl
      refine Or.inl ⟨rfl, ?_⟩
      refine r_load (i := 57) (u := 0) (w := 2) rfl rfl rfl ?_
      refine r_getf (i := 58) (v := 3) (w := 8) (x := (2, 22)) rfl ly33 rfl rfl fun _ => ?_
      refine r_getf (i := 59) (v := 1) (w := 4) (x := (2, 24)) rfl ly22 rfl rfl fun _ => ?_
      refine r_load (i := 60) (u := 1) (w := 0) rfl rfl rfl ?_
      refine a_int (i := 61) rfl ly24 rfl (by omega) (by omega) fun h46 => ?_
      have h47 := hI38.a ta24 k.toNat
      have h48 : S31.a 24 k.toNat = S14.a 24 k.toNat := hF39.a rfl _
      have h49 : S14.a 24 k.toNat = S.a 24 k.toNat := hF21.a rfl _
      have h50 : S.a 24 k.toNat = S0.a 24 k.toNat := hF.a rfl _
      rcases (show (S31.a 24 k.toNat) = 0 ∨ (S31.a 24 k.toNat) = 1 ∨ (S31.a 24 k.toNat) = 2 ∨ (S31.a 24 k.toNat) = 3 by omega) with h51 | h52 | h53 | h54
      · refine r_swK (i := 62) (u := 0) (v := 102) (k := 0) (t := 63) rfl rfl h51 (by decide) (by decide) rfl ?_
        refine r_load (i := 63) (u := 0) (w := 2) rfl rfl rfl ?_
        refine r_load (i := 64) (u := 1) (w := 0) rfl rfl rfl ?_
        refine r_load (i := 65) (u := 0) (w := 2) rfl rfl rfl ?_
        refine r_getf (i := 66) (v := 1) (w := 8) (x := (2, 9)) rfl ly33 rfl rfl fun _ => ?_
        refine r_getf (i := 67) (v := 4) (w := 2) (x := (2, 13)) rfl ly9 rfl rfl fun _ => ?_
        refine r_load (i := 68) (u := 2) (w := 0) rfl rfl rfl ?_
        refine a_int (i := 69) rfl ly13 rfl (by omega) (by omega) fun h57 => ?_
        have kp58 := hI38.k13 m.toNat
        have h59 : S31.a 13 m.toNat = S14.a 13 m.toNat := hF39.a rfl _
        have h60 : S14.a 13 m.toNat = S.a 13 m.toNat := hF21.a rfl _
        have h61 : S.a 13 m.toNat = S0.a 13 m.toNat := hF.a rfl _
        have h62 := hI38.b0
        have h63 := hI38.b1
        refine r_call (i := 70) (u := 8) (v := 142) (w := 0) (b := 0) (na := 2051) (C2 := xC142) (as := [(2, 33), vi k, vi (S31.a 13 m.toNat)]) (s := []) rfl rfl rfl rfl rfl rfl rfl (sp142 (k := k) (p := S31.a 13 m.toNat) hI38 ⟨by omega, by omega⟩ ⟨by omega, by omega⟩ (by omega) (by omega) e37 (by omega)) (fun r64 S65 hq66 => ?_)
        obtain ⟨rfl, h67, h68, wk69, e70, hI71, hF72, hR73⟩ := hq66
        have hF74 := hF41.trans hF72 rfl rfl
        have hR75 := hR42.trans hR73 rfl
        have e76 := FAx.fr e43 hF72 rfl rfl
        refine Or.inl ⟨rfl, ?_⟩
        refine r_load (i := 71) (u := 0) (w := 2) rfl rfl rfl ?_
        refine r_load (i := 72) (u := 0) (w := 2) rfl rfl rfl ?_
        refine r_getf (i := 73) (v := 1) (w := 8) (x := (2, 9)) rfl ly33 rfl rfl fun _ => ?_
        refine r_getf (i := 74) (v := 5) (w := 2) (x := (2, 14)) rfl ly9 rfl rfl fun _ => ?_
        refine r_load (i := 75) (u := 2) (w := 0) rfl rfl rfl ?_
        refine a_int (i := 76) rfl ly14 rfl (by omega) (by omega) fun h79 => ?_
        have h80 := hI71.a ta14 m.toNat
        have h81 : S65.a 14 m.toNat = S31.a 14 m.toNat := hF72.a rfl _
        have h82 : S31.a 14 m.toNat = S14.a 14 m.toNat := hF39.a rfl _
        have h83 : S14.a 14 m.toNat = S.a 14 m.toNat := hF21.a rfl _
        have h84 : S.a 14 m.toNat = S0.a 14 m.toNat := hF.a rfl _
        have h85 := hI71.b0
        have h86 := hI71.b1
        refine r_call (i := 77) (u := 8) (v := 172) (w := 0) (b := 0) (na := 1026) (C2 := xC172) (as := [(2, 33), vi (S65.a 14 m.toNat)]) (s := []) rfl rfl rfl rfl rfl rfl rfl (sp172 (k := S65.a 14 m.toNat) hI71 ⟨by omega, by omega⟩ (by omega) (by omega) e70 (by omega)) (fun r87 S88 hq89 => ?_)
        obtain ⟨rfl, h90, h91, wq92, e93, hI94, hF95, hR96⟩ := hq89
        have hF97 := hF74.trans hF95 rfl rfl
        have hR98 := hR75.trans hR96 rfl
        have e99 := FAx.fr e76 hF95 rfl rfl
        refine Or.inl ⟨rfl, ?_⟩
        refine r_goto (i := 78) (v := 116) rfl ?_
        have h100 : S88.f 33 12 = S65.f 33 12 := hF95.f rfl
        have h101 : S65.f 33 12 = S31.f 33 12 := hF72.f rfl
        have h102 := hI94.b1
        have h103 : S88.f 33 13 = S65.f 33 13 := hF95.f rfl
        have h104 : S65.f 33 13 = S31.f 33 13 := hF72.f rfl
        have h105 := hI94.b0
        exact lp166_116 h_k p_0 p_1 hd S88 hI94 hF97 hR98 e93 e99 m th bh g0 ⟨by omega, by omega⟩ ⟨by omega, by omega⟩ ⟨by omega, by omega⟩ ⟨by omega, by omega⟩ (by omega) (by omega) (by omega) (by exact q_2) (by exact q_3) (by exact q_4) (by exact q_5) (by intro w9 hw0 hp9; obtain ⟨hwh, hq9⟩ := cW_hd whd18 (q_6 _ hw0 hp9) hp9; have ln9 := cW_ln hwh (by omega); have hw1 := wq36 _ hwh; have hw2 := wk69 _ hw1 (okQ_e (by simp only [g_an, g_ak, g_ub, g_su, g_di, g_ah, g_sc, g_mx, g_ei, g_ec, g_by, g_mv, g_dp, g_op, g_oB, g_oE, g_pt, g_cl, g_m2, g_mb, g_fd, g_gf, g_om, g_20, g_pu, g_l1, g_lv, g_cs, g_bx, g_ld, g_ao, g_a0]) hq9); have hw3 := wq92 _ hw2; exact ⟨cW_c hw3 (ov1_0 (congrArg acX (by omega)) (by omega) (pkR_fr (b := 4) hF rfl) (by omega) (by omega) (by first | exact if_21 (by omega) | exact if_12 (by omega)) (by rw [show wdA (S0.a 13 m.toNat) 4 = bh - 1 by rw [q_4]; omega]; omega) (by omega) ((pkR_fr (b := 4) hF39 rfl).trans ((pkR_fr (b := 4) hF21 rfl).trans (pkR_fr (b := 4) hF rfl))) (by omega) ((pkR_fr (b := 4) hF72 rfl).trans ((pkR_fr (b := 4) hF39 rfl).trans ((pkR_fr (b := 4) hF21 rfl).trans (pkR_fr (b := 4) hF rfl)))) (by omega)), (by unfold ovA; rw [← ovH_eq (by first | exact if_21 (by omega) | exact if_12 (by omega))]; have e9 := ln9; simp only [show S.a 12 m.toNat = S0.a 12 m.toNat by omega, show S.a 11 m.toNat = S0.a 11 m.toNat by omega, show S.a 13 m.toNat = S0.a 13 m.toNat by omega, show S.a 14 m.toNat = S0.a 14 m.toNat by omega, (pkR_fr (b := 4) hF rfl)] at e9; omega), rfl⟩) 
      · refine r_swK (i := 62) (u := 0) (v := 102) (k := 1) (t := 79) rfl rfl h52 (by decide) (by decide) rfl ?_
        refine r_load (i := 79) (u := 0) (w := 2) rfl rfl rfl ?_
        refine r_load (i := 80) (u := 1) (w := 0) rfl rfl rfl ?_
        refine r_str (i := 81) (v := 31) rfl ?_
        have h106 := slv31
        have h107 := hI38.b0
        have h108 := hI38.b1
        refine r_call (i := 82) (u := 8) (v := 141) (w := 0) (b := 0) (na := 771) (C2 := xC141) (as := [(2, 33), vi k, (6, 31)]) (s := []) rfl rfl rfl rfl rfl rfl rfl (sp141 (k := k) (s := 31) hI38 ⟨by omega, by omega⟩ ⟨by decide, by decide⟩ (by omega) (by omega) e37 (by omega)) (fun r109 S110 hq111 => ?_)
        obtain ⟨rfl, h112, h113, wk114, e115, hI116, hF117, hR118⟩ := hq111
        have hF119 := hF41.trans hF117 rfl rfl
        have hR120 := hR42.trans hR118 rfl
        have e121 := FAx.fr e43 hF117 rfl rfl
        refine Or.inl ⟨rfl, ?_⟩
        refine r_load (i := 83) (u := 0) (w := 2) rfl rfl rfl ?_
        refine r_load (i := 84) (u := 0) (w := 2) rfl rfl rfl ?_
        refine r_getf (i := 85) (v := 1) (w := 8) (x := (2, 9)) rfl ly33 rfl rfl fun _ => ?_
        refine r_getf (i := 86) (v := 5) (w := 2) (x := (2, 14)) rfl ly9 rfl rfl fun _ => ?_
        refine r_load (i := 87) (u := 2) (w := 0) rfl rfl rfl ?_
        refine a_int (i := 88) rfl ly14 rfl (by omega) (by omega) fun h124 => ?_
        have h125 := hI116.a ta14 m.toNat
        have h126 : S110.a 14 m.toNat = S31.a 14 m.toNat := hF117.a rfl _
        have h127 : S31.a 14 m.toNat = S14.a 14 m.toNat := hF39.a rfl _
        have h128 : S14.a 14 m.toNat = S.a 14 m.toNat := hF21.a rfl _
        have h129 : S.a 14 m.toNat = S0.a 14 m.toNat := hF.a rfl _
        have h130 := hI116.b0
        have h131 := hI116.b1
        refine r_call (i := 89) (u := 8) (v := 172) (w := 0) (b := 0) (na := 1026) (C2 := xC172) (as := [(2, 33), vi (S110.a 14 m.toNat)]) (s := []) rfl rfl rfl rfl rfl rfl rfl (sp172 (k := S110.a 14 m.toNat) hI116 ⟨by omega, by omega⟩ (by omega) (by omega) e115 (by omega)) (fun r132 S133 hq134 => ?_)
        obtain ⟨rfl, h135, h136, wq137, e138, hI139, hF140, hR141⟩ := hq134
        have hF142 := hF119.trans hF140 rfl rfl
        have hR143 := hR120.trans hR141 rfl
        have e144 := FAx.fr e121 hF140 rfl rfl
        refine Or.inl ⟨rfl, ?_⟩
        refine r_goto (i := 90) (v := 116) rfl ?_
        have h145 : S133.f 33 12 = S110.f 33 12 := hF140.f rfl
        have h146 : S110.f 33 12 = S31.f 33 12 := hF117.f rfl
        have h147 := hI139.b1
        have h148 : S133.f 33 13 = S110.f 33 13 := hF140.f rfl
        have h149 : S110.f 33 13 = S31.f 33 13 := hF117.f rfl
        have h150 := hI139.b0
        exact lp166_116 h_k p_0 p_1 hd S133 hI139 hF142 hR143 e138 e144 m th bh g0 ⟨by omega, by omega⟩ ⟨by omega, by omega⟩ ⟨by omega, by omega⟩ ⟨by omega, by omega⟩ (by omega) (by omega) (by omega) (by exact q_2) (by exact q_3) (by exact q_4) (by exact q_5) (by intro w9 hw0 hp9; obtain ⟨hwh, hq9⟩ := cW_hd whd18 (q_6 _ hw0 hp9) hp9; have ln9 := cW_ln hwh (by omega); have hw1 := wq36 _ hwh; have hw2 := wk114 _ hw1 (okQ_e (by simp only [g_an, g_ak, g_ub, g_su, g_di, g_ah, g_sc, g_mx, g_ei, g_ec, g_by, g_mv, g_dp, g_op, g_oB, g_oE, g_pt, g_cl, g_m2, g_mb, g_fd, g_gf, g_om, g_20, g_pu, g_l1, g_lv, g_cs, g_bx, g_ld, g_ao, g_a0]) hq9); have hw3 := wq137 _ hw2; exact ⟨cW_c hw3 (ov1_1 (congrArg acX (by omega)) (by omega) (pkR_fr (b := 4) hF rfl) (by omega) (by omega) (by first | exact if_21 (by omega) | exact if_12 (by omega)) (by rw [show wdA (S0.a 13 m.toNat) 4 = bh - 1 by rw [q_4]; omega]; omega) (by omega) ((pkR_fr (b := 4) hF117 rfl).trans ((pkR_fr (b := 4) hF39 rfl).trans ((pkR_fr (b := 4) hF21 rfl).trans (pkR_fr (b := 4) hF rfl)))) (by omega)), (by unfold ovA; rw [← ovH_eq (by first | exact if_21 (by omega) | exact if_12 (by omega))]; have e9 := ln9; simp only [show S.a 12 m.toNat = S0.a 12 m.toNat by omega, show S.a 11 m.toNat = S0.a 11 m.toNat by omega, show S.a 13 m.toNat = S0.a 13 m.toNat by omega, show S.a 14 m.toNat = S0.a 14 m.toNat by omega, (pkR_fr (b := 4) hF rfl)] at e9; omega), rfl⟩) 
      · refine r_swK (i := 62) (u := 0) (v := 102) (k := 2) (t := 91) rfl rfl h53 (by decide) (by decide) rfl ?_
        refine r_load (i := 91) (u := 0) (w := 2) rfl rfl rfl ?_
        refine r_load (i := 92) (u := 2) (w := 0) rfl rfl rfl ?_
        have h151 := hI38.b0
        have h152 := hI38.b1
        have h153 : S31.a 13 m.toNat = S14.a 13 m.toNat := hF39.a rfl _
        have h154 : S14.a 13 m.toNat = S.a 13 m.toNat := hF21.a rfl _
        have h155 : S.a 13 m.toNat = S0.a 13 m.toNat := hF.a rfl _
        have h156 := hI38.a ta14 m.toNat
        have h157 : S31.a 14 m.toNat = S14.a 14 m.toNat := hF39.a rfl _
        have h158 : S14.a 14 m.toNat = S.a 14 m.toNat := hF21.a rfl _
        have h159 : S.a 14 m.toNat = S0.a 14 m.toNat := hF.a rfl _
        have h160 := hI38.a ta10 m.toNat
        have h161 : S31.a 10 m.toNat = S14.a 10 m.toNat := hF39.a rfl _
        have h162 : S14.a 10 m.toNat = S.a 10 m.toNat := hF21.a rfl _
        have h163 : S.a 10 m.toNat = S0.a 10 m.toNat := hF.a rfl _
        have h164 := hI38.a ta10 m.toNat
        refine r_call (i := 93) (u := 8) (v := 145) (w := 0) (b := 0) (na := 770) (C2 := xC145) (as := [(2, 33), vi m]) (s := []) rfl rfl rfl rfl rfl rfl rfl (sp145 (m := m) hI38 ⟨by omega, by omega⟩ (by omega) (by omega) e37 e43 (by omega)) (fun r165 S166 hq167 => ?_)
        obtain ⟨rfl, h168, h169, wk170, e171, e172, hI173, hF174, hR175⟩ := hq167
        have hF176 := hF41.trans hF174 rfl rfl
        have hR177 := hR42.trans hR175 rfl
        refine Or.inl ⟨rfl, ?_⟩
        refine r_load (i := 94) (u := 0) (w := 2) rfl rfl rfl ?_
        refine r_load (i := 95) (u := 0) (w := 2) rfl rfl rfl ?_
        refine r_getf (i := 96) (v := 1) (w := 8) (x := (2, 9)) rfl ly33 rfl rfl fun _ => ?_
        refine r_getf (i := 97) (v := 5) (w := 2) (x := (2, 14)) rfl ly9 rfl rfl fun _ => ?_
        refine r_load (i := 98) (u := 2) (w := 0) rfl rfl rfl ?_
        refine a_int (i := 99) rfl ly14 rfl (by omega) (by omega) fun h180 => ?_
        have h181 := hI173.a ta14 m.toNat
        have h182 : S166.a 14 m.toNat = S31.a 14 m.toNat := hF174.a rfl _
        have h183 : S31.a 14 m.toNat = S14.a 14 m.toNat := hF39.a rfl _
        have h184 : S14.a 14 m.toNat = S.a 14 m.toNat := hF21.a rfl _
        have h185 : S.a 14 m.toNat = S0.a 14 m.toNat := hF.a rfl _
        have h186 := hI173.b1
        refine r_call (i := 100) (u := 8) (v := 157) (w := 0) (b := 0) (na := 770) (C2 := xC157) (as := [(2, 33), vi (S166.a 14 m.toNat)]) (s := []) rfl rfl rfl rfl rfl rfl rfl (sp157 (k := S166.a 14 m.toNat) hI173 ⟨by omega, by omega⟩ (by omega)  (by omega)) (fun r187 S188 hq189 => ?_)
        obtain ⟨rfl, h190, wq191, hI192, hF193, hR194⟩ := hq189
        have hF195 := hF176.trans hF193 rfl rfl
        have hR196 := hR177.trans hR194 rfl
        have e197 := PLx.fr e171 hF193 hR194 rfl rfl rfl
        have e198 := FAx.fr e172 hF193 rfl rfl
        have e199 := PTx.fr e171 hF193 hR194 rfl rfl rfl
        refine Or.inl ⟨rfl, ?_⟩
        refine r_goto (i := 101) (v := 116) rfl ?_
        have h200 : S188.f 33 12 = S166.f 33 12 := hF193.f rfl
        have h201 : S166.f 33 12 = S31.f 33 12 := hF174.f rfl
        have h202 := hI192.b1
        have h203 : S188.f 33 13 = S166.f 33 13 := hF193.f rfl
        have h204 : S166.f 33 13 = S31.f 33 13 := hF174.f rfl
        have h205 := hI192.b0
        have h206 : S188.f 31 1 = S166.f 31 1 := hF193.f rfl
        exact lp166_116 h_k p_0 p_1 hd S188 hI192 hF195 hR196 e197 e198 m th bh g0 ⟨by omega, by omega⟩ ⟨by omega, by omega⟩ ⟨by omega, by omega⟩ ⟨by omega, by omega⟩ (by omega) (by omega) (by omega) (by exact q_2) (by exact q_3) (by exact q_4) (by exact q_5) (by intro w9 hw0 hp9; obtain ⟨hwh, hq9⟩ := cW_hd whd18 (q_6 _ hw0 hp9) hp9; have ln9 := cW_ln hwh (by omega); have hw1 := wq36 _ hwh; have hw2 := wk170 _ hw1 (okQ_e (by simp only [g_an, g_ak, g_ub, g_su, g_di, g_ah, g_sc, g_mx, g_ei, g_ec, g_by, g_mv, g_dp, g_op, g_oB, g_oE, g_pt, g_cl, g_m2, g_mb, g_fd, g_gf, g_om, g_20, g_pu, g_l1, g_lv, g_cs, g_bx, g_ld, g_ao, g_a0]) hq9); have hw3 := wq191 _ hw2; exact ⟨cW_c hw3 (ov1_2 (congrArg acX (by omega)) (by omega) (pkR_fr (b := 4) hF rfl) (by omega) (by omega) (by first | exact if_21 (by omega) | exact if_12 (by omega)) (by rw [show wdA (S0.a 13 m.toNat) 4 = bh - 1 by rw [q_4]; omega]; omega) (by omega) ((pkR_fr (b := 4) hF39 rfl).trans ((pkR_fr (b := 4) hF21 rfl).trans (pkR_fr (b := 4) hF rfl))) (by omega) (by omega) (by rw [((dK_fr hF39 rfl rfl).trans ((dK_fr hF21 rfl rfl).trans (dK_fr hF rfl rfl))), show S31.a 10 m.toNat = S0.a 10 m.toNat by omega]) (by rw [((dK_fr hF39 rfl rfl).trans ((dK_fr hF21 rfl rfl).trans (dK_fr hF rfl rfl))), show S31.a 10 m.toNat = S0.a 10 m.toNat by omega]) (by omega)), (by unfold ovA; rw [← ovH_eq (by first | exact if_21 (by omega) | exact if_12 (by omega))]; have e9 := ln9; simp only [show S.a 12 m.toNat = S0.a 12 m.toNat by omega, show S.a 11 m.toNat = S0.a 11 m.toNat by omega, show S.a 13 m.toNat = S0.a 13 m.toNat by omega, show S.a 14 m.toNat = S0.a 14 m.toNat by omega, (pkR_fr (b := 4) hF rfl)] at e9; omega), rfl⟩) 
      · refine r_swK (i := 62) (u := 0) (v := 102) (k := 3) (t := 102) rfl rfl h54 (by decide) (by decide) rfl ?_
        refine r_load (i := 102) (u := 0) (w := 2) rfl rfl rfl ?_
        refine r_load (i := 103) (u := 1) (w := 0) rfl rfl rfl ?_
        refine r_str (i := 104) (v := 33) rfl ?_
        have h207 := slv33
        have h208 := hI38.b0
        have h209 := hI38.b1
        refine r_call (i := 105) (u := 8) (v := 141) (w := 0) (b := 0) (na := 771) (C2 := xC141) (as := [(2, 33), vi k, (6, 33)]) (s := []) rfl rfl rfl rfl rfl rfl rfl (sp141 (k := k) (s := 33) hI38 ⟨by omega, by omega⟩ ⟨by decide, by decide⟩ (by omega) (by omega) e37 (by omega)) (fun r210 S211 hq212 => ?_)
        obtain ⟨rfl, h213, h214, wk215, e216, hI217, hF218, hR219⟩ := hq212
        have hF220 := hF41.trans hF218 rfl rfl
        have hR221 := hR42.trans hR219 rfl
        have e222 := FAx.fr e43 hF218 rfl rfl
        refine Or.inl ⟨rfl, ?_⟩
        refine r_load (i := 106) (u := 0) (w := 2) rfl rfl rfl ?_
        refine r_load (i := 107) (u := 2) (w := 0) rfl rfl rfl ?_
        have h223 := hI217.b0
        have h224 := hI217.b1
        have h225 := hI217.a ta10 m.toNat
        have h226 : S211.a 10 m.toNat = S31.a 10 m.toNat := hF218.a rfl _
        have h227 : S31.a 10 m.toNat = S14.a 10 m.toNat := hF39.a rfl _
        have h228 : S14.a 10 m.toNat = S.a 10 m.toNat := hF21.a rfl _
        have h229 : S.a 10 m.toNat = S0.a 10 m.toNat := hF.a rfl _
        have h230 : S211.a 13 m.toNat = S31.a 13 m.toNat := hF218.a rfl _
        have h231 : S31.a 13 m.toNat = S14.a 13 m.toNat := hF39.a rfl _
        have h232 : S14.a 13 m.toNat = S.a 13 m.toNat := hF21.a rfl _
        have h233 : S.a 13 m.toNat = S0.a 13 m.toNat := hF.a rfl _
        have h234 := hI217.a ta14 m.toNat
        have h235 : S211.a 14 m.toNat = S31.a 14 m.toNat := hF218.a rfl _
        have h236 : S31.a 14 m.toNat = S14.a 14 m.toNat := hF39.a rfl _
        have h237 : S14.a 14 m.toNat = S.a 14 m.toNat := hF21.a rfl _
        have h238 : S.a 14 m.toNat = S0.a 14 m.toNat := hF.a rfl _
        have h239 := hI217.a ta10 m.toNat
        refine r_call (i := 108) (u := 8) (v := 144) (w := 0) (b := 0) (na := 770) (C2 := xC144) (as := [(2, 33), vi m]) (s := []) rfl rfl rfl rfl rfl rfl rfl (sp144 (m := m) hI217 ⟨by omega, by omega⟩ (by omega) (by omega) e216 (by omega)) (fun r240 S241 hq242 => ?_)
        obtain ⟨rfl, h243, h244, wk245, e246, hI247, hF248, hR249⟩ := hq242
        have hF250 := hF220.trans hF248 rfl rfl
        have hR251 := hR221.trans hR249 rfl
        have e252 := FAx.fr e222 hF248 rfl rfl
        refine Or.inl ⟨rfl, ?_⟩
        refine r_load (i := 109) (u := 0) (w := 2) rfl rfl rfl ?_
        refine r_load (i := 110) (u := 0) (w := 2) rfl rfl rfl ?_
        refine r_getf (i := 111) (v := 1) (w := 8) (x := (2, 9)) rfl ly33 rfl rfl fun _ => ?_
        refine r_getf (i := 112) (v := 5) (w := 2) (x := (2, 14)) rfl ly9 rfl rfl fun _ => ?_
        refine r_load (i := 113) (u := 2) (w := 0) rfl rfl rfl ?_
        refine a_int (i := 114) rfl ly14 rfl (by omega) (by omega) fun h255 => ?_
        have h256 := hI247.a ta14 m.toNat
        have h257 : S241.a 14 m.toNat = S211.a 14 m.toNat := hF248.a rfl _
        have h258 : S211.a 14 m.toNat = S31.a 14 m.toNat := hF218.a rfl _
        have h259 : S31.a 14 m.toNat = S14.a 14 m.toNat := hF39.a rfl _
        have h260 : S14.a 14 m.toNat = S.a 14 m.toNat := hF21.a rfl _
        have h261 : S.a 14 m.toNat = S0.a 14 m.toNat := hF.a rfl _
        have h262 := hI247.b1
        refine r_call (i := 115) (u := 8) (v := 157) (w := 0) (b := 0) (na := 770) (C2 := xC157) (as := [(2, 33), vi (S241.a 14 m.toNat)]) (s := []) rfl rfl rfl rfl rfl rfl rfl (sp157 (k := S241.a 14 m.toNat) hI247 ⟨by omega, by omega⟩ (by omega)  (by omega)) (fun r263 S264 hq265 => ?_)
        obtain ⟨rfl, h266, wq267, hI268, hF269, hR270⟩ := hq265
        have hF271 := hF250.trans hF269 rfl rfl
        have hR272 := hR251.trans hR270 rfl
        have e273 := FAx.fr e252 hF269 rfl rfl
        have e274 := PLx.fr e246 hF269 hR270 rfl rfl rfl
        have e275 := PTx.fr e246 hF269 hR270 rfl rfl rfl
        refine Or.inl ⟨rfl, ?_⟩
        have h276 : S264.f 33 12 = S241.f 33 12 := hF269.f rfl
        have h277 : S241.f 33 12 = S211.f 33 12 := hF248.f rfl
        have h278 : S211.f 33 12 = S31.f 33 12 := hF218.f rfl
        have h279 := hI268.b1
        have h280 : S264.f 33 13 = S241.f 33 13 := hF269.f rfl
        have h281 : S241.f 33 13 = S211.f 33 13 := hF248.f rfl
        have h282 : S211.f 33 13 = S31.f 33 13 := hF218.f rfl
        have h283 := hI268.b0
        have h284 : S264.f 31 1 = S241.f 31 1 := hF269.f rfl
        exact lp166_116 h_k p_0 p_1 hd S264 hI268 hF271 hR272 e274 e273 m th bh g0 ⟨by omega, by omega⟩ ⟨by omega, by omega⟩ ⟨by omega, by omega⟩ ⟨by omega, by omega⟩ (by omega) (by omega) (by omega) (by exact q_2) (by exact q_3) (by exact q_4) (by exact q_5) (by intro w9 hw0 hp9; obtain ⟨hwh, hq9⟩ := cW_hd whd18 (q_6 _ hw0 hp9) hp9; have ln9 := cW_ln hwh (by omega); have hw1 := wq36 _ hwh; have hw2 := wk215 _ hw1 (okQ_e (by simp only [g_an, g_ak, g_ub, g_su, g_di, g_ah, g_sc, g_mx, g_ei, g_ec, g_by, g_mv, g_dp, g_op, g_oB, g_oE, g_pt, g_cl, g_m2, g_mb, g_fd, g_gf, g_om, g_20, g_pu, g_l1, g_lv, g_cs, g_bx, g_ld, g_ao, g_a0]) hq9); have hw3 := wk245 _ hw2 (okQ_e (by simp only [g_an, g_ak, g_ub, g_su, g_di, g_ah, g_sc, g_mx, g_ei, g_ec, g_by, g_mv, g_dp, g_op, g_oB, g_oE, g_pt, g_cl, g_m2, g_mb, g_fd, g_gf, g_om, g_20, g_pu, g_l1, g_lv, g_cs, g_bx, g_ld, g_ao, g_a0]) hq9); have hw4 := wq267 _ hw3; exact ⟨cW_c hw4 (ov1_3 (congrArg acX (by omega)) (by omega) (pkR_fr (b := 4) hF rfl) (by omega) (by omega) (by first | exact if_21 (by omega) | exact if_12 (by omega)) (by rw [show wdA (S0.a 13 m.toNat) 4 = bh - 1 by rw [q_4]; omega]; omega) (by omega) ((pkR_fr (b := 4) hF218 rfl).trans ((pkR_fr (b := 4) hF39 rfl).trans ((pkR_fr (b := 4) hF21 rfl).trans (pkR_fr (b := 4) hF rfl)))) (by rw [show S211.a 10 m.toNat = S0.a 10 m.toNat by omega]; exact ((hF218.a (b := 2) rfl _).trans ((hF39.a (b := 2) rfl _).trans ((hF21.a (b := 2) rfl _).trans (hF.a (b := 2) rfl _))))) (by omega) (by omega) (by omega) (by omega)), (by unfold ovA; rw [← ovH_eq (by first | exact if_21 (by omega) | exact if_12 (by omega))]; have e9 := ln9; simp only [show S.a 12 m.toNat = S0.a 12 m.toNat by omega, show S.a 11 m.toNat = S0.a 11 m.toNat by omega, show S.a 13 m.toNat = S0.a 13 m.toNat by omega, show S.a 14 m.toNat = S0.a 14 m.toNat by omega, (pkR_fr (b := 4) hF rfl)] at e9; omega), rfl⟩) 
    · refine r_load (i := 51) (u := 4) (w := 0) rfl rfl rfl ?_
      refine r_const (i := 52) (u := 1) (z := 1) rfl rfl ?_
      refine r_iadd (i := 53) rfl ?_
      refine r_goto (i := 54) (v := 56) rfl ?_
      have h285 := hI20.b0
      have h286 := hI20.b1
      refine r_call (i := 56) (u := 8) (v := 171) (w := 0) (b := 0) (na := 514) (C2 := xC171) (as := [(2, 33), vi (bh + 1)]) (s := []) rfl rfl rfl rfl rfl rfl rfl (sp171 (lc := bh + 1) hI20 ⟨by omega, by omega⟩ (by omega) (by omega) e19 (by omega)) (fun r287 S288 hq289 => ?_)
      obtain ⟨rfl, h290, h291, h292, wq293, e294, hI295, hF296, hR297⟩ := hq289
      have hF298 := hF23.trans hF296 rfl rfl
      have hR299 := hR24.trans hR297 rfl
      have e300 := FAx.fr e25 hF296 rfl rfl
      refine Or.inl ⟨rfl, ?_⟩
      refine r_load (i := 57) (u := 0) (w := 2) rfl rfl rfl ?_
      refine r_getf (i := 58) (v := 3) (w := 8) (x := (2, 22)) rfl ly33 rfl rfl fun _ => ?_
      refine r_getf (i := 59) (v := 1) (w := 4) (x := (2, 24)) rfl ly22 rfl rfl fun _ => ?_
      refine r_load (i := 60) (u := 1) (w := 0) rfl rfl rfl ?_
      refine a_int (i := 61) rfl ly24 rfl (by omega) (by omega) fun h303 => ?_
      have h304 := hI295.a ta24 k.toNat
      have h305 : S288.a 24 k.toNat = S14.a 24 k.toNat := hF296.a rfl _
      have h306 : S14.a 24 k.toNat = S.a 24 k.toNat := hF21.a rfl _
      have h307 : S.a 24 k.toNat = S0.a 24 k.toNat := hF.a rfl _
      rcases (show (S288.a 24 k.toNat) = 0 ∨ (S288.a 24 k.toNat) = 1 ∨ (S288.a 24 k.toNat) = 2 ∨ (S288.a 24 k.toNat) = 3 by omega) with h308 | h309 | h310 | h311
      · refine r_swK (i := 62) (u := 0) (v := 102) (k := 0) (t := 63) rfl rfl h308 (by decide) (by decide) rfl ?_
        refine r_load (i := 63) (u := 0) (w := 2) rfl rfl rfl ?_
        refine r_load (i := 64) (u := 1) (w := 0) rfl rfl rfl ?_
        refine r_load (i := 65) (u := 0) (w := 2) rfl rfl rfl ?_
        refine r_getf (i := 66) (v := 1) (w := 8) (x := (2, 9)) rfl ly33 rfl rfl fun _ => ?_
        refine r_getf (i := 67) (v := 4) (w := 2) (x := (2, 13)) rfl ly9 rfl rfl fun _ => ?_
        refine r_load (i := 68) (u := 2) (w := 0) rfl rfl rfl ?_
        refine a_int (i := 69) rfl ly13 rfl (by omega) (by omega) fun h314 => ?_
        have kp315 := hI295.k13 m.toNat
        have h316 : S288.a 13 m.toNat = S14.a 13 m.toNat := hF296.a rfl _
        have h317 : S14.a 13 m.toNat = S.a 13 m.toNat := hF21.a rfl _
        have h318 : S.a 13 m.toNat = S0.a 13 m.toNat := hF.a rfl _
        have h319 := hI295.b0
        have h320 := hI295.b1
        refine r_call (i := 70) (u := 8) (v := 142) (w := 0) (b := 0) (na := 2051) (C2 := xC142) (as := [(2, 33), vi k, vi (S288.a 13 m.toNat)]) (s := []) rfl rfl rfl rfl rfl rfl rfl (sp142 (k := k) (p := S288.a 13 m.toNat) hI295 ⟨by omega, by omega⟩ ⟨by omega, by omega⟩ (by omega) (by omega) e294 (by omega)) (fun r321 S322 hq323 => ?_)
        obtain ⟨rfl, h324, h325, wk326, e327, hI328, hF329, hR330⟩ := hq323
        have hF331 := hF298.trans hF329 rfl rfl
        have hR332 := hR299.trans hR330 rfl
        have e333 := FAx.fr e300 hF329 rfl rfl
        refine Or.inl ⟨rfl, ?_⟩
        refine r_load (i := 71) (u := 0) (w := 2) rfl rfl rfl ?_
        refine r_load (i := 72) (u := 0) (w := 2) rfl rfl rfl ?_
        refine r_getf (i := 73) (v := 1) (w := 8) (x := (2, 9)) rfl ly33 rfl rfl fun _ => ?_
        refine r_getf (i := 74) (v := 5) (w := 2) (x := (2, 14)) rfl ly9 rfl rfl fun _ => ?_
        refine r_load (i := 75) (u := 2) (w := 0) rfl rfl rfl ?_
        refine a_int (i := 76) rfl ly14 rfl (by omega) (by omega) fun h336 => ?_
        have h337 := hI328.a ta14 m.toNat
        have h338 : S322.a 14 m.toNat = S288.a 14 m.toNat := hF329.a rfl _
        have h339 : S288.a 14 m.toNat = S14.a 14 m.toNat := hF296.a rfl _
        have h340 : S14.a 14 m.toNat = S.a 14 m.toNat := hF21.a rfl _
        have h341 : S.a 14 m.toNat = S0.a 14 m.toNat := hF.a rfl _
        have h342 := hI328.b0
        have h343 := hI328.b1
        refine r_call (i := 77) (u := 8) (v := 172) (w := 0) (b := 0) (na := 1026) (C2 := xC172) (as := [(2, 33), vi (S322.a 14 m.toNat)]) (s := []) rfl rfl rfl rfl rfl rfl rfl (sp172 (k := S322.a 14 m.toNat) hI328 ⟨by omega, by omega⟩ (by omega) (by omega) e327 (by omega)) (fun r344 S345 hq346 => ?_)
        obtain ⟨rfl, h347, h348, wq349, e350, hI351, hF352, hR353⟩ := hq346
        have hF354 := hF331.trans hF352 rfl rfl
        have hR355 := hR332.trans hR353 rfl
        have e356 := FAx.fr e333 hF352 rfl rfl
        refine Or.inl ⟨rfl, ?_⟩
        refine r_goto (i := 78) (v := 116) rfl ?_
        have h357 : S345.f 33 12 = S322.f 33 12 := hF352.f rfl
        have h358 : S322.f 33 12 = S288.f 33 12 := hF329.f rfl
        have h359 := hI351.b1
        have h360 : S345.f 33 13 = S322.f 33 13 := hF352.f rfl
        have h361 : S322.f 33 13 = S288.f 33 13 := hF329.f rfl
        have h362 := hI351.b0
        exact lp166_116 h_k p_0 p_1 hd S345 hI351 hF354 hR355 e350 e356 m th bh g0 ⟨by omega, by omega⟩ ⟨by omega, by omega⟩ ⟨by omega, by omega⟩ ⟨by omega, by omega⟩ (by omega) (by omega) (by omega) (by exact q_2) (by exact q_3) (by exact q_4) (by exact q_5) (by intro w9 hw0 hp9; obtain ⟨hwh, hq9⟩ := cW_hd whd18 (q_6 _ hw0 hp9) hp9; have ln9 := cW_ln hwh (by omega); have hw1 := wq293 _ hwh; have hw2 := wk326 _ hw1 (okQ_e (by simp only [g_an, g_ak, g_ub, g_su, g_di, g_ah, g_sc, g_mx, g_ei, g_ec, g_by, g_mv, g_dp, g_op, g_oB, g_oE, g_pt, g_cl, g_m2, g_mb, g_fd, g_gf, g_om, g_20, g_pu, g_l1, g_lv, g_cs, g_bx, g_ld, g_ao, g_a0]) hq9); have hw3 := wq349 _ hw2; exact ⟨cW_c hw3 (ov1_0 (congrArg acX (by omega)) (by omega) (pkR_fr (b := 4) hF rfl) (by omega) (by omega) (by first | exact if_21 (by omega) | exact if_12 (by omega)) (by rw [show wdA (S0.a 13 m.toNat) 4 = bh - 1 by rw [q_4]; omega]; omega) (by omega) ((pkR_fr (b := 4) hF296 rfl).trans ((pkR_fr (b := 4) hF21 rfl).trans (pkR_fr (b := 4) hF rfl))) (by omega) ((pkR_fr (b := 4) hF329 rfl).trans ((pkR_fr (b := 4) hF296 rfl).trans ((pkR_fr (b := 4) hF21 rfl).trans (pkR_fr (b := 4) hF rfl)))) (by omega)), (by unfold ovA; rw [← ovH_eq (by first | exact if_21 (by omega) | exact if_12 (by omega))]; have e9 := ln9; simp only [show S.a 12 m.toNat = S0.a 12 m.toNat by omega, show S.a 11 m.toNat = S0.a 11 m.toNat by omega, show S.a 13 m.toNat = S0.a 13 m.toNat by omega, show S.a 14 m.toNat = S0.a 14 m.toNat by omega, (pkR_fr (b := 4) hF rfl)] at e9; omega), rfl⟩) 
      · refine r_swK (i := 62) (u := 0) (v := 102) (k := 1) (t := 79) rfl rfl h309 (by decide) (by decide) rfl ?_
        refine r_load (i := 79) (u := 0) (w := 2) rfl rfl rfl ?_
        refine r_load (i := 80) (u := 1) (w := 0) rfl rfl rfl ?_
        refine r_str (i := 81) (v := 31) rfl ?_
        have h363 := slv31
        have h364 := hI295.b0
        have h365 := hI295.b1
        refine r_call (i := 82) (u := 8) (v := 141) (w := 0) (b := 0) (na := 771) (C2 := xC141) (as := [(2, 33), vi k, (6, 31)]) (s := []) rfl rfl rfl rfl rfl rfl rfl (sp141 (k := k) (s := 31) hI295 ⟨by omega, by omega⟩ ⟨by decide, by decide⟩ (by omega) (by omega) e294 (by omega)) (fun r366 S367 hq368 => ?_)
        obtain ⟨rfl, h369, h370, wk371, e372, hI373, hF374, hR375⟩ := hq368
        have hF376 := hF298.trans hF374 rfl rfl
        have hR377 := hR299.trans hR375 rfl
        have e378 := FAx.fr e300 hF374 rfl rfl
        refine Or.inl ⟨rfl, ?_⟩
        refine r_load (i := 83) (u := 0) (w := 2) rfl rfl rfl ?_
        refine r_load (i := 84) (u := 0) (w := 2) rfl rfl rfl ?_
        refine r_getf (i := 85) (v := 1) (w := 8) (x := (2, 9)) rfl ly33 rfl rfl fun _ => ?_
        refine r_getf (i := 86) (v := 5) (w := 2) (x := (2, 14)) rfl ly9 rfl rfl fun _ => ?_
        refine r_load (i := 87) (u := 2) (w := 0) rfl rfl rfl ?_
        refine a_int (i := 88) rfl ly14 rfl (by omega) (by omega) fun h381 => ?_
        have h382 := hI373.a ta14 m.toNat
        have h383 : S367.a 14 m.toNat = S288.a 14 m.toNat := hF374.a rfl _
        have h384 : S288.a 14 m.toNat = S14.a 14 m.toNat := hF296.a rfl _
        have h385 : S14.a 14 m.toNat = S.a 14 m.toNat := hF21.a rfl _
        have h386 : S.a 14 m.toNat = S0.a 14 m.toNat := hF.a rfl _
        have h387 := hI373.b0
        have h388 := hI373.b1
        refine r_call (i := 89) (u := 8) (v := 172) (w := 0) (b := 0) (na := 1026) (C2 := xC172) (as := [(2, 33), vi (S367.a 14 m.toNat)]) (s := []) rfl rfl rfl rfl rfl rfl rfl (sp172 (k := S367.a 14 m.toNat) hI373 ⟨by omega, by omega⟩ (by omega) (by omega) e372 (by omega)) (fun r389 S390 hq391 => ?_)
        obtain ⟨rfl, h392, h393, wq394, e395, hI396, hF397, hR398⟩ := hq391
        have hF399 := hF376.trans hF397 rfl rfl
        have hR400 := hR377.trans hR398 rfl
        have e401 := FAx.fr e378 hF397 rfl rfl
        refine Or.inl ⟨rfl, ?_⟩
        refine r_goto (i := 90) (v := 116) rfl ?_
        have h402 : S390.f 33 12 = S367.f 33 12 := hF397.f rfl
        have h403 : S367.f 33 12 = S288.f 33 12 := hF374.f rfl
        have h404 := hI396.b1
        have h405 : S390.f 33 13 = S367.f 33 13 := hF397.f rfl
        have h406 : S367.f 33 13 = S288.f 33 13 := hF374.f rfl
        have h407 := hI396.b0
        exact lp166_116 h_k p_0 p_1 hd S390 hI396 hF399 hR400 e395 e401 m th bh g0 ⟨by omega, by omega⟩ ⟨by omega, by omega⟩ ⟨by omega, by omega⟩ ⟨by omega, by omega⟩ (by omega) (by omega) (by omega) (by exact q_2) (by exact q_3) (by exact q_4) (by exact q_5) (by intro w9 hw0 hp9; obtain ⟨hwh, hq9⟩ := cW_hd whd18 (q_6 _ hw0 hp9) hp9; have ln9 := cW_ln hwh (by omega); have hw1 := wq293 _ hwh; have hw2 := wk371 _ hw1 (okQ_e (by simp only [g_an, g_ak, g_ub, g_su, g_di, g_ah, g_sc, g_mx, g_ei, g_ec, g_by, g_mv, g_dp, g_op, g_oB, g_oE, g_pt, g_cl, g_m2, g_mb, g_fd, g_gf, g_om, g_20, g_pu, g_l1, g_lv, g_cs, g_bx, g_ld, g_ao, g_a0]) hq9); have hw3 := wq394 _ hw2; exact ⟨cW_c hw3 (ov1_1 (congrArg acX (by omega)) (by omega) (pkR_fr (b := 4) hF rfl) (by omega) (by omega) (by first | exact if_21 (by omega) | exact if_12 (by omega)) (by rw [show wdA (S0.a 13 m.toNat) 4 = bh - 1 by rw [q_4]; omega]; omega) (by omega) ((pkR_fr (b := 4) hF374 rfl).trans ((pkR_fr (b := 4) hF296 rfl).trans ((pkR_fr (b := 4) hF21 rfl).trans (pkR_fr (b := 4) hF rfl)))) (by omega)), (by unfold ovA; rw [← ovH_eq (by first | exact if_21 (by omega) | exact if_12 (by omega))]; have e9 := ln9; simp only [show S.a 12 m.toNat = S0.a 12 m.toNat by omega, show S.a 11 m.toNat = S0.a 11 m.toNat by omega, show S.a 13 m.toNat = S0.a 13 m.toNat by omega, show S.a 14 m.toNat = S0.a 14 m.toNat by omega, (pkR_fr (b := 4) hF rfl)] at e9; omega), rfl⟩) 
      · refine r_swK (i := 62) (u := 0) (v := 102) (k := 2) (t := 91) rfl rfl h310 (by decide) (by decide) rfl ?_
        refine r_load (i := 91) (u := 0) (w := 2) rfl rfl rfl ?_
        refine r_load (i := 92) (u := 2) (w := 0) rfl rfl rfl ?_
        have h408 := hI295.b0
        have h409 := hI295.b1
        have h410 : S288.a 13 m.toNat = S14.a 13 m.toNat := hF296.a rfl _
        have h411 : S14.a 13 m.toNat = S.a 13 m.toNat := hF21.a rfl _
        have h412 : S.a 13 m.toNat = S0.a 13 m.toNat := hF.a rfl _
        have h413 := hI295.a ta14 m.toNat
        have h414 : S288.a 14 m.toNat = S14.a 14 m.toNat := hF296.a rfl _
        have h415 : S14.a 14 m.toNat = S.a 14 m.toNat := hF21.a rfl _
        have h416 : S.a 14 m.toNat = S0.a 14 m.toNat := hF.a rfl _
        have h417 := hI295.a ta10 m.toNat
        have h418 : S288.a 10 m.toNat = S14.a 10 m.toNat := hF296.a rfl _
        have h419 : S14.a 10 m.toNat = S.a 10 m.toNat := hF21.a rfl _
        have h420 : S.a 10 m.toNat = S0.a 10 m.toNat := hF.a rfl _
        have h421 := hI295.a ta10 m.toNat
        refine r_call (i := 93) (u := 8) (v := 145) (w := 0) (b := 0) (na := 770) (C2 := xC145) (as := [(2, 33), vi m]) (s := []) rfl rfl rfl rfl rfl rfl rfl (sp145 (m := m) hI295 ⟨by omega, by omega⟩ (by omega) (by omega) e294 e300 (by omega)) (fun r422 S423 hq424 => ?_)
        obtain ⟨rfl, h425, h426, wk427, e428, e429, hI430, hF431, hR432⟩ := hq424
        have hF433 := hF298.trans hF431 rfl rfl
        have hR434 := hR299.trans hR432 rfl
        refine Or.inl ⟨rfl, ?_⟩
        refine r_load (i := 94) (u := 0) (w := 2) rfl rfl rfl ?_
        refine r_load (i := 95) (u := 0) (w := 2) rfl rfl rfl ?_
        refine r_getf (i := 96) (v := 1) (w := 8) (x := (2, 9)) rfl ly33 rfl rfl fun _ => ?_
        refine r_getf (i := 97) (v := 5) (w := 2) (x := (2, 14)) rfl ly9 rfl rfl fun _ => ?_
        refine r_load (i := 98) (u := 2) (w := 0) rfl rfl rfl ?_
        refine a_int (i := 99) rfl ly14 rfl (by omega) (by omega) fun h437 => ?_
        have h438 := hI430.a ta14 m.toNat
        have h439 : S423.a 14 m.toNat = S288.a 14 m.toNat := hF431.a rfl _
        have h440 : S288.a 14 m.toNat = S14.a 14 m.toNat := hF296.a rfl _
        have h441 : S14.a 14 m.toNat = S.a 14 m.toNat := hF21.a rfl _
        have h442 : S.a 14 m.toNat = S0.a 14 m.toNat := hF.a rfl _
        have h443 := hI430.b1
        refine r_call (i := 100) (u := 8) (v := 157) (w := 0) (b := 0) (na := 770) (C2 := xC157) (as := [(2, 33), vi (S423.a 14 m.toNat)]) (s := []) rfl rfl rfl rfl rfl rfl rfl (sp157 (k := S423.a 14 m.toNat) hI430 ⟨by omega, by omega⟩ (by omega)  (by omega)) (fun r444 S445 hq446 => ?_)
        obtain ⟨rfl, h447, wq448, hI449, hF450, hR451⟩ := hq446
        have hF452 := hF433.trans hF450 rfl rfl
        have hR453 := hR434.trans hR451 rfl
        have e454 := PLx.fr e428 hF450 hR451 rfl rfl rfl
        have e455 := FAx.fr e429 hF450 rfl rfl
        have e456 := PTx.fr e428 hF450 hR451 rfl rfl rfl
        refine Or.inl ⟨rfl, ?_⟩
        refine r_goto (i := 101) (v := 116) rfl ?_
        have h457 : S445.f 33 12 = S423.f 33 12 := hF450.f rfl
        have h458 : S423.f 33 12 = S288.f 33 12 := hF431.f rfl
        have h459 := hI449.b1
        have h460 : S445.f 33 13 = S423.f 33 13 := hF450.f rfl
        have h461 : S423.f 33 13 = S288.f 33 13 := hF431.f rfl
        have h462 := hI449.b0
        have h463 : S445.f 31 1 = S423.f 31 1 := hF450.f rfl
        exact lp166_116 h_k p_0 p_1 hd S445 hI449 hF452 hR453 e454 e455 m th bh g0 ⟨by omega, by omega⟩ ⟨by omega, by omega⟩ ⟨by omega, by omega⟩ ⟨by omega, by omega⟩ (by omega) (by omega) (by omega) (by exact q_2) (by exact q_3) (by exact q_4) (by exact q_5) (by intro w9 hw0 hp9; obtain ⟨hwh, hq9⟩ := cW_hd whd18 (q_6 _ hw0 hp9) hp9; have ln9 := cW_ln hwh (by omega); have hw1 := wq293 _ hwh; have hw2 := wk427 _ hw1 (okQ_e (by simp only [g_an, g_ak, g_ub, g_su, g_di, g_ah, g_sc, g_mx, g_ei, g_ec, g_by, g_mv, g_dp, g_op, g_oB, g_oE, g_pt, g_cl, g_m2, g_mb, g_fd, g_gf, g_om, g_20, g_pu, g_l1, g_lv, g_cs, g_bx, g_ld, g_ao, g_a0]) hq9); have hw3 := wq448 _ hw2; exact ⟨cW_c hw3 (ov1_2 (congrArg acX (by omega)) (by omega) (pkR_fr (b := 4) hF rfl) (by omega) (by omega) (by first | exact if_21 (by omega) | exact if_12 (by omega)) (by rw [show wdA (S0.a 13 m.toNat) 4 = bh - 1 by rw [q_4]; omega]; omega) (by omega) ((pkR_fr (b := 4) hF296 rfl).trans ((pkR_fr (b := 4) hF21 rfl).trans (pkR_fr (b := 4) hF rfl))) (by omega) (by omega) (by rw [((dK_fr hF296 rfl rfl).trans ((dK_fr hF21 rfl rfl).trans (dK_fr hF rfl rfl))), show S288.a 10 m.toNat = S0.a 10 m.toNat by omega]) (by rw [((dK_fr hF296 rfl rfl).trans ((dK_fr hF21 rfl rfl).trans (dK_fr hF rfl rfl))), show S288.a 10 m.toNat = S0.a 10 m.toNat by omega]) (by omega)), (by unfold ovA; rw [← ovH_eq (by first | exact if_21 (by omega) | exact if_12 (by omega))]; have e9 := ln9; simp only [show S.a 12 m.toNat = S0.a 12 m.toNat by omega, show S.a 11 m.toNat = S0.a 11 m.toNat by omega, show S.a 13 m.toNat = S0.a 13 m.toNat by omega, show S.a 14 m.toNat = S0.a 14 m.toNat by omega, (pkR_fr (b := 4) hF rfl)] at e9; omega), rfl⟩) 
      · refine r_swK (i := 62) (u := 0) (v := 102) (k := 3) (t := 102) rfl rfl h311 (by decide) (by decide) rfl ?_
        refine r_load (i := 102) (u := 0) (w := 2) rfl rfl rfl ?_
        refine r_load (i := 103) (u := 1) (w := 0) rfl rfl rfl ?_
        refine r_str (i := 104) (v := 33) rfl ?_
        have h464 := slv33
        have h465 := hI295.b0
        have h466 := hI295.b1
        refine r_call (i := 105) (u := 8) (v := 141) (w := 0) (b := 0) (na := 771) (C2 := xC141) (as := [(2, 33), vi k, (6, 33)]) (s := []) rfl rfl rfl rfl rfl rfl rfl (sp141 (k := k) (s := 33) hI295 ⟨by omega, by omega⟩ ⟨by decide, by decide⟩ (by omega) (by omega) e294 (by omega)) (fun r467 S468 hq469 => ?_)
        obtain ⟨rfl, h470, h471, wk472, e473, hI474, hF475, hR476⟩ := hq469
        have hF477 := hF298.trans hF475 rfl rfl
        have hR478 := hR299.trans hR476 rfl
        have e479 := FAx.fr e300 hF475 rfl rfl
        refine Or.inl ⟨rfl, ?_⟩
        refine r_load (i := 106) (u := 0) (w := 2) rfl rfl rfl ?_
        refine r_load (i := 107) (u := 2) (w := 0) rfl rfl rfl ?_
        have h480 := hI474.b0
        have h481 := hI474.b1
        have h482 := hI474.a ta10 m.toNat
        have h483 : S468.a 10 m.toNat = S288.a 10 m.toNat := hF475.a rfl _
        have h484 : S288.a 10 m.toNat = S14.a 10 m.toNat := hF296.a rfl _
        have h485 : S14.a 10 m.toNat = S.a 10 m.toNat := hF21.a rfl _
        have h486 : S.a 10 m.toNat = S0.a 10 m.toNat := hF.a rfl _
        have h487 : S468.a 13 m.toNat = S288.a 13 m.toNat := hF475.a rfl _
        have h488 : S288.a 13 m.toNat = S14.a 13 m.toNat := hF296.a rfl _
        have h489 : S14.a 13 m.toNat = S.a 13 m.toNat := hF21.a rfl _
        have h490 : S.a 13 m.toNat = S0.a 13 m.toNat := hF.a rfl _
        have h491 := hI474.a ta14 m.toNat
        have h492 : S468.a 14 m.toNat = S288.a 14 m.toNat := hF475.a rfl _
        have h493 : S288.a 14 m.toNat = S14.a 14 m.toNat := hF296.a rfl _
        have h494 : S14.a 14 m.toNat = S.a 14 m.toNat := hF21.a rfl _
        have h495 : S.a 14 m.toNat = S0.a 14 m.toNat := hF.a rfl _
        have h496 := hI474.a ta10 m.toNat
        refine r_call (i := 108) (u := 8) (v := 144) (w := 0) (b := 0) (na := 770) (C2 := xC144) (as := [(2, 33), vi m]) (s := []) rfl rfl rfl rfl rfl rfl rfl (sp144 (m := m) hI474 ⟨by omega, by omega⟩ (by omega) (by omega) e473 (by omega)) (fun r497 S498 hq499 => ?_)
        obtain ⟨rfl, h500, h501, wk502, e503, hI504, hF505, hR506⟩ := hq499
        have hF507 := hF477.trans hF505 rfl rfl
        have hR508 := hR478.trans hR506 rfl
        have e509 := FAx.fr e479 hF505 rfl rfl
        refine Or.inl ⟨rfl, ?_⟩
        refine r_load (i := 109) (u := 0) (w := 2) rfl rfl rfl ?_
        refine r_load (i := 110) (u := 0) (w := 2) rfl rfl rfl ?_
        refine r_getf (i := 111) (v := 1) (w := 8) (x := (2, 9)) rfl ly33 rfl rfl fun _ => ?_
        refine r_getf (i := 112) (v := 5) (w := 2) (x := (2, 14)) rfl ly9 rfl rfl fun _ => ?_
        refine r_load (i := 113) (u := 2) (w := 0) rfl rfl rfl ?_
        refine a_int (i := 114) rfl ly14 rfl (by omega) (by omega) fun h512 => ?_
        have h513 := hI504.a ta14 m.toNat
        have h514 : S498.a 14 m.toNat = S468.a 14 m.toNat := hF505.a rfl _
        have h515 : S468.a 14 m.toNat = S288.a 14 m.toNat := hF475.a rfl _
        have h516 : S288.a 14 m.toNat = S14.a 14 m.toNat := hF296.a rfl _
        have h517 : S14.a 14 m.toNat = S.a 14 m.toNat := hF21.a rfl _
        have h518 : S.a 14 m.toNat = S0.a 14 m.toNat := hF.a rfl _
        have h519 := hI504.b1
        refine r_call (i := 115) (u := 8) (v := 157) (w := 0) (b := 0) (na := 770) (C2 := xC157) (as := [(2, 33), vi (S498.a 14 m.toNat)]) (s := []) rfl rfl rfl rfl rfl rfl rfl (sp157 (k := S498.a 14 m.toNat) hI504 ⟨by omega, by omega⟩ (by omega)  (by omega)) (fun r520 S521 hq522 => ?_)
        obtain ⟨rfl, h523, wq524, hI525, hF526, hR527⟩ := hq522
        have hF528 := hF507.trans hF526 rfl rfl
        have hR529 := hR508.trans hR527 rfl
        have e530 := FAx.fr e509 hF526 rfl rfl
        have e531 := PLx.fr e503 hF526 hR527 rfl rfl rfl
        have e532 := PTx.fr e503 hF526 hR527 rfl rfl rfl
        refine Or.inl ⟨rfl, ?_⟩
        have h533 : S521.f 33 12 = S498.f 33 12 := hF526.f rfl
        have h534 : S498.f 33 12 = S468.f 33 12 := hF505.f rfl
        have h535 : S468.f 33 12 = S288.f 33 12 := hF475.f rfl
        have h536 := hI525.b1
        have h537 : S521.f 33 13 = S498.f 33 13 := hF526.f rfl
        have h538 : S498.f 33 13 = S468.f 33 13 := hF505.f rfl
        have h539 : S468.f 33 13 = S288.f 33 13 := hF475.f rfl
        have h540 := hI525.b0
        have h541 : S521.f 31 1 = S498.f 31 1 := hF526.f rfl
        exact lp166_116 h_k p_0 p_1 hd S521 hI525 hF528 hR529 e531 e530 m th bh g0 ⟨by omega, by omega⟩ ⟨by omega, by omega⟩ ⟨by omega, by omega⟩ ⟨by omega, by omega⟩ (by omega) (by omega) (by omega) (by exact q_2) (by exact q_3) (by exact q_4) (by exact q_5) (by intro w9 hw0 hp9; obtain ⟨hwh, hq9⟩ := cW_hd whd18 (q_6 _ hw0 hp9) hp9; have ln9 := cW_ln hwh (by omega); have hw1 := wq293 _ hwh; have hw2 := wk472 _ hw1 (okQ_e (by simp only [g_an, g_ak, g_ub, g_su, g_di, g_ah, g_sc, g_mx, g_ei, g_ec, g_by, g_mv, g_dp, g_op, g_oB, g_oE, g_pt, g_cl, g_m2, g_mb, g_fd, g_gf, g_om, g_20, g_pu, g_l1, g_lv, g_cs, g_bx, g_ld, g_ao, g_a0]) hq9); have hw3 := wk502 _ hw2 (okQ_e (by simp only [g_an, g_ak, g_ub, g_su, g_di, g_ah, g_sc, g_mx, g_ei, g_ec, g_by, g_mv, g_dp, g_op, g_oB, g_oE, g_pt, g_cl, g_m2, g_mb, g_fd, g_gf, g_om, g_20, g_pu, g_l1, g_lv, g_cs, g_bx, g_ld, g_ao, g_a0]) hq9); have hw4 := wq524 _ hw3; exact ⟨cW_c hw4 (ov1_3 (congrArg acX (by omega)) (by omega) (pkR_fr (b := 4) hF rfl) (by omega) (by omega) (by first | exact if_21 (by omega) | exact if_12 (by omega)) (by rw [show wdA (S0.a 13 m.toNat) 4 = bh - 1 by rw [q_4]; omega]; omega) (by omega) ((pkR_fr (b := 4) hF475 rfl).trans ((pkR_fr (b := 4) hF296 rfl).trans ((pkR_fr (b := 4) hF21 rfl).trans (pkR_fr (b := 4) hF rfl)))) (by rw [show S468.a 10 m.toNat = S0.a 10 m.toNat by omega]; exact ((hF475.a (b := 2) rfl _).trans ((hF296.a (b := 2) rfl _).trans ((hF21.a (b := 2) rfl _).trans (hF.a (b := 2) rfl _))))) (by omega) (by omega) (by omega) (by omega)), (by unfold ovA; rw [← ovH_eq (by first | exact if_21 (by omega) | exact if_12 (by omega))]; have e9 := ln9; simp only [show S.a 12 m.toNat = S0.a 12 m.toNat by omega, show S.a 11 m.toNat = S0.a 11 m.toNat by omega, show S.a 13 m.toNat = S0.a 13 m.toNat by omega, show S.a 14 m.toNat = S0.a 14 m.toNat by omega, (pkR_fr (b := 4) hF rfl)] at e9; omega), rfl⟩) 
  · refine r_const (i := 44) (u := 2) (z := 2) rfl rfl ?_
    refine r_goto (i := 45) (v := 47) rfl ?_
    have h542 := hI.a ta12 m.toNat
    have h543 : S.a 12 m.toNat = S0.a 12 m.toNat := hF.a rfl _
    have h544 := hI.a ta11 m.toNat
    have h545 : S.a 11 m.toNat = S0.a 11 m.toNat := hF.a rfl _
    have h546 : S.a 13 m.toNat = S0.a 13 m.toNat := hF.a rfl _
    have h547 := hI.a ta14 m.toNat
    have h548 : S.a 14 m.toNat = S0.a 14 m.toNat := hF.a rfl _
    refine r_call (i := 47) (u := 8) (v := 156) (w := 0) (b := 0) (na := 1541) (C2 := xC156) (as := [(2, 33), vi m, vi 16, (6, 14), vi 2]) (s := []) rfl rfl rfl rfl rfl rfl rfl (sp156 (m := m) (mo := 16) (s := 14) (at0 := 2) hI ⟨by omega, by omega⟩ ⟨by omega, by omega⟩ ⟨by decide, by decide⟩ ⟨by omega, by omega⟩ (by omega) (by omega) e_PL (by omega)) (fun r549 S550 hq551 => ?_)
    obtain ⟨rfl, h552, h553, whd554, e555, hI556, hF557, hR558⟩ := hq551
    have hF559 := hF.trans hF557 rfl rfl
    have hR560 := hR.trans hR558 rfl
    have e561 := FAx.fr e_FA hF557 rfl rfl
    refine Or.inl ⟨rfl, ?_⟩
    refine r_load (i := 48) (u := 0) (w := 2) rfl rfl rfl ?_
    refine r_load (i := 49) (u := 5) (w := 0) rfl rfl rfl ?_
    refine z_eq (i := 50) (v := 55) rfl ⟨by omega, by omega⟩ (fun h562 => ?_) (fun h563 => ?_)
    · refine r_load (i := 55) (u := 4) (w := 0) rfl rfl rfl ?_
      have h564 := hI556.b0
      have h565 := hI556.b1
      refine r_call (i := 56) (u := 8) (v := 171) (w := 0) (b := 0) (na := 514) (C2 := xC171) (as := [(2, 33), vi bh]) (s := []) rfl rfl rfl rfl rfl rfl rfl (sp171 (lc := bh) hI556 ⟨by omega, by omega⟩ (by omega) (by omega) e555 (by omega)) (fun r566 S567 hq568 => ?_)
      obtain ⟨rfl, h569, h570, h571, wq572, e573, hI574, hF575, hR576⟩ := hq568
      have hF577 := hF559.trans hF575 rfl rfl
      have hR578 := hR560.trans hR576 rfl
      have e579 := FAx.fr e561 hF575 rfl rfl
      refine Or.inl ⟨rfl, ?_⟩
      refine r_load (i := 57) (u := 0) (w := 2) rfl rfl rfl ?_
      refine r_getf (i := 58) (v := 3) (w := 8) (x := (2, 22)) rfl ly33 rfl rfl fun _ => ?_
      refine r_getf (i := 59) (v := 1) (w := 4) (x := (2, 24)) rfl ly22 rfl rfl fun _ => ?_
      refine r_load (i := 60) (u := 1) (w := 0) rfl rfl rfl ?_
      refine a_int (i := 61) rfl ly24 rfl (by omega) (by omega) fun h582 => ?_
      have h583 := hI574.a ta24 k.toNat
      have h584 : S567.a 24 k.toNat = S550.a 24 k.toNat := hF575.a rfl _
      have h585 : S550.a 24 k.toNat = S.a 24 k.toNat := hF557.a rfl _
      have h586 : S.a 24 k.toNat = S0.a 24 k.toNat := hF.a rfl _
      rcases (show (S567.a 24 k.toNat) = 0 ∨ (S567.a 24 k.toNat) = 1 ∨ (S567.a 24 k.toNat) = 2 ∨ (S567.a 24 k.toNat) = 3 by omega) with h587 | h588 | h589 | h590
      · refine r_swK (i := 62) (u := 0) (v := 102) (k := 0) (t := 63) rfl rfl h587 (by decide) (by decide) rfl ?_
        refine r_load (i := 63) (u := 0) (w := 2) rfl rfl rfl ?_
        refine r_load (i := 64) (u := 1) (w := 0) rfl rfl rfl ?_
        refine r_load (i := 65) (u := 0) (w := 2) rfl rfl rfl ?_
        refine r_getf (i := 66) (v := 1) (w := 8) (x := (2, 9)) rfl ly33 rfl rfl fun _ => ?_
        refine r_getf (i := 67) (v := 4) (w := 2) (x := (2, 13)) rfl ly9 rfl rfl fun _ => ?_
        refine r_load (i := 68) (u := 2) (w := 0) rfl rfl rfl ?_
        refine a_int (i := 69) rfl ly13 rfl (by omega) (by omega) fun h593 => ?_
        have kp594 := hI574.k13 m.toNat
        have h595 : S567.a 13 m.toNat = S550.a 13 m.toNat := hF575.a rfl _
        have h596 : S550.a 13 m.toNat = S.a 13 m.toNat := hF557.a rfl _
        have h597 : S.a 13 m.toNat = S0.a 13 m.toNat := hF.a rfl _
        have h598 := hI574.b0
        have h599 := hI574.b1
        refine r_call (i := 70) (u := 8) (v := 142) (w := 0) (b := 0) (na := 2051) (C2 := xC142) (as := [(2, 33), vi k, vi (S567.a 13 m.toNat)]) (s := []) rfl rfl rfl rfl rfl rfl rfl (sp142 (k := k) (p := S567.a 13 m.toNat) hI574 ⟨by omega, by omega⟩ ⟨by omega, by omega⟩ (by omega) (by omega) e573 (by omega)) (fun r600 S601 hq602 => ?_)
        obtain ⟨rfl, h603, h604, wk605, e606, hI607, hF608, hR609⟩ := hq602
        have hF610 := hF577.trans hF608 rfl rfl
        have hR611 := hR578.trans hR609 rfl
        have e612 := FAx.fr e579 hF608 rfl rfl
        refine Or.inl ⟨rfl, ?_⟩
        refine r_load (i := 71) (u := 0) (w := 2) rfl rfl rfl ?_
        refine r_load (i := 72) (u := 0) (w := 2) rfl rfl rfl ?_
        refine r_getf (i := 73) (v := 1) (w := 8) (x := (2, 9)) rfl ly33 rfl rfl fun _ => ?_
        refine r_getf (i := 74) (v := 5) (w := 2) (x := (2, 14)) rfl ly9 rfl rfl fun _ => ?_
        refine r_load (i := 75) (u := 2) (w := 0) rfl rfl rfl ?_
        refine a_int (i := 76) rfl ly14 rfl (by omega) (by omega) fun h615 => ?_
        have h616 := hI607.a ta14 m.toNat
        have h617 : S601.a 14 m.toNat = S567.a 14 m.toNat := hF608.a rfl _
        have h618 : S567.a 14 m.toNat = S550.a 14 m.toNat := hF575.a rfl _
        have h619 : S550.a 14 m.toNat = S.a 14 m.toNat := hF557.a rfl _
        have h620 : S.a 14 m.toNat = S0.a 14 m.toNat := hF.a rfl _
        have h621 := hI607.b0
        have h622 := hI607.b1
        refine r_call (i := 77) (u := 8) (v := 172) (w := 0) (b := 0) (na := 1026) (C2 := xC172) (as := [(2, 33), vi (S601.a 14 m.toNat)]) (s := []) rfl rfl rfl rfl rfl rfl rfl (sp172 (k := S601.a 14 m.toNat) hI607 ⟨by omega, by omega⟩ (by omega) (by omega) e606 (by omega)) (fun r623 S624 hq625 => ?_)
        obtain ⟨rfl, h626, h627, wq628, e629, hI630, hF631, hR632⟩ := hq625
        have hF633 := hF610.trans hF631 rfl rfl
        have hR634 := hR611.trans hR632 rfl
        have e635 := FAx.fr e612 hF631 rfl rfl
        refine Or.inl ⟨rfl, ?_⟩
        refine r_goto (i := 78) (v := 116) rfl ?_
        have h636 : S624.f 33 12 = S601.f 33 12 := hF631.f rfl
        have h637 : S601.f 33 12 = S567.f 33 12 := hF608.f rfl
        have h638 := hI630.b1
        have h639 : S624.f 33 13 = S601.f 33 13 := hF631.f rfl
        have h640 : S601.f 33 13 = S567.f 33 13 := hF608.f rfl
        have h641 := hI630.b0
        exact lp166_116 h_k p_0 p_1 hd S624 hI630 hF633 hR634 e629 e635 m th bh g0 ⟨by omega, by omega⟩ ⟨by omega, by omega⟩ ⟨by omega, by omega⟩ ⟨by omega, by omega⟩ (by omega) (by omega) (by omega) (by exact q_2) (by exact q_3) (by exact q_4) (by exact q_5) (by intro w9 hw0 hp9; obtain ⟨hwh, hq9⟩ := cW_hd whd554 (q_6 _ hw0 hp9) hp9; have ln9 := cW_ln hwh (by omega); have hw1 := wq572 _ hwh; have hw2 := wk605 _ hw1 (okQ_e (by simp only [g_an, g_ak, g_ub, g_su, g_di, g_ah, g_sc, g_mx, g_ei, g_ec, g_by, g_mv, g_dp, g_op, g_oB, g_oE, g_pt, g_cl, g_m2, g_mb, g_fd, g_gf, g_om, g_20, g_pu, g_l1, g_lv, g_cs, g_bx, g_ld, g_ao, g_a0]) hq9); have hw3 := wq628 _ hw2; exact ⟨cW_c hw3 (ov1_0 (congrArg acX (by omega)) (by omega) (pkR_fr (b := 4) hF rfl) (by omega) (by omega) (by first | exact if_21 (by omega) | exact if_12 (by omega)) (by rw [show wdA (S0.a 13 m.toNat) 4 = bh - 1 by rw [q_4]; omega]; omega) (by omega) ((pkR_fr (b := 4) hF575 rfl).trans ((pkR_fr (b := 4) hF557 rfl).trans (pkR_fr (b := 4) hF rfl))) (by omega) ((pkR_fr (b := 4) hF608 rfl).trans ((pkR_fr (b := 4) hF575 rfl).trans ((pkR_fr (b := 4) hF557 rfl).trans (pkR_fr (b := 4) hF rfl)))) (by omega)), (by unfold ovA; rw [← ovH_eq (by first | exact if_21 (by omega) | exact if_12 (by omega))]; have e9 := ln9; simp only [show S.a 12 m.toNat = S0.a 12 m.toNat by omega, show S.a 11 m.toNat = S0.a 11 m.toNat by omega, show S.a 13 m.toNat = S0.a 13 m.toNat by omega, show S.a 14 m.toNat = S0.a 14 m.toNat by omega, (pkR_fr (b := 4) hF rfl)] at e9; omega), rfl⟩) 
      · refine r_swK (i := 62) (u := 0) (v := 102) (k := 1) (t := 79) rfl rfl h588 (by decide) (by decide) rfl ?_
        refine r_load (i := 79) (u := 0) (w := 2) rfl rfl rfl ?_
        refine r_load (i := 80) (u := 1) (w := 0) rfl rfl rfl ?_
        refine r_str (i := 81) (v := 31) rfl ?_
        have h642 := slv31
        have h643 := hI574.b0
        have h644 := hI574.b1
        refine r_call (i := 82) (u := 8) (v := 141) (w := 0) (b := 0) (na := 771) (C2 := xC141) (as := [(2, 33), vi k, (6, 31)]) (s := []) rfl rfl rfl rfl rfl rfl rfl (sp141 (k := k) (s := 31) hI574 ⟨by omega, by omega⟩ ⟨by decide, by decide⟩ (by omega) (by omega) e573 (by omega)) (fun r645 S646 hq647 => ?_)
        obtain ⟨rfl, h648, h649, wk650, e651, hI652, hF653, hR654⟩ := hq647
        have hF655 := hF577.trans hF653 rfl rfl
        have hR656 := hR578.trans hR654 rfl
        have e657 := FAx.fr e579 hF653 rfl rfl
        refine Or.inl ⟨rfl, ?_⟩
        refine r_load (i := 83) (u := 0) (w := 2) rfl rfl rfl ?_
        refine r_load (i := 84) (u := 0) (w := 2) rfl rfl rfl ?_
        refine r_getf (i := 85) (v := 1) (w := 8) (x := (2, 9)) rfl ly33 rfl rfl fun _ => ?_
        refine r_getf (i := 86) (v := 5) (w := 2) (x := (2, 14)) rfl ly9 rfl rfl fun _ => ?_
        refine r_load (i := 87) (u := 2) (w := 0) rfl rfl rfl ?_
        refine a_int (i := 88) rfl ly14 rfl (by omega) (by omega) fun h660 => ?_
        have h661 := hI652.a ta14 m.toNat
        have h662 : S646.a 14 m.toNat = S567.a 14 m.toNat := hF653.a rfl _
        have h663 : S567.a 14 m.toNat = S550.a 14 m.toNat := hF575.a rfl _
        have h664 : S550.a 14 m.toNat = S.a 14 m.toNat := hF557.a rfl _
        have h665 : S.a 14 m.toNat = S0.a 14 m.toNat := hF.a rfl _
        have h666 := hI652.b0
        have h667 := hI652.b1
        refine r_call (i := 89) (u := 8) (v := 172) (w := 0) (b := 0) (na := 1026) (C2 := xC172) (as := [(2, 33), vi (S646.a 14 m.toNat)]) (s := []) rfl rfl rfl rfl rfl rfl rfl (sp172 (k := S646.a 14 m.toNat) hI652 ⟨by omega, by omega⟩ (by omega) (by omega) e651 (by omega)) (fun r668 S669 hq670 => ?_)
        obtain ⟨rfl, h671, h672, wq673, e674, hI675, hF676, hR677⟩ := hq670
        have hF678 := hF655.trans hF676 rfl rfl
        have hR679 := hR656.trans hR677 rfl
        have e680 := FAx.fr e657 hF676 rfl rfl
        refine Or.inl ⟨rfl, ?_⟩
        refine r_goto (i := 90) (v := 116) rfl ?_
        have h681 : S669.f 33 12 = S646.f 33 12 := hF676.f rfl
        have h682 : S646.f 33 12 = S567.f 33 12 := hF653.f rfl
        have h683 := hI675.b1
        have h684 : S669.f 33 13 = S646.f 33 13 := hF676.f rfl
        have h685 : S646.f 33 13 = S567.f 33 13 := hF653.f rfl
        have h686 := hI675.b0
        exact lp166_116 h_k p_0 p_1 hd S669 hI675 hF678 hR679 e674 e680 m th bh g0 ⟨by omega, by omega⟩ ⟨by omega, by omega⟩ ⟨by omega, by omega⟩ ⟨by omega, by omega⟩ (by omega) (by omega) (by omega) (by exact q_2) (by exact q_3) (by exact q_4) (by exact q_5) (by intro w9 hw0 hp9; obtain ⟨hwh, hq9⟩ := cW_hd whd554 (q_6 _ hw0 hp9) hp9; have ln9 := cW_ln hwh (by omega); have hw1 := wq572 _ hwh; have hw2 := wk650 _ hw1 (okQ_e (by simp only [g_an, g_ak, g_ub, g_su, g_di, g_ah, g_sc, g_mx, g_ei, g_ec, g_by, g_mv, g_dp, g_op, g_oB, g_oE, g_pt, g_cl, g_m2, g_mb, g_fd, g_gf, g_om, g_20, g_pu, g_l1, g_lv, g_cs, g_bx, g_ld, g_ao, g_a0]) hq9); have hw3 := wq673 _ hw2; exact ⟨cW_c hw3 (ov1_1 (congrArg acX (by omega)) (by omega) (pkR_fr (b := 4) hF rfl) (by omega) (by omega) (by first | exact if_21 (by omega) | exact if_12 (by omega)) (by rw [show wdA (S0.a 13 m.toNat) 4 = bh - 1 by rw [q_4]; omega]; omega) (by omega) ((pkR_fr (b := 4) hF653 rfl).trans ((pkR_fr (b := 4) hF575 rfl).trans ((pkR_fr (b := 4) hF557 rfl).trans (pkR_fr (b := 4) hF rfl)))) (by omega)), (by unfold ovA; rw [← ovH_eq (by first | exact if_21 (by omega) | exact if_12 (by omega))]; have e9 := ln9; simp only [show S.a 12 m.toNat = S0.a 12 m.toNat by omega, show S.a 11 m.toNat = S0.a 11 m.toNat by omega, show S.a 13 m.toNat = S0.a 13 m.toNat by omega, show S.a 14 m.toNat = S0.a 14 m.toNat by omega, (pkR_fr (b := 4) hF rfl)] at e9; omega), rfl⟩) 
      · refine r_swK (i := 62) (u := 0) (v := 102) (k := 2) (t := 91) rfl rfl h589 (by decide) (by decide) rfl ?_
        refine r_load (i := 91) (u := 0) (w := 2) rfl rfl rfl ?_
        refine r_load (i := 92) (u := 2) (w := 0) rfl rfl rfl ?_
        have h687 := hI574.b0
        have h688 := hI574.b1
        have h689 : S567.a 13 m.toNat = S550.a 13 m.toNat := hF575.a rfl _
        have h690 : S550.a 13 m.toNat = S.a 13 m.toNat := hF557.a rfl _
        have h691 : S.a 13 m.toNat = S0.a 13 m.toNat := hF.a rfl _
        have h692 := hI574.a ta14 m.toNat
        have h693 : S567.a 14 m.toNat = S550.a 14 m.toNat := hF575.a rfl _
        have h694 : S550.a 14 m.toNat = S.a 14 m.toNat := hF557.a rfl _
        have h695 : S.a 14 m.toNat = S0.a 14 m.toNat := hF.a rfl _
        have h696 := hI574.a ta10 m.toNat
        have h697 : S567.a 10 m.toNat = S550.a 10 m.toNat := hF575.a rfl _
        have h698 : S550.a 10 m.toNat = S.a 10 m.toNat := hF557.a rfl _
        have h699 : S.a 10 m.toNat = S0.a 10 m.toNat := hF.a rfl _
        have h700 := hI574.a ta10 m.toNat
        refine r_call (i := 93) (u := 8) (v := 145) (w := 0) (b := 0) (na := 770) (C2 := xC145) (as := [(2, 33), vi m]) (s := []) rfl rfl rfl rfl rfl rfl rfl (sp145 (m := m) hI574 ⟨by omega, by omega⟩ (by omega) (by omega) e573 e579 (by omega)) (fun r701 S702 hq703 => ?_)
        obtain ⟨rfl, h704, h705, wk706, e707, e708, hI709, hF710, hR711⟩ := hq703
        have hF712 := hF577.trans hF710 rfl rfl
        have hR713 := hR578.trans hR711 rfl
        refine Or.inl ⟨rfl, ?_⟩
        refine r_load (i := 94) (u := 0) (w := 2) rfl rfl rfl ?_
        refine r_load (i := 95) (u := 0) (w := 2) rfl rfl rfl ?_
        refine r_getf (i := 96) (v := 1) (w := 8) (x := (2, 9)) rfl ly33 rfl rfl fun _ => ?_
        refine r_getf (i := 97) (v := 5) (w := 2) (x := (2, 14)) rfl ly9 rfl rfl fun _ => ?_
        refine r_load (i := 98) (u := 2) (w := 0) rfl rfl rfl ?_
        refine a_int (i := 99) rfl ly14 rfl (by omega) (by omega) fun h716 => ?_
        have h717 := hI709.a ta14 m.toNat
        have h718 : S702.a 14 m.toNat = S567.a 14 m.toNat := hF710.a rfl _
        have h719 : S567.a 14 m.toNat = S550.a 14 m.toNat := hF575.a rfl _
        have h720 : S550.a 14 m.toNat = S.a 14 m.toNat := hF557.a rfl _
        have h721 : S.a 14 m.toNat = S0.a 14 m.toNat := hF.a rfl _
        have h722 := hI709.b1
        refine r_call (i := 100) (u := 8) (v := 157) (w := 0) (b := 0) (na := 770) (C2 := xC157) (as := [(2, 33), vi (S702.a 14 m.toNat)]) (s := []) rfl rfl rfl rfl rfl rfl rfl (sp157 (k := S702.a 14 m.toNat) hI709 ⟨by omega, by omega⟩ (by omega)  (by omega)) (fun r723 S724 hq725 => ?_)
        obtain ⟨rfl, h726, wq727, hI728, hF729, hR730⟩ := hq725
        have hF731 := hF712.trans hF729 rfl rfl
        have hR732 := hR713.trans hR730 rfl
        have e733 := PLx.fr e707 hF729 hR730 rfl rfl rfl
        have e734 := FAx.fr e708 hF729 rfl rfl
        have e735 := PTx.fr e707 hF729 hR730 rfl rfl rfl
        refine Or.inl ⟨rfl, ?_⟩
        refine r_goto (i := 101) (v := 116) rfl ?_
        have h736 : S724.f 33 12 = S702.f 33 12 := hF729.f rfl
        have h737 : S702.f 33 12 = S567.f 33 12 := hF710.f rfl
        have h738 := hI728.b1
        have h739 : S724.f 33 13 = S702.f 33 13 := hF729.f rfl
        have h740 : S702.f 33 13 = S567.f 33 13 := hF710.f rfl
        have h741 := hI728.b0
        have h742 : S724.f 31 1 = S702.f 31 1 := hF729.f rfl
        exact lp166_116 h_k p_0 p_1 hd S724 hI728 hF731 hR732 e733 e734 m th bh g0 ⟨by omega, by omega⟩ ⟨by omega, by omega⟩ ⟨by omega, by omega⟩ ⟨by omega, by omega⟩ (by omega) (by omega) (by omega) (by exact q_2) (by exact q_3) (by exact q_4) (by exact q_5) (by intro w9 hw0 hp9; obtain ⟨hwh, hq9⟩ := cW_hd whd554 (q_6 _ hw0 hp9) hp9; have ln9 := cW_ln hwh (by omega); have hw1 := wq572 _ hwh; have hw2 := wk706 _ hw1 (okQ_e (by simp only [g_an, g_ak, g_ub, g_su, g_di, g_ah, g_sc, g_mx, g_ei, g_ec, g_by, g_mv, g_dp, g_op, g_oB, g_oE, g_pt, g_cl, g_m2, g_mb, g_fd, g_gf, g_om, g_20, g_pu, g_l1, g_lv, g_cs, g_bx, g_ld, g_ao, g_a0]) hq9); have hw3 := wq727 _ hw2; exact ⟨cW_c hw3 (ov1_2 (congrArg acX (by omega)) (by omega) (pkR_fr (b := 4) hF rfl) (by omega) (by omega) (by first | exact if_21 (by omega) | exact if_12 (by omega)) (by rw [show wdA (S0.a 13 m.toNat) 4 = bh - 1 by rw [q_4]; omega]; omega) (by omega) ((pkR_fr (b := 4) hF575 rfl).trans ((pkR_fr (b := 4) hF557 rfl).trans (pkR_fr (b := 4) hF rfl))) (by omega) (by omega) (by rw [((dK_fr hF575 rfl rfl).trans ((dK_fr hF557 rfl rfl).trans (dK_fr hF rfl rfl))), show S567.a 10 m.toNat = S0.a 10 m.toNat by omega]) (by rw [((dK_fr hF575 rfl rfl).trans ((dK_fr hF557 rfl rfl).trans (dK_fr hF rfl rfl))), show S567.a 10 m.toNat = S0.a 10 m.toNat by omega]) (by omega)), (by unfold ovA; rw [← ovH_eq (by first | exact if_21 (by omega) | exact if_12 (by omega))]; have e9 := ln9; simp only [show S.a 12 m.toNat = S0.a 12 m.toNat by omega, show S.a 11 m.toNat = S0.a 11 m.toNat by omega, show S.a 13 m.toNat = S0.a 13 m.toNat by omega, show S.a 14 m.toNat = S0.a 14 m.toNat by omega, (pkR_fr (b := 4) hF rfl)] at e9; omega), rfl⟩) 
      · refine r_swK (i := 62) (u := 0) (v := 102) (k := 3) (t := 102) rfl rfl h590 (by decide) (by decide) rfl ?_
        refine r_load (i := 102) (u := 0) (w := 2) rfl rfl rfl ?_
        refine r_load (i := 103) (u := 1) (w := 0) rfl rfl rfl ?_
        refine r_str (i := 104) (v := 33) rfl ?_
        have h743 := slv33
        have h744 := hI574.b0
        have h745 := hI574.b1
        refine r_call (i := 105) (u := 8) (v := 141) (w := 0) (b := 0) (na := 771) (C2 := xC141) (as := [(2, 33), vi k, (6, 33)]) (s := []) rfl rfl rfl rfl rfl rfl rfl (sp141 (k := k) (s := 33) hI574 ⟨by omega, by omega⟩ ⟨by decide, by decide⟩ (by omega) (by omega) e573 (by omega)) (fun r746 S747 hq748 => ?_)
        obtain ⟨rfl, h749, h750, wk751, e752, hI753, hF754, hR755⟩ := hq748
        have hF756 := hF577.trans hF754 rfl rfl
        have hR757 := hR578.trans hR755 rfl
        have e758 := FAx.fr e579 hF754 rfl rfl
        refine Or.inl ⟨rfl, ?_⟩
        refine r_load (i := 106) (u := 0) (w := 2) rfl rfl rfl ?_
        refine r_load (i := 107) (u := 2) (w := 0) rfl rfl rfl ?_
        have h759 := hI753.b0
        have h760 := hI753.b1
        have h761 := hI753.a ta10 m.toNat
        have h762 : S747.a 10 m.toNat = S567.a 10 m.toNat := hF754.a rfl _
        have h763 : S567.a 10 m.toNat = S550.a 10 m.toNat := hF575.a rfl _
        have h764 : S550.a 10 m.toNat = S.a 10 m.toNat := hF557.a rfl _
        have h765 : S.a 10 m.toNat = S0.a 10 m.toNat := hF.a rfl _
        have h766 : S747.a 13 m.toNat = S567.a 13 m.toNat := hF754.a rfl _
        have h767 : S567.a 13 m.toNat = S550.a 13 m.toNat := hF575.a rfl _
        have h768 : S550.a 13 m.toNat = S.a 13 m.toNat := hF557.a rfl _
        have h769 : S.a 13 m.toNat = S0.a 13 m.toNat := hF.a rfl _
        have h770 := hI753.a ta14 m.toNat
        have h771 : S747.a 14 m.toNat = S567.a 14 m.toNat := hF754.a rfl _
        have h772 : S567.a 14 m.toNat = S550.a 14 m.toNat := hF575.a rfl _
        have h773 : S550.a 14 m.toNat = S.a 14 m.toNat := hF557.a rfl _
        have h774 : S.a 14 m.toNat = S0.a 14 m.toNat := hF.a rfl _
        have h775 := hI753.a ta10 m.toNat
        refine r_call (i := 108) (u := 8) (v := 144) (w := 0) (b := 0) (na := 770) (C2 := xC144) (as := [(2, 33), vi m]) (s := []) rfl rfl rfl rfl rfl rfl rfl (sp144 (m := m) hI753 ⟨by omega, by omega⟩ (by omega) (by omega) e752 (by omega)) (fun r776 S777 hq778 => ?_)
        obtain ⟨rfl, h779, h780, wk781, e782, hI783, hF784, hR785⟩ := hq778
        have hF786 := hF756.trans hF784 rfl rfl
        have hR787 := hR757.trans hR785 rfl
        have e788 := FAx.fr e758 hF784 rfl rfl
        refine Or.inl ⟨rfl, ?_⟩
        refine r_load (i := 109) (u := 0) (w := 2) rfl rfl rfl ?_
        refine r_load (i := 110) (u := 0) (w := 2) rfl rfl rfl ?_
        refine r_getf (i := 111) (v := 1) (w := 8) (x := (2, 9)) rfl ly33 rfl rfl fun _ => ?_
        refine r_getf (i := 112) (v := 5) (w := 2) (x := (2, 14)) rfl ly9 rfl rfl fun _ => ?_
        refine r_load (i := 113) (u := 2) (w := 0) rfl rfl rfl ?_
        refine a_int (i := 114) rfl ly14 rfl (by omega) (by omega) fun h791 => ?_
        have h792 := hI783.a ta14 m.toNat
        have h793 : S777.a 14 m.toNat = S747.a 14 m.toNat := hF784.a rfl _
        have h794 : S747.a 14 m.toNat = S567.a 14 m.toNat := hF754.a rfl _
        have h795 : S567.a 14 m.toNat = S550.a 14 m.toNat := hF575.a rfl _
        have h796 : S550.a 14 m.toNat = S.a 14 m.toNat := hF557.a rfl _
        have h797 : S.a 14 m.toNat = S0.a 14 m.toNat := hF.a rfl _
        have h798 := hI783.b1
        refine r_call (i := 115) (u := 8) (v := 157) (w := 0) (b := 0) (na := 770) (C2 := xC157) (as := [(2, 33), vi (S777.a 14 m.toNat)]) (s := []) rfl rfl rfl rfl rfl rfl rfl (sp157 (k := S777.a 14 m.toNat) hI783 ⟨by omega, by omega⟩ (by omega)  (by omega)) (fun r799 S800 hq801 => ?_)
        obtain ⟨rfl, h802, wq803, hI804, hF805, hR806⟩ := hq801
        have hF807 := hF786.trans hF805 rfl rfl
        have hR808 := hR787.trans hR806 rfl
        have e809 := FAx.fr e788 hF805 rfl rfl
        have e810 := PLx.fr e782 hF805 hR806 rfl rfl rfl
        have e811 := PTx.fr e782 hF805 hR806 rfl rfl rfl
        refine Or.inl ⟨rfl, ?_⟩
        have h812 : S800.f 33 12 = S777.f 33 12 := hF805.f rfl
        have h813 : S777.f 33 12 = S747.f 33 12 := hF784.f rfl
        have h814 : S747.f 33 12 = S567.f 33 12 := hF754.f rfl
        have h815 := hI804.b1
        have h816 : S800.f 33 13 = S777.f 33 13 := hF805.f rfl
        have h817 : S777.f 33 13 = S747.f 33 13 := hF784.f rfl
        have h818 : S747.f 33 13 = S567.f 33 13 := hF754.f rfl
        have h819 := hI804.b0
        have h820 : S800.f 31 1 = S777.f 31 1 := hF805.f rfl
        exact lp166_116 h_k p_0 p_1 hd S800 hI804 hF807 hR808 e810 e809 m th bh g0 ⟨by omega, by omega⟩ ⟨by omega, by omega⟩ ⟨by omega, by omega⟩ ⟨by omega, by omega⟩ (by omega) (by omega) (by omega) (by exact q_2) (by exact q_3) (by exact q_4) (by exact q_5) (by intro w9 hw0 hp9; obtain ⟨hwh, hq9⟩ := cW_hd whd554 (q_6 _ hw0 hp9) hp9; have ln9 := cW_ln hwh (by omega); have hw1 := wq572 _ hwh; have hw2 := wk751 _ hw1 (okQ_e (by simp only [g_an, g_ak, g_ub, g_su, g_di, g_ah, g_sc, g_mx, g_ei, g_ec, g_by, g_mv, g_dp, g_op, g_oB, g_oE, g_pt, g_cl, g_m2, g_mb, g_fd, g_gf, g_om, g_20, g_pu, g_l1, g_lv, g_cs, g_bx, g_ld, g_ao, g_a0]) hq9); have hw3 := wk781 _ hw2 (okQ_e (by simp only [g_an, g_ak, g_ub, g_su, g_di, g_ah, g_sc, g_mx, g_ei, g_ec, g_by, g_mv, g_dp, g_op, g_oB, g_oE, g_pt, g_cl, g_m2, g_mb, g_fd, g_gf, g_om, g_20, g_pu, g_l1, g_lv, g_cs, g_bx, g_ld, g_ao, g_a0]) hq9); have hw4 := wq803 _ hw3; exact ⟨cW_c hw4 (ov1_3 (congrArg acX (by omega)) (by omega) (pkR_fr (b := 4) hF rfl) (by omega) (by omega) (by first | exact if_21 (by omega) | exact if_12 (by omega)) (by rw [show wdA (S0.a 13 m.toNat) 4 = bh - 1 by rw [q_4]; omega]; omega) (by omega) ((pkR_fr (b := 4) hF754 rfl).trans ((pkR_fr (b := 4) hF575 rfl).trans ((pkR_fr (b := 4) hF557 rfl).trans (pkR_fr (b := 4) hF rfl)))) (by rw [show S747.a 10 m.toNat = S0.a 10 m.toNat by omega]; exact ((hF754.a (b := 2) rfl _).trans ((hF575.a (b := 2) rfl _).trans ((hF557.a (b := 2) rfl _).trans (hF.a (b := 2) rfl _))))) (by omega) (by omega) (by omega) (by omega)), (by unfold ovA; rw [← ovH_eq (by first | exact if_21 (by omega) | exact if_12 (by omega))]; have e9 := ln9; simp only [show S.a 12 m.toNat = S0.a 12 m.toNat by omega, show S.a 11 m.toNat = S0.a 11 m.toNat by omega, show S.a 13 m.toNat = S0.a 13 m.toNat by omega, show S.a 14 m.toNat = S0.a 14 m.toNat by omega, (pkR_fr (b := 4) hF rfl)] at e9; omega), rfl⟩) 
    · refine r_load (i := 51) (u := 4) (w := 0) rfl rfl rfl ?_
      refine r_const (i := 52) (u := 1) (z := 1) rfl rfl ?_
      refine r_iadd (i := 53) rfl ?_
      refine r_goto (i := 54) (v := 56) rfl ?_
      have h821 := hI556.b0
      have h822 := hI556.b1
      refine r_call (i := 56) (u := 8) (v := 171) (w := 0) (b := 0) (na := 514) (C2 := xC171) (as := [(2, 33), vi (bh + 1)]) (s := []) rfl rfl rfl rfl rfl rfl rfl (sp171 (lc := bh + 1) hI556 ⟨by omega, by omega⟩ (by omega) (by omega) e555 (by omega)) (fun r823 S824 hq825 => ?_)
      obtain ⟨rfl, h826, h827, h828, wq829, e830, hI831, hF832, hR833⟩ := hq825
      have hF834 := hF559.trans hF832 rfl rfl
      have hR835 := hR560.trans hR833 rfl
      have e836 := FAx.fr e561 hF832 rfl rfl
      refine Or.inl ⟨rfl, ?_⟩
      refine r_load (i := 57) (u := 0) (w := 2) rfl rfl rfl ?_
      refine r_getf (i := 58) (v := 3) (w := 8) (x := (2, 22)) rfl ly33 rfl rfl fun _ => ?_
      refine r_getf (i := 59) (v := 1) (w := 4) (x := (2, 24)) rfl ly22 rfl rfl fun _ => ?_
      refine r_load (i := 60) (u := 1) (w := 0) rfl rfl rfl ?_
      refine a_int (i := 61) rfl ly24 rfl (by omega) (by omega) fun h839 => ?_
      have h840 := hI831.a ta24 k.toNat
      have h841 : S824.a 24 k.toNat = S550.a 24 k.toNat := hF832.a rfl _
      have h842 : S550.a 24 k.toNat = S.a 24 k.toNat := hF557.a rfl _
      have h843 : S.a 24 k.toNat = S0.a 24 k.toNat := hF.a rfl _
      rcases (show (S824.a 24 k.toNat) = 0 ∨ (S824.a 24 k.toNat) = 1 ∨ (S824.a 24 k.toNat) = 2 ∨ (S824.a 24 k.toNat) = 3 by omega) with h844 | h845 | h846 | h847
      · refine r_swK (i := 62) (u := 0) (v := 102) (k := 0) (t := 63) rfl rfl h844 (by decide) (by decide) rfl ?_
        refine r_load (i := 63) (u := 0) (w := 2) rfl rfl rfl ?_
        refine r_load (i := 64) (u := 1) (w := 0) rfl rfl rfl ?_
        refine r_load (i := 65) (u := 0) (w := 2) rfl rfl rfl ?_
        refine r_getf (i := 66) (v := 1) (w := 8) (x := (2, 9)) rfl ly33 rfl rfl fun _ => ?_
        refine r_getf (i := 67) (v := 4) (w := 2) (x := (2, 13)) rfl ly9 rfl rfl fun _ => ?_
        refine r_load (i := 68) (u := 2) (w := 0) rfl rfl rfl ?_
        refine a_int (i := 69) rfl ly13 rfl (by omega) (by omega) fun h850 => ?_
        have kp851 := hI831.k13 m.toNat
        have h852 : S824.a 13 m.toNat = S550.a 13 m.toNat := hF832.a rfl _
        have h853 : S550.a 13 m.toNat = S.a 13 m.toNat := hF557.a rfl _
        have h854 : S.a 13 m.toNat = S0.a 13 m.toNat := hF.a rfl _
        have h855 := hI831.b0
        have h856 := hI831.b1
        refine r_call (i := 70) (u := 8) (v := 142) (w := 0) (b := 0) (na := 2051) (C2 := xC142) (as := [(2, 33), vi k, vi (S824.a 13 m.toNat)]) (s := []) rfl rfl rfl rfl rfl rfl rfl (sp142 (k := k) (p := S824.a 13 m.toNat) hI831 ⟨by omega, by omega⟩ ⟨by omega, by omega⟩ (by omega) (by omega) e830 (by omega)) (fun r857 S858 hq859 => ?_)
        obtain ⟨rfl, h860, h861, wk862, e863, hI864, hF865, hR866⟩ := hq859
        have hF867 := hF834.trans hF865 rfl rfl
        have hR868 := hR835.trans hR866 rfl
        have e869 := FAx.fr e836 hF865 rfl rfl
        refine Or.inl ⟨rfl, ?_⟩
        refine r_load (i := 71) (u := 0) (w := 2) rfl rfl rfl ?_
        refine r_load (i := 72) (u := 0) (w := 2) rfl rfl rfl ?_
        refine r_getf (i := 73) (v := 1) (w := 8) (x := (2, 9)) rfl ly33 rfl rfl fun _ => ?_
        refine r_getf (i := 74) (v := 5) (w := 2) (x := (2, 14)) rfl ly9 rfl rfl fun _ => ?_
        refine r_load (i := 75) (u := 2) (w := 0) rfl rfl rfl ?_
        refine a_int (i := 76) rfl ly14 rfl (by omega) (by omega) fun h872 => ?_
        have h873 := hI864.a ta14 m.toNat
        have h874 : S858.a 14 m.toNat = S824.a 14 m.toNat := hF865.a rfl _
        have h875 : S824.a 14 m.toNat = S550.a 14 m.toNat := hF832.a rfl _
        have h876 : S550.a 14 m.toNat = S.a 14 m.toNat := hF557.a rfl _
        have h877 : S.a 14 m.toNat = S0.a 14 m.toNat := hF.a rfl _
        have h878 := hI864.b0
        have h879 := hI864.b1
        refine r_call (i := 77) (u := 8) (v := 172) (w := 0) (b := 0) (na := 1026) (C2 := xC172) (as := [(2, 33), vi (S858.a 14 m.toNat)]) (s := []) rfl rfl rfl rfl rfl rfl rfl (sp172 (k := S858.a 14 m.toNat) hI864 ⟨by omega, by omega⟩ (by omega) (by omega) e863 (by omega)) (fun r880 S881 hq882 => ?_)
        obtain ⟨rfl, h883, h884, wq885, e886, hI887, hF888, hR889⟩ := hq882
        have hF890 := hF867.trans hF888 rfl rfl
        have hR891 := hR868.trans hR889 rfl
        have e892 := FAx.fr e869 hF888 rfl rfl
        refine Or.inl ⟨rfl, ?_⟩
        refine r_goto (i := 78) (v := 116) rfl ?_
        have h893 : S881.f 33 12 = S858.f 33 12 := hF888.f rfl
        have h894 : S858.f 33 12 = S824.f 33 12 := hF865.f rfl
        have h895 := hI887.b1
        have h896 : S881.f 33 13 = S858.f 33 13 := hF888.f rfl
        have h897 : S858.f 33 13 = S824.f 33 13 := hF865.f rfl
        have h898 := hI887.b0
        exact lp166_116 h_k p_0 p_1 hd S881 hI887 hF890 hR891 e886 e892 m th bh g0 ⟨by omega, by omega⟩ ⟨by omega, by omega⟩ ⟨by omega, by omega⟩ ⟨by omega, by omega⟩ (by omega) (by omega) (by omega) (by exact q_2) (by exact q_3) (by exact q_4) (by exact q_5) (by intro w9 hw0 hp9; obtain ⟨hwh, hq9⟩ := cW_hd whd554 (q_6 _ hw0 hp9) hp9; have ln9 := cW_ln hwh (by omega); have hw1 := wq829 _ hwh; have hw2 := wk862 _ hw1 (okQ_e (by simp only [g_an, g_ak, g_ub, g_su, g_di, g_ah, g_sc, g_mx, g_ei, g_ec, g_by, g_mv, g_dp, g_op, g_oB, g_oE, g_pt, g_cl, g_m2, g_mb, g_fd, g_gf, g_om, g_20, g_pu, g_l1, g_lv, g_cs, g_bx, g_ld, g_ao, g_a0]) hq9); have hw3 := wq885 _ hw2; exact ⟨cW_c hw3 (ov1_0 (congrArg acX (by omega)) (by omega) (pkR_fr (b := 4) hF rfl) (by omega) (by omega) (by first | exact if_21 (by omega) | exact if_12 (by omega)) (by rw [show wdA (S0.a 13 m.toNat) 4 = bh - 1 by rw [q_4]; omega]; omega) (by omega) ((pkR_fr (b := 4) hF832 rfl).trans ((pkR_fr (b := 4) hF557 rfl).trans (pkR_fr (b := 4) hF rfl))) (by omega) ((pkR_fr (b := 4) hF865 rfl).trans ((pkR_fr (b := 4) hF832 rfl).trans ((pkR_fr (b := 4) hF557 rfl).trans (pkR_fr (b := 4) hF rfl)))) (by omega)), (by unfold ovA; rw [← ovH_eq (by first | exact if_21 (by omega) | exact if_12 (by omega))]; have e9 := ln9; simp only [show S.a 12 m.toNat = S0.a 12 m.toNat by omega, show S.a 11 m.toNat = S0.a 11 m.toNat by omega, show S.a 13 m.toNat = S0.a 13 m.toNat by omega, show S.a 14 m.toNat = S0.a 14 m.toNat by omega, (pkR_fr (b := 4) hF rfl)] at e9; omega), rfl⟩) 
      · refine r_swK (i := 62) (u := 0) (v := 102) (k := 1) (t := 79) rfl rfl h845 (by decide) (by decide) rfl ?_
        refine r_load (i := 79) (u := 0) (w := 2) rfl rfl rfl ?_
        refine r_load (i := 80) (u := 1) (w := 0) rfl rfl rfl ?_
        refine r_str (i := 81) (v := 31) rfl ?_
        have h899 := slv31
        have h900 := hI831.b0
        have h901 := hI831.b1
        refine r_call (i := 82) (u := 8) (v := 141) (w := 0) (b := 0) (na := 771) (C2 := xC141) (as := [(2, 33), vi k, (6, 31)]) (s := []) rfl rfl rfl rfl rfl rfl rfl (sp141 (k := k) (s := 31) hI831 ⟨by omega, by omega⟩ ⟨by decide, by decide⟩ (by omega) (by omega) e830 (by omega)) (fun r902 S903 hq904 => ?_)
        obtain ⟨rfl, h905, h906, wk907, e908, hI909, hF910, hR911⟩ := hq904
        have hF912 := hF834.trans hF910 rfl rfl
        have hR913 := hR835.trans hR911 rfl
        have e914 := FAx.fr e836 hF910 rfl rfl
        refine Or.inl ⟨rfl, ?_⟩
        refine r_load (i := 83) (u := 0) (w := 2) rfl rfl rfl ?_
        refine r_load (i := 84) (u := 0) (w := 2) rfl rfl rfl ?_
        refine r_getf (i := 85) (v := 1) (w := 8) (x := (2, 9)) rfl ly33 rfl rfl fun _ => ?_
        refine r_getf (i := 86) (v := 5) (w := 2) (x := (2, 14)) rfl ly9 rfl rfl fun _ => ?_
        refine r_load (i := 87) (u := 2) (w := 0) rfl rfl rfl ?_
        refine a_int (i := 88) rfl ly14 rfl (by omega) (by omega) fun h917 => ?_
        have h918 := hI909.a ta14 m.toNat
        have h919 : S903.a 14 m.toNat = S824.a 14 m.toNat := hF910.a rfl _
        have h920 : S824.a 14 m.toNat = S550.a 14 m.toNat := hF832.a rfl _
        have h921 : S550.a 14 m.toNat = S.a 14 m.toNat := hF557.a rfl _
        have h922 : S.a 14 m.toNat = S0.a 14 m.toNat := hF.a rfl _
        have h923 := hI909.b0
        have h924 := hI909.b1
        refine r_call (i := 89) (u := 8) (v := 172) (w := 0) (b := 0) (na := 1026) (C2 := xC172) (as := [(2, 33), vi (S903.a 14 m.toNat)]) (s := []) rfl rfl rfl rfl rfl rfl rfl (sp172 (k := S903.a 14 m.toNat) hI909 ⟨by omega, by omega⟩ (by omega) (by omega) e908 (by omega)) (fun r925 S926 hq927 => ?_)
        obtain ⟨rfl, h928, h929, wq930, e931, hI932, hF933, hR934⟩ := hq927
        have hF935 := hF912.trans hF933 rfl rfl
        have hR936 := hR913.trans hR934 rfl
        have e937 := FAx.fr e914 hF933 rfl rfl
        refine Or.inl ⟨rfl, ?_⟩
        refine r_goto (i := 90) (v := 116) rfl ?_
        have h938 : S926.f 33 12 = S903.f 33 12 := hF933.f rfl
        have h939 : S903.f 33 12 = S824.f 33 12 := hF910.f rfl
        have h940 := hI932.b1
        have h941 : S926.f 33 13 = S903.f 33 13 := hF933.f rfl
        have h942 : S903.f 33 13 = S824.f 33 13 := hF910.f rfl
        have h943 := hI932.b0
        exact lp166_116 h_k p_0 p_1 hd S926 hI932 hF935 hR936 e931 e937 m th bh g0 ⟨by omega, by omega⟩ ⟨by omega, by omega⟩ ⟨by omega, by omega⟩ ⟨by omega, by omega⟩ (by omega) (by omega) (by omega) (by exact q_2) (by exact q_3) (by exact q_4) (by exact q_5) (by intro w9 hw0 hp9; obtain ⟨hwh, hq9⟩ := cW_hd whd554 (q_6 _ hw0 hp9) hp9; have ln9 := cW_ln hwh (by omega); have hw1 := wq829 _ hwh; have hw2 := wk907 _ hw1 (okQ_e (by simp only [g_an, g_ak, g_ub, g_su, g_di, g_ah, g_sc, g_mx, g_ei, g_ec, g_by, g_mv, g_dp, g_op, g_oB, g_oE, g_pt, g_cl, g_m2, g_mb, g_fd, g_gf, g_om, g_20, g_pu, g_l1, g_lv, g_cs, g_bx, g_ld, g_ao, g_a0]) hq9); have hw3 := wq930 _ hw2; exact ⟨cW_c hw3 (ov1_1 (congrArg acX (by omega)) (by omega) (pkR_fr (b := 4) hF rfl) (by omega) (by omega) (by first | exact if_21 (by omega) | exact if_12 (by omega)) (by rw [show wdA (S0.a 13 m.toNat) 4 = bh - 1 by rw [q_4]; omega]; omega) (by omega) ((pkR_fr (b := 4) hF910 rfl).trans ((pkR_fr (b := 4) hF832 rfl).trans ((pkR_fr (b := 4) hF557 rfl).trans (pkR_fr (b := 4) hF rfl)))) (by omega)), (by unfold ovA; rw [← ovH_eq (by first | exact if_21 (by omega) | exact if_12 (by omega))]; have e9 := ln9; simp only [show S.a 12 m.toNat = S0.a 12 m.toNat by omega, show S.a 11 m.toNat = S0.a 11 m.toNat by omega, show S.a 13 m.toNat = S0.a 13 m.toNat by omega, show S.a 14 m.toNat = S0.a 14 m.toNat by omega, (pkR_fr (b := 4) hF rfl)] at e9; omega), rfl⟩) 
      · refine r_swK (i := 62) (u := 0) (v := 102) (k := 2) (t := 91) rfl rfl h846 (by decide) (by decide) rfl ?_
        refine r_load (i := 91) (u := 0) (w := 2) rfl rfl rfl ?_
        refine r_load (i := 92) (u := 2) (w := 0) rfl rfl rfl ?_
        have h944 := hI831.b0
        have h945 := hI831.b1
        have h946 : S824.a 13 m.toNat = S550.a 13 m.toNat := hF832.a rfl _
        have h947 : S550.a 13 m.toNat = S.a 13 m.toNat := hF557.a rfl _
        have h948 : S.a 13 m.toNat = S0.a 13 m.toNat := hF.a rfl _
        have h949 := hI831.a ta14 m.toNat
        have h950 : S824.a 14 m.toNat = S550.a 14 m.toNat := hF832.a rfl _
        have h951 : S550.a 14 m.toNat = S.a 14 m.toNat := hF557.a rfl _
        have h952 : S.a 14 m.toNat = S0.a 14 m.toNat := hF.a rfl _
        have h953 := hI831.a ta10 m.toNat
        have h954 : S824.a 10 m.toNat = S550.a 10 m.toNat := hF832.a rfl _
        have h955 : S550.a 10 m.toNat = S.a 10 m.toNat := hF557.a rfl _
        have h956 : S.a 10 m.toNat = S0.a 10 m.toNat := hF.a rfl _
        have h957 := hI831.a ta10 m.toNat
        refine r_call (i := 93) (u := 8) (v := 145) (w := 0) (b := 0) (na := 770) (C2 := xC145) (as := [(2, 33), vi m]) (s := []) rfl rfl rfl rfl rfl rfl rfl (sp145 (m := m) hI831 ⟨by omega, by omega⟩ (by omega) (by omega) e830 e836 (by omega)) (fun r958 S959 hq960 => ?_)
        obtain ⟨rfl, h961, h962, wk963, e964, e965, hI966, hF967, hR968⟩ := hq960
        have hF969 := hF834.trans hF967 rfl rfl
        have hR970 := hR835.trans hR968 rfl
        refine Or.inl ⟨rfl, ?_⟩
        refine r_load (i := 94) (u := 0) (w := 2) rfl rfl rfl ?_
        refine r_load (i := 95) (u := 0) (w := 2) rfl rfl rfl ?_
        refine r_getf (i := 96) (v := 1) (w := 8) (x := (2, 9)) rfl ly33 rfl rfl fun _ => ?_
        refine r_getf (i := 97) (v := 5) (w := 2) (x := (2, 14)) rfl ly9 rfl rfl fun _ => ?_
        refine r_load (i := 98) (u := 2) (w := 0) rfl rfl rfl ?_
        refine a_int (i := 99) rfl ly14 rfl (by omega) (by omega) fun h973 => ?_
        have h974 := hI966.a ta14 m.toNat
        have h975 : S959.a 14 m.toNat = S824.a 14 m.toNat := hF967.a rfl _
        have h976 : S824.a 14 m.toNat = S550.a 14 m.toNat := hF832.a rfl _
        have h977 : S550.a 14 m.toNat = S.a 14 m.toNat := hF557.a rfl _
        have h978 : S.a 14 m.toNat = S0.a 14 m.toNat := hF.a rfl _
        have h979 := hI966.b1
        refine r_call (i := 100) (u := 8) (v := 157) (w := 0) (b := 0) (na := 770) (C2 := xC157) (as := [(2, 33), vi (S959.a 14 m.toNat)]) (s := []) rfl rfl rfl rfl rfl rfl rfl (sp157 (k := S959.a 14 m.toNat) hI966 ⟨by omega, by omega⟩ (by omega)  (by omega)) (fun r980 S981 hq982 => ?_)
        obtain ⟨rfl, h983, wq984, hI985, hF986, hR987⟩ := hq982
        have hF988 := hF969.trans hF986 rfl rfl
        have hR989 := hR970.trans hR987 rfl
        have e990 := PLx.fr e964 hF986 hR987 rfl rfl rfl
        have e991 := FAx.fr e965 hF986 rfl rfl
        have e992 := PTx.fr e964 hF986 hR987 rfl rfl rfl
        refine Or.inl ⟨rfl, ?_⟩
        refine r_goto (i := 101) (v := 116) rfl ?_
        have h993 : S981.f 33 12 = S959.f 33 12 := hF986.f rfl
        have h994 : S959.f 33 12 = S824.f 33 12 := hF967.f rfl
        have h995 := hI985.b1
        have h996 : S981.f 33 13 = S959.f 33 13 := hF986.f rfl
        have h997 : S959.f 33 13 = S824.f 33 13 := hF967.f rfl
        have h998 := hI985.b0
        have h999 : S981.f 31 1 = S959.f 31 1 := hF986.f rfl
        exact lp166_116 h_k p_0 p_1 hd S981 hI985 hF988 hR989 e990 e991 m th bh g0 ⟨by omega, by omega⟩ ⟨by omega, by omega⟩ ⟨by omega, by omega⟩ ⟨by omega, by omega⟩ (by omega) (by omega) (by omega) (by exact q_2) (by exact q_3) (by exact q_4) (by exact q_5) (by intro w9 hw0 hp9; obtain ⟨hwh, hq9⟩ := cW_hd whd554 (q_6 _ hw0 hp9) hp9; have ln9 := cW_ln hwh (by omega); have hw1 := wq829 _ hwh; have hw2 := wk963 _ hw1 (okQ_e (by simp only [g_an, g_ak, g_ub, g_su, g_di, g_ah, g_sc, g_mx, g_ei, g_ec, g_by, g_mv, g_dp, g_op, g_oB, g_oE, g_pt, g_cl, g_m2, g_mb, g_fd, g_gf, g_om, g_20, g_pu, g_l1, g_lv, g_cs, g_bx, g_ld, g_ao, g_a0]) hq9); have hw3 := wq984 _ hw2; exact ⟨cW_c hw3 (ov1_2 (congrArg acX (by omega)) (by omega) (pkR_fr (b := 4) hF rfl) (by omega) (by omega) (by first | exact if_21 (by omega) | exact if_12 (by omega)) (by rw [show wdA (S0.a 13 m.toNat) 4 = bh - 1 by rw [q_4]; omega]; omega) (by omega) ((pkR_fr (b := 4) hF832 rfl).trans ((pkR_fr (b := 4) hF557 rfl).trans (pkR_fr (b := 4) hF rfl))) (by omega) (by omega) (by rw [((dK_fr hF832 rfl rfl).trans ((dK_fr hF557 rfl rfl).trans (dK_fr hF rfl rfl))), show S824.a 10 m.toNat = S0.a 10 m.toNat by omega]) (by rw [((dK_fr hF832 rfl rfl).trans ((dK_fr hF557 rfl rfl).trans (dK_fr hF rfl rfl))), show S824.a 10 m.toNat = S0.a 10 m.toNat by omega]) (by omega)), (by unfold ovA; rw [← ovH_eq (by first | exact if_21 (by omega) | exact if_12 (by omega))]; have e9 := ln9; simp only [show S.a 12 m.toNat = S0.a 12 m.toNat by omega, show S.a 11 m.toNat = S0.a 11 m.toNat by omega, show S.a 13 m.toNat = S0.a 13 m.toNat by omega, show S.a 14 m.toNat = S0.a 14 m.toNat by omega, (pkR_fr (b := 4) hF rfl)] at e9; omega), rfl⟩) 
      · refine r_swK (i := 62) (u := 0) (v := 102) (k := 3) (t := 102) rfl rfl h847 (by decide) (by decide) rfl ?_
        refine r_load (i := 102) (u := 0) (w := 2) rfl rfl rfl ?_
        refine r_load (i := 103) (u := 1) (w := 0) rfl rfl rfl ?_
        refine r_str (i := 104) (v := 33) rfl ?_
        have h1000 := slv33
        have h1001 := hI831.b0
        have h1002 := hI831.b1
        refine r_call (i := 105) (u := 8) (v := 141) (w := 0) (b := 0) (na := 771) (C2 := xC141) (as := [(2, 33), vi k, (6, 33)]) (s := []) rfl rfl rfl rfl rfl rfl rfl (sp141 (k := k) (s := 33) hI831 ⟨by omega, by omega⟩ ⟨by decide, by decide⟩ (by omega) (by omega) e830 (by omega)) (fun r1003 S1004 hq1005 => ?_)
        obtain ⟨rfl, h1006, h1007, wk1008, e1009, hI1010, hF1011, hR1012⟩ := hq1005
        have hF1013 := hF834.trans hF1011 rfl rfl
        have hR1014 := hR835.trans hR1012 rfl
        have e1015 := FAx.fr e836 hF1011 rfl rfl
        refine Or.inl ⟨rfl, ?_⟩
        refine r_load (i := 106) (u := 0) (w := 2) rfl rfl rfl ?_
        refine r_load (i := 107) (u := 2) (w := 0) rfl rfl rfl ?_
        have h1016 := hI1010.b0
        have h1017 := hI1010.b1
        have h1018 := hI1010.a ta10 m.toNat
        have h1019 : S1004.a 10 m.toNat = S824.a 10 m.toNat := hF1011.a rfl _
        have h1020 : S824.a 10 m.toNat = S550.a 10 m.toNat := hF832.a rfl _
        have h1021 : S550.a 10 m.toNat = S.a 10 m.toNat := hF557.a rfl _
        have h1022 : S.a 10 m.toNat = S0.a 10 m.toNat := hF.a rfl _
        have h1023 : S1004.a 13 m.toNat = S824.a 13 m.toNat := hF1011.a rfl _
        have h1024 : S824.a 13 m.toNat = S550.a 13 m.toNat := hF832.a rfl _
        have h1025 : S550.a 13 m.toNat = S.a 13 m.toNat := hF557.a rfl _
        have h1026 : S.a 13 m.toNat = S0.a 13 m.toNat := hF.a rfl _
        have h1027 := hI1010.a ta14 m.toNat
        have h1028 : S1004.a 14 m.toNat = S824.a 14 m.toNat := hF1011.a rfl _
        have h1029 : S824.a 14 m.toNat = S550.a 14 m.toNat := hF832.a rfl _
        have h1030 : S550.a 14 m.toNat = S.a 14 m.toNat := hF557.a rfl _
        have h1031 : S.a 14 m.toNat = S0.a 14 m.toNat := hF.a rfl _
        have h1032 := hI1010.a ta10 m.toNat
        refine r_call (i := 108) (u := 8) (v := 144) (w := 0) (b := 0) (na := 770) (C2 := xC144) (as := [(2, 33), vi m]) (s := []) rfl rfl rfl rfl rfl rfl rfl (sp144 (m := m) hI1010 ⟨by omega, by omega⟩ (by omega) (by omega) e1009 (by omega)) (fun r1033 S1034 hq1035 => ?_)
        obtain ⟨rfl, h1036, h1037, wk1038, e1039, hI1040, hF1041, hR1042⟩ := hq1035
        have hF1043 := hF1013.trans hF1041 rfl rfl
        have hR1044 := hR1014.trans hR1042 rfl
        have e1045 := FAx.fr e1015 hF1041 rfl rfl
        refine Or.inl ⟨rfl, ?_⟩
        refine r_load (i := 109) (u := 0) (w := 2) rfl rfl rfl ?_
        refine r_load (i := 110) (u := 0) (w := 2) rfl rfl rfl ?_
        refine r_getf (i := 111) (v := 1) (w := 8) (x := (2, 9)) rfl ly33 rfl rfl fun _ => ?_
        refine r_getf (i := 112) (v := 5) (w := 2) (x := (2, 14)) rfl ly9 rfl rfl fun _ => ?_
        refine r_load (i := 113) (u := 2) (w := 0) rfl rfl rfl ?_
        refine a_int (i := 114) rfl ly14 rfl (by omega) (by omega) fun h1048 => ?_
        have h1049 := hI1040.a ta14 m.toNat
        have h1050 : S1034.a 14 m.toNat = S1004.a 14 m.toNat := hF1041.a rfl _
        have h1051 : S1004.a 14 m.toNat = S824.a 14 m.toNat := hF1011.a rfl _
        have h1052 : S824.a 14 m.toNat = S550.a 14 m.toNat := hF832.a rfl _
        have h1053 : S550.a 14 m.toNat = S.a 14 m.toNat := hF557.a rfl _
        have h1054 : S.a 14 m.toNat = S0.a 14 m.toNat := hF.a rfl _
        have h1055 := hI1040.b1
        refine r_call (i := 115) (u := 8) (v := 157) (w := 0) (b := 0) (na := 770) (C2 := xC157) (as := [(2, 33), vi (S1034.a 14 m.toNat)]) (s := []) rfl rfl rfl rfl rfl rfl rfl (sp157 (k := S1034.a 14 m.toNat) hI1040 ⟨by omega, by omega⟩ (by omega)  (by omega)) (fun r1056 S1057 hq1058 => ?_)
        obtain ⟨rfl, h1059, wq1060, hI1061, hF1062, hR1063⟩ := hq1058
        have hF1064 := hF1043.trans hF1062 rfl rfl
        have hR1065 := hR1044.trans hR1063 rfl
        have e1066 := FAx.fr e1045 hF1062 rfl rfl
        have e1067 := PLx.fr e1039 hF1062 hR1063 rfl rfl rfl
        have e1068 := PTx.fr e1039 hF1062 hR1063 rfl rfl rfl
        refine Or.inl ⟨rfl, ?_⟩
        have h1069 : S1057.f 33 12 = S1034.f 33 12 := hF1062.f rfl
        have h1070 : S1034.f 33 12 = S1004.f 33 12 := hF1041.f rfl
        have h1071 : S1004.f 33 12 = S824.f 33 12 := hF1011.f rfl
        have h1072 := hI1061.b1
        have h1073 : S1057.f 33 13 = S1034.f 33 13 := hF1062.f rfl
        have h1074 : S1034.f 33 13 = S1004.f 33 13 := hF1041.f rfl
        have h1075 : S1004.f 33 13 = S824.f 33 13 := hF1011.f rfl
        have h1076 := hI1061.b0
        have h1077 : S1057.f 31 1 = S1034.f 31 1 := hF1062.f rfl
        exact lp166_116 h_k p_0 p_1 hd S1057 hI1061 hF1064 hR1065 e1067 e1066 m th bh g0 ⟨by omega, by omega⟩ ⟨by omega, by omega⟩ ⟨by omega, by omega⟩ ⟨by omega, by omega⟩ (by omega) (by omega) (by omega) (by exact q_2) (by exact q_3) (by exact q_4) (by exact q_5) (by intro w9 hw0 hp9; obtain ⟨hwh, hq9⟩ := cW_hd whd554 (q_6 _ hw0 hp9) hp9; have ln9 := cW_ln hwh (by omega); have hw1 := wq829 _ hwh; have hw2 := wk1008 _ hw1 (okQ_e (by simp only [g_an, g_ak, g_ub, g_su, g_di, g_ah, g_sc, g_mx, g_ei, g_ec, g_by, g_mv, g_dp, g_op, g_oB, g_oE, g_pt, g_cl, g_m2, g_mb, g_fd, g_gf, g_om, g_20, g_pu, g_l1, g_lv, g_cs, g_bx, g_ld, g_ao, g_a0]) hq9); have hw3 := wk1038 _ hw2 (okQ_e (by simp only [g_an, g_ak, g_ub, g_su, g_di, g_ah, g_sc, g_mx, g_ei, g_ec, g_by, g_mv, g_dp, g_op, g_oB, g_oE, g_pt, g_cl, g_m2, g_mb, g_fd, g_gf, g_om, g_20, g_pu, g_l1, g_lv, g_cs, g_bx, g_ld, g_ao, g_a0]) hq9); have hw4 := wq1060 _ hw3; exact ⟨cW_c hw4 (ov1_3 (congrArg acX (by omega)) (by omega) (pkR_fr (b := 4) hF rfl) (by omega) (by omega) (by first | exact if_21 (by omega) | exact if_12 (by omega)) (by rw [show wdA (S0.a 13 m.toNat) 4 = bh - 1 by rw [q_4]; omega]; omega) (by omega) ((pkR_fr (b := 4) hF1011 rfl).trans ((pkR_fr (b := 4) hF832 rfl).trans ((pkR_fr (b := 4) hF557 rfl).trans (pkR_fr (b := 4) hF rfl)))) (by rw [show S1004.a 10 m.toNat = S0.a 10 m.toNat by omega]; exact ((hF1011.a (b := 2) rfl _).trans ((hF832.a (b := 2) rfl _).trans ((hF557.a (b := 2) rfl _).trans (hF.a (b := 2) rfl _))))) (by omega) (by omega) (by omega) (by omega)), (by unfold ovA; rw [← ovH_eq (by first | exact if_21 (by omega) | exact if_12 (by omega))]; have e9 := ln9; simp only [show S.a 12 m.toNat = S0.a 12 m.toNat by omega, show S.a 11 m.toNat = S0.a 11 m.toNat by omega, show S.a 13 m.toNat = S0.a 13 m.toNat by omega, show S.a 14 m.toNat = S0.a 14 m.toNat by omega, (pkR_fr (b := 4) hF rfl)] at e9; omega), rfl⟩) 
set_option maxHeartbeats 4000000 in
/-- ProxyForge$Writer.override -/
theorem sp166 {G : xk} {S : yS} {d : Nat} (hI : yI S) {k : Int} (h_k : 0 ≤ k ∧ k ≤ 23) (p_0 : S.f 31 1 + 1144 ≤ 60000) (p_1 : S.f 34 1 + 179 ≤ 60000) (e_PL : PL S) (e_FA : FA S) (hd : 9 ≤ d) : yT xPr G LY xC166 0 [some ((2, 33)), some (vi k)] [] S d (fun r S' => r = (0, (0, 0)) ∧ (S.f 31 1 ≤ S'.f 31 1 ∧ S'.f 31 1 ≤ S.f 31 1 + 1144) ∧ (S.f 34 1 ≤ S'.f 34 1 ∧ S'.f 34 1 ≤ S.f 34 1 + 179) ∧ wP S S' (ovC (dK S) k) ∧ PL S' ∧ FA S' ∧ yI S' ∧ yFr [(31, 1), (33, 10), (33, 11), (33, 12), (33, 13), (33, 14), (33, 15), (34, 1), (36, 5)] [37, 100, 101, 102, 103, 105] S S' ∧ yRm [0, 1, 2, 3] S S') := by
  refine yT_pad 5 ?_
  show yT xPr G LY xC166 0 [some ((2, 33)), some (vi k), none, none, none, none, none] [] S d _
  obtain ⟨d, rfl⟩ : ∃ q, d = q + 1 := ⟨d - 1, by omega⟩
  have hF : yFr [(31, 1), (33, 10), (33, 11), (33, 12), (33, 13), (33, 14), (33, 15), (34, 1), (36, 5)] [37, 100, 101, 102, 103, 105] S S := yFr.refl S
  have hR : yRm [0, 1, 2, 3] S S := yRm.refl S
  have h1 := hI.b0
  have h2 := hI.b1
  refine r_load (i := 0) (u := 0) (w := 2) rfl rfl rfl ?_
  refine r_getf (i := 1) (v := 3) (w := 8) (x := (2, 22)) rfl ly33 rfl rfl fun _ => ?_
  refine r_getf (i := 2) (v := 0) (w := 4) (x := (2, 23)) rfl ly22 rfl rfl fun _ => ?_
  refine r_load (i := 3) (u := 1) (w := 0) rfl rfl rfl ?_
  refine a_int (i := 4) rfl ly23 rfl (by omega) (by omega) fun h5 => ?_
  have h6 := hI.a ta23 k.toNat
  refine r_store (i := 5) (u := 2) (w := 0) (L1 := [some ((2, 33)), some (vi k), some (vi (S.a 23 k.toNat)), none, none, none, none]) rfl rfl rfl rfl ?_
  refine r_load (i := 6) (u := 0) (w := 2) rfl rfl rfl ?_
  refine r_getf (i := 7) (v := 3) (w := 8) (x := (2, 22)) rfl ly33 rfl rfl fun _ => ?_
  refine r_getf (i := 8) (v := 2) (w := 4) (x := (2, 25)) rfl ly22 rfl rfl fun _ => ?_
  refine r_load (i := 9) (u := 1) (w := 0) rfl rfl rfl ?_
  refine a_int (i := 10) rfl ly25 rfl (by omega) (by omega) fun h9 => ?_
  have h10 := hI.a ta25 k.toNat
  refine r_store (i := 11) (u := 3) (w := 0) (L1 := [some ((2, 33)), some (vi k), some (vi (S.a 23 k.toNat)), some (vi (S.a 25 k.toNat)), none, none, none]) rfl rfl rfl rfl ?_
  refine r_const (i := 12) (u := 1) (z := 1) rfl rfl ?_
  refine r_load (i := 13) (u := 0) (w := 2) rfl rfl rfl ?_
  refine r_getf (i := 14) (v := 1) (w := 8) (x := (2, 9)) rfl ly33 rfl rfl fun _ => ?_
  refine r_getf (i := 15) (v := 4) (w := 2) (x := (2, 13)) rfl ly9 rfl rfl fun _ => ?_
  refine r_load (i := 16) (u := 2) (w := 0) rfl rfl rfl ?_
  refine a_int (i := 17) rfl ly13 rfl (by omega) (by omega) fun h13 => ?_
  have kp14 := hI.k13 (S.a 23 k.toNat).toNat
  refine r_call (i := 18) (u := 65535) (v := 71) (w := 0) (b := 2) (na := 769) (C2 := xC71) (as := [vi (S.a 13 (S.a 23 k.toNat).toNat)]) (s := [vi 1]) rfl rfl rfl rfl rfl rfl rfl (sp71 (p := S.a 13 (S.a 23 k.toNat).toNat) hI ⟨by omega, by omega⟩   (by omega)) (fun r15 S16 hq17 => ?_)
  obtain ⟨z18, rfl, h19, h20, wda21, rfl⟩ := hq17
  refine Or.inr (Or.inl ⟨rfl, ?_⟩)
  refine r_iadd (i := 19) rfl ?_
  refine r_store (i := 20) (u := 4) (w := 0) (L1 := [some ((2, 33)), some (vi k), some (vi (S.a 23 k.toNat)), some (vi (S.a 25 k.toNat)), some (vi (1 + z18)), none, none]) rfl rfl rfl rfl ?_
  refine r_load (i := 21) (u := 0) (w := 2) rfl rfl rfl ?_
  refine r_getf (i := 22) (v := 3) (w := 8) (x := (2, 22)) rfl ly33 rfl rfl fun _ => ?_
  refine r_getf (i := 23) (v := 1) (w := 4) (x := (2, 24)) rfl ly22 rfl rfl fun _ => ?_
  refine r_load (i := 24) (u := 1) (w := 0) rfl rfl rfl ?_
  refine a_int (i := 25) rfl ly24 rfl (by omega) (by omega) fun h24 => ?_
  have h25 := hI.a ta24 k.toNat
  refine z_ne (i := 26) (v := 36) rfl ⟨by omega, by omega⟩ (fun h26 => ?_) (fun h27 => ?_)
  · refine r_const (i := 36) (u := 0) (z := 0) rfl rfl ?_
    exact lp166_37 h_k p_0 p_1 hd S hI hF hR e_PL e_FA (S.a 23 k.toNat) (S.a 25 k.toNat) (1 + z18) 0 ⟨by omega, by omega⟩ ⟨by omega, by omega⟩ ⟨by omega, by omega⟩ ⟨by omega, by omega⟩ (by omega) (by omega) (by rfl) (by rfl) (by exact congrArg (1 + ·) wda21) (by first | exact (cif_n (fun q9 => absurd q9.1 (show ¬ S.a 24 k.toNat = 0 by omega))).symm) (by exact fun w9 hw0 hp9 => hw0) 
  · refine r_load (i := 27) (u := 0) (w := 2) rfl rfl rfl ?_
    refine r_getf (i := 28) (v := 1) (w := 8) (x := (2, 9)) rfl ly33 rfl rfl fun _ => ?_
    refine r_load (i := 29) (u := 2) (w := 0) rfl rfl rfl ?_
    refine r_load (i := 30) (u := 3) (w := 0) rfl rfl rfl ?_
    refine r_const (i := 31) (u := 1) (z := 1) rfl rfl ?_
    refine r_call (i := 32) (u := 2) (v := 87) (w := 0) (b := 0) (na := 1284) (C2 := xC87) (as := [(2, 9), vi (S.a 23 k.toNat), vi (S.a 25 k.toNat), vi 1]) (s := []) rfl rfl rfl rfl rfl rfl rfl (sp87 (m := S.a 23 k.toNat) (h0 := S.a 25 k.toNat) (t := 1) hI ⟨by omega, by omega⟩ ⟨by omega, by omega⟩ ⟨by omega, by omega⟩   (by omega)) (fun r29 S30 hq31 => ?_)
    obtain ⟨z32, rfl, h33, h34, ya35, na36, rfl⟩ := hq31
    refine Or.inr (Or.inl ⟨rfl, ?_⟩)
    refine z_ne (i := 33) (v := 36) rfl ⟨by omega, by omega⟩ (fun h37 => ?_) (fun h38 => ?_)
    · refine r_const (i := 36) (u := 0) (z := 0) rfl rfl ?_
      exact lp166_37 h_k p_0 p_1 hd S hI hF hR e_PL e_FA (S.a 23 k.toNat) (S.a 25 k.toNat) (1 + z18) 0 ⟨by omega, by omega⟩ ⟨by omega, by omega⟩ ⟨by omega, by omega⟩ ⟨by omega, by omega⟩ (by omega) (by omega) (by rfl) (by rfl) (by exact congrArg (1 + ·) wda21) (by first | exact (cif_y (show gdP (dK S) k from ⟨(show S.a 24 k.toNat = 0 by omega), na36 (by omega)⟩)).symm | exact (cif_n (fun q9 => ya35 (by omega) q9.2)).symm) (by exact fun w9 hw0 hp9 => hw0) 
    · refine r_const (i := 34) (u := 1) (z := 1) rfl rfl ?_
      refine r_goto (i := 35) (v := 37) rfl ?_
      exact lp166_37 h_k p_0 p_1 hd S hI hF hR e_PL e_FA (S.a 23 k.toNat) (S.a 25 k.toNat) (1 + z18) 1 ⟨by omega, by omega⟩ ⟨by omega, by omega⟩ ⟨by omega, by omega⟩ ⟨by omega, by omega⟩ (by omega) (by omega) (by rfl) (by rfl) (by exact congrArg (1 + ·) wda21) (by first | exact (cif_y (show gdP (dK S) k from ⟨(show S.a 24 k.toNat = 0 by omega), na36 (by omega)⟩)).symm | exact (cif_n (fun q9 => ya35 (by omega) q9.2)).symm) (by exact fun w9 hw0 hp9 => hw0) 
theorem lp143_65 {G : xk} {d : Nat} {S0 : yS}  (hd : 7 ≤ d + 1) : ∀ (n : Nat), ∀ (S : yS) (hI : yI S) (hF : yFr [(31, 1), (33, 7), (33, 8), (33, 9), (34, 1), (36, 5)] [37, 100, 101, 102, 103, 105] S0 S) (hR : yRm [0, 1, 2, 3] S0 S) (e_PL : PL S) (e_FA : FA S) (k : Int) (h_k : 0 ≤ k ∧ k ≤ 3) (q_0 : 10 ≤ S.f 31 1 ∧ S.f 31 1 ≤ 52 + 32 * k) (q_1 : S.f 34 1 ≤ 8 + 2 * k) (q_2 : bgL S0 S k) (q_3 : k ≤ S.f 17 7) (hn : 3 - k < (n : Nat)), yT xPr G LY xC143 65 [some ((2, 33)), some (vi k)] [] S (d + 1) (fun r S' => r = (0, (0, 0)) ∧ (10 ≤ S'.f 31 1 ∧ S'.f 31 1 ≤ 169) ∧ S'.f 34 1 ≤ 26 ∧ bgC S0 S' ∧ PL S' ∧ FA S' ∧ yI S' ∧ yFr [(31, 1), (33, 7), (33, 8), (33, 9), (34, 1), (36, 5)] [37, 100, 101, 102, 103, 105] S0 S' ∧ yRm [0, 1, 2, 3] S0 S') := by
  intro n
  induction n with
  | zero => intro S hI hF hR e_PL e_FA k h_k q_0 q_1 q_2 q_3 hn; exact absurd hn (by omega)
  | succ n ih =>
    intro S hI hF hR e_PL e_FA k h_k q_0 q_1 q_2 q_3 hn
    have h1 := hI.b0
    have h2 := hI.b1
    have h3 := hI.f tf17_7
    have h4 : S.f 17 7 = S0.f 17 7 := hF.f rfl
    refine r_load (i := 65) (u := 1) (w := 0) rfl rfl rfl ?_
    refine r_load (i := 66) (u := 0) (w := 2) rfl rfl rfl ?_
    refine r_getf (i := 67) (v := 2) (w := 8) (x := (2, 17)) rfl ly33 rfl rfl fun _ => ?_
    refine r_getf (i := 68) (v := 7) (w := 3) (x := vi (S.f 17 7)) rfl ly17 rfl rfl fun h6 => ?_
    have h6 : Rg (S.f 17 7) := h6
    refine c_ge (i := 69) (v := 83) rfl ⟨by omega, by omega⟩ ⟨by omega, by omega⟩ (fun h7 => ?_) (fun h8 => ?_)
    · refine r_load (i := 83) (u := 0) (w := 2) rfl rfl rfl ?_
      refine r_getf (i := 84) (v := 5) (w := 8) (x := (2, 34)) rfl ly33 rfl rfl fun _ => ?_
      refine r_const (i := 85) (u := 1) (z := 1) rfl rfl ?_
      refine r_call (i := 86) (u := 7) (v := 36) (w := 0) (b := 0) (na := 514) (C2 := xC36) (as := [(2, 34), vi 1]) (s := []) rfl rfl rfl rfl rfl rfl rfl (sp36_34 (b := 1) hI ⟨by omega, by omega⟩ (by omega)  (by omega)) (fun r10 S11 hq12 => ?_)
      obtain ⟨rfl, h13, btw14, hI15, hF16, hR17⟩ := hq12
      have hF18 := hF.trans hF16 rfl rfl
      have hR19 := hR.trans hR17 rfl
      have e20 := PLx.fr e_PL hF16 hR17 rfl rfl rfl
      have e21 := FAx.fr e_FA hF16 rfl rfl
      have e22 := PTx.fr e_PL hF16 hR17 rfl rfl rfl
      refine Or.inl ⟨rfl, ?_⟩
      refine r_load (i := 87) (u := 0) (w := 2) rfl rfl rfl ?_
      refine r_getf (i := 88) (v := 5) (w := 8) (x := (2, 34)) rfl ly33 rfl rfl fun _ => ?_
      refine r_const (i := 89) (u := 2) (z := 2) rfl rfl ?_
      have h24 := hI15.b1
      refine r_call (i := 90) (u := 7) (v := 36) (w := 0) (b := 0) (na := 514) (C2 := xC36) (as := [(2, 34), vi 2]) (s := []) rfl rfl rfl rfl rfl rfl rfl (sp36_34 (b := 2) hI15 ⟨by omega, by omega⟩ (by omega)  (by omega)) (fun r25 S26 hq27 => ?_)
      obtain ⟨rfl, h28, btw29, hI30, hF31, hR32⟩ := hq27
      have hF33 := hF18.trans hF31 rfl rfl
      have hR34 := hR19.trans hR32 rfl
      have e35 := PLx.fr e20 hF31 hR32 rfl rfl rfl
      have e36 := FAx.fr e21 hF31 rfl rfl
      have e37 := PTx.fr e22 hF31 hR32 rfl rfl rfl
      refine Or.inl ⟨rfl, ?_⟩
      refine r_load (i := 91) (u := 0) (w := 2) rfl rfl rfl ?_
      refine r_load (i := 92) (u := 0) (w := 2) rfl rfl rfl ?_
      refine r_getf (i := 93) (v := 6) (w := 8) (x := (2, 36)) rfl ly33 rfl rfl fun _ => ?_
      refine r_str (i := 94) (v := 10) rfl ?_
      have h39 := slv10
      have h40 := hI30.b0
      have h41 : S26.f 31 1 = S11.f 31 1 := hF31.f rfl
      have h42 : S11.f 31 1 = S.f 31 1 := hF16.f rfl
      refine r_call (i := 95) (u := 9) (v := 98) (w := 0) (b := 0) (na := 770) (C2 := xC98) (as := [(2, 36), (6, 10)]) (s := [(2, 33)]) rfl rfl rfl rfl rfl rfl rfl (sp98 (s := 10) hI30 ⟨by decide, by decide⟩ (by omega) e35 (by omega)) (fun r43 S44 hq45 => ?_)
      obtain ⟨z46, rfl, h47, h48, h49, wi50, e51, hI52, hF53, hR54⟩ := hq45
      have hF55 := hF33.trans hF53 rfl rfl
      have hR56 := hR34.trans hR54 rfl
      have e57 := FAx.fr e36 hF53 rfl rfl
      refine Or.inr (Or.inl ⟨rfl, ?_⟩)
      refine r_putI (i := 96) (v := 8) (w := 8) rfl ly33 rfl ⟨by omega, by omega⟩ ?_
      have hI59 := hI52.setf0 (b := 33) (w := 8) (z := z46) rfl rfl
      have hF61 := hF55.setf (b := 33) (w := 8) (z := z46) rfl
      have hR62 := hR56.setf (b := 33) (w := 8) (z := z46)
      have e63 := FAx.setf e57 (b := 33) (w := 8) (z := z46) rfl
      have e64 := PLx.setf e51 (b := 33) (w := 8) (z := z46) rfl
      have e65 := PTx.setf e51 (b := 33) (w := 8) (z := z46) rfl
      refine yT_gen (fun S58 hS60 => ?_)
      rw [hS60] at hI59 hF61 hR62 e63 e64 e65
      refine r_load (i := 97) (u := 0) (w := 2) rfl rfl rfl ?_
      refine r_load (i := 98) (u := 0) (w := 2) rfl rfl rfl ?_
      refine r_getf (i := 99) (v := 6) (w := 8) (x := (2, 36)) rfl ly33 rfl rfl fun _ => ?_
      refine r_str (i := 100) (v := 11) rfl ?_
      have h67 := slv11
      have h68 := hI59.b0
      have h69 : S58.f 31 1 = S44.f 31 1 := by rw [← hS60]; exact ysf_ne (by decide)
      refine r_call (i := 101) (u := 9) (v := 98) (w := 0) (b := 0) (na := 770) (C2 := xC98) (as := [(2, 36), (6, 11)]) (s := [(2, 33)]) rfl rfl rfl rfl rfl rfl rfl (sp98 (s := 11) hI59 ⟨by decide, by decide⟩ (by omega) e64 (by omega)) (fun r70 S71 hq72 => ?_)
      obtain ⟨z73, rfl, h74, h75, h76, wi77, e78, hI79, hF80, hR81⟩ := hq72
      have hF82 := hF61.trans hF80 rfl rfl
      have hR83 := hR62.trans hR81 rfl
      have e84 := FAx.fr e63 hF80 rfl rfl
      refine Or.inr (Or.inl ⟨rfl, ?_⟩)
      refine r_putI (i := 102) (v := 9) (w := 8) rfl ly33 rfl ⟨by omega, by omega⟩ ?_
      have hI86 := hI79.setf0 (b := 33) (w := 9) (z := z73) rfl rfl
      have hF88 := hF82.setf (b := 33) (w := 9) (z := z73) rfl
      have hR89 := hR83.setf (b := 33) (w := 9) (z := z73)
      have e90 := FAx.setf e84 (b := 33) (w := 9) (z := z73) rfl
      have e91 := PLx.setf e78 (b := 33) (w := 9) (z := z73) rfl
      have e92 := PTx.setf e78 (b := 33) (w := 9) (z := z73) rfl
      refine yT_gen (fun S85 hS87 => ?_)
      rw [hS87] at hI86 hF88 hR89 e90 e91 e92
      refine r_load (i := 103) (u := 0) (w := 2) rfl rfl rfl ?_
      refine r_getf (i := 104) (v := 5) (w := 8) (x := (2, 34)) rfl ly33 rfl rfl fun _ => ?_
      refine r_load (i := 105) (u := 0) (w := 2) rfl rfl rfl ?_
      have h94 : S85.f 33 8 = S71.f 33 8 := by rw [← hS87]; exact ysf_ne (by decide)
      have h95 : S71.f 33 8 = S58.f 33 8 := hF80.f rfl
      have h96 : S58.f 33 8 = z46 := by rw [← hS60]; exact ysf_eq
      refine r_getf (i := 106) (v := 8) (w := 8) (x := vi (S85.f 33 8)) rfl ly33 rfl rfl fun h97 => ?_
      have h97 : Rg (S85.f 33 8) := h97
      have h98 := hI86.b1
      have h99 : S85.f 34 1 = S71.f 34 1 := by rw [← hS87]; exact ysf_ne (by decide)
      have h100 : S71.f 34 1 = S58.f 34 1 := hF80.f rfl
      have h101 : S58.f 34 1 = S44.f 34 1 := by rw [← hS60]; exact ysf_ne (by decide)
      have h102 : S44.f 34 1 = S26.f 34 1 := hF53.f rfl
      refine r_call (i := 107) (u := 7) (v := 36) (w := 0) (b := 0) (na := 514) (C2 := xC36) (as := [(2, 34), vi (S85.f 33 8)]) (s := []) rfl rfl rfl rfl rfl rfl rfl (sp36_34 (b := S85.f 33 8) hI86 ⟨by omega, by omega⟩ (by omega)  (by omega)) (fun r103 S104 hq105 => ?_)
      obtain ⟨rfl, h106, btw107, hI108, hF109, hR110⟩ := hq105
      have hF111 := hF88.trans hF109 rfl rfl
      have hR112 := hR89.trans hR110 rfl
      have e113 := FAx.fr e90 hF109 rfl rfl
      have e114 := PLx.fr e91 hF109 hR110 rfl rfl rfl
      have e115 := PTx.fr e92 hF109 hR110 rfl rfl rfl
      refine Or.inl ⟨rfl, ?_⟩
      refine r_load (i := 108) (u := 0) (w := 2) rfl rfl rfl ?_
      refine r_getf (i := 109) (v := 5) (w := 8) (x := (2, 34)) rfl ly33 rfl rfl fun _ => ?_
      refine r_load (i := 110) (u := 0) (w := 2) rfl rfl rfl ?_
      have h117 : S104.f 33 9 = S85.f 33 9 := hF109.f rfl
      have h118 : S85.f 33 9 = z73 := by rw [← hS87]; exact ysf_eq
      refine r_getf (i := 111) (v := 9) (w := 8) (x := vi (S104.f 33 9)) rfl ly33 rfl rfl fun h119 => ?_
      have h119 : Rg (S104.f 33 9) := h119
      have h120 := hI108.b1
      refine r_call (i := 112) (u := 7) (v := 36) (w := 0) (b := 0) (na := 514) (C2 := xC36) (as := [(2, 34), vi (S104.f 33 9)]) (s := []) rfl rfl rfl rfl rfl rfl rfl (sp36_34 (b := S104.f 33 9) hI108 ⟨by omega, by omega⟩ (by omega)  (by omega)) (fun r121 S122 hq123 => ?_)
      obtain ⟨rfl, h124, btw125, hI126, hF127, hR128⟩ := hq123
      have hF129 := hF111.trans hF127 rfl rfl
      have hR130 := hR112.trans hR128 rfl
      have e131 := FAx.fr e113 hF127 rfl rfl
      have e132 := PLx.fr e114 hF127 hR128 rfl rfl rfl
      have e133 := PTx.fr e115 hF127 hR128 rfl rfl rfl
      refine Or.inl ⟨rfl, ?_⟩
      refine r_load (i := 113) (u := 0) (w := 2) rfl rfl rfl ?_
      refine r_getf (i := 114) (v := 5) (w := 8) (x := (2, 34)) rfl ly33 rfl rfl fun _ => ?_
      refine r_const (i := 115) (u := 0) (z := 0) rfl rfl ?_
      have h135 := hI126.b1
      refine r_call (i := 116) (u := 7) (v := 36) (w := 0) (b := 0) (na := 514) (C2 := xC36) (as := [(2, 34), vi 0]) (s := []) rfl rfl rfl rfl rfl rfl rfl (sp36_34 (b := 0) hI126 ⟨by omega, by omega⟩ (by omega)  (by omega)) (fun r136 S137 hq138 => ?_)
      obtain ⟨rfl, h139, btw140, hI141, hF142, hR143⟩ := hq138
      have hF144 := hF129.trans hF142 rfl rfl
      have hR145 := hR130.trans hR143 rfl
      have e146 := FAx.fr e131 hF142 rfl rfl
      have e147 := PLx.fr e132 hF142 hR143 rfl rfl rfl
      have e148 := PTx.fr e133 hF142 hR143 rfl rfl rfl
      refine Or.inl ⟨rfl, ?_⟩
      refine r_load (i := 117) (u := 0) (w := 2) rfl rfl rfl ?_
      refine r_getf (i := 118) (v := 5) (w := 8) (x := (2, 34)) rfl ly33 rfl rfl fun _ => ?_
      refine r_load (i := 119) (u := 0) (w := 2) rfl rfl rfl ?_
      refine r_call (i := 120) (u := 8) (v := 150) (w := 0) (b := 0) (na := 769) (C2 := xC150) (as := [(2, 33)]) (s := [(2, 34)]) rfl rfl rfl rfl rfl rfl rfl (sp150  hI141    (by omega)) (fun r150 S151 hq152 => ?_)
      obtain ⟨z153, rfl, h154, h155, occ156, rfl⟩ := hq152
      refine Or.inr (Or.inl ⟨rfl, ?_⟩)
      refine r_load (i := 121) (u := 0) (w := 2) rfl rfl rfl ?_
      refine r_getf (i := 122) (v := 3) (w := 8) (x := (2, 22)) rfl ly33 rfl rfl fun _ => ?_
      have h158 := hI141.f tf22_3
      have h159 : S137.f 22 3 = S122.f 22 3 := hF142.f rfl
      have h160 : S122.f 22 3 = S104.f 22 3 := hF127.f rfl
      have h161 : S104.f 22 3 = S85.f 22 3 := hF109.f rfl
      have h162 : S85.f 22 3 = S71.f 22 3 := by rw [← hS87]; exact ysf_ne (by decide)
      have h163 : S71.f 22 3 = S58.f 22 3 := hF80.f rfl
      have h164 : S58.f 22 3 = S44.f 22 3 := by rw [← hS60]; exact ysf_ne (by decide)
      have h165 : S44.f 22 3 = S26.f 22 3 := hF53.f rfl
      have h166 : S26.f 22 3 = S11.f 22 3 := hF31.f rfl
      have h167 : S11.f 22 3 = S.f 22 3 := hF16.f rfl
      have h168 : S.f 22 3 = S0.f 22 3 := hF.f rfl
      refine r_getf (i := 123) (v := 3) (w := 4) (x := vi (S137.f 22 3)) rfl ly22 rfl rfl fun h169 => ?_
      have h169 : Rg (S137.f 22 3) := h169
      refine r_iadd (i := 124) rfl ?_
      have h170 := hI141.b1
      refine r_call (i := 125) (u := 7) (v := 36) (w := 0) (b := 0) (na := 514) (C2 := xC36) (as := [(2, 34), vi (z153 + (S137.f 22 3))]) (s := []) rfl rfl rfl rfl rfl rfl rfl (sp36_34 (b := z153 + (S137.f 22 3)) hI141 ⟨by omega, by omega⟩ (by omega)  (by omega)) (fun r171 S172 hq173 => ?_)
      obtain ⟨rfl, h174, btw175, hI176, hF177, hR178⟩ := hq173
      have hF179 := hF144.trans hF177 rfl rfl
      have hR180 := hR145.trans hR178 rfl
      have e181 := FAx.fr e146 hF177 rfl rfl
      have e182 := PLx.fr e147 hF177 hR178 rfl rfl rfl
      have e183 := PTx.fr e148 hF177 hR178 rfl rfl rfl
      refine Or.inl ⟨rfl, ?_⟩
      have h184 := hI176.b0
      have h185 : S172.f 31 1 = S137.f 31 1 := hF177.f rfl
      have h186 : S137.f 31 1 = S122.f 31 1 := hF142.f rfl
      have h187 : S122.f 31 1 = S104.f 31 1 := hF127.f rfl
      have h188 : S104.f 31 1 = S85.f 31 1 := hF109.f rfl
      have h189 : S85.f 31 1 = S71.f 31 1 := by rw [← hS87]; exact ysf_ne (by decide)
      have h190 := hI176.b1
      exact r_ret0 (i := 126) rfl ⟨rfl, (by omega), (by omega), (by exact bgC_e q_2 (by omega) btw14 (sFl_fr hF16 rfl rfl) (sDp_fr hF16 rfl) btw29 (sFl_fr hF31 rfl rfl) (sDp_fr hF31 rfl) wi50 (hF53.f rfl) hS60 wi77 (hF80.f rfl) (hF80.f rfl) hS87 (by omega) btw107 (sFl_fr hF109 rfl rfl) (sDp_fr hF109 rfl) (by omega) btw125 (sFl_fr hF127 rfl rfl) (sDp_fr hF127 rfl) btw140 (sFl_fr hF142 rfl rfl) (sDp_fr hF142 rfl) btw175 (sFl_fr hF177 rfl rfl) (sDp_fr hF177 rfl) (by rw [occ156, ((dK_fr hF142 rfl rfl).trans ((dK_fr hF127 rfl rfl).trans ((dK_fr hF109 rfl rfl).trans ((dK_f hS87 rfl).trans ((dK_fr hF80 rfl rfl).trans ((dK_f hS60 rfl).trans ((dK_fr hF53 rfl rfl).trans ((dK_fr hF31 rfl rfl).trans ((dK_fr hF16 rfl rfl).trans (dK_fr hF rfl rfl))))))))))]; exact congrArg (occ (oPn (dK S0)) ((dK S0).2 9 8).toNat + ·) (show S137.f 22 3 = S0.f 22 3 by omega))), e182, e181, hI176, hF179, hR180⟩
    · refine r_load (i := 70) (u := 0) (w := 2) rfl rfl rfl ?_
      refine r_getf (i := 71) (v := 5) (w := 8) (x := (2, 34)) rfl ly33 rfl rfl fun _ => ?_
      refine r_load (i := 72) (u := 0) (w := 2) rfl rfl rfl ?_
      refine r_getf (i := 73) (v := 6) (w := 8) (x := (2, 36)) rfl ly33 rfl rfl fun _ => ?_
      refine r_load (i := 74) (u := 0) (w := 2) rfl rfl rfl ?_
      refine r_getf (i := 75) (v := 2) (w := 8) (x := (2, 17)) rfl ly33 rfl rfl fun _ => ?_
      refine r_getf (i := 76) (v := 2) (w := 3) (x := (2, 18)) rfl ly17 rfl rfl fun _ => ?_
      refine r_load (i := 77) (u := 1) (w := 0) rfl rfl rfl ?_
      refine a_int (i := 78) rfl ly18 rfl (by omega) (by omega) fun h195 => ?_
      have h196 := hI.a ta18 k.toNat
      have h197 : S.a 18 k.toNat = S0.a 18 k.toNat := hF.a rfl _
      have fa9 := e_FA k.toNat (by omega)
      refine r_call (i := 79) (u := 9) (v := 89) (w := 0) (b := 0) (na := 770) (C2 := xC89) (as := [(2, 36), vi (S.a 18 k.toNat)]) (s := [(2, 34)]) rfl rfl rfl rfl rfl rfl rfl (sp89 (t := S.a 18 k.toNat) hI ⟨by omega, by omega⟩ (by omega) e_PL (by omega)) (fun r198 S199 hq200 => ?_)
      obtain ⟨z201, rfl, h202, h203, h204, wi205, e206, hI207, hF208, hR209⟩ := hq200
      have hF210 := hF.trans hF208 rfl rfl
      have hR211 := hR.trans hR209 rfl
      have e212 := FAx.fr e_FA hF208 rfl rfl
      refine Or.inr (Or.inl ⟨rfl, ?_⟩)
      have h213 := hI207.b1
      have h214 : S199.f 34 1 = S.f 34 1 := hF208.f rfl
      refine r_call (i := 80) (u := 7) (v := 36) (w := 0) (b := 0) (na := 514) (C2 := xC36) (as := [(2, 34), vi z201]) (s := []) rfl rfl rfl rfl rfl rfl rfl (sp36_34 (b := z201) hI207 ⟨by omega, by omega⟩ (by omega)  (by omega)) (fun r215 S216 hq217 => ?_)
      obtain ⟨rfl, h218, btw219, hI220, hF221, hR222⟩ := hq217
      have hF223 := hF210.trans hF221 rfl rfl
      have hR224 := hR211.trans hR222 rfl
      have e225 := FAx.fr e212 hF221 rfl rfl
      have e226 := PLx.fr e206 hF221 hR222 rfl rfl rfl
      have e227 := PTx.fr e206 hF221 hR222 rfl rfl rfl
      refine Or.inl ⟨rfl, ?_⟩
      refine r_iinc (i := 81) (u := 1) (v := 1) (s := 1) (L1 := [some ((2, 33)), some (vi (k + 1))]) rfl rfl rfl rfl rfl ?_
      refine r_goto (i := 82) (v := 65) rfl ?_
      have h228 := hI220.b0
      have h229 : S216.f 31 1 = S199.f 31 1 := hF221.f rfl
      have h230 := hI220.b1
      have h231 := hI220.f tf17_7
      have h232 : S216.f 17 7 = S199.f 17 7 := hF221.f rfl
      have h233 : S199.f 17 7 = S.f 17 7 := hF208.f rfl
      have h234 : S.f 17 7 = S0.f 17 7 := hF.f rfl
      exact ih S216 hI220 hF223 hR224 e226 e225 (k + 1) ⟨by omega, by omega⟩ (by omega) (by omega) (by exact bgL_s q_2 (by omega) wi205 (pkR_fr hF rfl) (show S.a 18 k.toNat = S0.a 18 k.toNat from hF.a rfl _) btw219 (sFl_fr hF221 rfl rfl) (sDp_fr hF221 rfl) (hF208.f rfl) (hF221.f rfl)) (by omega) (by omega)
/-- ProxyForge$Writer.begin -/
theorem sp143 {G : xk} {S : yS} {d : Nat} (hI : yI S) (e_N23 : N23 S) (e_FA : FA S) (hd : 7 ≤ d) : yT xPr G LY xC143 0 [some ((2, 33))] [] S d (fun r S' => r = (0, (0, 0)) ∧ (10 ≤ S'.f 31 1 ∧ S'.f 31 1 ≤ 169) ∧ S'.f 34 1 ≤ 26 ∧ bgC S S' ∧ PL S' ∧ FA S' ∧ yI S' ∧ yFr [(31, 1), (33, 7), (33, 8), (33, 9), (34, 1), (36, 5)] [37, 100, 101, 102, 103, 105] S S' ∧ yRm [0, 1, 2, 3] S S') := by
  refine yT_pad 1 ?_
  show yT xPr G LY xC143 0 [some ((2, 33)), none] [] S d _
  obtain ⟨d, rfl⟩ : ∃ q, d = q + 1 := ⟨d - 1, by omega⟩
  have hF : yFr [(31, 1), (33, 7), (33, 8), (33, 9), (34, 1), (36, 5)] [37, 100, 101, 102, 103, 105] S S := yFr.refl S
  have hR : yRm [0, 1, 2, 3] S S := yRm.refl S
  refine r_load (i := 0) (u := 0) (w := 2) rfl rfl rfl ?_
  refine r_getf (i := 1) (v := 4) (w := 8) (x := (2, 31)) rfl ly33 rfl rfl fun _ => ?_
  refine r_const (i := 2) (u := 0) (z := 0) rfl rfl ?_
  refine r_putI (i := 3) (v := 1) (w := 7) rfl ly31 rfl ⟨by omega, by omega⟩ ?_
  have h6 := hI.bn
  have h7 := hI.br
  have hI3 := hI.use0 (z := 0) (by omega) (by omega) (by omega)
  have hF5 := hF.setf (b := 31) (w := 1) (z := 0) rfl
  have hR8 := hR.setf (b := 31) (w := 1) (z := 0)
  have e9 := N23x.setf e_N23 (b := 31) (w := 1) (z := 0) rfl
  have e10 := FAx.setf e_FA (b := 31) (w := 1) (z := 0) rfl
  refine yT_gen (fun S2 hS4 => ?_)
  rw [hS4] at hI3 hF5 hR8 e9 e10
  refine r_load (i := 4) (u := 0) (w := 2) rfl rfl rfl ?_
  refine r_getf (i := 5) (v := 4) (w := 8) (x := (2, 31)) rfl ly33 rfl rfl fun _ => ?_
  refine r_const (i := 6) (u := 3405691582) (z := -889275714) rfl rfl ?_
  have h12 := hI3.b0
  have h13 : S2.f 31 1 = 0 := by rw [← hS4]; exact ysf_eq
  refine r_call (i := 7) (u := 7) (v := 24) (w := 0) (b := 0) (na := 514) (C2 := xC24) (as := [(2, 31), vi (-889275714)]) (s := []) rfl rfl rfl rfl rfl rfl rfl (sp24_31 (b := -889275714) hI3 ⟨by omega, by omega⟩ (by omega)  (by omega)) (fun r14 S15 hq16 => ?_)
  obtain ⟨rfl, h17, bfo18, hI19, hF20, hR21⟩ := hq16
  have hF22 := hF5.trans hF20 rfl rfl
  have hR23 := hR8.trans hR21 rfl
  have e24 := N23x.fr e9 hF20 hR21 rfl rfl rfl
  have e25 := FAx.fr e10 hF20 rfl rfl
  refine Or.inl ⟨rfl, ?_⟩
  refine r_load (i := 8) (u := 0) (w := 2) rfl rfl rfl ?_
  refine r_getf (i := 9) (v := 4) (w := 8) (x := (2, 31)) rfl ly33 rfl rfl fun _ => ?_
  refine r_const (i := 10) (u := 0) (z := 0) rfl rfl ?_
  have h27 := hI19.b0
  refine r_call (i := 11) (u := 7) (v := 36) (w := 0) (b := 0) (na := 514) (C2 := xC36) (as := [(2, 31), vi 0]) (s := []) rfl rfl rfl rfl rfl rfl rfl (sp36_31 (b := 0) hI19 ⟨by omega, by omega⟩ (by omega)  (by omega)) (fun r28 S29 hq30 => ?_)
  obtain ⟨rfl, h31, btw32, hI33, hF34, hR35⟩ := hq30
  have hF36 := hF22.trans hF34 rfl rfl
  have hR37 := hR23.trans hR35 rfl
  have e38 := N23x.fr e24 hF34 hR35 rfl rfl rfl
  have e39 := FAx.fr e25 hF34 rfl rfl
  refine Or.inl ⟨rfl, ?_⟩
  refine r_load (i := 12) (u := 0) (w := 2) rfl rfl rfl ?_
  refine r_getf (i := 13) (v := 4) (w := 8) (x := (2, 31)) rfl ly33 rfl rfl fun _ => ?_
  refine r_const (i := 14) (u := 52) (z := 52) rfl rfl ?_
  have h41 := hI33.b0
  refine r_call (i := 15) (u := 7) (v := 36) (w := 0) (b := 0) (na := 514) (C2 := xC36) (as := [(2, 31), vi 52]) (s := []) rfl rfl rfl rfl rfl rfl rfl (sp36_31 (b := 52) hI33 ⟨by omega, by omega⟩ (by omega)  (by omega)) (fun r42 S43 hq44 => ?_)
  obtain ⟨rfl, h45, btw46, hI47, hF48, hR49⟩ := hq44
  have hF50 := hF36.trans hF48 rfl rfl
  have hR51 := hR37.trans hR49 rfl
  have e52 := N23x.fr e38 hF48 hR49 rfl rfl rfl
  have e53 := FAx.fr e39 hF48 rfl rfl
  refine Or.inl ⟨rfl, ?_⟩
  refine r_load (i := 16) (u := 0) (w := 2) rfl rfl rfl ?_
  refine r_getf (i := 17) (v := 4) (w := 8) (x := (2, 31)) rfl ly33 rfl rfl fun _ => ?_
  refine r_const (i := 18) (u := 0) (z := 0) rfl rfl ?_
  have h55 := hI47.b0
  refine r_call (i := 19) (u := 7) (v := 36) (w := 0) (b := 0) (na := 514) (C2 := xC36) (as := [(2, 31), vi 0]) (s := []) rfl rfl rfl rfl rfl rfl rfl (sp36_31 (b := 0) hI47 ⟨by omega, by omega⟩ (by omega)  (by omega)) (fun r56 S57 hq58 => ?_)
  obtain ⟨rfl, h59, btw60, hI61, hF62, hR63⟩ := hq58
  have hF64 := hF50.trans hF62 rfl rfl
  have hR65 := hR51.trans hR63 rfl
  have e66 := N23x.fr e52 hF62 hR63 rfl rfl rfl
  have e67 := FAx.fr e53 hF62 rfl rfl
  refine Or.inl ⟨rfl, ?_⟩
  refine r_load (i := 20) (u := 0) (w := 2) rfl rfl rfl ?_
  refine r_getf (i := 21) (v := 6) (w := 8) (x := (2, 36)) rfl ly33 rfl rfl fun _ => ?_
  refine r_call (i := 22) (u := 9) (v := 90) (w := 0) (b := 0) (na := 257) (C2 := xC90) (as := [(2, 36)]) (s := []) rfl rfl rfl rfl rfl rfl rfl (sp90  hI61   e66 (by omega)) (fun r69 S70 hq71 => ?_)
  obtain ⟨rfl, plc72, e73, hI74, hF75, hR76⟩ := hq71
  have hF77 := hF64.trans hF75 rfl rfl
  have hR78 := hR65.trans hR76 rfl
  have e79 := N23x.fr e66 hF75 hR76 rfl rfl rfl
  have e80 := FAx.fr e67 hF75 rfl rfl
  refine Or.inl ⟨rfl, ?_⟩
  refine r_load (i := 23) (u := 0) (w := 2) rfl rfl rfl ?_
  refine r_getf (i := 24) (v := 5) (w := 8) (x := (2, 34)) rfl ly33 rfl rfl fun _ => ?_
  refine r_const (i := 25) (u := 0) (z := 0) rfl rfl ?_
  refine r_putI (i := 26) (v := 1) (w := 7) rfl ly34 rfl ⟨by omega, by omega⟩ ?_
  have h86 := hI74.bn
  have h87 := hI74.br
  have h88 := e73.n
  have h89 : S70.n 0 = S57.n 0 := hR76.eq rfl rfl
  have h90 : S70.n 1 = S57.n 1 := hR76.eq rfl rfl
  have h91 : S70.n 2 = S57.n 2 := hR76.eq rfl rfl
  have h92 : S70.n 3 = S57.n 3 := hR76.eq rfl rfl
  have h93 : S70.n 4 = S57.n 4 := hR76.eq rfl rfl
  have h94 : S43.n 0 ≤ S57.n 0 := hR63.n 0 (by decide)
  have h95 : S57.n 1 = S43.n 1 := hR63.eq rfl rfl
  have h96 : S57.n 2 = S43.n 2 := hR63.eq rfl rfl
  have h97 : S57.n 3 = S43.n 3 := hR63.eq rfl rfl
  have h98 : S57.n 4 = S43.n 4 := hR63.eq rfl rfl
  have h99 : S29.n 0 ≤ S43.n 0 := hR49.n 0 (by decide)
  have h100 : S43.n 1 = S29.n 1 := hR49.eq rfl rfl
  have h101 : S43.n 2 = S29.n 2 := hR49.eq rfl rfl
  have h102 : S43.n 3 = S29.n 3 := hR49.eq rfl rfl
  have h103 : S43.n 4 = S29.n 4 := hR49.eq rfl rfl
  have h104 : S15.n 0 ≤ S29.n 0 := hR35.n 0 (by decide)
  have h105 : S29.n 1 = S15.n 1 := hR35.eq rfl rfl
  have h106 : S29.n 2 = S15.n 2 := hR35.eq rfl rfl
  have h107 : S29.n 3 = S15.n 3 := hR35.eq rfl rfl
  have h108 : S29.n 4 = S15.n 4 := hR35.eq rfl rfl
  have h109 : S2.n 0 ≤ S15.n 0 := hR21.n 0 (by decide)
  have h110 : S15.n 1 = S2.n 1 := hR21.eq rfl rfl
  have h111 : S15.n 2 = S2.n 2 := hR21.eq rfl rfl
  have h112 : S15.n 3 = S2.n 3 := hR21.eq rfl rfl
  have h113 : S15.n 4 = S2.n 4 := hR21.eq rfl rfl
  have h114 : S2.n = S.n := by rw [← hS4]; rfl
  have h115 : S2.n 0 = S.n 0 := congrFun h114 0
  have h116 : S2.n 1 = S.n 1 := congrFun h114 1
  have h117 : S2.n 2 = S.n 2 := congrFun h114 2
  have h118 : S2.n 3 = S.n 3 := congrFun h114 3
  have h119 : S2.n 4 = S.n 4 := congrFun h114 4
  have hI83 := hI74.use1 (z := 0) (by omega) (by omega) (by omega)
  have hF85 := hF77.setf (b := 34) (w := 1) (z := 0) rfl
  have hR120 := hR78.setf (b := 34) (w := 1) (z := 0)
  have e121 := N23x.setf e79 (b := 34) (w := 1) (z := 0) rfl
  have e122 := FAx.setf e80 (b := 34) (w := 1) (z := 0) rfl
  have e123 := PLx.setf e73 (b := 34) (w := 1) (z := 0) rfl
  have e124 := PTx.setf e73 (b := 34) (w := 1) (z := 0) rfl
  refine yT_gen (fun S82 hS84 => ?_)
  rw [hS84] at hI83 hF85 hR120 e121 e122 e123 e124
  refine r_load (i := 27) (u := 0) (w := 2) rfl rfl rfl ?_
  refine r_getf (i := 28) (v := 5) (w := 8) (x := (2, 34)) rfl ly33 rfl rfl fun _ => ?_
  refine r_const (i := 29) (u := 49) (z := 49) rfl rfl ?_
  have h126 := hI83.b1
  have h127 : S82.f 34 1 = 0 := by rw [← hS84]; exact ysf_eq
  refine r_call (i := 30) (u := 7) (v := 36) (w := 0) (b := 0) (na := 514) (C2 := xC36) (as := [(2, 34), vi 49]) (s := []) rfl rfl rfl rfl rfl rfl rfl (sp36_34 (b := 49) hI83 ⟨by omega, by omega⟩ (by omega)  (by omega)) (fun r128 S129 hq130 => ?_)
  obtain ⟨rfl, h131, btw132, hI133, hF134, hR135⟩ := hq130
  have hF136 := hF85.trans hF134 rfl rfl
  have hR137 := hR120.trans hR135 rfl
  have e138 := N23x.fr e121 hF134 hR135 rfl rfl rfl
  have e139 := FAx.fr e122 hF134 rfl rfl
  have e140 := PLx.fr e123 hF134 hR135 rfl rfl rfl
  have e141 := PTx.fr e124 hF134 hR135 rfl rfl rfl
  refine Or.inl ⟨rfl, ?_⟩
  refine r_load (i := 31) (u := 0) (w := 2) rfl rfl rfl ?_
  refine r_load (i := 32) (u := 0) (w := 2) rfl rfl rfl ?_
  refine r_getf (i := 33) (v := 6) (w := 8) (x := (2, 36)) rfl ly33 rfl rfl fun _ => ?_
  refine r_load (i := 34) (u := 0) (w := 2) rfl rfl rfl ?_
  refine r_getf (i := 35) (v := 0) (w := 8) (x := (2, 1)) rfl ly33 rfl rfl fun _ => ?_
  refine r_getf (i := 36) (v := 2) (w := 1) (x := (2, 4)) rfl ly1 rfl rfl fun _ => ?_
  refine r_load (i := 37) (u := 0) (w := 2) rfl rfl rfl ?_
  refine r_getf (i := 38) (v := 2) (w := 8) (x := (2, 17)) rfl ly33 rfl rfl fun _ => ?_
  have h146 := hI133.f tf17_6
  have h147 : S129.f 17 6 = S82.f 17 6 := hF134.f rfl
  have h148 : S82.f 17 6 = S70.f 17 6 := by rw [← hS84]; exact ysf_ne (by decide)
  have h149 : S70.f 17 6 = S57.f 17 6 := hF75.f rfl
  have h150 : S57.f 17 6 = S43.f 17 6 := hF62.f rfl
  have h151 : S43.f 17 6 = S29.f 17 6 := hF48.f rfl
  have h152 : S29.f 17 6 = S15.f 17 6 := hF34.f rfl
  have h153 : S15.f 17 6 = S2.f 17 6 := hF20.f rfl
  have h154 : S2.f 17 6 = S.f 17 6 := by rw [← hS4]; exact ysf_ne (by decide)
  refine r_getf (i := 39) (v := 6) (w := 3) (x := vi (S129.f 17 6)) rfl ly17 rfl rfl fun h155 => ?_
  have h155 : Rg (S129.f 17 6) := h155
  refine a_int (i := 40) rfl ly4 rfl (by omega) (by omega) fun h156 => ?_
  have h157 := hI133.a ta4 (S129.f 17 6).toNat
  have h158 : S129.a 4 (S129.f 17 6).toNat = S82.a 4 (S129.f 17 6).toNat := hF134.a rfl _
  have h159 : S82.a 4 (S129.f 17 6).toNat = S70.a 4 (S129.f 17 6).toNat := by rw [← hS84]; rfl
  have h160 : S70.a 4 (S129.f 17 6).toNat = S57.a 4 (S129.f 17 6).toNat := hF75.a rfl _
  have h161 : S57.a 4 (S129.f 17 6).toNat = S43.a 4 (S129.f 17 6).toNat := hF62.a rfl _
  have h162 : S43.a 4 (S129.f 17 6).toNat = S29.a 4 (S129.f 17 6).toNat := hF48.a rfl _
  have h163 : S29.a 4 (S129.f 17 6).toNat = S15.a 4 (S129.f 17 6).toNat := hF34.a rfl _
  have h164 := hI133.b0
  have h165 : S129.f 31 1 = S82.f 31 1 := hF134.f rfl
  have h166 : S82.f 31 1 = S70.f 31 1 := by rw [← hS84]; exact ysf_ne (by decide)
  have h167 : S70.f 31 1 = S57.f 31 1 := hF75.f rfl
  refine r_call (i := 41) (u := 9) (v := 95) (w := 0) (b := 0) (na := 770) (C2 := xC95) (as := [(2, 36), vi (S129.a 4 (S129.f 17 6).toNat)]) (s := [(2, 33)]) rfl rfl rfl rfl rfl rfl rfl (sp95 (p := S129.a 4 (S129.f 17 6).toNat) hI133 ⟨by omega, by omega⟩ (by omega) e140 (by omega)) (fun r168 S169 hq170 => ?_)
  obtain ⟨z171, rfl, h172, h173, h174, wi175, e176, hI177, hF178, hR179⟩ := hq170
  have hF180 := hF136.trans hF178 rfl rfl
  have hR181 := hR137.trans hR179 rfl
  have e182 := FAx.fr e139 hF178 rfl rfl
  refine Or.inr (Or.inl ⟨rfl, ?_⟩)
  refine r_putI (i := 42) (v := 7) (w := 8) rfl ly33 rfl ⟨by omega, by omega⟩ ?_
  have hI184 := hI177.setf0 (b := 33) (w := 7) (z := z171) rfl rfl
  have hF186 := hF180.setf (b := 33) (w := 7) (z := z171) rfl
  have hR187 := hR181.setf (b := 33) (w := 7) (z := z171)
  have e188 := FAx.setf e182 (b := 33) (w := 7) (z := z171) rfl
  have e189 := PLx.setf e176 (b := 33) (w := 7) (z := z171) rfl
  have e190 := PTx.setf e176 (b := 33) (w := 7) (z := z171) rfl
  refine yT_gen (fun S183 hS185 => ?_)
  rw [hS185] at hI184 hF186 hR187 e188 e189 e190
  refine r_load (i := 43) (u := 0) (w := 2) rfl rfl rfl ?_
  refine r_getf (i := 44) (v := 5) (w := 8) (x := (2, 34)) rfl ly33 rfl rfl fun _ => ?_
  refine r_load (i := 45) (u := 0) (w := 2) rfl rfl rfl ?_
  have h192 : S183.f 33 7 = z171 := by rw [← hS185]; exact ysf_eq
  refine r_getf (i := 46) (v := 7) (w := 8) (x := vi (S183.f 33 7)) rfl ly33 rfl rfl fun h193 => ?_
  have h193 : Rg (S183.f 33 7) := h193
  have h194 := hI184.b1
  have h195 : S183.f 34 1 = S169.f 34 1 := by rw [← hS185]; exact ysf_ne (by decide)
  have h196 : S169.f 34 1 = S129.f 34 1 := hF178.f rfl
  refine r_call (i := 47) (u := 7) (v := 36) (w := 0) (b := 0) (na := 514) (C2 := xC36) (as := [(2, 34), vi (S183.f 33 7)]) (s := []) rfl rfl rfl rfl rfl rfl rfl (sp36_34 (b := S183.f 33 7) hI184 ⟨by omega, by omega⟩ (by omega)  (by omega)) (fun r197 S198 hq199 => ?_)
  obtain ⟨rfl, h200, btw201, hI202, hF203, hR204⟩ := hq199
  have hF205 := hF186.trans hF203 rfl rfl
  have hR206 := hR187.trans hR204 rfl
  have e207 := FAx.fr e188 hF203 rfl rfl
  have e208 := PLx.fr e189 hF203 hR204 rfl rfl rfl
  have e209 := PTx.fr e190 hF203 hR204 rfl rfl rfl
  refine Or.inl ⟨rfl, ?_⟩
  refine r_load (i := 48) (u := 0) (w := 2) rfl rfl rfl ?_
  refine r_getf (i := 49) (v := 5) (w := 8) (x := (2, 34)) rfl ly33 rfl rfl fun _ => ?_
  refine r_load (i := 50) (u := 0) (w := 2) rfl rfl rfl ?_
  refine r_getf (i := 51) (v := 6) (w := 8) (x := (2, 36)) rfl ly33 rfl rfl fun _ => ?_
  refine r_load (i := 52) (u := 0) (w := 2) rfl rfl rfl ?_
  refine r_getf (i := 53) (v := 2) (w := 8) (x := (2, 17)) rfl ly33 rfl rfl fun _ => ?_
  have h213 := hI202.f tf17_6
  have h214 : S198.f 17 6 = S183.f 17 6 := hF203.f rfl
  have h215 : S183.f 17 6 = S169.f 17 6 := by rw [← hS185]; exact ysf_ne (by decide)
  have h216 : S169.f 17 6 = S129.f 17 6 := hF178.f rfl
  have h217 : S129.f 17 6 = S82.f 17 6 := hF134.f rfl
  have h218 : S82.f 17 6 = S70.f 17 6 := by rw [← hS84]; exact ysf_ne (by decide)
  have h219 : S70.f 17 6 = S57.f 17 6 := hF75.f rfl
  have h220 : S57.f 17 6 = S43.f 17 6 := hF62.f rfl
  have h221 : S43.f 17 6 = S29.f 17 6 := hF48.f rfl
  have h222 : S29.f 17 6 = S15.f 17 6 := hF34.f rfl
  have h223 : S15.f 17 6 = S2.f 17 6 := hF20.f rfl
  have h224 : S2.f 17 6 = S.f 17 6 := by rw [← hS4]; exact ysf_ne (by decide)
  refine r_getf (i := 54) (v := 6) (w := 3) (x := vi (S198.f 17 6)) rfl ly17 rfl rfl fun h225 => ?_
  have h225 : Rg (S198.f 17 6) := h225
  have h226 := hI202.b0
  have h227 : S198.f 31 1 = S183.f 31 1 := hF203.f rfl
  have h228 : S183.f 31 1 = S169.f 31 1 := by rw [← hS185]; exact ysf_ne (by decide)
  refine r_call (i := 55) (u := 9) (v := 89) (w := 0) (b := 0) (na := 770) (C2 := xC89) (as := [(2, 36), vi (S198.f 17 6)]) (s := [(2, 34)]) rfl rfl rfl rfl rfl rfl rfl (sp89 (t := S198.f 17 6) hI202 ⟨by omega, by omega⟩ (by omega) e208 (by omega)) (fun r229 S230 hq231 => ?_)
  obtain ⟨z232, rfl, h233, h234, h235, wi236, e237, hI238, hF239, hR240⟩ := hq231
  have hF241 := hF205.trans hF239 rfl rfl
  have hR242 := hR206.trans hR240 rfl
  have e243 := FAx.fr e207 hF239 rfl rfl
  refine Or.inr (Or.inl ⟨rfl, ?_⟩)
  have h244 := hI238.b1
  have h245 : S230.f 34 1 = S198.f 34 1 := hF239.f rfl
  refine r_call (i := 56) (u := 7) (v := 36) (w := 0) (b := 0) (na := 514) (C2 := xC36) (as := [(2, 34), vi z232]) (s := []) rfl rfl rfl rfl rfl rfl rfl (sp36_34 (b := z232) hI238 ⟨by omega, by omega⟩ (by omega)  (by omega)) (fun r246 S247 hq248 => ?_)
  obtain ⟨rfl, h249, btw250, hI251, hF252, hR253⟩ := hq248
  have hF254 := hF241.trans hF252 rfl rfl
  have hR255 := hR242.trans hR253 rfl
  have e256 := FAx.fr e243 hF252 rfl rfl
  have e257 := PLx.fr e237 hF252 hR253 rfl rfl rfl
  have e258 := PTx.fr e237 hF252 hR253 rfl rfl rfl
  refine Or.inl ⟨rfl, ?_⟩
  refine r_load (i := 57) (u := 0) (w := 2) rfl rfl rfl ?_
  refine r_getf (i := 58) (v := 5) (w := 8) (x := (2, 34)) rfl ly33 rfl rfl fun _ => ?_
  refine r_load (i := 59) (u := 0) (w := 2) rfl rfl rfl ?_
  refine r_getf (i := 60) (v := 2) (w := 8) (x := (2, 17)) rfl ly33 rfl rfl fun _ => ?_
  have h261 := hI251.f tf17_7
  have h262 : S247.f 17 7 = S230.f 17 7 := hF252.f rfl
  have h263 : S230.f 17 7 = S198.f 17 7 := hF239.f rfl
  have h264 : S198.f 17 7 = S183.f 17 7 := hF203.f rfl
  have h265 : S183.f 17 7 = S169.f 17 7 := by rw [← hS185]; exact ysf_ne (by decide)
  have h266 : S169.f 17 7 = S129.f 17 7 := hF178.f rfl
  have h267 : S129.f 17 7 = S82.f 17 7 := hF134.f rfl
  have h268 : S82.f 17 7 = S70.f 17 7 := by rw [← hS84]; exact ysf_ne (by decide)
  have h269 : S70.f 17 7 = S57.f 17 7 := hF75.f rfl
  have h270 : S57.f 17 7 = S43.f 17 7 := hF62.f rfl
  have h271 : S43.f 17 7 = S29.f 17 7 := hF48.f rfl
  have h272 : S29.f 17 7 = S15.f 17 7 := hF34.f rfl
  have h273 : S15.f 17 7 = S2.f 17 7 := hF20.f rfl
  have h274 : S2.f 17 7 = S.f 17 7 := by rw [← hS4]; exact ysf_ne (by decide)
  refine r_getf (i := 61) (v := 7) (w := 3) (x := vi (S247.f 17 7)) rfl ly17 rfl rfl fun h275 => ?_
  have h275 : Rg (S247.f 17 7) := h275
  have h276 := hI251.b1
  refine r_call (i := 62) (u := 7) (v := 36) (w := 0) (b := 0) (na := 514) (C2 := xC36) (as := [(2, 34), vi (S247.f 17 7)]) (s := []) rfl rfl rfl rfl rfl rfl rfl (sp36_34 (b := S247.f 17 7) hI251 ⟨by omega, by omega⟩ (by omega)  (by omega)) (fun r277 S278 hq279 => ?_)
  obtain ⟨rfl, h280, btw281, hI282, hF283, hR284⟩ := hq279
  have hF285 := hF254.trans hF283 rfl rfl
  have hR286 := hR255.trans hR284 rfl
  have e287 := FAx.fr e256 hF283 rfl rfl
  have e288 := PLx.fr e257 hF283 hR284 rfl rfl rfl
  have e289 := PTx.fr e258 hF283 hR284 rfl rfl rfl
  refine Or.inl ⟨rfl, ?_⟩
  refine r_const (i := 63) (u := 0) (z := 0) rfl rfl ?_
  refine r_store (i := 64) (u := 1) (w := 0) (L1 := [some ((2, 33)), some (vi 0)]) rfl rfl rfl rfl ?_
  have h290 := hI282.b0
  have h291 : S278.f 31 1 = S247.f 31 1 := hF283.f rfl
  have h292 : S247.f 31 1 = S230.f 31 1 := hF252.f rfl
  have h293 := hI282.b1
  have h294 := hI282.f tf17_7
  have h295 : S278.f 17 7 = S247.f 17 7 := hF283.f rfl
  have h296 : S247.f 17 7 = S230.f 17 7 := hF252.f rfl
  have h297 : S230.f 17 7 = S198.f 17 7 := hF239.f rfl
  have h298 : S198.f 17 7 = S183.f 17 7 := hF203.f rfl
  have h299 : S183.f 17 7 = S169.f 17 7 := by rw [← hS185]; exact ysf_ne (by decide)
  have h300 : S169.f 17 7 = S129.f 17 7 := hF178.f rfl
  have h301 : S129.f 17 7 = S82.f 17 7 := hF134.f rfl
  have h302 : S82.f 17 7 = S70.f 17 7 := by rw [← hS84]; exact ysf_ne (by decide)
  have h303 : S70.f 17 7 = S57.f 17 7 := hF75.f rfl
  have h304 : S57.f 17 7 = S43.f 17 7 := hF62.f rfl
  have h305 : S43.f 17 7 = S29.f 17 7 := hF48.f rfl
  have h306 : S29.f 17 7 = S15.f 17 7 := hF34.f rfl
  have h307 : S15.f 17 7 = S2.f 17 7 := hF20.f rfl
  have h308 : S2.f 17 7 = S.f 17 7 := by rw [← hS4]; exact ysf_ne (by decide)
  exact lp143_65   hd _ S278 hI282 hF285 hR286 e288 e287 0 ⟨by omega, by omega⟩ (by omega) (by omega) (by exact bgL_0 (cW_0 (S := S82) (by rw [← hS84]; exact plc72) ((show bl S82 100 (S82.f 31 1) = bl S70 100 (S70.f 31 1) by rw [← hS84]; exact bl_eq (fun j _ => rfl)).trans ((bl_f hF75 rfl rfl).trans (h0_of (bl_z (show S2.f 31 1 = 0 by omega)) bfo18 btw32 btw46 btw60))) (by omega) (by rw [← hS84]; exact ysf_eq)) btw132 (sFl_fr hF134 rfl rfl) (sDp_fr hF134 rfl) wi175 hS185 (by omega) btw201 (sFl_fr hF203 rfl rfl) (sDp_fr hF203 rfl) wi236 btw250 (sFl_fr hF252 rfl rfl) (sDp_fr hF252 rfl) btw281 (sFl_fr hF283 rfl rfl) (sDp_fr hF283 rfl) ((hF283.f rfl).trans ((hF252.f rfl).trans ((hF239.f rfl).trans (hF203.f rfl)))) ((congrArg (fun z => S129.a 4 (Int.toNat z)) ((hF134.f (b := 17) (w := 6) rfl).trans ((show S82.f 17 6 = S70.f 17 6 by rw [← hS84]; exact ysf_ne (by decide)).trans ((hF75.f (b := 17) (w := 6) rfl).trans ((hF62.f (b := 17) (w := 6) rfl).trans ((hF48.f (b := 17) (w := 6) rfl).trans ((hF34.f (b := 17) (w := 6) rfl).trans ((hF20.f (b := 17) (w := 6) rfl).trans (show S2.f 17 6 = S.f 17 6 by rw [← hS4]; exact ysf_ne (by decide)))))))))).trans ((hF134.a (b := 4) rfl _).trans ((congrFun (show S82.a 4 = S70.a 4 by rw [← hS84]; rfl) _).trans ((hF75.a (b := 4) rfl _).trans ((hF62.a (b := 4) rfl _).trans ((hF48.a (b := 4) rfl _).trans ((hF34.a (b := 4) rfl _).trans ((hF20.a (b := 4) rfl _).trans (congrFun (show S2.a 4 = S.a 4 by rw [← hS4]; rfl) _))))))))) ((pkR_fr (b := 4) hF203 rfl).trans ((show pkR 4 S183 = pkR 4 S169 by rw [← hS185]; rfl).trans ((pkR_fr (b := 4) hF178 rfl).trans ((pkR_fr (b := 4) hF134 rfl).trans ((show pkR 4 S82 = pkR 4 S70 by rw [← hS84]; rfl).trans ((pkR_fr (b := 4) hF75 rfl).trans ((pkR_fr (b := 4) hF62 rfl).trans ((pkR_fr (b := 4) hF48 rfl).trans ((pkR_fr (b := 4) hF34 rfl).trans ((pkR_fr (b := 4) hF20 rfl).trans (show pkR 4 S2 = pkR 4 S by rw [← hS4]; rfl))))))))))) (by omega) (by omega)) (by omega) (Int.lt_succ_toNat _)
/-- ProxyForge$Writer.end -/
theorem sp151 {G : xk} {S : yS} {d : Nat} (hI : yI S) (p_0 : 10 ≤ S.f 31 1) (p_1 : S.f 31 1 + S.f 34 1 + 2 ≤ 60000) (e_PL : PL S) (hd : 6 ≤ d) : yT xPr G LY xC151 0 [some ((2, 33))] [] S d (fun r S' => r = (0, (0, 0)) ∧ S.f 31 1 ≤ S'.f 31 1 ∧ enC S S' ∧ PL S' ∧ yI S' ∧ yFr [(31, 1), (34, 1)] [100, 101, 105] S S' ∧ yRm [0, 1] S S') := by
  refine yT_pad 0 ?_
  show yT xPr G LY xC151 0 [some ((2, 33))] [] S d _
  obtain ⟨d, rfl⟩ : ∃ q, d = q + 1 := ⟨d - 1, by omega⟩
  have hF : yFr [(31, 1), (34, 1)] [100, 101, 105] S S := yFr.refl S
  have hR : yRm [0, 1] S S := yRm.refl S
  have h1 := hI.b0
  have h2 := hI.b1
  refine r_load (i := 0) (u := 0) (w := 2) rfl rfl rfl ?_
  refine r_getf (i := 1) (v := 5) (w := 8) (x := (2, 34)) rfl ly33 rfl rfl fun _ => ?_
  refine r_const (i := 2) (u := 0) (z := 0) rfl rfl ?_
  refine r_call (i := 3) (u := 7) (v := 36) (w := 0) (b := 0) (na := 514) (C2 := xC36) (as := [(2, 34), vi 0]) (s := []) rfl rfl rfl rfl rfl rfl rfl (sp36_34 (b := 0) hI ⟨by omega, by omega⟩ (by omega)  (by omega)) (fun r4 S5 hq6 => ?_)
  obtain ⟨rfl, h7, btw8, hI9, hF10, hR11⟩ := hq6
  have hF12 := hF.trans hF10 rfl rfl
  have hR13 := hR.trans hR11 rfl
  have e14 := PLx.fr e_PL hF10 hR11 rfl rfl rfl
  have e15 := PTx.fr e_PL hF10 hR11 rfl rfl rfl
  refine Or.inl ⟨rfl, ?_⟩
  refine r_load (i := 4) (u := 0) (w := 2) rfl rfl rfl ?_
  refine r_getf (i := 5) (v := 4) (w := 8) (x := (2, 31)) rfl ly33 rfl rfl fun _ => ?_
  refine r_const (i := 6) (u := 8) (z := 8) rfl rfl ?_
  refine r_load (i := 7) (u := 0) (w := 2) rfl rfl rfl ?_
  refine r_getf (i := 8) (v := 6) (w := 8) (x := (2, 36)) rfl ly33 rfl rfl fun _ => ?_
  have h18 : S5.f 36 5 = S.f 36 5 := hF10.f rfl
  refine r_getf (i := 9) (v := 5) (w := 9) (x := vi (S5.f 36 5)) rfl ly36 rfl rfl fun h19 => ?_
  have h19 : Rg (S5.f 36 5) := h19
  refine r_const (i := 10) (u := 1) (z := 1) rfl rfl ?_
  have pn9 := (e14).n
  have bn9 := (hI9).bn
  refine r_iadd (i := 11) rfl ?_
  have h20 := hI9.bn
  have h21 := hI9.br
  have h22 := e14.n
  have h23 : S5.n 0 = S.n 0 := hR11.eq rfl rfl
  have h24 : S.n 1 ≤ S5.n 1 := hR11.n 1 (by decide)
  have h25 : S5.n 2 = S.n 2 := hR11.eq rfl rfl
  have h26 : S5.n 3 = S.n 3 := hR11.eq rfl rfl
  have h27 : S5.n 4 = S.n 4 := hR11.eq rfl rfl
  have h28 := hI9.b0
  have h29 : S5.f 31 1 = S.f 31 1 := hF10.f rfl
  refine r_call (i := 12) (u := 7) (v := 33) (w := 0) (b := 0) (na := 771) (C2 := xC33) (as := [(2, 31), vi 8, vi ((S5.f 36 5) + 1)]) (s := []) rfl rfl rfl rfl rfl rfl rfl (sp33_31 (k := 8) (b := (S5.f 36 5) + 1) hI9 ⟨by omega, by omega⟩ ⟨by omega, by omega⟩ (by omega)  (by omega)) (fun r30 S31 hq32 => ?_)
  obtain ⟨rfl, bsw33, hI34, hF35, hR36⟩ := hq32
  have hF37 := hF12.trans hF35 rfl rfl
  have hR38 := hR13.trans hR36 rfl
  have e39 := PLx.fr e14 hF35 hR36 rfl rfl rfl
  have e40 := PTx.fr e15 hF35 hR36 rfl rfl rfl
  refine Or.inl ⟨rfl, ?_⟩
  refine r_load (i := 13) (u := 0) (w := 2) rfl rfl rfl ?_
  refine r_getf (i := 14) (v := 4) (w := 8) (x := (2, 31)) rfl ly33 rfl rfl fun _ => ?_
  refine r_load (i := 15) (u := 0) (w := 2) rfl rfl rfl ?_
  refine r_getf (i := 16) (v := 5) (w := 8) (x := (2, 34)) rfl ly33 rfl rfl fun _ => ?_
  have h43 := hI34.b0
  have h44 : S31.f 31 1 = S5.f 31 1 := hF35.f rfl
  have h45 : S5.f 31 1 = S.f 31 1 := hF10.f rfl
  have h46 := hI34.b1
  have h47 : S31.f 34 1 = S5.f 34 1 := hF35.f rfl
  refine r_call (i := 17) (u := 7) (v := 23) (w := 0) (b := 0) (na := 770) (C2 := xC23) (as := [(2, 31), (2, 34)]) (s := []) rfl rfl rfl rfl rfl rfl rfl (sp23_31  hI34  (by omega)  (by omega)) (fun r48 S49 hq50 => ?_)
  obtain ⟨rfl, h51, bA52, hI53, hF54, hR55⟩ := hq50
  have hF56 := hF37.trans hF54 rfl rfl
  have hR57 := hR38.trans hR55 rfl
  have h59 := hI53.b0
  have e58 : PL S49 := PLat.up e39 (hF54.f rfl) (by omega) (hR55.eq rfl rfl) (hR55.eq rfl rfl) (hF54.a rfl) (hF54.a rfl) (hF54.a rfl)
  have e60 := PTx.fr e40 hF54 hR55 rfl rfl rfl
  refine Or.inl ⟨rfl, ?_⟩
  have h61 := hI53.b0
  exact r_ret0 (i := 18) rfl ⟨rfl, (by omega), (by exact en_C btw8 (bl_f hF10 rfl rfl) (by omega) bsw33 (bl_f1 hF35 rfl rfl) bA52), e58, hI53, hF56, hR57⟩
/-- ProxyForge.areFacesInOrder -/
theorem sp2 {G : xk} {S : yS} {d : Nat} (hI : yI S) {a : Int} (h_a : -2147483648 ≤ a ∧ a ≤ 2147483647) {b : Int} (h_b : -2147483648 ≤ b ∧ b ≤ 2147483647) {c : Int} (h_c : -2147483648 ≤ c ∧ c ≤ 2147483647) (hd : 1 ≤ d) : yT xPr G LY xC2 0 [some ((2, 0)), some (vi a), some (vi b), some (vi c)] [] S d (fun r S' => ∃ z : Int, r = (1, vi z) ∧ 0 ≤ z ∧ z ≤ 1 ∧ (z = 1 → -1 ≤ a ∧ a ≤ 19 ∧ -1 ≤ b ∧ b ≤ 19 ∧ -1 ≤ c ∧ c ≤ 19) ∧ (z = 1 → ∀ t9 : Int, 0 ≤ t9 → t9 < S.f 1 7 → goC S t9 a b c) ∧ (z = 0 → ∀ t9 : Int, ¬ goC S t9 a b c) ∧ S = S') := by
  refine yT_pad 0 ?_
  show yT xPr G LY xC2 0 [some ((2, 0)), some (vi a), some (vi b), some (vi c)] [] S d _
  obtain ⟨d, rfl⟩ : ∃ q, d = q + 1 := ⟨d - 1, by omega⟩
  refine r_load (i := 0) (u := 1) (w := 0) rfl rfl rfl ?_
  refine r_const (i := 1) (u := 4294967295) (z := -1) rfl rfl ?_
  refine c_ne (i := 2) (v := 13) rfl ⟨by omega, by omega⟩ ⟨by omega, by omega⟩ (fun h1 => ?_) (fun h2 => ?_)
  · refine r_load (i := 13) (u := 2) (w := 0) rfl rfl rfl ?_
    refine r_const (i := 14) (u := 4294967295) (z := -1) rfl rfl ?_
    refine c_ne (i := 15) (v := 29) rfl ⟨by omega, by omega⟩ ⟨by omega, by omega⟩ (fun h3 => ?_) (fun h4 => ?_)
    · refine r_load (i := 29) (u := 0) (w := 2) rfl rfl rfl ?_
      refine r_getf (i := 30) (v := 0) (w := 0) (x := (2, 1)) rfl ly0 rfl rfl fun _ => ?_
      refine r_load (i := 31) (u := 1) (w := 0) rfl rfl rfl ?_
      refine r_i2l (i := 32) rfl ⟨by omega, by omega⟩ ?_
      have h6 := hI.f tf1_7
      refine r_call (i := 33) (u := 1) (v := 131) (w := 0) (b := 0) (na := 770) (C2 := xC131) (as := [(2, 1), vl a]) (s := []) rfl rfl rfl rfl rfl rfl rfl (sp131 (t := a) hI ⟨by omega, by omega⟩   (by omega)) (fun r7 S8 hq9 => ?_)
      obtain ⟨z10, rfl, h11, h12, h13, h14, rfl⟩ := hq9
      refine Or.inr (Or.inl ⟨rfl, ?_⟩)
      refine z_eq (i := 34) (v := 52) rfl ⟨by omega, by omega⟩ (fun h15 => ?_) (fun h16 => ?_)
      · refine r_const (i := 52) (u := 0) (z := 0) rfl rfl ?_
        exact r_retZ (i := 53) rfl (by omega) (by omega) ⟨0, rfl, by omega, by omega, (by omega), (by intro hz; first | exact absurd hz (by omega) | exact fun t9 a9 b9 => ⟨⟨a9, b9⟩, by omega⟩), (by intro hz; first | exact absurd hz (by omega) | exact fun t9 h9 => by unfold goC at h9; omega), rfl⟩
      · refine r_load (i := 35) (u := 0) (w := 2) rfl rfl rfl ?_
        refine r_getf (i := 36) (v := 0) (w := 0) (x := (2, 1)) rfl ly0 rfl rfl fun _ => ?_
        refine r_load (i := 37) (u := 2) (w := 0) rfl rfl rfl ?_
        refine r_i2l (i := 38) rfl ⟨by omega, by omega⟩ ?_
        refine r_call (i := 39) (u := 1) (v := 131) (w := 0) (b := 0) (na := 770) (C2 := xC131) (as := [(2, 1), vl b]) (s := []) rfl rfl rfl rfl rfl rfl rfl (sp131 (t := b) hI ⟨by omega, by omega⟩   (by omega)) (fun r18 S19 hq20 => ?_)
        obtain ⟨z21, rfl, h22, h23, h24, h25, rfl⟩ := hq20
        refine Or.inr (Or.inl ⟨rfl, ?_⟩)
        refine z_eq (i := 40) (v := 52) rfl ⟨by omega, by omega⟩ (fun h26 => ?_) (fun h27 => ?_)
        · refine r_const (i := 52) (u := 0) (z := 0) rfl rfl ?_
          exact r_retZ (i := 53) rfl (by omega) (by omega) ⟨0, rfl, by omega, by omega, (by omega), (by intro hz; first | exact absurd hz (by omega) | exact fun t9 a9 b9 => ⟨⟨a9, b9⟩, by omega⟩), (by intro hz; first | exact absurd hz (by omega) | exact fun t9 h9 => by unfold goC at h9; omega), rfl⟩
        · refine r_load (i := 41) (u := 3) (w := 0) rfl rfl rfl ?_
          refine r_const (i := 42) (u := 4294967295) (z := -1) rfl rfl ?_
          refine c_eq (i := 43) (v := 50) rfl ⟨by omega, by omega⟩ ⟨by omega, by omega⟩ (fun h28 => ?_) (fun h29 => ?_)
          · refine r_const (i := 50) (u := 1) (z := 1) rfl rfl ?_
            refine r_goto (i := 51) (v := 53) rfl ?_
            exact r_retZ (i := 53) rfl (by omega) (by omega) ⟨1, rfl, by omega, by omega, (by omega), (by intro hz; first | exact absurd hz (by omega) | exact fun t9 a9 b9 => ⟨⟨a9, b9⟩, by omega⟩), (by intro hz; first | exact absurd hz (by omega) | exact fun t9 h9 => by unfold goC at h9; omega), rfl⟩
          · refine r_load (i := 44) (u := 0) (w := 2) rfl rfl rfl ?_
            refine r_getf (i := 45) (v := 0) (w := 0) (x := (2, 1)) rfl ly0 rfl rfl fun _ => ?_
            refine r_load (i := 46) (u := 3) (w := 0) rfl rfl rfl ?_
            refine r_i2l (i := 47) rfl ⟨by omega, by omega⟩ ?_
            refine r_call (i := 48) (u := 1) (v := 131) (w := 0) (b := 0) (na := 770) (C2 := xC131) (as := [(2, 1), vl c]) (s := []) rfl rfl rfl rfl rfl rfl rfl (sp131 (t := c) hI ⟨by omega, by omega⟩   (by omega)) (fun r31 S32 hq33 => ?_)
            obtain ⟨z34, rfl, h35, h36, h37, h38, rfl⟩ := hq33
            refine Or.inr (Or.inl ⟨rfl, ?_⟩)
            refine z_eq (i := 49) (v := 52) rfl ⟨by omega, by omega⟩ (fun h39 => ?_) (fun h40 => ?_)
            · refine r_const (i := 52) (u := 0) (z := 0) rfl rfl ?_
              exact r_retZ (i := 53) rfl (by omega) (by omega) ⟨0, rfl, by omega, by omega, (by omega), (by intro hz; first | exact absurd hz (by omega) | exact fun t9 a9 b9 => ⟨⟨a9, b9⟩, by omega⟩), (by intro hz; first | exact absurd hz (by omega) | exact fun t9 h9 => by unfold goC at h9; omega), rfl⟩
            · refine r_const (i := 50) (u := 1) (z := 1) rfl rfl ?_
              refine r_goto (i := 51) (v := 53) rfl ?_
              exact r_retZ (i := 53) rfl (by omega) (by omega) ⟨1, rfl, by omega, by omega, (by omega), (by intro hz; first | exact absurd hz (by omega) | exact fun t9 a9 b9 => ⟨⟨a9, b9⟩, by omega⟩), (by intro hz; first | exact absurd hz (by omega) | exact fun t9 h9 => by unfold goC at h9; omega), rfl⟩
    · refine r_load (i := 16) (u := 0) (w := 2) rfl rfl rfl ?_
      refine r_getf (i := 17) (v := 0) (w := 0) (x := (2, 1)) rfl ly0 rfl rfl fun _ => ?_
      refine r_load (i := 18) (u := 1) (w := 0) rfl rfl rfl ?_
      refine r_i2l (i := 19) rfl ⟨by omega, by omega⟩ ?_
      have h42 := hI.f tf1_7
      refine r_call (i := 20) (u := 1) (v := 131) (w := 0) (b := 0) (na := 770) (C2 := xC131) (as := [(2, 1), vl a]) (s := []) rfl rfl rfl rfl rfl rfl rfl (sp131 (t := a) hI ⟨by omega, by omega⟩   (by omega)) (fun r43 S44 hq45 => ?_)
      obtain ⟨z46, rfl, h47, h48, h49, h50, rfl⟩ := hq45
      refine Or.inr (Or.inl ⟨rfl, ?_⟩)
      refine z_eq (i := 21) (v := 27) rfl ⟨by omega, by omega⟩ (fun h51 => ?_) (fun h52 => ?_)
      · refine r_const (i := 27) (u := 0) (z := 0) rfl rfl ?_
        exact r_retZ (i := 28) rfl (by omega) (by omega) ⟨0, rfl, by omega, by omega, (by omega), (by intro hz; first | exact absurd hz (by omega) | exact fun t9 a9 b9 => ⟨⟨a9, b9⟩, by omega⟩), (by intro hz; first | exact absurd hz (by omega) | exact fun t9 h9 => by unfold goC at h9; omega), rfl⟩
      · refine r_load (i := 22) (u := 3) (w := 0) rfl rfl rfl ?_
        refine r_const (i := 23) (u := 4294967295) (z := -1) rfl rfl ?_
        refine c_ne (i := 24) (v := 27) rfl ⟨by omega, by omega⟩ ⟨by omega, by omega⟩ (fun h53 => ?_) (fun h54 => ?_)
        · refine r_const (i := 27) (u := 0) (z := 0) rfl rfl ?_
          exact r_retZ (i := 28) rfl (by omega) (by omega) ⟨0, rfl, by omega, by omega, (by omega), (by intro hz; first | exact absurd hz (by omega) | exact fun t9 a9 b9 => ⟨⟨a9, b9⟩, by omega⟩), (by intro hz; first | exact absurd hz (by omega) | exact fun t9 h9 => by unfold goC at h9; omega), rfl⟩
        · refine r_const (i := 25) (u := 1) (z := 1) rfl rfl ?_
          refine r_goto (i := 26) (v := 28) rfl ?_
          exact r_retZ (i := 28) rfl (by omega) (by omega) ⟨1, rfl, by omega, by omega, (by omega), (by intro hz; first | exact absurd hz (by omega) | exact fun t9 a9 b9 => ⟨⟨a9, b9⟩, by omega⟩), (by intro hz; first | exact absurd hz (by omega) | exact fun t9 h9 => by unfold goC at h9; omega), rfl⟩
  · refine r_load (i := 3) (u := 2) (w := 0) rfl rfl rfl ?_
    refine r_const (i := 4) (u := 4294967295) (z := -1) rfl rfl ?_
    refine c_ne (i := 5) (v := 11) rfl ⟨by omega, by omega⟩ ⟨by omega, by omega⟩ (fun h55 => ?_) (fun h56 => ?_)
    · refine r_const (i := 11) (u := 0) (z := 0) rfl rfl ?_
      have h57 := hI.f tf1_7
      exact r_retZ (i := 12) rfl (by omega) (by omega) ⟨0, rfl, by omega, by omega, (by omega), (by intro hz; first | exact absurd hz (by omega) | exact fun t9 a9 b9 => ⟨⟨a9, b9⟩, by omega⟩), (by intro hz; first | exact absurd hz (by omega) | exact fun t9 h9 => by unfold goC at h9; omega), rfl⟩
    · refine r_load (i := 6) (u := 3) (w := 0) rfl rfl rfl ?_
      refine r_const (i := 7) (u := 4294967295) (z := -1) rfl rfl ?_
      refine c_ne (i := 8) (v := 11) rfl ⟨by omega, by omega⟩ ⟨by omega, by omega⟩ (fun h58 => ?_) (fun h59 => ?_)
      · refine r_const (i := 11) (u := 0) (z := 0) rfl rfl ?_
        have h60 := hI.f tf1_7
        exact r_retZ (i := 12) rfl (by omega) (by omega) ⟨0, rfl, by omega, by omega, (by omega), (by intro hz; first | exact absurd hz (by omega) | exact fun t9 a9 b9 => ⟨⟨a9, b9⟩, by omega⟩), (by intro hz; first | exact absurd hz (by omega) | exact fun t9 h9 => by unfold goC at h9; omega), rfl⟩
      · refine r_const (i := 9) (u := 1) (z := 1) rfl rfl ?_
        refine r_goto (i := 10) (v := 12) rfl ?_
        have h61 := hI.f tf1_7
        exact r_retZ (i := 12) rfl (by omega) (by omega) ⟨1, rfl, by omega, by omega, (by omega), (by intro hz; first | exact absurd hz (by omega) | exact fun t9 a9 b9 => ⟨⟨a9, b9⟩, by omega⟩), (by intro hz; first | exact absurd hz (by omega) | exact fun t9 h9 => by unfold goC at h9; omega), rfl⟩
/-- ProxyForge.isAnswer -/
theorem sp11 {G : xk} {S : yS} {d : Nat} (hI : yI S) {k : Int} (h_k : -2147483648 ≤ k ∧ k ≤ 2147483647) {v : Int} (h_v : Rl v) (hd : 1 ≤ d) : yT xPr G LY xC11 0 [some ((2, 0)), some (vi k), some (vl v), none] [] S d (fun r S' => ∃ z : Int, r = (1, vi z) ∧ 0 ≤ z ∧ z ≤ 1 ∧ (z = 1 → 0 ≤ k ∧ k ≤ 5 ∧ (4 ≤ k → 0 ≤ v ∧ v ≤ 19)) ∧ S = S') := by
  refine yT_pad 0 ?_
  show yT xPr G LY xC11 0 [some ((2, 0)), some (vi k), some (vl v), none] [] S d _
  obtain ⟨d, rfl⟩ : ∃ q, d = q + 1 := ⟨d - 1, by omega⟩
  refine r_load (i := 0) (u := 1) (w := 0) rfl rfl rfl ?_
  refine r_const (i := 1) (u := 4) (z := 4) rfl rfl ?_
  refine c_ne (i := 2) (v := 8) rfl ⟨by omega, by omega⟩ ⟨by omega, by omega⟩ (fun h1 => ?_) (fun h2 => ?_)
  · refine r_load (i := 8) (u := 1) (w := 0) rfl rfl rfl ?_
    refine r_const (i := 9) (u := 5) (z := 5) rfl rfl ?_
    refine c_ne (i := 10) (v := 27) rfl ⟨by omega, by omega⟩ ⟨by omega, by omega⟩ (fun h3 => ?_) (fun h4 => ?_)
    · refine r_load (i := 27) (u := 1) (w := 0) rfl rfl rfl ?_
      refine z_lt (i := 28) (v := 34) rfl ⟨by omega, by omega⟩ (fun h5 => ?_) (fun h6 => ?_)
      · refine r_const (i := 34) (u := 0) (z := 0) rfl rfl ?_
        exact r_retZ (i := 35) rfl (by omega) (by omega) ⟨0, rfl, by omega, by omega, (by omega), rfl⟩
      · refine r_load (i := 29) (u := 1) (w := 0) rfl rfl rfl ?_
        refine r_const (i := 30) (u := 3) (z := 3) rfl rfl ?_
        refine c_gt (i := 31) (v := 34) rfl ⟨by omega, by omega⟩ ⟨by omega, by omega⟩ (fun h7 => ?_) (fun h8 => ?_)
        · refine r_const (i := 34) (u := 0) (z := 0) rfl rfl ?_
          exact r_retZ (i := 35) rfl (by omega) (by omega) ⟨0, rfl, by omega, by omega, (by omega), rfl⟩
        · refine r_const (i := 32) (u := 1) (z := 1) rfl rfl ?_
          refine r_goto (i := 33) (v := 35) rfl ?_
          exact r_retZ (i := 35) rfl (by omega) (by omega) ⟨1, rfl, by omega, by omega, (by omega), rfl⟩
    · refine r_load (i := 11) (u := 0) (w := 2) rfl rfl rfl ?_
      refine r_getf (i := 12) (v := 0) (w := 0) (x := (2, 1)) rfl ly0 rfl rfl fun _ => ?_
      refine r_load (i := 13) (u := 2) (w := 1) rfl rfl rfl ?_
      have h10 := hI.f tf1_7
      refine r_call (i := 14) (u := 1) (v := 131) (w := 0) (b := 0) (na := 770) (C2 := xC131) (as := [(2, 1), vl v]) (s := []) rfl rfl rfl rfl rfl rfl rfl (sp131 (t := v) hI ⟨by omega, by omega⟩   (by omega)) (fun r11 S12 hq13 => ?_)
      obtain ⟨z14, rfl, h15, h16, h17, h18, rfl⟩ := hq13
      refine Or.inr (Or.inl ⟨rfl, ?_⟩)
      refine z_eq (i := 15) (v := 25) rfl ⟨by omega, by omega⟩ (fun h19 => ?_) (fun h20 => ?_)
      · refine r_const (i := 25) (u := 0) (z := 0) rfl rfl ?_
        exact r_retZ (i := 26) rfl (by omega) (by omega) ⟨0, rfl, by omega, by omega, (by omega), rfl⟩
      · refine r_load (i := 16) (u := 0) (w := 2) rfl rfl rfl ?_
        refine r_getf (i := 17) (v := 0) (w := 0) (x := (2, 1)) rfl ly0 rfl rfl fun _ => ?_
        refine r_load (i := 18) (u := 2) (w := 1) rfl rfl rfl ?_
        refine r_l2i (i := 19) rfl ?_
        rw [vi_sg v]
        have h22 := ysg_fact v
        refine r_const (i := 20) (u := 1) (z := 1) rfl rfl ?_
        refine r_call (i := 21) (u := 1) (v := 133) (w := 0) (b := 0) (na := 771) (C2 := xC133) (as := [(2, 1), vi (ysg v), vi 1]) (s := []) rfl rfl rfl rfl rfl rfl rfl (sp133 (t := ysg v) (o := 1) hI ⟨by omega, by omega⟩ ⟨by omega, by omega⟩   (by omega)) (fun r23 S24 hq25 => ?_)
        obtain ⟨z26, rfl, h27, h28, yb29, nb30, rfl⟩ := hq25
        refine Or.inr (Or.inl ⟨rfl, ?_⟩)
        refine z_eq (i := 22) (v := 25) rfl ⟨by omega, by omega⟩ (fun h31 => ?_) (fun h32 => ?_)
        · refine r_const (i := 25) (u := 0) (z := 0) rfl rfl ?_
          exact r_retZ (i := 26) rfl (by omega) (by omega) ⟨0, rfl, by omega, by omega, (by omega), rfl⟩
        · refine r_const (i := 23) (u := 1) (z := 1) rfl rfl ?_
          refine r_goto (i := 24) (v := 26) rfl ?_
          exact r_retZ (i := 26) rfl (by omega) (by omega) ⟨1, rfl, by omega, by omega, (by omega), rfl⟩
  · refine r_load (i := 3) (u := 0) (w := 2) rfl rfl rfl ?_
    refine r_getf (i := 4) (v := 0) (w := 0) (x := (2, 1)) rfl ly0 rfl rfl fun _ => ?_
    refine r_load (i := 5) (u := 2) (w := 1) rfl rfl rfl ?_
    have h34 := hI.f tf1_7
    refine r_call (i := 6) (u := 1) (v := 131) (w := 0) (b := 0) (na := 770) (C2 := xC131) (as := [(2, 1), vl v]) (s := []) rfl rfl rfl rfl rfl rfl rfl (sp131 (t := v) hI ⟨by omega, by omega⟩   (by omega)) (fun r35 S36 hq37 => ?_)
    obtain ⟨z38, rfl, h39, h40, h41, h42, rfl⟩ := hq37
    refine Or.inr (Or.inl ⟨rfl, ?_⟩)
    exact r_retZ (i := 7) rfl (by omega) (by omega) ⟨z38, rfl, by omega, by omega, (by omega), rfl⟩
/-- ProxyForge.isSubtype -/
theorem sp12 {G : xk} {S : yS} {d : Nat} (hI : yI S) {t : Int} (h_t : -2147483648 ≤ t ∧ t ≤ 2147483647) {o : Int} (h_o : -2147483648 ≤ o ∧ o ≤ 2147483647) (hd : 1 ≤ d) : yT xPr G LY xC12 0 [some ((2, 0)), some (vi t), some (vi o)] [] S d (fun r S' => ∃ z : Int, r = (1, vi z) ∧ 0 ≤ z ∧ z ≤ 1 ∧ (z = 1 ↔ (0 ≤ t ∧ t < S.f 1 7 ∧ 0 ≤ o ∧ o < S.f 1 7 ∧ bt (S.a 6 t.toNat) o)) ∧ S = S') := by
  refine yT_pad 0 ?_
  show yT xPr G LY xC12 0 [some ((2, 0)), some (vi t), some (vi o)] [] S d _
  obtain ⟨d, rfl⟩ : ∃ q, d = q + 1 := ⟨d - 1, by omega⟩
  refine r_load (i := 0) (u := 0) (w := 2) rfl rfl rfl ?_
  refine r_getf (i := 1) (v := 0) (w := 0) (x := (2, 1)) rfl ly0 rfl rfl fun _ => ?_
  refine r_load (i := 2) (u := 1) (w := 0) rfl rfl rfl ?_
  refine r_i2l (i := 3) rfl ⟨by omega, by omega⟩ ?_
  have h2 := hI.f tf1_7
  refine r_call (i := 4) (u := 1) (v := 131) (w := 0) (b := 0) (na := 770) (C2 := xC131) (as := [(2, 1), vl t]) (s := []) rfl rfl rfl rfl rfl rfl rfl (sp131 (t := t) hI ⟨by omega, by omega⟩   (by omega)) (fun r3 S4 hq5 => ?_)
  obtain ⟨z6, rfl, h7, h8, h9, h10, rfl⟩ := hq5
  refine Or.inr (Or.inl ⟨rfl, ?_⟩)
  refine z_eq (i := 5) (v := 20) rfl ⟨by omega, by omega⟩ (fun h11 => ?_) (fun h12 => ?_)
  · refine r_const (i := 20) (u := 0) (z := 0) rfl rfl ?_
    exact r_retZ (i := 21) rfl (by omega) (by omega) ⟨0, rfl, by omega, by omega, (by exact ⟨fun h9 => by exfalso; omega, fun h9 => by obtain ⟨a1, a2, a3, a4, -⟩ := h9; exfalso; omega⟩), rfl⟩
  · refine r_load (i := 6) (u := 0) (w := 2) rfl rfl rfl ?_
    refine r_getf (i := 7) (v := 0) (w := 0) (x := (2, 1)) rfl ly0 rfl rfl fun _ => ?_
    refine r_load (i := 8) (u := 2) (w := 0) rfl rfl rfl ?_
    refine r_i2l (i := 9) rfl ⟨by omega, by omega⟩ ?_
    refine r_call (i := 10) (u := 1) (v := 131) (w := 0) (b := 0) (na := 770) (C2 := xC131) (as := [(2, 1), vl o]) (s := []) rfl rfl rfl rfl rfl rfl rfl (sp131 (t := o) hI ⟨by omega, by omega⟩   (by omega)) (fun r14 S15 hq16 => ?_)
    obtain ⟨z17, rfl, h18, h19, h20, h21, rfl⟩ := hq16
    refine Or.inr (Or.inl ⟨rfl, ?_⟩)
    refine z_eq (i := 11) (v := 20) rfl ⟨by omega, by omega⟩ (fun h22 => ?_) (fun h23 => ?_)
    · refine r_const (i := 20) (u := 0) (z := 0) rfl rfl ?_
      exact r_retZ (i := 21) rfl (by omega) (by omega) ⟨0, rfl, by omega, by omega, (by exact ⟨fun h9 => by exfalso; omega, fun h9 => by obtain ⟨a1, a2, a3, a4, -⟩ := h9; exfalso; omega⟩), rfl⟩
    · refine r_load (i := 12) (u := 0) (w := 2) rfl rfl rfl ?_
      refine r_getf (i := 13) (v := 0) (w := 0) (x := (2, 1)) rfl ly0 rfl rfl fun _ => ?_
      refine r_load (i := 14) (u := 1) (w := 0) rfl rfl rfl ?_
      refine r_load (i := 15) (u := 2) (w := 0) rfl rfl rfl ?_
      refine r_call (i := 16) (u := 1) (v := 133) (w := 0) (b := 0) (na := 771) (C2 := xC133) (as := [(2, 1), vi t, vi o]) (s := []) rfl rfl rfl rfl rfl rfl rfl (sp133 (t := t) (o := o) hI ⟨by omega, by omega⟩ ⟨by omega, by omega⟩   (by omega)) (fun r25 S26 hq27 => ?_)
      obtain ⟨z28, rfl, h29, h30, yb31, nb32, rfl⟩ := hq27
      refine Or.inr (Or.inl ⟨rfl, ?_⟩)
      refine z_eq (i := 17) (v := 20) rfl ⟨by omega, by omega⟩ (fun h33 => ?_) (fun h34 => ?_)
      · refine r_const (i := 20) (u := 0) (z := 0) rfl rfl ?_
        exact r_retZ (i := 21) rfl (by omega) (by omega) ⟨0, rfl, by omega, by omega, (by exact ⟨fun h9 => ⟨by omega, by omega, by omega, by omega, yb31 (by omega)⟩, fun h9 => by first | omega | exact absurd h9.2.2.2.2 (nb32 (by omega))⟩), rfl⟩
      · refine r_const (i := 18) (u := 1) (z := 1) rfl rfl ?_
        refine r_goto (i := 19) (v := 21) rfl ?_
        exact r_retZ (i := 21) rfl (by omega) (by omega) ⟨1, rfl, by omega, by omega, (by exact ⟨fun h9 => ⟨by omega, by omega, by omega, by omega, yb31 (by omega)⟩, fun h9 => by first | omega | exact absurd h9.2.2.2.2 (nb32 (by omega))⟩), rfl⟩
/-- ProxyForge.policy -/
theorem sp14 {G : xk} {S : yS} {d : Nat} (hI : yI S) {w0 : Int} (h_w0 : -2147483648 ≤ w0 ∧ w0 ≤ 2147483647) {k : Int} (h_k : -2147483648 ≤ k ∧ k ≤ 2147483647) (hd : 0 ≤ d) : yT xPr G LY xC14 0 [some ((2, 0)), some (vi w0), some (vi k)] [] S d (fun r S' => ∃ z : Int, r = (1, vi z) ∧ 0 ≤ z ∧ z ≤ 1 ∧ (z = 1 ∧ 0 ≤ w0 ∧ w0 ≤ 9 ∧ 0 ≤ k ∧ k ≤ 3 ∨ z = 0 ∧ (w0 < 0 ∨ 9 < w0 ∨ k < 0 ∨ 3 < k)) ∧ plQ 42 S S' w0 k z ∧ yI S' ∧ yFr [] [42] S S' ∧ yRm [] S S') := by
  refine yT_pad 0 ?_
  show yT xPr G LY xC14 0 [some ((2, 0)), some (vi w0), some (vi k)] [] S d _
  have hF : yFr [] [42] S S := yFr.refl S
  have hR : yRm [] S S := yRm.refl S
  refine r_load (i := 0) (u := 1) (w := 0) rfl rfl rfl ?_
  refine z_lt (i := 1) (v := 10) rfl ⟨by omega, by omega⟩ (fun h1 => ?_) (fun h2 => ?_)
  · refine r_const (i := 10) (u := 0) (z := 0) rfl rfl ?_
    exact r_retZ (i := 11) rfl (by omega) (by omega) ⟨0, rfl, by omega, by omega, (by omega), (by exact ⟨fun h9 => by first | exact absurd h9 (by omega) | exact fun j => by skip; rfl, fun h9 => by first | exact absurd h9 (by omega) | exact fun j => by skip; rfl⟩), hI, hF, hR⟩
  · refine r_load (i := 2) (u := 1) (w := 0) rfl rfl rfl ?_
    refine r_const (i := 3) (u := 10) (z := 10) rfl rfl ?_
    refine c_ge (i := 4) (v := 10) rfl ⟨by omega, by omega⟩ ⟨by omega, by omega⟩ (fun h3 => ?_) (fun h4 => ?_)
    · refine r_const (i := 10) (u := 0) (z := 0) rfl rfl ?_
      exact r_retZ (i := 11) rfl (by omega) (by omega) ⟨0, rfl, by omega, by omega, (by omega), (by exact ⟨fun h9 => by first | exact absurd h9 (by omega) | exact fun j => by skip; rfl, fun h9 => by first | exact absurd h9 (by omega) | exact fun j => by skip; rfl⟩), hI, hF, hR⟩
    · refine r_load (i := 5) (u := 2) (w := 0) rfl rfl rfl ?_
      refine z_lt (i := 6) (v := 10) rfl ⟨by omega, by omega⟩ (fun h5 => ?_) (fun h6 => ?_)
      · refine r_const (i := 10) (u := 0) (z := 0) rfl rfl ?_
        exact r_retZ (i := 11) rfl (by omega) (by omega) ⟨0, rfl, by omega, by omega, (by omega), (by exact ⟨fun h9 => by first | exact absurd h9 (by omega) | exact fun j => by skip; rfl, fun h9 => by first | exact absurd h9 (by omega) | exact fun j => by skip; rfl⟩), hI, hF, hR⟩
      · refine r_load (i := 7) (u := 2) (w := 0) rfl rfl rfl ?_
        refine r_const (i := 8) (u := 3) (z := 3) rfl rfl ?_
        refine c_le (i := 9) (v := 12) rfl ⟨by omega, by omega⟩ ⟨by omega, by omega⟩ (fun h7 => ?_) (fun h8 => ?_)
        · refine r_load (i := 12) (u := 0) (w := 2) rfl rfl rfl ?_
          refine r_getf (i := 13) (v := 9) (w := 0) (x := (2, 42)) rfl ly0 rfl rfl fun _ => ?_
          refine r_load (i := 14) (u := 1) (w := 0) rfl rfl rfl ?_
          refine r_load (i := 15) (u := 2) (w := 0) rfl rfl rfl ?_
          refine s_int (i := 16) rfl ly42 rfl (by omega) (by omega) ⟨by omega, by omega⟩ ?_
          have hI11 := hI.seta (b := 42) (j := w0.toNat) (z := k) ta42 rfl (by omega) (by omega)
          have hF13 := hF.seta (b := 42) (j := w0.toNat) (z := k) rfl
          have hR14 := hR.seta (b := 42) (j := w0.toNat) (z := k)
          refine yT_gen (fun S10 hS12 => ?_)
          rw [hS12] at hI11 hF13 hR14 
          refine r_const (i := 17) (u := 1) (z := 1) rfl rfl ?_
          exact r_retZ (i := 18) rfl (by omega) (by omega) ⟨1, rfl, by omega, by omega, (by omega), (by exact ⟨fun h9 => by first | exact absurd h9 (by omega) | exact fun j => by subst hS12; rfl, fun h9 => by first | exact absurd h9 (by omega) | exact fun j => by subst hS12; rfl⟩), hI11, hF13, hR14⟩
        · refine r_const (i := 10) (u := 0) (z := 0) rfl rfl ?_
          exact r_retZ (i := 11) rfl (by omega) (by omega) ⟨0, rfl, by omega, by omega, (by omega), (by exact ⟨fun h9 => by first | exact absurd h9 (by omega) | exact fun j => by skip; rfl, fun h9 => by first | exact absurd h9 (by omega) | exact fun j => by skip; rfl⟩), hI, hF, hR⟩
/-- ProxyForge.slots -/
theorem sp19 {G : xk} {S : yS} {d : Nat} (hI : yI S)  (hd : 0 ≤ d) : yT xPr G LY xC19 0 [some ((2, 0))] [] S d (fun r S' => ∃ z : Int, r = (1, vi z) ∧ -2147483648 ≤ z ∧ z ≤ 2147483647 ∧ z = S.f 22 3 ∧ S = S') := by
  refine yT_pad 0 ?_
  show yT xPr G LY xC19 0 [some ((2, 0))] [] S d _
  refine r_load (i := 0) (u := 0) (w := 2) rfl rfl rfl ?_
  refine r_getf (i := 1) (v := 3) (w := 0) (x := (2, 22)) rfl ly0 rfl rfl fun _ => ?_
  have h2 := hI.f tf22_3
  refine r_getf (i := 2) (v := 3) (w := 4) (x := vi (S.f 22 3)) rfl ly22 rfl rfl fun h3 => ?_
  have h3 : Rg (S.f 22 3) := h3
  exact r_retI (i := 3) rfl ⟨S.f 22 3, rfl, by omega, by omega, (by omega), rfl⟩
/-- ProxyForge.asked -/
theorem sp3 {G : xk} {S : yS} {d : Nat} (hI : yI S)  (hd : 0 ≤ d) : yT xPr G LY xC3 0 [some ((2, 0))] [] S d (fun r S' => ∃ z : Int, r = (1, vi z) ∧ -2147483648 ≤ z ∧ z ≤ 2147483647 ∧ S = S') := by
  refine yT_pad 0 ?_
  show yT xPr G LY xC3 0 [some ((2, 0))] [] S d _
  refine r_load (i := 0) (u := 0) (w := 2) rfl rfl rfl ?_
  refine r_getf (i := 1) (v := 4) (w := 0) (x := (2, 26)) rfl ly0 rfl rfl fun _ => ?_
  have h2 := hI.f tf26_3
  refine r_getf (i := 2) (v := 3) (w := 5) (x := vi (S.f 26 3)) rfl ly26 rfl rfl fun h3 => ?_
  have h3 : Rg (S.f 26 3) := h3
  exact r_retI (i := 3) rfl ⟨S.f 26 3, rfl, by omega, by omega, rfl⟩
/-- ProxyForge.size -/
theorem sp17 {G : xk} {S : yS} {d : Nat} (hI : yI S)  (hd : 0 ≤ d) : yT xPr G LY xC17 0 [some ((2, 0))] [] S d (fun r S' => ∃ z : Int, r = (1, vi z) ∧ -2147483648 ≤ z ∧ z ≤ 2147483647 ∧ z = S.f 31 1 ∧ S = S') := by
  refine yT_pad 0 ?_
  show yT xPr G LY xC17 0 [some ((2, 0))] [] S d _
  refine r_load (i := 0) (u := 0) (w := 2) rfl rfl rfl ?_
  refine r_getf (i := 1) (v := 6) (w := 0) (x := (2, 31)) rfl ly0 rfl rfl fun _ => ?_
  have h2 := hI.b0
  refine r_getf (i := 2) (v := 1) (w := 7) (x := vi (S.f 31 1)) rfl ly31 rfl rfl fun h3 => ?_
  have h3 : Rg (S.f 31 1) := h3
  exact r_retI (i := 3) rfl ⟨S.f 31 1, rfl, by omega, by omega, (by omega), rfl⟩
/-- ProxyForge.slot -/
theorem sp18 {G : xk} {S : yS} {d : Nat} (hI : yI S) {k : Int} (h_k : -2147483648 ≤ k ∧ k ≤ 2147483647) (hd : 1 ≤ d) : yT xPr G LY xC18 0 [some ((2, 0)), some (vi k)] [] S d (fun r S' => ∃ z : Int, r = (1, vi z) ∧ -2147483648 ≤ z ∧ z ≤ 2147483647 ∧ ((z = -1 ∧ ¬ (0 ≤ k ∧ k < S.f 22 3)) ∨ ((0 ≤ k ∧ k < S.f 22 3) ∧ z = S.a 23 k.toNat)) ∧ S = S') := by
  refine yT_pad 0 ?_
  show yT xPr G LY xC18 0 [some ((2, 0)), some (vi k)] [] S d _
  obtain ⟨d, rfl⟩ : ∃ q, d = q + 1 := ⟨d - 1, by omega⟩
  refine r_load (i := 0) (u := 0) (w := 2) rfl rfl rfl ?_
  refine r_getf (i := 1) (v := 3) (w := 0) (x := (2, 22)) rfl ly0 rfl rfl fun _ => ?_
  refine r_load (i := 2) (u := 1) (w := 0) rfl rfl rfl ?_
  have h2 := hI.f tf22_3
  refine r_call (i := 3) (u := 4) (v := 101) (w := 0) (b := 0) (na := 514) (C2 := xC101) (as := [(2, 22), vi k]) (s := []) rfl rfl rfl rfl rfl rfl rfl (sp101 (k := k) hI ⟨by omega, by omega⟩   (by omega)) (fun r3 S4 hq5 => ?_)
  obtain ⟨z6, rfl, h7, h8, h9, h10, rfl⟩ := hq5
  refine Or.inr (Or.inl ⟨rfl, ?_⟩)
  refine z_eq (i := 4) (v := 11) rfl ⟨by omega, by omega⟩ (fun h11 => ?_) (fun h12 => ?_)
  · refine r_const (i := 11) (u := 4294967295) (z := -1) rfl rfl ?_
    have h13 := hI.a ta23 k.toNat
    exact r_retI (i := 12) rfl ⟨-1, rfl, by omega, by omega, (by omega), rfl⟩
  · refine r_load (i := 5) (u := 0) (w := 2) rfl rfl rfl ?_
    refine r_getf (i := 6) (v := 3) (w := 0) (x := (2, 22)) rfl ly0 rfl rfl fun _ => ?_
    refine r_getf (i := 7) (v := 0) (w := 4) (x := (2, 23)) rfl ly22 rfl rfl fun _ => ?_
    refine r_load (i := 8) (u := 1) (w := 0) rfl rfl rfl ?_
    refine a_int (i := 9) rfl ly23 rfl (by omega) (by omega) fun h16 => ?_
    have h17 := hI.a ta23 k.toNat
    refine r_goto (i := 10) (v := 12) rfl ?_
    have h18 := hI.a ta23 k.toNat
    exact r_retI (i := 12) rfl ⟨S.a 23 k.toNat, rfl, by omega, by omega, (by omega), rfl⟩
/-- ProxyForge.result -/
theorem sp16 {G : xk} {S : yS} {d : Nat} (hI : yI S)  (hd : 0 ≤ d) : yT xPr G LY xC16 0 [some ((2, 0))] [] S d (fun r S' => ∃ z : Int, r = (1, vl z) ∧ Rl z ∧ S = S') := by
  refine yT_pad 0 ?_
  show yT xPr G LY xC16 0 [some ((2, 0))] [] S d _
  refine r_load (i := 0) (u := 0) (w := 2) rfl rfl rfl ?_
  refine r_getf (i := 1) (v := 5) (w := 0) (x := (2, 29)) rfl ly0 rfl rfl fun _ => ?_
  refine r_getf (i := 2) (v := 5) (w := 6) (x := vl (S.f 29 5)) rfl ly29 rfl rfl fun h2 => ?_
  have h2 : Rl (S.f 29 5) := h2
  exact r_retL (i := 3) rfl ⟨S.f 29 5, rfl, ⟨by omega, by omega⟩, rfl⟩
/-- ProxyForge.given -/
theorem sp9 {G : xk} {S : yS} {d : Nat} (hI : yI S) {i0 : Int} (h_i0 : -2147483648 ≤ i0 ∧ i0 ≤ 2147483647) {w0 : Int} (h_w0 : -2147483648 ≤ w0 ∧ w0 ≤ 2147483647) (hd : 0 ≤ d) : yT xPr G LY xC9 0 [some ((2, 0)), some (vi i0), some (vi w0)] [] S d (fun r S' => ∃ z : Int, r = (1, vl z) ∧ Rl z ∧ S = S') := by
  refine yT_pad 0 ?_
  show yT xPr G LY xC9 0 [some ((2, 0)), some (vi i0), some (vi w0)] [] S d _
  refine r_load (i := 0) (u := 1) (w := 0) rfl rfl rfl ?_
  refine z_lt (i := 1) (v := 7) rfl ⟨by omega, by omega⟩ (fun h1 => ?_) (fun h2 => ?_)
  · refine r_lconst (i := 7) (u := 18446744073709551615) (z := -1) rfl rfl ?_
    exact r_retL (i := 8) rfl ⟨-1, rfl, ⟨by omega, by omega⟩, rfl⟩
  · refine r_load (i := 2) (u := 1) (w := 0) rfl rfl rfl ?_
    refine r_load (i := 3) (u := 0) (w := 2) rfl rfl rfl ?_
    refine r_getf (i := 4) (v := 4) (w := 0) (x := (2, 26)) rfl ly0 rfl rfl fun _ => ?_
    have h4 := hI.f tf26_2
    refine r_getf (i := 5) (v := 2) (w := 5) (x := vi (S.f 26 2)) rfl ly26 rfl rfl fun h5 => ?_
    have h5 : Rg (S.f 26 2) := h5
    refine c_lt (i := 6) (v := 9) rfl ⟨by omega, by omega⟩ ⟨by omega, by omega⟩ (fun h6 => ?_) (fun h7 => ?_)
    · refine r_load (i := 9) (u := 2) (w := 0) rfl rfl rfl ?_
      refine z_ne (i := 10) (v := 18) rfl ⟨by omega, by omega⟩ (fun h8 => ?_) (fun h9 => ?_)
      · refine r_load (i := 18) (u := 2) (w := 0) rfl rfl rfl ?_
        refine r_const (i := 19) (u := 1) (z := 1) rfl rfl ?_
        refine c_ne (i := 20) (v := 27) rfl ⟨by omega, by omega⟩ ⟨by omega, by omega⟩ (fun h10 => ?_) (fun h11 => ?_)
        · refine r_lconst (i := 27) (u := 18446744073709551615) (z := -1) rfl rfl ?_
          exact r_retL (i := 28) rfl ⟨-1, rfl, ⟨by omega, by omega⟩, rfl⟩
        · refine r_load (i := 21) (u := 0) (w := 2) rfl rfl rfl ?_
          refine r_getf (i := 22) (v := 4) (w := 0) (x := (2, 26)) rfl ly0 rfl rfl fun _ => ?_
          refine r_getf (i := 23) (v := 1) (w := 5) (x := (2, 28)) rfl ly26 rfl rfl fun _ => ?_
          refine r_load (i := 24) (u := 1) (w := 0) rfl rfl rfl ?_
          refine r_laload (i := 25) rfl ly28 (by decide) (by omega) (by omega) fun h14 => ?_
          refine r_goto (i := 26) (v := 28) rfl ?_
          exact r_retL (i := 28) rfl ⟨S.a 28 i0.toNat, rfl, ⟨by omega, by omega⟩, rfl⟩
      · refine r_load (i := 11) (u := 0) (w := 2) rfl rfl rfl ?_
        refine r_getf (i := 12) (v := 4) (w := 0) (x := (2, 26)) rfl ly0 rfl rfl fun _ => ?_
        refine r_getf (i := 13) (v := 0) (w := 5) (x := (2, 27)) rfl ly26 rfl rfl fun _ => ?_
        refine r_load (i := 14) (u := 1) (w := 0) rfl rfl rfl ?_
        refine a_int (i := 15) rfl ly27 rfl (by omega) (by omega) fun h17 => ?_
        have h18 := hI.a ta27 i0.toNat
        refine r_i2l (i := 16) rfl ⟨by omega, by omega⟩ ?_
        exact r_retL (i := 17) rfl ⟨S.a 27 i0.toNat, rfl, ⟨by omega, by omega⟩, rfl⟩
    · refine r_lconst (i := 7) (u := 18446744073709551615) (z := -1) rfl rfl ?_
      exact r_retL (i := 8) rfl ⟨-1, rfl, ⟨by omega, by omega⟩, rfl⟩
/-- ProxyForge.byteAt -/
theorem sp4 {G : xk} {S : yS} {d : Nat} (hI : yI S) {k : Int} (h_k : -2147483648 ≤ k ∧ k ≤ 2147483647) (hd : 1 ≤ d) : yT xPr G LY xC4 0 [some ((2, 0)), some (vi k)] [] S d (fun r S' => ∃ z : Int, r = (1, vi z) ∧ -2147483648 ≤ z ∧ z ≤ 2147483647 ∧ byC S k z ∧ S = S') := by
  refine yT_pad 0 ?_
  show yT xPr G LY xC4 0 [some ((2, 0)), some (vi k)] [] S d _
  obtain ⟨d, rfl⟩ : ∃ q, d = q + 1 := ⟨d - 1, by omega⟩
  refine r_load (i := 0) (u := 0) (w := 2) rfl rfl rfl ?_
  refine r_getf (i := 1) (v := 6) (w := 0) (x := (2, 31)) rfl ly0 rfl rfl fun _ => ?_
  refine r_load (i := 2) (u := 1) (w := 0) rfl rfl rfl ?_
  have h2 := hI.b0
  refine r_call (i := 3) (u := 7) (v := 27) (w := 0) (b := 0) (na := 514) (C2 := xC27) (as := [(2, 31), vi k]) (s := []) rfl rfl rfl rfl rfl rfl rfl (sp27_31 (k := k) hI ⟨by omega, by omega⟩   (by omega)) (fun r3 S4 hq5 => ?_)
  obtain ⟨z6, rfl, h7, h8, h9, h10, rfl⟩ := hq5
  refine Or.inr (Or.inl ⟨rfl, ?_⟩)
  refine z_eq (i := 4) (v := 10) rfl ⟨by omega, by omega⟩ (fun h11 => ?_) (fun h12 => ?_)
  · refine r_const (i := 10) (u := 4294967295) (z := -1) rfl rfl ?_
    exact r_retI (i := 11) rfl ⟨-1, rfl, by omega, by omega, (by first | exact Or.inl ⟨rfl, by omega⟩ | exact Or.inr ⟨by omega, by rw [← yand_m]; omega⟩), rfl⟩
  · refine r_load (i := 5) (u := 0) (w := 2) rfl rfl rfl ?_
    refine r_getf (i := 6) (v := 6) (w := 0) (x := (2, 31)) rfl ly0 rfl rfl fun _ => ?_
    refine r_load (i := 7) (u := 1) (w := 0) rfl rfl rfl ?_
    have h14 := hI.bn
    have h15 := hI.br
    refine r_call (i := 8) (u := 7) (v := 25) (w := 0) (b := 0) (na := 514) (C2 := xC25) (as := [(2, 31), vi k]) (s := []) rfl rfl rfl rfl rfl rfl rfl (sp25_31 (k := k) hI ⟨by omega, by omega⟩ (by omega)  (by omega)) (fun r16 S17 hq18 => ?_)
    obtain ⟨z19, rfl, h20, h21, h22, rfl⟩ := hq18
    refine Or.inr (Or.inl ⟨rfl, ?_⟩)
    refine r_goto (i := 9) (v := 11) rfl ?_
    exact r_retI (i := 11) rfl ⟨z19, rfl, by omega, by omega, (by first | exact Or.inl ⟨rfl, by omega⟩ | exact Or.inr ⟨by omega, by rw [← yand_m]; omega⟩), rfl⟩
/-- ProxyForge.change -/
theorem sp6 {G : xk} {S : yS} {d : Nat} (hI : yI S) {k : Int} (h_k : -2147483648 ≤ k ∧ k ≤ 2147483647) {b : Int} (h_b : -2147483648 ≤ b ∧ b ≤ 2147483647) (hd : 1 ≤ d) : yT xPr G LY xC6 0 [some ((2, 0)), some (vi k), some (vi b)] [] S d (fun r S' => ∃ z : Int, r = (1, vi z) ∧ 0 ≤ z ∧ z ≤ 1 ∧ chC6 S S' k b z ∧ yI S' ∧ yFr [] [100] S S' ∧ yRm [] S S') := by
  refine yT_pad 0 ?_
  show yT xPr G LY xC6 0 [some ((2, 0)), some (vi k), some (vi b)] [] S d _
  obtain ⟨d, rfl⟩ : ∃ q, d = q + 1 := ⟨d - 1, by omega⟩
  have hF : yFr [] [100] S S := yFr.refl S
  have hR : yRm [] S S := yRm.refl S
  refine r_load (i := 0) (u := 0) (w := 2) rfl rfl rfl ?_
  refine r_getf (i := 1) (v := 6) (w := 0) (x := (2, 31)) rfl ly0 rfl rfl fun _ => ?_
  refine r_load (i := 2) (u := 1) (w := 0) rfl rfl rfl ?_
  have h2 := hI.b0
  refine r_call (i := 3) (u := 7) (v := 27) (w := 0) (b := 0) (na := 514) (C2 := xC27) (as := [(2, 31), vi k]) (s := []) rfl rfl rfl rfl rfl rfl rfl (sp27_31 (k := k) hI ⟨by omega, by omega⟩   (by omega)) (fun r3 S4 hq5 => ?_)
  obtain ⟨z6, rfl, h7, h8, h9, h10, rfl⟩ := hq5
  refine Or.inr (Or.inl ⟨rfl, ?_⟩)
  refine z_ne (i := 4) (v := 7) rfl ⟨by omega, by omega⟩ (fun h11 => ?_) (fun h12 => ?_)
  · refine r_load (i := 7) (u := 0) (w := 2) rfl rfl rfl ?_
    refine r_getf (i := 8) (v := 6) (w := 0) (x := (2, 31)) rfl ly0 rfl rfl fun _ => ?_
    refine r_load (i := 9) (u := 1) (w := 0) rfl rfl rfl ?_
    refine r_load (i := 10) (u := 2) (w := 0) rfl rfl rfl ?_
    have h14 := hI.bn
    have h15 := hI.br
    refine r_call (i := 11) (u := 7) (v := 31) (w := 0) (b := 0) (na := 771) (C2 := xC31) (as := [(2, 31), vi k, vi b]) (s := []) rfl rfl rfl rfl rfl rfl rfl (sp31_31 (k := k) (b := b) hI ⟨by omega, by omega⟩ ⟨by omega, by omega⟩ (by omega)  (by omega)) (fun r16 S17 hq18 => ?_)
    obtain ⟨rfl, bs19, hI20, hF21, hR22⟩ := hq18
    have hF23 := hF.trans hF21 rfl rfl
    have hR24 := hR.trans hR22 rfl
    refine Or.inl ⟨rfl, ?_⟩
    refine r_const (i := 12) (u := 1) (z := 1) rfl rfl ?_
    exact r_retZ (i := 13) rfl (by omega) (by omega) ⟨1, rfl, by omega, by omega, (by exact Or.inr ⟨by omega, by omega, hF21.f rfl, bs19⟩), hI20, hF23, hR24⟩
  · refine r_const (i := 5) (u := 0) (z := 0) rfl rfl ?_
    exact r_retZ (i := 6) rfl (by omega) (by omega) ⟨0, rfl, by omega, by omega, (by exact Or.inl ⟨by omega, by omega, sF1_rfl⟩), hI, hF, hR⟩
/-- ProxyForge.cut -/
theorem sp7 {G : xk} {S : yS} {d : Nat} (hI : yI S) {k : Int} (h_k : -2147483648 ≤ k ∧ k ≤ 2147483647) (hd : 0 ≤ d) : yT xPr G LY xC7 0 [some ((2, 0)), some (vi k)] [] S d (fun r S' => ∃ z : Int, r = (1, vi z) ∧ 0 ≤ z ∧ z ≤ 1 ∧ cuC S S' k z ∧ yI S' ∧ yFr [(31, 1)] [] S S' ∧ yRm [] S S') := by
  refine yT_pad 0 ?_
  show yT xPr G LY xC7 0 [some ((2, 0)), some (vi k)] [] S d _
  have hF : yFr [(31, 1)] [] S S := yFr.refl S
  have hR : yRm [] S S := yRm.refl S
  refine r_load (i := 0) (u := 1) (w := 0) rfl rfl rfl ?_
  refine z_lt (i := 1) (v := 7) rfl ⟨by omega, by omega⟩ (fun h1 => ?_) (fun h2 => ?_)
  · refine r_const (i := 7) (u := 0) (z := 0) rfl rfl ?_
    exact r_retZ (i := 8) rfl (by omega) (by omega) ⟨0, rfl, by omega, by omega, (by exact Or.inl ⟨by omega, by omega, sF1_rfl⟩), hI, hF, hR⟩
  · refine r_load (i := 2) (u := 1) (w := 0) rfl rfl rfl ?_
    refine r_load (i := 3) (u := 0) (w := 2) rfl rfl rfl ?_
    refine r_getf (i := 4) (v := 6) (w := 0) (x := (2, 31)) rfl ly0 rfl rfl fun _ => ?_
    have h4 := hI.b0
    refine r_getf (i := 5) (v := 1) (w := 7) (x := vi (S.f 31 1)) rfl ly31 rfl rfl fun h5 => ?_
    have h5 : Rg (S.f 31 1) := h5
    refine c_le (i := 6) (v := 9) rfl ⟨by omega, by omega⟩ ⟨by omega, by omega⟩ (fun h6 => ?_) (fun h7 => ?_)
    · refine r_load (i := 9) (u := 0) (w := 2) rfl rfl rfl ?_
      refine r_getf (i := 10) (v := 6) (w := 0) (x := (2, 31)) rfl ly0 rfl rfl fun _ => ?_
      refine r_load (i := 11) (u := 1) (w := 0) rfl rfl rfl ?_
      refine r_putI (i := 12) (v := 1) (w := 7) rfl ly31 rfl ⟨by omega, by omega⟩ ?_
      have h13 := hI.bn
      have h14 := hI.br
      have hI10 := hI.use0 (z := k) (by omega) (by omega) (by omega)
      have hF12 := hF.setf (b := 31) (w := 1) (z := k) rfl
      have hR15 := hR.setf (b := 31) (w := 1) (z := k)
      refine yT_gen (fun S9 hS11 => ?_)
      rw [hS11] at hI10 hF12 hR15 
      refine r_const (i := 13) (u := 1) (z := 1) rfl rfl ?_
      exact r_retZ (i := 14) rfl (by omega) (by omega) ⟨1, rfl, by omega, by omega, (by exact Or.inr ⟨by omega, by omega, by subst hS11; exact ysf_eq, fun j => by subst hS11; rfl⟩), hI10, hF12, hR15⟩
    · refine r_const (i := 7) (u := 0) (z := 0) rfl rfl ?_
      exact r_retZ (i := 8) rfl (by omega) (by omega) ⟨0, rfl, by omega, by omega, (by exact Or.inl ⟨by omega, by omega, sF1_rfl⟩), hI, hF, hR⟩
/-- ProxyForge.type -/
theorem sp21 {G : xk} {S : yS} {d : Nat} (hI : yI S) {b : Int} (h_b : 0 ≤ b ∧ b ≤ 1) {fl : Int} (h_fl : -2147483648 ≤ fl ∧ fl ≤ 2147483647) {p : Int} (h_p : -2147483648 ≤ p ∧ p ≤ 2147483647) {up : Int} (h_up : -2147483648 ≤ up ∧ up ≤ 2147483647) (hd : 6 ≤ d) : yT xPr G LY xC21 0 [some ((2, 0)), some (vi b), some (vi fl), some (vi p), some (vi up)] [] S d (fun r S' => (∃ z : Int, r = (1, vi z) ∧ -2147483648 ≤ z ∧ z ≤ 2147483647 ∧ tyC S b fl p up ∧ S.f 1 7 ≤ 19 ∧ z = S.f 1 7 ∧ cTy S S' b fl p up ∧ c6T S S' up ∧ yI S' ∧ yFr [(1, 7)] [2, 3, 4, 5, 6] S S' ∧ yRm [] S S') ∨ ∃ a c : Nat, r = (2, (c, a)) ∧ ((c = 12 ∧ (¬ tyC S b fl p up)) ∨ (c = 13 ∧ (tyC S b fl p up ∧ 20 ≤ S.f 1 7))) ∧ S' = ycost S 1 6) := by
  refine yT_pad 0 ?_
  show yT xPr G LY xC21 0 [some ((2, 0)), some (vi b), some (vi fl), some (vi p), some (vi up)] [] S d _
  obtain ⟨d, rfl⟩ : ∃ q, d = q + 1 := ⟨d - 1, by omega⟩
  have hF : yFr [(1, 7)] [2, 3, 4, 5, 6] S S := yFr.refl S
  have hR : yRm [] S S := yRm.refl S
  refine r_load (i := 0) (u := 0) (w := 2) rfl rfl rfl ?_
  refine r_getf (i := 1) (v := 0) (w := 0) (x := (2, 1)) rfl ly0 rfl rfl fun _ => ?_
  refine r_load (i := 2) (u := 1) (w := 0) rfl rfl rfl ?_
  refine r_load (i := 3) (u := 2) (w := 0) rfl rfl rfl ?_
  refine r_load (i := 4) (u := 3) (w := 0) rfl rfl rfl ?_
  refine r_load (i := 5) (u := 4) (w := 0) rfl rfl rfl ?_
  have h2 := hI.f tf1_7
  have h3 := hI.a ta3 up.toNat
  have h4 := hI.a ta3 up.toNat
  refine r_call (i := 6) (u := 1) (v := 137) (w := 0) (b := 0) (na := 1541) (C2 := xC137) (as := [(2, 1), vi b, vi fl, vi p, vi up]) (s := []) rfl rfl rfl rfl rfl rfl rfl (sp137 (b := b) (fl := fl) (p := p) (up := up) hI ⟨by omega, by omega⟩ ⟨by omega, by omega⟩ ⟨by omega, by omega⟩ ⟨by omega, by omega⟩   (by omega)) (fun r5 S6 hq7 => ?_)
  obtain ⟨z8, rfl, h9, h10, h11, h12, h13, rfl⟩ := hq7
  refine Or.inr (Or.inl ⟨rfl, ?_⟩)
  refine z_ne (i := 7) (v := 12) rfl ⟨by omega, by omega⟩ (fun h14 => ?_) (fun h15 => ?_)
  · refine r_load (i := 12) (u := 0) (w := 2) rfl rfl rfl ?_
    refine r_getf (i := 13) (v := 0) (w := 0) (x := (2, 1)) rfl ly0 rfl rfl fun _ => ?_
    refine r_getf (i := 14) (v := 7) (w := 1) (x := vi (S.f 1 7)) rfl ly1 rfl rfl fun h17 => ?_
    have h17 : Rg (S.f 1 7) := h17
    refine r_const (i := 15) (u := 20) (z := 20) rfl rfl ?_
    refine c_lt (i := 16) (v := 21) rfl ⟨by omega, by omega⟩ ⟨by omega, by omega⟩ (fun h18 => ?_) (fun h19 => ?_)
    · refine r_load (i := 21) (u := 0) (w := 2) rfl rfl rfl ?_
      refine r_getf (i := 22) (v := 0) (w := 0) (x := (2, 1)) rfl ly0 rfl rfl fun _ => ?_
      refine r_load (i := 23) (u := 1) (w := 0) rfl rfl rfl ?_
      refine r_load (i := 24) (u := 2) (w := 0) rfl rfl rfl ?_
      refine r_load (i := 25) (u := 3) (w := 0) rfl rfl rfl ?_
      refine r_load (i := 26) (u := 4) (w := 0) rfl rfl rfl ?_
      refine r_call (i := 27) (u := 1) (v := 128) (w := 0) (b := 0) (na := 1541) (C2 := xC128) (as := [(2, 1), vi b, vi fl, vi p, vi up]) (s := []) rfl rfl rfl rfl rfl rfl rfl (sp128 (b := b) (fl := fl) (p := p) (up := up) hI ⟨by omega, by omega⟩ ⟨by omega, by omega⟩ ⟨by omega, by omega⟩ ⟨by omega, by omega⟩ (by omega)  (by omega)) (fun r21 S22 hq23 => ?_)
      obtain ⟨z24, rfl, h25, h26, h27, ct28, c629, hI30, hF31, hR32⟩ := hq23
      have hF33 := hF.trans hF31 rfl rfl
      have hR34 := hR.trans hR32 rfl
      refine Or.inr (Or.inl ⟨rfl, ?_⟩)
      exact r_retI (i := 28) rfl (Or.inl ⟨z24, rfl, by omega, by omega, (by unfold tyC; omega), (by omega), (by omega), (by exact ct28), (by exact c629 (by omega) (by omega)), hI30, hF33, hR34⟩)
    · have h35 := hI.bn
      have h36 := hI.br
      exact r_throw (i := 17) (v := 13) (w := 99) rfl (by omega) (by omega) (by omega) (by decide) (fun a => Or.inr ⟨a, 13, rfl, Or.inr ⟨rfl, by exact ⟨by unfold tyC; omega, by omega⟩⟩, rfl⟩)
  · have h37 := hI.bn
    have h38 := hI.br
    exact r_throw (i := 8) (v := 12) (w := 92) rfl (by omega) (by omega) (by omega) (by decide) (fun a => Or.inr ⟨a, 12, rfl, Or.inl ⟨rfl, by unfold tyC; omega⟩, rfl⟩)
/-- ProxyForge.implement -/
theorem sp10 {G : xk} {S : yS} {d : Nat} (hI : yI S) {t : Int} (h_t : -2147483648 ≤ t ∧ t ≤ 2147483647) {f : Int} (h_f : -2147483648 ≤ f ∧ f ≤ 2147483647) (hd : 6 ≤ d) : yT xPr G LY xC10 0 [some ((2, 0)), some (vi t), some (vi f)] [] S d (fun r S' => (r = (0, (0, 0)) ∧ imC S t f ∧ cIm S S' t f ∧ yI S' ∧ yFr [] [6, 7, 8] S S' ∧ yRm [] S S') ∨ ∃ a c : Nat, r = (2, (c, a)) ∧ ((c = 12 ∧ (¬ imC S t f))) ∧ S' = ycost S 1 6) := by
  refine yT_pad 0 ?_
  show yT xPr G LY xC10 0 [some ((2, 0)), some (vi t), some (vi f)] [] S d _
  obtain ⟨d, rfl⟩ : ∃ q, d = q + 1 := ⟨d - 1, by omega⟩
  have hF : yFr [] [6, 7, 8] S S := yFr.refl S
  have hR : yRm [] S S := yRm.refl S
  refine r_load (i := 0) (u := 0) (w := 2) rfl rfl rfl ?_
  refine r_getf (i := 1) (v := 0) (w := 0) (x := (2, 1)) rfl ly0 rfl rfl fun _ => ?_
  refine r_load (i := 2) (u := 1) (w := 0) rfl rfl rfl ?_
  refine r_load (i := 3) (u := 2) (w := 0) rfl rfl rfl ?_
  have h2 := hI.f tf1_7
  have h3 := hI.a ta7 t.toNat
  refine r_call (i := 4) (u := 1) (v := 138) (w := 0) (b := 0) (na := 1027) (C2 := xC138) (as := [(2, 1), vi t, vi f]) (s := []) rfl rfl rfl rfl rfl rfl rfl (sp138 (t := t) (f := f) hI ⟨by omega, by omega⟩ ⟨by omega, by omega⟩   (by omega)) (fun r4 S5 hq6 => ?_)
  obtain ⟨z7, rfl, h8, h9, h10, yi11, ni12, rfl⟩ := hq6
  refine Or.inr (Or.inl ⟨rfl, ?_⟩)
  refine z_ne (i := 5) (v := 10) rfl ⟨by omega, by omega⟩ (fun h13 => ?_) (fun h14 => ?_)
  · refine r_load (i := 10) (u := 0) (w := 2) rfl rfl rfl ?_
    refine r_getf (i := 11) (v := 0) (w := 0) (x := (2, 1)) rfl ly0 rfl rfl fun _ => ?_
    refine r_load (i := 12) (u := 1) (w := 0) rfl rfl rfl ?_
    refine r_load (i := 13) (u := 2) (w := 0) rfl rfl rfl ?_
    have h16 := hI.a ta7 t.toNat
    refine r_call (i := 14) (u := 1) (v := 129) (w := 0) (b := 0) (na := 1027) (C2 := xC129) (as := [(2, 1), vi t, vi f]) (s := []) rfl rfl rfl rfl rfl rfl rfl (sp129 (t := t) (f := f) hI ⟨by omega, by omega⟩ ⟨by omega, by omega⟩ (by omega) (by exact (yi11 (by omega)).2.2.2.2.2)  (by omega)) (fun r17 S18 hq19 => ?_)
    obtain ⟨rfl, ci20, hI21, hF22, hR23⟩ := hq19
    have hF24 := hF.trans hF22 rfl rfl
    have hR25 := hR.trans hR23 rfl
    refine Or.inl ⟨rfl, ?_⟩
    exact r_ret0 (i := 15) rfl (Or.inl ⟨rfl, (by exact yi11 (by omega)), (by exact ci20), hI21, hF24, hR25⟩)
  · have h26 := hI.bn
    have h27 := hI.br
    exact r_throw (i := 6) (v := 12) (w := 92) rfl (by omega) (by omega) (by omega) (by decide) (fun a => Or.inr ⟨a, 12, rfl, ⟨rfl, by exact ni12 (by omega)⟩, rfl⟩)
/-- ProxyForge.method -/
theorem sp13 {G : xk} {S : yS} {d : Nat} (hI : yI S) {t : Int} (h_t : -2147483648 ≤ t ∧ t ≤ 2147483647) {w0 : Int} (h_w0 : -2147483648 ≤ w0 ∧ w0 ≤ 2147483647) {fl : Int} (h_fl : -2147483648 ≤ fl ∧ fl ≤ 2147483647) {p : Int} (h_p : -2147483648 ≤ p ∧ p ≤ 2147483647) {b : Int} (h_b : -2147483648 ≤ b ∧ b ≤ 2147483647) (hd : 6 ≤ d) : yT xPr G LY xC13 0 [some ((2, 0)), some (vi t), some (vi w0), some (vi fl), some (vi p), some (vi b)] [] S d (fun r S' => (∃ z : Int, r = (1, vi z) ∧ -2147483648 ≤ z ∧ z ≤ 2147483647 ∧ mbC S t w0 fl p b ∧ S.f 9 8 ≤ 59 ∧ z = S.f 9 8 ∧ cMe S S' t w0 fl p b ∧ yI S' ∧ yFr [(9, 8)] [10, 11, 12, 13, 14] S S' ∧ yRm [] S S') ∨ ∃ a c : Nat, r = (2, (c, a)) ∧ ((c = 12 ∧ (¬ mbC S t w0 fl p b)) ∨ (c = 13 ∧ (mbC S t w0 fl p b ∧ 60 ≤ S.f 9 8))) ∧ S' = ycost S 1 6) := by
  refine yT_pad 0 ?_
  show yT xPr G LY xC13 0 [some ((2, 0)), some (vi t), some (vi w0), some (vi fl), some (vi p), some (vi b)] [] S d _
  obtain ⟨d, rfl⟩ : ∃ q, d = q + 1 := ⟨d - 1, by omega⟩
  have hF : yFr [(9, 8)] [10, 11, 12, 13, 14] S S := yFr.refl S
  have hR : yRm [] S S := yRm.refl S
  refine r_load (i := 0) (u := 0) (w := 2) rfl rfl rfl ?_
  refine r_getf (i := 1) (v := 1) (w := 0) (x := (2, 9)) rfl ly0 rfl rfl fun _ => ?_
  refine r_load (i := 2) (u := 1) (w := 0) rfl rfl rfl ?_
  refine r_load (i := 3) (u := 2) (w := 0) rfl rfl rfl ?_
  refine r_load (i := 4) (u := 3) (w := 0) rfl rfl rfl ?_
  refine r_load (i := 5) (u := 4) (w := 0) rfl rfl rfl ?_
  refine r_load (i := 6) (u := 5) (w := 0) rfl rfl rfl ?_
  have h2 := hI.f tf1_7
  refine r_call (i := 7) (u := 2) (v := 82) (w := 0) (b := 0) (na := 1798) (C2 := xC82) (as := [(2, 9), vi t, vi w0, vi fl, vi p, vi b]) (s := []) rfl rfl rfl rfl rfl rfl rfl (sp82 (t := t) (w0 := w0) (fl := fl) (p := p) (b := b) hI ⟨by omega, by omega⟩ ⟨by omega, by omega⟩ ⟨by omega, by omega⟩ ⟨by omega, by omega⟩ ⟨by omega, by omega⟩   (by omega)) (fun r3 S4 hq5 => ?_)
  obtain ⟨z6, rfl, h7, h8, h9, h10, h11, h12, h13, yb14, nb15, rfl⟩ := hq5
  refine Or.inr (Or.inl ⟨rfl, ?_⟩)
  refine z_ne (i := 8) (v := 13) rfl ⟨by omega, by omega⟩ (fun h16 => ?_) (fun h17 => ?_)
  · refine r_load (i := 13) (u := 0) (w := 2) rfl rfl rfl ?_
    refine r_getf (i := 14) (v := 1) (w := 0) (x := (2, 9)) rfl ly0 rfl rfl fun _ => ?_
    have h19 := hI.f tf9_8
    refine r_getf (i := 15) (v := 8) (w := 2) (x := vi (S.f 9 8)) rfl ly9 rfl rfl fun h20 => ?_
    have h20 : Rg (S.f 9 8) := h20
    refine r_const (i := 16) (u := 60) (z := 60) rfl rfl ?_
    refine c_lt (i := 17) (v := 22) rfl ⟨by omega, by omega⟩ ⟨by omega, by omega⟩ (fun h21 => ?_) (fun h22 => ?_)
    · refine r_load (i := 22) (u := 0) (w := 2) rfl rfl rfl ?_
      refine r_getf (i := 23) (v := 1) (w := 0) (x := (2, 9)) rfl ly0 rfl rfl fun _ => ?_
      refine r_load (i := 24) (u := 1) (w := 0) rfl rfl rfl ?_
      refine r_load (i := 25) (u := 2) (w := 0) rfl rfl rfl ?_
      refine r_load (i := 26) (u := 3) (w := 0) rfl rfl rfl ?_
      refine r_load (i := 27) (u := 4) (w := 0) rfl rfl rfl ?_
      refine r_load (i := 28) (u := 5) (w := 0) rfl rfl rfl ?_
      refine r_call (i := 29) (u := 2) (v := 73) (w := 0) (b := 0) (na := 1798) (C2 := xC73) (as := [(2, 9), vi t, vi w0, vi fl, vi p, vi b]) (s := []) rfl rfl rfl rfl rfl rfl rfl (sp73 (t := t) (w0 := w0) (fl := fl) (p := p) (b := b) hI ⟨by omega, by omega⟩ ⟨by omega, by omega⟩ ⟨by omega, by omega⟩ ⟨by omega, by omega⟩ ⟨by omega, by omega⟩ (by omega) (by first | assumption | grind)  (by omega)) (fun r24 S25 hq26 => ?_)
      obtain ⟨z27, rfl, h28, h29, h30, cm31, hI32, hF33, hR34⟩ := hq26
      have hF35 := hF.trans hF33 rfl rfl
      have hR36 := hR.trans hR34 rfl
      refine Or.inr (Or.inl ⟨rfl, ?_⟩)
      exact r_retI (i := 30) rfl (Or.inl ⟨z27, rfl, by omega, by omega, (by exact yb14 (by omega)), (by omega), (by omega), (by exact cm31), hI32, hF35, hR36⟩)
    · have h37 := hI.bn
      have h38 := hI.br
      exact r_throw (i := 18) (v := 13) (w := 99) rfl (by omega) (by omega) (by omega) (by decide) (fun a => Or.inr ⟨a, 13, rfl, Or.inr ⟨rfl, by exact ⟨yb14 (by omega), by omega⟩⟩, rfl⟩)
  · have h39 := hI.bn
    have h40 := hI.br
    exact r_throw (i := 9) (v := 12) (w := 92) rfl (by omega) (by omega) (by omega) (by decide) (fun a => Or.inr ⟨a, 12, rfl, Or.inl ⟨rfl, by exact nb15 (by omega)⟩, rfl⟩)
/-- ProxyForge.throwing -/
theorem sp20 {G : xk} {S : yS} {d : Nat} (hI : yI S) {m : Int} (h_m : -2147483648 ≤ m ∧ m ≤ 2147483647) {t : Int} (h_t : -2147483648 ≤ t ∧ t ≤ 2147483647) (hd : 6 ≤ d) : yT xPr G LY xC20 0 [some ((2, 0)), some (vi m), some (vi t)] [] S d (fun r S' => (r = (0, (0, 0)) ∧ thC S m t ∧ cTh S S' m t ∧ yI S' ∧ yFr [] [15, 16] S S' ∧ yRm [] S S') ∨ ∃ a c : Nat, r = (2, (c, a)) ∧ ((c = 12 ∧ (¬ thC S m t))) ∧ S' = ycost S 1 6) := by
  refine yT_pad 0 ?_
  show yT xPr G LY xC20 0 [some ((2, 0)), some (vi m), some (vi t)] [] S d _
  obtain ⟨d, rfl⟩ : ∃ q, d = q + 1 := ⟨d - 1, by omega⟩
  have hF : yFr [] [15, 16] S S := yFr.refl S
  have hR : yRm [] S S := yRm.refl S
  refine r_load (i := 0) (u := 0) (w := 2) rfl rfl rfl ?_
  refine r_getf (i := 1) (v := 1) (w := 0) (x := (2, 9)) rfl ly0 rfl rfl fun _ => ?_
  refine r_load (i := 2) (u := 1) (w := 0) rfl rfl rfl ?_
  refine r_load (i := 3) (u := 2) (w := 0) rfl rfl rfl ?_
  have h2 := hI.f tf9_8
  have h3 := hI.f tf1_7
  have h4 := hI.a ta15 m.toNat
  refine r_call (i := 4) (u := 2) (v := 85) (w := 0) (b := 0) (na := 771) (C2 := xC85) (as := [(2, 9), vi m, vi t]) (s := []) rfl rfl rfl rfl rfl rfl rfl (sp85 (m := m) (t := t) hI ⟨by omega, by omega⟩ ⟨by omega, by omega⟩   (by omega)) (fun r5 S6 hq7 => ?_)
  obtain ⟨z8, rfl, h9, h10, h11, yt12, nt13, rfl⟩ := hq7
  refine Or.inr (Or.inl ⟨rfl, ?_⟩)
  refine z_ne (i := 5) (v := 10) rfl ⟨by omega, by omega⟩ (fun h14 => ?_) (fun h15 => ?_)
  · refine r_load (i := 10) (u := 0) (w := 2) rfl rfl rfl ?_
    refine r_getf (i := 11) (v := 1) (w := 0) (x := (2, 9)) rfl ly0 rfl rfl fun _ => ?_
    refine r_load (i := 12) (u := 1) (w := 0) rfl rfl rfl ?_
    refine r_load (i := 13) (u := 2) (w := 0) rfl rfl rfl ?_
    have h17 := hI.a ta15 m.toNat
    refine r_call (i := 14) (u := 2) (v := 74) (w := 0) (b := 0) (na := 771) (C2 := xC74) (as := [(2, 9), vi m, vi t]) (s := []) rfl rfl rfl rfl rfl rfl rfl (sp74 (m := m) (t := t) hI ⟨by omega, by omega⟩ ⟨by omega, by omega⟩ (by omega)  (by omega)) (fun r18 S19 hq20 => ?_)
    obtain ⟨rfl, cth21, hI22, hF23, hR24⟩ := hq20
    have hF25 := hF.trans hF23 rfl rfl
    have hR26 := hR.trans hR24 rfl
    refine Or.inl ⟨rfl, ?_⟩
    exact r_ret0 (i := 15) rfl (Or.inl ⟨rfl, (by exact yt12 (by omega)), (by exact cth21), hI22, hF25, hR26⟩)
  · have h27 := hI.bn
    have h28 := hI.br
    exact r_throw (i := 6) (v := 12) (w := 92) rfl (by omega) (by omega) (by omega) (by decide) (fun a => Or.inr ⟨a, 12, rfl, ⟨rfl, by exact nt13 (by omega)⟩, rfl⟩)
/-- ProxyForge.answer -/
theorem sp1 {G : xk} {S : yS} {d : Nat} (hI : yI S) {k : Int} (h_k : -2147483648 ≤ k ∧ k ≤ 2147483647) {v : Int} (h_v : Rl v) (hd : 6 ≤ d) : yT xPr G LY xC1 0 [some ((2, 0)), some (vi k), some (vl v), none] [] S d (fun r S' => (r = (0, (0, 0)) ∧ yI S' ∧ yFr [(26, 4), (26, 5)] [] S S' ∧ yRm [] S S') ∨ ∃ a c : Nat, r = (2, (c, a)) ∧ (c = 12) ∧ S' = ycost S 1 6) := by
  refine yT_pad 0 ?_
  show yT xPr G LY xC1 0 [some ((2, 0)), some (vi k), some (vl v), none] [] S d _
  obtain ⟨d, rfl⟩ : ∃ q, d = q + 1 := ⟨d - 1, by omega⟩
  have hF : yFr [(26, 4), (26, 5)] [] S S := yFr.refl S
  have hR : yRm [] S S := yRm.refl S
  refine r_load (i := 0) (u := 0) (w := 2) rfl rfl rfl ?_
  refine r_load (i := 1) (u := 1) (w := 0) rfl rfl rfl ?_
  refine r_load (i := 2) (u := 2) (w := 1) rfl rfl rfl ?_
  refine r_call (i := 3) (u := 0) (v := 11) (w := 0) (b := 0) (na := 1027) (C2 := xC11) (as := [(2, 0), vi k, vl v]) (s := []) rfl rfl rfl rfl rfl rfl rfl (sp11 (k := k) (v := v) hI ⟨by omega, by omega⟩ ⟨by omega, by omega⟩   (by omega)) (fun r1 S2 hq3 => ?_)
  obtain ⟨z4, rfl, h5, h6, h7, rfl⟩ := hq3
  refine Or.inr (Or.inl ⟨rfl, ?_⟩)
  refine z_ne (i := 4) (v := 9) rfl ⟨by omega, by omega⟩ (fun h8 => ?_) (fun h9 => ?_)
  · refine r_load (i := 9) (u := 0) (w := 2) rfl rfl rfl ?_
    refine r_getf (i := 10) (v := 4) (w := 0) (x := (2, 26)) rfl ly0 rfl rfl fun _ => ?_
    refine r_load (i := 11) (u := 1) (w := 0) rfl rfl rfl ?_
    refine r_load (i := 12) (u := 2) (w := 1) rfl rfl rfl ?_
    refine r_call (i := 13) (u := 5) (v := 38) (w := 0) (b := 0) (na := 1027) (C2 := xC38) (as := [(2, 26), vi k, vl v]) (s := []) rfl rfl rfl rfl rfl rfl rfl (sp38 (k := k) (v := v) hI ⟨by omega, by omega⟩ ⟨by omega, by omega⟩ (by omega)  (by omega)) (fun r11 S12 hq13 => ?_)
    obtain ⟨rfl, hI14, hF15, hR16⟩ := hq13
    have hF17 := hF.trans hF15 rfl rfl
    have hR18 := hR.trans hR16 rfl
    refine Or.inl ⟨rfl, ?_⟩
    exact r_ret0 (i := 14) rfl (Or.inl ⟨rfl,  hI14, hF17, hR18⟩)
  · have h19 := hI.bn
    have h20 := hI.br
    exact r_throw (i := 5) (v := 12) (w := 92) rfl (by omega) (by omega) (by omega) (by decide) (fun a => Or.inr ⟨a, 12, rfl, by decide, rfl⟩)
/-- ProxyForge.call -/
theorem sp5 {G : xk} {S : yS} {d : Nat} (hI : yI S) {k : Int} (h_k : -2147483648 ≤ k ∧ k ≤ 2147483647) {a : Int} (h_a : Rl a) {b : Int} (h_b : Rl b) {c : Int} (h_c : Rl c) {e : Int} (h_e : Rl e) (hd : 6 ≤ d) : yT xPr G LY xC5 0 [some ((2, 0)), some (vi k), some (vl a), none, some (vl b), none, some (vl c), none, some (vl e), none] [] S d (fun r S' => (∃ z : Int, r = (1, vi z) ∧ -2147483648 ≤ z ∧ z ≤ 2147483647 ∧ (0 ≤ k ∧ k < S.f 22 3) ∧ yI S' ∧ yFr [(26, 2), (26, 3), (29, 5)] [27, 28, 30] S S' ∧ yRm [] S S') ∨ ∃ a c : Nat, r = (2, (c, a)) ∧ ((c = 12 ∧ (k < 0 ∨ S.f 22 3 ≤ k))) ∧ S' = ycost S 1 6) := by
  refine yT_pad 0 ?_
  show yT xPr G LY xC5 0 [some ((2, 0)), some (vi k), some (vl a), none, some (vl b), none, some (vl c), none, some (vl e), none] [] S d _
  obtain ⟨d, rfl⟩ : ∃ q, d = q + 1 := ⟨d - 1, by omega⟩
  have hF : yFr [(26, 2), (26, 3), (29, 5)] [27, 28, 30] S S := yFr.refl S
  have hR : yRm [] S S := yRm.refl S
  refine r_load (i := 0) (u := 0) (w := 2) rfl rfl rfl ?_
  refine r_getf (i := 1) (v := 3) (w := 0) (x := (2, 22)) rfl ly0 rfl rfl fun _ => ?_
  refine r_load (i := 2) (u := 1) (w := 0) rfl rfl rfl ?_
  have h2 := hI.f tf22_3
  refine r_call (i := 3) (u := 4) (v := 101) (w := 0) (b := 0) (na := 514) (C2 := xC101) (as := [(2, 22), vi k]) (s := []) rfl rfl rfl rfl rfl rfl rfl (sp101 (k := k) hI ⟨by omega, by omega⟩   (by omega)) (fun r3 S4 hq5 => ?_)
  obtain ⟨z6, rfl, h7, h8, h9, h10, rfl⟩ := hq5
  refine Or.inr (Or.inl ⟨rfl, ?_⟩)
  refine z_ne (i := 4) (v := 9) rfl ⟨by omega, by omega⟩ (fun h11 => ?_) (fun h12 => ?_)
  · refine r_load (i := 9) (u := 0) (w := 2) rfl rfl rfl ?_
    refine r_getf (i := 10) (v := 5) (w := 0) (x := (2, 29)) rfl ly0 rfl rfl fun _ => ?_
    refine r_getf (i := 11) (v := 4) (w := 6) (x := (2, 30)) rfl ly29 rfl rfl fun _ => ?_
    refine r_const (i := 12) (u := 0) (z := 0) rfl rfl ?_
    refine r_load (i := 13) (u := 2) (w := 1) rfl rfl rfl ?_
    refine r_lastore (i := 14) rfl ly30 (by decide) (by omega) (by omega) ⟨by omega, by omega⟩ ?_
    have hI16 := hI.seta0 (b := 30) (j := (0 : Int).toNat) (z := a) rfl rfl
    have hF18 := hF.seta (b := 30) (j := (0 : Int).toNat) (z := a) rfl
    have hR19 := hR.seta (b := 30) (j := (0 : Int).toNat) (z := a)
    refine yT_gen (fun S15 hS17 => ?_)
    rw [hS17] at hI16 hF18 hR19 
    refine r_load (i := 15) (u := 0) (w := 2) rfl rfl rfl ?_
    refine r_getf (i := 16) (v := 5) (w := 0) (x := (2, 29)) rfl ly0 rfl rfl fun _ => ?_
    refine r_getf (i := 17) (v := 4) (w := 6) (x := (2, 30)) rfl ly29 rfl rfl fun _ => ?_
    refine r_const (i := 18) (u := 1) (z := 1) rfl rfl ?_
    refine r_load (i := 19) (u := 4) (w := 1) rfl rfl rfl ?_
    refine r_lastore (i := 20) rfl ly30 (by decide) (by omega) (by omega) ⟨by omega, by omega⟩ ?_
    have hI23 := hI16.seta0 (b := 30) (j := (1 : Int).toNat) (z := b) rfl rfl
    have hF25 := hF18.seta (b := 30) (j := (1 : Int).toNat) (z := b) rfl
    have hR26 := hR19.seta (b := 30) (j := (1 : Int).toNat) (z := b)
    refine yT_gen (fun S22 hS24 => ?_)
    rw [hS24] at hI23 hF25 hR26 
    refine r_load (i := 21) (u := 0) (w := 2) rfl rfl rfl ?_
    refine r_getf (i := 22) (v := 5) (w := 0) (x := (2, 29)) rfl ly0 rfl rfl fun _ => ?_
    refine r_getf (i := 23) (v := 4) (w := 6) (x := (2, 30)) rfl ly29 rfl rfl fun _ => ?_
    refine r_const (i := 24) (u := 2) (z := 2) rfl rfl ?_
    refine r_load (i := 25) (u := 6) (w := 1) rfl rfl rfl ?_
    refine r_lastore (i := 26) rfl ly30 (by decide) (by omega) (by omega) ⟨by omega, by omega⟩ ?_
    have hI30 := hI23.seta0 (b := 30) (j := (2 : Int).toNat) (z := c) rfl rfl
    have hF32 := hF25.seta (b := 30) (j := (2 : Int).toNat) (z := c) rfl
    have hR33 := hR26.seta (b := 30) (j := (2 : Int).toNat) (z := c)
    refine yT_gen (fun S29 hS31 => ?_)
    rw [hS31] at hI30 hF32 hR33 
    refine r_load (i := 27) (u := 0) (w := 2) rfl rfl rfl ?_
    refine r_getf (i := 28) (v := 5) (w := 0) (x := (2, 29)) rfl ly0 rfl rfl fun _ => ?_
    refine r_getf (i := 29) (v := 4) (w := 6) (x := (2, 30)) rfl ly29 rfl rfl fun _ => ?_
    refine r_const (i := 30) (u := 3) (z := 3) rfl rfl ?_
    refine r_load (i := 31) (u := 8) (w := 1) rfl rfl rfl ?_
    refine r_lastore (i := 32) rfl ly30 (by decide) (by omega) (by omega) ⟨by omega, by omega⟩ ?_
    have hI37 := hI30.seta0 (b := 30) (j := (3 : Int).toNat) (z := e) rfl rfl
    have hF39 := hF32.seta (b := 30) (j := (3 : Int).toNat) (z := e) rfl
    have hR40 := hR33.seta (b := 30) (j := (3 : Int).toNat) (z := e)
    refine yT_gen (fun S36 hS38 => ?_)
    rw [hS38] at hI37 hF39 hR40 
    refine r_load (i := 33) (u := 0) (w := 2) rfl rfl rfl ?_
    refine r_getf (i := 34) (v := 5) (w := 0) (x := (2, 29)) rfl ly0 rfl rfl fun _ => ?_
    refine r_load (i := 35) (u := 1) (w := 0) rfl rfl rfl ?_
    refine r_call (i := 36) (u := 6) (v := 47) (w := 0) (b := 0) (na := 1282) (C2 := xC47) (as := [(2, 29), vi k]) (s := []) rfl rfl rfl rfl rfl rfl rfl (sp47 (k := k) hI37 ⟨by omega, by omega⟩   (by omega)) (fun r42 S43 hq44 => ?_)
    obtain ⟨z45, rfl, h46, h47, hI48, hF49, hR50⟩ := hq44
    have hF51 := hF39.trans hF49 rfl rfl
    have hR52 := hR40.trans hR50 rfl
    refine Or.inr (Or.inl ⟨rfl, ?_⟩)
    exact r_retI (i := 37) rfl (Or.inl ⟨z45, rfl, by omega, by omega, (by omega), hI48, hF51, hR52⟩)
  · have h53 := hI.bn
    have h54 := hI.br
    exact r_throw (i := 5) (v := 12) (w := 92) rfl (by omega) (by omega) (by omega) (by decide) (fun a => Or.inr ⟨a, 12, rfl, ⟨rfl, by omega⟩, rfl⟩)
theorem lp8_64 {G : xk} {d : Nat} {S0 : yS} {t : Int} (h_t : -2147483648 ≤ t ∧ t ≤ 2147483647) {fa : Int} (h_fa : -2147483648 ≤ fa ∧ fa ≤ 2147483647) {fb : Int} (h_fb : -2147483648 ≤ fb ∧ fb ≤ 2147483647) {fc : Int} (h_fc : -2147483648 ≤ fc ∧ fc ≤ 2147483647) (hd : 25 ≤ d + 1) : ∀ (n : Nat), ∀ (S : yS) (hI : yI S) (hF : yFr [(17, 6), (17, 7), (17, 8), (17, 9), (17, 10), (17, 11), (17, 12), (22, 3), (31, 1), (33, 7), (33, 8), (33, 9), (33, 10), (33, 11), (33, 12), (33, 13), (33, 14), (33, 15), (34, 1), (36, 5)] [18, 19, 20, 21, 23, 24, 25, 37, 100, 101, 102, 103, 105] S0 S) (hR : yRm [0, 1, 2, 3] S0 S) (e_PL : PL S) (e_FA : FA S) (rf k : Int) (h_rf : 0 ≤ rf ∧ rf ≤ 6) (h_k : 0 ≤ k ∧ k ≤ 24) (q_0 : 10 ≤ S.f 31 1 ∧ S.f 31 1 ≤ 22429 + 1144 * k) (q_1 : S.f 34 1 ≤ 2666 + 179 * k) (q_2 : foX S0 S rf t fa fb fc) (q_3 : rf = 0) (q_4 : foL S k) (q_5 : asQ S t fa fb fc) (q_6 : k ≤ S.f 22 3) (q_7 : mbL S0 S t fa fb fc) (hn : 24 - k < (n : Nat)), yT xPr G LY xC8 64 [some ((2, 0)), some (vi t), some (vi fa), some (vi fb), some (vi fc), some (vi rf), some (vi k)] [] S (d + 1) (fun r S' => (∃ z : Int, r = (1, vi z) ∧ -2147483648 ≤ z ∧ z ≤ 2147483647 ∧ foX S0 S' z t fa fb fc ∧ fiC S0 S' z t fa fb fc ∧ N23 S' ∧ yI S' ∧ yFr [(17, 6), (17, 7), (17, 8), (17, 9), (17, 10), (17, 11), (17, 12), (22, 3), (31, 1), (33, 7), (33, 8), (33, 9), (33, 10), (33, 11), (33, 12), (33, 13), (33, 14), (33, 15), (34, 1), (36, 5)] [18, 19, 20, 21, 23, 24, 25, 37, 100, 101, 102, 103, 105] S0 S' ∧ yRm [0, 1, 2, 3] S0 S') ∨ ∃ a c : Nat, r = (2, (c, a)) ∧ ((c = 12 ∧ (¬ goC S0 t fa fb fc))) ∧ S' = ycost S0 1 6) := by
  intro n
  induction n with
  | zero => intro S hI hF hR e_PL e_FA rf k h_rf h_k q_0 q_1 q_2 q_3 q_4 q_5 q_6 q_7 hn; exact absurd hn (by omega)
  | succ n ih =>
    intro S hI hF hR e_PL e_FA rf k h_rf h_k q_0 q_1 q_2 q_3 q_4 q_5 q_6 q_7 hn
    have h1 := hI.b0
    have h2 := hI.b1
    have h3 := hI.f tf22_3
    refine r_load (i := 64) (u := 6) (w := 0) rfl rfl rfl ?_
    refine r_load (i := 65) (u := 0) (w := 2) rfl rfl rfl ?_
    refine r_getf (i := 66) (v := 3) (w := 0) (x := (2, 22)) rfl ly0 rfl rfl fun _ => ?_
    refine r_getf (i := 67) (v := 3) (w := 4) (x := vi (S.f 22 3)) rfl ly22 rfl rfl fun h5 => ?_
    have h5 : Rg (S.f 22 3) := h5
    refine c_ge (i := 68) (v := 75) rfl ⟨by omega, by omega⟩ ⟨by omega, by omega⟩ (fun h6 => ?_) (fun h7 => ?_)
    · refine r_load (i := 75) (u := 0) (w := 2) rfl rfl rfl ?_
      refine r_getf (i := 76) (v := 7) (w := 0) (x := (2, 33)) rfl ly0 rfl rfl fun _ => ?_
      refine r_call (i := 77) (u := 8) (v := 151) (w := 0) (b := 0) (na := 257) (C2 := xC151) (as := [(2, 33)]) (s := []) rfl rfl rfl rfl rfl rfl rfl (sp151  hI  (by omega) (by omega) e_PL (by omega)) (fun r9 S10 hq11 => ?_)
      obtain ⟨rfl, h12, enc13, e14, hI15, hF16, hR17⟩ := hq11
      have hF18 := hF.trans hF16 rfl rfl
      have hR19 := hR.trans hR17 rfl
      have e20 := FAx.fr e_FA hF16 rfl rfl
      refine Or.inl ⟨rfl, ?_⟩
      refine r_const (i := 78) (u := 0) (z := 0) rfl rfl ?_
      exact r_retI (i := 79) rfl (Or.inl ⟨0, rfl, by omega, by omega, (by have w9 := foX_up q_2 (sSl_fr hF16 rfl rfl); rw [show rf = 0 by omega] at w9; exact w9), (by exact fiC_e q_4 (by omega) enc13 (dK_fr hF16 rfl rfl) (asQ_e q_5 (sAq_fr hF16 rfl rfl)) (mbL_f q_7 (hF16.f rfl))), (by exact (e14).n.2.2.1), hI15, hF18, hR19⟩)
    · refine r_load (i := 69) (u := 0) (w := 2) rfl rfl rfl ?_
      refine r_getf (i := 70) (v := 7) (w := 0) (x := (2, 33)) rfl ly0 rfl rfl fun _ => ?_
      refine r_load (i := 71) (u := 6) (w := 0) rfl rfl rfl ?_
      refine r_call (i := 72) (u := 8) (v := 166) (w := 0) (b := 0) (na := 1794) (C2 := xC166) (as := [(2, 33), vi k]) (s := []) rfl rfl rfl rfl rfl rfl rfl (sp166 (k := k) hI ⟨by omega, by omega⟩ (by omega) (by omega) e_PL e_FA (by omega)) (fun r22 S23 hq24 => ?_)
      obtain ⟨rfl, h25, h26, wov27, e28, e29, hI30, hF31, hR32⟩ := hq24
      have hF33 := hF.trans hF31 rfl rfl
      have hR34 := hR.trans hR32 rfl
      refine Or.inl ⟨rfl, ?_⟩
      refine r_iinc (i := 73) (u := 1) (v := 6) (s := 1) (L1 := [some ((2, 0)), some (vi t), some (vi fa), some (vi fb), some (vi fc), some (vi rf), some (vi (k + 1))]) rfl rfl rfl rfl rfl ?_
      refine r_goto (i := 74) (v := 64) rfl ?_
      have h35 := hI30.b0
      have h36 := hI30.b1
      have h37 := hI30.f tf22_3
      have h38 : S23.f 22 3 = S.f 22 3 := hF31.f rfl
      exact ih S23 hI30 hF33 hR34 e28 e29 rf (k + 1) ⟨by omega, by omega⟩ ⟨by omega, by omega⟩ (by omega) (by omega) (by exact foX_up q_2 (sSl_fr hF31 rfl rfl)) (by omega) (by exact foL_s q_4 (by omega) wov27 (dK_fr hF31 rfl rfl) (hF31.f rfl)) (by exact asQ_e q_5 (sAq_fr hF31 rfl rfl)) (by omega) (by exact mbL_f q_7 (hF31.f rfl)) (by omega)
theorem lp8_45 {G : xk} {d : Nat} {S0 : yS} {t : Int} (h_t : -2147483648 ≤ t ∧ t ≤ 2147483647) {fa : Int} (h_fa : -2147483648 ≤ fa ∧ fa ≤ 2147483647) {fb : Int} (h_fb : -2147483648 ≤ fb ∧ fb ≤ 2147483647) {fc : Int} (h_fc : -2147483648 ≤ fc ∧ fc ≤ 2147483647) (hd : 25 ≤ d + 1) : ∀ (n : Nat), ∀ (S : yS) (hI : yI S) (hF : yFr [(17, 6), (17, 7), (17, 8), (17, 9), (17, 10), (17, 11), (17, 12), (22, 3), (31, 1), (33, 7), (33, 8), (33, 9), (33, 10), (33, 11), (33, 12), (33, 13), (33, 14), (33, 15), (34, 1), (36, 5)] [18, 19, 20, 21, 23, 24, 25, 37, 100, 101, 102, 103, 105] S0 S) (hR : yRm [0, 1, 2, 3] S0 S) (e_PL : PL S) (e_FA : FA S) (rf m : Int) (h_rf : 0 ≤ rf ∧ rf ≤ 6) (h_m : 0 ≤ m ∧ m ≤ 60) (q_0 : 10 ≤ S.f 31 1 ∧ S.f 31 1 ≤ 169 + 371 * m) (q_1 : S.f 34 1 ≤ 26 + 44 * m) (q_2 : foX S0 S rf t fa fb fc) (q_3 : rf = 0) (q_4 : fcL S m) (q_5 : asQ S t fa fb fc) (q_6 : m ≤ S.f 9 8) (q_7 : mbL S0 S t fa fb fc) (hn : 60 - m < (n : Nat)), yT xPr G LY xC8 45 [some ((2, 0)), some (vi t), some (vi fa), some (vi fb), some (vi fc), some (vi rf), some (vi m)] [] S (d + 1) (fun r S' => (∃ z : Int, r = (1, vi z) ∧ -2147483648 ≤ z ∧ z ≤ 2147483647 ∧ foX S0 S' z t fa fb fc ∧ fiC S0 S' z t fa fb fc ∧ N23 S' ∧ yI S' ∧ yFr [(17, 6), (17, 7), (17, 8), (17, 9), (17, 10), (17, 11), (17, 12), (22, 3), (31, 1), (33, 7), (33, 8), (33, 9), (33, 10), (33, 11), (33, 12), (33, 13), (33, 14), (33, 15), (34, 1), (36, 5)] [18, 19, 20, 21, 23, 24, 25, 37, 100, 101, 102, 103, 105] S0 S' ∧ yRm [0, 1, 2, 3] S0 S') ∨ ∃ a c : Nat, r = (2, (c, a)) ∧ ((c = 12 ∧ (¬ goC S0 t fa fb fc))) ∧ S' = ycost S0 1 6) := by
  intro n
  induction n with
  | zero => intro S hI hF hR e_PL e_FA rf m h_rf h_m q_0 q_1 q_2 q_3 q_4 q_5 q_6 q_7 hn; exact absurd hn (by omega)
  | succ n ih =>
    intro S hI hF hR e_PL e_FA rf m h_rf h_m q_0 q_1 q_2 q_3 q_4 q_5 q_6 q_7 hn
    have h1 := hI.b0
    have h2 := hI.b1
    have h3 := hI.f tf9_8
    have h4 : S.f 9 8 = S0.f 9 8 := hF.f rfl
    refine r_load (i := 45) (u := 6) (w := 0) rfl rfl rfl ?_
    refine r_load (i := 46) (u := 0) (w := 2) rfl rfl rfl ?_
    refine r_getf (i := 47) (v := 1) (w := 0) (x := (2, 9)) rfl ly0 rfl rfl fun _ => ?_
    refine r_getf (i := 48) (v := 8) (w := 2) (x := vi (S.f 9 8)) rfl ly9 rfl rfl fun h6 => ?_
    have h6 : Rg (S.f 9 8) := h6
    refine c_ge (i := 49) (v := 62) rfl ⟨by omega, by omega⟩ ⟨by omega, by omega⟩ (fun h7 => ?_) (fun h8 => ?_)
    · refine r_const (i := 62) (u := 0) (z := 0) rfl rfl ?_
      refine r_store (i := 63) (u := 6) (w := 0) (L1 := [some ((2, 0)), some (vi t), some (vi fa), some (vi fb), some (vi fc), some (vi rf), some (vi 0)]) rfl rfl rfl rfl ?_
      have h9 := hI.f tf22_3
      exact lp8_64 h_t h_fa h_fb h_fc  hd _ S hI hF hR e_PL e_FA rf 0 ⟨by omega, by omega⟩ ⟨by omega, by omega⟩ (by omega) (by omega) (by exact foX_up q_2 sSl_rfl) (by omega) (by exact foL_0 q_4 (by omega)) (by exact q_5) (by omega) (by exact q_7) (Int.lt_succ_toNat _)
    · refine r_load (i := 50) (u := 0) (w := 2) rfl rfl rfl ?_
      refine r_getf (i := 51) (v := 1) (w := 0) (x := (2, 9)) rfl ly0 rfl rfl fun _ => ?_
      refine r_load (i := 52) (u := 6) (w := 0) rfl rfl rfl ?_
      refine r_load (i := 53) (u := 1) (w := 0) rfl rfl rfl ?_
      refine r_call (i := 54) (u := 2) (v := 79) (w := 0) (b := 0) (na := 771) (C2 := xC79) (as := [(2, 9), vi m, vi t]) (s := []) rfl rfl rfl rfl rfl rfl rfl (sp79 (m := m) (t := t) hI ⟨by omega, by omega⟩ ⟨by omega, by omega⟩   (by omega)) (fun r11 S12 hq13 => ?_)
      obtain ⟨z14, rfl, h15, h16, yo17, no18, rfl⟩ := hq13
      refine Or.inr (Or.inl ⟨rfl, ?_⟩)
      refine z_eq (i := 55) (v := 60) rfl ⟨by omega, by omega⟩ (fun h19 => ?_) (fun h20 => ?_)
      · refine r_iinc (i := 60) (u := 1) (v := 6) (s := 1) (L1 := [some ((2, 0)), some (vi t), some (vi fa), some (vi fb), some (vi fc), some (vi rf), some (vi (m + 1))]) rfl rfl rfl rfl rfl ?_
        refine r_goto (i := 61) (v := 45) rfl ?_
        exact ih S hI hF hR e_PL e_FA rf (m + 1) ⟨by omega, by omega⟩ ⟨by omega, by omega⟩ (by omega) (by omega) (by exact foX_up q_2 sSl_rfl) (by omega) (by exact fcL_n q_4 (by omega) (opn_n (no18 (by omega)) q_5.1)) (by exact q_5) (by omega) (by exact q_7) (by omega)
      · refine r_load (i := 56) (u := 0) (w := 2) rfl rfl rfl ?_
        refine r_getf (i := 57) (v := 7) (w := 0) (x := (2, 33)) rfl ly0 rfl rfl fun _ => ?_
        refine r_load (i := 58) (u := 6) (w := 0) rfl rfl rfl ?_
        have h22 := hI.f tf17_6
        have h23 := hI.a ta12 m.toNat
        have h24 : S.a 12 m.toNat = S0.a 12 m.toNat := hF.a rfl _
        have h25 := hI.a ta11 m.toNat
        have h26 : S.a 11 m.toNat = S0.a 11 m.toNat := hF.a rfl _
        have h27 : S.a 13 m.toNat = S0.a 13 m.toNat := hF.a rfl _
        have h28 := hI.a ta14 m.toNat
        have h29 : S.a 14 m.toNat = S0.a 14 m.toNat := hF.a rfl _
        refine r_call (i := 59) (u := 8) (v := 149) (w := 0) (b := 0) (na := 1538) (C2 := xC149) (as := [(2, 33), vi m]) (s := []) rfl rfl rfl rfl rfl rfl rfl (sp149 (m := m) hI ⟨by omega, by omega⟩ (by omega) (by omega) e_PL (by omega)) (fun r30 S31 hq32 => ?_)
        obtain ⟨rfl, h33, h34, wco35, e36, hI37, hF38, hR39⟩ := hq32
        have hF40 := hF.trans hF38 rfl rfl
        have hR41 := hR.trans hR39 rfl
        have e42 := FAx.fr e_FA hF38 rfl rfl
        refine Or.inl ⟨rfl, ?_⟩
        refine r_iinc (i := 60) (u := 1) (v := 6) (s := 1) (L1 := [some ((2, 0)), some (vi t), some (vi fa), some (vi fb), some (vi fc), some (vi rf), some (vi (m + 1))]) rfl rfl rfl rfl rfl ?_
        refine r_goto (i := 61) (v := 45) rfl ?_
        have h43 := hI37.b0
        have h44 := hI37.b1
        have h45 := hI37.f tf9_8
        have h46 : S31.f 9 8 = S.f 9 8 := hF38.f rfl
        have h47 : S.f 9 8 = S0.f 9 8 := hF.f rfl
        exact ih S31 hI37 hF40 hR41 e36 e42 rf (m + 1) ⟨by omega, by omega⟩ ⟨by omega, by omega⟩ (by omega) (by omega) (by exact foX_up q_2 (sSl_fr hF38 rfl rfl)) (by omega) (by exact fcL_y q_4 (by omega) rfl wco35 (dK_fr hF38 rfl rfl) (opn_y (yo17 (by omega)) q_5.1)) (by exact asQ_e q_5 (sAq_fr hF38 rfl rfl)) (by omega) (by exact mbL_f q_7 (hF38.f rfl)) (by omega)
/-- ProxyForge.forge -/
theorem sp8 {G : xk} {S : yS} {d : Nat} (hI : yI S) {t : Int} (h_t : -2147483648 ≤ t ∧ t ≤ 2147483647) {fa : Int} (h_fa : -2147483648 ≤ fa ∧ fa ≤ 2147483647) {fb : Int} (h_fb : -2147483648 ≤ fb ∧ fb ≤ 2147483647) {fc : Int} (h_fc : -2147483648 ≤ fc ∧ fc ≤ 2147483647) (e_N23 : N23 S) (hd : 25 ≤ d) : yT xPr G LY xC8 0 [some ((2, 0)), some (vi t), some (vi fa), some (vi fb), some (vi fc)] [] S d (fun r S' => (∃ z : Int, r = (1, vi z) ∧ -2147483648 ≤ z ∧ z ≤ 2147483647 ∧ foX S S' z t fa fb fc ∧ fiC S S' z t fa fb fc ∧ N23 S' ∧ yI S' ∧ yFr [(17, 6), (17, 7), (17, 8), (17, 9), (17, 10), (17, 11), (17, 12), (22, 3), (31, 1), (33, 7), (33, 8), (33, 9), (33, 10), (33, 11), (33, 12), (33, 13), (33, 14), (33, 15), (34, 1), (36, 5)] [18, 19, 20, 21, 23, 24, 25, 37, 100, 101, 102, 103, 105] S S' ∧ yRm [0, 1, 2, 3] S S') ∨ ∃ a c : Nat, r = (2, (c, a)) ∧ ((c = 12 ∧ (¬ goC S t fa fb fc))) ∧ S' = ycost S 1 6) := by
  refine yT_pad 2 ?_
  show yT xPr G LY xC8 0 [some ((2, 0)), some (vi t), some (vi fa), some (vi fb), some (vi fc), none, none] [] S d _
  obtain ⟨d, rfl⟩ : ∃ q, d = q + 1 := ⟨d - 1, by omega⟩
  have hF : yFr [(17, 6), (17, 7), (17, 8), (17, 9), (17, 10), (17, 11), (17, 12), (22, 3), (31, 1), (33, 7), (33, 8), (33, 9), (33, 10), (33, 11), (33, 12), (33, 13), (33, 14), (33, 15), (34, 1), (36, 5)] [18, 19, 20, 21, 23, 24, 25, 37, 100, 101, 102, 103, 105] S S := yFr.refl S
  have hR : yRm [0, 1, 2, 3] S S := yRm.refl S
  refine r_load (i := 0) (u := 0) (w := 2) rfl rfl rfl ?_
  refine r_getf (i := 1) (v := 0) (w := 0) (x := (2, 1)) rfl ly0 rfl rfl fun _ => ?_
  refine r_load (i := 2) (u := 1) (w := 0) rfl rfl rfl ?_
  refine r_i2l (i := 3) rfl ⟨by omega, by omega⟩ ?_
  have h2 := hI.f tf1_7
  refine r_call (i := 4) (u := 1) (v := 131) (w := 0) (b := 0) (na := 770) (C2 := xC131) (as := [(2, 1), vl t]) (s := []) rfl rfl rfl rfl rfl rfl rfl (sp131 (t := t) hI ⟨by omega, by omega⟩   (by omega)) (fun r3 S4 hq5 => ?_)
  obtain ⟨z6, rfl, h7, h8, h9, h10, rfl⟩ := hq5
  refine Or.inr (Or.inl ⟨rfl, ?_⟩)
  refine z_eq (i := 5) (v := 12) rfl ⟨by omega, by omega⟩ (fun h11 => ?_) (fun h12 => ?_)
  · have h13 := hI.bn
    have h14 := hI.br
    exact r_throw (i := 12) (v := 12) (w := 92) rfl (by omega) (by omega) (by omega) (by decide) (fun a => Or.inr ⟨a, 12, rfl, ⟨rfl, by exact fun h9 => absurd h9.1 (by omega)⟩, rfl⟩)
  · refine r_load (i := 6) (u := 0) (w := 2) rfl rfl rfl ?_
    refine r_load (i := 7) (u := 2) (w := 0) rfl rfl rfl ?_
    refine r_load (i := 8) (u := 3) (w := 0) rfl rfl rfl ?_
    refine r_load (i := 9) (u := 4) (w := 0) rfl rfl rfl ?_
    refine r_call (i := 10) (u := 0) (v := 2) (w := 0) (b := 0) (na := 1028) (C2 := xC2) (as := [(2, 0), vi fa, vi fb, vi fc]) (s := []) rfl rfl rfl rfl rfl rfl rfl (sp2 (a := fa) (b := fb) (c := fc) hI ⟨by omega, by omega⟩ ⟨by omega, by omega⟩ ⟨by omega, by omega⟩   (by omega)) (fun r15 S16 hq17 => ?_)
    obtain ⟨z18, rfl, h19, h20, h21, yao22, nao23, rfl⟩ := hq17
    refine Or.inr (Or.inl ⟨rfl, ?_⟩)
    refine z_ne (i := 11) (v := 16) rfl ⟨by omega, by omega⟩ (fun h24 => ?_) (fun h25 => ?_)
    · refine r_load (i := 16) (u := 0) (w := 2) rfl rfl rfl ?_
      refine r_getf (i := 17) (v := 2) (w := 0) (x := (2, 17)) rfl ly0 rfl rfl fun _ => ?_
      refine r_load (i := 18) (u := 1) (w := 0) rfl rfl rfl ?_
      refine r_load (i := 19) (u := 2) (w := 0) rfl rfl rfl ?_
      refine r_load (i := 20) (u := 3) (w := 0) rfl rfl rfl ?_
      refine r_load (i := 21) (u := 4) (w := 0) rfl rfl rfl ?_
      refine r_call (i := 22) (u := 3) (v := 52) (w := 0) (b := 0) (na := 1285) (C2 := xC52) (as := [(2, 17), vi t, vi fa, vi fb, vi fc]) (s := []) rfl rfl rfl rfl rfl rfl rfl (sp52 (t := t) (a := fa) (b := fb) (c := fc) hI ⟨by omega, by omega⟩ ⟨by omega, by omega⟩ ⟨by omega, by omega⟩ ⟨by omega, by omega⟩   (by omega)) (fun r27 S28 hq29 => ?_)
      obtain ⟨rfl, as30, e31, hI32, hF33, hR34⟩ := hq29
      have hF35 := hF.trans hF33 rfl rfl
      have hR36 := hR.trans hR34 rfl
      have e37 := N23x.fr e_N23 hF33 hR34 rfl rfl rfl
      refine Or.inl ⟨rfl, ?_⟩
      refine r_load (i := 23) (u := 0) (w := 2) rfl rfl rfl ?_
      refine r_getf (i := 24) (v := 2) (w := 0) (x := (2, 17)) rfl ly0 rfl rfl fun _ => ?_
      refine r_call (i := 25) (u := 3) (v := 62) (w := 0) (b := 0) (na := 257) (C2 := xC62) (as := [(2, 17)]) (s := []) rfl rfl rfl rfl rfl rfl rfl (sp62  hI32   e31 (by omega)) (fun r39 S40 hq41 => ?_)
      obtain ⟨z42, rfl, h43, h44, h45, h46, rf47, rf048, mbr49, e50, hI51, hF52, hR53⟩ := hq41
      have hF54 := hF35.trans hF52 rfl rfl
      have hR55 := hR36.trans hR53 rfl
      have e56 := N23x.fr e37 hF52 hR53 rfl rfl rfl
      refine Or.inr (Or.inl ⟨rfl, ?_⟩)
      refine r_store (i := 26) (u := 5) (w := 0) (L1 := [some ((2, 0)), some (vi t), some (vi fa), some (vi fb), some (vi fc), some (vi z42), none]) rfl rfl rfl rfl ?_
      refine r_load (i := 27) (u := 5) (w := 0) rfl rfl rfl ?_
      refine z_eq (i := 28) (v := 31) rfl ⟨by omega, by omega⟩ (fun h57 => ?_) (fun h58 => ?_)
      · have fn9 := (show FN S40 by grind)
        refine r_load (i := 31) (u := 0) (w := 2) rfl rfl rfl ?_
        refine r_getf (i := 32) (v := 3) (w := 0) (x := (2, 22)) rfl ly0 rfl rfl fun _ => ?_
        refine r_load (i := 33) (u := 0) (w := 2) rfl rfl rfl ?_
        refine r_getf (i := 34) (v := 2) (w := 0) (x := (2, 17)) rfl ly0 rfl rfl fun _ => ?_
        refine r_load (i := 35) (u := 0) (w := 2) rfl rfl rfl ?_
        refine r_getf (i := 36) (v := 1) (w := 0) (x := (2, 9)) rfl ly0 rfl rfl fun _ => ?_
        refine r_load (i := 37) (u := 0) (w := 2) rfl rfl rfl ?_
        refine r_getf (i := 38) (v := 9) (w := 0) (x := (2, 42)) rfl ly0 rfl rfl fun _ => ?_
        refine r_call (i := 39) (u := 4) (v := 102) (w := 0) (b := 0) (na := 1540) (C2 := xC102) (as := [(2, 22), (2, 17), (2, 9), (2, 42)]) (s := []) rfl rfl rfl rfl rfl rfl rfl (sp102  hI51   fn9 (by omega)) (fun r63 S64 hq65 => ?_)
        obtain ⟨rfl, tk66, hI67, hF68, hR69⟩ := hq65
        have hF70 := hF54.trans hF68 rfl rfl
        have hR71 := hR55.trans hR69 rfl
        have e72 := N23x.fr e56 hF68 hR69 rfl rfl rfl
        have e73 := FAx.fr e50 hF68 rfl rfl
        have e74 := FNx.fr fn9 hF68 rfl rfl
        refine Or.inl ⟨rfl, ?_⟩
        refine r_load (i := 40) (u := 0) (w := 2) rfl rfl rfl ?_
        refine r_getf (i := 41) (v := 7) (w := 0) (x := (2, 33)) rfl ly0 rfl rfl fun _ => ?_
        refine r_call (i := 42) (u := 8) (v := 143) (w := 0) (b := 0) (na := 513) (C2 := xC143) (as := [(2, 33)]) (s := []) rfl rfl rfl rfl rfl rfl rfl (sp143  hI67   e72 e73 (by omega)) (fun r76 S77 hq78 => ?_)
        obtain ⟨rfl, h79, h80, bgc81, e82, e83, hI84, hF85, hR86⟩ := hq78
        have hF87 := hF70.trans hF85 rfl rfl
        have hR88 := hR71.trans hR86 rfl
        have e89 := FNx.fr e74 hF85 rfl rfl
        refine Or.inl ⟨rfl, ?_⟩
        refine r_const (i := 43) (u := 0) (z := 0) rfl rfl ?_
        refine r_store (i := 44) (u := 6) (w := 0) (L1 := [some ((2, 0)), some (vi t), some (vi fa), some (vi fb), some (vi fc), some (vi z42), some (vi 0)]) rfl rfl rfl rfl ?_
        have h90 := hI84.b0
        have h91 := hI84.b1
        have h92 := hI84.f tf9_8
        have h93 : S77.f 9 8 = S64.f 9 8 := hF85.f rfl
        have h94 : S64.f 9 8 = S40.f 9 8 := hF68.f rfl
        have h95 : S40.f 9 8 = S28.f 9 8 := hF52.f rfl
        have h96 : S28.f 9 8 = S.f 9 8 := hF33.f rfl
        exact lp8_45 h_t h_fa h_fb h_fc  hd _ S77 hI84 hF87 hR88 e82 e83 z42 0 ⟨by omega, by omega⟩ ⟨by omega, by omega⟩ (by omega) (by omega) (by exact ⟨yao22 (by omega) t (by omega) (by omega), S28, S40, as30, sAs_fr hF33 rfl rfl, rf47, rf048, sPb_fr hF33 hF52 rfl rfl, fun q9 => absurd q9 (by omega), fun _ => slC_up (slC_of tk66 (by omega)) (sSl_fr hF85 rfl rfl)⟩) (by omega) (by exact fcL_0 bgc81 (dK_fr hF85 rfl rfl)) (by exact asQ_e as30 (sAq_tr (sAq_tr (sAq_fr hF52 rfl rfl) (sAq_fr hF68 rfl rfl)) (sAq_fr hF85 rfl rfl))) (by omega) (by exact ⟨S28, S40, _, as30, sAs_fr hF33 rfl rfl, ⟨rf47, by omega⟩, mbQ_f (mbr49 (by omega)) ((hF85.f rfl).trans (hF68.f rfl))⟩) (Int.lt_succ_toNat _)
      · refine r_load (i := 29) (u := 5) (w := 0) rfl rfl rfl ?_
        exact r_retI (i := 30) rfl (Or.inl ⟨z42, rfl, by omega, by omega, (by exact ⟨yao22 (by omega) t (by omega) (by omega), S28, S40, as30, sAs_fr hF33 rfl rfl, rf47, rf048, sPb_fr hF33 hF52 rfl rfl, fun _ => (sSl_tr (sSl_fr hF33 rfl rfl) (sSl_fr hF52 rfl rfl)), fun q9 => absurd q9 (by omega)⟩), (by exact ⟨fun _ => (sF1_tr (sF1_fr hF33 rfl rfl) (sF1_fr hF52 rfl rfl)), fun q9 => absurd q9 (by omega)⟩), e56, hI51, hF54, hR55⟩)
    · have h97 := hI.bn
      have h98 := hI.br
      exact r_throw (i := 12) (v := 12) (w := 92) rfl (by omega) (by omega) (by omega) (by decide) (fun a => Or.inr ⟨a, 12, rfl, ⟨rfl, by exact nao23 (by omega) t⟩, rfl⟩)
end XNC
