set_option linter.unusedVariables false
set_option maxRecDepth 4000
noncomputable section XNC
/-- ProxyForgeModel.sign -/
theorem sp241 {G : xk} {S : yS} {d : Nat} (hI : yI S) {c : Int} (h_c : 0 ≤ c ∧ c ≤ 127) (p_0 : S.f 43 51 ≤ 199) (hd : 0 ≤ d) : yT xPr G LY xC241 0 [some ((2, 43)), some (vi c)] [] S d (fun r S' => r = (0, (0, 0)) ∧ S'.f 43 51 = S.f 43 51 + 1 ∧ wSG S S' c ∧ wdM S' = wdM S ++ [c] ∧ yI S' ∧ yFr [(43, 51)] [77] S S' ∧ yRm [] S S') := by
  refine yT_pad 0 ?_
  show yT xPr G LY xC241 0 [some ((2, 43)), some (vi c)] [] S d _
  have hF : yFr [(43, 51)] [77] S S := yFr.refl S
  have hR : yRm [] S S := yRm.refl S
  have h1 := hI.f tf43_51
  refine r_load (i := 0) (u := 0) (w := 2) rfl rfl rfl ?_
  refine r_getf (i := 1) (v := 48) (w := 11) (x := (2, 77)) rfl ly43 rfl rfl fun _ => ?_
  refine r_load (i := 2) (u := 0) (w := 2) rfl rfl rfl ?_
  refine r_getf (i := 3) (v := 51) (w := 11) (x := vi (S.f 43 51)) rfl ly43 rfl rfl fun h3 => ?_
  have h3 : Rg (S.f 43 51) := h3
  refine r_load (i := 4) (u := 1) (w := 0) rfl rfl rfl ?_
  refine s_int (i := 5) rfl ly77 rfl (by omega) (by omega) ⟨by omega, by omega⟩ ?_
  have hI5 := hI.seta (b := 77) (j := (S.f 43 51).toNat) (z := c) ta77 rfl (by omega) (by omega)
  have hF7 := hF.seta (b := 77) (j := (S.f 43 51).toNat) (z := c) rfl
  have hR8 := hR.seta (b := 77) (j := (S.f 43 51).toNat) (z := c)
  refine yT_gen (fun S4 hS6 => ?_)
  rw [hS6] at hI5 hF7 hR8 
  refine r_load (i := 6) (u := 0) (w := 2) rfl rfl rfl ?_
  refine r_dup (i := 7) rfl rfl ?_
  have h9 := hI5.f tf43_51
  have h10 : S4.f 43 51 = S.f 43 51 := by rw [← hS6]; rfl
  refine r_getf (i := 8) (v := 51) (w := 11) (x := vi (S4.f 43 51)) rfl ly43 rfl rfl fun h11 => ?_
  have h11 : Rg (S4.f 43 51) := h11
  refine r_const (i := 9) (u := 1) (z := 1) rfl rfl ?_
  refine r_iadd (i := 10) rfl ?_
  refine r_putI (i := 11) (v := 51) (w := 11) rfl ly43 rfl ⟨by omega, by omega⟩ ?_
  have hI13 := hI5.setf (b := 43) (w := 51) (z := (S4.f 43 51) + 1) tf43_51 rfl (by omega) (by omega)
  have hF15 := hF7.setf (b := 43) (w := 51) (z := (S4.f 43 51) + 1) rfl
  have hR16 := hR8.setf (b := 43) (w := 51) (z := (S4.f 43 51) + 1)
  refine yT_gen (fun S12 hS14 => ?_)
  rw [hS14] at hI13 hF15 hR16 
  have h17 := hI13.f tf43_51
  have h18 : S12.f 43 51 = (S4.f 43 51) + 1 := by rw [← hS14]; exact ysf_eq
  exact r_ret0 (i := 12) rfl ⟨rfl, (by omega), (by exact wSG_mk (by omega) (fun j => by subst_vars; rfl)), (by show rL S12 77 (S12.f 43 51).toNat = rL S 77 (S.f 43 51).toNat ++ [c]; rw [show S12.f 43 51 = S.f 43 51 + 1 by omega]; exact rL_push (by omega) (fun j => by subst hS6 hS14; rfl)), hI13, hF15, hR16⟩
theorem lp245_2 {G : xk} {d : Nat} {S0 : yS} {s : Nat} (h_s : yStr s) (p_0 : S0.f 43 51 + slen s ≤ 200) (hd : 4 ≤ d + 1) : ∀ (n : Nat), ∀ (S : yS) (hI : yI S) (hF : yFr [(43, 51)] [77] S0 S) (hR : yRm [] S0 S) (k : Int) (h_k : 0 ≤ k ∧ k ≤ 58) (q_0 : wSP S0 S s k) (q_1 : S.f 43 51 = S0.f 43 51 + k) (q_2 : k ≤ slen s) (q_3 : S0.f 43 51 + slen s ≤ 200) (q_4 : 0 ≤ S0.f 43 51) (q_5 : wdM S = wdM S0 ++ (strl s).take k.toNat) (hn : 58 - k < (n : Nat)), yT xPr G LY xC245 2 [some ((2, 43)), some ((6, s)), some (vi k)] [] S (d + 1) (fun r S' => r = (0, (0, 0)) ∧ S'.f 43 51 = S0.f 43 51 + slen s ∧ wSP S0 S' s (slen s) ∧ wdM S' = wdM S0 ++ strl s ∧ yI S' ∧ yFr [(43, 51)] [77] S0 S' ∧ yRm [] S0 S') := by
  intro n
  induction n with
  | zero => intro S hI hF hR k h_k q_0 q_1 q_2 q_3 q_4 q_5 hn; exact absurd hn (by omega)
  | succ n ih =>
    intro S hI hF hR k h_k q_0 q_1 q_2 q_3 q_4 q_5 hn
    have h1 := hI.f tf43_51
    refine r_load (i := 2) (u := 2) (w := 0) rfl rfl rfl ?_
    refine r_load (i := 3) (u := 1) (w := 2) rfl rfl rfl ?_
    refine r_call (i := 4) (u := 100) (v := 274) (w := 0) (b := 0) (na := 257) (C2 := xC274) (as := [(6, s)]) (s := [vi k]) rfl rfl rfl rfl rfl (yrcv_str h_s) rfl (sp274 (s := s)  h_s   (by omega)) (fun r2 S3 hq4 => ?_)
    obtain ⟨z5, rfl, h6, h7, h8, rfl⟩ := hq4
    refine Or.inr (Or.inl ⟨rfl, ?_⟩)
    refine c_ge (i := 5) (v := 13) rfl ⟨by omega, by omega⟩ ⟨by omega, by omega⟩ (fun h9 => ?_) (fun h10 => ?_)
    · exact r_ret0 (i := 13) rfl ⟨rfl, (by omega), (by (have e9 : slen s = k := by omega); rw [e9]; exact q_0), (by exact tk_e q_5 (by omega)), hI, hF, hR⟩
    · refine r_load (i := 6) (u := 0) (w := 2) rfl rfl rfl ?_
      refine r_load (i := 7) (u := 1) (w := 2) rfl rfl rfl ?_
      refine r_load (i := 8) (u := 2) (w := 0) rfl rfl rfl ?_
      refine r_call (i := 9) (u := 100) (v := 270) (w := 0) (b := 0) (na := 514) (C2 := xC270) (as := [(6, s), vi k]) (s := [(2, 43)]) rfl rfl rfl rfl rfl (yrcv_str h_s) rfl (sp270 (s := s) (x := k)  h_s ⟨by omega, by omega⟩ (by omega)  (by omega)) (fun r11 S12 hq13 => ?_)
      obtain ⟨z14, rfl, h15, h16, ca17, rfl⟩ := hq13
      refine Or.inr (Or.inl ⟨rfl, ?_⟩)
      refine r_call (i := 10) (u := 11) (v := 241) (w := 0) (b := 0) (na := 514) (C2 := xC241) (as := [(2, 43), vi z14]) (s := []) rfl rfl rfl rfl rfl rfl rfl (sp241 (c := z14) hI ⟨by omega, by omega⟩ (by omega)  (by omega)) (fun r18 S19 hq20 => ?_)
      obtain ⟨rfl, h21, sg22, wsg23, hI24, hF25, hR26⟩ := hq20
      have hF27 := hF.trans hF25 rfl rfl
      have hR28 := hR.trans hR26 rfl
      refine Or.inl ⟨rfl, ?_⟩
      refine r_iinc (i := 11) (u := 1) (v := 2) (s := 1) (L1 := [some ((2, 43)), some ((6, s)), some (vi (k + 1))]) rfl rfl rfl rfl rfl ?_
      refine r_goto (i := 12) (v := 2) rfl ?_
      have h29 := hI24.f tf43_51
      exact ih S19 hI24 hF27 hR28 (k + 1) ⟨by omega, by omega⟩ (by first | exact wSP_0 rfl | exact wSP_s (by omega) q_0 (by omega) (by omega) (by omega) sg22 (by omega) (by omega) ca17) (by omega) (by omega) (by omega) (by omega) (by exact tk_s q_5 wsg23 (strl_get ca17 (by omega) (by omega)) (by omega)) (by omega)
/-- ProxyForgeModel.spell -/
theorem sp245 {G : xk} {S : yS} {d : Nat} (hI : yI S) {s : Nat} (h_s : yStr s) (p_0 : S.f 43 51 + slen s ≤ 200) (hd : 4 ≤ d) : yT xPr G LY xC245 0 [some ((2, 43)), some ((6, s))] [] S d (fun r S' => r = (0, (0, 0)) ∧ S'.f 43 51 = S.f 43 51 + slen s ∧ wSP S S' s (slen s) ∧ wdM S' = wdM S ++ strl s ∧ yI S' ∧ yFr [(43, 51)] [77] S S' ∧ yRm [] S S') := by
  refine yT_pad 1 ?_
  show yT xPr G LY xC245 0 [some ((2, 43)), some ((6, s)), none] [] S d _
  obtain ⟨d, rfl⟩ : ∃ q, d = q + 1 := ⟨d - 1, by omega⟩
  have hF : yFr [(43, 51)] [77] S S := yFr.refl S
  have hR : yRm [] S S := yRm.refl S
  have h1 := hI.f tf43_51
  have sl9 := slen_le h_s
  refine r_const (i := 0) (u := 0) (z := 0) rfl rfl ?_
  refine r_store (i := 1) (u := 2) (w := 0) (L1 := [some ((2, 43)), some ((6, s)), some (vi 0)]) rfl rfl rfl rfl ?_
  exact lp245_2 h_s p_0 hd _ S hI hF hR 0 ⟨by omega, by omega⟩ (by first | exact wSP_0 rfl | exact wSP_s (by omega) q_0 (by omega) (by omega) (by omega) {n_sg_L} (by omega) (by omega) {n_ca_L}) (by omega) (by omega) (by omega) (by omega) (by exact (List.append_nil _).symm) (Int.lt_succ_toNat _)
/-- ProxyForgeModel.spellNumber -/
theorem sp248 {G : xk} {S : yS} {d : Nat} (hI : yI S) {v : Int} (h_v : 0 ≤ v ∧ v ≤ 19) (p_0 : S.f 43 51 ≤ 198) (hd : 1 ≤ d) : yT xPr G LY xC248 0 [some ((2, 43)), some (vi v)] [] S d (fun r S' => r = (0, (0, 0)) ∧ (v ≤ 9 → S'.f 43 51 = S.f 43 51 + 1) ∧ (9 < v → S'.f 43 51 = S.f 43 51 + 2) ∧ wSN S S' v ∧ wdM S' = wdM S ++ dgN v ∧ yI S' ∧ yFr [(43, 51)] [77] S S' ∧ yRm [] S S') := by
  refine yT_pad 0 ?_
  show yT xPr G LY xC248 0 [some ((2, 43)), some (vi v)] [] S d _
  obtain ⟨d, rfl⟩ : ∃ q, d = q + 1 := ⟨d - 1, by omega⟩
  have hF : yFr [(43, 51)] [77] S S := yFr.refl S
  have hR : yRm [] S S := yRm.refl S
  have h1 := hI.f tf43_51
  refine r_load (i := 0) (u := 1) (w := 0) rfl rfl rfl ?_
  refine r_const (i := 1) (u := 9) (z := 9) rfl rfl ?_
  refine c_le (i := 2) (v := 10) rfl ⟨by omega, by omega⟩ ⟨by omega, by omega⟩ (fun h2 => ?_) (fun h3 => ?_)
  · refine r_load (i := 10) (u := 0) (w := 2) rfl rfl rfl ?_
    refine r_const (i := 11) (u := 48) (z := 48) rfl rfl ?_
    refine r_load (i := 12) (u := 1) (w := 0) rfl rfl rfl ?_
    refine r_const (i := 13) (u := 10) (z := 10) rfl rfl ?_
    refine r_irem (i := 14) rfl (by omega) (by omega) (by omega) (by omega) ?_
    refine r_iadd (i := 15) rfl ?_
    refine r_call (i := 16) (u := 11) (v := 241) (w := 0) (b := 0) (na := 514) (C2 := xC241) (as := [(2, 43), vi (48 + (v % 10))]) (s := []) rfl rfl rfl rfl rfl rfl rfl (sp241 (c := 48 + (v % 10)) hI ⟨by omega, by omega⟩ (by omega)  (by omega)) (fun r4 S5 hq6 => ?_)
    obtain ⟨rfl, h7, sg8, wsg9, hI10, hF11, hR12⟩ := hq6
    have hF13 := hF.trans hF11 rfl rfl
    have hR14 := hR.trans hR12 rfl
    refine Or.inl ⟨rfl, ?_⟩
    have h15 := hI10.f tf43_51
    exact r_ret0 (i := 17) rfl ⟨rfl, (by omega), (by omega), (by first | exact ⟨fun h => sg8, fun h => absurd h (by omega)⟩ | exact ⟨fun h => absurd h (by omega), fun h => ⟨_, sg8, by omega, sg8⟩⟩), (by exact dgN_1 wsg9 (by omega)), hI10, hF13, hR14⟩
  · refine r_load (i := 3) (u := 0) (w := 2) rfl rfl rfl ?_
    refine r_const (i := 4) (u := 48) (z := 48) rfl rfl ?_
    refine r_load (i := 5) (u := 1) (w := 0) rfl rfl rfl ?_
    refine r_const (i := 6) (u := 10) (z := 10) rfl rfl ?_
    refine r_idiv (i := 7) rfl (by omega) (by omega) (by omega) (by omega) ?_
    refine r_iadd (i := 8) rfl ?_
    refine r_call (i := 9) (u := 11) (v := 241) (w := 0) (b := 0) (na := 514) (C2 := xC241) (as := [(2, 43), vi (48 + (v / 10))]) (s := []) rfl rfl rfl rfl rfl rfl rfl (sp241 (c := 48 + (v / 10)) hI ⟨by omega, by omega⟩ (by omega)  (by omega)) (fun r16 S17 hq18 => ?_)
    obtain ⟨rfl, h19, sg20, wsg21, hI22, hF23, hR24⟩ := hq18
    have hF25 := hF.trans hF23 rfl rfl
    have hR26 := hR.trans hR24 rfl
    refine Or.inl ⟨rfl, ?_⟩
    refine r_load (i := 10) (u := 0) (w := 2) rfl rfl rfl ?_
    refine r_const (i := 11) (u := 48) (z := 48) rfl rfl ?_
    refine r_load (i := 12) (u := 1) (w := 0) rfl rfl rfl ?_
    refine r_const (i := 13) (u := 10) (z := 10) rfl rfl ?_
    refine r_irem (i := 14) rfl (by omega) (by omega) (by omega) (by omega) ?_
    refine r_iadd (i := 15) rfl ?_
    have h27 := hI22.f tf43_51
    refine r_call (i := 16) (u := 11) (v := 241) (w := 0) (b := 0) (na := 514) (C2 := xC241) (as := [(2, 43), vi (48 + (v % 10))]) (s := []) rfl rfl rfl rfl rfl rfl rfl (sp241 (c := 48 + (v % 10)) hI22 ⟨by omega, by omega⟩ (by omega)  (by omega)) (fun r28 S29 hq30 => ?_)
    obtain ⟨rfl, h31, sg32, wsg33, hI34, hF35, hR36⟩ := hq30
    have hF37 := hF25.trans hF35 rfl rfl
    have hR38 := hR26.trans hR36 rfl
    refine Or.inl ⟨rfl, ?_⟩
    have h39 := hI34.f tf43_51
    exact r_ret0 (i := 17) rfl ⟨rfl, (by omega), (by omega), (by first | exact ⟨fun h => sg32, fun h => absurd h (by omega)⟩ | exact ⟨fun h => absurd h (by omega), fun h => ⟨_, sg20, by omega, sg32⟩⟩), (by exact dgN_2 wsg21 wsg33 (by omega)), hI34, hF37, hR38⟩
/-- ProxyForgeModel.spellType -/
theorem sp249 {G : xk} {S : yS} {d : Nat} (hI : yI S) {t : Int} (h_t : 0 ≤ t ∧ t ≤ 19) (p_0 : S.f 43 51 ≤ 170) (hd : 5 ≤ d) : yT xPr G LY xC249 0 [some ((2, 43)), some (vi t)] [] S d (fun r S' => r = (0, (0, 0)) ∧ (S.f 43 51 + 5 ≤ S'.f 43 51 ∧ S'.f 43 51 ≤ S.f 43 51 + 26) ∧ (S.f 43 51 = 0 → wWD S' (wtc t)) ∧ wdM S' = wdM S ++ tyN (pkR 48 S) t ∧ yI S' ∧ yFr [(43, 51)] [77] S S' ∧ yRm [] S S') := by
  refine yT_pad 0 ?_
  show yT xPr G LY xC249 0 [some ((2, 43)), some (vi t)] [] S d _
  obtain ⟨d, rfl⟩ : ∃ q, d = q + 1 := ⟨d - 1, by omega⟩
  have hF : yFr [(43, 51)] [77] S S := yFr.refl S
  have hR : yRm [] S S := yRm.refl S
  have h1 := hI.f tf43_51
  refine r_load (i := 0) (u := 1) (w := 0) rfl rfl rfl ?_
  refine r_const (i := 1) (u := 4) (z := 4) rfl rfl ?_
  refine c_ge (i := 2) (v := 21) rfl ⟨by omega, by omega⟩ ⟨by omega, by omega⟩ (fun h2 => ?_) (fun h3 => ?_)
  · refine r_load (i := 21) (u := 0) (w := 2) rfl rfl rfl ?_
    refine r_const (i := 22) (u := 112) (z := 112) rfl rfl ?_
    refine r_call (i := 23) (u := 11) (v := 241) (w := 0) (b := 0) (na := 514) (C2 := xC241) (as := [(2, 43), vi 112]) (s := []) rfl rfl rfl rfl rfl rfl rfl (sp241 (c := 112) hI ⟨by omega, by omega⟩ (by omega)  (by omega)) (fun r4 S5 hq6 => ?_)
    obtain ⟨rfl, h7, sg8, wsg9, hI10, hF11, hR12⟩ := hq6
    have hF13 := hF.trans hF11 rfl rfl
    have hR14 := hR.trans hR12 rfl
    refine Or.inl ⟨rfl, ?_⟩
    have hq8 := hF13.a (b := 48) rfl t.toNat
    refine r_load (i := 24) (u := 0) (w := 2) rfl rfl rfl ?_
    refine r_load (i := 25) (u := 0) (w := 2) rfl rfl rfl ?_
    refine r_getf (i := 26) (v := 6) (w := 11) (x := (2, 48)) rfl ly43 rfl rfl fun _ => ?_
    refine r_load (i := 27) (u := 1) (w := 0) rfl rfl rfl ?_
    refine a_int (i := 28) rfl ly48 rfl (by omega) (by omega) fun h16 => ?_
    have h17 := hI10.a ta48 t.toNat
    have h18 : S5.a 48 t.toNat = S.a 48 t.toNat := hF11.a rfl _
    have h19 := hI10.f tf43_51
    refine r_call (i := 29) (u := 11) (v := 248) (w := 0) (b := 0) (na := 514) (C2 := xC248) (as := [(2, 43), vi (S5.a 48 t.toNat)]) (s := []) rfl rfl rfl rfl rfl rfl rfl (sp248 (v := S5.a 48 t.toNat) hI10 ⟨by omega, by omega⟩ (by omega)  (by omega)) (fun r20 S21 hq22 => ?_)
    obtain ⟨rfl, h23, h24, sn25, wsn26, hI27, hF28, hR29⟩ := hq22
    have hF30 := hF13.trans hF28 rfl rfl
    have hR31 := hR14.trans hR29 rfl
    refine Or.inl ⟨rfl, ?_⟩
    refine r_load (i := 30) (u := 0) (w := 2) rfl rfl rfl ?_
    refine r_str (i := 31) (v := 45) rfl ?_
    have h32 := slv45
    have h33 := hI27.f tf43_51
    refine r_call (i := 32) (u := 11) (v := 245) (w := 0) (b := 0) (na := 770) (C2 := xC245) (as := [(2, 43), (6, 45)]) (s := []) rfl rfl rfl rfl rfl rfl rfl (sp245 (s := 45) hI27 ⟨by decide, by decide⟩ (by omega)  (by omega)) (fun r34 S35 hq36 => ?_)
    obtain ⟨rfl, h37, sp38, wsp39, hI40, hF41, hR42⟩ := hq36
    have hF43 := hF30.trans hF41 rfl rfl
    have hR44 := hR31.trans hR42 rfl
    refine Or.inl ⟨rfl, ?_⟩
    refine r_load (i := 33) (u := 0) (w := 2) rfl rfl rfl ?_
    refine r_load (i := 34) (u := 1) (w := 0) rfl rfl rfl ?_
    have h45 := hI40.f tf43_51
    refine r_call (i := 35) (u := 11) (v := 248) (w := 0) (b := 0) (na := 514) (C2 := xC248) (as := [(2, 43), vi t]) (s := []) rfl rfl rfl rfl rfl rfl rfl (sp248 (v := t) hI40 ⟨by omega, by omega⟩ (by omega)  (by omega)) (fun r46 S47 hq48 => ?_)
    obtain ⟨rfl, h49, h50, sn51, wsn52, hI53, hF54, hR55⟩ := hq48
    have hF56 := hF43.trans hF54 rfl rfl
    have hR57 := hR44.trans hR55 rfl
    refine Or.inl ⟨rfl, ?_⟩
    have hq9 := (hF56.a (b := 48) rfl t.toNat).trans hq8.symm
    have h58 := hI53.f tf43_51
    exact r_ret0 (i := 36) rfl ⟨rfl, (by omega), (by intro h0; exact wWD_ty sg8 (by omega) sn25 (by omega) (by omega) (by omega) sp38 (by omega) sn51 ⟨by omega, by omega⟩ h0 hq9 (by omega) (by omega)), (by exact tyM_m wsg9 wsn26 wsp39 wsn52 (show _ = S.a 48 t.toNat by omega) (by omega) (by omega) (by omega)), hI53, hF56, hR57⟩
  · refine r_load (i := 3) (u := 0) (w := 2) rfl rfl rfl ?_
    refine r_load (i := 4) (u := 1) (w := 0) rfl rfl rfl ?_
    refine z_ne (i := 5) (v := 8) rfl ⟨by omega, by omega⟩ (fun h59 => ?_) (fun h60 => ?_)
    · refine r_load (i := 8) (u := 1) (w := 0) rfl rfl rfl ?_
      refine r_const (i := 9) (u := 1) (z := 1) rfl rfl ?_
      refine c_ne (i := 10) (v := 13) rfl ⟨by omega, by omega⟩ ⟨by omega, by omega⟩ (fun h61 => ?_) (fun h62 => ?_)
      · refine r_load (i := 13) (u := 1) (w := 0) rfl rfl rfl ?_
        refine r_const (i := 14) (u := 2) (z := 2) rfl rfl ?_
        refine c_ne (i := 15) (v := 18) rfl ⟨by omega, by omega⟩ ⟨by omega, by omega⟩ (fun h63 => ?_) (fun h64 => ?_)
        · refine r_str (i := 18) (v := 44) rfl ?_
          have h65 := slv44
          refine r_call (i := 19) (u := 11) (v := 245) (w := 0) (b := 0) (na := 770) (C2 := xC245) (as := [(2, 43), (6, 44)]) (s := []) rfl rfl rfl rfl rfl rfl rfl (sp245 (s := 44) hI ⟨by decide, by decide⟩ (by omega)  (by omega)) (fun r66 S67 hq68 => ?_)
          obtain ⟨rfl, h69, sp70, wsp71, hI72, hF73, hR74⟩ := hq68
          have hF75 := hF.trans hF73 rfl rfl
          have hR76 := hR.trans hR74 rfl
          refine Or.inl ⟨rfl, ?_⟩
          have h77 := hI72.f tf43_51
          exact r_ret0 (i := 20) rfl ⟨rfl, (by omega), (by intro h0; first | (have e9 : wtc t = 41 := by unfold wtc; rw [if_pos (by omega)]; omega); rw [e9]; exact wWD_sp (by decide) sp70 (by omega) (by omega) | (have e9 : wtc t = 42 := by unfold wtc; rw [if_pos (by omega)]; omega); rw [e9]; exact wWD_sp (by decide) sp70 (by omega) (by omega) | (have e9 : wtc t = 43 := by unfold wtc; rw [if_pos (by omega)]; omega); rw [e9]; exact wWD_sp (by decide) sp70 (by omega) (by omega) | (have e9 : wtc t = 44 := by unfold wtc; rw [if_pos (by omega)]; omega); rw [e9]; exact wWD_sp (by decide) sp70 (by omega) (by omega)), (by first | exact tyM_0 wsp71 (by omega) | exact tyM_1 wsp71 (by omega) | exact tyM_2 wsp71 (by omega) | exact tyM_3 wsp71 (by omega)), hI72, hF75, hR76⟩
        · refine r_str (i := 16) (v := 43) rfl ?_
          have h78 := slv43
          refine r_goto (i := 17) (v := 19) rfl ?_
          refine r_call (i := 19) (u := 11) (v := 245) (w := 0) (b := 0) (na := 770) (C2 := xC245) (as := [(2, 43), (6, 43)]) (s := []) rfl rfl rfl rfl rfl rfl rfl (sp245 (s := 43) hI ⟨by decide, by decide⟩ (by omega)  (by omega)) (fun r79 S80 hq81 => ?_)
          obtain ⟨rfl, h82, sp83, wsp84, hI85, hF86, hR87⟩ := hq81
          have hF88 := hF.trans hF86 rfl rfl
          have hR89 := hR.trans hR87 rfl
          refine Or.inl ⟨rfl, ?_⟩
          have h90 := hI85.f tf43_51
          exact r_ret0 (i := 20) rfl ⟨rfl, (by omega), (by intro h0; first | (have e9 : wtc t = 41 := by unfold wtc; rw [if_pos (by omega)]; omega); rw [e9]; exact wWD_sp (by decide) sp83 (by omega) (by omega) | (have e9 : wtc t = 42 := by unfold wtc; rw [if_pos (by omega)]; omega); rw [e9]; exact wWD_sp (by decide) sp83 (by omega) (by omega) | (have e9 : wtc t = 43 := by unfold wtc; rw [if_pos (by omega)]; omega); rw [e9]; exact wWD_sp (by decide) sp83 (by omega) (by omega) | (have e9 : wtc t = 44 := by unfold wtc; rw [if_pos (by omega)]; omega); rw [e9]; exact wWD_sp (by decide) sp83 (by omega) (by omega)), (by first | exact tyM_0 wsp84 (by omega) | exact tyM_1 wsp84 (by omega) | exact tyM_2 wsp84 (by omega) | exact tyM_3 wsp84 (by omega)), hI85, hF88, hR89⟩
      · refine r_str (i := 11) (v := 42) rfl ?_
        have h91 := slv42
        refine r_goto (i := 12) (v := 19) rfl ?_
        refine r_call (i := 19) (u := 11) (v := 245) (w := 0) (b := 0) (na := 770) (C2 := xC245) (as := [(2, 43), (6, 42)]) (s := []) rfl rfl rfl rfl rfl rfl rfl (sp245 (s := 42) hI ⟨by decide, by decide⟩ (by omega)  (by omega)) (fun r92 S93 hq94 => ?_)
        obtain ⟨rfl, h95, sp96, wsp97, hI98, hF99, hR100⟩ := hq94
        have hF101 := hF.trans hF99 rfl rfl
        have hR102 := hR.trans hR100 rfl
        refine Or.inl ⟨rfl, ?_⟩
        have h103 := hI98.f tf43_51
        exact r_ret0 (i := 20) rfl ⟨rfl, (by omega), (by intro h0; first | (have e9 : wtc t = 41 := by unfold wtc; rw [if_pos (by omega)]; omega); rw [e9]; exact wWD_sp (by decide) sp96 (by omega) (by omega) | (have e9 : wtc t = 42 := by unfold wtc; rw [if_pos (by omega)]; omega); rw [e9]; exact wWD_sp (by decide) sp96 (by omega) (by omega) | (have e9 : wtc t = 43 := by unfold wtc; rw [if_pos (by omega)]; omega); rw [e9]; exact wWD_sp (by decide) sp96 (by omega) (by omega) | (have e9 : wtc t = 44 := by unfold wtc; rw [if_pos (by omega)]; omega); rw [e9]; exact wWD_sp (by decide) sp96 (by omega) (by omega)), (by first | exact tyM_0 wsp97 (by omega) | exact tyM_1 wsp97 (by omega) | exact tyM_2 wsp97 (by omega) | exact tyM_3 wsp97 (by omega)), hI98, hF101, hR102⟩
    · refine r_str (i := 6) (v := 41) rfl ?_
      have h104 := slv41
      refine r_goto (i := 7) (v := 19) rfl ?_
      refine r_call (i := 19) (u := 11) (v := 245) (w := 0) (b := 0) (na := 770) (C2 := xC245) (as := [(2, 43), (6, 41)]) (s := []) rfl rfl rfl rfl rfl rfl rfl (sp245 (s := 41) hI ⟨by decide, by decide⟩ (by omega)  (by omega)) (fun r105 S106 hq107 => ?_)
      obtain ⟨rfl, h108, sp109, wsp110, hI111, hF112, hR113⟩ := hq107
      have hF114 := hF.trans hF112 rfl rfl
      have hR115 := hR.trans hR113 rfl
      refine Or.inl ⟨rfl, ?_⟩
      have h116 := hI111.f tf43_51
      exact r_ret0 (i := 20) rfl ⟨rfl, (by omega), (by intro h0; first | (have e9 : wtc t = 41 := by unfold wtc; rw [if_pos (by omega)]; omega); rw [e9]; exact wWD_sp (by decide) sp109 (by omega) (by omega) | (have e9 : wtc t = 42 := by unfold wtc; rw [if_pos (by omega)]; omega); rw [e9]; exact wWD_sp (by decide) sp109 (by omega) (by omega) | (have e9 : wtc t = 43 := by unfold wtc; rw [if_pos (by omega)]; omega); rw [e9]; exact wWD_sp (by decide) sp109 (by omega) (by omega) | (have e9 : wtc t = 44 := by unfold wtc; rw [if_pos (by omega)]; omega); rw [e9]; exact wWD_sp (by decide) sp109 (by omega) (by omega)), (by first | exact tyM_0 wsp110 (by omega) | exact tyM_1 wsp110 (by omega) | exact tyM_2 wsp110 (by omega) | exact tyM_3 wsp110 (by omega)), hI111, hF114, hR115⟩
/-- ProxyForgeModel.spellKind -/
theorem sp247 {G : xk} {S : yS} {d : Nat} (hI : yI S) {k : Int} (h_k : 0 ≤ k ∧ k ≤ 23) (p_0 : S.f 43 51 ≤ 168) (hd : 6 ≤ d) : yT xPr G LY xC247 0 [some ((2, 43)), some (vi k)] [] S d (fun r S' => r = (0, (0, 0)) ∧ (S.f 43 51 + 1 ≤ S'.f 43 51 ∧ S'.f 43 51 ≤ S.f 43 51 + 28) ∧ (k = 0 → S'.f 43 51 = S.f 43 51 + 1) ∧ wdM S' = wdM S ++ kdL (pkR 48 S) k ∧ yI S' ∧ yFr [(43, 51)] [77] S S' ∧ yRm [] S S') := by
  refine yT_pad 0 ?_
  show yT xPr G LY xC247 0 [some ((2, 43)), some (vi k)] [] S d _
  obtain ⟨d, rfl⟩ : ∃ q, d = q + 1 := ⟨d - 1, by omega⟩
  have hF : yFr [(43, 51)] [77] S S := yFr.refl S
  have hR : yRm [] S S := yRm.refl S
  have h1 := hI.f tf43_51
  refine r_load (i := 0) (u := 1) (w := 0) rfl rfl rfl ?_
  refine r_const (i := 1) (u := 4) (z := 4) rfl rfl ?_
  refine c_ge (i := 2) (v := 21) rfl ⟨by omega, by omega⟩ ⟨by omega, by omega⟩ (fun h2 => ?_) (fun h3 => ?_)
  · refine r_load (i := 21) (u := 0) (w := 2) rfl rfl rfl ?_
    refine r_const (i := 22) (u := 76) (z := 76) rfl rfl ?_
    refine r_call (i := 23) (u := 11) (v := 241) (w := 0) (b := 0) (na := 514) (C2 := xC241) (as := [(2, 43), vi 76]) (s := []) rfl rfl rfl rfl rfl rfl rfl (sp241 (c := 76) hI ⟨by omega, by omega⟩ (by omega)  (by omega)) (fun r4 S5 hq6 => ?_)
    obtain ⟨rfl, h7, sg8, wsg9, hI10, hF11, hR12⟩ := hq6
    have hF13 := hF.trans hF11 rfl rfl
    have hR14 := hR.trans hR12 rfl
    refine Or.inl ⟨rfl, ?_⟩
    refine r_load (i := 24) (u := 0) (w := 2) rfl rfl rfl ?_
    refine r_load (i := 25) (u := 1) (w := 0) rfl rfl rfl ?_
    refine r_const (i := 26) (u := 4) (z := 4) rfl rfl ?_
    refine r_isub (i := 27) rfl ?_
    have h15 := hI10.f tf43_51
    refine r_call (i := 28) (u := 11) (v := 249) (w := 0) (b := 0) (na := 514) (C2 := xC249) (as := [(2, 43), vi (k - 4)]) (s := []) rfl rfl rfl rfl rfl rfl rfl (sp249 (t := k - 4) hI10 ⟨by omega, by omega⟩ (by omega)  (by omega)) (fun r16 S17 hq18 => ?_)
    obtain ⟨rfl, h19, wt20, wty21, hI22, hF23, hR24⟩ := hq18
    have hF25 := hF13.trans hF23 rfl rfl
    have hR26 := hR14.trans hR24 rfl
    refine Or.inl ⟨rfl, ?_⟩
    refine r_load (i := 29) (u := 0) (w := 2) rfl rfl rfl ?_
    refine r_const (i := 30) (u := 59) (z := 59) rfl rfl ?_
    have h27 := hI22.f tf43_51
    refine r_call (i := 31) (u := 11) (v := 241) (w := 0) (b := 0) (na := 514) (C2 := xC241) (as := [(2, 43), vi 59]) (s := []) rfl rfl rfl rfl rfl rfl rfl (sp241 (c := 59) hI22 ⟨by omega, by omega⟩ (by omega)  (by omega)) (fun r28 S29 hq30 => ?_)
    obtain ⟨rfl, h31, sg32, wsg33, hI34, hF35, hR36⟩ := hq30
    have hF37 := hF25.trans hF35 rfl rfl
    have hR38 := hR26.trans hR36 rfl
    refine Or.inl ⟨rfl, ?_⟩
    have h39 := hI34.f tf43_51
    exact r_ret0 (i := 32) rfl ⟨rfl, (by omega), (by omega), (by exact kd_4 wsg9 wty21 wsg33 (pkR_fr hF11 rfl) (by omega)), hI34, hF37, hR38⟩
  · refine r_load (i := 3) (u := 0) (w := 2) rfl rfl rfl ?_
    refine r_load (i := 4) (u := 1) (w := 0) rfl rfl rfl ?_
    refine z_ne (i := 5) (v := 8) rfl ⟨by omega, by omega⟩ (fun h40 => ?_) (fun h41 => ?_)
    · refine r_load (i := 8) (u := 1) (w := 0) rfl rfl rfl ?_
      refine r_const (i := 9) (u := 1) (z := 1) rfl rfl ?_
      refine c_ne (i := 10) (v := 13) rfl ⟨by omega, by omega⟩ ⟨by omega, by omega⟩ (fun h42 => ?_) (fun h43 => ?_)
      · refine r_load (i := 13) (u := 1) (w := 0) rfl rfl rfl ?_
        refine r_const (i := 14) (u := 2) (z := 2) rfl rfl ?_
        refine c_ne (i := 15) (v := 18) rfl ⟨by omega, by omega⟩ ⟨by omega, by omega⟩ (fun h44 => ?_) (fun h45 => ?_)
        · refine r_const (i := 18) (u := 90) (z := 90) rfl rfl ?_
          refine r_call (i := 19) (u := 11) (v := 241) (w := 0) (b := 0) (na := 514) (C2 := xC241) (as := [(2, 43), vi 90]) (s := []) rfl rfl rfl rfl rfl rfl rfl (sp241 (c := 90) hI ⟨by omega, by omega⟩ (by omega)  (by omega)) (fun r46 S47 hq48 => ?_)
          obtain ⟨rfl, h49, sg50, wsg51, hI52, hF53, hR54⟩ := hq48
          have hF55 := hF.trans hF53 rfl rfl
          have hR56 := hR.trans hR54 rfl
          refine Or.inl ⟨rfl, ?_⟩
          have h57 := hI52.f tf43_51
          exact r_ret0 (i := 20) rfl ⟨rfl, (by omega), (by omega), (by exact kd_a wsg51 (by omega)), hI52, hF55, hR56⟩
        · refine r_const (i := 16) (u := 74) (z := 74) rfl rfl ?_
          refine r_goto (i := 17) (v := 19) rfl ?_
          refine r_call (i := 19) (u := 11) (v := 241) (w := 0) (b := 0) (na := 514) (C2 := xC241) (as := [(2, 43), vi 74]) (s := []) rfl rfl rfl rfl rfl rfl rfl (sp241 (c := 74) hI ⟨by omega, by omega⟩ (by omega)  (by omega)) (fun r58 S59 hq60 => ?_)
          obtain ⟨rfl, h61, sg62, wsg63, hI64, hF65, hR66⟩ := hq60
          have hF67 := hF.trans hF65 rfl rfl
          have hR68 := hR.trans hR66 rfl
          refine Or.inl ⟨rfl, ?_⟩
          have h69 := hI64.f tf43_51
          exact r_ret0 (i := 20) rfl ⟨rfl, (by omega), (by omega), (by exact kd_a wsg63 (by omega)), hI64, hF67, hR68⟩
      · refine r_const (i := 11) (u := 73) (z := 73) rfl rfl ?_
        refine r_goto (i := 12) (v := 19) rfl ?_
        refine r_call (i := 19) (u := 11) (v := 241) (w := 0) (b := 0) (na := 514) (C2 := xC241) (as := [(2, 43), vi 73]) (s := []) rfl rfl rfl rfl rfl rfl rfl (sp241 (c := 73) hI ⟨by omega, by omega⟩ (by omega)  (by omega)) (fun r70 S71 hq72 => ?_)
        obtain ⟨rfl, h73, sg74, wsg75, hI76, hF77, hR78⟩ := hq72
        have hF79 := hF.trans hF77 rfl rfl
        have hR80 := hR.trans hR78 rfl
        refine Or.inl ⟨rfl, ?_⟩
        have h81 := hI76.f tf43_51
        exact r_ret0 (i := 20) rfl ⟨rfl, (by omega), (by omega), (by exact kd_a wsg75 (by omega)), hI76, hF79, hR80⟩
    · refine r_const (i := 6) (u := 86) (z := 86) rfl rfl ?_
      refine r_goto (i := 7) (v := 19) rfl ?_
      refine r_call (i := 19) (u := 11) (v := 241) (w := 0) (b := 0) (na := 514) (C2 := xC241) (as := [(2, 43), vi 86]) (s := []) rfl rfl rfl rfl rfl rfl rfl (sp241 (c := 86) hI ⟨by omega, by omega⟩ (by omega)  (by omega)) (fun r82 S83 hq84 => ?_)
      obtain ⟨rfl, h85, sg86, wsg87, hI88, hF89, hR90⟩ := hq84
      have hF91 := hF.trans hF89 rfl rfl
      have hR92 := hR.trans hR90 rfl
      refine Or.inl ⟨rfl, ?_⟩
      have h93 := hI88.f tf43_51
      exact r_ret0 (i := 20) rfl ⟨rfl, (by omega), (by omega), (by exact kd_a wsg87 (by omega)), hI88, hF91, hR92⟩
theorem lp246_10 {G : xk} {d : Nat} {S0 : yS} {m : Int} (h_m : 0 ≤ m ∧ m ≤ 59) {cb : Int} (h_cb : 0 ≤ cb ∧ cb ≤ 1) (p_0 : S0.f 43 51 = 0) (hd : 7 ≤ d + 1) : ∀ (n : Nat), ∀ (S : yS) (hI : yI S) (hF : yFr [(43, 51)] [77] S0 S) (hR : yRm [] S0 S) (k : Int) (h_k : 0 ≤ k ∧ k ≤ 4) (q_0 : 1 ≤ S.f 43 51 ∧ S.f 43 51 ≤ 1 + 13 * cb + 28 * k) (q_1 : dsM (wdM S0) (wdM S) (pkR 48 S0) (if cb = 0 then [] else strl 11) (S0.a 55 m.toNat) k) (q_2 : k ≤ hmn (S0.a 55 m.toNat)) (hn : 4 - k < (n : Nat)), yT xPr G LY xC246 10 [some ((2, 43)), some (vi m), some (vi cb), some (vi k)] [] S (d + 1) (fun r S' => r = (0, (0, 0)) ∧ (1 ≤ S'.f 43 51 ∧ S'.f 43 51 ≤ 142 + 13 * cb) ∧ (S0.a 56 m.toNat = 0 → S'.f 43 51 ≤ 115 + 13 * cb) ∧ wdM S' = wdM S0 ++ dsL (pkR 48 S0) (if cb = 0 then [] else strl 11) (S0.a 55 m.toNat) (S0.a 56 m.toNat) ∧ yI S' ∧ yFr [(43, 51)] [77] S0 S' ∧ yRm [] S0 S') := by
  intro n
  induction n with
  | zero => intro S hI hF hR k h_k q_0 q_1 q_2 hn; exact absurd hn (by omega)
  | succ n ih =>
    intro S hI hF hR k h_k q_0 q_1 q_2 hn
    have h1 := hI.f tf43_51
    refine r_load (i := 10) (u := 3) (w := 0) rfl rfl rfl ?_
    refine r_load (i := 11) (u := 0) (w := 2) rfl rfl rfl ?_
    refine r_getf (i := 12) (v := 14) (w := 11) (x := (2, 55)) rfl ly43 rfl rfl fun _ => ?_
    refine r_load (i := 13) (u := 1) (w := 0) rfl rfl rfl ?_
    refine a_int (i := 14) rfl ly55 rfl (by omega) (by omega) fun h3 => ?_
    have h4 := hI.a ta55 m.toNat
    have kp5 := hI.k55 m.toNat
    have h6 : S.a 55 m.toNat = S0.a 55 m.toNat := hF.a rfl _
    refine r_call (i := 15) (u := 65535) (v := 216) (w := 0) (b := 2) (na := 513) (C2 := xC216) (as := [vi (S.a 55 m.toNat)]) (s := [vi k]) rfl rfl rfl rfl rfl rfl rfl (sp216 (a := S.a 55 m.toNat) hI ⟨by omega, by omega⟩   (by omega)) (fun r7 S8 hq9 => ?_)
    obtain ⟨z10, rfl, h11, h12, hmn13, rfl⟩ := hq9
    refine Or.inr (Or.inl ⟨rfl, ?_⟩)
    refine c_ge (i := 16) (v := 27) rfl ⟨by omega, by omega⟩ ⟨by omega, by omega⟩ (fun h14 => ?_) (fun h15 => ?_)
    · refine r_load (i := 27) (u := 0) (w := 2) rfl rfl rfl ?_
      refine r_const (i := 28) (u := 41) (z := 41) rfl rfl ?_
      refine r_call (i := 29) (u := 11) (v := 241) (w := 0) (b := 0) (na := 514) (C2 := xC241) (as := [(2, 43), vi 41]) (s := []) rfl rfl rfl rfl rfl rfl rfl (sp241 (c := 41) hI ⟨by omega, by omega⟩ (by omega)  (by omega)) (fun r16 S17 hq18 => ?_)
      obtain ⟨rfl, h19, sg20, wsg21, hI22, hF23, hR24⟩ := hq18
      have hF25 := hF.trans hF23 rfl rfl
      have hR26 := hR.trans hR24 rfl
      refine Or.inl ⟨rfl, ?_⟩
      refine r_load (i := 30) (u := 0) (w := 2) rfl rfl rfl ?_
      refine r_load (i := 31) (u := 0) (w := 2) rfl rfl rfl ?_
      refine r_getf (i := 32) (v := 15) (w := 11) (x := (2, 56)) rfl ly43 rfl rfl fun _ => ?_
      refine r_load (i := 33) (u := 1) (w := 0) rfl rfl rfl ?_
      refine a_int (i := 34) rfl ly56 rfl (by omega) (by omega) fun h28 => ?_
      have h29 := hI22.a ta56 m.toNat
      have h30 : S17.a 56 m.toNat = S.a 56 m.toNat := hF23.a rfl _
      have h31 : S.a 56 m.toNat = S0.a 56 m.toNat := hF.a rfl _
      have h32 := hI22.f tf43_51
      refine r_call (i := 35) (u := 11) (v := 247) (w := 0) (b := 0) (na := 514) (C2 := xC247) (as := [(2, 43), vi (S17.a 56 m.toNat)]) (s := []) rfl rfl rfl rfl rfl rfl rfl (sp247 (k := S17.a 56 m.toNat) hI22 ⟨by omega, by omega⟩ (by omega)  (by omega)) (fun r33 S34 hq35 => ?_)
      obtain ⟨rfl, h36, h37, wkd38, hI39, hF40, hR41⟩ := hq35
      have hF42 := hF25.trans hF40 rfl rfl
      have hR43 := hR26.trans hR41 rfl
      refine Or.inl ⟨rfl, ?_⟩
      have hr9 := hF42.a (b := 56) rfl m.toNat
      have h44 := hI39.f tf43_51
      have h45 := hI39.a ta56 m.toNat
      have h46 : S34.a 56 m.toNat = S17.a 56 m.toNat := hF40.a rfl _
      have h47 : S17.a 56 m.toNat = S.a 56 m.toNat := hF23.a rfl _
      have h48 : S.a 56 m.toNat = S0.a 56 m.toNat := hF.a rfl _
      have h49 := hI39.a ta55 m.toNat
      have h50 : S34.a 55 m.toNat = S17.a 55 m.toNat := hF40.a rfl _
      have h51 : S17.a 55 m.toNat = S.a 55 m.toNat := hF23.a rfl _
      have h52 : S.a 55 m.toNat = S0.a 55 m.toNat := hF.a rfl _
      have h53 := hI39.a ta56 m.toNat
      exact r_ret0 (i := 36) rfl ⟨rfl, (by omega), (by omega), (by exact dsM_e q_1 (by have h9 := hmn_of hmn13 (by omega) (by omega); rw [show S.a 55 m.toNat = S0.a 55 m.toNat from hF.a rfl _] at h9; omega) wsg21 wkd38 (show _ = S0.a 56 m.toNat by omega) ((pkR_fr hF23 rfl).trans (pkR_fr hF rfl))), hI39, hF42, hR43⟩
    · refine r_load (i := 17) (u := 0) (w := 2) rfl rfl rfl ?_
      refine r_load (i := 18) (u := 0) (w := 2) rfl rfl rfl ?_
      refine r_getf (i := 19) (v := 14) (w := 11) (x := (2, 55)) rfl ly43 rfl rfl fun _ => ?_
      refine r_load (i := 20) (u := 1) (w := 0) rfl rfl rfl ?_
      refine a_int (i := 21) rfl ly55 rfl (by omega) (by omega) fun h55 => ?_
      have h56 := hI.a ta55 m.toNat
      have kp57 := hI.k55 m.toNat
      refine r_load (i := 22) (u := 3) (w := 0) rfl rfl rfl ?_
      have kk9 := kpu hI m.toNat k (by omega) (by omega)
      refine r_call (i := 23) (u := 65535) (v := 229) (w := 0) (b := 2) (na := 514) (C2 := xC229) (as := [vi (S.a 55 m.toNat), vi k]) (s := [(2, 43)]) rfl rfl rfl rfl rfl rfl rfl (sp229 (a := S.a 55 m.toNat) (k := k) hI ⟨by omega, by omega⟩ ⟨by omega, by omega⟩   (by omega)) (fun r58 S59 hq60 => ?_)
      obtain ⟨z61, rfl, h62, h63, h64, rfl⟩ := hq60
      refine Or.inr (Or.inl ⟨rfl, ?_⟩)
      refine r_call (i := 24) (u := 11) (v := 247) (w := 0) (b := 0) (na := 514) (C2 := xC247) (as := [(2, 43), vi z61]) (s := []) rfl rfl rfl rfl rfl rfl rfl (sp247 (k := z61) hI ⟨by omega, by omega⟩ (by omega)  (by omega)) (fun r65 S66 hq67 => ?_)
      obtain ⟨rfl, h68, h69, wkd70, hI71, hF72, hR73⟩ := hq67
      have hF74 := hF.trans hF72 rfl rfl
      have hR75 := hR.trans hR73 rfl
      refine Or.inl ⟨rfl, ?_⟩
      refine r_iinc (i := 25) (u := 1) (v := 3) (s := 1) (L1 := [some ((2, 43)), some (vi m), some (vi cb), some (vi (k + 1))]) rfl rfl rfl rfl rfl ?_
      refine r_goto (i := 26) (v := 10) rfl ?_
      have h76 := hI71.f tf43_51
      exact ih S66 hI71 hF74 hR75 (k + 1) ⟨by omega, by omega⟩ (by omega) (by exact dsM_s q_1 (by omega) wkd70 (by rw [show S0.a 55 m.toNat = S.a 55 m.toNat from (hF.a rfl _).symm]; unfold dg; omega) (pkR_fr hF rfl)) (by have h9 := hmn_of hmn13 (by omega) (by omega); rw [show S.a 55 m.toNat = S0.a 55 m.toNat from hF.a rfl _] at h9; omega) (by omega)
/-- ProxyForgeModel.spellDescriptor -/
theorem sp246 {G : xk} {S : yS} {d : Nat} (hI : yI S) {m : Int} (h_m : 0 ≤ m ∧ m ≤ 59) {cb : Int} (h_cb : 0 ≤ cb ∧ cb ≤ 1) (p_0 : S.f 43 51 = 0) (hd : 7 ≤ d) : yT xPr G LY xC246 0 [some ((2, 43)), some (vi m), some (vi cb)] [] S d (fun r S' => r = (0, (0, 0)) ∧ (1 ≤ S'.f 43 51 ∧ S'.f 43 51 ≤ 142 + 13 * cb) ∧ (S.a 56 m.toNat = 0 → S'.f 43 51 ≤ 115 + 13 * cb) ∧ wdM S' = wdM S ++ dsL (pkR 48 S) (if cb = 0 then [] else strl 11) (S.a 55 m.toNat) (S.a 56 m.toNat) ∧ yI S' ∧ yFr [(43, 51)] [77] S S' ∧ yRm [] S S') := by
  refine yT_pad 1 ?_
  show yT xPr G LY xC246 0 [some ((2, 43)), some (vi m), some (vi cb), none] [] S d _
  obtain ⟨d, rfl⟩ : ∃ q, d = q + 1 := ⟨d - 1, by omega⟩
  have hF : yFr [(43, 51)] [77] S S := yFr.refl S
  have hR : yRm [] S S := yRm.refl S
  have h1 := hI.f tf43_51
  refine r_load (i := 0) (u := 0) (w := 2) rfl rfl rfl ?_
  refine r_const (i := 1) (u := 40) (z := 40) rfl rfl ?_
  refine r_call (i := 2) (u := 11) (v := 241) (w := 0) (b := 0) (na := 514) (C2 := xC241) (as := [(2, 43), vi 40]) (s := []) rfl rfl rfl rfl rfl rfl rfl (sp241 (c := 40) hI ⟨by omega, by omega⟩ (by omega)  (by omega)) (fun r2 S3 hq4 => ?_)
  obtain ⟨rfl, h5, sg6, wsg7, hI8, hF9, hR10⟩ := hq4
  have hF11 := hF.trans hF9 rfl rfl
  have hR12 := hR.trans hR10 rfl
  refine Or.inl ⟨rfl, ?_⟩
  refine r_load (i := 3) (u := 2) (w := 0) rfl rfl rfl ?_
  refine z_eq (i := 4) (v := 8) rfl ⟨by omega, by omega⟩ (fun h13 => ?_) (fun h14 => ?_)
  · refine r_const (i := 8) (u := 0) (z := 0) rfl rfl ?_
    refine r_store (i := 9) (u := 3) (w := 0) (L1 := [some ((2, 43)), some (vi m), some (vi cb), some (vi 0)]) rfl rfl rfl rfl ?_
    have h15 := hI8.f tf43_51
    exact lp246_10 h_m h_cb p_0 hd _ S3 hI8 hF11 hR12 0 ⟨by omega, by omega⟩ (by omega) (by exact dsM_0 wsg7 (by omega)) (by exact hmn_rg.1) (Int.lt_succ_toNat _)
  · refine r_load (i := 5) (u := 0) (w := 2) rfl rfl rfl ?_
    refine r_str (i := 6) (v := 47) rfl ?_
    have h16 := slv47
    have h17 := hI8.f tf43_51
    refine r_call (i := 7) (u := 11) (v := 245) (w := 0) (b := 0) (na := 770) (C2 := xC245) (as := [(2, 43), (6, 47)]) (s := []) rfl rfl rfl rfl rfl rfl rfl (sp245 (s := 47) hI8 ⟨by decide, by decide⟩ (by omega)  (by omega)) (fun r18 S19 hq20 => ?_)
    obtain ⟨rfl, h21, sp22, wsp23, hI24, hF25, hR26⟩ := hq20
    have hF27 := hF11.trans hF25 rfl rfl
    have hR28 := hR12.trans hR26 rfl
    refine Or.inl ⟨rfl, ?_⟩
    refine r_const (i := 8) (u := 0) (z := 0) rfl rfl ?_
    refine r_store (i := 9) (u := 3) (w := 0) (L1 := [some ((2, 43)), some (vi m), some (vi cb), some (vi 0)]) rfl rfl rfl rfl ?_
    have h29 := hI24.f tf43_51
    exact lp246_10 h_m h_cb p_0 hd _ S19 hI24 hF27 hR28 0 ⟨by omega, by omega⟩ (by omega) (by exact dsM_1 wsg7 wsp23 (by omega)) (by exact hmn_rg.1) (Int.lt_succ_toNat _)
theorem lp199_T_2 {G : xk} {d : Nat} {S0 : yS} {w0 : Int} (h_w0 : 1 ≤ w0 ∧ w0 ≤ 1) {a : Int} (h_a : 0 ≤ a ∧ a ≤ 22000) {b : Int} (h_b : 0 ≤ b ∧ b ≤ 1200) (p_0 : S0.f 43 49 ≤ 1198) (hd : 0 ≤ d) : ∀ (n : Nat), ∀ (S : yS) (hI : yI S) (hF : yFr [(43, 49)] [73, 74, 75] S0 S) (hR : yRm [] S0 S) (e : Int) (h_e : 1 ≤ e ∧ e ≤ 1199) (q_0 : S = S0) (q_1 : wNE S w0 a b e) (q_2 : S.f 43 49 ≤ 1198) (q_3 : e ≤ S.f 43 49 + 1) (hn : 1200 - e < (n : Nat)), yT xPr G LY xC199 2 [some ((2, 43)), some (vi w0), some (vi a), some (vi b), some (vi e)] [] S d (fun r S' => ∃ z : Int, r = (1, vi z) ∧ 1 ≤ z ∧ z ≤ 1199 ∧ wEN S0 S' w0 a b z ∧ yI S' ∧ yFr [(43, 49)] [73, 74, 75] S0 S' ∧ yRm [] S0 S') := by
  intro n
  induction n with
  | zero => intro S hI hF hR e h_e q_0 q_1 q_2 q_3 hn; exact absurd hn (by omega)
  | succ n ih =>
    intro S hI hF hR e h_e q_0 q_1 q_2 q_3 hn
    have h1 := hI.f tf43_49
    refine r_load (i := 2) (u := 4) (w := 0) rfl rfl rfl ?_
    refine r_load (i := 3) (u := 0) (w := 2) rfl rfl rfl ?_
    refine r_getf (i := 4) (v := 49) (w := 11) (x := vi (S.f 43 49)) rfl ly43 rfl rfl fun h2 => ?_
    have h2 : Rg (S.f 43 49) := h2
    refine c_gt (i := 5) (v := 28) rfl ⟨by omega, by omega⟩ ⟨by omega, by omega⟩ (fun h3 => ?_) (fun h4 => ?_)
    · refine r_load (i := 28) (u := 0) (w := 2) rfl rfl rfl ?_
      refine r_dup (i := 29) rfl rfl ?_
      refine r_getf (i := 30) (v := 49) (w := 11) (x := vi (S.f 43 49)) rfl ly43 rfl rfl fun h5 => ?_
      have h5 : Rg (S.f 43 49) := h5
      refine r_const (i := 31) (u := 1) (z := 1) rfl rfl ?_
      refine r_iadd (i := 32) rfl ?_
      refine r_putI (i := 33) (v := 49) (w := 11) rfl ly43 rfl ⟨by omega, by omega⟩ ?_
      have hI7 := hI.setf (b := 43) (w := 49) (z := (S.f 43 49) + 1) tf43_49 rfl (by omega) (by omega)
      have hF9 := hF.setf (b := 43) (w := 49) (z := (S.f 43 49) + 1) rfl
      have hR10 := hR.setf (b := 43) (w := 49) (z := (S.f 43 49) + 1)
      refine yT_gen (fun S6 hS8 => ?_)
      rw [hS8] at hI7 hF9 hR10 
      refine r_load (i := 34) (u := 0) (w := 2) rfl rfl rfl ?_
      refine r_getf (i := 35) (v := 44) (w := 11) (x := (2, 73)) rfl ly43 rfl rfl fun _ => ?_
      refine r_load (i := 36) (u := 0) (w := 2) rfl rfl rfl ?_
      have h12 := hI7.f tf43_49
      have h13 : S6.f 43 49 = (S.f 43 49) + 1 := by rw [← hS8]; exact ysf_eq
      refine r_getf (i := 37) (v := 49) (w := 11) (x := vi (S6.f 43 49)) rfl ly43 rfl rfl fun h14 => ?_
      have h14 : Rg (S6.f 43 49) := h14
      refine r_load (i := 38) (u := 1) (w := 0) rfl rfl rfl ?_
      refine s_int (i := 39) rfl ly73 rfl (by omega) (by omega) ⟨by omega, by omega⟩ ?_
      have hI16 := hI7.seta (b := 73) (j := (S6.f 43 49).toNat) (z := w0) ta73 rfl (by omega) (by omega)
      have hF18 := hF9.seta (b := 73) (j := (S6.f 43 49).toNat) (z := w0) rfl
      have hR19 := hR10.seta (b := 73) (j := (S6.f 43 49).toNat) (z := w0)
      refine yT_gen (fun S15 hS17 => ?_)
      rw [hS17] at hI16 hF18 hR19 
      refine r_load (i := 40) (u := 0) (w := 2) rfl rfl rfl ?_
      refine r_getf (i := 41) (v := 45) (w := 11) (x := (2, 74)) rfl ly43 rfl rfl fun _ => ?_
      refine r_load (i := 42) (u := 0) (w := 2) rfl rfl rfl ?_
      have h21 := hI16.f tf43_49
      have h22 : S15.f 43 49 = S6.f 43 49 := by rw [← hS17]; rfl
      have h23 : S6.f 43 49 = (S.f 43 49) + 1 := by rw [← hS8]; exact ysf_eq
      refine r_getf (i := 43) (v := 49) (w := 11) (x := vi (S15.f 43 49)) rfl ly43 rfl rfl fun h24 => ?_
      have h24 : Rg (S15.f 43 49) := h24
      refine r_load (i := 44) (u := 2) (w := 0) rfl rfl rfl ?_
      refine s_int (i := 45) rfl ly74 rfl (by omega) (by omega) ⟨by omega, by omega⟩ ?_
      have hI26 := hI16.seta (b := 74) (j := (S15.f 43 49).toNat) (z := a) ta74 rfl (by omega) (by omega)
      have hF28 := hF18.seta (b := 74) (j := (S15.f 43 49).toNat) (z := a) rfl
      have hR29 := hR19.seta (b := 74) (j := (S15.f 43 49).toNat) (z := a)
      refine yT_gen (fun S25 hS27 => ?_)
      rw [hS27] at hI26 hF28 hR29 
      refine r_load (i := 46) (u := 0) (w := 2) rfl rfl rfl ?_
      refine r_getf (i := 47) (v := 46) (w := 11) (x := (2, 75)) rfl ly43 rfl rfl fun _ => ?_
      refine r_load (i := 48) (u := 0) (w := 2) rfl rfl rfl ?_
      have h31 := hI26.f tf43_49
      have h32 : S25.f 43 49 = S15.f 43 49 := by rw [← hS27]; rfl
      have h33 : S15.f 43 49 = S6.f 43 49 := by rw [← hS17]; rfl
      have h34 : S6.f 43 49 = (S.f 43 49) + 1 := by rw [← hS8]; exact ysf_eq
      refine r_getf (i := 49) (v := 49) (w := 11) (x := vi (S25.f 43 49)) rfl ly43 rfl rfl fun h35 => ?_
      have h35 : Rg (S25.f 43 49) := h35
      refine r_load (i := 50) (u := 3) (w := 0) rfl rfl rfl ?_
      refine s_int (i := 51) rfl ly75 rfl (by omega) (by omega) ⟨by omega, by omega⟩ ?_
      have hI37 := hI26.seta (b := 75) (j := (S25.f 43 49).toNat) (z := b) ta75 rfl (by omega) (by omega)
      have hF39 := hF28.seta (b := 75) (j := (S25.f 43 49).toNat) (z := b) rfl
      have hR40 := hR29.seta (b := 75) (j := (S25.f 43 49).toNat) (z := b)
      refine yT_gen (fun S36 hS38 => ?_)
      rw [hS38] at hI37 hF39 hR40 
      refine r_load (i := 52) (u := 0) (w := 2) rfl rfl rfl ?_
      have h41 := hI37.f tf43_49
      have h42 : S36.f 43 49 = S25.f 43 49 := by rw [← hS38]; rfl
      have h43 : S25.f 43 49 = S15.f 43 49 := by rw [← hS27]; rfl
      have h44 : S15.f 43 49 = S6.f 43 49 := by rw [← hS17]; rfl
      have h45 : S6.f 43 49 = (S.f 43 49) + 1 := by rw [← hS8]; exact ysf_eq
      refine r_getf (i := 53) (v := 49) (w := 11) (x := vi (S36.f 43 49)) rfl ly43 rfl rfl fun h46 => ?_
      have h46 : Rg (S36.f 43 49) := h46
      exact r_retI (i := 54) rfl ⟨S36.f 43 49, rfl, by omega, by omega, (by exact (wEN_new (w := w0) (a := a) (b := b) (S' := S36) q_0 q_1 (by omega) (by omega) (by subst_vars; rfl) (fun j => by subst_vars; rfl) (fun j => by subst_vars; rfl) (fun j => by subst_vars; rfl))), hI37, hF39, hR40⟩
    · refine r_load (i := 6) (u := 0) (w := 2) rfl rfl rfl ?_
      refine r_getf (i := 7) (v := 44) (w := 11) (x := (2, 73)) rfl ly43 rfl rfl fun _ => ?_
      refine r_load (i := 8) (u := 4) (w := 0) rfl rfl rfl ?_
      refine a_int (i := 9) rfl ly73 rfl (by omega) (by omega) fun h48 => ?_
      have h49 := hI.a ta73 e.toNat
      refine r_load (i := 10) (u := 1) (w := 0) rfl rfl rfl ?_
      refine c_ne (i := 11) (v := 26) rfl ⟨by omega, by omega⟩ ⟨by omega, by omega⟩ (fun h50 => ?_) (fun h51 => ?_)
      · refine r_iinc (i := 26) (u := 1) (v := 4) (s := 1) (L1 := [some ((2, 43)), some (vi w0), some (vi a), some (vi b), some (vi (e + 1))]) rfl rfl rfl rfl rfl ?_
        refine r_goto (i := 27) (v := 2) rfl ?_
        exact ih S hI hF hR (e + 1) ⟨by omega, by omega⟩ (by first | rfl | assumption) (by first | exact wNE_1 | exact wNE_s q_1 (by omega) (fun h9 => by omega)) (by omega) (by omega) (by omega)
      · refine r_load (i := 12) (u := 0) (w := 2) rfl rfl rfl ?_
        refine r_getf (i := 13) (v := 45) (w := 11) (x := (2, 74)) rfl ly43 rfl rfl fun _ => ?_
        refine r_load (i := 14) (u := 4) (w := 0) rfl rfl rfl ?_
        refine a_int (i := 15) rfl ly74 rfl (by omega) (by omega) fun h53 => ?_
        have h54 := hI.a ta74 e.toNat
        refine r_load (i := 16) (u := 2) (w := 0) rfl rfl rfl ?_
        refine c_ne (i := 17) (v := 26) rfl ⟨by omega, by omega⟩ ⟨by omega, by omega⟩ (fun h55 => ?_) (fun h56 => ?_)
        · refine r_iinc (i := 26) (u := 1) (v := 4) (s := 1) (L1 := [some ((2, 43)), some (vi w0), some (vi a), some (vi b), some (vi (e + 1))]) rfl rfl rfl rfl rfl ?_
          refine r_goto (i := 27) (v := 2) rfl ?_
          exact ih S hI hF hR (e + 1) ⟨by omega, by omega⟩ (by first | rfl | assumption) (by first | exact wNE_1 | exact wNE_s q_1 (by omega) (fun h9 => by omega)) (by omega) (by omega) (by omega)
        · refine r_load (i := 18) (u := 0) (w := 2) rfl rfl rfl ?_
          refine r_getf (i := 19) (v := 46) (w := 11) (x := (2, 75)) rfl ly43 rfl rfl fun _ => ?_
          refine r_load (i := 20) (u := 4) (w := 0) rfl rfl rfl ?_
          refine a_int (i := 21) rfl ly75 rfl (by omega) (by omega) fun h58 => ?_
          have h59 := hI.a ta75 e.toNat
          refine r_load (i := 22) (u := 3) (w := 0) rfl rfl rfl ?_
          refine c_ne (i := 23) (v := 26) rfl ⟨by omega, by omega⟩ ⟨by omega, by omega⟩ (fun h60 => ?_) (fun h61 => ?_)
          · refine r_iinc (i := 26) (u := 1) (v := 4) (s := 1) (L1 := [some ((2, 43)), some (vi w0), some (vi a), some (vi b), some (vi (e + 1))]) rfl rfl rfl rfl rfl ?_
            refine r_goto (i := 27) (v := 2) rfl ?_
            exact ih S hI hF hR (e + 1) ⟨by omega, by omega⟩ (by first | rfl | assumption) (by first | exact wNE_1 | exact wNE_s q_1 (by omega) (fun h9 => by omega)) (by omega) (by omega) (by omega)
          · refine r_load (i := 24) (u := 4) (w := 0) rfl rfl rfl ?_
            exact r_retI (i := 25) rfl ⟨e, rfl, by omega, by omega, (by exact (wEN_hit (w := w0) (a := a) (b := b) (e := e) q_0 (by omega) (by omega) (by omega) (by omega) (by omega))), hI, hF, hR⟩
/-- ProxyForgeModel.entry -/
theorem sp199_T {G : xk} {S : yS} {d : Nat} (hI : yI S) {w0 : Int} (h_w0 : 1 ≤ w0 ∧ w0 ≤ 1) {a : Int} (h_a : 0 ≤ a ∧ a ≤ 22000) {b : Int} (h_b : 0 ≤ b ∧ b ≤ 1200) (p_0 : S.f 43 49 ≤ 1198) (hd : 0 ≤ d) : yT xPr G LY xC199 0 [some ((2, 43)), some (vi w0), some (vi a), some (vi b)] [] S d (fun r S' => ∃ z : Int, r = (1, vi z) ∧ 1 ≤ z ∧ z ≤ 1199 ∧ wEN S S' w0 a b z ∧ yI S' ∧ yFr [(43, 49)] [73, 74, 75] S S' ∧ yRm [] S S') := by
  refine yT_pad 1 ?_
  show yT xPr G LY xC199 0 [some ((2, 43)), some (vi w0), some (vi a), some (vi b), none] [] S d _
  have hF : yFr [(43, 49)] [73, 74, 75] S S := yFr.refl S
  have hR : yRm [] S S := yRm.refl S
  have h1 := hI.f tf43_49
  refine r_const (i := 0) (u := 1) (z := 1) rfl rfl ?_
  refine r_store (i := 1) (u := 4) (w := 0) (L1 := [some ((2, 43)), some (vi w0), some (vi a), some (vi b), some (vi 1)]) rfl rfl rfl rfl ?_
  exact lp199_T_2 h_w0 h_a h_b p_0 hd _ S hI hF hR 1 ⟨by omega, by omega⟩ (by first | rfl | assumption) (by first | exact wNE_1 | exact wNE_s q_1 (by omega) (fun h9 => by omega)) (by omega) (by omega) (Int.lt_succ_toNat _)
theorem lp199_2 {G : xk} {d : Nat} {S0 : yS} {w0 : Int} (h_w0 : 2 ≤ w0 ∧ w0 ≤ 12) {a : Int} (h_a : 0 ≤ a ∧ a ≤ 22000) {b : Int} (h_b : 0 ≤ b ∧ b ≤ 1200) (p_0 : wpsi S0 ≤ 1150) (hd : 0 ≤ d) : ∀ (n : Nat), ∀ (S : yS) (hI : yI S) (hF : yFr [(43, 49)] [73, 74, 75] S0 S) (hR : yRm [] S0 S) (e_wLV : wLV S) (e : Int) (h_e : 1 ≤ e ∧ e ≤ 1199) (q_0 : S = S0) (q_1 : wNE S w0 a b e) (q_2 : S.f 43 49 ≤ 1198) (q_3 : e ≤ S.f 43 49 + 1) (hn : 1200 - e < (n : Nat)), yT xPr G LY xC199 2 [some ((2, 43)), some (vi w0), some (vi a), some (vi b), some (vi e)] [] S d (fun r S' => ∃ z : Int, r = (1, vi z) ∧ 1 ≤ z ∧ z ≤ 1199 ∧ wphi S' ≤ wphi S0 + 5 ∧ wpsi S' ≤ wpsi S0 + 1 ∧ (w0 = 7 → b = 0 → ∀ c : Nat, c ∈ wCL → wfm S0 a c → wphi S' ≤ wphi S0 ∧ wpsi S' ≤ wpsi S0) ∧ meQ S0 S' w0 a b z ∧ wLV S' ∧ yI S' ∧ yFr [(43, 49)] [73, 74, 75] S0 S' ∧ yRm [] S0 S') := by
  intro n
  induction n with
  | zero => intro S hI hF hR e_wLV e h_e q_0 q_1 q_2 q_3 hn; exact absurd hn (by omega)
  | succ n ih =>
    intro S hI hF hR e_wLV e h_e q_0 q_1 q_2 q_3 hn
    have h1 := hI.f tf43_49
    refine r_load (i := 2) (u := 4) (w := 0) rfl rfl rfl ?_
    refine r_load (i := 3) (u := 0) (w := 2) rfl rfl rfl ?_
    refine r_getf (i := 4) (v := 49) (w := 11) (x := vi (S.f 43 49)) rfl ly43 rfl rfl fun h2 => ?_
    have h2 : Rg (S.f 43 49) := h2
    refine c_gt (i := 5) (v := 28) rfl ⟨by omega, by omega⟩ ⟨by omega, by omega⟩ (fun h3 => ?_) (fun h4 => ?_)
    · refine r_load (i := 28) (u := 0) (w := 2) rfl rfl rfl ?_
      refine r_dup (i := 29) rfl rfl ?_
      refine r_getf (i := 30) (v := 49) (w := 11) (x := vi (S.f 43 49)) rfl ly43 rfl rfl fun h5 => ?_
      have h5 : Rg (S.f 43 49) := h5
      refine r_const (i := 31) (u := 1) (z := 1) rfl rfl ?_
      refine r_iadd (i := 32) rfl ?_
      refine r_putI (i := 33) (v := 49) (w := 11) rfl ly43 rfl ⟨by omega, by omega⟩ ?_
      have hI7 := hI.setf (b := 43) (w := 49) (z := (S.f 43 49) + 1) tf43_49 rfl (by omega) (by omega)
      have hF9 := hF.setf (b := 43) (w := 49) (z := (S.f 43 49) + 1) rfl
      have hR10 := hR.setf (b := 43) (w := 49) (z := (S.f 43 49) + 1)
      refine yT_gen (fun S6 hS8 => ?_)
      rw [hS8] at hI7 hF9 hR10 
      refine r_load (i := 34) (u := 0) (w := 2) rfl rfl rfl ?_
      refine r_getf (i := 35) (v := 44) (w := 11) (x := (2, 73)) rfl ly43 rfl rfl fun _ => ?_
      refine r_load (i := 36) (u := 0) (w := 2) rfl rfl rfl ?_
      have h12 := hI7.f tf43_49
      have h13 : S6.f 43 49 = (S.f 43 49) + 1 := by rw [← hS8]; exact ysf_eq
      refine r_getf (i := 37) (v := 49) (w := 11) (x := vi (S6.f 43 49)) rfl ly43 rfl rfl fun h14 => ?_
      have h14 : Rg (S6.f 43 49) := h14
      refine r_load (i := 38) (u := 1) (w := 0) rfl rfl rfl ?_
      refine s_int (i := 39) rfl ly73 rfl (by omega) (by omega) ⟨by omega, by omega⟩ ?_
      have hI16 := hI7.seta (b := 73) (j := (S6.f 43 49).toNat) (z := w0) ta73 rfl (by omega) (by omega)
      have hF18 := hF9.seta (b := 73) (j := (S6.f 43 49).toNat) (z := w0) rfl
      have hR19 := hR10.seta (b := 73) (j := (S6.f 43 49).toNat) (z := w0)
      refine yT_gen (fun S15 hS17 => ?_)
      rw [hS17] at hI16 hF18 hR19 
      refine r_load (i := 40) (u := 0) (w := 2) rfl rfl rfl ?_
      refine r_getf (i := 41) (v := 45) (w := 11) (x := (2, 74)) rfl ly43 rfl rfl fun _ => ?_
      refine r_load (i := 42) (u := 0) (w := 2) rfl rfl rfl ?_
      have h21 := hI16.f tf43_49
      have h22 : S15.f 43 49 = S6.f 43 49 := by rw [← hS17]; rfl
      have h23 : S6.f 43 49 = (S.f 43 49) + 1 := by rw [← hS8]; exact ysf_eq
      refine r_getf (i := 43) (v := 49) (w := 11) (x := vi (S15.f 43 49)) rfl ly43 rfl rfl fun h24 => ?_
      have h24 : Rg (S15.f 43 49) := h24
      refine r_load (i := 44) (u := 2) (w := 0) rfl rfl rfl ?_
      refine s_int (i := 45) rfl ly74 rfl (by omega) (by omega) ⟨by omega, by omega⟩ ?_
      have hI26 := hI16.seta (b := 74) (j := (S15.f 43 49).toNat) (z := a) ta74 rfl (by omega) (by omega)
      have hF28 := hF18.seta (b := 74) (j := (S15.f 43 49).toNat) (z := a) rfl
      have hR29 := hR19.seta (b := 74) (j := (S15.f 43 49).toNat) (z := a)
      refine yT_gen (fun S25 hS27 => ?_)
      rw [hS27] at hI26 hF28 hR29 
      refine r_load (i := 46) (u := 0) (w := 2) rfl rfl rfl ?_
      refine r_getf (i := 47) (v := 46) (w := 11) (x := (2, 75)) rfl ly43 rfl rfl fun _ => ?_
      refine r_load (i := 48) (u := 0) (w := 2) rfl rfl rfl ?_
      have h31 := hI26.f tf43_49
      have h32 : S25.f 43 49 = S15.f 43 49 := by rw [← hS27]; rfl
      have h33 : S15.f 43 49 = S6.f 43 49 := by rw [← hS17]; rfl
      have h34 : S6.f 43 49 = (S.f 43 49) + 1 := by rw [← hS8]; exact ysf_eq
      refine r_getf (i := 49) (v := 49) (w := 11) (x := vi (S25.f 43 49)) rfl ly43 rfl rfl fun h35 => ?_
      have h35 : Rg (S25.f 43 49) := h35
      refine r_load (i := 50) (u := 3) (w := 0) rfl rfl rfl ?_
      refine s_int (i := 51) rfl ly75 rfl (by omega) (by omega) ⟨by omega, by omega⟩ ?_
      have hI37 := hI26.seta (b := 75) (j := (S25.f 43 49).toNat) (z := b) ta75 rfl (by omega) (by omega)
      have hF39 := hF28.seta (b := 75) (j := (S25.f 43 49).toNat) (z := b) rfl
      have hR40 := hR29.seta (b := 75) (j := (S25.f 43 49).toNat) (z := b)
      refine yT_gen (fun S36 hS38 => ?_)
      rw [hS38] at hI37 hF39 hR40 
      refine r_load (i := 52) (u := 0) (w := 2) rfl rfl rfl ?_
      have h41 := hI37.f tf43_49
      have h42 : S36.f 43 49 = S25.f 43 49 := by rw [← hS38]; rfl
      have h43 : S25.f 43 49 = S15.f 43 49 := by rw [← hS27]; rfl
      have h44 : S15.f 43 49 = S6.f 43 49 := by rw [← hS17]; rfl
      have h45 : S6.f 43 49 = (S.f 43 49) + 1 := by rw [← hS8]; exact ysf_eq
      refine r_getf (i := 53) (v := 49) (w := 11) (x := vi (S36.f 43 49)) rfl ly43 rfl rfl fun h46 => ?_
      have h46 : Rg (S36.f 43 49) := h46
      exact r_retI (i := 54) rfl ⟨S36.f 43 49, rfl, by omega, by omega, (by exact (wen_all (wEN_new (w := w0) (a := a) (b := b) (S' := S36) q_0 q_1 (by omega) (by omega) (by subst_vars; rfl) (fun j => by subst_vars; rfl) (fun j => by subst_vars; rfl) (fun j => by subst_vars; rfl)) (fun j => hF39.a rfl j) (fun j => hF39.a rfl j) (hF39.f rfl) (by rw [← q_0]; omega) (by omega)).1), (by exact (wen_all (wEN_new (w := w0) (a := a) (b := b) (S' := S36) q_0 q_1 (by omega) (by omega) (by subst_vars; rfl) (fun j => by subst_vars; rfl) (fun j => by subst_vars; rfl) (fun j => by subst_vars; rfl)) (fun j => hF39.a rfl j) (fun j => hF39.a rfl j) (hF39.f rfl) (by rw [← q_0]; omega) (by omega)).2.1), (by exact (wen_all (wEN_new (w := w0) (a := a) (b := b) (S' := S36) q_0 q_1 (by omega) (by omega) (by subst_vars; rfl) (fun j => by subst_vars; rfl) (fun j => by subst_vars; rfl) (fun j => by subst_vars; rfl)) (fun j => hF39.a rfl j) (fun j => hF39.a rfl j) (hF39.f rfl) (by rw [← q_0]; omega) (by omega)).2.2.2), (by rw [← q_0]; exact me_new q_1 (by omega) (by omega) (hI.f tf43_50).1 (by omega) (by omega) (by omega) (by omega) (by omega) (by subst hS8 hS17 hS27 hS38; rfl) (by subst hS8 hS17 hS27 hS38; rfl) (fun j => by subst hS8 hS17 hS27 hS38; rfl) (fun j => by subst hS8 hS17 hS27 hS38; rfl) (fun j => by subst hS8 hS17 hS27 hS38; rfl) (fun j => by subst hS8 hS17 hS27 hS38; rfl)), (by exact (wen_all (wEN_new (w := w0) (a := a) (b := b) (S' := S36) q_0 q_1 (by omega) (by omega) (by subst_vars; rfl) (fun j => by subst_vars; rfl) (fun j => by subst_vars; rfl) (fun j => by subst_vars; rfl)) (fun j => hF39.a rfl j) (fun j => hF39.a rfl j) (hF39.f rfl) (by rw [← q_0]; omega) (by omega)).2.2.1 (q_0 ▸ e_wLV) (hF39.f rfl)), hI37, hF39, hR40⟩
    · refine r_load (i := 6) (u := 0) (w := 2) rfl rfl rfl ?_
      refine r_getf (i := 7) (v := 44) (w := 11) (x := (2, 73)) rfl ly43 rfl rfl fun _ => ?_
      refine r_load (i := 8) (u := 4) (w := 0) rfl rfl rfl ?_
      refine a_int (i := 9) rfl ly73 rfl (by omega) (by omega) fun h48 => ?_
      have h49 := hI.a ta73 e.toNat
      refine r_load (i := 10) (u := 1) (w := 0) rfl rfl rfl ?_
      refine c_ne (i := 11) (v := 26) rfl ⟨by omega, by omega⟩ ⟨by omega, by omega⟩ (fun h50 => ?_) (fun h51 => ?_)
      · refine r_iinc (i := 26) (u := 1) (v := 4) (s := 1) (L1 := [some ((2, 43)), some (vi w0), some (vi a), some (vi b), some (vi (e + 1))]) rfl rfl rfl rfl rfl ?_
        refine r_goto (i := 27) (v := 2) rfl ?_
        exact ih S hI hF hR e_wLV (e + 1) ⟨by omega, by omega⟩ (by first | rfl | assumption) (by first | exact wNE_1 | exact wNE_s q_1 (by omega) (fun h9 => by omega)) (by omega) (by omega) (by omega)
      · refine r_load (i := 12) (u := 0) (w := 2) rfl rfl rfl ?_
        refine r_getf (i := 13) (v := 45) (w := 11) (x := (2, 74)) rfl ly43 rfl rfl fun _ => ?_
        refine r_load (i := 14) (u := 4) (w := 0) rfl rfl rfl ?_
        refine a_int (i := 15) rfl ly74 rfl (by omega) (by omega) fun h53 => ?_
        have h54 := hI.a ta74 e.toNat
        refine r_load (i := 16) (u := 2) (w := 0) rfl rfl rfl ?_
        refine c_ne (i := 17) (v := 26) rfl ⟨by omega, by omega⟩ ⟨by omega, by omega⟩ (fun h55 => ?_) (fun h56 => ?_)
        · refine r_iinc (i := 26) (u := 1) (v := 4) (s := 1) (L1 := [some ((2, 43)), some (vi w0), some (vi a), some (vi b), some (vi (e + 1))]) rfl rfl rfl rfl rfl ?_
          refine r_goto (i := 27) (v := 2) rfl ?_
          exact ih S hI hF hR e_wLV (e + 1) ⟨by omega, by omega⟩ (by first | rfl | assumption) (by first | exact wNE_1 | exact wNE_s q_1 (by omega) (fun h9 => by omega)) (by omega) (by omega) (by omega)
        · refine r_load (i := 18) (u := 0) (w := 2) rfl rfl rfl ?_
          refine r_getf (i := 19) (v := 46) (w := 11) (x := (2, 75)) rfl ly43 rfl rfl fun _ => ?_
          refine r_load (i := 20) (u := 4) (w := 0) rfl rfl rfl ?_
          refine a_int (i := 21) rfl ly75 rfl (by omega) (by omega) fun h58 => ?_
          have h59 := hI.a ta75 e.toNat
          refine r_load (i := 22) (u := 3) (w := 0) rfl rfl rfl ?_
          refine c_ne (i := 23) (v := 26) rfl ⟨by omega, by omega⟩ ⟨by omega, by omega⟩ (fun h60 => ?_) (fun h61 => ?_)
          · refine r_iinc (i := 26) (u := 1) (v := 4) (s := 1) (L1 := [some ((2, 43)), some (vi w0), some (vi a), some (vi b), some (vi (e + 1))]) rfl rfl rfl rfl rfl ?_
            refine r_goto (i := 27) (v := 2) rfl ?_
            exact ih S hI hF hR e_wLV (e + 1) ⟨by omega, by omega⟩ (by first | rfl | assumption) (by first | exact wNE_1 | exact wNE_s q_1 (by omega) (fun h9 => by omega)) (by omega) (by omega) (by omega)
          · refine r_load (i := 24) (u := 4) (w := 0) rfl rfl rfl ?_
            exact r_retI (i := 25) rfl ⟨e, rfl, by omega, by omega, (by exact (wen_all (wEN_hit (w := w0) (a := a) (b := b) (e := e) q_0 (by omega) (by omega) (by omega) (by omega) (by omega)) (fun j => hF.a rfl j) (fun j => hF.a rfl j) (hF.f rfl) (by rw [← q_0]; omega) (by omega)).1), (by exact (wen_all (wEN_hit (w := w0) (a := a) (b := b) (e := e) q_0 (by omega) (by omega) (by omega) (by omega) (by omega)) (fun j => hF.a rfl j) (fun j => hF.a rfl j) (hF.f rfl) (by rw [← q_0]; omega) (by omega)).2.1), (by exact (wen_all (wEN_hit (w := w0) (a := a) (b := b) (e := e) q_0 (by omega) (by omega) (by omega) (by omega) (by omega)) (fun j => hF.a rfl j) (fun j => hF.a rfl j) (hF.f rfl) (by rw [← q_0]; omega) (by omega)).2.2.2), (by rw [← q_0]; exact me_hit (by omega) (by omega) (by omega) (by omega) (by omega) (by omega) (by omega) (by omega) (by omega) (by omega)), e_wLV, hI, hF, hR⟩
/-- ProxyForgeModel.entry -/
theorem sp199 {G : xk} {S : yS} {d : Nat} (hI : yI S) {w0 : Int} (h_w0 : 2 ≤ w0 ∧ w0 ≤ 12) {a : Int} (h_a : 0 ≤ a ∧ a ≤ 22000) {b : Int} (h_b : 0 ≤ b ∧ b ≤ 1200) (p_0 : wpsi S ≤ 1150) (e_wLV : wLV S) (hd : 0 ≤ d) : yT xPr G LY xC199 0 [some ((2, 43)), some (vi w0), some (vi a), some (vi b)] [] S d (fun r S' => ∃ z : Int, r = (1, vi z) ∧ 1 ≤ z ∧ z ≤ 1199 ∧ wphi S' ≤ wphi S + 5 ∧ wpsi S' ≤ wpsi S + 1 ∧ (w0 = 7 → b = 0 → ∀ c : Nat, c ∈ wCL → wfm S a c → wphi S' ≤ wphi S ∧ wpsi S' ≤ wpsi S) ∧ meQ S S' w0 a b z ∧ wLV S' ∧ yI S' ∧ yFr [(43, 49)] [73, 74, 75] S S' ∧ yRm [] S S') := by
  refine yT_pad 1 ?_
  show yT xPr G LY xC199 0 [some ((2, 43)), some (vi w0), some (vi a), some (vi b), none] [] S d _
  have hF : yFr [(43, 49)] [73, 74, 75] S S := yFr.refl S
  have hR : yRm [] S S := yRm.refl S
  have pe9 := wpsi_en (S := S) (hI.f tf43_49).1
  refine r_const (i := 0) (u := 1) (z := 1) rfl rfl ?_
  refine r_store (i := 1) (u := 4) (w := 0) (L1 := [some ((2, 43)), some (vi w0), some (vi a), some (vi b), some (vi 1)]) rfl rfl rfl rfl ?_
  have h1 := hI.f tf43_49
  exact lp199_2 h_w0 h_a h_b p_0 hd _ S hI hF hR e_wLV 1 ⟨by omega, by omega⟩ (by first | rfl | assumption) (by first | exact wNE_1 | exact wNE_s q_1 (by omega) (fun h9 => by omega)) (by omega) (by omega) (Int.lt_succ_toNat _)
theorem lp251_29 {G : xk} {d : Nat} {S0 : yS} (p_0 : wphi S0 ≤ 20000) (p_1 : wpsi S0 ≤ 1140) (p_2 : 1 ≤ S0.f 43 51) (hd : 1 ≤ d + 1) {n1 : Int} (h_n1 : 1 ≤ n1 ∧ n1 ≤ 200) {e : Int} (h_e : 1 ≤ e ∧ e ≤ 1199) (no : Nat) (K : ∀ (S : yS) (hI : yI S) (hF : yFr [(43, 49), (43, 50), (43, 51)] [73, 74, 75, 76] S0 S) (hR : yRm [] S0 S) (e_wLV : wLV S) (n1 e : Int) (h_n1 : 1 ≤ n1 ∧ n1 ≤ 200) (h_e : 1 ≤ e ∧ e ≤ 1200) (q_0 : S = ysf S0 43 51 0) (q_1 : n1 = S0.f 43 51) (q_2 : wNM S n1 e) (q_3 : S.f 43 50 ≤ 20000) (q_4 : S.f 43 49 ≤ 1198) (q_5 : S.f 43 51 = 0) (hn : 1200 - e < (no : Nat)), yT xPr G LY xC251 8 [some ((2, 43)), some (vi n1), some (vi e), none, none] [] S (d + 1) (fun r S' => ∃ z : Int, r = (1, vi z) ∧ 1 ≤ z ∧ z ≤ 1199 ∧ wphi S' ≤ wphi S0 + 3 + S0.f 43 51 ∧ wpsi S' ≤ wpsi S0 + 1 ∧ wTXT S0 S' z ∧ S'.f 43 51 = 0 ∧ mtX S0 S' z ∧ wLV S' ∧ yI S' ∧ yFr [(43, 49), (43, 50), (43, 51)] [73, 74, 75, 76] S0 S' ∧ yRm [] S0 S')) (hm : 1200 - e < ((no + 1 : Nat) : Int)) : ∀ (n : Nat), ∀ (S : yS) (hI : yI S) (hF : yFr [(43, 49), (43, 50), (43, 51)] [73, 74, 75, 76] S0 S) (hR : yRm [] S0 S) (e_wLV : wLV S) (sm k : Int) (h_sm : 0 ≤ sm ∧ sm ≤ 1) (h_k : 0 ≤ k ∧ k ≤ 200) (q_0 : S = ysf S0 43 51 0) (q_1 : n1 = S0.f 43 51) (q_2 : wNM S n1 e) (q_3 : S.f 43 50 ≤ 20000) (q_4 : S.f 43 49 ≤ 1198) (q_5 : e ≤ S.f 43 49) (q_6 : S.a 73 e.toNat = 1) (q_7 : S.a 75 e.toNat = n1) (q_8 : sm = 1 → wPF S e k) (q_9 : sm = 0 → ¬ wMW S n1 e) (q_10 : S.f 43 51 = 0) (q_11 : k ≤ n1) (hn : 200 - k < (n : Nat)), yT xPr G LY xC251 29 [some ((2, 43)), some (vi n1), some (vi e), some (vi sm), some (vi k)] [] S (d + 1) (fun r S' => ∃ z : Int, r = (1, vi z) ∧ 1 ≤ z ∧ z ≤ 1199 ∧ wphi S' ≤ wphi S0 + 3 + S0.f 43 51 ∧ wpsi S' ≤ wpsi S0 + 1 ∧ wTXT S0 S' z ∧ S'.f 43 51 = 0 ∧ mtX S0 S' z ∧ wLV S' ∧ yI S' ∧ yFr [(43, 49), (43, 50), (43, 51)] [73, 74, 75, 76] S0 S' ∧ yRm [] S0 S') := by
  intro n
  induction n with
  | zero => intro S hI hF hR e_wLV sm k h_sm h_k q_0 q_1 q_2 q_3 q_4 q_5 q_6 q_7 q_8 q_9 q_10 q_11 hn; exact absurd hn (by omega)
  | succ n ih =>
    intro S hI hF hR e_wLV sm k h_sm h_k q_0 q_1 q_2 q_3 q_4 q_5 q_6 q_7 q_8 q_9 q_10 q_11 hn
    have h1 := hI.f tf43_50
    have h2 := hI.f tf43_49
    have h3 := hI.a ta73 e.toNat
    have h4 := hI.a ta75 e.toNat
    have h5 := hI.f tf43_51
    refine r_load (i := 29) (u := 4) (w := 0) rfl rfl rfl ?_
    refine r_load (i := 30) (u := 1) (w := 0) rfl rfl rfl ?_
    refine c_ge (i := 31) (v := 54) rfl ⟨by omega, by omega⟩ ⟨by omega, by omega⟩ (fun h6 => ?_) (fun h7 => ?_)
    · refine r_load (i := 54) (u := 3) (w := 0) rfl rfl rfl ?_
      refine z_eq (i := 55) (v := 58) rfl ⟨by omega, by omega⟩ (fun h8 => ?_) (fun h9 => ?_)
      · refine r_iinc (i := 58) (u := 1) (v := 2) (s := 1) (L1 := [some ((2, 43)), some (vi n1), some (vi (e + 1)), some (vi sm), some (vi k)]) rfl rfl rfl rfl rfl ?_
        refine r_goto (i := 59) (v := 8) rfl ?_
        refine yT_drop (L1 := [some ((2, 43)), some (vi n1), some (vi (e + 1)), none, none]) rfl ?_
        exact K S hI hF hR e_wLV n1 (e + 1) ⟨by omega, by omega⟩ ⟨by omega, by omega⟩ (by first | assumption | (subst_vars; rfl)) (by omega) (by first | exact wNM_1 | exact wNM_s q_2 (by omega) (wMW_k (by omega)) | exact wNM_s q_2 (by omega) (wMW_b (by omega)) | exact wNM_s q_2 (by omega) (q_9 (by omega))) (by omega) (by omega) (by omega) (by omega)
      · refine r_load (i := 56) (u := 2) (w := 0) rfl rfl rfl ?_
        exact r_retI (i := 57) rfl ⟨e, rfl, by omega, by omega, (by rw [q_0, wphiX.setf (S := S0) (b := 43) (w := 51) (z := 0) rfl]; omega), (by rw [q_0, wpsiX.setf (S := S0) (b := 43) (w := 51) (z := 0) rfl]; omega), (by exact wTX_hit q_0 q_1 (by omega) (by omega) (wMW_of (q_8 (by omega)) (by omega) q_6 q_7) q_2), (by omega), (by exact mt_hit q_0 q_1 (by omega) (by omega) (by omega) (by omega) (wMW_of (q_8 (by omega)) (by omega) q_6 q_7)), e_wLV, hI, hF, hR⟩
    · refine r_load (i := 32) (u := 3) (w := 0) rfl rfl rfl ?_
      refine z_eq (i := 33) (v := 54) rfl ⟨by omega, by omega⟩ (fun h10 => ?_) (fun h11 => ?_)
      · refine r_load (i := 54) (u := 3) (w := 0) rfl rfl rfl ?_
        refine z_eq (i := 55) (v := 58) rfl ⟨by omega, by omega⟩ (fun h12 => ?_) (fun h13 => ?_)
        · refine r_iinc (i := 58) (u := 1) (v := 2) (s := 1) (L1 := [some ((2, 43)), some (vi n1), some (vi (e + 1)), some (vi sm), some (vi k)]) rfl rfl rfl rfl rfl ?_
          refine r_goto (i := 59) (v := 8) rfl ?_
          refine yT_drop (L1 := [some ((2, 43)), some (vi n1), some (vi (e + 1)), none, none]) rfl ?_
          exact K S hI hF hR e_wLV n1 (e + 1) ⟨by omega, by omega⟩ ⟨by omega, by omega⟩ (by first | assumption | (subst_vars; rfl)) (by omega) (by first | exact wNM_1 | exact wNM_s q_2 (by omega) (wMW_k (by omega)) | exact wNM_s q_2 (by omega) (wMW_b (by omega)) | exact wNM_s q_2 (by omega) (q_9 (by omega))) (by omega) (by omega) (by omega) (by omega)
        · refine r_load (i := 56) (u := 2) (w := 0) rfl rfl rfl ?_
          exact r_retI (i := 57) rfl ⟨e, rfl, by omega, by omega, (by rw [q_0, wphiX.setf (S := S0) (b := 43) (w := 51) (z := 0) rfl]; omega), (by rw [q_0, wpsiX.setf (S := S0) (b := 43) (w := 51) (z := 0) rfl]; omega), (by exact wTX_hit q_0 q_1 (by omega) (by omega) (wMW_of (q_8 (by omega)) (by omega) q_6 q_7) q_2), (by omega), (by exact mt_hit q_0 q_1 (by omega) (by omega) (by omega) (by omega) (wMW_of (q_8 (by omega)) (by omega) q_6 q_7)), e_wLV, hI, hF, hR⟩
      · refine r_load (i := 34) (u := 0) (w := 2) rfl rfl rfl ?_
        refine r_getf (i := 35) (v := 47) (w := 11) (x := (2, 76)) rfl ly43 rfl rfl fun _ => ?_
        refine r_load (i := 36) (u := 0) (w := 2) rfl rfl rfl ?_
        refine r_getf (i := 37) (v := 45) (w := 11) (x := (2, 74)) rfl ly43 rfl rfl fun _ => ?_
        refine r_load (i := 38) (u := 2) (w := 0) rfl rfl rfl ?_
        refine a_int (i := 39) rfl ly74 rfl (by omega) (by omega) fun h16 => ?_
        have h17 := hI.a ta74 e.toNat
        refine r_load (i := 40) (u := 4) (w := 0) rfl rfl rfl ?_
        refine r_iadd (i := 41) rfl ?_
        refine a_int (i := 42) rfl ly76 rfl (by omega) (by omega) fun h18 => ?_
        have h19 := hI.a ta76 ((S.a 74 e.toNat) + k).toNat
        refine r_load (i := 43) (u := 0) (w := 2) rfl rfl rfl ?_
        refine r_getf (i := 44) (v := 48) (w := 11) (x := (2, 77)) rfl ly43 rfl rfl fun _ => ?_
        refine r_load (i := 45) (u := 4) (w := 0) rfl rfl rfl ?_
        refine a_int (i := 46) rfl ly77 rfl (by omega) (by omega) fun h21 => ?_
        have h22 := hI.a ta77 k.toNat
        have h23 : S.a 77 k.toNat = S0.a 77 k.toNat := hF.a rfl _
        refine c_ne (i := 47) (v := 50) rfl ⟨by omega, by omega⟩ ⟨by omega, by omega⟩ (fun h24 => ?_) (fun h25 => ?_)
        · refine r_const (i := 50) (u := 0) (z := 0) rfl rfl ?_
          refine r_store (i := 51) (u := 3) (w := 0) (L1 := [some ((2, 43)), some (vi n1), some (vi e), some (vi 0), some (vi k)]) rfl rfl rfl rfl ?_
          refine r_iinc (i := 52) (u := 1) (v := 4) (s := 1) (L1 := [some ((2, 43)), some (vi n1), some (vi e), some (vi 0), some (vi (k + 1))]) rfl rfl rfl rfl rfl ?_
          refine r_goto (i := 53) (v := 29) rfl ?_
          have h26 := hI.a ta73 e.toNat
          have h27 := hI.a ta75 e.toNat
          exact ih S hI hF hR e_wLV 0 (k + 1) ⟨by omega, by omega⟩ ⟨by omega, by omega⟩ (by assumption) (by omega) (by assumption) (by omega) (by omega) (by omega) (by omega) (by omega) (by intro hz; first | exact absurd hz (by omega) | exact wPF_0 | exact wPF_s (q_8 (by omega)) (by omega) (by omega)) (by intro hz; first | exact absurd hz (by omega) | exact wMW_l (k := k) (by omega) (by omega) (by omega)) (by omega) (by omega) (by omega)
        · refine r_const (i := 48) (u := 1) (z := 1) rfl rfl ?_
          refine r_goto (i := 49) (v := 51) rfl ?_
          refine r_store (i := 51) (u := 3) (w := 0) (L1 := [some ((2, 43)), some (vi n1), some (vi e), some (vi 1), some (vi k)]) rfl rfl rfl rfl ?_
          refine r_iinc (i := 52) (u := 1) (v := 4) (s := 1) (L1 := [some ((2, 43)), some (vi n1), some (vi e), some (vi 1), some (vi (k + 1))]) rfl rfl rfl rfl rfl ?_
          refine r_goto (i := 53) (v := 29) rfl ?_
          have h28 := hI.a ta73 e.toNat
          have h29 := hI.a ta75 e.toNat
          exact ih S hI hF hR e_wLV 1 (k + 1) ⟨by omega, by omega⟩ ⟨by omega, by omega⟩ (by assumption) (by omega) (by assumption) (by omega) (by omega) (by omega) (by omega) (by omega) (by intro hz; first | exact absurd hz (by omega) | exact wPF_0 | exact wPF_s (q_8 (by omega)) (by omega) (by omega)) (by intro hz; first | exact absurd hz (by omega) | exact wMW_l (k := k) (by omega) (by omega) (by omega)) (by omega) (by omega) (by omega)
theorem lp251_62 {G : xk} {d : Nat} {S0 : yS} (p_0 : wphi S0 ≤ 20000) (p_1 : wpsi S0 ≤ 1140) (p_2 : 1 ≤ S0.f 43 51) (hd : 1 ≤ d + 1) : ∀ (n : Nat), ∀ (S : yS) (hI : yI S) (hF : yFr [(43, 49), (43, 50), (43, 51)] [73, 74, 75, 76] S0 S) (hR : yRm [] S0 S) (e_wLV : wLV S) (n1 k : Int) (h_n1 : 1 ≤ n1 ∧ n1 ≤ 200) (h_k : 0 ≤ k ∧ k ≤ 200) (q_0 : S.f 43 51 = 0) (q_1 : n1 = S0.f 43 51) (q_2 : wNM S0 n1 (S0.f 43 49 + 1)) (q_3 : wCP S0 S k) (q_4 : k ≤ n1) (q_5 : S.f 43 50 ≤ 20000) (q_6 : S.f 43 49 ≤ 1198) (q_7 : S.f 43 49 = S0.f 43 49) (q_8 : S.f 43 50 = S0.f 43 50) (hn : 200 - k < (n : Nat)), yT xPr G LY xC251 62 [some ((2, 43)), some (vi n1), some (vi k), none, none] [] S (d + 1) (fun r S' => ∃ z : Int, r = (1, vi z) ∧ 1 ≤ z ∧ z ≤ 1199 ∧ wphi S' ≤ wphi S0 + 3 + S0.f 43 51 ∧ wpsi S' ≤ wpsi S0 + 1 ∧ wTXT S0 S' z ∧ S'.f 43 51 = 0 ∧ mtX S0 S' z ∧ wLV S' ∧ yI S' ∧ yFr [(43, 49), (43, 50), (43, 51)] [73, 74, 75, 76] S0 S' ∧ yRm [] S0 S') := by
  intro n
  induction n with
  | zero => intro S hI hF hR e_wLV n1 k h_n1 h_k q_0 q_1 q_2 q_3 q_4 q_5 q_6 q_7 q_8 hn; exact absurd hn (by omega)
  | succ n ih =>
    intro S hI hF hR e_wLV n1 k h_n1 h_k q_0 q_1 q_2 q_3 q_4 q_5 q_6 q_7 q_8 hn
    have h1 := hI.f tf43_51
    have h2 := hI.f tf43_50
    have h3 := hI.f tf43_49
    refine r_load (i := 62) (u := 2) (w := 0) rfl rfl rfl ?_
    refine r_load (i := 63) (u := 1) (w := 0) rfl rfl rfl ?_
    refine c_ge (i := 64) (v := 78) rfl ⟨by omega, by omega⟩ ⟨by omega, by omega⟩ (fun h4 => ?_) (fun h5 => ?_)
    · refine r_load (i := 78) (u := 0) (w := 2) rfl rfl rfl ?_
      refine r_dup (i := 79) rfl rfl ?_
      refine r_getf (i := 80) (v := 50) (w := 11) (x := vi (S.f 43 50)) rfl ly43 rfl rfl fun h6 => ?_
      have h6 : Rg (S.f 43 50) := h6
      refine r_load (i := 81) (u := 1) (w := 0) rfl rfl rfl ?_
      refine r_iadd (i := 82) rfl ?_
      refine r_putI (i := 83) (v := 50) (w := 11) rfl ly43 rfl ⟨by omega, by omega⟩ ?_
      have hI8 := hI.setf (b := 43) (w := 50) (z := (S.f 43 50) + n1) tf43_50 rfl (by omega) (by omega)
      have hF10 := hF.setf (b := 43) (w := 50) (z := (S.f 43 50) + n1) rfl
      have hR11 := hR.setf (b := 43) (w := 50) (z := (S.f 43 50) + n1)
      refine yT_gen (fun S7 hS9 => ?_)
      rw [hS9] at hI8 hF10 hR11 
      refine r_load (i := 84) (u := 0) (w := 2) rfl rfl rfl ?_
      refine r_const (i := 85) (u := 1) (z := 1) rfl rfl ?_
      refine r_load (i := 86) (u := 0) (w := 2) rfl rfl rfl ?_
      have h12 := hI8.f tf43_50
      have h13 : S7.f 43 50 = (S.f 43 50) + n1 := by rw [← hS9]; exact ysf_eq
      refine r_getf (i := 87) (v := 50) (w := 11) (x := vi (S7.f 43 50)) rfl ly43 rfl rfl fun h14 => ?_
      have h14 : Rg (S7.f 43 50) := h14
      refine r_load (i := 88) (u := 1) (w := 0) rfl rfl rfl ?_
      refine r_isub (i := 89) rfl ?_
      refine r_load (i := 90) (u := 1) (w := 0) rfl rfl rfl ?_
      have h15 := hI8.f tf43_49
      have h16 : S7.f 43 49 = S.f 43 49 := by rw [← hS9]; exact ysf_ne (by decide)
      refine r_call (i := 91) (u := 11) (v := 199) (w := 0) (b := 0) (na := 1284) (C2 := xC199) (as := [(2, 43), vi 1, vi ((S7.f 43 50) - n1), vi n1]) (s := []) rfl rfl rfl rfl rfl rfl rfl (sp199_T (w0 := 1) (a := (S7.f 43 50) - n1) (b := n1) hI8 ⟨by omega, by omega⟩ ⟨by omega, by omega⟩ ⟨by omega, by omega⟩ (by omega)  (by omega)) (fun r17 S18 hq19 => ?_)
      obtain ⟨z20, rfl, h21, h22, en23, hI24, hF25, hR26⟩ := hq19
      have hF27 := hF10.trans hF25 rfl rfl
      have hR28 := hR11.trans hR26 rfl
      refine Or.inr (Or.inl ⟨rfl, ?_⟩)
      have h29 := hI24.f tf43_51
      have h30 : S18.f 43 51 = S7.f 43 51 := hF25.f rfl
      have h31 : S7.f 43 51 = S.f 43 51 := by rw [← hS9]; exact ysf_ne (by decide)
      exact r_retI (i := 92) rfl ⟨z20, rfl, by omega, by omega, (by have h99 := (wTX_new e_wLV q_1 (by omega) (by omega) (by omega) q_3 (by omega) q_2 (S2 := S7) (by subst_vars; rfl) (fun j => ⟨by subst_vars; rfl, by subst_vars; rfl, by subst_vars; rfl, by subst_vars; rfl⟩) (by omega) en23 (fun j => hF25.a rfl j) (fun j => hF27.a rfl j) (hF27.f rfl) (hF25.f rfl)).2.1; omega), (by exact (wTX_new e_wLV q_1 (by omega) (by omega) (by omega) q_3 (by omega) q_2 (S2 := S7) (by subst_vars; rfl) (fun j => ⟨by subst_vars; rfl, by subst_vars; rfl, by subst_vars; rfl, by subst_vars; rfl⟩) (by omega) en23 (fun j => hF25.a rfl j) (fun j => hF27.a rfl j) (hF27.f rfl) (hF25.f rfl)).2.2.1), (by exact (wTX_new e_wLV q_1 (by omega) (by omega) (by omega) q_3 (by omega) q_2 (S2 := S7) (by subst_vars; rfl) (fun j => ⟨by subst_vars; rfl, by subst_vars; rfl, by subst_vars; rfl, by subst_vars; rfl⟩) (by omega) en23 (fun j => hF25.a rfl j) (fun j => hF27.a rfl j) (hF27.f rfl) (hF25.f rfl)).2.2.2), (by omega), (by exact mt_new q_3 (by omega) q_1 (by omega) (by omega) (by omega) (by omega) q_2 (by subst hS9; rfl) (by subst hS9; rfl) (fun j => ⟨by subst hS9; rfl, by subst hS9; rfl, by subst hS9; rfl, by subst hS9; rfl⟩) (by omega) en23 (hF25.a rfl) (hF25.f rfl)), (by exact (wTX_new e_wLV q_1 (by omega) (by omega) (by omega) q_3 (by omega) q_2 (S2 := S7) (by subst_vars; rfl) (fun j => ⟨by subst_vars; rfl, by subst_vars; rfl, by subst_vars; rfl, by subst_vars; rfl⟩) (by omega) en23 (fun j => hF25.a rfl j) (fun j => hF27.a rfl j) (hF27.f rfl) (hF25.f rfl)).1), hI24, hF27, hR28⟩
    · have hw9 := hF.a (b := 77) rfl k.toNat
      refine r_load (i := 65) (u := 0) (w := 2) rfl rfl rfl ?_
      refine r_getf (i := 66) (v := 47) (w := 11) (x := (2, 76)) rfl ly43 rfl rfl fun _ => ?_
      refine r_load (i := 67) (u := 0) (w := 2) rfl rfl rfl ?_
      refine r_getf (i := 68) (v := 50) (w := 11) (x := vi (S.f 43 50)) rfl ly43 rfl rfl fun h33 => ?_
      have h33 : Rg (S.f 43 50) := h33
      refine r_load (i := 69) (u := 2) (w := 0) rfl rfl rfl ?_
      refine r_iadd (i := 70) rfl ?_
      refine r_load (i := 71) (u := 0) (w := 2) rfl rfl rfl ?_
      refine r_getf (i := 72) (v := 48) (w := 11) (x := (2, 77)) rfl ly43 rfl rfl fun _ => ?_
      refine r_load (i := 73) (u := 2) (w := 0) rfl rfl rfl ?_
      refine a_int (i := 74) rfl ly77 rfl (by omega) (by omega) fun h35 => ?_
      have h36 := hI.a ta77 k.toNat
      have h37 : S.a 77 k.toNat = S0.a 77 k.toNat := hF.a rfl _
      refine s_int (i := 75) rfl ly76 rfl (by omega) (by omega) ⟨by omega, by omega⟩ ?_
      have hI39 := hI.seta (b := 76) (j := ((S.f 43 50) + k).toNat) (z := S.a 77 k.toNat) ta76 rfl (by omega) (by omega)
      have hF41 := hF.seta (b := 76) (j := ((S.f 43 50) + k).toNat) (z := S.a 77 k.toNat) rfl
      have hR42 := hR.seta (b := 76) (j := ((S.f 43 50) + k).toNat) (z := S.a 77 k.toNat)
      have e43 := wLVx.seta e_wLV (b := 76) (j := ((S.f 43 50) + k).toNat) (z := S.a 77 k.toNat) rfl
      refine yT_gen (fun S38 hS40 => ?_)
      rw [hS40] at hI39 hF41 hR42 e43
      refine r_iinc (i := 76) (u := 1) (v := 2) (s := 1) (L1 := [some ((2, 43)), some (vi n1), some (vi (k + 1)), none, none]) rfl rfl rfl rfl rfl ?_
      refine r_goto (i := 77) (v := 62) rfl ?_
      have h44 := hI39.f tf43_51
      have h45 : S38.f 43 51 = S.f 43 51 := by rw [← hS40]; rfl
      have h46 := hI39.f tf43_50
      have h47 : S38.f 43 50 = S.f 43 50 := by rw [← hS40]; rfl
      have h48 := hI39.f tf43_49
      have h49 : S38.f 43 49 = S.f 43 49 := by rw [← hS40]; rfl
      exact ih S38 hI39 hF41 hR42 e43 n1 (k + 1) ⟨by omega, by omega⟩ ⟨by omega, by omega⟩ (by omega) (by omega) (by first | assumption | (intro q h1 h2; have h99 := q_2 q h1 (by omega); rw [q_0] at h99; exact h99)) (by first | exact wCP_0 q_0 | exact wCP_s q_3 (by omega) (by omega) hw9 (by subst_vars; rfl) (by subst_vars; rfl) (fun j => ⟨by subst_vars; rfl, by subst_vars; rfl, by subst_vars; rfl⟩) (fun j => by subst_vars; rfl)) (by omega) (by omega) (by omega) (by omega) (by omega) (by omega)
theorem lp251_8 {G : xk} {d : Nat} {S0 : yS} (p_0 : wphi S0 ≤ 20000) (p_1 : wpsi S0 ≤ 1140) (p_2 : 1 ≤ S0.f 43 51) (hd : 1 ≤ d + 1) : ∀ (n : Nat), ∀ (S : yS) (hI : yI S) (hF : yFr [(43, 49), (43, 50), (43, 51)] [73, 74, 75, 76] S0 S) (hR : yRm [] S0 S) (e_wLV : wLV S) (n1 e : Int) (h_n1 : 1 ≤ n1 ∧ n1 ≤ 200) (h_e : 1 ≤ e ∧ e ≤ 1200) (q_0 : S = ysf S0 43 51 0) (q_1 : n1 = S0.f 43 51) (q_2 : wNM S n1 e) (q_3 : S.f 43 50 ≤ 20000) (q_4 : S.f 43 49 ≤ 1198) (q_5 : S.f 43 51 = 0) (hn : 1200 - e < (n : Nat)), yT xPr G LY xC251 8 [some ((2, 43)), some (vi n1), some (vi e), none, none] [] S (d + 1) (fun r S' => ∃ z : Int, r = (1, vi z) ∧ 1 ≤ z ∧ z ≤ 1199 ∧ wphi S' ≤ wphi S0 + 3 + S0.f 43 51 ∧ wpsi S' ≤ wpsi S0 + 1 ∧ wTXT S0 S' z ∧ S'.f 43 51 = 0 ∧ mtX S0 S' z ∧ wLV S' ∧ yI S' ∧ yFr [(43, 49), (43, 50), (43, 51)] [73, 74, 75, 76] S0 S' ∧ yRm [] S0 S') := by
  intro n
  induction n with
  | zero => intro S hI hF hR e_wLV n1 e h_n1 h_e q_0 q_1 q_2 q_3 q_4 q_5 hn; exact absurd hn (by omega)
  | succ n ih =>
    intro S hI hF hR e_wLV n1 e h_n1 h_e q_0 q_1 q_2 q_3 q_4 q_5 hn
    have h1 := hI.f tf43_50
    have h2 := hI.f tf43_49
    have h3 := hI.f tf43_51
    refine r_load (i := 8) (u := 2) (w := 0) rfl rfl rfl ?_
    refine r_load (i := 9) (u := 0) (w := 2) rfl rfl rfl ?_
    refine r_getf (i := 10) (v := 49) (w := 11) (x := vi (S.f 43 49)) rfl ly43 rfl rfl fun h4 => ?_
    have h4 : Rg (S.f 43 49) := h4
    refine c_gt (i := 11) (v := 60) rfl ⟨by omega, by omega⟩ ⟨by omega, by omega⟩ (fun h5 => ?_) (fun h6 => ?_)
    · have c49 : S.f 43 49 = S0.f 43 49 := by rw [q_0]; rfl
      have c50 : S.f 43 50 = S0.f 43 50 := by rw [q_0]; rfl
      refine r_const (i := 60) (u := 0) (z := 0) rfl rfl ?_
      refine r_store (i := 61) (u := 2) (w := 0) (L1 := [some ((2, 43)), some (vi n1), some (vi 0), none, none]) rfl rfl rfl rfl ?_
      exact lp251_62  p_0 p_1 p_2 hd _ S hI hF hR e_wLV n1 0 ⟨by omega, by omega⟩ ⟨by omega, by omega⟩ (by omega) (by omega) (by first | assumption | (intro q h1 h2; have h99 := q_2 q h1 (by omega); rw [q_0] at h99; exact h99)) (by first | exact wCP_0 q_0 | exact wCP_s q_3 (by omega) (by omega) hw9 (by subst_vars; rfl) (by subst_vars; rfl) (fun j => ⟨by subst_vars; rfl, by subst_vars; rfl, by subst_vars; rfl⟩) (fun j => by subst_vars; rfl)) (by omega) (by omega) (by omega) (by omega) (by omega) (Int.lt_succ_toNat _)
    · refine r_load (i := 12) (u := 0) (w := 2) rfl rfl rfl ?_
      refine r_getf (i := 13) (v := 44) (w := 11) (x := (2, 73)) rfl ly43 rfl rfl fun _ => ?_
      refine r_load (i := 14) (u := 2) (w := 0) rfl rfl rfl ?_
      refine a_int (i := 15) rfl ly73 rfl (by omega) (by omega) fun h8 => ?_
      have h9 := hI.a ta73 e.toNat
      refine r_const (i := 16) (u := 1) (z := 1) rfl rfl ?_
      refine c_ne (i := 17) (v := 58) rfl ⟨by omega, by omega⟩ ⟨by omega, by omega⟩ (fun h10 => ?_) (fun h11 => ?_)
      · refine r_iinc (i := 58) (u := 1) (v := 2) (s := 1) (L1 := [some ((2, 43)), some (vi n1), some (vi (e + 1)), none, none]) rfl rfl rfl rfl rfl ?_
        refine r_goto (i := 59) (v := 8) rfl ?_
        exact ih S hI hF hR e_wLV n1 (e + 1) ⟨by omega, by omega⟩ ⟨by omega, by omega⟩ (by first | assumption | (subst_vars; rfl)) (by omega) (by first | exact wNM_1 | exact wNM_s q_2 (by omega) (wMW_k (by omega)) | exact wNM_s q_2 (by omega) (wMW_b (by omega)) | exact wNM_s q_2 (by omega) (q_9 (by omega))) (by omega) (by omega) (by omega) (by omega)
      · refine r_load (i := 18) (u := 0) (w := 2) rfl rfl rfl ?_
        refine r_getf (i := 19) (v := 46) (w := 11) (x := (2, 75)) rfl ly43 rfl rfl fun _ => ?_
        refine r_load (i := 20) (u := 2) (w := 0) rfl rfl rfl ?_
        refine a_int (i := 21) rfl ly75 rfl (by omega) (by omega) fun h13 => ?_
        have h14 := hI.a ta75 e.toNat
        refine r_load (i := 22) (u := 1) (w := 0) rfl rfl rfl ?_
        refine c_eq (i := 23) (v := 25) rfl ⟨by omega, by omega⟩ ⟨by omega, by omega⟩ (fun h15 => ?_) (fun h16 => ?_)
        · refine r_const (i := 25) (u := 1) (z := 1) rfl rfl ?_
          refine r_store (i := 26) (u := 3) (w := 0) (L1 := [some ((2, 43)), some (vi n1), some (vi e), some (vi 1), none]) rfl rfl rfl rfl ?_
          refine r_const (i := 27) (u := 0) (z := 0) rfl rfl ?_
          refine r_store (i := 28) (u := 4) (w := 0) (L1 := [some ((2, 43)), some (vi n1), some (vi e), some (vi 1), some (vi 0)]) rfl rfl rfl rfl ?_
          have h17 := hI.a ta73 e.toNat
          have h18 := hI.a ta75 e.toNat
          exact lp251_29  p_0 p_1 p_2 hd (n1 := n1) (e := e) ⟨by omega, by omega⟩ ⟨by omega, by omega⟩ n ih (by omega) _ S hI hF hR e_wLV 1 0 ⟨by omega, by omega⟩ ⟨by omega, by omega⟩ (by assumption) (by omega) (by assumption) (by omega) (by omega) (by omega) (by omega) (by omega) (by intro hz; first | exact absurd hz (by omega) | exact wPF_0 | exact wPF_s (q_8 (by omega)) (by omega) (by omega)) (by intro hz; first | exact absurd hz (by omega) | exact wMW_l (k := k) (by omega) (by omega) (by omega)) (by omega) (by omega) (Int.lt_succ_toNat _)
        · refine r_goto (i := 24) (v := 58) rfl ?_
          refine r_iinc (i := 58) (u := 1) (v := 2) (s := 1) (L1 := [some ((2, 43)), some (vi n1), some (vi (e + 1)), none, none]) rfl rfl rfl rfl rfl ?_
          refine r_goto (i := 59) (v := 8) rfl ?_
          exact ih S hI hF hR e_wLV n1 (e + 1) ⟨by omega, by omega⟩ ⟨by omega, by omega⟩ (by first | assumption | (subst_vars; rfl)) (by omega) (by first | exact wNM_1 | exact wNM_s q_2 (by omega) (wMW_k (by omega)) | exact wNM_s q_2 (by omega) (wMW_b (by omega)) | exact wNM_s q_2 (by omega) (q_9 (by omega))) (by omega) (by omega) (by omega) (by omega)
/-- ProxyForgeModel.text -/
theorem sp251 {G : xk} {S : yS} {d : Nat} (hI : yI S) (p_0 : wphi S ≤ 20000) (p_1 : wpsi S ≤ 1140) (p_2 : 1 ≤ S.f 43 51) (e_wLV : wLV S) (hd : 1 ≤ d) : yT xPr G LY xC251 0 [some ((2, 43))] [] S d (fun r S' => ∃ z : Int, r = (1, vi z) ∧ 1 ≤ z ∧ z ≤ 1199 ∧ wphi S' ≤ wphi S + 3 + S.f 43 51 ∧ wpsi S' ≤ wpsi S + 1 ∧ wTXT S S' z ∧ S'.f 43 51 = 0 ∧ mtX S S' z ∧ wLV S' ∧ yI S' ∧ yFr [(43, 49), (43, 50), (43, 51)] [73, 74, 75, 76] S S' ∧ yRm [] S S') := by
  refine yT_pad 4 ?_
  show yT xPr G LY xC251 0 [some ((2, 43)), none, none, none, none] [] S d _
  obtain ⟨d, rfl⟩ : ∃ q, d = q + 1 := ⟨d - 1, by omega⟩
  have hF : yFr [(43, 49), (43, 50), (43, 51)] [73, 74, 75, 76] S S := yFr.refl S
  have hR : yRm [] S S := yRm.refl S
  have h1 := hI.f tf43_51
  have pe9 := wpsi_en (S := S) (hI.f tf43_49).1
  have pl9 := wphi_le e_wLV
  refine r_load (i := 0) (u := 0) (w := 2) rfl rfl rfl ?_
  refine r_getf (i := 1) (v := 51) (w := 11) (x := vi (S.f 43 51)) rfl ly43 rfl rfl fun h2 => ?_
  have h2 : Rg (S.f 43 51) := h2
  refine r_store (i := 2) (u := 1) (w := 0) (L1 := [some ((2, 43)), some (vi (S.f 43 51)), none, none, none]) rfl rfl rfl rfl ?_
  refine r_load (i := 3) (u := 0) (w := 2) rfl rfl rfl ?_
  refine r_const (i := 4) (u := 0) (z := 0) rfl rfl ?_
  refine r_putI (i := 5) (v := 51) (w := 11) rfl ly43 rfl ⟨by omega, by omega⟩ ?_
  have hI4 := hI.setf (b := 43) (w := 51) (z := 0) tf43_51 rfl (by omega) (by omega)
  have hF6 := hF.setf (b := 43) (w := 51) (z := 0) rfl
  have hR7 := hR.setf (b := 43) (w := 51) (z := 0)
  have e8 := wLVx.setf e_wLV (b := 43) (w := 51) (z := 0) rfl
  refine yT_gen (fun S3 hS5 => ?_)
  rw [hS5] at hI4 hF6 hR7 e8
  refine r_const (i := 6) (u := 1) (z := 1) rfl rfl ?_
  refine r_store (i := 7) (u := 2) (w := 0) (L1 := [some ((2, 43)), some (vi (S.f 43 51)), some (vi 1), none, none]) rfl rfl rfl rfl ?_
  have h9 := hI4.f tf43_50
  have h10 : S3.f 43 50 = S.f 43 50 := by rw [← hS5]; exact ysf_ne (by decide)
  have h11 := hI4.f tf43_49
  have h12 : S3.f 43 49 = S.f 43 49 := by rw [← hS5]; exact ysf_ne (by decide)
  have h13 := hI4.f tf43_51
  have h14 : S3.f 43 51 = 0 := by rw [← hS5]; exact ysf_eq
  exact lp251_8  p_0 p_1 p_2 hd _ S3 hI4 hF6 hR7 e8 (S.f 43 51) 1 ⟨by omega, by omega⟩ ⟨by omega, by omega⟩ (by first | assumption | (subst_vars; rfl)) (by omega) (by first | exact wNM_1 | exact wNM_s q_2 (by omega) (wMW_k (by omega)) | exact wNM_s q_2 (by omega) (wMW_b (by omega)) | exact wNM_s q_2 (by omega) (q_9 (by omega))) (by omega) (by omega) (by omega) (Int.lt_succ_toNat _)
/-- ProxyForgeModel.textOf -/
theorem sp252 {G : xk} {S : yS} {d : Nat} (hI : yI S) {s : Nat} (h_s : yStr s) (p_0 : S.f 43 51 = 0) (p_1 : wphi S ≤ 19990) (p_2 : wpsi S ≤ 1140) (p_3 : 39 ≤ s) (e_wLV : wLV S) (hd : 5 ≤ d) : yT xPr G LY xC252 0 [some ((2, 43)), some ((6, s))] [] S d (fun r S' => ∃ z : Int, r = (1, vi z) ∧ 1 ≤ z ∧ z ≤ 1199 ∧ wphi S' ≤ wphi S ∧ wpsi S' ≤ wpsi S ∧ S'.f 43 51 = 0 ∧ wfm S' z s ∧ mI S S' (wpt (txE (strl s))) z (wix (txE (strl s))) ∧ wLV S' ∧ yI S' ∧ yFr [(43, 49), (43, 50), (43, 51)] [73, 74, 75, 76, 77] S S' ∧ yRm [] S S') := by
  refine yT_pad 0 ?_
  show yT xPr G LY xC252 0 [some ((2, 43)), some ((6, s))] [] S d _
  obtain ⟨d, rfl⟩ : ∃ q, d = q + 1 := ⟨d - 1, by omega⟩
  have hF : yFr [(43, 49), (43, 50), (43, 51)] [73, 74, 75, 76, 77] S S := yFr.refl S
  have hR : yRm [] S S := yRm.refl S
  have h1 := hI.f tf43_51
  have sl9 := slen_pos p_3 h_s.2
  have sl8 := slen_le h_s
  refine r_load (i := 0) (u := 0) (w := 2) rfl rfl rfl ?_
  refine r_load (i := 1) (u := 1) (w := 2) rfl rfl rfl ?_
  refine r_call (i := 2) (u := 11) (v := 245) (w := 0) (b := 0) (na := 770) (C2 := xC245) (as := [(2, 43), (6, s)]) (s := []) rfl rfl rfl rfl rfl rfl rfl (sp245 (s := s) hI h_s (by omega)  (by omega)) (fun r2 S3 hq4 => ?_)
  obtain ⟨rfl, h5, sp6, wsp7, hI8, hF9, hR10⟩ := hq4
  have hF11 := hF.trans hF9 rfl rfl
  have hR12 := hR.trans hR10 rfl
  have e13 := wLVx.fr e_wLV hF9 rfl rfl
  refine Or.inl ⟨rfl, ?_⟩
  refine r_load (i := 3) (u := 0) (w := 2) rfl rfl rfl ?_
  have h14 : wphi S3 = wphi S := wphiX.fr hF9 rfl rfl
  have h15 : wpsi S3 = wpsi S := wpsiX.fr hF9 rfl rfl
  have h16 := hI8.f tf43_51
  refine r_call (i := 4) (u := 11) (v := 251) (w := 0) (b := 0) (na := 1281) (C2 := xC251) (as := [(2, 43)]) (s := []) rfl rfl rfl rfl rfl rfl rfl (sp251  hI8  (by omega) (by omega) (by omega) e13 (by omega)) (fun r17 S18 hq19 => ?_)
  obtain ⟨z20, rfl, h21, h22, h23, h24, tx25, h26, mtx27, e28, hI29, hF30, hR31⟩ := hq19
  have hF32 := hF11.trans hF30 rfl rfl
  have hR33 := hR12.trans hR31 rfl
  refine Or.inr (Or.inl ⟨rfl, ?_⟩)
  obtain ⟨tx1, tx2, tx3⟩ := tx25 s (wlit_mem p_3 h_s.2) (wWD_sp (by omega) sp6 (by omega) (by omega))
  have h34 := hI29.f tf43_51
  exact r_retI (i := 5) rfl ⟨z20, rfl, by omega, by omega, (by omega), (by omega), (by omega), (by exact tx1), (by exact mI_tx p_0 wsp7 (sPo_fr hF9 rfl rfl) mtx27 (sBo_tr (sBo_fr hF9 rfl rfl) (sBo_fr hF30 rfl rfl))), e28, hI29, hF32, hR33⟩
/-- ProxyForgeModel.classOf -/
theorem sp192 {G : xk} {S : yS} {d : Nat} (hI : yI S) {s : Nat} (h_s : yStr s) (p_0 : S.f 43 51 = 0) (p_1 : wphi S ≤ 19990) (p_2 : wpsi S ≤ 1140) (p_3 : 39 ≤ s) (e_wLV : wLV S) (hd : 6 ≤ d) : yT xPr G LY xC192 0 [some ((2, 43)), some ((6, s))] [] S d (fun r S' => ∃ z : Int, r = (1, vi z) ∧ 1 ≤ z ∧ z ≤ 1199 ∧ wphi S' ≤ wphi S ∧ wpsi S' ≤ wpsi S ∧ S'.f 43 51 = 0 ∧ mI S S' (wcl (strl s)) z (icl (strl s)) ∧ wLV S' ∧ yI S' ∧ yFr [(43, 49), (43, 50), (43, 51)] [73, 74, 75, 76, 77] S S' ∧ yRm [] S S') := by
  refine yT_pad 0 ?_
  show yT xPr G LY xC192 0 [some ((2, 43)), some ((6, s))] [] S d _
  obtain ⟨d, rfl⟩ : ∃ q, d = q + 1 := ⟨d - 1, by omega⟩
  have hF : yFr [(43, 49), (43, 50), (43, 51)] [73, 74, 75, 76, 77] S S := yFr.refl S
  have hR : yRm [] S S := yRm.refl S
  have h1 := hI.f tf43_51
  refine r_load (i := 0) (u := 0) (w := 2) rfl rfl rfl ?_
  refine r_const (i := 1) (u := 7) (z := 7) rfl rfl ?_
  refine r_load (i := 2) (u := 0) (w := 2) rfl rfl rfl ?_
  refine r_load (i := 3) (u := 1) (w := 2) rfl rfl rfl ?_
  refine r_call (i := 4) (u := 11) (v := 252) (w := 0) (b := 0) (na := 514) (C2 := xC252) (as := [(2, 43), (6, s)]) (s := [vi 7, (2, 43)]) rfl rfl rfl rfl rfl rfl rfl (sp252 (s := s) hI h_s (by omega) (by omega) (by omega) (by omega) e_wLV (by omega)) (fun r2 S3 hq4 => ?_)
  obtain ⟨z5, rfl, h6, h7, h8, h9, h10, fm11, mi12, e13, hI14, hF15, hR16⟩ := hq4
  have hF17 := hF.trans hF15 rfl rfl
  have hR18 := hR.trans hR16 rfl
  refine Or.inr (Or.inl ⟨rfl, ?_⟩)
  refine r_const (i := 5) (u := 0) (z := 0) rfl rfl ?_
  refine r_call (i := 6) (u := 11) (v := 199) (w := 0) (b := 0) (na := 1284) (C2 := xC199) (as := [(2, 43), vi 7, vi z5, vi 0]) (s := []) rfl rfl rfl rfl rfl rfl rfl (sp199 (w0 := 7) (a := z5) (b := 0) hI14 ⟨by omega, by omega⟩ ⟨by omega, by omega⟩ ⟨by omega, by omega⟩ (by omega) e13 (by omega)) (fun r19 S20 hq21 => ?_)
  obtain ⟨z22, rfl, h23, h24, h25, h26, ec27, men28, e29, hI30, hF31, hR32⟩ := hq21
  have hF33 := hF17.trans hF31 rfl rfl
  have hR34 := hR18.trans hR32 rfl
  refine Or.inr (Or.inl ⟨rfl, ?_⟩)
  obtain ⟨tx2, tx3⟩ := ec27 rfl rfl s (wlit_mem p_3 h_s.2) fm11
  have h35 := hI30.f tf43_51
  have h36 : S20.f 43 51 = S3.f 43 51 := hF31.f rfl
  exact r_retI (i := 7) rfl ⟨z22, rfl, by omega, by omega, (by omega), (by omega), (by omega), (by exact mI_cl mi12 men28 (sBo_fr hF31 rfl rfl)), e29, hI30, hF33, hR34⟩
/-- ProxyForgeModel.classOfType -/
theorem sp193 {G : xk} {S : yS} {d : Nat} (hI : yI S) {t : Int} (h_t : 0 ≤ t ∧ t ≤ 19) (p_0 : S.f 43 51 = 0) (p_1 : wphi S ≤ 19990) (p_2 : wpsi S ≤ 1140) (e_wLV : wLV S) (hd : 6 ≤ d) : yT xPr G LY xC193 0 [some ((2, 43)), some (vi t)] [] S d (fun r S' => ∃ z : Int, r = (1, vi z) ∧ 1 ≤ z ∧ z ≤ 1199 ∧ wphi S' ≤ wphi S ∧ wpsi S' ≤ wpsi S ∧ S'.f 43 51 = 0 ∧ mI S S' (wcl (tyN (pkR 48 S) t)) z (icl (tyN (pkR 48 S) t)) ∧ wLV S' ∧ yI S' ∧ yFr [(43, 49), (43, 50), (43, 51)] [73, 74, 75, 76, 77] S S' ∧ yRm [] S S') := by
  refine yT_pad 0 ?_
  show yT xPr G LY xC193 0 [some ((2, 43)), some (vi t)] [] S d _
  obtain ⟨d, rfl⟩ : ∃ q, d = q + 1 := ⟨d - 1, by omega⟩
  have hF : yFr [(43, 49), (43, 50), (43, 51)] [73, 74, 75, 76, 77] S S := yFr.refl S
  have hR : yRm [] S S := yRm.refl S
  have h1 := hI.f tf43_51
  refine r_load (i := 0) (u := 0) (w := 2) rfl rfl rfl ?_
  refine r_load (i := 1) (u := 1) (w := 0) rfl rfl rfl ?_
  refine r_call (i := 2) (u := 11) (v := 249) (w := 0) (b := 0) (na := 514) (C2 := xC249) (as := [(2, 43), vi t]) (s := []) rfl rfl rfl rfl rfl rfl rfl (sp249 (t := t) hI ⟨by omega, by omega⟩ (by omega)  (by omega)) (fun r2 S3 hq4 => ?_)
  obtain ⟨rfl, h5, wt6, wty7, hI8, hF9, hR10⟩ := hq4
  have hF11 := hF.trans hF9 rfl rfl
  have hR12 := hR.trans hR10 rfl
  have e13 := wLVx.fr e_wLV hF9 rfl rfl
  refine Or.inl ⟨rfl, ?_⟩
  refine r_load (i := 3) (u := 0) (w := 2) rfl rfl rfl ?_
  refine r_const (i := 4) (u := 7) (z := 7) rfl rfl ?_
  refine r_load (i := 5) (u := 0) (w := 2) rfl rfl rfl ?_
  have h14 : wphi S3 = wphi S := wphiX.fr hF9 rfl rfl
  have h15 : wpsi S3 = wpsi S := wpsiX.fr hF9 rfl rfl
  have h16 := hI8.f tf43_51
  refine r_call (i := 6) (u := 11) (v := 251) (w := 0) (b := 0) (na := 1281) (C2 := xC251) (as := [(2, 43)]) (s := [vi 7, (2, 43)]) rfl rfl rfl rfl rfl rfl rfl (sp251  hI8  (by omega) (by omega) (by omega) e13 (by omega)) (fun r17 S18 hq19 => ?_)
  obtain ⟨z20, rfl, h21, h22, h23, h24, tx25, h26, mtx27, e28, hI29, hF30, hR31⟩ := hq19
  have hF32 := hF11.trans hF30 rfl rfl
  have hR33 := hR12.trans hR31 rfl
  refine Or.inr (Or.inl ⟨rfl, ?_⟩)
  obtain ⟨tx1, tx2, tx3⟩ := tx25 (wtc t) (wtc_mem (by omega) (by omega)) (wt6 (by omega))
  refine r_const (i := 7) (u := 0) (z := 0) rfl rfl ?_
  refine r_call (i := 8) (u := 11) (v := 199) (w := 0) (b := 0) (na := 1284) (C2 := xC199) (as := [(2, 43), vi 7, vi z20, vi 0]) (s := []) rfl rfl rfl rfl rfl rfl rfl (sp199 (w0 := 7) (a := z20) (b := 0) hI29 ⟨by omega, by omega⟩ ⟨by omega, by omega⟩ ⟨by omega, by omega⟩ (by omega) e28 (by omega)) (fun r34 S35 hq36 => ?_)
  obtain ⟨z37, rfl, h38, h39, h40, h41, ec42, men43, e44, hI45, hF46, hR47⟩ := hq36
  have hF48 := hF32.trans hF46 rfl rfl
  have hR49 := hR33.trans hR47 rfl
  refine Or.inr (Or.inl ⟨rfl, ?_⟩)
  obtain ⟨cx2, cx3⟩ := ec42 rfl rfl (wtc t) (wtc_mem (by omega) (by omega)) tx1
  have h50 := hI45.f tf43_51
  have h51 : S35.f 43 51 = S18.f 43 51 := hF46.f rfl
  exact r_retI (i := 9) rfl ⟨z37, rfl, by omega, by omega, (by omega), (by omega), (by omega), (by exact mI_cl (mI_tx p_0 wty7 (sPo_fr hF9 rfl rfl) mtx27 (sBo_tr (sBo_fr hF9 rfl rfl) (sBo_fr hF30 rfl rfl))) men43 (sBo_fr hF46 rfl rfl)), e44, hI45, hF48, hR49⟩
/-- ProxyForgeModel.proxyClass -/
theorem sp233 {G : xk} {S : yS} {d : Nat} (hI : yI S) (p_0 : S.f 43 51 = 0) (p_1 : wphi S ≤ 19990) (p_2 : wpsi S ≤ 1140) (e_wLV : wLV S) (hd : 7 ≤ d) : yT xPr G LY xC233 0 [some ((2, 43))] [] S d (fun r S' => ∃ z : Int, r = (1, vi z) ∧ 1 ≤ z ∧ z ≤ 1199 ∧ wphi S' ≤ wphi S ∧ wpsi S' ≤ wpsi S ∧ S'.f 43 51 = 0 ∧ mI S S' (wcl (pxS S)) z (icl (pxS S)) ∧ wLV S' ∧ yI S' ∧ yFr [(43, 49), (43, 50), (43, 51)] [73, 74, 75, 76, 77] S S' ∧ yRm [] S S') := by
  refine yT_pad 0 ?_
  show yT xPr G LY xC233 0 [some ((2, 43))] [] S d _
  obtain ⟨d, rfl⟩ : ∃ q, d = q + 1 := ⟨d - 1, by omega⟩
  have hF : yFr [(43, 49), (43, 50), (43, 51)] [73, 74, 75, 76, 77] S S := yFr.refl S
  have hR : yRm [] S S := yRm.refl S
  have h1 := hI.f tf43_51
  refine r_load (i := 0) (u := 0) (w := 2) rfl rfl rfl ?_
  refine r_getf (i := 1) (v := 6) (w := 11) (x := (2, 48)) rfl ly43 rfl rfl fun _ => ?_
  refine r_load (i := 2) (u := 0) (w := 2) rfl rfl rfl ?_
  have h3 := hI.f tf43_21
  refine r_getf (i := 3) (v := 21) (w := 11) (x := vi (S.f 43 21)) rfl ly43 rfl rfl fun h4 => ?_
  have h4 : Rg (S.f 43 21) := h4
  refine a_int (i := 4) rfl ly48 rfl (by omega) (by omega) fun h5 => ?_
  have h6 := hI.a ta48 (S.f 43 21).toNat
  refine r_const (i := 5) (u := 4) (z := 4) rfl rfl ?_
  refine c_ne (i := 6) (v := 11) rfl ⟨by omega, by omega⟩ ⟨by omega, by omega⟩ (fun h7 => ?_) (fun h8 => ?_)
  · refine r_load (i := 11) (u := 0) (w := 2) rfl rfl rfl ?_
    refine r_const (i := 12) (u := 112) (z := 112) rfl rfl ?_
    refine r_call (i := 13) (u := 11) (v := 241) (w := 0) (b := 0) (na := 514) (C2 := xC241) (as := [(2, 43), vi 112]) (s := []) rfl rfl rfl rfl rfl rfl rfl (sp241 (c := 112) hI ⟨by omega, by omega⟩ (by omega)  (by omega)) (fun r9 S10 hq11 => ?_)
    obtain ⟨rfl, h12, sg13, wsg14, hI15, hF16, hR17⟩ := hq11
    have hF18 := hF.trans hF16 rfl rfl
    have hR19 := hR.trans hR17 rfl
    have e20 := wLVx.fr e_wLV hF16 rfl rfl
    refine Or.inl ⟨rfl, ?_⟩
    have hb8 := hF18.f (b := 43) (w := 21) rfl
    have hq8 := hF18.a (b := 48) rfl (S.f 43 21).toNat
    refine r_load (i := 14) (u := 0) (w := 2) rfl rfl rfl ?_
    refine r_load (i := 15) (u := 0) (w := 2) rfl rfl rfl ?_
    refine r_getf (i := 16) (v := 6) (w := 11) (x := (2, 48)) rfl ly43 rfl rfl fun _ => ?_
    refine r_load (i := 17) (u := 0) (w := 2) rfl rfl rfl ?_
    have h22 := hI15.f tf43_21
    have h23 : S10.f 43 21 = S.f 43 21 := hF16.f rfl
    refine r_getf (i := 18) (v := 21) (w := 11) (x := vi (S10.f 43 21)) rfl ly43 rfl rfl fun h24 => ?_
    have h24 : Rg (S10.f 43 21) := h24
    refine a_int (i := 19) rfl ly48 rfl (by omega) (by omega) fun h25 => ?_
    have h26 := hI15.a ta48 (S10.f 43 21).toNat
    have h27 : S10.a 48 (S10.f 43 21).toNat = S.a 48 (S10.f 43 21).toNat := hF16.a rfl _
    have h28 := hI15.f tf43_51
    refine r_call (i := 20) (u := 11) (v := 248) (w := 0) (b := 0) (na := 514) (C2 := xC248) (as := [(2, 43), vi (S10.a 48 (S10.f 43 21).toNat)]) (s := []) rfl rfl rfl rfl rfl rfl rfl (sp248 (v := S10.a 48 (S10.f 43 21).toNat) hI15 ⟨by omega, by omega⟩ (by omega)  (by omega)) (fun r29 S30 hq31 => ?_)
    obtain ⟨rfl, h32, h33, sn34, wsn35, hI36, hF37, hR38⟩ := hq31
    have hF39 := hF18.trans hF37 rfl rfl
    have hR40 := hR19.trans hR38 rfl
    have e41 := wLVx.fr e20 hF37 rfl rfl
    refine Or.inl ⟨rfl, ?_⟩
    refine r_load (i := 21) (u := 0) (w := 2) rfl rfl rfl ?_
    refine r_str (i := 22) (v := 40) rfl ?_
    have h42 := slv40
    have h43 := hI36.f tf43_51
    refine r_call (i := 23) (u := 11) (v := 245) (w := 0) (b := 0) (na := 770) (C2 := xC245) (as := [(2, 43), (6, 40)]) (s := []) rfl rfl rfl rfl rfl rfl rfl (sp245 (s := 40) hI36 ⟨by decide, by decide⟩ (by omega)  (by omega)) (fun r44 S45 hq46 => ?_)
    obtain ⟨rfl, h47, sp48, wsp49, hI50, hF51, hR52⟩ := hq46
    have hF53 := hF39.trans hF51 rfl rfl
    have hR54 := hR40.trans hR52 rfl
    have e55 := wLVx.fr e41 hF51 rfl rfl
    refine Or.inl ⟨rfl, ?_⟩
    have hb9 := hF53.f (b := 43) (w := 21) rfl
    have hq9 := hF53.a (b := 48) rfl (S.f 43 21).toNat
    refine r_load (i := 24) (u := 0) (w := 2) rfl rfl rfl ?_
    refine r_const (i := 25) (u := 7) (z := 7) rfl rfl ?_
    refine r_load (i := 26) (u := 0) (w := 2) rfl rfl rfl ?_
    have h56 : wphi S45 = wphi S30 := wphiX.fr hF51 rfl rfl
    have h57 : wphi S30 = wphi S10 := wphiX.fr hF37 rfl rfl
    have h58 : wphi S10 = wphi S := wphiX.fr hF16 rfl rfl
    have h59 : wpsi S45 = wpsi S30 := wpsiX.fr hF51 rfl rfl
    have h60 : wpsi S30 = wpsi S10 := wpsiX.fr hF37 rfl rfl
    have h61 : wpsi S10 = wpsi S := wpsiX.fr hF16 rfl rfl
    have h62 := hI50.f tf43_51
    refine r_call (i := 27) (u := 11) (v := 251) (w := 0) (b := 0) (na := 1281) (C2 := xC251) (as := [(2, 43)]) (s := [vi 7, (2, 43)]) rfl rfl rfl rfl rfl rfl rfl (sp251  hI50  (by omega) (by omega) (by omega) e55 (by omega)) (fun r63 S64 hq65 => ?_)
    obtain ⟨z66, rfl, h67, h68, h69, h70, tx71, h72, mtx73, e74, hI75, hF76, hR77⟩ := hq65
    have hF78 := hF53.trans hF76 rfl rfl
    have hR79 := hR54.trans hR77 rfl
    refine Or.inr (Or.inl ⟨rfl, ?_⟩)
    obtain ⟨tx1, tx2, tx3⟩ := tx71 150 (by decide) (wWD_px sg13 (by omega) sn34 (by omega) (by omega) (by omega) sp48 (by omega) (by omega) (by rw [hb9, hb8, hq9, hq8]))
    refine r_const (i := 28) (u := 0) (z := 0) rfl rfl ?_
    refine r_call (i := 29) (u := 11) (v := 199) (w := 0) (b := 0) (na := 1284) (C2 := xC199) (as := [(2, 43), vi 7, vi z66, vi 0]) (s := []) rfl rfl rfl rfl rfl rfl rfl (sp199 (w0 := 7) (a := z66) (b := 0) hI75 ⟨by omega, by omega⟩ ⟨by omega, by omega⟩ ⟨by omega, by omega⟩ (by omega) e74 (by omega)) (fun r80 S81 hq82 => ?_)
    obtain ⟨z83, rfl, h84, h85, h86, h87, ec88, men89, e90, hI91, hF92, hR93⟩ := hq82
    have hF94 := hF78.trans hF92 rfl rfl
    have hR95 := hR79.trans hR93 rfl
    refine Or.inr (Or.inl ⟨rfl, ?_⟩)
    obtain ⟨cx2, cx3⟩ := ec88 rfl rfl 150 (by decide) tx1
    have h96 := hI91.f tf43_51
    have h97 : S81.f 43 51 = S64.f 43 51 := hF92.f rfl
    exact r_retI (i := 30) rfl ⟨z83, rfl, by omega, by omega, (by omega), (by omega), (by omega), (by exact mI_cl (mI_tx p_0 (pxM wsg14 wsn35 wsp49 (by rw [hb8, hq8]) (by omega) (by omega)) (sPo_tr (sPo_tr (sPo_fr hF16 rfl rfl) (sPo_fr hF37 rfl rfl)) (sPo_fr hF51 rfl rfl)) mtx73 (sBo_tr (sBo_tr (sBo_tr (sBo_fr hF16 rfl rfl) (sBo_fr hF37 rfl rfl)) (sBo_fr hF51 rfl rfl)) (sBo_fr hF76 rfl rfl))) men89 (sBo_fr hF92 rfl rfl)), e90, hI91, hF94, hR95⟩
  · refine r_load (i := 7) (u := 0) (w := 2) rfl rfl rfl ?_
    refine r_str (i := 8) (v := 39) rfl ?_
    have h98 := slv39
    refine r_call (i := 9) (u := 11) (v := 192) (w := 0) (b := 0) (na := 514) (C2 := xC192) (as := [(2, 43), (6, 39)]) (s := []) rfl rfl rfl rfl rfl rfl rfl (sp192 (s := 39) hI ⟨by decide, by decide⟩ (by omega) (by omega) (by omega) (by omega) e_wLV (by omega)) (fun r99 S100 hq101 => ?_)
    obtain ⟨z102, rfl, h103, h104, h105, h106, h107, mi108, e109, hI110, hF111, hR112⟩ := hq101
    have hF113 := hF.trans hF111 rfl rfl
    have hR114 := hR.trans hR112 rfl
    refine Or.inr (Or.inl ⟨rfl, ?_⟩)
    have h115 := hI110.f tf43_51
    exact r_retI (i := 10) rfl ⟨z102, rfl, by omega, by omega, (by omega), (by omega), (by omega), (by unfold pxS; rw [show S.a 48 (S.f 43 21).toNat = 4 by omega, ← s39]; exact mi108), e109, hI110, hF113, hR114⟩
/-- ProxyForgeModel.member -/
theorem sp218 {G : xk} {S : yS} {d : Nat} (hI : yI S) {w0 : Int} (h_w0 : 2 ≤ w0 ∧ w0 ≤ 12) {ow : Int} (h_ow : 0 ≤ ow ∧ ow ≤ 1199) {s1 : Nat} (h_s1 : yStr s1) {s2 : Nat} (h_s2 : yStr s2) (p_0 : S.f 43 51 = 0) (p_1 : wphi S ≤ 19970) (p_2 : wpsi S ≤ 1130) (p_3 : 39 ≤ s1) (p_4 : 39 ≤ s2) (e_wLV : wLV S) (hd : 6 ≤ d) : yT xPr G LY xC218 0 [some ((2, 43)), some (vi w0), some (vi ow), some ((6, s1)), some ((6, s2))] [] S d (fun r S' => ∃ z : Int, r = (1, vi z) ∧ 1 ≤ z ∧ z ≤ 1199 ∧ wphi S' ≤ wphi S + 10 ∧ wpsi S' ≤ wpsi S + 2 ∧ S'.f 43 51 = 0 ∧ (9 ≤ w0 → w0 ≤ 12 → mI S S' (wm2 w0 ow (strl s1) (strl s2)) z (im2 w0 ow (strl s1) (strl s2))) ∧ wLV S' ∧ yI S' ∧ yFr [(43, 49), (43, 50), (43, 51)] [73, 74, 75, 76, 77] S S' ∧ yRm [] S S') := by
  refine yT_pad 2 ?_
  show yT xPr G LY xC218 0 [some ((2, 43)), some (vi w0), some (vi ow), some ((6, s1)), some ((6, s2)), none, none] [] S d _
  obtain ⟨d, rfl⟩ : ∃ q, d = q + 1 := ⟨d - 1, by omega⟩
  have hF : yFr [(43, 49), (43, 50), (43, 51)] [73, 74, 75, 76, 77] S S := yFr.refl S
  have hR : yRm [] S S := yRm.refl S
  have h1 := hI.f tf43_51
  refine r_load (i := 0) (u := 0) (w := 2) rfl rfl rfl ?_
  refine r_load (i := 1) (u := 3) (w := 2) rfl rfl rfl ?_
  refine r_call (i := 2) (u := 11) (v := 252) (w := 0) (b := 0) (na := 514) (C2 := xC252) (as := [(2, 43), (6, s1)]) (s := []) rfl rfl rfl rfl rfl rfl rfl (sp252 (s := s1) hI h_s1 (by omega) (by omega) (by omega) (by omega) e_wLV (by omega)) (fun r2 S3 hq4 => ?_)
  obtain ⟨z5, rfl, h6, h7, h8, h9, h10, fm11, mi12, e13, hI14, hF15, hR16⟩ := hq4
  have hF17 := hF.trans hF15 rfl rfl
  have hR18 := hR.trans hR16 rfl
  refine Or.inr (Or.inl ⟨rfl, ?_⟩)
  refine r_store (i := 3) (u := 5) (w := 0) (L1 := [some ((2, 43)), some (vi w0), some (vi ow), some ((6, s1)), some ((6, s2)), some (vi z5), none]) rfl rfl rfl rfl ?_
  refine r_load (i := 4) (u := 0) (w := 2) rfl rfl rfl ?_
  refine r_load (i := 5) (u := 4) (w := 2) rfl rfl rfl ?_
  have h19 := hI14.f tf43_51
  refine r_call (i := 6) (u := 11) (v := 252) (w := 0) (b := 0) (na := 514) (C2 := xC252) (as := [(2, 43), (6, s2)]) (s := []) rfl rfl rfl rfl rfl rfl rfl (sp252 (s := s2) hI14 h_s2 (by omega) (by omega) (by omega) (by omega) e13 (by omega)) (fun r20 S21 hq22 => ?_)
  obtain ⟨z23, rfl, h24, h25, h26, h27, h28, fm29, mi30, e31, hI32, hF33, hR34⟩ := hq22
  have hF35 := hF17.trans hF33 rfl rfl
  have hR36 := hR18.trans hR34 rfl
  refine Or.inr (Or.inl ⟨rfl, ?_⟩)
  refine r_store (i := 7) (u := 6) (w := 0) (L1 := [some ((2, 43)), some (vi w0), some (vi ow), some ((6, s1)), some ((6, s2)), some (vi z5), some (vi z23)]) rfl rfl rfl rfl ?_
  refine r_load (i := 8) (u := 0) (w := 2) rfl rfl rfl ?_
  refine r_load (i := 9) (u := 1) (w := 0) rfl rfl rfl ?_
  refine r_load (i := 10) (u := 2) (w := 0) rfl rfl rfl ?_
  refine r_load (i := 11) (u := 0) (w := 2) rfl rfl rfl ?_
  refine r_const (i := 12) (u := 12) (z := 12) rfl rfl ?_
  refine r_load (i := 13) (u := 5) (w := 0) rfl rfl rfl ?_
  refine r_load (i := 14) (u := 6) (w := 0) rfl rfl rfl ?_
  refine r_call (i := 15) (u := 11) (v := 199) (w := 0) (b := 0) (na := 1284) (C2 := xC199) (as := [(2, 43), vi 12, vi z5, vi z23]) (s := [vi ow, vi w0, (2, 43)]) rfl rfl rfl rfl rfl rfl rfl (sp199 (w0 := 12) (a := z5) (b := z23) hI32 ⟨by omega, by omega⟩ ⟨by omega, by omega⟩ ⟨by omega, by omega⟩ (by omega) e31 (by omega)) (fun r37 S38 hq39 => ?_)
  obtain ⟨z40, rfl, h41, h42, h43, h44, ec45, men46, e47, hI48, hF49, hR50⟩ := hq39
  have hF51 := hF35.trans hF49 rfl rfl
  have hR52 := hR36.trans hR50 rfl
  refine Or.inr (Or.inl ⟨rfl, ?_⟩)
  refine r_call (i := 16) (u := 11) (v := 199) (w := 0) (b := 0) (na := 1284) (C2 := xC199) (as := [(2, 43), vi w0, vi ow, vi z40]) (s := []) rfl rfl rfl rfl rfl rfl rfl (sp199 (w0 := w0) (a := ow) (b := z40) hI48 ⟨by omega, by omega⟩ ⟨by omega, by omega⟩ ⟨by omega, by omega⟩ (by omega) e47 (by omega)) (fun r53 S54 hq55 => ?_)
  obtain ⟨z56, rfl, h57, h58, h59, h60, ec61, men62, e63, hI64, hF65, hR66⟩ := hq55
  have hF67 := hF51.trans hF65 rfl rfl
  have hR68 := hR52.trans hR66 rfl
  refine Or.inr (Or.inl ⟨rfl, ?_⟩)
  have h69 := hI64.f tf43_51
  have h70 : S54.f 43 51 = S38.f 43 51 := hF65.f rfl
  have h71 : S38.f 43 51 = S21.f 43 51 := hF49.f rfl
  exact r_retI (i := 17) rfl ⟨z56, rfl, by omega, by omega, (by omega), (by omega), (by omega), (by intro g9 g2; exact mI_m2 mi12 mi30 men46 men62 (sBo_fr hF49 rfl rfl) (sBo_fr hF65 rfl rfl) g9 g2), e63, hI64, hF67, hR68⟩
/-- ProxyForgeModel.nameOf -/
theorem sp222 {G : xk} {S : yS} {d : Nat} (hI : yI S) {m : Int} (h_m : 0 ≤ m ∧ m ≤ 59) (p_0 : S.f 43 51 = 0) (p_1 : wphi S ≤ 19990) (p_2 : wpsi S ≤ 1140) (e_wLV : wLV S) (hd : 6 ≤ d) : yT xPr G LY xC222 0 [some ((2, 43)), some (vi m)] [] S d (fun r S' => ∃ z : Int, r = (1, vi z) ∧ 1 ≤ z ∧ z ≤ 1199 ∧ wphi S' ≤ wphi S ∧ wpsi S' ≤ wpsi S ∧ S'.f 43 51 = 0 ∧ mI S S' (wpt (txE (nmL (S.a 53 m.toNat)))) z (wix (txE (nmL (S.a 53 m.toNat)))) ∧ wLV S' ∧ yI S' ∧ yFr [(43, 49), (43, 50), (43, 51)] [73, 74, 75, 76, 77] S S' ∧ yRm [] S S') := by
  refine yT_pad 0 ?_
  show yT xPr G LY xC222 0 [some ((2, 43)), some (vi m)] [] S d _
  obtain ⟨d, rfl⟩ : ∃ q, d = q + 1 := ⟨d - 1, by omega⟩
  have hF : yFr [(43, 49), (43, 50), (43, 51)] [73, 74, 75, 76, 77] S S := yFr.refl S
  have hR : yRm [] S S := yRm.refl S
  have h1 := hI.f tf43_51
  refine r_load (i := 0) (u := 0) (w := 2) rfl rfl rfl ?_
  refine r_getf (i := 1) (v := 12) (w := 11) (x := (2, 53)) rfl ly43 rfl rfl fun _ => ?_
  refine r_load (i := 2) (u := 1) (w := 0) rfl rfl rfl ?_
  refine a_int (i := 3) rfl ly53 rfl (by omega) (by omega) fun h3 => ?_
  have h4 := hI.a ta53 m.toNat
  refine r_const (i := 4) (u := 10) (z := 10) rfl rfl ?_
  refine c_ne (i := 5) (v := 10) rfl ⟨by omega, by omega⟩ ⟨by omega, by omega⟩ (fun h5 => ?_) (fun h6 => ?_)
  · refine r_load (i := 10) (u := 0) (w := 2) rfl rfl rfl ?_
    refine r_const (i := 11) (u := 109) (z := 109) rfl rfl ?_
    refine r_call (i := 12) (u := 11) (v := 241) (w := 0) (b := 0) (na := 514) (C2 := xC241) (as := [(2, 43), vi 109]) (s := []) rfl rfl rfl rfl rfl rfl rfl (sp241 (c := 109) hI ⟨by omega, by omega⟩ (by omega)  (by omega)) (fun r7 S8 hq9 => ?_)
    obtain ⟨rfl, h10, sg11, wsg12, hI13, hF14, hR15⟩ := hq9
    have hF16 := hF.trans hF14 rfl rfl
    have hR17 := hR.trans hR15 rfl
    have e18 := wLVx.fr e_wLV hF14 rfl rfl
    refine Or.inl ⟨rfl, ?_⟩
    refine r_load (i := 13) (u := 0) (w := 2) rfl rfl rfl ?_
    refine r_load (i := 14) (u := 0) (w := 2) rfl rfl rfl ?_
    refine r_getf (i := 15) (v := 12) (w := 11) (x := (2, 53)) rfl ly43 rfl rfl fun _ => ?_
    refine r_load (i := 16) (u := 1) (w := 0) rfl rfl rfl ?_
    refine a_int (i := 17) rfl ly53 rfl (by omega) (by omega) fun h20 => ?_
    have h21 := hI13.a ta53 m.toNat
    have h22 : S8.a 53 m.toNat = S.a 53 m.toNat := hF14.a rfl _
    have h23 := hI13.f tf43_51
    refine r_call (i := 18) (u := 11) (v := 248) (w := 0) (b := 0) (na := 514) (C2 := xC248) (as := [(2, 43), vi (S8.a 53 m.toNat)]) (s := []) rfl rfl rfl rfl rfl rfl rfl (sp248 (v := S8.a 53 m.toNat) hI13 ⟨by omega, by omega⟩ (by omega)  (by omega)) (fun r24 S25 hq26 => ?_)
    obtain ⟨rfl, h27, h28, sn29, wsn30, hI31, hF32, hR33⟩ := hq26
    have hF34 := hF16.trans hF32 rfl rfl
    have hR35 := hR17.trans hR33 rfl
    have e36 := wLVx.fr e18 hF32 rfl rfl
    refine Or.inl ⟨rfl, ?_⟩
    refine r_load (i := 19) (u := 0) (w := 2) rfl rfl rfl ?_
    have h37 : wphi S25 = wphi S8 := wphiX.fr hF32 rfl rfl
    have h38 : wphi S8 = wphi S := wphiX.fr hF14 rfl rfl
    have h39 : wpsi S25 = wpsi S8 := wpsiX.fr hF32 rfl rfl
    have h40 : wpsi S8 = wpsi S := wpsiX.fr hF14 rfl rfl
    have h41 := hI31.f tf43_51
    refine r_call (i := 20) (u := 11) (v := 251) (w := 0) (b := 0) (na := 1281) (C2 := xC251) (as := [(2, 43)]) (s := []) rfl rfl rfl rfl rfl rfl rfl (sp251  hI31  (by omega) (by omega) (by omega) e36 (by omega)) (fun r42 S43 hq44 => ?_)
    obtain ⟨z45, rfl, h46, h47, h48, h49, tx50, h51, mtx52, e53, hI54, hF55, hR56⟩ := hq44
    have hF57 := hF34.trans hF55 rfl rfl
    have hR58 := hR35.trans hR56 rfl
    refine Or.inr (Or.inl ⟨rfl, ?_⟩)
    obtain ⟨tx1, tx2, tx3⟩ := tx50 _ (wnm_mem (by omega) (by omega)) (wWD_nm sg11 (by omega) sn29 (by omega) (by omega) (by omega) (by omega))
    have h59 := hI54.f tf43_51
    have h60 := hI54.a ta53 m.toNat
    have h61 : S43.a 53 m.toNat = S25.a 53 m.toNat := hF55.a rfl _
    have h62 : S25.a 53 m.toNat = S8.a 53 m.toNat := hF32.a rfl _
    have h63 : S8.a 53 m.toNat = S.a 53 m.toNat := hF14.a rfl _
    have h64 := hI54.a ta53 m.toNat
    exact r_retI (i := 21) rfl ⟨z45, rfl, by omega, by omega, (by omega), (by omega), (by omega), (by exact mI_tx p_0 (nmM_n wsg12 wsn30 (by omega) (by omega) (by omega)) (sPo_tr (sPo_fr hF14 rfl rfl) (sPo_fr hF32 rfl rfl)) mtx52 (sBo_tr (sBo_tr (sBo_fr hF14 rfl rfl) (sBo_fr hF32 rfl rfl)) (sBo_fr hF55 rfl rfl))), e53, hI54, hF57, hR58⟩
  · refine r_load (i := 6) (u := 0) (w := 2) rfl rfl rfl ?_
    refine r_str (i := 7) (v := 48) rfl ?_
    have h65 := slv48
    refine r_call (i := 8) (u := 11) (v := 252) (w := 0) (b := 0) (na := 514) (C2 := xC252) (as := [(2, 43), (6, 48)]) (s := []) rfl rfl rfl rfl rfl rfl rfl (sp252 (s := 48) hI ⟨by decide, by decide⟩ (by omega) (by omega) (by omega) (by omega) e_wLV (by omega)) (fun r66 S67 hq68 => ?_)
    obtain ⟨z69, rfl, h70, h71, h72, h73, h74, fm75, mi76, e77, hI78, hF79, hR80⟩ := hq68
    have hF81 := hF.trans hF79 rfl rfl
    have hR82 := hR.trans hR80 rfl
    refine Or.inr (Or.inl ⟨rfl, ?_⟩)
    have h83 := hI78.f tf43_51
    have h84 := hI78.a ta53 m.toNat
    have h85 : S67.a 53 m.toNat = S.a 53 m.toNat := hF79.a rfl _
    have h86 := hI78.a ta53 m.toNat
    exact r_retI (i := 9) rfl ⟨z69, rfl, by omega, by omega, (by omega), (by omega), (by omega), (by rw [nmM_10 (show S.a 53 m.toNat = 10 by omega)]; exact mi76), e77, hI78, hF81, hR82⟩
/-- ProxyForgeModel.memberOf -/
theorem sp219 {G : xk} {S : yS} {d : Nat} (hI : yI S) {w0 : Int} (h_w0 : 2 ≤ w0 ∧ w0 ≤ 12) {ow : Int} (h_ow : 0 ≤ ow ∧ ow ≤ 1199) {m : Int} (h_m : 0 ≤ m ∧ m ≤ 59) (p_0 : S.f 43 51 = 0) (p_1 : wphi S ≤ 19800) (p_2 : wpsi S ≤ 1120) (e_wLV : wLV S) (hd : 8 ≤ d) : yT xPr G LY xC219 0 [some ((2, 43)), some (vi w0), some (vi ow), some (vi m)] [] S d (fun r S' => ∃ z : Int, r = (1, vi z) ∧ 1 ≤ z ∧ z ≤ 1199 ∧ wphi S' ≤ wphi S + 155 ∧ (S.a 56 m.toNat = 0 → wphi S' ≤ wphi S + 128) ∧ wpsi S' ≤ wpsi S + 3 ∧ S'.f 43 51 = 0 ∧ (9 ≤ w0 → w0 ≤ 12 → mI S S' (wm2 w0 ow (nmL (S.a 53 m.toNat)) (dsL (pkR 48 S) [] (S.a 55 m.toNat) (S.a 56 m.toNat))) z (im2 w0 ow (nmL (S.a 53 m.toNat)) (dsL (pkR 48 S) [] (S.a 55 m.toNat) (S.a 56 m.toNat)))) ∧ wLV S' ∧ yI S' ∧ yFr [(43, 49), (43, 50), (43, 51)] [73, 74, 75, 76, 77] S S' ∧ yRm [] S S') := by
  refine yT_pad 2 ?_
  show yT xPr G LY xC219 0 [some ((2, 43)), some (vi w0), some (vi ow), some (vi m), none, none] [] S d _
  obtain ⟨d, rfl⟩ : ∃ q, d = q + 1 := ⟨d - 1, by omega⟩
  have hF : yFr [(43, 49), (43, 50), (43, 51)] [73, 74, 75, 76, 77] S S := yFr.refl S
  have hR : yRm [] S S := yRm.refl S
  have h1 := hI.f tf43_51
  refine r_load (i := 0) (u := 0) (w := 2) rfl rfl rfl ?_
  refine r_load (i := 1) (u := 3) (w := 0) rfl rfl rfl ?_
  have h2 := hI.a ta53 m.toNat
  have h3 := hI.a ta53 m.toNat
  refine r_call (i := 2) (u := 11) (v := 222) (w := 0) (b := 0) (na := 514) (C2 := xC222) (as := [(2, 43), vi m]) (s := []) rfl rfl rfl rfl rfl rfl rfl (sp222 (m := m) hI ⟨by omega, by omega⟩ (by omega) (by omega) (by omega) e_wLV (by omega)) (fun r4 S5 hq6 => ?_)
  obtain ⟨z7, rfl, h8, h9, h10, h11, h12, mi13, e14, hI15, hF16, hR17⟩ := hq6
  have hF18 := hF.trans hF16 rfl rfl
  have hR19 := hR.trans hR17 rfl
  refine Or.inr (Or.inl ⟨rfl, ?_⟩)
  refine r_store (i := 3) (u := 4) (w := 0) (L1 := [some ((2, 43)), some (vi w0), some (vi ow), some (vi m), some (vi z7), none]) rfl rfl rfl rfl ?_
  refine r_load (i := 4) (u := 0) (w := 2) rfl rfl rfl ?_
  refine r_load (i := 5) (u := 3) (w := 0) rfl rfl rfl ?_
  refine r_const (i := 6) (u := 0) (z := 0) rfl rfl ?_
  have h20 := hI15.f tf43_51
  have h21 := hI15.a ta56 m.toNat
  have h22 : S5.a 56 m.toNat = S.a 56 m.toNat := hF16.a rfl _
  have h23 := hI15.a ta55 m.toNat
  have h24 : S5.a 55 m.toNat = S.a 55 m.toNat := hF16.a rfl _
  have h25 := hI15.a ta56 m.toNat
  refine r_call (i := 7) (u := 11) (v := 246) (w := 0) (b := 0) (na := 1027) (C2 := xC246) (as := [(2, 43), vi m, vi 0]) (s := []) rfl rfl rfl rfl rfl rfl rfl (sp246 (m := m) (cb := 0) hI15 ⟨by omega, by omega⟩ ⟨by omega, by omega⟩ (by omega)  (by omega)) (fun r26 S27 hq28 => ?_)
  obtain ⟨rfl, h29, h30, wds31, hI32, hF33, hR34⟩ := hq28
  have hF35 := hF18.trans hF33 rfl rfl
  have hR36 := hR19.trans hR34 rfl
  have e37 := wLVx.fr e14 hF33 rfl rfl
  refine Or.inl ⟨rfl, ?_⟩
  refine r_load (i := 8) (u := 0) (w := 2) rfl rfl rfl ?_
  have h38 : wphi S27 = wphi S5 := wphiX.fr hF33 rfl rfl
  have h39 : wpsi S27 = wpsi S5 := wpsiX.fr hF33 rfl rfl
  have h40 := hI32.f tf43_51
  refine r_call (i := 9) (u := 11) (v := 251) (w := 0) (b := 0) (na := 1281) (C2 := xC251) (as := [(2, 43)]) (s := []) rfl rfl rfl rfl rfl rfl rfl (sp251  hI32  (by omega) (by omega) (by omega) e37 (by omega)) (fun r41 S42 hq43 => ?_)
  obtain ⟨z44, rfl, h45, h46, h47, h48, tx49, h50, mtx51, e52, hI53, hF54, hR55⟩ := hq43
  have hF56 := hF35.trans hF54 rfl rfl
  have hR57 := hR36.trans hR55 rfl
  refine Or.inr (Or.inl ⟨rfl, ?_⟩)
  refine r_store (i := 10) (u := 5) (w := 0) (L1 := [some ((2, 43)), some (vi w0), some (vi ow), some (vi m), some (vi z7), some (vi z44)]) rfl rfl rfl rfl ?_
  refine r_load (i := 11) (u := 0) (w := 2) rfl rfl rfl ?_
  refine r_load (i := 12) (u := 1) (w := 0) rfl rfl rfl ?_
  refine r_load (i := 13) (u := 2) (w := 0) rfl rfl rfl ?_
  refine r_load (i := 14) (u := 0) (w := 2) rfl rfl rfl ?_
  refine r_const (i := 15) (u := 12) (z := 12) rfl rfl ?_
  refine r_load (i := 16) (u := 4) (w := 0) rfl rfl rfl ?_
  refine r_load (i := 17) (u := 5) (w := 0) rfl rfl rfl ?_
  refine r_call (i := 18) (u := 11) (v := 199) (w := 0) (b := 0) (na := 1284) (C2 := xC199) (as := [(2, 43), vi 12, vi z7, vi z44]) (s := [vi ow, vi w0, (2, 43)]) rfl rfl rfl rfl rfl rfl rfl (sp199 (w0 := 12) (a := z7) (b := z44) hI53 ⟨by omega, by omega⟩ ⟨by omega, by omega⟩ ⟨by omega, by omega⟩ (by omega) e52 (by omega)) (fun r58 S59 hq60 => ?_)
  obtain ⟨z61, rfl, h62, h63, h64, h65, ec66, men67, e68, hI69, hF70, hR71⟩ := hq60
  have hF72 := hF56.trans hF70 rfl rfl
  have hR73 := hR57.trans hR71 rfl
  refine Or.inr (Or.inl ⟨rfl, ?_⟩)
  refine r_call (i := 19) (u := 11) (v := 199) (w := 0) (b := 0) (na := 1284) (C2 := xC199) (as := [(2, 43), vi w0, vi ow, vi z61]) (s := []) rfl rfl rfl rfl rfl rfl rfl (sp199 (w0 := w0) (a := ow) (b := z61) hI69 ⟨by omega, by omega⟩ ⟨by omega, by omega⟩ ⟨by omega, by omega⟩ (by omega) e68 (by omega)) (fun r74 S75 hq76 => ?_)
  obtain ⟨z77, rfl, h78, h79, h80, h81, ec82, men83, e84, hI85, hF86, hR87⟩ := hq76
  have hF88 := hF72.trans hF86 rfl rfl
  have hR89 := hR73.trans hR87 rfl
  refine Or.inr (Or.inl ⟨rfl, ?_⟩)
  have h90 := hI85.a ta56 m.toNat
  have h91 : S75.a 56 m.toNat = S59.a 56 m.toNat := hF86.a rfl _
  have h92 : S59.a 56 m.toNat = S42.a 56 m.toNat := hF70.a rfl _
  have h93 : S42.a 56 m.toNat = S27.a 56 m.toNat := hF54.a rfl _
  have h94 : S27.a 56 m.toNat = S5.a 56 m.toNat := hF33.a rfl _
  have h95 : S5.a 56 m.toNat = S.a 56 m.toNat := hF16.a rfl _
  have h96 := hI85.f tf43_51
  have h97 : S75.f 43 51 = S59.f 43 51 := hF86.f rfl
  have h98 : S59.f 43 51 = S42.f 43 51 := hF70.f rfl
  have h99 := hI85.a ta53 m.toNat
  have h100 : S75.a 53 m.toNat = S59.a 53 m.toNat := hF86.a rfl _
  have h101 : S59.a 53 m.toNat = S42.a 53 m.toNat := hF70.a rfl _
  have h102 : S42.a 53 m.toNat = S27.a 53 m.toNat := hF54.a rfl _
  have h103 : S27.a 53 m.toNat = S5.a 53 m.toNat := hF33.a rfl _
  have h104 : S5.a 53 m.toNat = S.a 53 m.toNat := hF16.a rfl _
  have h105 := hI85.a ta55 m.toNat
  have h106 : S75.a 55 m.toNat = S59.a 55 m.toNat := hF86.a rfl _
  have h107 : S59.a 55 m.toNat = S42.a 55 m.toNat := hF70.a rfl _
  have h108 : S42.a 55 m.toNat = S27.a 55 m.toNat := hF54.a rfl _
  have h109 : S27.a 55 m.toNat = S5.a 55 m.toNat := hF33.a rfl _
  have h110 : S5.a 55 m.toNat = S.a 55 m.toNat := hF16.a rfl _
  have h111 := hI85.a ta56 m.toNat
  have h112 := hI85.a ta53 m.toNat
  have h113 := hI85.a ta55 m.toNat
  have h114 := hI85.a ta56 m.toNat
  exact r_retI (i := 20) rfl ⟨z77, rfl, by omega, by omega, (by omega), (by omega), (by omega), (by omega), (by intro g9 g2; exact mI_m2 mi13 (mI_tx (by omega) (ds_c0 wds31 (pkR_fr hF16 rfl) (hF16.a rfl _) (hF16.a rfl _)) (sPo_fr hF33 rfl rfl) mtx51 (sBo_tr (sBo_fr hF33 rfl rfl) (sBo_fr hF54 rfl rfl))) men67 men83 (sBo_fr hF70 rfl rfl) (sBo_fr hF86 rfl rfl) g9 g2), e84, hI85, hF88, hR89⟩
end XNC
