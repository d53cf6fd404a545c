set_option linter.unusedVariables false
set_option maxRecDepth 4000
noncomputable section XNC
/-- ProxyForge$Pool.typeName -/
theorem sp99 {G : xk} {S : yS} {d : Nat} (hI : yI S) {t : Int} (h_t : 0 ≤ t ∧ t ≤ 19) (p_0 : S.f 31 1 + 26 ≤ 60000) (hd : 5 ≤ d) : yT xPr G LY xC99 0 [some ((2, 36)), some (vi t)] [] S d (fun r S' => r = (0, (0, 0)) ∧ (S.f 31 1 ≤ S'.f 31 1 ∧ S'.f 31 1 ≤ S.f 31 1 + 26) ∧ yI S' ∧ yFr [(31, 1)] [100, 105] S S' ∧ yRm [0] S S') := by
  refine yT_pad 0 ?_
  show yT xPr G LY xC99 0 [some ((2, 36)), some (vi t)] [] S d _
  obtain ⟨d, rfl⟩ : ∃ q, d = q + 1 := ⟨d - 1, by omega⟩
  have hF : yFr [(31, 1)] [100, 105] S S := yFr.refl S
  have hR : yRm [0] S S := yRm.refl S
  have h1 := hI.b0
  refine r_load (i := 0) (u := 1) (w := 0) rfl rfl rfl ?_
  refine z_ne (i := 1) (v := 7) rfl ⟨by omega, by omega⟩ (fun h2 => ?_) (fun h3 => ?_)
  · refine r_load (i := 7) (u := 1) (w := 0) rfl rfl rfl ?_
    refine r_const (i := 8) (u := 1) (z := 1) rfl rfl ?_
    refine c_ne (i := 9) (v := 15) rfl ⟨by omega, by omega⟩ ⟨by omega, by omega⟩ (fun h4 => ?_) (fun h5 => ?_)
    · refine r_load (i := 15) (u := 1) (w := 0) rfl rfl rfl ?_
      refine r_const (i := 16) (u := 2) (z := 2) rfl rfl ?_
      refine c_ne (i := 17) (v := 23) rfl ⟨by omega, by omega⟩ ⟨by omega, by omega⟩ (fun h6 => ?_) (fun h7 => ?_)
      · refine r_load (i := 23) (u := 1) (w := 0) rfl rfl rfl ?_
        refine r_const (i := 24) (u := 3) (z := 3) rfl rfl ?_
        refine c_ne (i := 25) (v := 31) rfl ⟨by omega, by omega⟩ ⟨by omega, by omega⟩ (fun h8 => ?_) (fun h9 => ?_)
        · refine r_load (i := 31) (u := 0) (w := 2) rfl rfl rfl ?_
          refine r_getf (i := 32) (v := 1) (w := 9) (x := (2, 31)) rfl ly36 rfl rfl fun _ => ?_
          refine r_const (i := 33) (u := 112) (z := 112) rfl rfl ?_
          refine r_call (i := 34) (u := 7) (v := 29) (w := 0) (b := 0) (na := 514) (C2 := xC29) (as := [(2, 31), vi 112]) (s := []) rfl rfl rfl rfl rfl rfl rfl (sp29_31 (b := 112) hI ⟨by omega, by omega⟩ (by omega)  (by omega)) (fun r11 S12 hq13 => ?_)
          obtain ⟨rfl, h14, hI15, hF16, hR17⟩ := hq13
          have hF18 := hF.trans hF16 rfl rfl
          have hR19 := hR.trans hR17 rfl
          refine Or.inl ⟨rfl, ?_⟩
          refine r_load (i := 35) (u := 0) (w := 2) rfl rfl rfl ?_
          refine r_getf (i := 36) (v := 1) (w := 9) (x := (2, 31)) rfl ly36 rfl rfl fun _ => ?_
          refine r_const (i := 37) (u := 48) (z := 48) rfl rfl ?_
          refine r_load (i := 38) (u := 0) (w := 2) rfl rfl rfl ?_
          refine r_getf (i := 39) (v := 0) (w := 9) (x := (2, 1)) rfl ly36 rfl rfl fun _ => ?_
          refine r_getf (i := 40) (v := 2) (w := 1) (x := (2, 4)) rfl ly1 rfl rfl fun _ => ?_
          refine r_load (i := 41) (u := 1) (w := 0) rfl rfl rfl ?_
          refine a_int (i := 42) rfl ly4 rfl (by omega) (by omega) fun h23 => ?_
          have h24 := hI15.a ta4 t.toNat
          have h25 : S12.a 4 t.toNat = S.a 4 t.toNat := hF16.a rfl _
          refine r_iadd (i := 43) rfl ?_
          have h26 := hI15.b0
          refine r_call (i := 44) (u := 7) (v := 29) (w := 0) (b := 0) (na := 514) (C2 := xC29) (as := [(2, 31), vi (48 + (S12.a 4 t.toNat))]) (s := []) rfl rfl rfl rfl rfl rfl rfl (sp29_31 (b := 48 + (S12.a 4 t.toNat)) hI15 ⟨by omega, by omega⟩ (by omega)  (by omega)) (fun r27 S28 hq29 => ?_)
          obtain ⟨rfl, h30, hI31, hF32, hR33⟩ := hq29
          have hF34 := hF18.trans hF32 rfl rfl
          have hR35 := hR19.trans hR33 rfl
          refine Or.inl ⟨rfl, ?_⟩
          refine r_load (i := 45) (u := 0) (w := 2) rfl rfl rfl ?_
          refine r_getf (i := 46) (v := 1) (w := 9) (x := (2, 31)) rfl ly36 rfl rfl fun _ => ?_
          refine r_str (i := 47) (v := 9) rfl ?_
          have h37 := slv9
          have h38 := hI31.b0
          refine r_call (i := 48) (u := 7) (v := 28) (w := 0) (b := 0) (na := 1026) (C2 := xC28) (as := [(2, 31), (6, 9)]) (s := []) rfl rfl rfl rfl rfl rfl rfl (sp28_31 (s := 9) hI31 ⟨by decide, by decide⟩ (by omega)  (by omega)) (fun r39 S40 hq41 => ?_)
          obtain ⟨rfl, h42, hI43, hF44, hR45⟩ := hq41
          have hF46 := hF34.trans hF44 rfl rfl
          have hR47 := hR35.trans hR45 rfl
          refine Or.inl ⟨rfl, ?_⟩
          refine r_load (i := 49) (u := 1) (w := 0) rfl rfl rfl ?_
          refine r_const (i := 50) (u := 10) (z := 10) rfl rfl ?_
          refine c_lt (i := 51) (v := 60) rfl ⟨by omega, by omega⟩ ⟨by omega, by omega⟩ (fun h48 => ?_) (fun h49 => ?_)
          · refine r_load (i := 60) (u := 0) (w := 2) rfl rfl rfl ?_
            refine r_getf (i := 61) (v := 1) (w := 9) (x := (2, 31)) rfl ly36 rfl rfl fun _ => ?_
            refine r_const (i := 62) (u := 48) (z := 48) rfl rfl ?_
            refine r_load (i := 63) (u := 1) (w := 0) rfl rfl rfl ?_
            refine r_const (i := 64) (u := 10) (z := 10) rfl rfl ?_
            refine r_irem (i := 65) rfl (by omega) (by omega) (by omega) (by omega) ?_
            refine r_iadd (i := 66) rfl ?_
            have h51 := hI43.b0
            refine r_call (i := 67) (u := 7) (v := 29) (w := 0) (b := 0) (na := 514) (C2 := xC29) (as := [(2, 31), vi (48 + (t % 10))]) (s := []) rfl rfl rfl rfl rfl rfl rfl (sp29_31 (b := 48 + (t % 10)) hI43 ⟨by omega, by omega⟩ (by omega)  (by omega)) (fun r52 S53 hq54 => ?_)
            obtain ⟨rfl, h55, hI56, hF57, hR58⟩ := hq54
            have hF59 := hF46.trans hF57 rfl rfl
            have hR60 := hR47.trans hR58 rfl
            refine Or.inl ⟨rfl, ?_⟩
            have h61 := hI56.b0
            exact r_ret0 (i := 68) rfl ⟨rfl, (by omega), hI56, hF59, hR60⟩
          · refine r_load (i := 52) (u := 0) (w := 2) rfl rfl rfl ?_
            refine r_getf (i := 53) (v := 1) (w := 9) (x := (2, 31)) rfl ly36 rfl rfl fun _ => ?_
            refine r_const (i := 54) (u := 48) (z := 48) rfl rfl ?_
            refine r_load (i := 55) (u := 1) (w := 0) rfl rfl rfl ?_
            refine r_const (i := 56) (u := 10) (z := 10) rfl rfl ?_
            refine r_idiv (i := 57) rfl (by omega) (by omega) (by omega) (by omega) ?_
            refine r_iadd (i := 58) rfl ?_
            have h63 := hI43.b0
            refine r_call (i := 59) (u := 7) (v := 29) (w := 0) (b := 0) (na := 514) (C2 := xC29) (as := [(2, 31), vi (48 + (t / 10))]) (s := []) rfl rfl rfl rfl rfl rfl rfl (sp29_31 (b := 48 + (t / 10)) hI43 ⟨by omega, by omega⟩ (by omega)  (by omega)) (fun r64 S65 hq66 => ?_)
            obtain ⟨rfl, h67, hI68, hF69, hR70⟩ := hq66
            have hF71 := hF46.trans hF69 rfl rfl
            have hR72 := hR47.trans hR70 rfl
            refine Or.inl ⟨rfl, ?_⟩
            refine r_load (i := 60) (u := 0) (w := 2) rfl rfl rfl ?_
            refine r_getf (i := 61) (v := 1) (w := 9) (x := (2, 31)) rfl ly36 rfl rfl fun _ => ?_
            refine r_const (i := 62) (u := 48) (z := 48) rfl rfl ?_
            refine r_load (i := 63) (u := 1) (w := 0) rfl rfl rfl ?_
            refine r_const (i := 64) (u := 10) (z := 10) rfl rfl ?_
            refine r_irem (i := 65) rfl (by omega) (by omega) (by omega) (by omega) ?_
            refine r_iadd (i := 66) rfl ?_
            have h74 := hI68.b0
            refine r_call (i := 67) (u := 7) (v := 29) (w := 0) (b := 0) (na := 514) (C2 := xC29) (as := [(2, 31), vi (48 + (t % 10))]) (s := []) rfl rfl rfl rfl rfl rfl rfl (sp29_31 (b := 48 + (t % 10)) hI68 ⟨by omega, by omega⟩ (by omega)  (by omega)) (fun r75 S76 hq77 => ?_)
            obtain ⟨rfl, h78, hI79, hF80, hR81⟩ := hq77
            have hF82 := hF71.trans hF80 rfl rfl
            have hR83 := hR72.trans hR81 rfl
            refine Or.inl ⟨rfl, ?_⟩
            have h84 := hI79.b0
            exact r_ret0 (i := 68) rfl ⟨rfl, (by omega), hI79, hF82, hR83⟩
        · refine r_load (i := 26) (u := 0) (w := 2) rfl rfl rfl ?_
          refine r_getf (i := 27) (v := 1) (w := 9) (x := (2, 31)) rfl ly36 rfl rfl fun _ => ?_
          refine r_str (i := 28) (v := 8) rfl ?_
          have h86 := slv8
          refine r_call (i := 29) (u := 7) (v := 28) (w := 0) (b := 0) (na := 1026) (C2 := xC28) (as := [(2, 31), (6, 8)]) (s := []) rfl rfl rfl rfl rfl rfl rfl (sp28_31 (s := 8) hI ⟨by decide, by decide⟩ (by omega)  (by omega)) (fun r87 S88 hq89 => ?_)
          obtain ⟨rfl, h90, hI91, hF92, hR93⟩ := hq89
          have hF94 := hF.trans hF92 rfl rfl
          have hR95 := hR.trans hR93 rfl
          refine Or.inl ⟨rfl, ?_⟩
          refine r_goto (i := 30) (v := 68) rfl ?_
          have h96 := hI91.b0
          exact r_ret0 (i := 68) rfl ⟨rfl, (by omega), hI91, hF94, hR95⟩
      · refine r_load (i := 18) (u := 0) (w := 2) rfl rfl rfl ?_
        refine r_getf (i := 19) (v := 1) (w := 9) (x := (2, 31)) rfl ly36 rfl rfl fun _ => ?_
        refine r_str (i := 20) (v := 7) rfl ?_
        have h98 := slv7
        refine r_call (i := 21) (u := 7) (v := 28) (w := 0) (b := 0) (na := 1026) (C2 := xC28) (as := [(2, 31), (6, 7)]) (s := []) rfl rfl rfl rfl rfl rfl rfl (sp28_31 (s := 7) hI ⟨by decide, by decide⟩ (by omega)  (by omega)) (fun r99 S100 hq101 => ?_)
        obtain ⟨rfl, h102, hI103, hF104, hR105⟩ := hq101
        have hF106 := hF.trans hF104 rfl rfl
        have hR107 := hR.trans hR105 rfl
        refine Or.inl ⟨rfl, ?_⟩
        refine r_goto (i := 22) (v := 68) rfl ?_
        have h108 := hI103.b0
        exact r_ret0 (i := 68) rfl ⟨rfl, (by omega), hI103, hF106, hR107⟩
    · refine r_load (i := 10) (u := 0) (w := 2) rfl rfl rfl ?_
      refine r_getf (i := 11) (v := 1) (w := 9) (x := (2, 31)) rfl ly36 rfl rfl fun _ => ?_
      refine r_str (i := 12) (v := 6) rfl ?_
      have h110 := slv6
      refine r_call (i := 13) (u := 7) (v := 28) (w := 0) (b := 0) (na := 1026) (C2 := xC28) (as := [(2, 31), (6, 6)]) (s := []) rfl rfl rfl rfl rfl rfl rfl (sp28_31 (s := 6) hI ⟨by decide, by decide⟩ (by omega)  (by omega)) (fun r111 S112 hq113 => ?_)
      obtain ⟨rfl, h114, hI115, hF116, hR117⟩ := hq113
      have hF118 := hF.trans hF116 rfl rfl
      have hR119 := hR.trans hR117 rfl
      refine Or.inl ⟨rfl, ?_⟩
      refine r_goto (i := 14) (v := 68) rfl ?_
      have h120 := hI115.b0
      exact r_ret0 (i := 68) rfl ⟨rfl, (by omega), hI115, hF118, hR119⟩
  · refine r_load (i := 2) (u := 0) (w := 2) rfl rfl rfl ?_
    refine r_getf (i := 3) (v := 1) (w := 9) (x := (2, 31)) rfl ly36 rfl rfl fun _ => ?_
    refine r_str (i := 4) (v := 5) rfl ?_
    have h122 := slv5
    refine r_call (i := 5) (u := 7) (v := 28) (w := 0) (b := 0) (na := 1026) (C2 := xC28) (as := [(2, 31), (6, 5)]) (s := []) rfl rfl rfl rfl rfl rfl rfl (sp28_31 (s := 5) hI ⟨by decide, by decide⟩ (by omega)  (by omega)) (fun r123 S124 hq125 => ?_)
    obtain ⟨rfl, h126, hI127, hF128, hR129⟩ := hq125
    have hF130 := hF.trans hF128 rfl rfl
    have hR131 := hR.trans hR129 rfl
    refine Or.inl ⟨rfl, ?_⟩
    refine r_goto (i := 6) (v := 68) rfl ?_
    have h132 := hI127.b0
    exact r_ret0 (i := 68) rfl ⟨rfl, (by omega), hI127, hF130, hR131⟩
/-- ProxyForge$Pool.kindLetters -/
theorem sp92 {G : xk} {S : yS} {d : Nat} (hI : yI S) {k : Int} (h_k : 0 ≤ k ∧ k ≤ 23) (p_0 : S.f 31 1 + 28 ≤ 60000) (hd : 6 ≤ d) : yT xPr G LY xC92 0 [some ((2, 36)), some (vi k)] [] S d (fun r S' => r = (0, (0, 0)) ∧ (S.f 31 1 ≤ S'.f 31 1 ∧ S'.f 31 1 ≤ S.f 31 1 + 28) ∧ yI S' ∧ yFr [(31, 1)] [100, 105] S S' ∧ yRm [0] S S') := by
  refine yT_pad 0 ?_
  show yT xPr G LY xC92 0 [some ((2, 36)), some (vi k)] [] S d _
  obtain ⟨d, rfl⟩ : ∃ q, d = q + 1 := ⟨d - 1, by omega⟩
  have hF : yFr [(31, 1)] [100, 105] S S := yFr.refl S
  have hR : yRm [0] S S := yRm.refl S
  have h1 := hI.b0
  refine r_load (i := 0) (u := 1) (w := 0) rfl rfl rfl ?_
  refine z_ne (i := 1) (v := 7) rfl ⟨by omega, by omega⟩ (fun h2 => ?_) (fun h3 => ?_)
  · refine r_load (i := 7) (u := 1) (w := 0) rfl rfl rfl ?_
    refine r_const (i := 8) (u := 1) (z := 1) rfl rfl ?_
    refine c_ne (i := 9) (v := 15) rfl ⟨by omega, by omega⟩ ⟨by omega, by omega⟩ (fun h4 => ?_) (fun h5 => ?_)
    · refine r_load (i := 15) (u := 1) (w := 0) rfl rfl rfl ?_
      refine r_const (i := 16) (u := 2) (z := 2) rfl rfl ?_
      refine c_ne (i := 17) (v := 23) rfl ⟨by omega, by omega⟩ ⟨by omega, by omega⟩ (fun h6 => ?_) (fun h7 => ?_)
      · refine r_load (i := 23) (u := 1) (w := 0) rfl rfl rfl ?_
        refine r_const (i := 24) (u := 3) (z := 3) rfl rfl ?_
        refine c_ne (i := 25) (v := 31) rfl ⟨by omega, by omega⟩ ⟨by omega, by omega⟩ (fun h8 => ?_) (fun h9 => ?_)
        · refine r_load (i := 31) (u := 0) (w := 2) rfl rfl rfl ?_
          refine r_getf (i := 32) (v := 1) (w := 9) (x := (2, 31)) rfl ly36 rfl rfl fun _ => ?_
          refine r_const (i := 33) (u := 76) (z := 76) rfl rfl ?_
          refine r_call (i := 34) (u := 7) (v := 29) (w := 0) (b := 0) (na := 514) (C2 := xC29) (as := [(2, 31), vi 76]) (s := []) rfl rfl rfl rfl rfl rfl rfl (sp29_31 (b := 76) hI ⟨by omega, by omega⟩ (by omega)  (by omega)) (fun r11 S12 hq13 => ?_)
          obtain ⟨rfl, h14, hI15, hF16, hR17⟩ := hq13
          have hF18 := hF.trans hF16 rfl rfl
          have hR19 := hR.trans hR17 rfl
          refine Or.inl ⟨rfl, ?_⟩
          refine r_load (i := 35) (u := 0) (w := 2) rfl rfl rfl ?_
          refine r_load (i := 36) (u := 1) (w := 0) rfl rfl rfl ?_
          refine r_const (i := 37) (u := 4) (z := 4) rfl rfl ?_
          refine r_isub (i := 38) rfl ?_
          have h20 := hI15.b0
          refine r_call (i := 39) (u := 9) (v := 99) (w := 0) (b := 0) (na := 514) (C2 := xC99) (as := [(2, 36), vi (k - 4)]) (s := []) rfl rfl rfl rfl rfl rfl rfl (sp99 (t := k - 4) hI15 ⟨by omega, by omega⟩ (by omega)  (by omega)) (fun r21 S22 hq23 => ?_)
          obtain ⟨rfl, h24, hI25, hF26, hR27⟩ := hq23
          have hF28 := hF18.trans hF26 rfl rfl
          have hR29 := hR19.trans hR27 rfl
          refine Or.inl ⟨rfl, ?_⟩
          refine r_load (i := 40) (u := 0) (w := 2) rfl rfl rfl ?_
          refine r_getf (i := 41) (v := 1) (w := 9) (x := (2, 31)) rfl ly36 rfl rfl fun _ => ?_
          refine r_const (i := 42) (u := 59) (z := 59) rfl rfl ?_
          have h31 := hI25.b0
          refine r_call (i := 43) (u := 7) (v := 29) (w := 0) (b := 0) (na := 514) (C2 := xC29) (as := [(2, 31), vi 59]) (s := []) rfl rfl rfl rfl rfl rfl rfl (sp29_31 (b := 59) hI25 ⟨by omega, by omega⟩ (by omega)  (by omega)) (fun r32 S33 hq34 => ?_)
          obtain ⟨rfl, h35, hI36, hF37, hR38⟩ := hq34
          have hF39 := hF28.trans hF37 rfl rfl
          have hR40 := hR29.trans hR38 rfl
          refine Or.inl ⟨rfl, ?_⟩
          have h41 := hI36.b0
          exact r_ret0 (i := 44) rfl ⟨rfl, (by omega), hI36, hF39, hR40⟩
        · refine r_load (i := 26) (u := 0) (w := 2) rfl rfl rfl ?_
          refine r_getf (i := 27) (v := 1) (w := 9) (x := (2, 31)) rfl ly36 rfl rfl fun _ => ?_
          refine r_const (i := 28) (u := 90) (z := 90) rfl rfl ?_
          refine r_call (i := 29) (u := 7) (v := 29) (w := 0) (b := 0) (na := 514) (C2 := xC29) (as := [(2, 31), vi 90]) (s := []) rfl rfl rfl rfl rfl rfl rfl (sp29_31 (b := 90) hI ⟨by omega, by omega⟩ (by omega)  (by omega)) (fun r43 S44 hq45 => ?_)
          obtain ⟨rfl, h46, hI47, hF48, hR49⟩ := hq45
          have hF50 := hF.trans hF48 rfl rfl
          have hR51 := hR.trans hR49 rfl
          refine Or.inl ⟨rfl, ?_⟩
          refine r_goto (i := 30) (v := 44) rfl ?_
          have h52 := hI47.b0
          exact r_ret0 (i := 44) rfl ⟨rfl, (by omega), hI47, hF50, hR51⟩
      · refine r_load (i := 18) (u := 0) (w := 2) rfl rfl rfl ?_
        refine r_getf (i := 19) (v := 1) (w := 9) (x := (2, 31)) rfl ly36 rfl rfl fun _ => ?_
        refine r_const (i := 20) (u := 74) (z := 74) rfl rfl ?_
        refine r_call (i := 21) (u := 7) (v := 29) (w := 0) (b := 0) (na := 514) (C2 := xC29) (as := [(2, 31), vi 74]) (s := []) rfl rfl rfl rfl rfl rfl rfl (sp29_31 (b := 74) hI ⟨by omega, by omega⟩ (by omega)  (by omega)) (fun r54 S55 hq56 => ?_)
        obtain ⟨rfl, h57, hI58, hF59, hR60⟩ := hq56
        have hF61 := hF.trans hF59 rfl rfl
        have hR62 := hR.trans hR60 rfl
        refine Or.inl ⟨rfl, ?_⟩
        refine r_goto (i := 22) (v := 44) rfl ?_
        have h63 := hI58.b0
        exact r_ret0 (i := 44) rfl ⟨rfl, (by omega), hI58, hF61, hR62⟩
    · refine r_load (i := 10) (u := 0) (w := 2) rfl rfl rfl ?_
      refine r_getf (i := 11) (v := 1) (w := 9) (x := (2, 31)) rfl ly36 rfl rfl fun _ => ?_
      refine r_const (i := 12) (u := 73) (z := 73) rfl rfl ?_
      refine r_call (i := 13) (u := 7) (v := 29) (w := 0) (b := 0) (na := 514) (C2 := xC29) (as := [(2, 31), vi 73]) (s := []) rfl rfl rfl rfl rfl rfl rfl (sp29_31 (b := 73) hI ⟨by omega, by omega⟩ (by omega)  (by omega)) (fun r65 S66 hq67 => ?_)
      obtain ⟨rfl, h68, hI69, hF70, hR71⟩ := hq67
      have hF72 := hF.trans hF70 rfl rfl
      have hR73 := hR.trans hR71 rfl
      refine Or.inl ⟨rfl, ?_⟩
      refine r_goto (i := 14) (v := 44) rfl ?_
      have h74 := hI69.b0
      exact r_ret0 (i := 44) rfl ⟨rfl, (by omega), hI69, hF72, hR73⟩
  · refine r_load (i := 2) (u := 0) (w := 2) rfl rfl rfl ?_
    refine r_getf (i := 3) (v := 1) (w := 9) (x := (2, 31)) rfl ly36 rfl rfl fun _ => ?_
    refine r_const (i := 4) (u := 86) (z := 86) rfl rfl ?_
    refine r_call (i := 5) (u := 7) (v := 29) (w := 0) (b := 0) (na := 514) (C2 := xC29) (as := [(2, 31), vi 86]) (s := []) rfl rfl rfl rfl rfl rfl rfl (sp29_31 (b := 86) hI ⟨by omega, by omega⟩ (by omega)  (by omega)) (fun r76 S77 hq78 => ?_)
    obtain ⟨rfl, h79, hI80, hF81, hR82⟩ := hq78
    have hF83 := hF.trans hF81 rfl rfl
    have hR84 := hR.trans hR82 rfl
    refine Or.inl ⟨rfl, ?_⟩
    refine r_goto (i := 6) (v := 44) rfl ?_
    have h85 := hI80.b0
    exact r_ret0 (i := 44) rfl ⟨rfl, (by omega), hI80, hF83, hR84⟩
/-- ProxyForge$Pool.single -/
theorem sp97 {G : xk} {S : yS} {d : Nat} (hI : yI S) {w0 : Int} (h_w0 : -2147483648 ≤ w0 ∧ w0 ≤ 2147483647) {v : Int} (h_v : -2147483648 ≤ v ∧ v ≤ 2147483647) (p_0 : S.f 31 1 + 3 ≤ 60000) (e_PL : PL S) (hd : 5 ≤ d) : yT xPr G LY xC97 0 [some ((2, 36)), some (vi w0), some (vi v)] [] S d (fun r S' => ∃ z : Int, r = (1, vi z) ∧ 0 ≤ z ∧ z ≤ 200000 ∧ (S.f 31 1 ≤ S'.f 31 1 ∧ S'.f 31 1 ≤ S.f 31 1 + 3) ∧ PL S' ∧ yI S' ∧ yFr [(31, 1), (36, 5)] [37, 100, 102, 103, 105] S S' ∧ yRm [0, 2, 3] S S') := by
  refine yT_pad 1 ?_
  show yT xPr G LY xC97 0 [some ((2, 36)), some (vi w0), some (vi v), none] [] S d _
  obtain ⟨d, rfl⟩ : ∃ q, d = q + 1 := ⟨d - 1, by omega⟩
  have hF : yFr [(31, 1), (36, 5)] [37, 100, 102, 103, 105] S S := yFr.refl S
  have hR : yRm [0, 2, 3] S S := yRm.refl S
  have h1 := hI.b0
  refine r_load (i := 0) (u := 0) (w := 2) rfl rfl rfl ?_
  refine r_getf (i := 1) (v := 1) (w := 9) (x := (2, 31)) rfl ly36 rfl rfl fun _ => ?_
  refine r_getf (i := 2) (v := 1) (w := 7) (x := vi (S.f 31 1)) rfl ly31 rfl rfl fun h3 => ?_
  have h3 : Rg (S.f 31 1) := h3
  refine r_store (i := 3) (u := 3) (w := 0) (L1 := [some ((2, 36)), some (vi w0), some (vi v), some (vi (S.f 31 1))]) rfl rfl rfl rfl ?_
  refine r_load (i := 4) (u := 0) (w := 2) rfl rfl rfl ?_
  refine r_getf (i := 5) (v := 1) (w := 9) (x := (2, 31)) rfl ly36 rfl rfl fun _ => ?_
  refine r_load (i := 6) (u := 1) (w := 0) rfl rfl rfl ?_
  refine r_load (i := 7) (u := 2) (w := 0) rfl rfl rfl ?_
  refine r_call (i := 8) (u := 7) (v := 35) (w := 0) (b := 0) (na := 771) (C2 := xC35) (as := [(2, 31), vi w0, vi v]) (s := []) rfl rfl rfl rfl rfl rfl rfl (sp35_31 (b := w0) (c := v) hI ⟨by omega, by omega⟩ ⟨by omega, by omega⟩ (by omega)  (by omega)) (fun r5 S6 hq7 => ?_)
  obtain ⟨rfl, h8, hI9, hF10, hR11⟩ := hq7
  have hF12 := hF.trans hF10 rfl rfl
  have hR13 := hR.trans hR11 rfl
  have h15 := hI9.b0
  have e14 : PL S6 := PLat.up e_PL (hF10.f rfl) (by omega) (hR11.eq rfl rfl) (hR11.eq rfl rfl) (hF10.a rfl) (hF10.a rfl) (hF10.a rfl)
  have e16 := PTx.fr e_PL hF10 hR11 rfl rfl rfl
  refine Or.inl ⟨rfl, ?_⟩
  refine r_load (i := 9) (u := 0) (w := 2) rfl rfl rfl ?_
  refine r_load (i := 10) (u := 3) (w := 0) rfl rfl rfl ?_
  have h17 := hI9.b0
  refine r_call (i := 11) (u := 9) (v := 96) (w := 0) (b := 0) (na := 1538) (C2 := xC96) (as := [(2, 36), vi (S.f 31 1)]) (s := []) rfl rfl rfl rfl rfl rfl rfl (sp96 (st0 := S.f 31 1) hI9 ⟨by omega, by omega⟩ (by omega) (by exact e16)  (by omega)) (fun r18 S19 hq20 => ?_)
  obtain ⟨z21, rfl, h22, h23, h24, e25, hI26, hF27, hR28⟩ := hq20
  have hF29 := hF12.trans hF27 rfl rfl
  have hR30 := hR13.trans hR28 rfl
  refine Or.inr (Or.inl ⟨rfl, ?_⟩)
  have h31 := hI26.b0
  exact r_retI (i := 12) rfl ⟨z21, rfl, by omega, by omega, (by omega), e25, hI26, hF29, hR30⟩
/-- ProxyForge$Pool.pair -/
theorem sp94 {G : xk} {S : yS} {d : Nat} (hI : yI S) {w0 : Int} (h_w0 : -2147483648 ≤ w0 ∧ w0 ≤ 2147483647) {v : Int} (h_v : -2147483648 ≤ v ∧ v ≤ 2147483647) {v2 : Int} (h_v2 : -2147483648 ≤ v2 ∧ v2 ≤ 2147483647) (p_0 : S.f 31 1 + 5 ≤ 60000) (e_PL : PL S) (hd : 6 ≤ d) : yT xPr G LY xC94 0 [some ((2, 36)), some (vi w0), some (vi v), some (vi v2)] [] S d (fun r S' => ∃ z : Int, r = (1, vi z) ∧ 0 ≤ z ∧ z ≤ 200000 ∧ (S.f 31 1 ≤ S'.f 31 1 ∧ S'.f 31 1 ≤ S.f 31 1 + 5) ∧ PL S' ∧ yI S' ∧ yFr [(31, 1), (36, 5)] [37, 100, 102, 103, 105] S S' ∧ yRm [0, 2, 3] S S') := by
  refine yT_pad 1 ?_
  show yT xPr G LY xC94 0 [some ((2, 36)), some (vi w0), some (vi v), some (vi v2), none] [] S d _
  obtain ⟨d, rfl⟩ : ∃ q, d = q + 1 := ⟨d - 1, by omega⟩
  have hF : yFr [(31, 1), (36, 5)] [37, 100, 102, 103, 105] S S := yFr.refl S
  have hR : yRm [0, 2, 3] S S := yRm.refl S
  have h1 := hI.b0
  refine r_load (i := 0) (u := 0) (w := 2) rfl rfl rfl ?_
  refine r_getf (i := 1) (v := 1) (w := 9) (x := (2, 31)) rfl ly36 rfl rfl fun _ => ?_
  refine r_getf (i := 2) (v := 1) (w := 7) (x := vi (S.f 31 1)) rfl ly31 rfl rfl fun h3 => ?_
  have h3 : Rg (S.f 31 1) := h3
  refine r_store (i := 3) (u := 4) (w := 0) (L1 := [some ((2, 36)), some (vi w0), some (vi v), some (vi v2), some (vi (S.f 31 1))]) rfl rfl rfl rfl ?_
  refine r_load (i := 4) (u := 0) (w := 2) rfl rfl rfl ?_
  refine r_getf (i := 5) (v := 1) (w := 9) (x := (2, 31)) rfl ly36 rfl rfl fun _ => ?_
  refine r_load (i := 6) (u := 1) (w := 0) rfl rfl rfl ?_
  refine r_load (i := 7) (u := 2) (w := 0) rfl rfl rfl ?_
  refine r_call (i := 8) (u := 7) (v := 35) (w := 0) (b := 0) (na := 771) (C2 := xC35) (as := [(2, 31), vi w0, vi v]) (s := []) rfl rfl rfl rfl rfl rfl rfl (sp35_31 (b := w0) (c := v) hI ⟨by omega, by omega⟩ ⟨by omega, by omega⟩ (by omega)  (by omega)) (fun r5 S6 hq7 => ?_)
  obtain ⟨rfl, h8, hI9, hF10, hR11⟩ := hq7
  have hF12 := hF.trans hF10 rfl rfl
  have hR13 := hR.trans hR11 rfl
  have h15 := hI9.b0
  have e14 : PL S6 := PLat.up e_PL (hF10.f rfl) (by omega) (hR11.eq rfl rfl) (hR11.eq rfl rfl) (hF10.a rfl) (hF10.a rfl) (hF10.a rfl)
  have e16 := PTx.fr e_PL hF10 hR11 rfl rfl rfl
  refine Or.inl ⟨rfl, ?_⟩
  refine r_load (i := 9) (u := 0) (w := 2) rfl rfl rfl ?_
  refine r_getf (i := 10) (v := 1) (w := 9) (x := (2, 31)) rfl ly36 rfl rfl fun _ => ?_
  refine r_load (i := 11) (u := 3) (w := 0) rfl rfl rfl ?_
  have h18 := hI9.b0
  refine r_call (i := 12) (u := 7) (v := 36) (w := 0) (b := 0) (na := 514) (C2 := xC36) (as := [(2, 31), vi v2]) (s := []) rfl rfl rfl rfl rfl rfl rfl (sp36_31 (b := v2) hI9 ⟨by omega, by omega⟩ (by omega)  (by omega)) (fun r19 S20 hq21 => ?_)
  obtain ⟨rfl, h22, hI23, hF24, hR25⟩ := hq21
  have hF26 := hF12.trans hF24 rfl rfl
  have hR27 := hR13.trans hR25 rfl
  have h29 := hI23.b0
  have e28 : PL S20 := PLat.up e14 (hF24.f rfl) (by omega) (hR25.eq rfl rfl) (hR25.eq rfl rfl) (hF24.a rfl) (hF24.a rfl) (hF24.a rfl)
  have e30 := PTx.fr e16 hF24 hR25 rfl rfl rfl
  refine Or.inl ⟨rfl, ?_⟩
  refine r_load (i := 13) (u := 0) (w := 2) rfl rfl rfl ?_
  refine r_load (i := 14) (u := 4) (w := 0) rfl rfl rfl ?_
  have h31 := hI23.b0
  refine r_call (i := 15) (u := 9) (v := 96) (w := 0) (b := 0) (na := 1538) (C2 := xC96) (as := [(2, 36), vi (S.f 31 1)]) (s := []) rfl rfl rfl rfl rfl rfl rfl (sp96 (st0 := S.f 31 1) hI23 ⟨by omega, by omega⟩ (by omega) (by exact e30)  (by omega)) (fun r32 S33 hq34 => ?_)
  obtain ⟨z35, rfl, h36, h37, h38, e39, hI40, hF41, hR42⟩ := hq34
  have hF43 := hF26.trans hF41 rfl rfl
  have hR44 := hR27.trans hR42 rfl
  refine Or.inr (Or.inl ⟨rfl, ?_⟩)
  have h45 := hI40.b0
  exact r_retI (i := 16) rfl ⟨z35, rfl, by omega, by omega, (by omega), e39, hI40, hF43, hR44⟩
/-- ProxyForge$Pool.text -/
theorem sp98 {G : xk} {S : yS} {d : Nat} (hI : yI S) {s : Nat} (h_s : yStr s) (p_0 : S.f 31 1 + (3 + slen s) ≤ 60000) (e_PL : PL S) (hd : 5 ≤ d) : yT xPr G LY xC98 0 [some ((2, 36)), some ((6, s))] [] S d (fun r S' => ∃ z : Int, r = (1, vi z) ∧ 0 ≤ z ∧ z ≤ 200000 ∧ (S.f 31 1 ≤ S'.f 31 1 ∧ S'.f 31 1 ≤ S.f 31 1 + (3 + slen s)) ∧ PL S' ∧ yI S' ∧ yFr [(31, 1), (36, 5)] [37, 100, 102, 103, 105] S S' ∧ yRm [0, 2, 3] S S') := by
  refine yT_pad 1 ?_
  show yT xPr G LY xC98 0 [some ((2, 36)), some ((6, s)), none] [] S d _
  obtain ⟨d, rfl⟩ : ∃ q, d = q + 1 := ⟨d - 1, by omega⟩
  have hF : yFr [(31, 1), (36, 5)] [37, 100, 102, 103, 105] S S := yFr.refl S
  have hR : yRm [0, 2, 3] S S := yRm.refl S
  have h1 := hI.b0
  have sl9 := slen_le h_s
  refine r_load (i := 0) (u := 0) (w := 2) rfl rfl rfl ?_
  refine r_getf (i := 1) (v := 1) (w := 9) (x := (2, 31)) rfl ly36 rfl rfl fun _ => ?_
  refine r_getf (i := 2) (v := 1) (w := 7) (x := vi (S.f 31 1)) rfl ly31 rfl rfl fun h3 => ?_
  have h3 : Rg (S.f 31 1) := h3
  refine r_store (i := 3) (u := 2) (w := 0) (L1 := [some ((2, 36)), some ((6, s)), some (vi (S.f 31 1))]) rfl rfl rfl rfl ?_
  refine r_load (i := 4) (u := 0) (w := 2) rfl rfl rfl ?_
  refine r_getf (i := 5) (v := 1) (w := 9) (x := (2, 31)) rfl ly36 rfl rfl fun _ => ?_
  refine r_const (i := 6) (u := 1) (z := 1) rfl rfl ?_
  refine r_const (i := 7) (u := 0) (z := 0) rfl rfl ?_
  refine r_call (i := 8) (u := 7) (v := 35) (w := 0) (b := 0) (na := 771) (C2 := xC35) (as := [(2, 31), vi 1, vi 0]) (s := []) rfl rfl rfl rfl rfl rfl rfl (sp35_31 (b := 1) (c := 0) hI ⟨by omega, by omega⟩ ⟨by omega, by omega⟩ (by omega)  (by omega)) (fun r5 S6 hq7 => ?_)
  obtain ⟨rfl, h8, hI9, hF10, hR11⟩ := hq7
  have hF12 := hF.trans hF10 rfl rfl
  have hR13 := hR.trans hR11 rfl
  have h15 := hI9.b0
  have e14 : PL S6 := PLat.up e_PL (hF10.f rfl) (by omega) (hR11.eq rfl rfl) (hR11.eq rfl rfl) (hF10.a rfl) (hF10.a rfl) (hF10.a rfl)
  have e16 := PTx.fr e_PL hF10 hR11 rfl rfl rfl
  refine Or.inl ⟨rfl, ?_⟩
  refine r_load (i := 9) (u := 0) (w := 2) rfl rfl rfl ?_
  refine r_getf (i := 10) (v := 1) (w := 9) (x := (2, 31)) rfl ly36 rfl rfl fun _ => ?_
  refine r_load (i := 11) (u := 1) (w := 2) rfl rfl rfl ?_
  have h18 := hI9.b0
  refine r_call (i := 12) (u := 7) (v := 28) (w := 0) (b := 0) (na := 1026) (C2 := xC28) (as := [(2, 31), (6, s)]) (s := []) rfl rfl rfl rfl rfl rfl rfl (sp28_31 (s := s) hI9 h_s (by omega)  (by omega)) (fun r19 S20 hq21 => ?_)
  obtain ⟨rfl, h22, hI23, hF24, hR25⟩ := hq21
  have hF26 := hF12.trans hF24 rfl rfl
  have hR27 := hR13.trans hR25 rfl
  have h29 := hI23.b0
  have e28 : PL S20 := PLat.up e14 (hF24.f rfl) (by omega) (hR25.eq rfl rfl) (hR25.eq rfl rfl) (hF24.a rfl) (hF24.a rfl) (hF24.a rfl)
  have e30 := PTx.fr e16 hF24 hR25 rfl rfl rfl
  refine Or.inl ⟨rfl, ?_⟩
  refine r_load (i := 13) (u := 0) (w := 2) rfl rfl rfl ?_
  refine r_load (i := 14) (u := 2) (w := 0) rfl rfl rfl ?_
  have h31 := hI23.b0
  refine r_call (i := 15) (u := 9) (v := 96) (w := 0) (b := 0) (na := 1538) (C2 := xC96) (as := [(2, 36), vi (S.f 31 1)]) (s := []) rfl rfl rfl rfl rfl rfl rfl (sp96 (st0 := S.f 31 1) hI23 ⟨by omega, by omega⟩ (by omega) (by exact e30)  (by omega)) (fun r32 S33 hq34 => ?_)
  obtain ⟨z35, rfl, h36, h37, h38, e39, hI40, hF41, hR42⟩ := hq34
  have hF43 := hF26.trans hF41 rfl rfl
  have hR44 := hR27.trans hR42 rfl
  refine Or.inr (Or.inl ⟨rfl, ?_⟩)
  have h45 := hI40.b0
  exact r_retI (i := 16) rfl ⟨z35, rfl, by omega, by omega, (by omega), e39, hI40, hF43, hR44⟩
/-- ProxyForge$Pool.methodName -/
theorem sp93 {G : xk} {S : yS} {d : Nat} (hI : yI S) {w0 : Int} (h_w0 : 0 ≤ w0 ∧ w0 ≤ 10) (p_0 : S.f 31 1 + 9 ≤ 60000) (e_PL : PL S) (hd : 6 ≤ d) : yT xPr G LY xC93 0 [some ((2, 36)), some (vi w0)] [] S d (fun r S' => ∃ z : Int, r = (1, vi z) ∧ 0 ≤ z ∧ z ≤ 200000 ∧ (S.f 31 1 ≤ S'.f 31 1 ∧ S'.f 31 1 ≤ S.f 31 1 + 9) ∧ PL S' ∧ yI S' ∧ yFr [(31, 1), (36, 5)] [37, 100, 102, 103, 105] S S' ∧ yRm [0, 2, 3] S S') := by
  refine yT_pad 1 ?_
  show yT xPr G LY xC93 0 [some ((2, 36)), some (vi w0), none] [] S d _
  obtain ⟨d, rfl⟩ : ∃ q, d = q + 1 := ⟨d - 1, by omega⟩
  have hF : yFr [(31, 1), (36, 5)] [37, 100, 102, 103, 105] S S := yFr.refl S
  have hR : yRm [0, 2, 3] S S := yRm.refl S
  have h1 := hI.b0
  refine r_load (i := 0) (u := 1) (w := 0) rfl rfl rfl ?_
  refine r_const (i := 1) (u := 10) (z := 10) rfl rfl ?_
  refine c_ne (i := 2) (v := 7) rfl ⟨by omega, by omega⟩ ⟨by omega, by omega⟩ (fun h2 => ?_) (fun h3 => ?_)
  · refine r_load (i := 7) (u := 0) (w := 2) rfl rfl rfl ?_
    refine r_getf (i := 8) (v := 1) (w := 9) (x := (2, 31)) rfl ly36 rfl rfl fun _ => ?_
    refine r_getf (i := 9) (v := 1) (w := 7) (x := vi (S.f 31 1)) rfl ly31 rfl rfl fun h5 => ?_
    have h5 : Rg (S.f 31 1) := h5
    refine r_store (i := 10) (u := 2) (w := 0) (L1 := [some ((2, 36)), some (vi w0), some (vi (S.f 31 1))]) rfl rfl rfl rfl ?_
    refine r_load (i := 11) (u := 0) (w := 2) rfl rfl rfl ?_
    refine r_getf (i := 12) (v := 1) (w := 9) (x := (2, 31)) rfl ly36 rfl rfl fun _ => ?_
    refine r_const (i := 13) (u := 1) (z := 1) rfl rfl ?_
    refine r_const (i := 14) (u := 0) (z := 0) rfl rfl ?_
    refine r_call (i := 15) (u := 7) (v := 35) (w := 0) (b := 0) (na := 771) (C2 := xC35) (as := [(2, 31), vi 1, vi 0]) (s := []) rfl rfl rfl rfl rfl rfl rfl (sp35_31 (b := 1) (c := 0) hI ⟨by omega, by omega⟩ ⟨by omega, by omega⟩ (by omega)  (by omega)) (fun r7 S8 hq9 => ?_)
    obtain ⟨rfl, h10, hI11, hF12, hR13⟩ := hq9
    have hF14 := hF.trans hF12 rfl rfl
    have hR15 := hR.trans hR13 rfl
    have h17 := hI11.b0
    have e16 : PL S8 := PLat.up e_PL (hF12.f rfl) (by omega) (hR13.eq rfl rfl) (hR13.eq rfl rfl) (hF12.a rfl) (hF12.a rfl) (hF12.a rfl)
    have e18 := PTx.fr e_PL hF12 hR13 rfl rfl rfl
    refine Or.inl ⟨rfl, ?_⟩
    refine r_load (i := 16) (u := 0) (w := 2) rfl rfl rfl ?_
    refine r_getf (i := 17) (v := 1) (w := 9) (x := (2, 31)) rfl ly36 rfl rfl fun _ => ?_
    refine r_const (i := 18) (u := 109) (z := 109) rfl rfl ?_
    have h20 := hI11.b0
    refine r_call (i := 19) (u := 7) (v := 29) (w := 0) (b := 0) (na := 514) (C2 := xC29) (as := [(2, 31), vi 109]) (s := []) rfl rfl rfl rfl rfl rfl rfl (sp29_31 (b := 109) hI11 ⟨by omega, by omega⟩ (by omega)  (by omega)) (fun r21 S22 hq23 => ?_)
    obtain ⟨rfl, h24, hI25, hF26, hR27⟩ := hq23
    have hF28 := hF14.trans hF26 rfl rfl
    have hR29 := hR15.trans hR27 rfl
    have h31 := hI25.b0
    have e30 : PL S22 := PLat.up e16 (hF26.f rfl) (by omega) (hR27.eq rfl rfl) (hR27.eq rfl rfl) (hF26.a rfl) (hF26.a rfl) (hF26.a rfl)
    have e32 := PTx.fr e18 hF26 hR27 rfl rfl rfl
    refine Or.inl ⟨rfl, ?_⟩
    refine r_load (i := 20) (u := 0) (w := 2) rfl rfl rfl ?_
    refine r_getf (i := 21) (v := 1) (w := 9) (x := (2, 31)) rfl ly36 rfl rfl fun _ => ?_
    refine r_const (i := 22) (u := 48) (z := 48) rfl rfl ?_
    refine r_load (i := 23) (u := 1) (w := 0) rfl rfl rfl ?_
    refine r_iadd (i := 24) rfl ?_
    have h34 := hI25.b0
    refine r_call (i := 25) (u := 7) (v := 29) (w := 0) (b := 0) (na := 514) (C2 := xC29) (as := [(2, 31), vi (48 + w0)]) (s := []) rfl rfl rfl rfl rfl rfl rfl (sp29_31 (b := 48 + w0) hI25 ⟨by omega, by omega⟩ (by omega)  (by omega)) (fun r35 S36 hq37 => ?_)
    obtain ⟨rfl, h38, hI39, hF40, hR41⟩ := hq37
    have hF42 := hF28.trans hF40 rfl rfl
    have hR43 := hR29.trans hR41 rfl
    have h45 := hI39.b0
    have e44 : PL S36 := PLat.up e30 (hF40.f rfl) (by omega) (hR41.eq rfl rfl) (hR41.eq rfl rfl) (hF40.a rfl) (hF40.a rfl) (hF40.a rfl)
    have e46 := PTx.fr e32 hF40 hR41 rfl rfl rfl
    refine Or.inl ⟨rfl, ?_⟩
    refine r_load (i := 26) (u := 0) (w := 2) rfl rfl rfl ?_
    refine r_load (i := 27) (u := 2) (w := 0) rfl rfl rfl ?_
    have h47 := hI39.b0
    refine r_call (i := 28) (u := 9) (v := 96) (w := 0) (b := 0) (na := 1538) (C2 := xC96) (as := [(2, 36), vi (S.f 31 1)]) (s := []) rfl rfl rfl rfl rfl rfl rfl (sp96 (st0 := S.f 31 1) hI39 ⟨by omega, by omega⟩ (by omega) (by exact e46)  (by omega)) (fun r48 S49 hq50 => ?_)
    obtain ⟨z51, rfl, h52, h53, h54, e55, hI56, hF57, hR58⟩ := hq50
    have hF59 := hF42.trans hF57 rfl rfl
    have hR60 := hR43.trans hR58 rfl
    refine Or.inr (Or.inl ⟨rfl, ?_⟩)
    have h61 := hI56.b0
    exact r_retI (i := 29) rfl ⟨z51, rfl, by omega, by omega, (by omega), e55, hI56, hF59, hR60⟩
  · refine r_load (i := 3) (u := 0) (w := 2) rfl rfl rfl ?_
    refine r_str (i := 4) (v := 12) rfl ?_
    have h62 := slv12
    refine r_call (i := 5) (u := 9) (v := 98) (w := 0) (b := 0) (na := 770) (C2 := xC98) (as := [(2, 36), (6, 12)]) (s := []) rfl rfl rfl rfl rfl rfl rfl (sp98 (s := 12) hI ⟨by decide, by decide⟩ (by omega) e_PL (by omega)) (fun r63 S64 hq65 => ?_)
    obtain ⟨z66, rfl, h67, h68, h69, e70, hI71, hF72, hR73⟩ := hq65
    have hF74 := hF.trans hF72 rfl rfl
    have hR75 := hR.trans hR73 rfl
    refine Or.inr (Or.inl ⟨rfl, ?_⟩)
    have h76 := hI71.b0
    exact r_retI (i := 6) rfl ⟨z66, rfl, by omega, by omega, (by omega), e70, hI71, hF74, hR75⟩
/-- ProxyForge$Pool.classOf -/
theorem sp89 {G : xk} {S : yS} {d : Nat} (hI : yI S) {t : Int} (h_t : 0 ≤ t ∧ t ≤ 19) (p_0 : S.f 31 1 + 32 ≤ 60000) (e_PL : PL S) (hd : 6 ≤ d) : yT xPr G LY xC89 0 [some ((2, 36)), some (vi t)] [] S d (fun r S' => ∃ z : Int, r = (1, vi z) ∧ 0 ≤ z ∧ z ≤ 200000 ∧ (S.f 31 1 ≤ S'.f 31 1 ∧ S'.f 31 1 ≤ S.f 31 1 + 32) ∧ PL S' ∧ yI S' ∧ yFr [(31, 1), (36, 5)] [37, 100, 102, 103, 105] S S' ∧ yRm [0, 2, 3] S S') := by
  refine yT_pad 1 ?_
  show yT xPr G LY xC89 0 [some ((2, 36)), some (vi t), none] [] S d _
  obtain ⟨d, rfl⟩ : ∃ q, d = q + 1 := ⟨d - 1, by omega⟩
  have hF : yFr [(31, 1), (36, 5)] [37, 100, 102, 103, 105] S S := yFr.refl S
  have hR : yRm [0, 2, 3] S S := yRm.refl S
  have h1 := hI.b0
  refine r_load (i := 0) (u := 0) (w := 2) rfl rfl rfl ?_
  refine r_getf (i := 1) (v := 1) (w := 9) (x := (2, 31)) rfl ly36 rfl rfl fun _ => ?_
  refine r_getf (i := 2) (v := 1) (w := 7) (x := vi (S.f 31 1)) rfl ly31 rfl rfl fun h3 => ?_
  have h3 : Rg (S.f 31 1) := h3
  refine r_store (i := 3) (u := 2) (w := 0) (L1 := [some ((2, 36)), some (vi t), some (vi (S.f 31 1))]) rfl rfl rfl rfl ?_
  refine r_load (i := 4) (u := 0) (w := 2) rfl rfl rfl ?_
  refine r_getf (i := 5) (v := 1) (w := 9) (x := (2, 31)) rfl ly36 rfl rfl fun _ => ?_
  refine r_const (i := 6) (u := 1) (z := 1) rfl rfl ?_
  refine r_const (i := 7) (u := 0) (z := 0) rfl rfl ?_
  refine r_call (i := 8) (u := 7) (v := 35) (w := 0) (b := 0) (na := 771) (C2 := xC35) (as := [(2, 31), vi 1, vi 0]) (s := []) rfl rfl rfl rfl rfl rfl rfl (sp35_31 (b := 1) (c := 0) hI ⟨by omega, by omega⟩ ⟨by omega, by omega⟩ (by omega)  (by omega)) (fun r5 S6 hq7 => ?_)
  obtain ⟨rfl, h8, hI9, hF10, hR11⟩ := hq7
  have hF12 := hF.trans hF10 rfl rfl
  have hR13 := hR.trans hR11 rfl
  have h15 := hI9.b0
  have e14 : PL S6 := PLat.up e_PL (hF10.f rfl) (by omega) (hR11.eq rfl rfl) (hR11.eq rfl rfl) (hF10.a rfl) (hF10.a rfl) (hF10.a rfl)
  have e16 := PTx.fr e_PL hF10 hR11 rfl rfl rfl
  refine Or.inl ⟨rfl, ?_⟩
  refine r_load (i := 9) (u := 0) (w := 2) rfl rfl rfl ?_
  refine r_load (i := 10) (u := 1) (w := 0) rfl rfl rfl ?_
  have h17 := hI9.b0
  refine r_call (i := 11) (u := 9) (v := 99) (w := 0) (b := 0) (na := 514) (C2 := xC99) (as := [(2, 36), vi t]) (s := []) rfl rfl rfl rfl rfl rfl rfl (sp99 (t := t) hI9 ⟨by omega, by omega⟩ (by omega)  (by omega)) (fun r18 S19 hq20 => ?_)
  obtain ⟨rfl, h21, hI22, hF23, hR24⟩ := hq20
  have hF25 := hF12.trans hF23 rfl rfl
  have hR26 := hR13.trans hR24 rfl
  have h28 := hI22.b0
  have e27 : PL S19 := PLat.up e14 (hF23.f rfl) (by omega) (hR24.eq rfl rfl) (hR24.eq rfl rfl) (hF23.a rfl) (hF23.a rfl) (hF23.a rfl)
  have e29 := PTx.fr e16 hF23 hR24 rfl rfl rfl
  refine Or.inl ⟨rfl, ?_⟩
  refine r_load (i := 12) (u := 0) (w := 2) rfl rfl rfl ?_
  refine r_const (i := 13) (u := 7) (z := 7) rfl rfl ?_
  refine r_load (i := 14) (u := 0) (w := 2) rfl rfl rfl ?_
  refine r_load (i := 15) (u := 2) (w := 0) rfl rfl rfl ?_
  have h30 := hI22.b0
  refine r_call (i := 16) (u := 9) (v := 96) (w := 0) (b := 0) (na := 1538) (C2 := xC96) (as := [(2, 36), vi (S.f 31 1)]) (s := [vi 7, (2, 36)]) rfl rfl rfl rfl rfl rfl rfl (sp96 (st0 := S.f 31 1) hI22 ⟨by omega, by omega⟩ (by omega) (by exact e29)  (by omega)) (fun r31 S32 hq33 => ?_)
  obtain ⟨z34, rfl, h35, h36, h37, e38, hI39, hF40, hR41⟩ := hq33
  have hF42 := hF25.trans hF40 rfl rfl
  have hR43 := hR26.trans hR41 rfl
  refine Or.inr (Or.inl ⟨rfl, ?_⟩)
  have h44 := hI39.b0
  refine r_call (i := 17) (u := 9) (v := 97) (w := 0) (b := 0) (na := 1027) (C2 := xC97) (as := [(2, 36), vi 7, vi z34]) (s := []) rfl rfl rfl rfl rfl rfl rfl (sp97 (w0 := 7) (v := z34) hI39 ⟨by omega, by omega⟩ ⟨by omega, by omega⟩ (by omega) e38 (by omega)) (fun r45 S46 hq47 => ?_)
  obtain ⟨z48, rfl, h49, h50, h51, e52, hI53, hF54, hR55⟩ := hq47
  have hF56 := hF42.trans hF54 rfl rfl
  have hR57 := hR43.trans hR55 rfl
  refine Or.inr (Or.inl ⟨rfl, ?_⟩)
  have h58 := hI53.b0
  exact r_retI (i := 18) rfl ⟨z48, rfl, by omega, by omega, (by omega), e52, hI53, hF56, hR57⟩
/-- ProxyForge$Pool.proxyClass -/
theorem sp95 {G : xk} {S : yS} {d : Nat} (hI : yI S) {p : Int} (h_p : 0 ≤ p ∧ p ≤ 4) (p_0 : S.f 31 1 + 10 ≤ 60000) (e_PL : PL S) (hd : 6 ≤ d) : yT xPr G LY xC95 0 [some ((2, 36)), some (vi p)] [] S d (fun r S' => ∃ z : Int, r = (1, vi z) ∧ 0 ≤ z ∧ z ≤ 200000 ∧ (S.f 31 1 ≤ S'.f 31 1 ∧ S'.f 31 1 ≤ S.f 31 1 + 10) ∧ PL S' ∧ yI S' ∧ yFr [(31, 1), (36, 5)] [37, 100, 102, 103, 105] S S' ∧ yRm [0, 2, 3] S S') := by
  refine yT_pad 1 ?_
  show yT xPr G LY xC95 0 [some ((2, 36)), some (vi p), none] [] S d _
  obtain ⟨d, rfl⟩ : ∃ q, d = q + 1 := ⟨d - 1, by omega⟩
  have hF : yFr [(31, 1), (36, 5)] [37, 100, 102, 103, 105] S S := yFr.refl S
  have hR : yRm [0, 2, 3] S S := yRm.refl S
  have h1 := hI.b0
  refine r_load (i := 0) (u := 0) (w := 2) rfl rfl rfl ?_
  refine r_getf (i := 1) (v := 1) (w := 9) (x := (2, 31)) rfl ly36 rfl rfl fun _ => ?_
  refine r_getf (i := 2) (v := 1) (w := 7) (x := vi (S.f 31 1)) rfl ly31 rfl rfl fun h3 => ?_
  have h3 : Rg (S.f 31 1) := h3
  refine r_store (i := 3) (u := 2) (w := 0) (L1 := [some ((2, 36)), some (vi p), some (vi (S.f 31 1))]) rfl rfl rfl rfl ?_
  refine r_load (i := 4) (u := 0) (w := 2) rfl rfl rfl ?_
  refine r_getf (i := 5) (v := 1) (w := 9) (x := (2, 31)) rfl ly36 rfl rfl fun _ => ?_
  refine r_const (i := 6) (u := 1) (z := 1) rfl rfl ?_
  refine r_const (i := 7) (u := 0) (z := 0) rfl rfl ?_
  refine r_call (i := 8) (u := 7) (v := 35) (w := 0) (b := 0) (na := 771) (C2 := xC35) (as := [(2, 31), vi 1, vi 0]) (s := []) rfl rfl rfl rfl rfl rfl rfl (sp35_31 (b := 1) (c := 0) hI ⟨by omega, by omega⟩ ⟨by omega, by omega⟩ (by omega)  (by omega)) (fun r5 S6 hq7 => ?_)
  obtain ⟨rfl, h8, hI9, hF10, hR11⟩ := hq7
  have hF12 := hF.trans hF10 rfl rfl
  have hR13 := hR.trans hR11 rfl
  have h15 := hI9.b0
  have e14 : PL S6 := PLat.up e_PL (hF10.f rfl) (by omega) (hR11.eq rfl rfl) (hR11.eq rfl rfl) (hF10.a rfl) (hF10.a rfl) (hF10.a rfl)
  have e16 := PTx.fr e_PL hF10 hR11 rfl rfl rfl
  refine Or.inl ⟨rfl, ?_⟩
  refine r_load (i := 9) (u := 0) (w := 2) rfl rfl rfl ?_
  refine r_getf (i := 10) (v := 1) (w := 9) (x := (2, 31)) rfl ly36 rfl rfl fun _ => ?_
  refine r_const (i := 11) (u := 112) (z := 112) rfl rfl ?_
  have h18 := hI9.b0
  refine r_call (i := 12) (u := 7) (v := 29) (w := 0) (b := 0) (na := 514) (C2 := xC29) (as := [(2, 31), vi 112]) (s := []) rfl rfl rfl rfl rfl rfl rfl (sp29_31 (b := 112) hI9 ⟨by omega, by omega⟩ (by omega)  (by omega)) (fun r19 S20 hq21 => ?_)
  obtain ⟨rfl, h22, hI23, hF24, hR25⟩ := hq21
  have hF26 := hF12.trans hF24 rfl rfl
  have hR27 := hR13.trans hR25 rfl
  have h29 := hI23.b0
  have e28 : PL S20 := PLat.up e14 (hF24.f rfl) (by omega) (hR25.eq rfl rfl) (hR25.eq rfl rfl) (hF24.a rfl) (hF24.a rfl) (hF24.a rfl)
  have e30 := PTx.fr e16 hF24 hR25 rfl rfl rfl
  refine Or.inl ⟨rfl, ?_⟩
  refine r_load (i := 13) (u := 0) (w := 2) rfl rfl rfl ?_
  refine r_getf (i := 14) (v := 1) (w := 9) (x := (2, 31)) rfl ly36 rfl rfl fun _ => ?_
  refine r_load (i := 15) (u := 1) (w := 0) rfl rfl rfl ?_
  refine r_const (i := 16) (u := 4) (z := 4) rfl rfl ?_
  refine c_ne (i := 17) (v := 20) rfl ⟨by omega, by omega⟩ ⟨by omega, by omega⟩ (fun h32 => ?_) (fun h33 => ?_)
  · refine r_const (i := 20) (u := 48) (z := 48) rfl rfl ?_
    refine r_load (i := 21) (u := 1) (w := 0) rfl rfl rfl ?_
    refine r_iadd (i := 22) rfl ?_
    have h34 := hI23.b0
    refine r_call (i := 23) (u := 7) (v := 29) (w := 0) (b := 0) (na := 514) (C2 := xC29) (as := [(2, 31), vi (48 + p)]) (s := []) rfl rfl rfl rfl rfl rfl rfl (sp29_31 (b := 48 + p) hI23 ⟨by omega, by omega⟩ (by omega)  (by omega)) (fun r35 S36 hq37 => ?_)
    obtain ⟨rfl, h38, hI39, hF40, hR41⟩ := hq37
    have hF42 := hF26.trans hF40 rfl rfl
    have hR43 := hR27.trans hR41 rfl
    have h45 := hI39.b0
    have e44 : PL S36 := PLat.up e28 (hF40.f rfl) (by omega) (hR41.eq rfl rfl) (hR41.eq rfl rfl) (hF40.a rfl) (hF40.a rfl) (hF40.a rfl)
    have e46 := PTx.fr e30 hF40 hR41 rfl rfl rfl
    refine Or.inl ⟨rfl, ?_⟩
    refine r_load (i := 24) (u := 0) (w := 2) rfl rfl rfl ?_
    refine r_getf (i := 25) (v := 1) (w := 9) (x := (2, 31)) rfl ly36 rfl rfl fun _ => ?_
    refine r_str (i := 26) (v := 4) rfl ?_
    have h48 := slv4
    have h49 := hI39.b0
    refine r_call (i := 27) (u := 7) (v := 28) (w := 0) (b := 0) (na := 1026) (C2 := xC28) (as := [(2, 31), (6, 4)]) (s := []) rfl rfl rfl rfl rfl rfl rfl (sp28_31 (s := 4) hI39 ⟨by decide, by decide⟩ (by omega)  (by omega)) (fun r50 S51 hq52 => ?_)
    obtain ⟨rfl, h53, hI54, hF55, hR56⟩ := hq52
    have hF57 := hF42.trans hF55 rfl rfl
    have hR58 := hR43.trans hR56 rfl
    have h60 := hI54.b0
    have e59 : PL S51 := PLat.up e44 (hF55.f rfl) (by omega) (hR56.eq rfl rfl) (hR56.eq rfl rfl) (hF55.a rfl) (hF55.a rfl) (hF55.a rfl)
    have e61 := PTx.fr e46 hF55 hR56 rfl rfl rfl
    refine Or.inl ⟨rfl, ?_⟩
    refine r_load (i := 28) (u := 0) (w := 2) rfl rfl rfl ?_
    refine r_const (i := 29) (u := 7) (z := 7) rfl rfl ?_
    refine r_load (i := 30) (u := 0) (w := 2) rfl rfl rfl ?_
    refine r_load (i := 31) (u := 2) (w := 0) rfl rfl rfl ?_
    have h62 := hI54.b0
    refine r_call (i := 32) (u := 9) (v := 96) (w := 0) (b := 0) (na := 1538) (C2 := xC96) (as := [(2, 36), vi (S.f 31 1)]) (s := [vi 7, (2, 36)]) rfl rfl rfl rfl rfl rfl rfl (sp96 (st0 := S.f 31 1) hI54 ⟨by omega, by omega⟩ (by omega) (by exact e61)  (by omega)) (fun r63 S64 hq65 => ?_)
    obtain ⟨z66, rfl, h67, h68, h69, e70, hI71, hF72, hR73⟩ := hq65
    have hF74 := hF57.trans hF72 rfl rfl
    have hR75 := hR58.trans hR73 rfl
    refine Or.inr (Or.inl ⟨rfl, ?_⟩)
    have h76 := hI71.b0
    refine r_call (i := 33) (u := 9) (v := 97) (w := 0) (b := 0) (na := 1027) (C2 := xC97) (as := [(2, 36), vi 7, vi z66]) (s := []) rfl rfl rfl rfl rfl rfl rfl (sp97 (w0 := 7) (v := z66) hI71 ⟨by omega, by omega⟩ ⟨by omega, by omega⟩ (by omega) e70 (by omega)) (fun r77 S78 hq79 => ?_)
    obtain ⟨z80, rfl, h81, h82, h83, e84, hI85, hF86, hR87⟩ := hq79
    have hF88 := hF74.trans hF86 rfl rfl
    have hR89 := hR75.trans hR87 rfl
    refine Or.inr (Or.inl ⟨rfl, ?_⟩)
    have h90 := hI85.b0
    exact r_retI (i := 34) rfl ⟨z80, rfl, by omega, by omega, (by omega), e84, hI85, hF88, hR89⟩
  · refine r_const (i := 18) (u := 120) (z := 120) rfl rfl ?_
    refine r_goto (i := 19) (v := 23) rfl ?_
    have h91 := hI23.b0
    refine r_call (i := 23) (u := 7) (v := 29) (w := 0) (b := 0) (na := 514) (C2 := xC29) (as := [(2, 31), vi 120]) (s := []) rfl rfl rfl rfl rfl rfl rfl (sp29_31 (b := 120) hI23 ⟨by omega, by omega⟩ (by omega)  (by omega)) (fun r92 S93 hq94 => ?_)
    obtain ⟨rfl, h95, hI96, hF97, hR98⟩ := hq94
    have hF99 := hF26.trans hF97 rfl rfl
    have hR100 := hR27.trans hR98 rfl
    have h102 := hI96.b0
    have e101 : PL S93 := PLat.up e28 (hF97.f rfl) (by omega) (hR98.eq rfl rfl) (hR98.eq rfl rfl) (hF97.a rfl) (hF97.a rfl) (hF97.a rfl)
    have e103 := PTx.fr e30 hF97 hR98 rfl rfl rfl
    refine Or.inl ⟨rfl, ?_⟩
    refine r_load (i := 24) (u := 0) (w := 2) rfl rfl rfl ?_
    refine r_getf (i := 25) (v := 1) (w := 9) (x := (2, 31)) rfl ly36 rfl rfl fun _ => ?_
    refine r_str (i := 26) (v := 4) rfl ?_
    have h105 := slv4
    have h106 := hI96.b0
    refine r_call (i := 27) (u := 7) (v := 28) (w := 0) (b := 0) (na := 1026) (C2 := xC28) (as := [(2, 31), (6, 4)]) (s := []) rfl rfl rfl rfl rfl rfl rfl (sp28_31 (s := 4) hI96 ⟨by decide, by decide⟩ (by omega)  (by omega)) (fun r107 S108 hq109 => ?_)
    obtain ⟨rfl, h110, hI111, hF112, hR113⟩ := hq109
    have hF114 := hF99.trans hF112 rfl rfl
    have hR115 := hR100.trans hR113 rfl
    have h117 := hI111.b0
    have e116 : PL S108 := PLat.up e101 (hF112.f rfl) (by omega) (hR113.eq rfl rfl) (hR113.eq rfl rfl) (hF112.a rfl) (hF112.a rfl) (hF112.a rfl)
    have e118 := PTx.fr e103 hF112 hR113 rfl rfl rfl
    refine Or.inl ⟨rfl, ?_⟩
    refine r_load (i := 28) (u := 0) (w := 2) rfl rfl rfl ?_
    refine r_const (i := 29) (u := 7) (z := 7) rfl rfl ?_
    refine r_load (i := 30) (u := 0) (w := 2) rfl rfl rfl ?_
    refine r_load (i := 31) (u := 2) (w := 0) rfl rfl rfl ?_
    have h119 := hI111.b0
    refine r_call (i := 32) (u := 9) (v := 96) (w := 0) (b := 0) (na := 1538) (C2 := xC96) (as := [(2, 36), vi (S.f 31 1)]) (s := [vi 7, (2, 36)]) rfl rfl rfl rfl rfl rfl rfl (sp96 (st0 := S.f 31 1) hI111 ⟨by omega, by omega⟩ (by omega) (by exact e118)  (by omega)) (fun r120 S121 hq122 => ?_)
    obtain ⟨z123, rfl, h124, h125, h126, e127, hI128, hF129, hR130⟩ := hq122
    have hF131 := hF114.trans hF129 rfl rfl
    have hR132 := hR115.trans hR130 rfl
    refine Or.inr (Or.inl ⟨rfl, ?_⟩)
    have h133 := hI128.b0
    refine r_call (i := 33) (u := 9) (v := 97) (w := 0) (b := 0) (na := 1027) (C2 := xC97) (as := [(2, 36), vi 7, vi z123]) (s := []) rfl rfl rfl rfl rfl rfl rfl (sp97 (w0 := 7) (v := z123) hI128 ⟨by omega, by omega⟩ ⟨by omega, by omega⟩ (by omega) e127 (by omega)) (fun r134 S135 hq136 => ?_)
    obtain ⟨z137, rfl, h138, h139, h140, e141, hI142, hF143, hR144⟩ := hq136
    have hF145 := hF131.trans hF143 rfl rfl
    have hR146 := hR132.trans hR144 rfl
    refine Or.inr (Or.inl ⟨rfl, ?_⟩)
    have h147 := hI142.b0
    exact r_retI (i := 34) rfl ⟨z137, rfl, by omega, by omega, (by omega), e141, hI142, hF145, hR146⟩
theorem lp91_22 {G : xk} {d : Nat} {S0 : yS} {s : Nat} (h_s : yStr s) {p : Int} (h_p : -2147483648 ≤ p ∧ p ≤ 2147483647) {r0 : Int} (h_r0 : 0 ≤ r0 ∧ r0 ≤ 23) (p_0 : S0.f 31 1 + (145 + slen s) ≤ 60000) (p_1 : KP p) (hd : 7 ≤ d + 1) : ∀ (n : Nat), ∀ (S : yS) (hI : yI S) (hF : yFr [(31, 1), (36, 5)] [37, 100, 102, 103, 105] S0 S) (hR : yRm [0, 2, 3] S0 S) (st0 n1 k : Int) (h_st0 : 0 ≤ st0 ∧ st0 ≤ 60000) (h_n1 : 0 ≤ n1 ∧ n1 ≤ 4) (h_k : 0 ≤ k ∧ k ≤ 4) (q_0 : PLat S st0) (q_1 : st0 = S0.f 31 1 ∧ S0.f 31 1 + (145 + slen s) ≤ 60000 ∧ st0 + 4 ≤ S.f 31 1) (q_2 : S.f 31 1 ≤ st0 + 4 + slen s + 28 * k) (hn : 4 - k < (n : Nat)), yT xPr G LY xC91 22 [some ((2, 36)), some ((6, s)), some (vi p), some (vi r0), some (vi st0), some (vi n1), some (vi k)] [] S (d + 1) (fun r S' => ∃ z : Int, r = (1, vi z) ∧ 0 ≤ z ∧ z ≤ 200000 ∧ (S0.f 31 1 ≤ S'.f 31 1 ∧ S'.f 31 1 ≤ S0.f 31 1 + (145 + slen s)) ∧ PL S' ∧ yI S' ∧ yFr [(31, 1), (36, 5)] [37, 100, 102, 103, 105] S0 S' ∧ yRm [0, 2, 3] S0 S') := by
  intro n
  induction n with
  | zero => intro S hI hF hR st0 n1 k h_st0 h_n1 h_k q_0 q_1 q_2 hn; exact absurd hn (by omega)
  | succ n ih =>
    intro S hI hF hR st0 n1 k h_st0 h_n1 h_k q_0 q_1 q_2 hn
    have h1 := hI.b0
    refine r_load (i := 22) (u := 6) (w := 0) rfl rfl rfl ?_
    refine r_load (i := 23) (u := 5) (w := 0) rfl rfl rfl ?_
    refine c_ge (i := 24) (v := 32) rfl ⟨by omega, by omega⟩ ⟨by omega, by omega⟩ (fun h2 => ?_) (fun h3 => ?_)
    · refine r_load (i := 32) (u := 0) (w := 2) rfl rfl rfl ?_
      refine r_getf (i := 33) (v := 1) (w := 9) (x := (2, 31)) rfl ly36 rfl rfl fun _ => ?_
      refine r_const (i := 34) (u := 41) (z := 41) rfl rfl ?_
      refine r_call (i := 35) (u := 7) (v := 29) (w := 0) (b := 0) (na := 514) (C2 := xC29) (as := [(2, 31), vi 41]) (s := []) rfl rfl rfl rfl rfl rfl rfl (sp29_31 (b := 41) hI ⟨by omega, by omega⟩ (by omega)  (by omega)) (fun r5 S6 hq7 => ?_)
      obtain ⟨rfl, h8, hI9, hF10, hR11⟩ := hq7
      have hF12 := hF.trans hF10 rfl rfl
      have hR13 := hR.trans hR11 rfl
      have e14 := PTx.fr q_0 hF10 hR11 rfl rfl rfl
      refine Or.inl ⟨rfl, ?_⟩
      refine r_load (i := 36) (u := 0) (w := 2) rfl rfl rfl ?_
      refine r_load (i := 37) (u := 3) (w := 0) rfl rfl rfl ?_
      have h15 := hI9.b0
      refine r_call (i := 38) (u := 9) (v := 92) (w := 0) (b := 0) (na := 514) (C2 := xC92) (as := [(2, 36), vi r0]) (s := []) rfl rfl rfl rfl rfl rfl rfl (sp92 (k := r0) hI9 ⟨by omega, by omega⟩ (by omega)  (by omega)) (fun r16 S17 hq18 => ?_)
      obtain ⟨rfl, h19, hI20, hF21, hR22⟩ := hq18
      have hF23 := hF12.trans hF21 rfl rfl
      have hR24 := hR13.trans hR22 rfl
      have e25 := PTx.fr e14 hF21 hR22 rfl rfl rfl
      refine Or.inl ⟨rfl, ?_⟩
      refine r_load (i := 39) (u := 0) (w := 2) rfl rfl rfl ?_
      refine r_load (i := 40) (u := 4) (w := 0) rfl rfl rfl ?_
      have h26 := hI20.b0
      refine r_call (i := 41) (u := 9) (v := 96) (w := 0) (b := 0) (na := 1538) (C2 := xC96) (as := [(2, 36), vi st0]) (s := []) rfl rfl rfl rfl rfl rfl rfl (sp96 (st0 := st0) hI20 ⟨by omega, by omega⟩ (by omega) (by exact e25)  (by omega)) (fun r27 S28 hq29 => ?_)
      obtain ⟨z30, rfl, h31, h32, h33, e34, hI35, hF36, hR37⟩ := hq29
      have hF38 := hF23.trans hF36 rfl rfl
      have hR39 := hR24.trans hR37 rfl
      refine Or.inr (Or.inl ⟨rfl, ?_⟩)
      have h40 := hI35.b0
      exact r_retI (i := 42) rfl ⟨z30, rfl, by omega, by omega, (by omega), e34, hI35, hF38, hR39⟩
    · refine r_load (i := 25) (u := 0) (w := 2) rfl rfl rfl ?_
      refine r_load (i := 26) (u := 2) (w := 0) rfl rfl rfl ?_
      refine r_load (i := 27) (u := 6) (w := 0) rfl rfl rfl ?_
      refine r_call (i := 28) (u := 65535) (v := 66) (w := 0) (b := 2) (na := 514) (C2 := xC66) (as := [vi p, vi k]) (s := [(2, 36)]) rfl rfl rfl rfl rfl rfl rfl (sp66 (p := p) (k := k) hI ⟨by omega, by omega⟩ ⟨by omega, by omega⟩   (by omega)) (fun r41 S42 hq43 => ?_)
      obtain ⟨z44, rfl, h45, h46, h47, rfl⟩ := hq43
      refine Or.inr (Or.inl ⟨rfl, ?_⟩)
      have kp9 := p_1 k (by omega) (by omega)
      refine r_call (i := 29) (u := 9) (v := 92) (w := 0) (b := 0) (na := 514) (C2 := xC92) (as := [(2, 36), vi z44]) (s := []) rfl rfl rfl rfl rfl rfl rfl (sp92 (k := z44) hI ⟨by omega, by omega⟩ (by omega)  (by omega)) (fun r48 S49 hq50 => ?_)
      obtain ⟨rfl, h51, hI52, hF53, hR54⟩ := hq50
      have hF55 := hF.trans hF53 rfl rfl
      have hR56 := hR.trans hR54 rfl
      have e57 := PTx.fr q_0 hF53 hR54 rfl rfl rfl
      refine Or.inl ⟨rfl, ?_⟩
      refine r_iinc (i := 30) (u := 1) (v := 6) (s := 1) (L1 := [some ((2, 36)), some ((6, s)), some (vi p), some (vi r0), some (vi st0), some (vi n1), some (vi (k + 1))]) rfl rfl rfl rfl rfl ?_
      refine r_goto (i := 31) (v := 22) rfl ?_
      have h58 := hI52.b0
      exact ih S49 hI52 hF55 hR56 st0 n1 (k + 1) ⟨by omega, by omega⟩ ⟨by omega, by omega⟩ ⟨by omega, by omega⟩ (by exact e57) (by omega) (by omega) (by omega)
/-- ProxyForge$Pool.descriptor -/
theorem sp91 {G : xk} {S : yS} {d : Nat} (hI : yI S) {s : Nat} (h_s : yStr s) {p : Int} (h_p : -2147483648 ≤ p ∧ p ≤ 2147483647) {r0 : Int} (h_r0 : 0 ≤ r0 ∧ r0 ≤ 23) (p_0 : S.f 31 1 + (145 + slen s) ≤ 60000) (p_1 : KP p) (e_PL : PL S) (hd : 7 ≤ d) : yT xPr G LY xC91 0 [some ((2, 36)), some ((6, s)), some (vi p), some (vi r0)] [] S d (fun r S' => ∃ z : Int, r = (1, vi z) ∧ 0 ≤ z ∧ z ≤ 200000 ∧ (S.f 31 1 ≤ S'.f 31 1 ∧ S'.f 31 1 ≤ S.f 31 1 + (145 + slen s)) ∧ PL S' ∧ yI S' ∧ yFr [(31, 1), (36, 5)] [37, 100, 102, 103, 105] S S' ∧ yRm [0, 2, 3] S S') := by
  refine yT_pad 3 ?_
  show yT xPr G LY xC91 0 [some ((2, 36)), some ((6, s)), some (vi p), some (vi r0), none, none, none] [] S d _
  obtain ⟨d, rfl⟩ : ∃ q, d = q + 1 := ⟨d - 1, by omega⟩
  have hF : yFr [(31, 1), (36, 5)] [37, 100, 102, 103, 105] S S := yFr.refl S
  have hR : yRm [0, 2, 3] S S := yRm.refl S
  have h1 := hI.b0
  have sl9 := slen_le h_s
  refine r_load (i := 0) (u := 0) (w := 2) rfl rfl rfl ?_
  refine r_getf (i := 1) (v := 1) (w := 9) (x := (2, 31)) rfl ly36 rfl rfl fun _ => ?_
  refine r_getf (i := 2) (v := 1) (w := 7) (x := vi (S.f 31 1)) rfl ly31 rfl rfl fun h3 => ?_
  have h3 : Rg (S.f 31 1) := h3
  refine r_store (i := 3) (u := 4) (w := 0) (L1 := [some ((2, 36)), some ((6, s)), some (vi p), some (vi r0), some (vi (S.f 31 1)), none, none]) rfl rfl rfl rfl ?_
  refine r_load (i := 4) (u := 0) (w := 2) rfl rfl rfl ?_
  refine r_getf (i := 5) (v := 1) (w := 9) (x := (2, 31)) rfl ly36 rfl rfl fun _ => ?_
  refine r_const (i := 6) (u := 1) (z := 1) rfl rfl ?_
  refine r_const (i := 7) (u := 0) (z := 0) rfl rfl ?_
  refine r_call (i := 8) (u := 7) (v := 35) (w := 0) (b := 0) (na := 771) (C2 := xC35) (as := [(2, 31), vi 1, vi 0]) (s := []) rfl rfl rfl rfl rfl rfl rfl (sp35_31 (b := 1) (c := 0) hI ⟨by omega, by omega⟩ ⟨by omega, by omega⟩ (by omega)  (by omega)) (fun r5 S6 hq7 => ?_)
  obtain ⟨rfl, h8, hI9, hF10, hR11⟩ := hq7
  have hF12 := hF.trans hF10 rfl rfl
  have hR13 := hR.trans hR11 rfl
  have h15 := hI9.b0
  have e14 : PL S6 := PLat.up e_PL (hF10.f rfl) (by omega) (hR11.eq rfl rfl) (hR11.eq rfl rfl) (hF10.a rfl) (hF10.a rfl) (hF10.a rfl)
  have e16 := PTx.fr e_PL hF10 hR11 rfl rfl rfl
  refine Or.inl ⟨rfl, ?_⟩
  refine r_load (i := 9) (u := 0) (w := 2) rfl rfl rfl ?_
  refine r_getf (i := 10) (v := 1) (w := 9) (x := (2, 31)) rfl ly36 rfl rfl fun _ => ?_
  refine r_const (i := 11) (u := 40) (z := 40) rfl rfl ?_
  have h18 := hI9.b0
  refine r_call (i := 12) (u := 7) (v := 29) (w := 0) (b := 0) (na := 514) (C2 := xC29) (as := [(2, 31), vi 40]) (s := []) rfl rfl rfl rfl rfl rfl rfl (sp29_31 (b := 40) hI9 ⟨by omega, by omega⟩ (by omega)  (by omega)) (fun r19 S20 hq21 => ?_)
  obtain ⟨rfl, h22, hI23, hF24, hR25⟩ := hq21
  have hF26 := hF12.trans hF24 rfl rfl
  have hR27 := hR13.trans hR25 rfl
  have h29 := hI23.b0
  have e28 : PL S20 := PLat.up e14 (hF24.f rfl) (by omega) (hR25.eq rfl rfl) (hR25.eq rfl rfl) (hF24.a rfl) (hF24.a rfl) (hF24.a rfl)
  have e30 := PTx.fr e16 hF24 hR25 rfl rfl rfl
  refine Or.inl ⟨rfl, ?_⟩
  refine r_load (i := 13) (u := 0) (w := 2) rfl rfl rfl ?_
  refine r_getf (i := 14) (v := 1) (w := 9) (x := (2, 31)) rfl ly36 rfl rfl fun _ => ?_
  refine r_load (i := 15) (u := 1) (w := 2) rfl rfl rfl ?_
  have h32 := hI23.b0
  refine r_call (i := 16) (u := 7) (v := 28) (w := 0) (b := 0) (na := 1026) (C2 := xC28) (as := [(2, 31), (6, s)]) (s := []) rfl rfl rfl rfl rfl rfl rfl (sp28_31 (s := s) hI23 h_s (by omega)  (by omega)) (fun r33 S34 hq35 => ?_)
  obtain ⟨rfl, h36, hI37, hF38, hR39⟩ := hq35
  have hF40 := hF26.trans hF38 rfl rfl
  have hR41 := hR27.trans hR39 rfl
  have h43 := hI37.b0
  have e42 : PL S34 := PLat.up e28 (hF38.f rfl) (by omega) (hR39.eq rfl rfl) (hR39.eq rfl rfl) (hF38.a rfl) (hF38.a rfl) (hF38.a rfl)
  have e44 := PTx.fr e30 hF38 hR39 rfl rfl rfl
  refine Or.inl ⟨rfl, ?_⟩
  refine r_load (i := 17) (u := 2) (w := 0) rfl rfl rfl ?_
  refine r_call (i := 18) (u := 65535) (v := 67) (w := 0) (b := 2) (na := 513) (C2 := xC67) (as := [vi p]) (s := []) rfl rfl rfl rfl rfl rfl rfl (sp67 (p := p) hI37 ⟨by omega, by omega⟩   (by omega)) (fun r45 S46 hq47 => ?_)
  obtain ⟨z48, rfl, h49, h50, hmn51, rfl⟩ := hq47
  refine Or.inr (Or.inl ⟨rfl, ?_⟩)
  refine r_store (i := 19) (u := 5) (w := 0) (L1 := [some ((2, 36)), some ((6, s)), some (vi p), some (vi r0), some (vi (S.f 31 1)), some (vi z48), none]) rfl rfl rfl rfl ?_
  refine r_const (i := 20) (u := 0) (z := 0) rfl rfl ?_
  refine r_store (i := 21) (u := 6) (w := 0) (L1 := [some ((2, 36)), some ((6, s)), some (vi p), some (vi r0), some (vi (S.f 31 1)), some (vi z48), some (vi 0)]) rfl rfl rfl rfl ?_
  have h52 := hI37.b0
  exact lp91_22 h_s h_p h_r0 p_0 p_1 hd _ S34 hI37 hF40 hR41 (S.f 31 1) z48 0 ⟨by omega, by omega⟩ ⟨by omega, by omega⟩ ⟨by omega, by omega⟩ (by exact e44) (by omega) (by omega) (Int.lt_succ_toNat _)
/-- ProxyForge$Pool.clear -/
theorem sp90 {G : xk} {S : yS} {d : Nat} (hI : yI S) (e_N23 : N23 S) (hd : 1 ≤ d) : yT xPr G LY xC90 0 [some ((2, 36))] [] S d (fun r S' => r = (0, (0, 0)) ∧ PL S' ∧ yI S' ∧ yFr [(36, 5)] [37] S S' ∧ yRm [] S S') := by
  refine yT_pad 0 ?_
  show yT xPr G LY xC90 0 [some ((2, 36))] [] S d _
  obtain ⟨d, rfl⟩ : ∃ q, d = q + 1 := ⟨d - 1, by omega⟩
  have hF : yFr [(36, 5)] [37] S S := yFr.refl S
  have hR : yRm [] S S := yRm.refl S
  refine r_load (i := 0) (u := 0) (w := 2) rfl rfl rfl ?_
  refine r_getf (i := 1) (v := 2) (w := 9) (x := (2, 37)) rfl ly36 rfl rfl fun _ => ?_
  refine r_const (i := 2) (u := 0) (z := 0) rfl rfl ?_
  refine r_call (i := 3) (u := 65535) (v := 278) (w := 0) (b := 2) (na := 1026) (C2 := xC278) (as := [(2, 37), vi 0]) (s := []) rfl rfl rfl rfl rfl rfl rfl (sp278 (v := 0) hI ⟨by omega, by omega⟩   (by omega)) (fun r2 S3 hq4 => ?_)
  obtain ⟨rfl, h5, hI6, hF7, hR8⟩ := hq4
  have hF9 := hF.trans hF7 rfl rfl
  have hR10 := hR.trans hR8 rfl
  have e11 := N23x.fr e_N23 hF7 hR8 rfl rfl rfl
  refine Or.inl ⟨rfl, ?_⟩
  refine r_load (i := 4) (u := 0) (w := 2) rfl rfl rfl ?_
  refine r_const (i := 5) (u := 0) (z := 0) rfl rfl ?_
  refine r_putI (i := 6) (v := 5) (w := 9) rfl ly36 rfl ⟨by omega, by omega⟩ ?_
  have hI13 := hI6.setf0 (b := 36) (w := 5) (z := 0) rfl rfl
  have hF15 := hF9.setf (b := 36) (w := 5) (z := 0) rfl
  have hR16 := hR10.setf (b := 36) (w := 5) (z := 0)
  have e17 := N23x.setf e11 (b := 36) (w := 5) (z := 0) rfl
  refine yT_gen (fun S12 hS14 => ?_)
  rw [hS14] at hI13 hF15 hR16 e17
  have h18 := hI13.bn
  have h19 := hI13.br
  have h20 : S12.n = S3.n := by rw [← hS14]; rfl
  have h21 : S12.n 0 = S3.n 0 := congrFun h20 0
  have h22 : S12.n 1 = S3.n 1 := congrFun h20 1
  have h23 : S12.n 2 = S3.n 2 := congrFun h20 2
  have h24 : S12.n 3 = S3.n 3 := congrFun h20 3
  have h25 : S12.n 4 = S3.n 4 := congrFun h20 4
  have h26 : S3.n 0 = S.n 0 := hR8.eq rfl rfl
  have h27 : S3.n 1 = S.n 1 := hR8.eq rfl rfl
  have h28 : S3.n 2 = S.n 2 := hR8.eq rfl rfl
  have h29 : S3.n 3 = S.n 3 := hR8.eq rfl rfl
  have h30 : S3.n 4 = S.n 4 := hR8.eq rfl rfl
  have h31 : S12.f 36 5 = 0 := by rw [← hS14]; exact ysf_eq
  have h32 := hI13.b0
  have h33 : S12.f 31 1 = S3.f 31 1 := by rw [← hS14]; exact ysf_ne (by decide)
  have h34 : S3.f 31 1 = S.f 31 1 := hF7.f rfl
  exact r_ret0 (i := 7) rfl ⟨rfl,  (by exact PL_0 (by omega) (by omega) (by have := e17; unfold N23 at this; exact this) (by omega) (by intro j hj; subst_vars; exact ‹∀ j : Nat, j < 64 → yS.a _ 37 j = 0› j hj)), hI13, hF15, hR16⟩
end XNC
