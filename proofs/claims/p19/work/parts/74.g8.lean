set_option linter.unusedVariables false
set_option maxRecDepth 4000
noncomputable section XNC
/-- ProxyForge$Pool.typeName -/
theorem sp99 {G : xk} {S : yS} {d : Nat} (hI : yI S) {t : Int} (h_t : 0 ≤ t ∧ t ≤ 19) (p_0 : S.f 31 1 + 26 ≤ 60000) (hd : 5 ≤ d) : yT xPr G LY xC99 0 [some ((2, 36)), some (vi t)] [] S d (fun r S' => r = (0, (0, 0)) ∧ (S.f 31 1 ≤ S'.f 31 1 ∧ S'.f 31 1 ≤ S.f 31 1 + 26) ∧ bl S' 100 (S'.f 31 1) = bl S 100 (S.f 31 1) ++ tyN (pkR 4 S) t ∧ yI S' ∧ yFr [(31, 1)] [100, 105] S S' ∧ yRm [0] S S') := by
  refine yT_pad 0 ?_
  show yT xPr G LY xC99 0 [some ((2, 36)), some (vi t)] [] S d _
  obtain ⟨d, rfl⟩ : ∃ q, d = q + 1 := ⟨d - 1, by omega⟩
  have hF : yFr [(31, 1)] [100, 105] S S := yFr.refl S
  have hR : yRm [0] S S := yRm.refl S
  have h1 := hI.b0
  refine r_load (i := 0) (u := 1) (w := 0) rfl rfl rfl ?_
  refine z_ne (i := 1) (v := 7) rfl ⟨by omega, by omega⟩ (fun h2 => ?_) (fun h3 => ?_)
  · refine r_load (i := 7) (u := 1) (w := 0) rfl rfl rfl ?_
    refine r_const (i := 8) (u := 1) (z := 1) rfl rfl ?_
    refine c_ne (i := 9) (v := 15) rfl ⟨by omega, by omega⟩ ⟨by omega, by omega⟩ (fun h4 => ?_) (fun h5 => ?_)
    · refine r_load (i := 15) (u := 1) (w := 0) rfl rfl rfl ?_
      refine r_const (i := 16) (u := 2) (z := 2) rfl rfl ?_
      refine c_ne (i := 17) (v := 23) rfl ⟨by omega, by omega⟩ ⟨by omega, by omega⟩ (fun h6 => ?_) (fun h7 => ?_)
      · refine r_load (i := 23) (u := 1) (w := 0) rfl rfl rfl ?_
        refine r_const (i := 24) (u := 3) (z := 3) rfl rfl ?_
        refine c_ne (i := 25) (v := 31) rfl ⟨by omega, by omega⟩ ⟨by omega, by omega⟩ (fun h8 => ?_) (fun h9 => ?_)
        · refine r_load (i := 31) (u := 0) (w := 2) rfl rfl rfl ?_
          refine r_getf (i := 32) (v := 1) (w := 9) (x := (2, 31)) rfl ly36 rfl rfl fun _ => ?_
          refine r_const (i := 33) (u := 112) (z := 112) rfl rfl ?_
          refine r_call (i := 34) (u := 7) (v := 29) (w := 0) (b := 0) (na := 514) (C2 := xC29) (as := [(2, 31), vi 112]) (s := []) rfl rfl rfl rfl rfl rfl rfl (sp29_31 (b := 112) hI ⟨by omega, by omega⟩ (by omega)  (by omega)) (fun r11 S12 hq13 => ?_)
          obtain ⟨rfl, h14, bo15, hI16, hF17, hR18⟩ := hq13
          have hF19 := hF.trans hF17 rfl rfl
          have hR20 := hR.trans hR18 rfl
          refine Or.inl ⟨rfl, ?_⟩
          refine r_load (i := 35) (u := 0) (w := 2) rfl rfl rfl ?_
          refine r_getf (i := 36) (v := 1) (w := 9) (x := (2, 31)) rfl ly36 rfl rfl fun _ => ?_
          refine r_const (i := 37) (u := 48) (z := 48) rfl rfl ?_
          refine r_load (i := 38) (u := 0) (w := 2) rfl rfl rfl ?_
          refine r_getf (i := 39) (v := 0) (w := 9) (x := (2, 1)) rfl ly36 rfl rfl fun _ => ?_
          refine r_getf (i := 40) (v := 2) (w := 1) (x := (2, 4)) rfl ly1 rfl rfl fun _ => ?_
          refine r_load (i := 41) (u := 1) (w := 0) rfl rfl rfl ?_
          refine a_int (i := 42) rfl ly4 rfl (by omega) (by omega) fun h24 => ?_
          have h25 := hI16.a ta4 t.toNat
          have h26 : S12.a 4 t.toNat = S.a 4 t.toNat := hF17.a rfl _
          refine r_iadd (i := 43) rfl ?_
          have h27 := hI16.b0
          refine r_call (i := 44) (u := 7) (v := 29) (w := 0) (b := 0) (na := 514) (C2 := xC29) (as := [(2, 31), vi (48 + (S12.a 4 t.toNat))]) (s := []) rfl rfl rfl rfl rfl rfl rfl (sp29_31 (b := 48 + (S12.a 4 t.toNat)) hI16 ⟨by omega, by omega⟩ (by omega)  (by omega)) (fun r28 S29 hq30 => ?_)
          obtain ⟨rfl, h31, bo32, hI33, hF34, hR35⟩ := hq30
          have hF36 := hF19.trans hF34 rfl rfl
          have hR37 := hR20.trans hR35 rfl
          refine Or.inl ⟨rfl, ?_⟩
          refine r_load (i := 45) (u := 0) (w := 2) rfl rfl rfl ?_
          refine r_getf (i := 46) (v := 1) (w := 9) (x := (2, 31)) rfl ly36 rfl rfl fun _ => ?_
          refine r_str (i := 47) (v := 9) rfl ?_
          have h39 := slv9
          have h40 := hI33.b0
          refine r_call (i := 48) (u := 7) (v := 28) (w := 0) (b := 0) (na := 1026) (C2 := xC28) (as := [(2, 31), (6, 9)]) (s := []) rfl rfl rfl rfl rfl rfl rfl (sp28_31 (s := 9) hI33 ⟨by decide, by decide⟩ (by omega)  (by omega)) (fun r41 S42 hq43 => ?_)
          obtain ⟨rfl, h44, bL45, hI46, hF47, hR48⟩ := hq43
          have hF49 := hF36.trans hF47 rfl rfl
          have hR50 := hR37.trans hR48 rfl
          refine Or.inl ⟨rfl, ?_⟩
          refine r_load (i := 49) (u := 1) (w := 0) rfl rfl rfl ?_
          refine r_const (i := 50) (u := 10) (z := 10) rfl rfl ?_
          refine c_lt (i := 51) (v := 60) rfl ⟨by omega, by omega⟩ ⟨by omega, by omega⟩ (fun h51 => ?_) (fun h52 => ?_)
          · refine r_load (i := 60) (u := 0) (w := 2) rfl rfl rfl ?_
            refine r_getf (i := 61) (v := 1) (w := 9) (x := (2, 31)) rfl ly36 rfl rfl fun _ => ?_
            refine r_const (i := 62) (u := 48) (z := 48) rfl rfl ?_
            refine r_load (i := 63) (u := 1) (w := 0) rfl rfl rfl ?_
            refine r_const (i := 64) (u := 10) (z := 10) rfl rfl ?_
            refine r_irem (i := 65) rfl (by omega) (by omega) (by omega) (by omega) ?_
            refine r_iadd (i := 66) rfl ?_
            have h54 := hI46.b0
            refine r_call (i := 67) (u := 7) (v := 29) (w := 0) (b := 0) (na := 514) (C2 := xC29) (as := [(2, 31), vi (48 + (t % 10))]) (s := []) rfl rfl rfl rfl rfl rfl rfl (sp29_31 (b := 48 + (t % 10)) hI46 ⟨by omega, by omega⟩ (by omega)  (by omega)) (fun r55 S56 hq57 => ?_)
            obtain ⟨rfl, h58, bo59, hI60, hF61, hR62⟩ := hq57
            have hF63 := hF49.trans hF61 rfl rfl
            have hR64 := hR50.trans hR62 rfl
            refine Or.inl ⟨rfl, ?_⟩
            have h65 := hI60.b0
            exact r_ret0 (i := 68) rfl ⟨rfl, (by omega), (by exact ty_n (b1_p bo15 (by omega) (by omega)) (b1_p bo32 (by omega) (by omega)) bL45 (b1_p bo59 (by omega) (by omega)) (show _ = S.a 4 t.toNat by omega) (by omega) (by omega)), hI60, hF63, hR64⟩
          · refine r_load (i := 52) (u := 0) (w := 2) rfl rfl rfl ?_
            refine r_getf (i := 53) (v := 1) (w := 9) (x := (2, 31)) rfl ly36 rfl rfl fun _ => ?_
            refine r_const (i := 54) (u := 48) (z := 48) rfl rfl ?_
            refine r_load (i := 55) (u := 1) (w := 0) rfl rfl rfl ?_
            refine r_const (i := 56) (u := 10) (z := 10) rfl rfl ?_
            refine r_idiv (i := 57) rfl (by omega) (by omega) (by omega) (by omega) ?_
            refine r_iadd (i := 58) rfl ?_
            have h67 := hI46.b0
            refine r_call (i := 59) (u := 7) (v := 29) (w := 0) (b := 0) (na := 514) (C2 := xC29) (as := [(2, 31), vi (48 + (t / 10))]) (s := []) rfl rfl rfl rfl rfl rfl rfl (sp29_31 (b := 48 + (t / 10)) hI46 ⟨by omega, by omega⟩ (by omega)  (by omega)) (fun r68 S69 hq70 => ?_)
            obtain ⟨rfl, h71, bo72, hI73, hF74, hR75⟩ := hq70
            have hF76 := hF49.trans hF74 rfl rfl
            have hR77 := hR50.trans hR75 rfl
            refine Or.inl ⟨rfl, ?_⟩
            refine r_load (i := 60) (u := 0) (w := 2) rfl rfl rfl ?_
            refine r_getf (i := 61) (v := 1) (w := 9) (x := (2, 31)) rfl ly36 rfl rfl fun _ => ?_
            refine r_const (i := 62) (u := 48) (z := 48) rfl rfl ?_
            refine r_load (i := 63) (u := 1) (w := 0) rfl rfl rfl ?_
            refine r_const (i := 64) (u := 10) (z := 10) rfl rfl ?_
            refine r_irem (i := 65) rfl (by omega) (by omega) (by omega) (by omega) ?_
            refine r_iadd (i := 66) rfl ?_
            have h79 := hI73.b0
            refine r_call (i := 67) (u := 7) (v := 29) (w := 0) (b := 0) (na := 514) (C2 := xC29) (as := [(2, 31), vi (48 + (t % 10))]) (s := []) rfl rfl rfl rfl rfl rfl rfl (sp29_31 (b := 48 + (t % 10)) hI73 ⟨by omega, by omega⟩ (by omega)  (by omega)) (fun r80 S81 hq82 => ?_)
            obtain ⟨rfl, h83, bo84, hI85, hF86, hR87⟩ := hq82
            have hF88 := hF76.trans hF86 rfl rfl
            have hR89 := hR77.trans hR87 rfl
            refine Or.inl ⟨rfl, ?_⟩
            have h90 := hI85.b0
            exact r_ret0 (i := 68) rfl ⟨rfl, (by omega), (by exact ty_m (b1_p bo15 (by omega) (by omega)) (b1_p bo32 (by omega) (by omega)) bL45 (b1_p bo72 (by omega) (by omega)) (b1_p bo84 (by omega) (by omega)) (show _ = S.a 4 t.toNat by omega) (by omega)), hI85, hF88, hR89⟩
        · refine r_load (i := 26) (u := 0) (w := 2) rfl rfl rfl ?_
          refine r_getf (i := 27) (v := 1) (w := 9) (x := (2, 31)) rfl ly36 rfl rfl fun _ => ?_
          refine r_str (i := 28) (v := 8) rfl ?_
          have h92 := slv8
          refine r_call (i := 29) (u := 7) (v := 28) (w := 0) (b := 0) (na := 1026) (C2 := xC28) (as := [(2, 31), (6, 8)]) (s := []) rfl rfl rfl rfl rfl rfl rfl (sp28_31 (s := 8) hI ⟨by decide, by decide⟩ (by omega)  (by omega)) (fun r93 S94 hq95 => ?_)
          obtain ⟨rfl, h96, bL97, hI98, hF99, hR100⟩ := hq95
          have hF101 := hF.trans hF99 rfl rfl
          have hR102 := hR.trans hR100 rfl
          refine Or.inl ⟨rfl, ?_⟩
          refine r_goto (i := 30) (v := 68) rfl ?_
          have h103 := hI98.b0
          exact r_ret0 (i := 68) rfl ⟨rfl, (by omega), (by first | exact ty_0 bL97 (by omega) | exact ty_1 bL97 (by omega) | exact ty_2 bL97 (by omega) | exact ty_3 bL97 (by omega)), hI98, hF101, hR102⟩
      · refine r_load (i := 18) (u := 0) (w := 2) rfl rfl rfl ?_
        refine r_getf (i := 19) (v := 1) (w := 9) (x := (2, 31)) rfl ly36 rfl rfl fun _ => ?_
        refine r_str (i := 20) (v := 7) rfl ?_
        have h105 := slv7
        refine r_call (i := 21) (u := 7) (v := 28) (w := 0) (b := 0) (na := 1026) (C2 := xC28) (as := [(2, 31), (6, 7)]) (s := []) rfl rfl rfl rfl rfl rfl rfl (sp28_31 (s := 7) hI ⟨by decide, by decide⟩ (by omega)  (by omega)) (fun r106 S107 hq108 => ?_)
        obtain ⟨rfl, h109, bL110, hI111, hF112, hR113⟩ := hq108
        have hF114 := hF.trans hF112 rfl rfl
        have hR115 := hR.trans hR113 rfl
        refine Or.inl ⟨rfl, ?_⟩
        refine r_goto (i := 22) (v := 68) rfl ?_
        have h116 := hI111.b0
        exact r_ret0 (i := 68) rfl ⟨rfl, (by omega), (by first | exact ty_0 bL110 (by omega) | exact ty_1 bL110 (by omega) | exact ty_2 bL110 (by omega) | exact ty_3 bL110 (by omega)), hI111, hF114, hR115⟩
    · refine r_load (i := 10) (u := 0) (w := 2) rfl rfl rfl ?_
      refine r_getf (i := 11) (v := 1) (w := 9) (x := (2, 31)) rfl ly36 rfl rfl fun _ => ?_
      refine r_str (i := 12) (v := 6) rfl ?_
      have h118 := slv6
      refine r_call (i := 13) (u := 7) (v := 28) (w := 0) (b := 0) (na := 1026) (C2 := xC28) (as := [(2, 31), (6, 6)]) (s := []) rfl rfl rfl rfl rfl rfl rfl (sp28_31 (s := 6) hI ⟨by decide, by decide⟩ (by omega)  (by omega)) (fun r119 S120 hq121 => ?_)
      obtain ⟨rfl, h122, bL123, hI124, hF125, hR126⟩ := hq121
      have hF127 := hF.trans hF125 rfl rfl
      have hR128 := hR.trans hR126 rfl
      refine Or.inl ⟨rfl, ?_⟩
      refine r_goto (i := 14) (v := 68) rfl ?_
      have h129 := hI124.b0
      exact r_ret0 (i := 68) rfl ⟨rfl, (by omega), (by first | exact ty_0 bL123 (by omega) | exact ty_1 bL123 (by omega) | exact ty_2 bL123 (by omega) | exact ty_3 bL123 (by omega)), hI124, hF127, hR128⟩
  · refine r_load (i := 2) (u := 0) (w := 2) rfl rfl rfl ?_
    refine r_getf (i := 3) (v := 1) (w := 9) (x := (2, 31)) rfl ly36 rfl rfl fun _ => ?_
    refine r_str (i := 4) (v := 5) rfl ?_
    have h131 := slv5
    refine r_call (i := 5) (u := 7) (v := 28) (w := 0) (b := 0) (na := 1026) (C2 := xC28) (as := [(2, 31), (6, 5)]) (s := []) rfl rfl rfl rfl rfl rfl rfl (sp28_31 (s := 5) hI ⟨by decide, by decide⟩ (by omega)  (by omega)) (fun r132 S133 hq134 => ?_)
    obtain ⟨rfl, h135, bL136, hI137, hF138, hR139⟩ := hq134
    have hF140 := hF.trans hF138 rfl rfl
    have hR141 := hR.trans hR139 rfl
    refine Or.inl ⟨rfl, ?_⟩
    refine r_goto (i := 6) (v := 68) rfl ?_
    have h142 := hI137.b0
    exact r_ret0 (i := 68) rfl ⟨rfl, (by omega), (by first | exact ty_0 bL136 (by omega) | exact ty_1 bL136 (by omega) | exact ty_2 bL136 (by omega) | exact ty_3 bL136 (by omega)), hI137, hF140, hR141⟩
/-- ProxyForge$Pool.kindLetters -/
theorem sp92 {G : xk} {S : yS} {d : Nat} (hI : yI S) {k : Int} (h_k : 0 ≤ k ∧ k ≤ 23) (p_0 : S.f 31 1 + 28 ≤ 60000) (hd : 6 ≤ d) : yT xPr G LY xC92 0 [some ((2, 36)), some (vi k)] [] S d (fun r S' => r = (0, (0, 0)) ∧ (S.f 31 1 ≤ S'.f 31 1 ∧ S'.f 31 1 ≤ S.f 31 1 + 28) ∧ bl S' 100 (S'.f 31 1) = bl S 100 (S.f 31 1) ++ kdL (pkR 4 S) k ∧ yI S' ∧ yFr [(31, 1)] [100, 105] S S' ∧ yRm [0] S S') := by
  refine yT_pad 0 ?_
  show yT xPr G LY xC92 0 [some ((2, 36)), some (vi k)] [] S d _
  obtain ⟨d, rfl⟩ : ∃ q, d = q + 1 := ⟨d - 1, by omega⟩
  have hF : yFr [(31, 1)] [100, 105] S S := yFr.refl S
  have hR : yRm [0] S S := yRm.refl S
  have h1 := hI.b0
  refine r_load (i := 0) (u := 1) (w := 0) rfl rfl rfl ?_
  refine z_ne (i := 1) (v := 7) rfl ⟨by omega, by omega⟩ (fun h2 => ?_) (fun h3 => ?_)
  · refine r_load (i := 7) (u := 1) (w := 0) rfl rfl rfl ?_
    refine r_const (i := 8) (u := 1) (z := 1) rfl rfl ?_
    refine c_ne (i := 9) (v := 15) rfl ⟨by omega, by omega⟩ ⟨by omega, by omega⟩ (fun h4 => ?_) (fun h5 => ?_)
    · refine r_load (i := 15) (u := 1) (w := 0) rfl rfl rfl ?_
      refine r_const (i := 16) (u := 2) (z := 2) rfl rfl ?_
      refine c_ne (i := 17) (v := 23) rfl ⟨by omega, by omega⟩ ⟨by omega, by omega⟩ (fun h6 => ?_) (fun h7 => ?_)
      · refine r_load (i := 23) (u := 1) (w := 0) rfl rfl rfl ?_
        refine r_const (i := 24) (u := 3) (z := 3) rfl rfl ?_
        refine c_ne (i := 25) (v := 31) rfl ⟨by omega, by omega⟩ ⟨by omega, by omega⟩ (fun h8 => ?_) (fun h9 => ?_)
        · refine r_load (i := 31) (u := 0) (w := 2) rfl rfl rfl ?_
          refine r_getf (i := 32) (v := 1) (w := 9) (x := (2, 31)) rfl ly36 rfl rfl fun _ => ?_
          refine r_const (i := 33) (u := 76) (z := 76) rfl rfl ?_
          refine r_call (i := 34) (u := 7) (v := 29) (w := 0) (b := 0) (na := 514) (C2 := xC29) (as := [(2, 31), vi 76]) (s := []) rfl rfl rfl rfl rfl rfl rfl (sp29_31 (b := 76) hI ⟨by omega, by omega⟩ (by omega)  (by omega)) (fun r11 S12 hq13 => ?_)
          obtain ⟨rfl, h14, bo15, hI16, hF17, hR18⟩ := hq13
          have hF19 := hF.trans hF17 rfl rfl
          have hR20 := hR.trans hR18 rfl
          refine Or.inl ⟨rfl, ?_⟩
          refine r_load (i := 35) (u := 0) (w := 2) rfl rfl rfl ?_
          refine r_load (i := 36) (u := 1) (w := 0) rfl rfl rfl ?_
          refine r_const (i := 37) (u := 4) (z := 4) rfl rfl ?_
          refine r_isub (i := 38) rfl ?_
          have h21 := hI16.b0
          refine r_call (i := 39) (u := 9) (v := 99) (w := 0) (b := 0) (na := 514) (C2 := xC99) (as := [(2, 36), vi (k - 4)]) (s := []) rfl rfl rfl rfl rfl rfl rfl (sp99 (t := k - 4) hI16 ⟨by omega, by omega⟩ (by omega)  (by omega)) (fun r22 S23 hq24 => ?_)
          obtain ⟨rfl, h25, ty26, hI27, hF28, hR29⟩ := hq24
          have hF30 := hF19.trans hF28 rfl rfl
          have hR31 := hR20.trans hR29 rfl
          refine Or.inl ⟨rfl, ?_⟩
          refine r_load (i := 40) (u := 0) (w := 2) rfl rfl rfl ?_
          refine r_getf (i := 41) (v := 1) (w := 9) (x := (2, 31)) rfl ly36 rfl rfl fun _ => ?_
          refine r_const (i := 42) (u := 59) (z := 59) rfl rfl ?_
          have h33 := hI27.b0
          refine r_call (i := 43) (u := 7) (v := 29) (w := 0) (b := 0) (na := 514) (C2 := xC29) (as := [(2, 31), vi 59]) (s := []) rfl rfl rfl rfl rfl rfl rfl (sp29_31 (b := 59) hI27 ⟨by omega, by omega⟩ (by omega)  (by omega)) (fun r34 S35 hq36 => ?_)
          obtain ⟨rfl, h37, bo38, hI39, hF40, hR41⟩ := hq36
          have hF42 := hF30.trans hF40 rfl rfl
          have hR43 := hR31.trans hR41 rfl
          refine Or.inl ⟨rfl, ?_⟩
          have h44 := hI39.b0
          exact r_ret0 (i := 44) rfl ⟨rfl, (by omega), (by exact kd_4 (b1_p bo15 (by omega) (by omega)) ty26 (b1_p bo38 (by omega) (by omega)) (pkR_fr hF17 rfl) (by omega)), hI39, hF42, hR43⟩
        · refine r_load (i := 26) (u := 0) (w := 2) rfl rfl rfl ?_
          refine r_getf (i := 27) (v := 1) (w := 9) (x := (2, 31)) rfl ly36 rfl rfl fun _ => ?_
          refine r_const (i := 28) (u := 90) (z := 90) rfl rfl ?_
          refine r_call (i := 29) (u := 7) (v := 29) (w := 0) (b := 0) (na := 514) (C2 := xC29) (as := [(2, 31), vi 90]) (s := []) rfl rfl rfl rfl rfl rfl rfl (sp29_31 (b := 90) hI ⟨by omega, by omega⟩ (by omega)  (by omega)) (fun r46 S47 hq48 => ?_)
          obtain ⟨rfl, h49, bo50, hI51, hF52, hR53⟩ := hq48
          have hF54 := hF.trans hF52 rfl rfl
          have hR55 := hR.trans hR53 rfl
          refine Or.inl ⟨rfl, ?_⟩
          refine r_goto (i := 30) (v := 44) rfl ?_
          have h56 := hI51.b0
          exact r_ret0 (i := 44) rfl ⟨rfl, (by omega), (by exact kd_a (b1_p bo50 (by omega) (by omega)) (by omega)), hI51, hF54, hR55⟩
      · refine r_load (i := 18) (u := 0) (w := 2) rfl rfl rfl ?_
        refine r_getf (i := 19) (v := 1) (w := 9) (x := (2, 31)) rfl ly36 rfl rfl fun _ => ?_
        refine r_const (i := 20) (u := 74) (z := 74) rfl rfl ?_
        refine r_call (i := 21) (u := 7) (v := 29) (w := 0) (b := 0) (na := 514) (C2 := xC29) (as := [(2, 31), vi 74]) (s := []) rfl rfl rfl rfl rfl rfl rfl (sp29_31 (b := 74) hI ⟨by omega, by omega⟩ (by omega)  (by omega)) (fun r58 S59 hq60 => ?_)
        obtain ⟨rfl, h61, bo62, hI63, hF64, hR65⟩ := hq60
        have hF66 := hF.trans hF64 rfl rfl
        have hR67 := hR.trans hR65 rfl
        refine Or.inl ⟨rfl, ?_⟩
        refine r_goto (i := 22) (v := 44) rfl ?_
        have h68 := hI63.b0
        exact r_ret0 (i := 44) rfl ⟨rfl, (by omega), (by exact kd_a (b1_p bo62 (by omega) (by omega)) (by omega)), hI63, hF66, hR67⟩
    · refine r_load (i := 10) (u := 0) (w := 2) rfl rfl rfl ?_
      refine r_getf (i := 11) (v := 1) (w := 9) (x := (2, 31)) rfl ly36 rfl rfl fun _ => ?_
      refine r_const (i := 12) (u := 73) (z := 73) rfl rfl ?_
      refine r_call (i := 13) (u := 7) (v := 29) (w := 0) (b := 0) (na := 514) (C2 := xC29) (as := [(2, 31), vi 73]) (s := []) rfl rfl rfl rfl rfl rfl rfl (sp29_31 (b := 73) hI ⟨by omega, by omega⟩ (by omega)  (by omega)) (fun r70 S71 hq72 => ?_)
      obtain ⟨rfl, h73, bo74, hI75, hF76, hR77⟩ := hq72
      have hF78 := hF.trans hF76 rfl rfl
      have hR79 := hR.trans hR77 rfl
      refine Or.inl ⟨rfl, ?_⟩
      refine r_goto (i := 14) (v := 44) rfl ?_
      have h80 := hI75.b0
      exact r_ret0 (i := 44) rfl ⟨rfl, (by omega), (by exact kd_a (b1_p bo74 (by omega) (by omega)) (by omega)), hI75, hF78, hR79⟩
  · refine r_load (i := 2) (u := 0) (w := 2) rfl rfl rfl ?_
    refine r_getf (i := 3) (v := 1) (w := 9) (x := (2, 31)) rfl ly36 rfl rfl fun _ => ?_
    refine r_const (i := 4) (u := 86) (z := 86) rfl rfl ?_
    refine r_call (i := 5) (u := 7) (v := 29) (w := 0) (b := 0) (na := 514) (C2 := xC29) (as := [(2, 31), vi 86]) (s := []) rfl rfl rfl rfl rfl rfl rfl (sp29_31 (b := 86) hI ⟨by omega, by omega⟩ (by omega)  (by omega)) (fun r82 S83 hq84 => ?_)
    obtain ⟨rfl, h85, bo86, hI87, hF88, hR89⟩ := hq84
    have hF90 := hF.trans hF88 rfl rfl
    have hR91 := hR.trans hR89 rfl
    refine Or.inl ⟨rfl, ?_⟩
    refine r_goto (i := 6) (v := 44) rfl ?_
    have h92 := hI87.b0
    exact r_ret0 (i := 44) rfl ⟨rfl, (by omega), (by exact kd_a (b1_p bo86 (by omega) (by omega)) (by omega)), hI87, hF90, hR91⟩
/-- ProxyForge$Pool.single -/
theorem sp97 {G : xk} {S : yS} {d : Nat} (hI : yI S) {w0 : Int} (h_w0 : -2147483648 ≤ w0 ∧ w0 ≤ 2147483647) {v : Int} (h_v : -2147483648 ≤ v ∧ v ≤ 2147483647) (p_0 : S.f 31 1 + 3 ≤ 60000) (e_PL : PL S) (hd : 5 ≤ d) : yT xPr G LY xC97 0 [some ((2, 36)), some (vi w0), some (vi v)] [] S d (fun r S' => ∃ z : Int, r = (1, vi z) ∧ 0 ≤ z ∧ z ≤ 20001 ∧ (S.f 31 1 ≤ S'.f 31 1 ∧ S'.f 31 1 ≤ S.f 31 1 + 3) ∧ (w0 = 7 → 0 ≤ v → v < 65536 → wI S S' (wpt (clE v)) z (wix (clE v))) ∧ PL S' ∧ yI S' ∧ yFr [(31, 1), (36, 5)] [37, 100, 102, 103, 105] S S' ∧ yRm [0, 2, 3] S S') := by
  refine yT_pad 1 ?_
  show yT xPr G LY xC97 0 [some ((2, 36)), some (vi w0), some (vi v), none] [] S d _
  obtain ⟨d, rfl⟩ : ∃ q, d = q + 1 := ⟨d - 1, by omega⟩
  have hF : yFr [(31, 1), (36, 5)] [37, 100, 102, 103, 105] S S := yFr.refl S
  have hR : yRm [0, 2, 3] S S := yRm.refl S
  have h1 := hI.b0
  refine r_load (i := 0) (u := 0) (w := 2) rfl rfl rfl ?_
  refine r_getf (i := 1) (v := 1) (w := 9) (x := (2, 31)) rfl ly36 rfl rfl fun _ => ?_
  refine r_getf (i := 2) (v := 1) (w := 7) (x := vi (S.f 31 1)) rfl ly31 rfl rfl fun h3 => ?_
  have h3 : Rg (S.f 31 1) := h3
  refine r_store (i := 3) (u := 3) (w := 0) (L1 := [some ((2, 36)), some (vi w0), some (vi v), some (vi (S.f 31 1))]) rfl rfl rfl rfl ?_
  refine r_load (i := 4) (u := 0) (w := 2) rfl rfl rfl ?_
  refine r_getf (i := 5) (v := 1) (w := 9) (x := (2, 31)) rfl ly36 rfl rfl fun _ => ?_
  refine r_load (i := 6) (u := 1) (w := 0) rfl rfl rfl ?_
  refine r_load (i := 7) (u := 2) (w := 0) rfl rfl rfl ?_
  refine r_call (i := 8) (u := 7) (v := 35) (w := 0) (b := 0) (na := 771) (C2 := xC35) (as := [(2, 31), vi w0, vi v]) (s := []) rfl rfl rfl rfl rfl rfl rfl (sp35_31 (b := w0) (c := v) hI ⟨by omega, by omega⟩ ⟨by omega, by omega⟩ (by omega)  (by omega)) (fun r5 S6 hq7 => ?_)
  obtain ⟨rfl, h8, bth9, hI10, hF11, hR12⟩ := hq7
  have hF13 := hF.trans hF11 rfl rfl
  have hR14 := hR.trans hR12 rfl
  have h16 := hI10.b0
  have e15 : PL S6 := PLat.up e_PL (hF11.f rfl) (by omega) (hR12.eq rfl rfl) (hR12.eq rfl rfl) (hF11.a rfl) (hF11.a rfl) (hF11.a rfl)
  have e17 := PTx.fr e_PL hF11 hR12 rfl rfl rfl
  refine Or.inl ⟨rfl, ?_⟩
  refine r_load (i := 9) (u := 0) (w := 2) rfl rfl rfl ?_
  refine r_load (i := 10) (u := 3) (w := 0) rfl rfl rfl ?_
  have h18 := hI10.b0
  refine r_call (i := 11) (u := 9) (v := 96) (w := 0) (b := 0) (na := 1538) (C2 := xC96) (as := [(2, 36), vi (S.f 31 1)]) (s := []) rfl rfl rfl rfl rfl rfl rfl (sp96 (st0 := S.f 31 1) hI10 ⟨by omega, by omega⟩ (by omega) (by exact e17)  (by omega)) (fun r19 S20 hq21 => ?_)
  obtain ⟨z22, rfl, h23, h24, h25, stq26, e27, hI28, hF29, hR30⟩ := hq21
  have hF31 := hF13.trans hF29 rfl rfl
  have hR32 := hR14.trans hR30 rfl
  refine Or.inr (Or.inl ⟨rfl, ?_⟩)
  have h33 := hI28.b0
  exact r_retI (i := 12) rfl ⟨z22, rfl, by omega, by omega, (by omega), (by intro hw9 hv9 hu9; subst hw9; exact wI_p (fun L9 h9 => en_of rfl (by decide) (hb_c bth9 (by decide) (by decide)) (by show 2 ≤ 2; decide) (sPl_fr hF11 rfl rfl) stq26 L9 h9 (wf_cl hv9 hu9)) (sBd_fr hF31 rfl rfl)), e27, hI28, hF31, hR32⟩
/-- ProxyForge$Pool.pair -/
theorem sp94 {G : xk} {S : yS} {d : Nat} (hI : yI S) {w0 : Int} (h_w0 : -2147483648 ≤ w0 ∧ w0 ≤ 2147483647) {v : Int} (h_v : -2147483648 ≤ v ∧ v ≤ 2147483647) {v2 : Int} (h_v2 : -2147483648 ≤ v2 ∧ v2 ≤ 2147483647) (p_0 : S.f 31 1 + 5 ≤ 60000) (e_PL : PL S) (hd : 6 ≤ d) : yT xPr G LY xC94 0 [some ((2, 36)), some (vi w0), some (vi v), some (vi v2)] [] S d (fun r S' => ∃ z : Int, r = (1, vi z) ∧ 0 ≤ z ∧ z ≤ 20001 ∧ (S.f 31 1 ≤ S'.f 31 1 ∧ S'.f 31 1 ≤ S.f 31 1 + 5) ∧ (9 ≤ w0 → w0 ≤ 12 → 0 ≤ v → v < 65536 → 0 ≤ v2 → v2 < 65536 → wI S S' (wpt (prE w0 v v2)) z (wix (prE w0 v v2))) ∧ PL S' ∧ yI S' ∧ yFr [(31, 1), (36, 5)] [37, 100, 102, 103, 105] S S' ∧ yRm [0, 2, 3] S S') := by
  refine yT_pad 1 ?_
  show yT xPr G LY xC94 0 [some ((2, 36)), some (vi w0), some (vi v), some (vi v2), none] [] S d _
  obtain ⟨d, rfl⟩ : ∃ q, d = q + 1 := ⟨d - 1, by omega⟩
  have hF : yFr [(31, 1), (36, 5)] [37, 100, 102, 103, 105] S S := yFr.refl S
  have hR : yRm [0, 2, 3] S S := yRm.refl S
  have h1 := hI.b0
  refine r_load (i := 0) (u := 0) (w := 2) rfl rfl rfl ?_
  refine r_getf (i := 1) (v := 1) (w := 9) (x := (2, 31)) rfl ly36 rfl rfl fun _ => ?_
  refine r_getf (i := 2) (v := 1) (w := 7) (x := vi (S.f 31 1)) rfl ly31 rfl rfl fun h3 => ?_
  have h3 : Rg (S.f 31 1) := h3
  refine r_store (i := 3) (u := 4) (w := 0) (L1 := [some ((2, 36)), some (vi w0), some (vi v), some (vi v2), some (vi (S.f 31 1))]) rfl rfl rfl rfl ?_
  refine r_load (i := 4) (u := 0) (w := 2) rfl rfl rfl ?_
  refine r_getf (i := 5) (v := 1) (w := 9) (x := (2, 31)) rfl ly36 rfl rfl fun _ => ?_
  refine r_load (i := 6) (u := 1) (w := 0) rfl rfl rfl ?_
  refine r_load (i := 7) (u := 2) (w := 0) rfl rfl rfl ?_
  refine r_call (i := 8) (u := 7) (v := 35) (w := 0) (b := 0) (na := 771) (C2 := xC35) (as := [(2, 31), vi w0, vi v]) (s := []) rfl rfl rfl rfl rfl rfl rfl (sp35_31 (b := w0) (c := v) hI ⟨by omega, by omega⟩ ⟨by omega, by omega⟩ (by omega)  (by omega)) (fun r5 S6 hq7 => ?_)
  obtain ⟨rfl, h8, bth9, hI10, hF11, hR12⟩ := hq7
  have hF13 := hF.trans hF11 rfl rfl
  have hR14 := hR.trans hR12 rfl
  have h16 := hI10.b0
  have e15 : PL S6 := PLat.up e_PL (hF11.f rfl) (by omega) (hR12.eq rfl rfl) (hR12.eq rfl rfl) (hF11.a rfl) (hF11.a rfl) (hF11.a rfl)
  have e17 := PTx.fr e_PL hF11 hR12 rfl rfl rfl
  refine Or.inl ⟨rfl, ?_⟩
  refine r_load (i := 9) (u := 0) (w := 2) rfl rfl rfl ?_
  refine r_getf (i := 10) (v := 1) (w := 9) (x := (2, 31)) rfl ly36 rfl rfl fun _ => ?_
  refine r_load (i := 11) (u := 3) (w := 0) rfl rfl rfl ?_
  have h19 := hI10.b0
  refine r_call (i := 12) (u := 7) (v := 36) (w := 0) (b := 0) (na := 514) (C2 := xC36) (as := [(2, 31), vi v2]) (s := []) rfl rfl rfl rfl rfl rfl rfl (sp36_31 (b := v2) hI10 ⟨by omega, by omega⟩ (by omega)  (by omega)) (fun r20 S21 hq22 => ?_)
  obtain ⟨rfl, h23, btw24, hI25, hF26, hR27⟩ := hq22
  have hF28 := hF13.trans hF26 rfl rfl
  have hR29 := hR14.trans hR27 rfl
  have h31 := hI25.b0
  have e30 : PL S21 := PLat.up e15 (hF26.f rfl) (by omega) (hR27.eq rfl rfl) (hR27.eq rfl rfl) (hF26.a rfl) (hF26.a rfl) (hF26.a rfl)
  have e32 := PTx.fr e17 hF26 hR27 rfl rfl rfl
  refine Or.inl ⟨rfl, ?_⟩
  refine r_load (i := 13) (u := 0) (w := 2) rfl rfl rfl ?_
  refine r_load (i := 14) (u := 4) (w := 0) rfl rfl rfl ?_
  have h33 := hI25.b0
  refine r_call (i := 15) (u := 9) (v := 96) (w := 0) (b := 0) (na := 1538) (C2 := xC96) (as := [(2, 36), vi (S.f 31 1)]) (s := []) rfl rfl rfl rfl rfl rfl rfl (sp96 (st0 := S.f 31 1) hI25 ⟨by omega, by omega⟩ (by omega) (by exact e32)  (by omega)) (fun r34 S35 hq36 => ?_)
  obtain ⟨z37, rfl, h38, h39, h40, stq41, e42, hI43, hF44, hR45⟩ := hq36
  have hF46 := hF28.trans hF44 rfl rfl
  have hR47 := hR29.trans hR45 rfl
  refine Or.inr (Or.inl ⟨rfl, ?_⟩)
  have h48 := hI43.b0
  exact r_retI (i := 16) rfl ⟨z37, rfl, by omega, by omega, (by omega), (by intro hk9 hl9 ha9 hb9 hc9 hd9; exact wI_p (fun L9 h9 => en_of rfl (by omega) (hb_p bth9 btw24 (by omega) (by omega)) (by show 2 ≤ 4; decide) (sPl_tr (sPl_fr hF11 rfl rfl) (sPl_fr hF26 rfl rfl)) stq41 L9 h9 (wf_pr hk9 hl9 ha9 hb9 hc9 hd9)) (sBd_fr hF46 rfl rfl)), e42, hI43, hF46, hR47⟩
/-- ProxyForge$Pool.text -/
theorem sp98 {G : xk} {S : yS} {d : Nat} (hI : yI S) {s : Nat} (h_s : yStr s) (p_0 : S.f 31 1 + (3 + slen s) ≤ 60000) (e_PL : PL S) (hd : 5 ≤ d) : yT xPr G LY xC98 0 [some ((2, 36)), some ((6, s))] [] S d (fun r S' => ∃ z : Int, r = (1, vi z) ∧ 0 ≤ z ∧ z ≤ 20001 ∧ (S.f 31 1 ≤ S'.f 31 1 ∧ S'.f 31 1 ≤ S.f 31 1 + (3 + slen s)) ∧ wI S S' (wpt (txE (strl s))) z (wix (txE (strl s))) ∧ PL S' ∧ yI S' ∧ yFr [(31, 1), (36, 5)] [37, 100, 102, 103, 105] S S' ∧ yRm [0, 2, 3] S S') := by
  refine yT_pad 1 ?_
  show yT xPr G LY xC98 0 [some ((2, 36)), some ((6, s)), none] [] S d _
  obtain ⟨d, rfl⟩ : ∃ q, d = q + 1 := ⟨d - 1, by omega⟩
  have hF : yFr [(31, 1), (36, 5)] [37, 100, 102, 103, 105] S S := yFr.refl S
  have hR : yRm [0, 2, 3] S S := yRm.refl S
  have h1 := hI.b0
  have sl9 := slen_le h_s
  refine r_load (i := 0) (u := 0) (w := 2) rfl rfl rfl ?_
  refine r_getf (i := 1) (v := 1) (w := 9) (x := (2, 31)) rfl ly36 rfl rfl fun _ => ?_
  refine r_getf (i := 2) (v := 1) (w := 7) (x := vi (S.f 31 1)) rfl ly31 rfl rfl fun h3 => ?_
  have h3 : Rg (S.f 31 1) := h3
  refine r_store (i := 3) (u := 2) (w := 0) (L1 := [some ((2, 36)), some ((6, s)), some (vi (S.f 31 1))]) rfl rfl rfl rfl ?_
  refine r_load (i := 4) (u := 0) (w := 2) rfl rfl rfl ?_
  refine r_getf (i := 5) (v := 1) (w := 9) (x := (2, 31)) rfl ly36 rfl rfl fun _ => ?_
  refine r_const (i := 6) (u := 1) (z := 1) rfl rfl ?_
  refine r_const (i := 7) (u := 0) (z := 0) rfl rfl ?_
  refine r_call (i := 8) (u := 7) (v := 35) (w := 0) (b := 0) (na := 771) (C2 := xC35) (as := [(2, 31), vi 1, vi 0]) (s := []) rfl rfl rfl rfl rfl rfl rfl (sp35_31 (b := 1) (c := 0) hI ⟨by omega, by omega⟩ ⟨by omega, by omega⟩ (by omega)  (by omega)) (fun r5 S6 hq7 => ?_)
  obtain ⟨rfl, h8, bth9, hI10, hF11, hR12⟩ := hq7
  have hF13 := hF.trans hF11 rfl rfl
  have hR14 := hR.trans hR12 rfl
  have h16 := hI10.b0
  have e15 : PL S6 := PLat.up e_PL (hF11.f rfl) (by omega) (hR12.eq rfl rfl) (hR12.eq rfl rfl) (hF11.a rfl) (hF11.a rfl) (hF11.a rfl)
  have e17 := PTx.fr e_PL hF11 hR12 rfl rfl rfl
  refine Or.inl ⟨rfl, ?_⟩
  refine r_load (i := 9) (u := 0) (w := 2) rfl rfl rfl ?_
  refine r_getf (i := 10) (v := 1) (w := 9) (x := (2, 31)) rfl ly36 rfl rfl fun _ => ?_
  refine r_load (i := 11) (u := 1) (w := 2) rfl rfl rfl ?_
  have h19 := hI10.b0
  refine r_call (i := 12) (u := 7) (v := 28) (w := 0) (b := 0) (na := 1026) (C2 := xC28) (as := [(2, 31), (6, s)]) (s := []) rfl rfl rfl rfl rfl rfl rfl (sp28_31 (s := s) hI10 h_s (by omega)  (by omega)) (fun r20 S21 hq22 => ?_)
  obtain ⟨rfl, h23, bL24, hI25, hF26, hR27⟩ := hq22
  have hF28 := hF13.trans hF26 rfl rfl
  have hR29 := hR14.trans hR27 rfl
  have h31 := hI25.b0
  have e30 : PL S21 := PLat.up e15 (hF26.f rfl) (by omega) (hR27.eq rfl rfl) (hR27.eq rfl rfl) (hF26.a rfl) (hF26.a rfl) (hF26.a rfl)
  have e32 := PTx.fr e17 hF26 hR27 rfl rfl rfl
  refine Or.inl ⟨rfl, ?_⟩
  refine r_load (i := 13) (u := 0) (w := 2) rfl rfl rfl ?_
  refine r_load (i := 14) (u := 2) (w := 0) rfl rfl rfl ?_
  have h33 := hI25.b0
  refine r_call (i := 15) (u := 9) (v := 96) (w := 0) (b := 0) (na := 1538) (C2 := xC96) (as := [(2, 36), vi (S.f 31 1)]) (s := []) rfl rfl rfl rfl rfl rfl rfl (sp96 (st0 := S.f 31 1) hI25 ⟨by omega, by omega⟩ (by omega) (by exact e32)  (by omega)) (fun r34 S35 hq36 => ?_)
  obtain ⟨z37, rfl, h38, h39, h40, stq41, e42, hI43, hF44, hR45⟩ := hq36
  have hF46 := hF28.trans hF44 rfl rfl
  have hR47 := hR29.trans hR45 rfl
  refine Or.inr (Or.inl ⟨rfl, ?_⟩)
  have h48 := hI43.b0
  exact r_retI (i := 16) rfl ⟨z37, rfl, by omega, by omega, (by omega), (by exact wI_p (tx_of rfl (hb_2 bth9 bL24) (sPl_tr (sPl_fr hF11 rfl rfl) (sPl_fr hF26 rfl rfl)) stq41 (strl_lt h_s)) (sBd_fr hF46 rfl rfl)), e42, hI43, hF46, hR47⟩
/-- ProxyForge$Pool.methodName -/
theorem sp93 {G : xk} {S : yS} {d : Nat} (hI : yI S) {w0 : Int} (h_w0 : 0 ≤ w0 ∧ w0 ≤ 10) (p_0 : S.f 31 1 + 9 ≤ 60000) (e_PL : PL S) (hd : 6 ≤ d) : yT xPr G LY xC93 0 [some ((2, 36)), some (vi w0)] [] S d (fun r S' => ∃ z : Int, r = (1, vi z) ∧ 0 ≤ z ∧ z ≤ 20001 ∧ (S.f 31 1 ≤ S'.f 31 1 ∧ S'.f 31 1 ≤ S.f 31 1 + 9) ∧ wI S S' (wpt (txE (nmL w0))) z (wix (txE (nmL w0))) ∧ PL S' ∧ yI S' ∧ yFr [(31, 1), (36, 5)] [37, 100, 102, 103, 105] S S' ∧ yRm [0, 2, 3] S S') := by
  refine yT_pad 1 ?_
  show yT xPr G LY xC93 0 [some ((2, 36)), some (vi w0), none] [] S d _
  obtain ⟨d, rfl⟩ : ∃ q, d = q + 1 := ⟨d - 1, by omega⟩
  have hF : yFr [(31, 1), (36, 5)] [37, 100, 102, 103, 105] S S := yFr.refl S
  have hR : yRm [0, 2, 3] S S := yRm.refl S
  have h1 := hI.b0
  refine r_load (i := 0) (u := 1) (w := 0) rfl rfl rfl ?_
  refine r_const (i := 1) (u := 10) (z := 10) rfl rfl ?_
  refine c_ne (i := 2) (v := 7) rfl ⟨by omega, by omega⟩ ⟨by omega, by omega⟩ (fun h2 => ?_) (fun h3 => ?_)
  · refine r_load (i := 7) (u := 0) (w := 2) rfl rfl rfl ?_
    refine r_getf (i := 8) (v := 1) (w := 9) (x := (2, 31)) rfl ly36 rfl rfl fun _ => ?_
    refine r_getf (i := 9) (v := 1) (w := 7) (x := vi (S.f 31 1)) rfl ly31 rfl rfl fun h5 => ?_
    have h5 : Rg (S.f 31 1) := h5
    refine r_store (i := 10) (u := 2) (w := 0) (L1 := [some ((2, 36)), some (vi w0), some (vi (S.f 31 1))]) rfl rfl rfl rfl ?_
    refine r_load (i := 11) (u := 0) (w := 2) rfl rfl rfl ?_
    refine r_getf (i := 12) (v := 1) (w := 9) (x := (2, 31)) rfl ly36 rfl rfl fun _ => ?_
    refine r_const (i := 13) (u := 1) (z := 1) rfl rfl ?_
    refine r_const (i := 14) (u := 0) (z := 0) rfl rfl ?_
    refine r_call (i := 15) (u := 7) (v := 35) (w := 0) (b := 0) (na := 771) (C2 := xC35) (as := [(2, 31), vi 1, vi 0]) (s := []) rfl rfl rfl rfl rfl rfl rfl (sp35_31 (b := 1) (c := 0) hI ⟨by omega, by omega⟩ ⟨by omega, by omega⟩ (by omega)  (by omega)) (fun r7 S8 hq9 => ?_)
    obtain ⟨rfl, h10, bth11, hI12, hF13, hR14⟩ := hq9
    have hF15 := hF.trans hF13 rfl rfl
    have hR16 := hR.trans hR14 rfl
    have h18 := hI12.b0
    have e17 : PL S8 := PLat.up e_PL (hF13.f rfl) (by omega) (hR14.eq rfl rfl) (hR14.eq rfl rfl) (hF13.a rfl) (hF13.a rfl) (hF13.a rfl)
    have e19 := PTx.fr e_PL hF13 hR14 rfl rfl rfl
    refine Or.inl ⟨rfl, ?_⟩
    refine r_load (i := 16) (u := 0) (w := 2) rfl rfl rfl ?_
    refine r_getf (i := 17) (v := 1) (w := 9) (x := (2, 31)) rfl ly36 rfl rfl fun _ => ?_
    refine r_const (i := 18) (u := 109) (z := 109) rfl rfl ?_
    have h21 := hI12.b0
    refine r_call (i := 19) (u := 7) (v := 29) (w := 0) (b := 0) (na := 514) (C2 := xC29) (as := [(2, 31), vi 109]) (s := []) rfl rfl rfl rfl rfl rfl rfl (sp29_31 (b := 109) hI12 ⟨by omega, by omega⟩ (by omega)  (by omega)) (fun r22 S23 hq24 => ?_)
    obtain ⟨rfl, h25, bo26, hI27, hF28, hR29⟩ := hq24
    have hF30 := hF15.trans hF28 rfl rfl
    have hR31 := hR16.trans hR29 rfl
    have h33 := hI27.b0
    have e32 : PL S23 := PLat.up e17 (hF28.f rfl) (by omega) (hR29.eq rfl rfl) (hR29.eq rfl rfl) (hF28.a rfl) (hF28.a rfl) (hF28.a rfl)
    have e34 := PTx.fr e19 hF28 hR29 rfl rfl rfl
    refine Or.inl ⟨rfl, ?_⟩
    refine r_load (i := 20) (u := 0) (w := 2) rfl rfl rfl ?_
    refine r_getf (i := 21) (v := 1) (w := 9) (x := (2, 31)) rfl ly36 rfl rfl fun _ => ?_
    refine r_const (i := 22) (u := 48) (z := 48) rfl rfl ?_
    refine r_load (i := 23) (u := 1) (w := 0) rfl rfl rfl ?_
    refine r_iadd (i := 24) rfl ?_
    have h36 := hI27.b0
    refine r_call (i := 25) (u := 7) (v := 29) (w := 0) (b := 0) (na := 514) (C2 := xC29) (as := [(2, 31), vi (48 + w0)]) (s := []) rfl rfl rfl rfl rfl rfl rfl (sp29_31 (b := 48 + w0) hI27 ⟨by omega, by omega⟩ (by omega)  (by omega)) (fun r37 S38 hq39 => ?_)
    obtain ⟨rfl, h40, bo41, hI42, hF43, hR44⟩ := hq39
    have hF45 := hF30.trans hF43 rfl rfl
    have hR46 := hR31.trans hR44 rfl
    have h48 := hI42.b0
    have e47 : PL S38 := PLat.up e32 (hF43.f rfl) (by omega) (hR44.eq rfl rfl) (hR44.eq rfl rfl) (hF43.a rfl) (hF43.a rfl) (hF43.a rfl)
    have e49 := PTx.fr e34 hF43 hR44 rfl rfl rfl
    refine Or.inl ⟨rfl, ?_⟩
    refine r_load (i := 26) (u := 0) (w := 2) rfl rfl rfl ?_
    refine r_load (i := 27) (u := 2) (w := 0) rfl rfl rfl ?_
    have h50 := hI42.b0
    refine r_call (i := 28) (u := 9) (v := 96) (w := 0) (b := 0) (na := 1538) (C2 := xC96) (as := [(2, 36), vi (S.f 31 1)]) (s := []) rfl rfl rfl rfl rfl rfl rfl (sp96 (st0 := S.f 31 1) hI42 ⟨by omega, by omega⟩ (by omega) (by exact e49)  (by omega)) (fun r51 S52 hq53 => ?_)
    obtain ⟨z54, rfl, h55, h56, h57, stq58, e59, hI60, hF61, hR62⟩ := hq53
    have hF63 := hF45.trans hF61 rfl rfl
    have hR64 := hR46.trans hR62 rfl
    refine Or.inr (Or.inl ⟨rfl, ?_⟩)
    have h65 := hI60.b0
    exact r_retI (i := 29) rfl ⟨z54, rfl, by omega, by omega, (by omega), (by rw [nm_n (by omega)]; exact wI_p (tx_of rfl (hb_3 bth11 (b1_p bo26 (by omega) (by omega)) (b1_p bo41 (by omega) (by omega))) (sPl_tr (sPl_tr (sPl_fr hF13 rfl rfl) (sPl_fr hF28 rfl rfl)) (sPl_fr hF43 rfl rfl)) stq58 (by show 2 < 65536; decide)) (sBd_fr hF63 rfl rfl)), e59, hI60, hF63, hR64⟩
  · refine r_load (i := 3) (u := 0) (w := 2) rfl rfl rfl ?_
    refine r_str (i := 4) (v := 12) rfl ?_
    have h66 := slv12
    refine r_call (i := 5) (u := 9) (v := 98) (w := 0) (b := 0) (na := 770) (C2 := xC98) (as := [(2, 36), (6, 12)]) (s := []) rfl rfl rfl rfl rfl rfl rfl (sp98 (s := 12) hI ⟨by decide, by decide⟩ (by omega) e_PL (by omega)) (fun r67 S68 hq69 => ?_)
    obtain ⟨z70, rfl, h71, h72, h73, wi74, e75, hI76, hF77, hR78⟩ := hq69
    have hF79 := hF.trans hF77 rfl rfl
    have hR80 := hR.trans hR78 rfl
    refine Or.inr (Or.inl ⟨rfl, ?_⟩)
    have h81 := hI76.b0
    exact r_retI (i := 6) rfl ⟨z70, rfl, by omega, by omega, (by omega), (by rw [nm_10 (by omega)]; exact wi74), e75, hI76, hF79, hR80⟩
/-- ProxyForge$Pool.classOf -/
theorem sp89 {G : xk} {S : yS} {d : Nat} (hI : yI S) {t : Int} (h_t : 0 ≤ t ∧ t ≤ 19) (p_0 : S.f 31 1 + 32 ≤ 60000) (e_PL : PL S) (hd : 6 ≤ d) : yT xPr G LY xC89 0 [some ((2, 36)), some (vi t)] [] S d (fun r S' => ∃ z : Int, r = (1, vi z) ∧ 0 ≤ z ∧ z ≤ 20001 ∧ (S.f 31 1 ≤ S'.f 31 1 ∧ S'.f 31 1 ≤ S.f 31 1 + 32) ∧ wI S S' (wcl (tyN (pkR 4 S) t)) z (icl (tyN (pkR 4 S) t)) ∧ PL S' ∧ yI S' ∧ yFr [(31, 1), (36, 5)] [37, 100, 102, 103, 105] S S' ∧ yRm [0, 2, 3] S S') := by
  refine yT_pad 1 ?_
  show yT xPr G LY xC89 0 [some ((2, 36)), some (vi t), none] [] S d _
  obtain ⟨d, rfl⟩ : ∃ q, d = q + 1 := ⟨d - 1, by omega⟩
  have hF : yFr [(31, 1), (36, 5)] [37, 100, 102, 103, 105] S S := yFr.refl S
  have hR : yRm [0, 2, 3] S S := yRm.refl S
  have h1 := hI.b0
  refine r_load (i := 0) (u := 0) (w := 2) rfl rfl rfl ?_
  refine r_getf (i := 1) (v := 1) (w := 9) (x := (2, 31)) rfl ly36 rfl rfl fun _ => ?_
  refine r_getf (i := 2) (v := 1) (w := 7) (x := vi (S.f 31 1)) rfl ly31 rfl rfl fun h3 => ?_
  have h3 : Rg (S.f 31 1) := h3
  refine r_store (i := 3) (u := 2) (w := 0) (L1 := [some ((2, 36)), some (vi t), some (vi (S.f 31 1))]) rfl rfl rfl rfl ?_
  refine r_load (i := 4) (u := 0) (w := 2) rfl rfl rfl ?_
  refine r_getf (i := 5) (v := 1) (w := 9) (x := (2, 31)) rfl ly36 rfl rfl fun _ => ?_
  refine r_const (i := 6) (u := 1) (z := 1) rfl rfl ?_
  refine r_const (i := 7) (u := 0) (z := 0) rfl rfl ?_
  refine r_call (i := 8) (u := 7) (v := 35) (w := 0) (b := 0) (na := 771) (C2 := xC35) (as := [(2, 31), vi 1, vi 0]) (s := []) rfl rfl rfl rfl rfl rfl rfl (sp35_31 (b := 1) (c := 0) hI ⟨by omega, by omega⟩ ⟨by omega, by omega⟩ (by omega)  (by omega)) (fun r5 S6 hq7 => ?_)
  obtain ⟨rfl, h8, bth9, hI10, hF11, hR12⟩ := hq7
  have hF13 := hF.trans hF11 rfl rfl
  have hR14 := hR.trans hR12 rfl
  have h16 := hI10.b0
  have e15 : PL S6 := PLat.up e_PL (hF11.f rfl) (by omega) (hR12.eq rfl rfl) (hR12.eq rfl rfl) (hF11.a rfl) (hF11.a rfl) (hF11.a rfl)
  have e17 := PTx.fr e_PL hF11 hR12 rfl rfl rfl
  refine Or.inl ⟨rfl, ?_⟩
  refine r_load (i := 9) (u := 0) (w := 2) rfl rfl rfl ?_
  refine r_load (i := 10) (u := 1) (w := 0) rfl rfl rfl ?_
  have h18 := hI10.b0
  refine r_call (i := 11) (u := 9) (v := 99) (w := 0) (b := 0) (na := 514) (C2 := xC99) (as := [(2, 36), vi t]) (s := []) rfl rfl rfl rfl rfl rfl rfl (sp99 (t := t) hI10 ⟨by omega, by omega⟩ (by omega)  (by omega)) (fun r19 S20 hq21 => ?_)
  obtain ⟨rfl, h22, ty23, hI24, hF25, hR26⟩ := hq21
  have hF27 := hF13.trans hF25 rfl rfl
  have hR28 := hR14.trans hR26 rfl
  have h30 := hI24.b0
  have e29 : PL S20 := PLat.up e15 (hF25.f rfl) (by omega) (hR26.eq rfl rfl) (hR26.eq rfl rfl) (hF25.a rfl) (hF25.a rfl) (hF25.a rfl)
  have e31 := PTx.fr e17 hF25 hR26 rfl rfl rfl
  refine Or.inl ⟨rfl, ?_⟩
  refine r_load (i := 12) (u := 0) (w := 2) rfl rfl rfl ?_
  refine r_const (i := 13) (u := 7) (z := 7) rfl rfl ?_
  refine r_load (i := 14) (u := 0) (w := 2) rfl rfl rfl ?_
  refine r_load (i := 15) (u := 2) (w := 0) rfl rfl rfl ?_
  have h32 := hI24.b0
  refine r_call (i := 16) (u := 9) (v := 96) (w := 0) (b := 0) (na := 1538) (C2 := xC96) (as := [(2, 36), vi (S.f 31 1)]) (s := [vi 7, (2, 36)]) rfl rfl rfl rfl rfl rfl rfl (sp96 (st0 := S.f 31 1) hI24 ⟨by omega, by omega⟩ (by omega) (by exact e31)  (by omega)) (fun r33 S34 hq35 => ?_)
  obtain ⟨z36, rfl, h37, h38, h39, stq40, e41, hI42, hF43, hR44⟩ := hq35
  have hF45 := hF27.trans hF43 rfl rfl
  have hR46 := hR28.trans hR44 rfl
  refine Or.inr (Or.inl ⟨rfl, ?_⟩)
  have h47 := hI42.b0
  refine r_call (i := 17) (u := 9) (v := 97) (w := 0) (b := 0) (na := 1027) (C2 := xC97) (as := [(2, 36), vi 7, vi z36]) (s := []) rfl rfl rfl rfl rfl rfl rfl (sp97 (w0 := 7) (v := z36) hI42 ⟨by omega, by omega⟩ ⟨by omega, by omega⟩ (by omega) e41 (by omega)) (fun r48 S49 hq50 => ?_)
  obtain ⟨z51, rfl, h52, h53, h54, si55, e56, hI57, hF58, hR59⟩ := hq50
  have hF60 := hF45.trans hF58 rfl rfl
  have hR61 := hR46.trans hR59 rfl
  refine Or.inr (Or.inl ⟨rfl, ?_⟩)
  have h62 := hI57.b0
  exact r_retI (i := 18) rfl ⟨z51, rfl, by omega, by omega, (by omega), (by exact wI_cl (wI_p (tx_of rfl (hb_2 bth9 (by rw [← pkR_fr hF11 rfl]; exact ty23)) (sPl_tr (sPl_fr hF11 rfl rfl) (sPl_fr hF25 rfl rfl)) stq40 tyN_lt) (sBd_tr (sBd_tr (sBd_fr hF11 rfl rfl) (sBd_fr hF25 rfl rfl)) (sBd_fr hF43 rfl rfl))) (si55 rfl)), e56, hI57, hF60, hR61⟩
/-- ProxyForge$Pool.proxyClass -/
theorem sp95 {G : xk} {S : yS} {d : Nat} (hI : yI S) {p : Int} (h_p : 0 ≤ p ∧ p ≤ 4) (p_0 : S.f 31 1 + 10 ≤ 60000) (e_PL : PL S) (hd : 6 ≤ d) : yT xPr G LY xC95 0 [some ((2, 36)), some (vi p)] [] S d (fun r S' => ∃ z : Int, r = (1, vi z) ∧ 0 ≤ z ∧ z ≤ 20001 ∧ (S.f 31 1 ≤ S'.f 31 1 ∧ S'.f 31 1 ≤ S.f 31 1 + 10) ∧ wI S S' (wcl (pxN p)) z (icl (pxN p)) ∧ PL S' ∧ yI S' ∧ yFr [(31, 1), (36, 5)] [37, 100, 102, 103, 105] S S' ∧ yRm [0, 2, 3] S S') := by
  refine yT_pad 1 ?_
  show yT xPr G LY xC95 0 [some ((2, 36)), some (vi p), none] [] S d _
  obtain ⟨d, rfl⟩ : ∃ q, d = q + 1 := ⟨d - 1, by omega⟩
  have hF : yFr [(31, 1), (36, 5)] [37, 100, 102, 103, 105] S S := yFr.refl S
  have hR : yRm [0, 2, 3] S S := yRm.refl S
  have h1 := hI.b0
  refine r_load (i := 0) (u := 0) (w := 2) rfl rfl rfl ?_
  refine r_getf (i := 1) (v := 1) (w := 9) (x := (2, 31)) rfl ly36 rfl rfl fun _ => ?_
  refine r_getf (i := 2) (v := 1) (w := 7) (x := vi (S.f 31 1)) rfl ly31 rfl rfl fun h3 => ?_
  have h3 : Rg (S.f 31 1) := h3
  refine r_store (i := 3) (u := 2) (w := 0) (L1 := [some ((2, 36)), some (vi p), some (vi (S.f 31 1))]) rfl rfl rfl rfl ?_
  refine r_load (i := 4) (u := 0) (w := 2) rfl rfl rfl ?_
  refine r_getf (i := 5) (v := 1) (w := 9) (x := (2, 31)) rfl ly36 rfl rfl fun _ => ?_
  refine r_const (i := 6) (u := 1) (z := 1) rfl rfl ?_
  refine r_const (i := 7) (u := 0) (z := 0) rfl rfl ?_
  refine r_call (i := 8) (u := 7) (v := 35) (w := 0) (b := 0) (na := 771) (C2 := xC35) (as := [(2, 31), vi 1, vi 0]) (s := []) rfl rfl rfl rfl rfl rfl rfl (sp35_31 (b := 1) (c := 0) hI ⟨by omega, by omega⟩ ⟨by omega, by omega⟩ (by omega)  (by omega)) (fun r5 S6 hq7 => ?_)
  obtain ⟨rfl, h8, bth9, hI10, hF11, hR12⟩ := hq7
  have hF13 := hF.trans hF11 rfl rfl
  have hR14 := hR.trans hR12 rfl
  have h16 := hI10.b0
  have e15 : PL S6 := PLat.up e_PL (hF11.f rfl) (by omega) (hR12.eq rfl rfl) (hR12.eq rfl rfl) (hF11.a rfl) (hF11.a rfl) (hF11.a rfl)
  have e17 := PTx.fr e_PL hF11 hR12 rfl rfl rfl
  refine Or.inl ⟨rfl, ?_⟩
  refine r_load (i := 9) (u := 0) (w := 2) rfl rfl rfl ?_
  refine r_getf (i := 10) (v := 1) (w := 9) (x := (2, 31)) rfl ly36 rfl rfl fun _ => ?_
  refine r_const (i := 11) (u := 112) (z := 112) rfl rfl ?_
  have h19 := hI10.b0
  refine r_call (i := 12) (u := 7) (v := 29) (w := 0) (b := 0) (na := 514) (C2 := xC29) (as := [(2, 31), vi 112]) (s := []) rfl rfl rfl rfl rfl rfl rfl (sp29_31 (b := 112) hI10 ⟨by omega, by omega⟩ (by omega)  (by omega)) (fun r20 S21 hq22 => ?_)
  obtain ⟨rfl, h23, bo24, hI25, hF26, hR27⟩ := hq22
  have hF28 := hF13.trans hF26 rfl rfl
  have hR29 := hR14.trans hR27 rfl
  have h31 := hI25.b0
  have e30 : PL S21 := PLat.up e15 (hF26.f rfl) (by omega) (hR27.eq rfl rfl) (hR27.eq rfl rfl) (hF26.a rfl) (hF26.a rfl) (hF26.a rfl)
  have e32 := PTx.fr e17 hF26 hR27 rfl rfl rfl
  refine Or.inl ⟨rfl, ?_⟩
  refine r_load (i := 13) (u := 0) (w := 2) rfl rfl rfl ?_
  refine r_getf (i := 14) (v := 1) (w := 9) (x := (2, 31)) rfl ly36 rfl rfl fun _ => ?_
  refine r_load (i := 15) (u := 1) (w := 0) rfl rfl rfl ?_
  refine r_const (i := 16) (u := 4) (z := 4) rfl rfl ?_
  refine c_ne (i := 17) (v := 20) rfl ⟨by omega, by omega⟩ ⟨by omega, by omega⟩ (fun h34 => ?_) (fun h35 => ?_)
  · refine r_const (i := 20) (u := 48) (z := 48) rfl rfl ?_
    refine r_load (i := 21) (u := 1) (w := 0) rfl rfl rfl ?_
    refine r_iadd (i := 22) rfl ?_
    have h36 := hI25.b0
    refine r_call (i := 23) (u := 7) (v := 29) (w := 0) (b := 0) (na := 514) (C2 := xC29) (as := [(2, 31), vi (48 + p)]) (s := []) rfl rfl rfl rfl rfl rfl rfl (sp29_31 (b := 48 + p) hI25 ⟨by omega, by omega⟩ (by omega)  (by omega)) (fun r37 S38 hq39 => ?_)
    obtain ⟨rfl, h40, bo41, hI42, hF43, hR44⟩ := hq39
    have hF45 := hF28.trans hF43 rfl rfl
    have hR46 := hR29.trans hR44 rfl
    have h48 := hI42.b0
    have e47 : PL S38 := PLat.up e30 (hF43.f rfl) (by omega) (hR44.eq rfl rfl) (hR44.eq rfl rfl) (hF43.a rfl) (hF43.a rfl) (hF43.a rfl)
    have e49 := PTx.fr e32 hF43 hR44 rfl rfl rfl
    refine Or.inl ⟨rfl, ?_⟩
    refine r_load (i := 24) (u := 0) (w := 2) rfl rfl rfl ?_
    refine r_getf (i := 25) (v := 1) (w := 9) (x := (2, 31)) rfl ly36 rfl rfl fun _ => ?_
    refine r_str (i := 26) (v := 4) rfl ?_
    have h51 := slv4
    have h52 := hI42.b0
    refine r_call (i := 27) (u := 7) (v := 28) (w := 0) (b := 0) (na := 1026) (C2 := xC28) (as := [(2, 31), (6, 4)]) (s := []) rfl rfl rfl rfl rfl rfl rfl (sp28_31 (s := 4) hI42 ⟨by decide, by decide⟩ (by omega)  (by omega)) (fun r53 S54 hq55 => ?_)
    obtain ⟨rfl, h56, bL57, hI58, hF59, hR60⟩ := hq55
    have hF61 := hF45.trans hF59 rfl rfl
    have hR62 := hR46.trans hR60 rfl
    have h64 := hI58.b0
    have e63 : PL S54 := PLat.up e47 (hF59.f rfl) (by omega) (hR60.eq rfl rfl) (hR60.eq rfl rfl) (hF59.a rfl) (hF59.a rfl) (hF59.a rfl)
    have e65 := PTx.fr e49 hF59 hR60 rfl rfl rfl
    refine Or.inl ⟨rfl, ?_⟩
    refine r_load (i := 28) (u := 0) (w := 2) rfl rfl rfl ?_
    refine r_const (i := 29) (u := 7) (z := 7) rfl rfl ?_
    refine r_load (i := 30) (u := 0) (w := 2) rfl rfl rfl ?_
    refine r_load (i := 31) (u := 2) (w := 0) rfl rfl rfl ?_
    have h66 := hI58.b0
    refine r_call (i := 32) (u := 9) (v := 96) (w := 0) (b := 0) (na := 1538) (C2 := xC96) (as := [(2, 36), vi (S.f 31 1)]) (s := [vi 7, (2, 36)]) rfl rfl rfl rfl rfl rfl rfl (sp96 (st0 := S.f 31 1) hI58 ⟨by omega, by omega⟩ (by omega) (by exact e65)  (by omega)) (fun r67 S68 hq69 => ?_)
    obtain ⟨z70, rfl, h71, h72, h73, stq74, e75, hI76, hF77, hR78⟩ := hq69
    have hF79 := hF61.trans hF77 rfl rfl
    have hR80 := hR62.trans hR78 rfl
    refine Or.inr (Or.inl ⟨rfl, ?_⟩)
    have h81 := hI76.b0
    refine r_call (i := 33) (u := 9) (v := 97) (w := 0) (b := 0) (na := 1027) (C2 := xC97) (as := [(2, 36), vi 7, vi z70]) (s := []) rfl rfl rfl rfl rfl rfl rfl (sp97 (w0 := 7) (v := z70) hI76 ⟨by omega, by omega⟩ ⟨by omega, by omega⟩ (by omega) e75 (by omega)) (fun r82 S83 hq84 => ?_)
    obtain ⟨z85, rfl, h86, h87, h88, si89, e90, hI91, hF92, hR93⟩ := hq84
    have hF94 := hF79.trans hF92 rfl rfl
    have hR95 := hR80.trans hR93 rfl
    refine Or.inr (Or.inl ⟨rfl, ?_⟩)
    have h96 := hI91.b0
    exact r_retI (i := 34) rfl ⟨z85, rfl, by omega, by omega, (by omega), (by first | (rw [show pxN p = [112] ++ [120] ++ strl 4 from by unfold pxN; rw [if_pos (by omega)]]; exact wI_cl (wI_p (tx_of rfl (hb_4 bth9 (b1_p bo24 (by omega) (by omega)) (b1_p bo41 (by omega) (by omega)) bL57) (sPl_tr (sPl_tr (sPl_tr (sPl_fr hF11 rfl rfl) (sPl_fr hF26 rfl rfl)) (sPl_fr hF43 rfl rfl)) (sPl_fr hF59 rfl rfl)) stq74 px_lt) (sBd_tr (sBd_tr (sBd_tr (sBd_tr (sBd_fr hF11 rfl rfl) (sBd_fr hF26 rfl rfl)) (sBd_fr hF43 rfl rfl)) (sBd_fr hF59 rfl rfl)) (sBd_fr hF77 rfl rfl))) (si89 rfl)) | (rw [show pxN p = [112] ++ [48 + p] ++ strl 4 from by unfold pxN; rw [if_neg (by omega)]]; exact wI_cl (wI_p (tx_of rfl (hb_4 bth9 (b1_p bo24 (by omega) (by omega)) (b1_p bo41 (by omega) (by omega)) bL57) (sPl_tr (sPl_tr (sPl_tr (sPl_fr hF11 rfl rfl) (sPl_fr hF26 rfl rfl)) (sPl_fr hF43 rfl rfl)) (sPl_fr hF59 rfl rfl)) stq74 px_lt) (sBd_tr (sBd_tr (sBd_tr (sBd_tr (sBd_fr hF11 rfl rfl) (sBd_fr hF26 rfl rfl)) (sBd_fr hF43 rfl rfl)) (sBd_fr hF59 rfl rfl)) (sBd_fr hF77 rfl rfl))) (si89 rfl))), e90, hI91, hF94, hR95⟩
  · refine r_const (i := 18) (u := 120) (z := 120) rfl rfl ?_
    refine r_goto (i := 19) (v := 23) rfl ?_
    have h97 := hI25.b0
    refine r_call (i := 23) (u := 7) (v := 29) (w := 0) (b := 0) (na := 514) (C2 := xC29) (as := [(2, 31), vi 120]) (s := []) rfl rfl rfl rfl rfl rfl rfl (sp29_31 (b := 120) hI25 ⟨by omega, by omega⟩ (by omega)  (by omega)) (fun r98 S99 hq100 => ?_)
    obtain ⟨rfl, h101, bo102, hI103, hF104, hR105⟩ := hq100
    have hF106 := hF28.trans hF104 rfl rfl
    have hR107 := hR29.trans hR105 rfl
    have h109 := hI103.b0
    have e108 : PL S99 := PLat.up e30 (hF104.f rfl) (by omega) (hR105.eq rfl rfl) (hR105.eq rfl rfl) (hF104.a rfl) (hF104.a rfl) (hF104.a rfl)
    have e110 := PTx.fr e32 hF104 hR105 rfl rfl rfl
    refine Or.inl ⟨rfl, ?_⟩
    refine r_load (i := 24) (u := 0) (w := 2) rfl rfl rfl ?_
    refine r_getf (i := 25) (v := 1) (w := 9) (x := (2, 31)) rfl ly36 rfl rfl fun _ => ?_
    refine r_str (i := 26) (v := 4) rfl ?_
    have h112 := slv4
    have h113 := hI103.b0
    refine r_call (i := 27) (u := 7) (v := 28) (w := 0) (b := 0) (na := 1026) (C2 := xC28) (as := [(2, 31), (6, 4)]) (s := []) rfl rfl rfl rfl rfl rfl rfl (sp28_31 (s := 4) hI103 ⟨by decide, by decide⟩ (by omega)  (by omega)) (fun r114 S115 hq116 => ?_)
    obtain ⟨rfl, h117, bL118, hI119, hF120, hR121⟩ := hq116
    have hF122 := hF106.trans hF120 rfl rfl
    have hR123 := hR107.trans hR121 rfl
    have h125 := hI119.b0
    have e124 : PL S115 := PLat.up e108 (hF120.f rfl) (by omega) (hR121.eq rfl rfl) (hR121.eq rfl rfl) (hF120.a rfl) (hF120.a rfl) (hF120.a rfl)
    have e126 := PTx.fr e110 hF120 hR121 rfl rfl rfl
    refine Or.inl ⟨rfl, ?_⟩
    refine r_load (i := 28) (u := 0) (w := 2) rfl rfl rfl ?_
    refine r_const (i := 29) (u := 7) (z := 7) rfl rfl ?_
    refine r_load (i := 30) (u := 0) (w := 2) rfl rfl rfl ?_
    refine r_load (i := 31) (u := 2) (w := 0) rfl rfl rfl ?_
    have h127 := hI119.b0
    refine r_call (i := 32) (u := 9) (v := 96) (w := 0) (b := 0) (na := 1538) (C2 := xC96) (as := [(2, 36), vi (S.f 31 1)]) (s := [vi 7, (2, 36)]) rfl rfl rfl rfl rfl rfl rfl (sp96 (st0 := S.f 31 1) hI119 ⟨by omega, by omega⟩ (by omega) (by exact e126)  (by omega)) (fun r128 S129 hq130 => ?_)
    obtain ⟨z131, rfl, h132, h133, h134, stq135, e136, hI137, hF138, hR139⟩ := hq130
    have hF140 := hF122.trans hF138 rfl rfl
    have hR141 := hR123.trans hR139 rfl
    refine Or.inr (Or.inl ⟨rfl, ?_⟩)
    have h142 := hI137.b0
    refine r_call (i := 33) (u := 9) (v := 97) (w := 0) (b := 0) (na := 1027) (C2 := xC97) (as := [(2, 36), vi 7, vi z131]) (s := []) rfl rfl rfl rfl rfl rfl rfl (sp97 (w0 := 7) (v := z131) hI137 ⟨by omega, by omega⟩ ⟨by omega, by omega⟩ (by omega) e136 (by omega)) (fun r143 S144 hq145 => ?_)
    obtain ⟨z146, rfl, h147, h148, h149, si150, e151, hI152, hF153, hR154⟩ := hq145
    have hF155 := hF140.trans hF153 rfl rfl
    have hR156 := hR141.trans hR154 rfl
    refine Or.inr (Or.inl ⟨rfl, ?_⟩)
    have h157 := hI152.b0
    exact r_retI (i := 34) rfl ⟨z146, rfl, by omega, by omega, (by omega), (by first | (rw [show pxN p = [112] ++ [120] ++ strl 4 from by unfold pxN; rw [if_pos (by omega)]]; exact wI_cl (wI_p (tx_of rfl (hb_4 bth9 (b1_p bo24 (by omega) (by omega)) (b1_p bo102 (by omega) (by omega)) bL118) (sPl_tr (sPl_tr (sPl_tr (sPl_fr hF11 rfl rfl) (sPl_fr hF26 rfl rfl)) (sPl_fr hF104 rfl rfl)) (sPl_fr hF120 rfl rfl)) stq135 px_lt) (sBd_tr (sBd_tr (sBd_tr (sBd_tr (sBd_fr hF11 rfl rfl) (sBd_fr hF26 rfl rfl)) (sBd_fr hF104 rfl rfl)) (sBd_fr hF120 rfl rfl)) (sBd_fr hF138 rfl rfl))) (si150 rfl)) | (rw [show pxN p = [112] ++ [48 + p] ++ strl 4 from by unfold pxN; rw [if_neg (by omega)]]; exact wI_cl (wI_p (tx_of rfl (hb_4 bth9 (b1_p bo24 (by omega) (by omega)) (b1_p bo102 (by omega) (by omega)) bL118) (sPl_tr (sPl_tr (sPl_tr (sPl_fr hF11 rfl rfl) (sPl_fr hF26 rfl rfl)) (sPl_fr hF104 rfl rfl)) (sPl_fr hF120 rfl rfl)) stq135 px_lt) (sBd_tr (sBd_tr (sBd_tr (sBd_tr (sBd_fr hF11 rfl rfl) (sBd_fr hF26 rfl rfl)) (sBd_fr hF104 rfl rfl)) (sBd_fr hF120 rfl rfl)) (sBd_fr hF138 rfl rfl))) (si150 rfl))), e151, hI152, hF155, hR156⟩
theorem lp91_22 {G : xk} {d : Nat} {S0 : yS} {s : Nat} (h_s : yStr s) {p : Int} (h_p : -2147483648 ≤ p ∧ p ≤ 2147483647) {r0 : Int} (h_r0 : 0 ≤ r0 ∧ r0 ≤ 23) (p_0 : S0.f 31 1 + (145 + slen s) ≤ 60000) (p_1 : KP p) (hd : 7 ≤ d + 1) : ∀ (n : Nat), ∀ (S : yS) (hI : yI S) (hF : yFr [(31, 1), (36, 5)] [37, 100, 102, 103, 105] S0 S) (hR : yRm [0, 2, 3] S0 S) (st0 n1 k : Int) (h_st0 : 0 ≤ st0 ∧ st0 ≤ 60000) (h_n1 : 0 ≤ n1 ∧ n1 ≤ 4) (h_k : 0 ≤ k ∧ k ≤ 4) (q_0 : PLat S st0) (q_1 : st0 = S0.f 31 1 ∧ S0.f 31 1 + (145 + slen s) ≤ 60000 ∧ st0 + 4 ≤ S.f 31 1) (q_2 : S.f 31 1 ≤ st0 + 4 + slen s + 28 * k) (q_3 : dsP (bl S0 100 (S0.f 31 1)) (bl S 100 (S.f 31 1)) (pkR 4 S0) (strl s) p k) (q_4 : n1 = hmn p) (q_5 : sPl S0 S) (q_6 : k ≤ n1) (hn : 4 - k < (n : Nat)), yT xPr G LY xC91 22 [some ((2, 36)), some ((6, s)), some (vi p), some (vi r0), some (vi st0), some (vi n1), some (vi k)] [] S (d + 1) (fun r S' => ∃ z : Int, r = (1, vi z) ∧ 0 ≤ z ∧ z ≤ 20001 ∧ (S0.f 31 1 ≤ S'.f 31 1 ∧ S'.f 31 1 ≤ S0.f 31 1 + (145 + slen s)) ∧ wI S0 S' (wpt (txE (dsL (pkR 4 S0) (strl s) p r0))) z (wix (txE (dsL (pkR 4 S0) (strl s) p r0))) ∧ PL S' ∧ yI S' ∧ yFr [(31, 1), (36, 5)] [37, 100, 102, 103, 105] S0 S' ∧ yRm [0, 2, 3] S0 S') := by
  intro n
  induction n with
  | zero => intro S hI hF hR st0 n1 k h_st0 h_n1 h_k q_0 q_1 q_2 q_3 q_4 q_5 q_6 hn; exact absurd hn (by omega)
  | succ n ih =>
    intro S hI hF hR st0 n1 k h_st0 h_n1 h_k q_0 q_1 q_2 q_3 q_4 q_5 q_6 hn
    have h1 := hI.b0
    refine r_load (i := 22) (u := 6) (w := 0) rfl rfl rfl ?_
    refine r_load (i := 23) (u := 5) (w := 0) rfl rfl rfl ?_
    refine c_ge (i := 24) (v := 32) rfl ⟨by omega, by omega⟩ ⟨by omega, by omega⟩ (fun h2 => ?_) (fun h3 => ?_)
    · refine r_load (i := 32) (u := 0) (w := 2) rfl rfl rfl ?_
      refine r_getf (i := 33) (v := 1) (w := 9) (x := (2, 31)) rfl ly36 rfl rfl fun _ => ?_
      refine r_const (i := 34) (u := 41) (z := 41) rfl rfl ?_
      refine r_call (i := 35) (u := 7) (v := 29) (w := 0) (b := 0) (na := 514) (C2 := xC29) (as := [(2, 31), vi 41]) (s := []) rfl rfl rfl rfl rfl rfl rfl (sp29_31 (b := 41) hI ⟨by omega, by omega⟩ (by omega)  (by omega)) (fun r5 S6 hq7 => ?_)
      obtain ⟨rfl, h8, bo9, hI10, hF11, hR12⟩ := hq7
      have hF13 := hF.trans hF11 rfl rfl
      have hR14 := hR.trans hR12 rfl
      have e15 := PTx.fr q_0 hF11 hR12 rfl rfl rfl
      refine Or.inl ⟨rfl, ?_⟩
      refine r_load (i := 36) (u := 0) (w := 2) rfl rfl rfl ?_
      refine r_load (i := 37) (u := 3) (w := 0) rfl rfl rfl ?_
      have h16 := hI10.b0
      refine r_call (i := 38) (u := 9) (v := 92) (w := 0) (b := 0) (na := 514) (C2 := xC92) (as := [(2, 36), vi r0]) (s := []) rfl rfl rfl rfl rfl rfl rfl (sp92 (k := r0) hI10 ⟨by omega, by omega⟩ (by omega)  (by omega)) (fun r17 S18 hq19 => ?_)
      obtain ⟨rfl, h20, kd21, hI22, hF23, hR24⟩ := hq19
      have hF25 := hF13.trans hF23 rfl rfl
      have hR26 := hR14.trans hR24 rfl
      have e27 := PTx.fr e15 hF23 hR24 rfl rfl rfl
      refine Or.inl ⟨rfl, ?_⟩
      refine r_load (i := 39) (u := 0) (w := 2) rfl rfl rfl ?_
      refine r_load (i := 40) (u := 4) (w := 0) rfl rfl rfl ?_
      have h28 := hI22.b0
      refine r_call (i := 41) (u := 9) (v := 96) (w := 0) (b := 0) (na := 1538) (C2 := xC96) (as := [(2, 36), vi st0]) (s := []) rfl rfl rfl rfl rfl rfl rfl (sp96 (st0 := st0) hI22 ⟨by omega, by omega⟩ (by omega) (by exact e27)  (by omega)) (fun r29 S30 hq31 => ?_)
      obtain ⟨z32, rfl, h33, h34, h35, stq36, e37, hI38, hF39, hR40⟩ := hq31
      have hF41 := hF25.trans hF39 rfl rfl
      have hR42 := hR26.trans hR40 rfl
      refine Or.inr (Or.inl ⟨rfl, ?_⟩)
      have h43 := hI38.b0
      exact r_retI (i := 42) rfl ⟨z32, rfl, by omega, by omega, (by omega), (by exact wI_p (tx_of (by omega) (dsP_e q_3 (by omega) (b1_p bo9 (by omega) (by omega)) kd21 ((pkR_fr hF11 rfl).trans (pkR_fr hF rfl))) (sPl_tr q_5 (sPl_tr (sPl_fr hF11 rfl rfl) (sPl_fr hF23 rfl rfl))) stq36 (dsL_lt h_s)) (sBd_fr hF41 rfl rfl)), e37, hI38, hF41, hR42⟩
    · refine r_load (i := 25) (u := 0) (w := 2) rfl rfl rfl ?_
      refine r_load (i := 26) (u := 2) (w := 0) rfl rfl rfl ?_
      refine r_load (i := 27) (u := 6) (w := 0) rfl rfl rfl ?_
      refine r_call (i := 28) (u := 65535) (v := 66) (w := 0) (b := 2) (na := 514) (C2 := xC66) (as := [vi p, vi k]) (s := [(2, 36)]) rfl rfl rfl rfl rfl rfl rfl (sp66 (p := p) (k := k) hI ⟨by omega, by omega⟩ ⟨by omega, by omega⟩   (by omega)) (fun r44 S45 hq46 => ?_)
      obtain ⟨z47, rfl, h48, h49, h50, rfl⟩ := hq46
      refine Or.inr (Or.inl ⟨rfl, ?_⟩)
      have kp9 := p_1 k (by omega) (by omega)
      refine r_call (i := 29) (u := 9) (v := 92) (w := 0) (b := 0) (na := 514) (C2 := xC92) (as := [(2, 36), vi z47]) (s := []) rfl rfl rfl rfl rfl rfl rfl (sp92 (k := z47) hI ⟨by omega, by omega⟩ (by omega)  (by omega)) (fun r51 S52 hq53 => ?_)
      obtain ⟨rfl, h54, kd55, hI56, hF57, hR58⟩ := hq53
      have hF59 := hF.trans hF57 rfl rfl
      have hR60 := hR.trans hR58 rfl
      have e61 := PTx.fr q_0 hF57 hR58 rfl rfl rfl
      refine Or.inl ⟨rfl, ?_⟩
      refine r_iinc (i := 30) (u := 1) (v := 6) (s := 1) (L1 := [some ((2, 36)), some ((6, s)), some (vi p), some (vi r0), some (vi st0), some (vi n1), some (vi (k + 1))]) rfl rfl rfl rfl rfl ?_
      refine r_goto (i := 31) (v := 22) rfl ?_
      have h62 := hI56.b0
      exact ih S52 hI56 hF59 hR60 st0 n1 (k + 1) ⟨by omega, by omega⟩ ⟨by omega, by omega⟩ ⟨by omega, by omega⟩ (by exact e61) (by omega) (by omega) (by exact dsP_s q_3 (by omega) kd55 (show _ = dg p k by unfold dg; omega) (pkR_fr hF rfl)) (by exact q_4) (by exact sPl_tr q_5 (sPl_fr hF57 rfl rfl)) (by omega) (by omega)
/-- ProxyForge$Pool.descriptor -/
theorem sp91 {G : xk} {S : yS} {d : Nat} (hI : yI S) {s : Nat} (h_s : yStr s) {p : Int} (h_p : -2147483648 ≤ p ∧ p ≤ 2147483647) {r0 : Int} (h_r0 : 0 ≤ r0 ∧ r0 ≤ 23) (p_0 : S.f 31 1 + (145 + slen s) ≤ 60000) (p_1 : KP p) (e_PL : PL S) (hd : 7 ≤ d) : yT xPr G LY xC91 0 [some ((2, 36)), some ((6, s)), some (vi p), some (vi r0)] [] S d (fun r S' => ∃ z : Int, r = (1, vi z) ∧ 0 ≤ z ∧ z ≤ 20001 ∧ (S.f 31 1 ≤ S'.f 31 1 ∧ S'.f 31 1 ≤ S.f 31 1 + (145 + slen s)) ∧ wI S S' (wpt (txE (dsL (pkR 4 S) (strl s) p r0))) z (wix (txE (dsL (pkR 4 S) (strl s) p r0))) ∧ PL S' ∧ yI S' ∧ yFr [(31, 1), (36, 5)] [37, 100, 102, 103, 105] S S' ∧ yRm [0, 2, 3] S S') := by
  refine yT_pad 3 ?_
  show yT xPr G LY xC91 0 [some ((2, 36)), some ((6, s)), some (vi p), some (vi r0), none, none, none] [] S d _
  obtain ⟨d, rfl⟩ : ∃ q, d = q + 1 := ⟨d - 1, by omega⟩
  have hF : yFr [(31, 1), (36, 5)] [37, 100, 102, 103, 105] S S := yFr.refl S
  have hR : yRm [0, 2, 3] S S := yRm.refl S
  have h1 := hI.b0
  have sl9 := slen_le h_s
  refine r_load (i := 0) (u := 0) (w := 2) rfl rfl rfl ?_
  refine r_getf (i := 1) (v := 1) (w := 9) (x := (2, 31)) rfl ly36 rfl rfl fun _ => ?_
  refine r_getf (i := 2) (v := 1) (w := 7) (x := vi (S.f 31 1)) rfl ly31 rfl rfl fun h3 => ?_
  have h3 : Rg (S.f 31 1) := h3
  refine r_store (i := 3) (u := 4) (w := 0) (L1 := [some ((2, 36)), some ((6, s)), some (vi p), some (vi r0), some (vi (S.f 31 1)), none, none]) rfl rfl rfl rfl ?_
  refine r_load (i := 4) (u := 0) (w := 2) rfl rfl rfl ?_
  refine r_getf (i := 5) (v := 1) (w := 9) (x := (2, 31)) rfl ly36 rfl rfl fun _ => ?_
  refine r_const (i := 6) (u := 1) (z := 1) rfl rfl ?_
  refine r_const (i := 7) (u := 0) (z := 0) rfl rfl ?_
  refine r_call (i := 8) (u := 7) (v := 35) (w := 0) (b := 0) (na := 771) (C2 := xC35) (as := [(2, 31), vi 1, vi 0]) (s := []) rfl rfl rfl rfl rfl rfl rfl (sp35_31 (b := 1) (c := 0) hI ⟨by omega, by omega⟩ ⟨by omega, by omega⟩ (by omega)  (by omega)) (fun r5 S6 hq7 => ?_)
  obtain ⟨rfl, h8, bth9, hI10, hF11, hR12⟩ := hq7
  have hF13 := hF.trans hF11 rfl rfl
  have hR14 := hR.trans hR12 rfl
  have h16 := hI10.b0
  have e15 : PL S6 := PLat.up e_PL (hF11.f rfl) (by omega) (hR12.eq rfl rfl) (hR12.eq rfl rfl) (hF11.a rfl) (hF11.a rfl) (hF11.a rfl)
  have e17 := PTx.fr e_PL hF11 hR12 rfl rfl rfl
  refine Or.inl ⟨rfl, ?_⟩
  refine r_load (i := 9) (u := 0) (w := 2) rfl rfl rfl ?_
  refine r_getf (i := 10) (v := 1) (w := 9) (x := (2, 31)) rfl ly36 rfl rfl fun _ => ?_
  refine r_const (i := 11) (u := 40) (z := 40) rfl rfl ?_
  have h19 := hI10.b0
  refine r_call (i := 12) (u := 7) (v := 29) (w := 0) (b := 0) (na := 514) (C2 := xC29) (as := [(2, 31), vi 40]) (s := []) rfl rfl rfl rfl rfl rfl rfl (sp29_31 (b := 40) hI10 ⟨by omega, by omega⟩ (by omega)  (by omega)) (fun r20 S21 hq22 => ?_)
  obtain ⟨rfl, h23, bo24, hI25, hF26, hR27⟩ := hq22
  have hF28 := hF13.trans hF26 rfl rfl
  have hR29 := hR14.trans hR27 rfl
  have h31 := hI25.b0
  have e30 : PL S21 := PLat.up e15 (hF26.f rfl) (by omega) (hR27.eq rfl rfl) (hR27.eq rfl rfl) (hF26.a rfl) (hF26.a rfl) (hF26.a rfl)
  have e32 := PTx.fr e17 hF26 hR27 rfl rfl rfl
  refine Or.inl ⟨rfl, ?_⟩
  refine r_load (i := 13) (u := 0) (w := 2) rfl rfl rfl ?_
  refine r_getf (i := 14) (v := 1) (w := 9) (x := (2, 31)) rfl ly36 rfl rfl fun _ => ?_
  refine r_load (i := 15) (u := 1) (w := 2) rfl rfl rfl ?_
  have h34 := hI25.b0
  refine r_call (i := 16) (u := 7) (v := 28) (w := 0) (b := 0) (na := 1026) (C2 := xC28) (as := [(2, 31), (6, s)]) (s := []) rfl rfl rfl rfl rfl rfl rfl (sp28_31 (s := s) hI25 h_s (by omega)  (by omega)) (fun r35 S36 hq37 => ?_)
  obtain ⟨rfl, h38, bL39, hI40, hF41, hR42⟩ := hq37
  have hF43 := hF28.trans hF41 rfl rfl
  have hR44 := hR29.trans hR42 rfl
  have h46 := hI40.b0
  have e45 : PL S36 := PLat.up e30 (hF41.f rfl) (by omega) (hR42.eq rfl rfl) (hR42.eq rfl rfl) (hF41.a rfl) (hF41.a rfl) (hF41.a rfl)
  have e47 := PTx.fr e32 hF41 hR42 rfl rfl rfl
  refine Or.inl ⟨rfl, ?_⟩
  refine r_load (i := 17) (u := 2) (w := 0) rfl rfl rfl ?_
  refine r_call (i := 18) (u := 65535) (v := 67) (w := 0) (b := 2) (na := 513) (C2 := xC67) (as := [vi p]) (s := []) rfl rfl rfl rfl rfl rfl rfl (sp67 (p := p) hI40 ⟨by omega, by omega⟩   (by omega)) (fun r48 S49 hq50 => ?_)
  obtain ⟨z51, rfl, h52, h53, hmn54, rfl⟩ := hq50
  refine Or.inr (Or.inl ⟨rfl, ?_⟩)
  refine r_store (i := 19) (u := 5) (w := 0) (L1 := [some ((2, 36)), some ((6, s)), some (vi p), some (vi r0), some (vi (S.f 31 1)), some (vi z51), none]) rfl rfl rfl rfl ?_
  refine r_const (i := 20) (u := 0) (z := 0) rfl rfl ?_
  refine r_store (i := 21) (u := 6) (w := 0) (L1 := [some ((2, 36)), some ((6, s)), some (vi p), some (vi r0), some (vi (S.f 31 1)), some (vi z51), some (vi 0)]) rfl rfl rfl rfl ?_
  have h55 := hI40.b0
  exact lp91_22 h_s h_p h_r0 p_0 p_1 hd _ S36 hI40 hF43 hR44 (S.f 31 1) z51 0 ⟨by omega, by omega⟩ ⟨by omega, by omega⟩ ⟨by omega, by omega⟩ (by exact e47) (by omega) (by omega) (by exact dsP_0 (b3_t bth9) (b1_p bo24 (by omega) (by omega)) bL39) (by exact hmn_of hmn54 (by omega) (by omega)) (by exact (sPl_tr (sPl_tr (sPl_fr hF11 rfl rfl) (sPl_fr hF26 rfl rfl)) (sPl_fr hF41 rfl rfl))) (by omega) (Int.lt_succ_toNat _)
/-- ProxyForge$Pool.clear -/
theorem sp90 {G : xk} {S : yS} {d : Nat} (hI : yI S) (e_N23 : N23 S) (hd : 1 ≤ d) : yT xPr G LY xC90 0 [some ((2, 36))] [] S d (fun r S' => r = (0, (0, 0)) ∧ PLC S' [] ∧ PL S' ∧ yI S' ∧ yFr [(36, 5)] [37] S S' ∧ yRm [] S S') := by
  refine yT_pad 0 ?_
  show yT xPr G LY xC90 0 [some ((2, 36))] [] S d _
  obtain ⟨d, rfl⟩ : ∃ q, d = q + 1 := ⟨d - 1, by omega⟩
  have hF : yFr [(36, 5)] [37] S S := yFr.refl S
  have hR : yRm [] S S := yRm.refl S
  refine r_load (i := 0) (u := 0) (w := 2) rfl rfl rfl ?_
  refine r_getf (i := 1) (v := 2) (w := 9) (x := (2, 37)) rfl ly36 rfl rfl fun _ => ?_
  refine r_const (i := 2) (u := 0) (z := 0) rfl rfl ?_
  refine r_call (i := 3) (u := 65535) (v := 278) (w := 0) (b := 2) (na := 1026) (C2 := xC278) (as := [(2, 37), vi 0]) (s := []) rfl rfl rfl rfl rfl rfl rfl (sp278 (v := 0) hI ⟨by omega, by omega⟩   (by omega)) (fun r2 S3 hq4 => ?_)
  obtain ⟨rfl, h5, hI6, hF7, hR8⟩ := hq4
  have hF9 := hF.trans hF7 rfl rfl
  have hR10 := hR.trans hR8 rfl
  have e11 := N23x.fr e_N23 hF7 hR8 rfl rfl rfl
  refine Or.inl ⟨rfl, ?_⟩
  refine r_load (i := 4) (u := 0) (w := 2) rfl rfl rfl ?_
  refine r_const (i := 5) (u := 0) (z := 0) rfl rfl ?_
  refine r_putI (i := 6) (v := 5) (w := 9) rfl ly36 rfl ⟨by omega, by omega⟩ ?_
  have hI13 := hI6.setf0 (b := 36) (w := 5) (z := 0) rfl rfl
  have hF15 := hF9.setf (b := 36) (w := 5) (z := 0) rfl
  have hR16 := hR10.setf (b := 36) (w := 5) (z := 0)
  have e17 := N23x.setf e11 (b := 36) (w := 5) (z := 0) rfl
  refine yT_gen (fun S12 hS14 => ?_)
  rw [hS14] at hI13 hF15 hR16 e17
  have h18 := hI13.bn
  have h19 := hI13.br
  have h20 : S12.n = S3.n := by rw [← hS14]; rfl
  have h21 : S12.n 0 = S3.n 0 := congrFun h20 0
  have h22 : S12.n 1 = S3.n 1 := congrFun h20 1
  have h23 : S12.n 2 = S3.n 2 := congrFun h20 2
  have h24 : S12.n 3 = S3.n 3 := congrFun h20 3
  have h25 : S12.n 4 = S3.n 4 := congrFun h20 4
  have h26 : S3.n 0 = S.n 0 := hR8.eq rfl rfl
  have h27 : S3.n 1 = S.n 1 := hR8.eq rfl rfl
  have h28 : S3.n 2 = S.n 2 := hR8.eq rfl rfl
  have h29 : S3.n 3 = S.n 3 := hR8.eq rfl rfl
  have h30 : S3.n 4 = S.n 4 := hR8.eq rfl rfl
  have h31 : S12.f 36 5 = 0 := by rw [← hS14]; exact ysf_eq
  have h32 := hI13.b0
  have h33 : S12.f 31 1 = S3.f 31 1 := by rw [← hS14]; exact ysf_ne (by decide)
  have h34 : S3.f 31 1 = S.f 31 1 := hF7.f rfl
  exact r_ret0 (i := 7) rfl ⟨rfl, (by exact PLC_0 (by omega) (by intro j hj; subst hS14; exact ‹∀ j : Nat, j < 64 → yS.a _ 37 j = 0› j hj)), (by exact PL_0 (by omega) (by omega) (by have := e17; unfold N23 at this; exact this) (by omega) (by intro j hj; subst_vars; exact ‹∀ j : Nat, j < 64 → yS.a _ 37 j = 0› j hj)), hI13, hF15, hR16⟩
end XNC
