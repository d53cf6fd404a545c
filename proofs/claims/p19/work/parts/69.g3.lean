set_option linter.unusedVariables false
set_option maxRecDepth 4000
noncomputable section XNC
theorem lp188_109 {G : xk} {d : Nat} {S0 : yS} {k : Int} (h_k : -2147483648 ≤ k ∧ k ≤ 2147483647) {a : Int} (h_a : Rl a) {b : Int} (h_b : Rl b) {c : Int} (h_c : Rl c) {e : Int} (h_e : Rl e) (hd : 2 ≤ d + 1) {m : Int} (h_m : 0 ≤ m ∧ m ≤ 59) {j : Int} (h_j : 0 ≤ j ∧ j ≤ 3) (no : Nat) (K : ∀ (S : yS) (hI : yI S) (hF : yFr [(43, 0), (43, 34), (43, 35), (43, 37)] [68, 69, 70] S0 S) (hR : yRm [] S0 S) (m j : Int) (h_m : 0 ≤ m ∧ m ≤ 59) (h_j : 0 ≤ j ∧ j ≤ 4) (q_0 : 0 ≤ k ∧ k < 24) (hn : 4 - j < (no : Nat)), yT xPr G LY xC188 48 [some ((2, 43)), some (vi k), some (vl a), none, some (vl b), none, some (vl c), none, some (vl e), none, some (vi m), some (vi j), none, none, none, none] [] S (d + 1) (fun r S' => ∃ z : Int, r = (1, vi z) ∧ -2147483648 ≤ z ∧ z ≤ 2147483647 ∧ yI S' ∧ yFr [(43, 0), (43, 34), (43, 35), (43, 37)] [68, 69, 70] S0 S' ∧ yRm [] S0 S')) (hm : 4 - j < ((no + 1 : Nat) : Int)) : ∀ (S : yS) (hI : yI S) (hF : yFr [(43, 0), (43, 34), (43, 35), (43, 37)] [68, 69, 70] S0 S) (hR : yRm [] S0 S) (v w0 g0 : Int) (h_v : Rl v) (h_w0 : 0 ≤ w0 ∧ w0 ≤ 31) (h_g0 : 0 ≤ g0 ∧ g0 ≤ 1) (q_0 : 0 ≤ k ∧ k < 24), yT xPr G LY xC188 109 [some ((2, 43)), some (vi k), some (vl a), none, some (vl b), none, some (vl c), none, some (vl e), none, some (vi m), some (vi j), some (vl v), none, some (vi w0), some (vi g0)] [] S (d + 1) (fun r S' => ∃ z : Int, r = (1, vi z) ∧ -2147483648 ≤ z ∧ z ≤ 2147483647 ∧ yI S' ∧ yFr [(43, 0), (43, 34), (43, 35), (43, 37)] [68, 69, 70] S0 S' ∧ yRm [] S0 S') := by
  intro S hI hF hR v w0 g0 h_v h_w0 h_g0 q_0
  refine r_load (i := 109) (u := 0) (w := 2) rfl rfl rfl ?_
  refine r_getf (i := 110) (v := 39) (w := 11) (x := (2, 70)) rfl ly43 rfl rfl fun _ => ?_
  refine r_load (i := 111) (u := 11) (w := 0) rfl rfl rfl ?_
  refine r_load (i := 112) (u := 14) (w := 0) rfl rfl rfl ?_
  refine r_const (i := 113) (u := 1) (z := 1) rfl rfl ?_
  refine c_ne (i := 114) (v := 119) rfl ⟨by omega, by omega⟩ ⟨by omega, by omega⟩ (fun h2 => ?_) (fun h3 => ?_)
  · refine r_load (i := 119) (u := 14) (w := 0) rfl rfl rfl ?_
    refine r_const (i := 120) (u := 2) (z := 2) rfl rfl ?_
    refine c_ne (i := 121) (v := 124) rfl ⟨by omega, by omega⟩ ⟨by omega, by omega⟩ (fun h4 => ?_) (fun h5 => ?_)
    · refine r_load (i := 124) (u := 14) (w := 0) rfl rfl rfl ?_
      refine r_const (i := 125) (u := 3) (z := 3) rfl rfl ?_
      refine c_ne (i := 126) (v := 131) rfl ⟨by omega, by omega⟩ ⟨by omega, by omega⟩ (fun h6 => ?_) (fun h7 => ?_)
      · refine r_lconst (i := 131) (u := 0) (z := 0) rfl rfl ?_
        refine r_lastore (i := 132) rfl ly70 (by decide) (by omega) (by omega) ⟨by omega, by omega⟩ ?_
        have hI9 := hI.seta0 (b := 70) (j := j.toNat) (z := 0) rfl rfl
        have hF11 := hF.seta (b := 70) (j := j.toNat) (z := 0) rfl
        have hR12 := hR.seta (b := 70) (j := j.toNat) (z := 0)
        refine yT_gen (fun S8 hS10 => ?_)
        rw [hS10] at hI9 hF11 hR12 
        refine r_iinc (i := 133) (u := 1) (v := 11) (s := 1) (L1 := [some ((2, 43)), some (vi k), some (vl a), none, some (vl b), none, some (vl c), none, some (vl e), none, some (vi m), some (vi (j + 1)), some (vl v), none, some (vi w0), some (vi g0)]) rfl rfl rfl rfl rfl ?_
        refine r_goto (i := 134) (v := 48) rfl ?_
        refine yT_drop (L1 := [some ((2, 43)), some (vi k), some (vl a), none, some (vl b), none, some (vl c), none, some (vl e), none, some (vi m), some (vi (j + 1)), none, none, none, none]) rfl ?_
        exact K S8 hI9 hF11 hR12 m (j + 1) ⟨by omega, by omega⟩ ⟨by omega, by omega⟩ (by omega) (by omega)
      · refine r_load (i := 127) (u := 12) (w := 1) rfl rfl rfl ?_
        refine r_lconst (i := 128) (u := 1) (z := 1) rfl rfl ?_
        refine r_land (i := 129) rfl ?_
        have h13 := @yland_c v 1 (by decide) (by decide)
        refine r_goto (i := 130) (v := 132) rfl ?_
        refine r_lastore (i := 132) rfl ly70 (by decide) (by omega) (by omega) ⟨by omega, by omega⟩ ?_
        have hI15 := hI.seta0 (b := 70) (j := j.toNat) (z := yland v 1) rfl rfl
        have hF17 := hF.seta (b := 70) (j := j.toNat) (z := yland v 1) rfl
        have hR18 := hR.seta (b := 70) (j := j.toNat) (z := yland v 1)
        refine yT_gen (fun S14 hS16 => ?_)
        rw [hS16] at hI15 hF17 hR18 
        refine r_iinc (i := 133) (u := 1) (v := 11) (s := 1) (L1 := [some ((2, 43)), some (vi k), some (vl a), none, some (vl b), none, some (vl c), none, some (vl e), none, some (vi m), some (vi (j + 1)), some (vl v), none, some (vi w0), some (vi g0)]) rfl rfl rfl rfl rfl ?_
        refine r_goto (i := 134) (v := 48) rfl ?_
        refine yT_drop (L1 := [some ((2, 43)), some (vi k), some (vl a), none, some (vl b), none, some (vl c), none, some (vl e), none, some (vi m), some (vi (j + 1)), none, none, none, none]) rfl ?_
        exact K S14 hI15 hF17 hR18 m (j + 1) ⟨by omega, by omega⟩ ⟨by omega, by omega⟩ (by omega) (by omega)
    · refine r_load (i := 122) (u := 12) (w := 1) rfl rfl rfl ?_
      refine r_goto (i := 123) (v := 132) rfl ?_
      refine r_lastore (i := 132) rfl ly70 (by decide) (by omega) (by omega) ⟨by omega, by omega⟩ ?_
      have hI20 := hI.seta0 (b := 70) (j := j.toNat) (z := v) rfl rfl
      have hF22 := hF.seta (b := 70) (j := j.toNat) (z := v) rfl
      have hR23 := hR.seta (b := 70) (j := j.toNat) (z := v)
      refine yT_gen (fun S19 hS21 => ?_)
      rw [hS21] at hI20 hF22 hR23 
      refine r_iinc (i := 133) (u := 1) (v := 11) (s := 1) (L1 := [some ((2, 43)), some (vi k), some (vl a), none, some (vl b), none, some (vl c), none, some (vl e), none, some (vi m), some (vi (j + 1)), some (vl v), none, some (vi w0), some (vi g0)]) rfl rfl rfl rfl rfl ?_
      refine r_goto (i := 134) (v := 48) rfl ?_
      refine yT_drop (L1 := [some ((2, 43)), some (vi k), some (vl a), none, some (vl b), none, some (vl c), none, some (vl e), none, some (vi m), some (vi (j + 1)), none, none, none, none]) rfl ?_
      exact K S19 hI20 hF22 hR23 m (j + 1) ⟨by omega, by omega⟩ ⟨by omega, by omega⟩ (by omega) (by omega)
  · refine r_load (i := 115) (u := 12) (w := 1) rfl rfl rfl ?_
    refine r_l2i (i := 116) rfl ?_
    rw [vi_sg v]
    have h24 := ysg_fact v
    refine r_i2l (i := 117) rfl ⟨by omega, by omega⟩ ?_
    refine r_goto (i := 118) (v := 132) rfl ?_
    refine r_lastore (i := 132) rfl ly70 (by decide) (by omega) (by omega) ⟨by omega, by omega⟩ ?_
    have hI26 := hI.seta0 (b := 70) (j := j.toNat) (z := ysg v) rfl rfl
    have hF28 := hF.seta (b := 70) (j := j.toNat) (z := ysg v) rfl
    have hR29 := hR.seta (b := 70) (j := j.toNat) (z := ysg v)
    refine yT_gen (fun S25 hS27 => ?_)
    rw [hS27] at hI26 hF28 hR29 
    refine r_iinc (i := 133) (u := 1) (v := 11) (s := 1) (L1 := [some ((2, 43)), some (vi k), some (vl a), none, some (vl b), none, some (vl c), none, some (vl e), none, some (vi m), some (vi (j + 1)), some (vl v), none, some (vi w0), some (vi g0)]) rfl rfl rfl rfl rfl ?_
    refine r_goto (i := 134) (v := 48) rfl ?_
    refine yT_drop (L1 := [some ((2, 43)), some (vi k), some (vl a), none, some (vl b), none, some (vl c), none, some (vl e), none, some (vi m), some (vi (j + 1)), none, none, none, none]) rfl ?_
    exact K S25 hI26 hF28 hR29 m (j + 1) ⟨by omega, by omega⟩ ⟨by omega, by omega⟩ (by omega) (by omega)
theorem lp188_91 {G : xk} {d : Nat} {S0 : yS} {k : Int} (h_k : -2147483648 ≤ k ∧ k ≤ 2147483647) {a : Int} (h_a : Rl a) {b : Int} (h_b : Rl b) {c : Int} (h_c : Rl c) {e : Int} (h_e : Rl e) (hd : 2 ≤ d + 1) {m : Int} (h_m : 0 ≤ m ∧ m ≤ 59) {j : Int} (h_j : 0 ≤ j ∧ j ≤ 3) (no : Nat) (K : ∀ (S : yS) (hI : yI S) (hF : yFr [(43, 0), (43, 34), (43, 35), (43, 37)] [68, 69, 70] S0 S) (hR : yRm [] S0 S) (m j : Int) (h_m : 0 ≤ m ∧ m ≤ 59) (h_j : 0 ≤ j ∧ j ≤ 4) (q_0 : 0 ≤ k ∧ k < 24) (hn : 4 - j < (no : Nat)), yT xPr G LY xC188 48 [some ((2, 43)), some (vi k), some (vl a), none, some (vl b), none, some (vl c), none, some (vl e), none, some (vi m), some (vi j), none, none, none, none] [] S (d + 1) (fun r S' => ∃ z : Int, r = (1, vi z) ∧ -2147483648 ≤ z ∧ z ≤ 2147483647 ∧ yI S' ∧ yFr [(43, 0), (43, 34), (43, 35), (43, 37)] [68, 69, 70] S0 S' ∧ yRm [] S0 S')) (hm : 4 - j < ((no + 1 : Nat) : Int)) : ∀ (S : yS) (hI : yI S) (hF : yFr [(43, 0), (43, 34), (43, 35), (43, 37)] [68, 69, 70] S0 S) (hR : yRm [] S0 S) (v w0 g0 : Int) (h_v : Rl v) (h_w0 : 0 ≤ w0 ∧ w0 ≤ 31) (h_g0 : 0 ≤ g0 ∧ g0 ≤ 1) (q_0 : 0 ≤ k ∧ k < 24) (q_1 : g0 = 1 → 0 ≤ v ∧ v < 20) (q_2 : w0 ≤ 23), yT xPr G LY xC188 91 [some ((2, 43)), some (vi k), some (vl a), none, some (vl b), none, some (vl c), none, some (vl e), none, some (vi m), some (vi j), some (vl v), none, some (vi w0), none] [vi g0] S (d + 1) (fun r S' => ∃ z : Int, r = (1, vi z) ∧ -2147483648 ≤ z ∧ z ≤ 2147483647 ∧ yI S' ∧ yFr [(43, 0), (43, 34), (43, 35), (43, 37)] [68, 69, 70] S0 S' ∧ yRm [] S0 S') := by
  intro S hI hF hR v w0 g0 h_v h_w0 h_g0 q_0 q_1 q_2
  refine r_store (i := 91) (u := 15) (w := 0) (L1 := [some ((2, 43)), some (vi k), some (vl a), none, some (vl b), none, some (vl c), none, some (vl e), none, some (vi m), some (vi j), some (vl v), none, some (vi w0), some (vi g0)]) rfl rfl rfl rfl ?_
  refine r_load (i := 92) (u := 0) (w := 2) rfl rfl rfl ?_
  refine r_getf (i := 93) (v := 38) (w := 11) (x := (2, 69)) rfl ly43 rfl rfl fun _ => ?_
  refine r_load (i := 94) (u := 11) (w := 0) rfl rfl rfl ?_
  refine r_load (i := 95) (u := 14) (w := 0) rfl rfl rfl ?_
  refine r_const (i := 96) (u := 4) (z := 4) rfl rfl ?_
  refine c_ge (i := 97) (v := 100) rfl ⟨by omega, by omega⟩ ⟨by omega, by omega⟩ (fun h2 => ?_) (fun h3 => ?_)
  · refine r_load (i := 100) (u := 15) (w := 0) rfl rfl rfl ?_
    refine z_eq (i := 101) (v := 107) rfl ⟨by omega, by omega⟩ (fun h4 => ?_) (fun h5 => ?_)
    · refine r_const (i := 107) (u := 0) (z := 0) rfl rfl ?_
      refine s_int (i := 108) rfl ly69 rfl (by omega) (by omega) ⟨by omega, by omega⟩ ?_
      have hI7 := hI.seta (b := 69) (j := j.toNat) (z := 0) ta69 rfl (by omega) (by omega)
      have hF9 := hF.seta (b := 69) (j := j.toNat) (z := 0) rfl
      have hR10 := hR.seta (b := 69) (j := j.toNat) (z := 0)
      refine yT_gen (fun S6 hS8 => ?_)
      rw [hS8] at hI7 hF9 hR10 
      exact lp188_109 h_k h_a h_b h_c h_e  hd (m := m) (j := j) ⟨by omega, by omega⟩ ⟨by omega, by omega⟩ no K (by omega) S6 hI7 hF9 hR10 v w0 g0 ⟨by omega, by omega⟩ ⟨by omega, by omega⟩ ⟨by omega, by omega⟩ (by omega) 
    · refine r_const (i := 102) (u := 4) (z := 4) rfl rfl ?_
      refine r_load (i := 103) (u := 12) (w := 1) rfl rfl rfl ?_
      refine r_l2i (i := 104) rfl ?_
      rw [vi_sg v]
      have h11 := ysg_fact v
      refine r_iadd (i := 105) rfl ?_
      refine r_goto (i := 106) (v := 108) rfl ?_
      refine s_int (i := 108) rfl ly69 rfl (by omega) (by omega) ⟨by omega, by omega⟩ ?_
      have hI13 := hI.seta (b := 69) (j := j.toNat) (z := 4 + (ysg v)) ta69 rfl (by omega) (by omega)
      have hF15 := hF.seta (b := 69) (j := j.toNat) (z := 4 + (ysg v)) rfl
      have hR16 := hR.seta (b := 69) (j := j.toNat) (z := 4 + (ysg v))
      refine yT_gen (fun S12 hS14 => ?_)
      rw [hS14] at hI13 hF15 hR16 
      exact lp188_109 h_k h_a h_b h_c h_e  hd (m := m) (j := j) ⟨by omega, by omega⟩ ⟨by omega, by omega⟩ no K (by omega) S12 hI13 hF15 hR16 v w0 g0 ⟨by omega, by omega⟩ ⟨by omega, by omega⟩ ⟨by omega, by omega⟩ (by omega) 
  · refine r_load (i := 98) (u := 14) (w := 0) rfl rfl rfl ?_
    refine r_goto (i := 99) (v := 108) rfl ?_
    refine s_int (i := 108) rfl ly69 rfl (by omega) (by omega) ⟨by omega, by omega⟩ ?_
    have hI18 := hI.seta (b := 69) (j := j.toNat) (z := w0) ta69 rfl (by omega) (by omega)
    have hF20 := hF.seta (b := 69) (j := j.toNat) (z := w0) rfl
    have hR21 := hR.seta (b := 69) (j := j.toNat) (z := w0)
    refine yT_gen (fun S17 hS19 => ?_)
    rw [hS19] at hI18 hF20 hR21 
    exact lp188_109 h_k h_a h_b h_c h_e  hd (m := m) (j := j) ⟨by omega, by omega⟩ ⟨by omega, by omega⟩ no K (by omega) S17 hI18 hF20 hR21 v w0 g0 ⟨by omega, by omega⟩ ⟨by omega, by omega⟩ ⟨by omega, by omega⟩ (by omega) 
theorem lp188_67 {G : xk} {d : Nat} {S0 : yS} {k : Int} (h_k : -2147483648 ≤ k ∧ k ≤ 2147483647) {a : Int} (h_a : Rl a) {b : Int} (h_b : Rl b) {c : Int} (h_c : Rl c) {e : Int} (h_e : Rl e) (hd : 2 ≤ d + 1) {m : Int} (h_m : 0 ≤ m ∧ m ≤ 59) {j : Int} (h_j : 0 ≤ j ∧ j ≤ 3) (no : Nat) (K : ∀ (S : yS) (hI : yI S) (hF : yFr [(43, 0), (43, 34), (43, 35), (43, 37)] [68, 69, 70] S0 S) (hR : yRm [] S0 S) (m j : Int) (h_m : 0 ≤ m ∧ m ≤ 59) (h_j : 0 ≤ j ∧ j ≤ 4) (q_0 : 0 ≤ k ∧ k < 24) (hn : 4 - j < (no : Nat)), yT xPr G LY xC188 48 [some ((2, 43)), some (vi k), some (vl a), none, some (vl b), none, some (vl c), none, some (vl e), none, some (vi m), some (vi j), none, none, none, none] [] S (d + 1) (fun r S' => ∃ z : Int, r = (1, vi z) ∧ -2147483648 ≤ z ∧ z ≤ 2147483647 ∧ yI S' ∧ yFr [(43, 0), (43, 34), (43, 35), (43, 37)] [68, 69, 70] S0 S' ∧ yRm [] S0 S')) (hm : 4 - j < ((no + 1 : Nat) : Int)) : ∀ (S : yS) (hI : yI S) (hF : yFr [(43, 0), (43, 34), (43, 35), (43, 37)] [68, 69, 70] S0 S) (hR : yRm [] S0 S) (v : Int) (h_v : Rl v) (q_0 : 0 ≤ k ∧ k < 24), yT xPr G LY xC188 67 [some ((2, 43)), some (vi k), some (vl a), none, some (vl b), none, some (vl c), none, some (vl e), none, some (vi m), some (vi j), none, none, none, none] [vl v] S (d + 1) (fun r S' => ∃ z : Int, r = (1, vi z) ∧ -2147483648 ≤ z ∧ z ≤ 2147483647 ∧ yI S' ∧ yFr [(43, 0), (43, 34), (43, 35), (43, 37)] [68, 69, 70] S0 S' ∧ yRm [] S0 S') := by
  intro S hI hF hR v h_v q_0
  refine r_store (i := 67) (u := 12) (w := 1) (L1 := [some ((2, 43)), some (vi k), some (vl a), none, some (vl b), none, some (vl c), none, some (vl e), none, some (vi m), some (vi j), some (vl v), none, none, none]) rfl rfl rfl rfl ?_
  refine r_load (i := 68) (u := 0) (w := 2) rfl rfl rfl ?_
  refine r_getf (i := 69) (v := 14) (w := 11) (x := (2, 55)) rfl ly43 rfl rfl fun _ => ?_
  refine r_load (i := 70) (u := 10) (w := 0) rfl rfl rfl ?_
  refine a_int (i := 71) rfl ly55 rfl (by omega) (by omega) fun h2 => ?_
  have h3 := hI.a ta55 m.toNat
  have kp4 := hI.k55 m.toNat
  have h5 : S.a 55 m.toNat = S0.a 55 m.toNat := hF.a rfl _
  refine r_load (i := 72) (u := 11) (w := 0) rfl rfl rfl ?_
  refine r_call (i := 73) (u := 65535) (v := 229) (w := 0) (b := 2) (na := 514) (C2 := xC229) (as := [vi (S.a 55 m.toNat), vi j]) (s := []) rfl rfl rfl rfl rfl rfl rfl (sp229 (a := S.a 55 m.toNat) (k := j) hI ⟨by omega, by omega⟩ ⟨by omega, by omega⟩   (by omega)) (fun r6 S7 hq8 => ?_)
  obtain ⟨z9, rfl, h10, h11, h12, rfl⟩ := hq8
  refine Or.inr (Or.inl ⟨rfl, ?_⟩)
  have kk9 := kpu hI m.toNat j (by omega) (by omega)
  refine r_store (i := 74) (u := 14) (w := 0) (L1 := [some ((2, 43)), some (vi k), some (vl a), none, some (vl b), none, some (vl c), none, some (vl e), none, some (vi m), some (vi j), some (vl v), none, some (vi z9), none]) rfl rfl rfl rfl ?_
  refine r_load (i := 75) (u := 14) (w := 0) rfl rfl rfl ?_
  refine r_const (i := 76) (u := 3) (z := 3) rfl rfl ?_
  refine c_le (i := 77) (v := 90) rfl ⟨by omega, by omega⟩ ⟨by omega, by omega⟩ (fun h13 => ?_) (fun h14 => ?_)
  · refine r_const (i := 90) (u := 0) (z := 0) rfl rfl ?_
    exact lp188_91 h_k h_a h_b h_c h_e  hd (m := m) (j := j) ⟨by omega, by omega⟩ ⟨by omega, by omega⟩ no K (by omega) S hI hF hR v z9 0 ⟨by omega, by omega⟩ ⟨by omega, by omega⟩ ⟨by omega, by omega⟩ (by omega) (by omega) (by omega) 
  · refine r_load (i := 78) (u := 12) (w := 1) rfl rfl rfl ?_
    refine r_lconst (i := 79) (u := 0) (z := 0) rfl rfl ?_
    refine r_lcmp (i := 80) rfl ⟨by omega, by omega⟩ ⟨by omega, by omega⟩ (fun h15 => ?_) (fun h16 => ?_) (fun h17 => ?_)
    · refine z_lt (i := 81) (v := 90) rfl ⟨by omega, by omega⟩ (fun h18 => ?_) (fun h19 => absurd h19 (by omega))
      refine r_const (i := 90) (u := 0) (z := 0) rfl rfl ?_
      exact lp188_91 h_k h_a h_b h_c h_e  hd (m := m) (j := j) ⟨by omega, by omega⟩ ⟨by omega, by omega⟩ no K (by omega) S hI hF hR v z9 0 ⟨by omega, by omega⟩ ⟨by omega, by omega⟩ ⟨by omega, by omega⟩ (by omega) (by omega) (by omega) 
    · refine z_lt (i := 81) (v := 90) rfl ⟨by omega, by omega⟩ (fun h20 => absurd h20 (by omega)) (fun h21 => ?_)
      refine r_load (i := 82) (u := 12) (w := 1) rfl rfl rfl ?_
      refine r_load (i := 83) (u := 0) (w := 2) rfl rfl rfl ?_
      have h22 := hI.f tf43_1
      have h23 : S.f 43 1 = S0.f 43 1 := hF.f rfl
      refine r_getf (i := 84) (v := 1) (w := 11) (x := vi (S.f 43 1)) rfl ly43 rfl rfl fun h24 => ?_
      have h24 : Rg (S.f 43 1) := h24
      refine r_i2l (i := 85) rfl ⟨by omega, by omega⟩ ?_
      refine r_lcmp (i := 86) rfl ⟨by omega, by omega⟩ ⟨by omega, by omega⟩ (fun h25 => ?_) (fun h26 => ?_) (fun h27 => ?_)
      · refine z_ge (i := 87) (v := 90) rfl ⟨by omega, by omega⟩ (fun h28 => absurd h28 (by omega)) (fun h29 => ?_)
        refine r_const (i := 88) (u := 1) (z := 1) rfl rfl ?_
        refine r_goto (i := 89) (v := 91) rfl ?_
        exact lp188_91 h_k h_a h_b h_c h_e  hd (m := m) (j := j) ⟨by omega, by omega⟩ ⟨by omega, by omega⟩ no K (by omega) S hI hF hR v z9 1 ⟨by omega, by omega⟩ ⟨by omega, by omega⟩ ⟨by omega, by omega⟩ (by omega) (by omega) (by omega) 
      · refine z_ge (i := 87) (v := 90) rfl ⟨by omega, by omega⟩ (fun h30 => ?_) (fun h31 => absurd h31 (by omega))
        refine r_const (i := 90) (u := 0) (z := 0) rfl rfl ?_
        exact lp188_91 h_k h_a h_b h_c h_e  hd (m := m) (j := j) ⟨by omega, by omega⟩ ⟨by omega, by omega⟩ no K (by omega) S hI hF hR v z9 0 ⟨by omega, by omega⟩ ⟨by omega, by omega⟩ ⟨by omega, by omega⟩ (by omega) (by omega) (by omega) 
      · refine z_ge (i := 87) (v := 90) rfl ⟨by omega, by omega⟩ (fun h32 => ?_) (fun h33 => absurd h33 (by omega))
        refine r_const (i := 90) (u := 0) (z := 0) rfl rfl ?_
        exact lp188_91 h_k h_a h_b h_c h_e  hd (m := m) (j := j) ⟨by omega, by omega⟩ ⟨by omega, by omega⟩ no K (by omega) S hI hF hR v z9 0 ⟨by omega, by omega⟩ ⟨by omega, by omega⟩ ⟨by omega, by omega⟩ (by omega) (by omega) (by omega) 
    · refine z_lt (i := 81) (v := 90) rfl ⟨by omega, by omega⟩ (fun h34 => absurd h34 (by omega)) (fun h35 => ?_)
      refine r_load (i := 82) (u := 12) (w := 1) rfl rfl rfl ?_
      refine r_load (i := 83) (u := 0) (w := 2) rfl rfl rfl ?_
      have h36 := hI.f tf43_1
      have h37 : S.f 43 1 = S0.f 43 1 := hF.f rfl
      refine r_getf (i := 84) (v := 1) (w := 11) (x := vi (S.f 43 1)) rfl ly43 rfl rfl fun h38 => ?_
      have h38 : Rg (S.f 43 1) := h38
      refine r_i2l (i := 85) rfl ⟨by omega, by omega⟩ ?_
      refine r_lcmp (i := 86) rfl ⟨by omega, by omega⟩ ⟨by omega, by omega⟩ (fun h39 => ?_) (fun h40 => ?_) (fun h41 => ?_)
      · refine z_ge (i := 87) (v := 90) rfl ⟨by omega, by omega⟩ (fun h42 => absurd h42 (by omega)) (fun h43 => ?_)
        refine r_const (i := 88) (u := 1) (z := 1) rfl rfl ?_
        refine r_goto (i := 89) (v := 91) rfl ?_
        exact lp188_91 h_k h_a h_b h_c h_e  hd (m := m) (j := j) ⟨by omega, by omega⟩ ⟨by omega, by omega⟩ no K (by omega) S hI hF hR v z9 1 ⟨by omega, by omega⟩ ⟨by omega, by omega⟩ ⟨by omega, by omega⟩ (by omega) (by omega) (by omega) 
      · refine z_ge (i := 87) (v := 90) rfl ⟨by omega, by omega⟩ (fun h44 => ?_) (fun h45 => absurd h45 (by omega))
        refine r_const (i := 90) (u := 0) (z := 0) rfl rfl ?_
        exact lp188_91 h_k h_a h_b h_c h_e  hd (m := m) (j := j) ⟨by omega, by omega⟩ ⟨by omega, by omega⟩ no K (by omega) S hI hF hR v z9 0 ⟨by omega, by omega⟩ ⟨by omega, by omega⟩ ⟨by omega, by omega⟩ (by omega) (by omega) (by omega) 
      · refine z_ge (i := 87) (v := 90) rfl ⟨by omega, by omega⟩ (fun h46 => ?_) (fun h47 => absurd h47 (by omega))
        refine r_const (i := 90) (u := 0) (z := 0) rfl rfl ?_
        exact lp188_91 h_k h_a h_b h_c h_e  hd (m := m) (j := j) ⟨by omega, by omega⟩ ⟨by omega, by omega⟩ no K (by omega) S hI hF hR v z9 0 ⟨by omega, by omega⟩ ⟨by omega, by omega⟩ ⟨by omega, by omega⟩ (by omega) (by omega) (by omega) 
theorem lp188_135 {G : xk} {d : Nat} {S0 : yS} {k : Int} (h_k : -2147483648 ≤ k ∧ k ≤ 2147483647) {a : Int} (h_a : Rl a) {b : Int} (h_b : Rl b) {c : Int} (h_c : Rl c) {e : Int} (h_e : Rl e) (hd : 2 ≤ d + 1) : ∀ (S : yS) (hI : yI S) (hF : yFr [(43, 0), (43, 34), (43, 35), (43, 37)] [68, 69, 70] S0 S) (hR : yRm [] S0 S) (m : Int) (h_m : 0 ≤ m ∧ m ≤ 59) (q_0 : 0 ≤ k ∧ k < 24), yT xPr G LY xC188 135 [some ((2, 43)), some (vi k), some (vl a), none, some (vl b), none, some (vl c), none, some (vl e), none, some (vi m), none, none, none, none, none] [] S (d + 1) (fun r S' => ∃ z : Int, r = (1, vi z) ∧ -2147483648 ≤ z ∧ z ≤ 2147483647 ∧ yI S' ∧ yFr [(43, 0), (43, 34), (43, 35), (43, 37)] [68, 69, 70] S0 S' ∧ yRm [] S0 S') := by
  intro S hI hF hR m h_m q_0
  refine r_load (i := 135) (u := 0) (w := 2) rfl rfl rfl ?_
  have h1 := hI.f tf43_33
  have h2 := hI.m2
  have h3 : S.f 43 33 = S0.f 43 33 := hF.f rfl
  refine r_getf (i := 136) (v := 33) (w := 11) (x := vi (S.f 43 33)) rfl ly43 rfl rfl fun h4 => ?_
  have h4 : Rg (S.f 43 33) := h4
  refine r_const (i := 137) (u := 5) (z := 5) rfl rfl ?_
  refine c_ne (i := 138) (v := 159) rfl ⟨by omega, by omega⟩ ⟨by omega, by omega⟩ (fun h5 => ?_) (fun h6 => ?_)
  · refine r_load (i := 159) (u := 0) (w := 2) rfl rfl rfl ?_
    refine r_getf (i := 160) (v := 24) (w := 11) (x := (2, 61)) rfl ly43 rfl rfl fun _ => ?_
    refine r_load (i := 161) (u := 1) (w := 0) rfl rfl rfl ?_
    refine a_int (i := 162) rfl ly61 rfl (by omega) (by omega) fun h8 => ?_
    have h9 := hI.a ta61 k.toNat
    have h10 : S.a 61 k.toNat = S0.a 61 k.toNat := hF.a rfl _
    refine r_const (i := 163) (u := 3) (z := 3) rfl rfl ?_
    refine c_eq (i := 164) (v := 172) rfl ⟨by omega, by omega⟩ ⟨by omega, by omega⟩ (fun h11 => ?_) (fun h12 => ?_)
    · refine r_load (i := 172) (u := 0) (w := 2) rfl rfl rfl ?_
      refine r_getf (i := 173) (v := 33) (w := 11) (x := vi (S.f 43 33)) rfl ly43 rfl rfl fun h13 => ?_
      have h13 : Rg (S.f 43 33) := h13
      refine z_ne (i := 174) (v := 180) rfl ⟨by omega, by omega⟩ (fun h14 => ?_) (fun h15 => ?_)
      · refine r_load (i := 180) (u := 0) (w := 2) rfl rfl rfl ?_
        refine r_getf (i := 181) (v := 33) (w := 11) (x := vi (S.f 43 33)) rfl ly43 rfl rfl fun h16 => ?_
        have h16 : Rg (S.f 43 33) := h16
        refine r_const (i := 182) (u := 4) (z := 4) rfl rfl ?_
        refine c_lt (i := 183) (v := 194) rfl ⟨by omega, by omega⟩ ⟨by omega, by omega⟩ (fun h17 => ?_) (fun h18 => ?_)
        · refine r_load (i := 194) (u := 0) (w := 2) rfl rfl rfl ?_
          refine r_const (i := 195) (u := 3) (z := 3) rfl rfl ?_
          refine r_lconst (i := 196) (u := 0) (z := 0) rfl rfl ?_
          refine r_call (i := 197) (u := 11) (v := 228) (w := 0) (b := 0) (na := 1027) (C2 := xC228) (as := [(2, 43), vi 3, vl 0]) (s := []) rfl rfl rfl rfl rfl rfl rfl (sp228 (w0 := 3) (v := 0) hI ⟨by omega, by omega⟩ ⟨by omega, by omega⟩   (by omega)) (fun r19 S20 hq21 => ?_)
          obtain ⟨z22, rfl, h23, h24, h25, hI26, hF27, hR28⟩ := hq21
          have hF29 := hF.trans hF27 rfl rfl
          have hR30 := hR.trans hR28 rfl
          refine Or.inr (Or.inl ⟨rfl, ?_⟩)
          refine r_goto (i := 198) (v := 202) rfl ?_
          exact r_retI (i := 202) rfl ⟨z22, rfl, by omega, by omega, hI26, hF29, hR30⟩
        · refine r_load (i := 184) (u := 0) (w := 2) rfl rfl rfl ?_
          refine r_load (i := 185) (u := 0) (w := 2) rfl rfl rfl ?_
          have h31 := hI.m2
          have h32 : S.f 43 36 = S0.f 43 36 := hF.f rfl
          refine r_getf (i := 186) (v := 36) (w := 11) (x := vl (S.f 43 36)) rfl ly43 rfl rfl fun h33 => ?_
          have h33 : Rl (S.f 43 36) := h33
          refine r_l2i (i := 187) rfl ?_
          rw [vi_sg (S.f 43 36)]
          have h34 := ysg_fact (S.f 43 36)
          refine r_load (i := 188) (u := 0) (w := 2) rfl rfl rfl ?_
          refine r_getf (i := 189) (v := 11) (w := 11) (x := (2, 52)) rfl ly43 rfl rfl fun _ => ?_
          refine r_load (i := 190) (u := 10) (w := 0) rfl rfl rfl ?_
          refine a_int (i := 191) rfl ly52 rfl (by omega) (by omega) fun h36 => ?_
          have h37 := hI.a ta52 m.toNat
          have h38 : S.a 52 m.toNat = S0.a 52 m.toNat := hF.a rfl _
          have h39 := hI.f tf43_1
          have h40 : S.f 43 1 = S0.f 43 1 := hF.f rfl
          refine r_call (i := 192) (u := 11) (v := 261) (w := 0) (b := 0) (na := 1795) (C2 := xC261) (as := [(2, 43), vi (ysg (S.f 43 36)), vi (S.a 52 m.toNat)]) (s := []) rfl rfl rfl rfl rfl rfl rfl (sp261 (t := ysg (S.f 43 36)) (o := S.a 52 m.toNat) hI ⟨by omega, by omega⟩ ⟨by omega, by omega⟩   (by omega)) (fun r41 S42 hq43 => ?_)
          obtain ⟨z44, rfl, h45, h46, um47, hI48, hF49, hR50⟩ := hq43
          have hF51 := hF.trans hF49 rfl rfl
          have hR52 := hR.trans hR50 rfl
          refine Or.inr (Or.inl ⟨rfl, ?_⟩)
          refine z_ne (i := 193) (v := 199) rfl ⟨by omega, by omega⟩ (fun h53 => ?_) (fun h54 => ?_)
          · refine r_load (i := 199) (u := 0) (w := 2) rfl rfl rfl ?_
            refine r_load (i := 200) (u := 10) (w := 0) rfl rfl rfl ?_
            refine r_call (i := 201) (u := 11) (v := 225) (w := 0) (b := 0) (na := 514) (C2 := xC225) (as := [(2, 43), vi m]) (s := []) rfl rfl rfl rfl rfl rfl rfl (sp225 (m := m) hI48 ⟨by omega, by omega⟩   (by omega)) (fun r55 S56 hq57 => ?_)
            obtain ⟨z58, rfl, h59, h60, hI61, hF62, hR63⟩ := hq57
            have hF64 := hF51.trans hF62 rfl rfl
            have hR65 := hR52.trans hR63 rfl
            refine Or.inr (Or.inl ⟨rfl, ?_⟩)
            exact r_retI (i := 202) rfl ⟨z58, rfl, by omega, by omega, hI61, hF64, hR65⟩
          · refine r_load (i := 194) (u := 0) (w := 2) rfl rfl rfl ?_
            refine r_const (i := 195) (u := 3) (z := 3) rfl rfl ?_
            refine r_lconst (i := 196) (u := 0) (z := 0) rfl rfl ?_
            refine r_call (i := 197) (u := 11) (v := 228) (w := 0) (b := 0) (na := 1027) (C2 := xC228) (as := [(2, 43), vi 3, vl 0]) (s := []) rfl rfl rfl rfl rfl rfl rfl (sp228 (w0 := 3) (v := 0) hI48 ⟨by omega, by omega⟩ ⟨by omega, by omega⟩   (by omega)) (fun r66 S67 hq68 => ?_)
            obtain ⟨z69, rfl, h70, h71, h72, hI73, hF74, hR75⟩ := hq68
            have hF76 := hF51.trans hF74 rfl rfl
            have hR77 := hR52.trans hR75 rfl
            refine Or.inr (Or.inl ⟨rfl, ?_⟩)
            refine r_goto (i := 198) (v := 202) rfl ?_
            exact r_retI (i := 202) rfl ⟨z69, rfl, by omega, by omega, hI73, hF76, hR77⟩
      · refine r_load (i := 175) (u := 0) (w := 2) rfl rfl rfl ?_
        refine r_const (i := 176) (u := 2) (z := 2) rfl rfl ?_
        refine r_lconst (i := 177) (u := 0) (z := 0) rfl rfl ?_
        refine r_call (i := 178) (u := 11) (v := 228) (w := 0) (b := 0) (na := 1027) (C2 := xC228) (as := [(2, 43), vi 2, vl 0]) (s := []) rfl rfl rfl rfl rfl rfl rfl (sp228 (w0 := 2) (v := 0) hI ⟨by omega, by omega⟩ ⟨by omega, by omega⟩   (by omega)) (fun r78 S79 hq80 => ?_)
        obtain ⟨z81, rfl, h82, h83, h84, hI85, hF86, hR87⟩ := hq80
        have hF88 := hF.trans hF86 rfl rfl
        have hR89 := hR.trans hR87 rfl
        refine Or.inr (Or.inl ⟨rfl, ?_⟩)
        exact r_retI (i := 179) rfl ⟨z81, rfl, by omega, by omega, hI85, hF88, hR89⟩
    · refine r_load (i := 165) (u := 0) (w := 2) rfl rfl rfl ?_
      refine r_load (i := 166) (u := 0) (w := 2) rfl rfl rfl ?_
      refine r_getf (i := 167) (v := 15) (w := 11) (x := (2, 56)) rfl ly43 rfl rfl fun _ => ?_
      refine r_load (i := 168) (u := 10) (w := 0) rfl rfl rfl ?_
      refine a_int (i := 169) rfl ly56 rfl (by omega) (by omega) fun h91 => ?_
      have h92 := hI.a ta56 m.toNat
      have h93 : S.a 56 m.toNat = S0.a 56 m.toNat := hF.a rfl _
      refine r_call (i := 170) (u := 11) (v := 260) (w := 0) (b := 0) (na := 514) (C2 := xC260) (as := [(2, 43), vi (S.a 56 m.toNat)]) (s := []) rfl rfl rfl rfl rfl rfl rfl (sp260 (b := S.a 56 m.toNat) hI ⟨by omega, by omega⟩   (by omega)) (fun r94 S95 hq96 => ?_)
      obtain ⟨z97, rfl, h98, h99, hI100, hF101, hR102⟩ := hq96
      have hF103 := hF.trans hF101 rfl rfl
      have hR104 := hR.trans hR102 rfl
      refine Or.inr (Or.inl ⟨rfl, ?_⟩)
      exact r_retI (i := 171) rfl ⟨z97, rfl, by omega, by omega, hI100, hF103, hR104⟩
  · refine r_load (i := 139) (u := 0) (w := 2) rfl rfl rfl ?_
    refine r_load (i := 140) (u := 0) (w := 2) rfl rfl rfl ?_
    refine r_getf (i := 141) (v := 24) (w := 11) (x := (2, 61)) rfl ly43 rfl rfl fun _ => ?_
    refine r_load (i := 142) (u := 1) (w := 0) rfl rfl rfl ?_
    refine a_int (i := 143) rfl ly61 rfl (by omega) (by omega) fun h106 => ?_
    have h107 := hI.a ta61 k.toNat
    have h108 : S.a 61 k.toNat = S0.a 61 k.toNat := hF.a rfl _
    refine z_ne (i := 144) (v := 152) rfl ⟨by omega, by omega⟩ (fun h109 => ?_) (fun h110 => ?_)
    · refine r_const (i := 152) (u := 1) (z := 1) rfl rfl ?_
      refine r_goto (i := 153) (v := 155) rfl ?_
      refine r_load (i := 155) (u := 0) (w := 2) rfl rfl rfl ?_
      have h111 := hI.m2
      have h112 : S.f 43 36 = S0.f 43 36 := hF.f rfl
      refine r_getf (i := 156) (v := 36) (w := 11) (x := vl (S.f 43 36)) rfl ly43 rfl rfl fun h113 => ?_
      have h113 : Rl (S.f 43 36) := h113
      refine r_call (i := 157) (u := 11) (v := 228) (w := 0) (b := 0) (na := 1027) (C2 := xC228) (as := [(2, 43), vi 1, vl (S.f 43 36)]) (s := []) rfl rfl rfl rfl rfl rfl rfl (sp228 (w0 := 1) (v := S.f 43 36) hI ⟨by omega, by omega⟩ ⟨by omega, by omega⟩   (by omega)) (fun r114 S115 hq116 => ?_)
      obtain ⟨z117, rfl, h118, h119, h120, hI121, hF122, hR123⟩ := hq116
      have hF124 := hF.trans hF122 rfl rfl
      have hR125 := hR.trans hR123 rfl
      refine Or.inr (Or.inl ⟨rfl, ?_⟩)
      exact r_retI (i := 158) rfl ⟨z117, rfl, by omega, by omega, hI121, hF124, hR125⟩
    · refine r_load (i := 145) (u := 0) (w := 2) rfl rfl rfl ?_
      refine r_load (i := 146) (u := 1) (w := 0) rfl rfl rfl ?_
      refine r_load (i := 147) (u := 0) (w := 2) rfl rfl rfl ?_
      have h126 := hI.m2
      have h127 : S.f 43 36 = S0.f 43 36 := hF.f rfl
      refine r_getf (i := 148) (v := 36) (w := 11) (x := vl (S.f 43 36)) rfl ly43 rfl rfl fun h128 => ?_
      have h128 : Rl (S.f 43 36) := h128
      refine r_l2i (i := 149) rfl ?_
      rw [vi_sg (S.f 43 36)]
      have h129 := ysg_fact (S.f 43 36)
      refine r_call (i := 150) (u := 11) (v := 212) (w := 0) (b := 0) (na := 1283) (C2 := xC212) (as := [(2, 43), vi k, vi (ysg (S.f 43 36))]) (s := [(2, 43)]) rfl rfl rfl rfl rfl rfl rfl (sp212 (k := k) (t := ysg (S.f 43 36)) hI ⟨by omega, by omega⟩ ⟨by omega, by omega⟩   (by omega)) (fun r130 S131 hq132 => ?_)
      obtain ⟨z133, rfl, h134, h135, hI136, hF137, hR138⟩ := hq132
      have hF139 := hF.trans hF137 rfl rfl
      have hR140 := hR.trans hR138 rfl
      refine Or.inr (Or.inl ⟨rfl, ?_⟩)
      refine z_eq (i := 151) (v := 154) rfl ⟨by omega, by omega⟩ (fun h141 => ?_) (fun h142 => ?_)
      · refine r_const (i := 154) (u := 4) (z := 4) rfl rfl ?_
        refine r_load (i := 155) (u := 0) (w := 2) rfl rfl rfl ?_
        have h143 := hI136.m2
        have h144 : S131.f 43 36 = S.f 43 36 := hF137.f rfl
        have h145 : S.f 43 36 = S0.f 43 36 := hF.f rfl
        refine r_getf (i := 156) (v := 36) (w := 11) (x := vl (S131.f 43 36)) rfl ly43 rfl rfl fun h146 => ?_
        have h146 : Rl (S131.f 43 36) := h146
        refine r_call (i := 157) (u := 11) (v := 228) (w := 0) (b := 0) (na := 1027) (C2 := xC228) (as := [(2, 43), vi 4, vl (S131.f 43 36)]) (s := []) rfl rfl rfl rfl rfl rfl rfl (sp228 (w0 := 4) (v := S131.f 43 36) hI136 ⟨by omega, by omega⟩ ⟨by omega, by omega⟩   (by omega)) (fun r147 S148 hq149 => ?_)
        obtain ⟨z150, rfl, h151, h152, h153, hI154, hF155, hR156⟩ := hq149
        have hF157 := hF139.trans hF155 rfl rfl
        have hR158 := hR140.trans hR156 rfl
        refine Or.inr (Or.inl ⟨rfl, ?_⟩)
        exact r_retI (i := 158) rfl ⟨z150, rfl, by omega, by omega, hI154, hF157, hR158⟩
      · refine r_const (i := 152) (u := 1) (z := 1) rfl rfl ?_
        refine r_goto (i := 153) (v := 155) rfl ?_
        refine r_load (i := 155) (u := 0) (w := 2) rfl rfl rfl ?_
        have h159 := hI136.m2
        have h160 : S131.f 43 36 = S.f 43 36 := hF137.f rfl
        have h161 : S.f 43 36 = S0.f 43 36 := hF.f rfl
        refine r_getf (i := 156) (v := 36) (w := 11) (x := vl (S131.f 43 36)) rfl ly43 rfl rfl fun h162 => ?_
        have h162 : Rl (S131.f 43 36) := h162
        refine r_call (i := 157) (u := 11) (v := 228) (w := 0) (b := 0) (na := 1027) (C2 := xC228) (as := [(2, 43), vi 1, vl (S131.f 43 36)]) (s := []) rfl rfl rfl rfl rfl rfl rfl (sp228 (w0 := 1) (v := S131.f 43 36) hI136 ⟨by omega, by omega⟩ ⟨by omega, by omega⟩   (by omega)) (fun r163 S164 hq165 => ?_)
        obtain ⟨z166, rfl, h167, h168, h169, hI170, hF171, hR172⟩ := hq165
        have hF173 := hF139.trans hF171 rfl rfl
        have hR174 := hR140.trans hR172 rfl
        refine Or.inr (Or.inl ⟨rfl, ?_⟩)
        exact r_retI (i := 158) rfl ⟨z166, rfl, by omega, by omega, hI170, hF173, hR174⟩
theorem lp188_48 {G : xk} {d : Nat} {S0 : yS} {k : Int} (h_k : -2147483648 ≤ k ∧ k ≤ 2147483647) {a : Int} (h_a : Rl a) {b : Int} (h_b : Rl b) {c : Int} (h_c : Rl c) {e : Int} (h_e : Rl e) (hd : 2 ≤ d + 1) : ∀ (n : Nat), ∀ (S : yS) (hI : yI S) (hF : yFr [(43, 0), (43, 34), (43, 35), (43, 37)] [68, 69, 70] S0 S) (hR : yRm [] S0 S) (m j : Int) (h_m : 0 ≤ m ∧ m ≤ 59) (h_j : 0 ≤ j ∧ j ≤ 4) (q_0 : 0 ≤ k ∧ k < 24) (hn : 4 - j < (n : Nat)), yT xPr G LY xC188 48 [some ((2, 43)), some (vi k), some (vl a), none, some (vl b), none, some (vl c), none, some (vl e), none, some (vi m), some (vi j), none, none, none, none] [] S (d + 1) (fun r S' => ∃ z : Int, r = (1, vi z) ∧ -2147483648 ≤ z ∧ z ≤ 2147483647 ∧ yI S' ∧ yFr [(43, 0), (43, 34), (43, 35), (43, 37)] [68, 69, 70] S0 S' ∧ yRm [] S0 S') := by
  intro n
  induction n with
  | zero => intro S hI hF hR m j h_m h_j q_0 hn; exact absurd hn (by omega)
  | succ n ih =>
    intro S hI hF hR m j h_m h_j q_0 hn
    refine r_load (i := 48) (u := 11) (w := 0) rfl rfl rfl ?_
    refine r_load (i := 49) (u := 0) (w := 2) rfl rfl rfl ?_
    have h1 := hI.f tf43_35
    refine r_getf (i := 50) (v := 35) (w := 11) (x := vi (S.f 43 35)) rfl ly43 rfl rfl fun h2 => ?_
    have h2 : Rg (S.f 43 35) := h2
    refine c_ge (i := 51) (v := 135) rfl ⟨by omega, by omega⟩ ⟨by omega, by omega⟩ (fun h3 => ?_) (fun h4 => ?_)
    · refine yT_drop (L1 := [some ((2, 43)), some (vi k), some (vl a), none, some (vl b), none, some (vl c), none, some (vl e), none, some (vi m), none, none, none, none, none]) rfl ?_
      exact lp188_135 h_k h_a h_b h_c h_e  hd S hI hF hR m ⟨by omega, by omega⟩ (by omega) 
    · refine r_load (i := 52) (u := 11) (w := 0) rfl rfl rfl ?_
      refine z_ne (i := 53) (v := 56) rfl ⟨by omega, by omega⟩ (fun h5 => ?_) (fun h6 => ?_)
      · refine r_load (i := 56) (u := 11) (w := 0) rfl rfl rfl ?_
        refine r_const (i := 57) (u := 1) (z := 1) rfl rfl ?_
        refine c_ne (i := 58) (v := 61) rfl ⟨by omega, by omega⟩ ⟨by omega, by omega⟩ (fun h7 => ?_) (fun h8 => ?_)
        · refine r_load (i := 61) (u := 11) (w := 0) rfl rfl rfl ?_
          refine r_const (i := 62) (u := 2) (z := 2) rfl rfl ?_
          refine c_ne (i := 63) (v := 66) rfl ⟨by omega, by omega⟩ ⟨by omega, by omega⟩ (fun h9 => ?_) (fun h10 => ?_)
          · refine r_load (i := 66) (u := 8) (w := 1) rfl rfl rfl ?_
            exact lp188_67 h_k h_a h_b h_c h_e  hd (m := m) (j := j) ⟨by omega, by omega⟩ ⟨by omega, by omega⟩ n ih (by omega) S hI hF hR e ⟨by omega, by omega⟩ (by omega) 
          · refine r_load (i := 64) (u := 6) (w := 1) rfl rfl rfl ?_
            refine r_goto (i := 65) (v := 67) rfl ?_
            exact lp188_67 h_k h_a h_b h_c h_e  hd (m := m) (j := j) ⟨by omega, by omega⟩ ⟨by omega, by omega⟩ n ih (by omega) S hI hF hR c ⟨by omega, by omega⟩ (by omega) 
        · refine r_load (i := 59) (u := 4) (w := 1) rfl rfl rfl ?_
          refine r_goto (i := 60) (v := 67) rfl ?_
          exact lp188_67 h_k h_a h_b h_c h_e  hd (m := m) (j := j) ⟨by omega, by omega⟩ ⟨by omega, by omega⟩ n ih (by omega) S hI hF hR b ⟨by omega, by omega⟩ (by omega) 
      · refine r_load (i := 54) (u := 2) (w := 1) rfl rfl rfl ?_
        refine r_goto (i := 55) (v := 67) rfl ?_
        exact lp188_67 h_k h_a h_b h_c h_e  hd (m := m) (j := j) ⟨by omega, by omega⟩ ⟨by omega, by omega⟩ n ih (by omega) S hI hF hR a ⟨by omega, by omega⟩ (by omega) 
/-- ProxyForgeModel.call -/
theorem sp188 {G : xk} {S : yS} {d : Nat} (hI : yI S) {k : Int} (h_k : -2147483648 ≤ k ∧ k ≤ 2147483647) {a : Int} (h_a : Rl a) {b : Int} (h_b : Rl b) {c : Int} (h_c : Rl c) {e : Int} (h_e : Rl e) (hd : 2 ≤ d) : yT xPr G LY xC188 0 [some ((2, 43)), some (vi k), some (vl a), none, some (vl b), none, some (vl c), none, some (vl e), none] [] S d (fun r S' => ∃ z : Int, r = (1, vi z) ∧ -2147483648 ≤ z ∧ z ≤ 2147483647 ∧ yI S' ∧ yFr [(43, 0), (43, 34), (43, 35), (43, 37)] [68, 69, 70] S S' ∧ yRm [] S S') := by
  refine yT_pad 6 ?_
  show yT xPr G LY xC188 0 [some ((2, 43)), some (vi k), some (vl a), none, some (vl b), none, some (vl c), none, some (vl e), none, none, none, none, none, none, none] [] S d _
  obtain ⟨d, rfl⟩ : ∃ q, d = q + 1 := ⟨d - 1, by omega⟩
  have hF : yFr [(43, 0), (43, 34), (43, 35), (43, 37)] [68, 69, 70] S S := yFr.refl S
  have hR : yRm [] S S := yRm.refl S
  refine r_load (i := 0) (u := 0) (w := 2) rfl rfl rfl ?_
  refine r_load (i := 1) (u := 1) (w := 0) rfl rfl rfl ?_
  refine z_lt (i := 2) (v := 7) rfl ⟨by omega, by omega⟩ (fun h1 => ?_) (fun h2 => ?_)
  · refine r_const (i := 7) (u := 1) (z := 1) rfl rfl ?_
    refine r_goto (i := 8) (v := 10) rfl ?_
    refine r_putI (i := 10) (v := 0) (w := 11) rfl ly43 rfl ⟨by omega, by omega⟩ ?_
    have hI4 := hI.setf (b := 43) (w := 0) (z := 1) tf43_0 rfl (by omega) (by omega)
    have hF6 := hF.setf (b := 43) (w := 0) (z := 1) rfl
    have hR7 := hR.setf (b := 43) (w := 0) (z := 1)
    refine yT_gen (fun S3 hS5 => ?_)
    rw [hS5] at hI4 hF6 hR7 
    refine r_load (i := 11) (u := 0) (w := 2) rfl rfl rfl ?_
    have h8 := hI4.f tf43_0
    have h9 : S3.f 43 0 = 1 := by rw [← hS5]; exact ysf_eq
    refine r_getf (i := 12) (v := 0) (w := 11) (x := vi (S3.f 43 0)) rfl ly43 rfl rfl fun h10 => ?_
    have h10 : Rg (S3.f 43 0) := h10
    refine z_le (i := 13) (v := 16) rfl ⟨by omega, by omega⟩ (fun h11 => ?_) (fun h12 => ?_)
    · refine r_load (i := 16) (u := 0) (w := 2) rfl rfl rfl ?_
      refine r_getf (i := 17) (v := 23) (w := 11) (x := (2, 60)) rfl ly43 rfl rfl fun _ => ?_
      refine r_load (i := 18) (u := 1) (w := 0) rfl rfl rfl ?_
      refine a_int (i := 19) rfl ly60 rfl (by omega) (by omega) fun h14 => ?_
      have h15 := hI4.a ta60 k.toNat
      have h16 : S3.a 60 k.toNat = S.a 60 k.toNat := by rw [← hS5]; rfl
      refine r_store (i := 20) (u := 10) (w := 0) (L1 := [some ((2, 43)), some (vi k), some (vl a), none, some (vl b), none, some (vl c), none, some (vl e), none, some (vi (S3.a 60 k.toNat)), none, none, none, none, none]) rfl rfl rfl rfl ?_
      refine r_load (i := 21) (u := 0) (w := 2) rfl rfl rfl ?_
      refine r_getf (i := 22) (v := 24) (w := 11) (x := (2, 61)) rfl ly43 rfl rfl fun _ => ?_
      refine r_load (i := 23) (u := 1) (w := 0) rfl rfl rfl ?_
      refine a_int (i := 24) rfl ly61 rfl (by omega) (by omega) fun h18 => ?_
      have h19 := hI4.a ta61 k.toNat
      have h20 : S3.a 61 k.toNat = S.a 61 k.toNat := by rw [← hS5]; rfl
      refine r_const (i := 25) (u := 2) (z := 2) rfl rfl ?_
      refine c_ne (i := 26) (v := 31) rfl ⟨by omega, by omega⟩ ⟨by omega, by omega⟩ (fun h21 => ?_) (fun h22 => ?_)
      · refine r_load (i := 31) (u := 0) (w := 2) rfl rfl rfl ?_
        refine r_load (i := 32) (u := 1) (w := 0) rfl rfl rfl ?_
        refine r_putI (i := 33) (v := 34) (w := 11) rfl ly43 rfl ⟨by omega, by omega⟩ ?_
        have hI24 := hI4.setf (b := 43) (w := 34) (z := k) tf43_34 rfl (by omega) (by omega)
        have hF26 := hF6.setf (b := 43) (w := 34) (z := k) rfl
        have hR27 := hR7.setf (b := 43) (w := 34) (z := k)
        refine yT_gen (fun S23 hS25 => ?_)
        rw [hS25] at hI24 hF26 hR27 
        refine r_load (i := 34) (u := 0) (w := 2) rfl rfl rfl ?_
        refine r_getf (i := 35) (v := 24) (w := 11) (x := (2, 61)) rfl ly43 rfl rfl fun _ => ?_
        refine r_load (i := 36) (u := 1) (w := 0) rfl rfl rfl ?_
        refine a_int (i := 37) rfl ly61 rfl (by omega) (by omega) fun h29 => ?_
        have h30 := hI24.a ta61 k.toNat
        have h31 : S23.a 61 k.toNat = S3.a 61 k.toNat := by rw [← hS25]; rfl
        have h32 : S3.a 61 k.toNat = S.a 61 k.toNat := by rw [← hS5]; rfl
        refine z_ne (i := 38) (v := 135) rfl ⟨by omega, by omega⟩ (fun h33 => ?_) (fun h34 => ?_)
        · exact lp188_135 h_k h_a h_b h_c h_e  hd S23 hI24 hF26 hR27 (S3.a 60 k.toNat) ⟨by omega, by omega⟩ (by omega) 
        · refine r_load (i := 39) (u := 0) (w := 2) rfl rfl rfl ?_
          refine r_load (i := 40) (u := 0) (w := 2) rfl rfl rfl ?_
          refine r_getf (i := 41) (v := 14) (w := 11) (x := (2, 55)) rfl ly43 rfl rfl fun _ => ?_
          refine r_load (i := 42) (u := 10) (w := 0) rfl rfl rfl ?_
          refine a_int (i := 43) rfl ly55 rfl (by omega) (by omega) fun h36 => ?_
          have h37 := hI24.a ta55 (S3.a 60 k.toNat).toNat
          have kp38 := hI24.k55 (S3.a 60 k.toNat).toNat
          have h39 : S23.a 55 (S3.a 60 k.toNat).toNat = S3.a 55 (S3.a 60 k.toNat).toNat := by rw [← hS25]; rfl
          have h40 : S3.a 55 (S3.a 60 k.toNat).toNat = S.a 55 (S3.a 60 k.toNat).toNat := by rw [← hS5]; rfl
          refine r_call (i := 44) (u := 65535) (v := 216) (w := 0) (b := 2) (na := 513) (C2 := xC216) (as := [vi (S23.a 55 (S3.a 60 k.toNat).toNat)]) (s := [(2, 43)]) rfl rfl rfl rfl rfl rfl rfl (sp216 (a := S23.a 55 (S3.a 60 k.toNat).toNat) hI24 ⟨by omega, by omega⟩   (by omega)) (fun r41 S42 hq43 => ?_)
          obtain ⟨z44, rfl, h45, h46, hmn47, rfl⟩ := hq43
          refine Or.inr (Or.inl ⟨rfl, ?_⟩)
          refine r_putI (i := 45) (v := 35) (w := 11) rfl ly43 rfl ⟨by omega, by omega⟩ ?_
          have hI49 := hI24.setf (b := 43) (w := 35) (z := z44) tf43_35 rfl (by omega) (by omega)
          have hF51 := hF26.setf (b := 43) (w := 35) (z := z44) rfl
          have hR52 := hR27.setf (b := 43) (w := 35) (z := z44)
          refine yT_gen (fun S48 hS50 => ?_)
          rw [hS50] at hI49 hF51 hR52 
          refine r_const (i := 46) (u := 0) (z := 0) rfl rfl ?_
          refine r_store (i := 47) (u := 11) (w := 0) (L1 := [some ((2, 43)), some (vi k), some (vl a), none, some (vl b), none, some (vl c), none, some (vl e), none, some (vi (S3.a 60 k.toNat)), some (vi 0), none, none, none, none]) rfl rfl rfl rfl ?_
          exact lp188_48 h_k h_a h_b h_c h_e  hd _ S48 hI49 hF51 hR52 (S3.a 60 k.toNat) 0 ⟨by omega, by omega⟩ ⟨by omega, by omega⟩ (by omega) (Int.lt_succ_toNat _)
      · refine r_load (i := 27) (u := 0) (w := 2) rfl rfl rfl ?_
        refine r_load (i := 28) (u := 10) (w := 0) rfl rfl rfl ?_
        refine r_call (i := 29) (u := 11) (v := 225) (w := 0) (b := 0) (na := 514) (C2 := xC225) (as := [(2, 43), vi (S3.a 60 k.toNat)]) (s := []) rfl rfl rfl rfl rfl rfl rfl (sp225 (m := S3.a 60 k.toNat) hI4 ⟨by omega, by omega⟩   (by omega)) (fun r53 S54 hq55 => ?_)
        obtain ⟨z56, rfl, h57, h58, hI59, hF60, hR61⟩ := hq55
        have hF62 := hF6.trans hF60 rfl rfl
        have hR63 := hR7.trans hR61 rfl
        refine Or.inr (Or.inl ⟨rfl, ?_⟩)
        exact r_retI (i := 30) rfl ⟨z56, rfl, by omega, by omega, hI59, hF62, hR63⟩
    · refine r_const (i := 14) (u := 0) (z := 0) rfl rfl ?_
      exact r_retI (i := 15) rfl ⟨0, rfl, by omega, by omega, hI4, hF6, hR7⟩
  · refine r_load (i := 3) (u := 1) (w := 0) rfl rfl rfl ?_
    refine r_load (i := 4) (u := 0) (w := 2) rfl rfl rfl ?_
    have h64 := hI.f tf43_20
    refine r_getf (i := 5) (v := 20) (w := 11) (x := vi (S.f 43 20)) rfl ly43 rfl rfl fun h65 => ?_
    have h65 : Rg (S.f 43 20) := h65
    refine c_lt (i := 6) (v := 9) rfl ⟨by omega, by omega⟩ ⟨by omega, by omega⟩ (fun h66 => ?_) (fun h67 => ?_)
    · refine r_const (i := 9) (u := 0) (z := 0) rfl rfl ?_
      refine r_putI (i := 10) (v := 0) (w := 11) rfl ly43 rfl ⟨by omega, by omega⟩ ?_
      have hI69 := hI.setf (b := 43) (w := 0) (z := 0) tf43_0 rfl (by omega) (by omega)
      have hF71 := hF.setf (b := 43) (w := 0) (z := 0) rfl
      have hR72 := hR.setf (b := 43) (w := 0) (z := 0)
      refine yT_gen (fun S68 hS70 => ?_)
      rw [hS70] at hI69 hF71 hR72 
      refine r_load (i := 11) (u := 0) (w := 2) rfl rfl rfl ?_
      have h73 := hI69.f tf43_0
      have h74 : S68.f 43 0 = 0 := by rw [← hS70]; exact ysf_eq
      refine r_getf (i := 12) (v := 0) (w := 11) (x := vi (S68.f 43 0)) rfl ly43 rfl rfl fun h75 => ?_
      have h75 : Rg (S68.f 43 0) := h75
      refine z_le (i := 13) (v := 16) rfl ⟨by omega, by omega⟩ (fun h76 => ?_) (fun h77 => ?_)
      · refine r_load (i := 16) (u := 0) (w := 2) rfl rfl rfl ?_
        refine r_getf (i := 17) (v := 23) (w := 11) (x := (2, 60)) rfl ly43 rfl rfl fun _ => ?_
        refine r_load (i := 18) (u := 1) (w := 0) rfl rfl rfl ?_
        refine a_int (i := 19) rfl ly60 rfl (by omega) (by omega) fun h79 => ?_
        have h80 := hI69.a ta60 k.toNat
        have h81 : S68.a 60 k.toNat = S.a 60 k.toNat := by rw [← hS70]; rfl
        refine r_store (i := 20) (u := 10) (w := 0) (L1 := [some ((2, 43)), some (vi k), some (vl a), none, some (vl b), none, some (vl c), none, some (vl e), none, some (vi (S68.a 60 k.toNat)), none, none, none, none, none]) rfl rfl rfl rfl ?_
        refine r_load (i := 21) (u := 0) (w := 2) rfl rfl rfl ?_
        refine r_getf (i := 22) (v := 24) (w := 11) (x := (2, 61)) rfl ly43 rfl rfl fun _ => ?_
        refine r_load (i := 23) (u := 1) (w := 0) rfl rfl rfl ?_
        refine a_int (i := 24) rfl ly61 rfl (by omega) (by omega) fun h83 => ?_
        have h84 := hI69.a ta61 k.toNat
        have h85 : S68.a 61 k.toNat = S.a 61 k.toNat := by rw [← hS70]; rfl
        refine r_const (i := 25) (u := 2) (z := 2) rfl rfl ?_
        refine c_ne (i := 26) (v := 31) rfl ⟨by omega, by omega⟩ ⟨by omega, by omega⟩ (fun h86 => ?_) (fun h87 => ?_)
        · refine r_load (i := 31) (u := 0) (w := 2) rfl rfl rfl ?_
          refine r_load (i := 32) (u := 1) (w := 0) rfl rfl rfl ?_
          refine r_putI (i := 33) (v := 34) (w := 11) rfl ly43 rfl ⟨by omega, by omega⟩ ?_
          have hI89 := hI69.setf (b := 43) (w := 34) (z := k) tf43_34 rfl (by omega) (by omega)
          have hF91 := hF71.setf (b := 43) (w := 34) (z := k) rfl
          have hR92 := hR72.setf (b := 43) (w := 34) (z := k)
          refine yT_gen (fun S88 hS90 => ?_)
          rw [hS90] at hI89 hF91 hR92 
          refine r_load (i := 34) (u := 0) (w := 2) rfl rfl rfl ?_
          refine r_getf (i := 35) (v := 24) (w := 11) (x := (2, 61)) rfl ly43 rfl rfl fun _ => ?_
          refine r_load (i := 36) (u := 1) (w := 0) rfl rfl rfl ?_
          refine a_int (i := 37) rfl ly61 rfl (by omega) (by omega) fun h94 => ?_
          have h95 := hI89.a ta61 k.toNat
          have h96 : S88.a 61 k.toNat = S68.a 61 k.toNat := by rw [← hS90]; rfl
          have h97 : S68.a 61 k.toNat = S.a 61 k.toNat := by rw [← hS70]; rfl
          refine z_ne (i := 38) (v := 135) rfl ⟨by omega, by omega⟩ (fun h98 => ?_) (fun h99 => ?_)
          · exact lp188_135 h_k h_a h_b h_c h_e  hd S88 hI89 hF91 hR92 (S68.a 60 k.toNat) ⟨by omega, by omega⟩ (by omega) 
          · refine r_load (i := 39) (u := 0) (w := 2) rfl rfl rfl ?_
            refine r_load (i := 40) (u := 0) (w := 2) rfl rfl rfl ?_
            refine r_getf (i := 41) (v := 14) (w := 11) (x := (2, 55)) rfl ly43 rfl rfl fun _ => ?_
            refine r_load (i := 42) (u := 10) (w := 0) rfl rfl rfl ?_
            refine a_int (i := 43) rfl ly55 rfl (by omega) (by omega) fun h101 => ?_
            have h102 := hI89.a ta55 (S68.a 60 k.toNat).toNat
            have kp103 := hI89.k55 (S68.a 60 k.toNat).toNat
            have h104 : S88.a 55 (S68.a 60 k.toNat).toNat = S68.a 55 (S68.a 60 k.toNat).toNat := by rw [← hS90]; rfl
            have h105 : S68.a 55 (S68.a 60 k.toNat).toNat = S.a 55 (S68.a 60 k.toNat).toNat := by rw [← hS70]; rfl
            refine r_call (i := 44) (u := 65535) (v := 216) (w := 0) (b := 2) (na := 513) (C2 := xC216) (as := [vi (S88.a 55 (S68.a 60 k.toNat).toNat)]) (s := [(2, 43)]) rfl rfl rfl rfl rfl rfl rfl (sp216 (a := S88.a 55 (S68.a 60 k.toNat).toNat) hI89 ⟨by omega, by omega⟩   (by omega)) (fun r106 S107 hq108 => ?_)
            obtain ⟨z109, rfl, h110, h111, hmn112, rfl⟩ := hq108
            refine Or.inr (Or.inl ⟨rfl, ?_⟩)
            refine r_putI (i := 45) (v := 35) (w := 11) rfl ly43 rfl ⟨by omega, by omega⟩ ?_
            have hI114 := hI89.setf (b := 43) (w := 35) (z := z109) tf43_35 rfl (by omega) (by omega)
            have hF116 := hF91.setf (b := 43) (w := 35) (z := z109) rfl
            have hR117 := hR92.setf (b := 43) (w := 35) (z := z109)
            refine yT_gen (fun S113 hS115 => ?_)
            rw [hS115] at hI114 hF116 hR117 
            refine r_const (i := 46) (u := 0) (z := 0) rfl rfl ?_
            refine r_store (i := 47) (u := 11) (w := 0) (L1 := [some ((2, 43)), some (vi k), some (vl a), none, some (vl b), none, some (vl c), none, some (vl e), none, some (vi (S68.a 60 k.toNat)), some (vi 0), none, none, none, none]) rfl rfl rfl rfl ?_
            exact lp188_48 h_k h_a h_b h_c h_e  hd _ S113 hI114 hF116 hR117 (S68.a 60 k.toNat) 0 ⟨by omega, by omega⟩ ⟨by omega, by omega⟩ (by omega) (Int.lt_succ_toNat _)
        · refine r_load (i := 27) (u := 0) (w := 2) rfl rfl rfl ?_
          refine r_load (i := 28) (u := 10) (w := 0) rfl rfl rfl ?_
          refine r_call (i := 29) (u := 11) (v := 225) (w := 0) (b := 0) (na := 514) (C2 := xC225) (as := [(2, 43), vi (S68.a 60 k.toNat)]) (s := []) rfl rfl rfl rfl rfl rfl rfl (sp225 (m := S68.a 60 k.toNat) hI69 ⟨by omega, by omega⟩   (by omega)) (fun r118 S119 hq120 => ?_)
          obtain ⟨z121, rfl, h122, h123, hI124, hF125, hR126⟩ := hq120
          have hF127 := hF71.trans hF125 rfl rfl
          have hR128 := hR72.trans hR126 rfl
          refine Or.inr (Or.inl ⟨rfl, ?_⟩)
          exact r_retI (i := 30) rfl ⟨z121, rfl, by omega, by omega, hI124, hF127, hR128⟩
      · refine r_const (i := 14) (u := 0) (z := 0) rfl rfl ?_
        exact r_retI (i := 15) rfl ⟨0, rfl, by omega, by omega, hI69, hF71, hR72⟩
    · refine r_const (i := 7) (u := 1) (z := 1) rfl rfl ?_
      refine r_goto (i := 8) (v := 10) rfl ?_
      refine r_putI (i := 10) (v := 0) (w := 11) rfl ly43 rfl ⟨by omega, by omega⟩ ?_
      have hI130 := hI.setf (b := 43) (w := 0) (z := 1) tf43_0 rfl (by omega) (by omega)
      have hF132 := hF.setf (b := 43) (w := 0) (z := 1) rfl
      have hR133 := hR.setf (b := 43) (w := 0) (z := 1)
      refine yT_gen (fun S129 hS131 => ?_)
      rw [hS131] at hI130 hF132 hR133 
      refine r_load (i := 11) (u := 0) (w := 2) rfl rfl rfl ?_
      have h134 := hI130.f tf43_0
      have h135 : S129.f 43 0 = 1 := by rw [← hS131]; exact ysf_eq
      refine r_getf (i := 12) (v := 0) (w := 11) (x := vi (S129.f 43 0)) rfl ly43 rfl rfl fun h136 => ?_
      have h136 : Rg (S129.f 43 0) := h136
      refine z_le (i := 13) (v := 16) rfl ⟨by omega, by omega⟩ (fun h137 => ?_) (fun h138 => ?_)
      · refine r_load (i := 16) (u := 0) (w := 2) rfl rfl rfl ?_
        refine r_getf (i := 17) (v := 23) (w := 11) (x := (2, 60)) rfl ly43 rfl rfl fun _ => ?_
        refine r_load (i := 18) (u := 1) (w := 0) rfl rfl rfl ?_
        refine a_int (i := 19) rfl ly60 rfl (by omega) (by omega) fun h140 => ?_
        have h141 := hI130.a ta60 k.toNat
        have h142 : S129.a 60 k.toNat = S.a 60 k.toNat := by rw [← hS131]; rfl
        refine r_store (i := 20) (u := 10) (w := 0) (L1 := [some ((2, 43)), some (vi k), some (vl a), none, some (vl b), none, some (vl c), none, some (vl e), none, some (vi (S129.a 60 k.toNat)), none, none, none, none, none]) rfl rfl rfl rfl ?_
        refine r_load (i := 21) (u := 0) (w := 2) rfl rfl rfl ?_
        refine r_getf (i := 22) (v := 24) (w := 11) (x := (2, 61)) rfl ly43 rfl rfl fun _ => ?_
        refine r_load (i := 23) (u := 1) (w := 0) rfl rfl rfl ?_
        refine a_int (i := 24) rfl ly61 rfl (by omega) (by omega) fun h144 => ?_
        have h145 := hI130.a ta61 k.toNat
        have h146 : S129.a 61 k.toNat = S.a 61 k.toNat := by rw [← hS131]; rfl
        refine r_const (i := 25) (u := 2) (z := 2) rfl rfl ?_
        refine c_ne (i := 26) (v := 31) rfl ⟨by omega, by omega⟩ ⟨by omega, by omega⟩ (fun h147 => ?_) (fun h148 => ?_)
        · refine r_load (i := 31) (u := 0) (w := 2) rfl rfl rfl ?_
          refine r_load (i := 32) (u := 1) (w := 0) rfl rfl rfl ?_
          refine r_putI (i := 33) (v := 34) (w := 11) rfl ly43 rfl ⟨by omega, by omega⟩ ?_
          have hI150 := hI130.setf (b := 43) (w := 34) (z := k) tf43_34 rfl (by omega) (by omega)
          have hF152 := hF132.setf (b := 43) (w := 34) (z := k) rfl
          have hR153 := hR133.setf (b := 43) (w := 34) (z := k)
          refine yT_gen (fun S149 hS151 => ?_)
          rw [hS151] at hI150 hF152 hR153 
          refine r_load (i := 34) (u := 0) (w := 2) rfl rfl rfl ?_
          refine r_getf (i := 35) (v := 24) (w := 11) (x := (2, 61)) rfl ly43 rfl rfl fun _ => ?_
          refine r_load (i := 36) (u := 1) (w := 0) rfl rfl rfl ?_
          refine a_int (i := 37) rfl ly61 rfl (by omega) (by omega) fun h155 => ?_
          have h156 := hI150.a ta61 k.toNat
          have h157 : S149.a 61 k.toNat = S129.a 61 k.toNat := by rw [← hS151]; rfl
          have h158 : S129.a 61 k.toNat = S.a 61 k.toNat := by rw [← hS131]; rfl
          refine z_ne (i := 38) (v := 135) rfl ⟨by omega, by omega⟩ (fun h159 => ?_) (fun h160 => ?_)
          · exact lp188_135 h_k h_a h_b h_c h_e  hd S149 hI150 hF152 hR153 (S129.a 60 k.toNat) ⟨by omega, by omega⟩ (by omega) 
          · refine r_load (i := 39) (u := 0) (w := 2) rfl rfl rfl ?_
            refine r_load (i := 40) (u := 0) (w := 2) rfl rfl rfl ?_
            refine r_getf (i := 41) (v := 14) (w := 11) (x := (2, 55)) rfl ly43 rfl rfl fun _ => ?_
            refine r_load (i := 42) (u := 10) (w := 0) rfl rfl rfl ?_
            refine a_int (i := 43) rfl ly55 rfl (by omega) (by omega) fun h162 => ?_
            have h163 := hI150.a ta55 (S129.a 60 k.toNat).toNat
            have kp164 := hI150.k55 (S129.a 60 k.toNat).toNat
            have h165 : S149.a 55 (S129.a 60 k.toNat).toNat = S129.a 55 (S129.a 60 k.toNat).toNat := by rw [← hS151]; rfl
            have h166 : S129.a 55 (S129.a 60 k.toNat).toNat = S.a 55 (S129.a 60 k.toNat).toNat := by rw [← hS131]; rfl
            refine r_call (i := 44) (u := 65535) (v := 216) (w := 0) (b := 2) (na := 513) (C2 := xC216) (as := [vi (S149.a 55 (S129.a 60 k.toNat).toNat)]) (s := [(2, 43)]) rfl rfl rfl rfl rfl rfl rfl (sp216 (a := S149.a 55 (S129.a 60 k.toNat).toNat) hI150 ⟨by omega, by omega⟩   (by omega)) (fun r167 S168 hq169 => ?_)
            obtain ⟨z170, rfl, h171, h172, hmn173, rfl⟩ := hq169
            refine Or.inr (Or.inl ⟨rfl, ?_⟩)
            refine r_putI (i := 45) (v := 35) (w := 11) rfl ly43 rfl ⟨by omega, by omega⟩ ?_
            have hI175 := hI150.setf (b := 43) (w := 35) (z := z170) tf43_35 rfl (by omega) (by omega)
            have hF177 := hF152.setf (b := 43) (w := 35) (z := z170) rfl
            have hR178 := hR153.setf (b := 43) (w := 35) (z := z170)
            refine yT_gen (fun S174 hS176 => ?_)
            rw [hS176] at hI175 hF177 hR178 
            refine r_const (i := 46) (u := 0) (z := 0) rfl rfl ?_
            refine r_store (i := 47) (u := 11) (w := 0) (L1 := [some ((2, 43)), some (vi k), some (vl a), none, some (vl b), none, some (vl c), none, some (vl e), none, some (vi (S129.a 60 k.toNat)), some (vi 0), none, none, none, none]) rfl rfl rfl rfl ?_
            exact lp188_48 h_k h_a h_b h_c h_e  hd _ S174 hI175 hF177 hR178 (S129.a 60 k.toNat) 0 ⟨by omega, by omega⟩ ⟨by omega, by omega⟩ (by omega) (Int.lt_succ_toNat _)
        · refine r_load (i := 27) (u := 0) (w := 2) rfl rfl rfl ?_
          refine r_load (i := 28) (u := 10) (w := 0) rfl rfl rfl ?_
          refine r_call (i := 29) (u := 11) (v := 225) (w := 0) (b := 0) (na := 514) (C2 := xC225) (as := [(2, 43), vi (S129.a 60 k.toNat)]) (s := []) rfl rfl rfl rfl rfl rfl rfl (sp225 (m := S129.a 60 k.toNat) hI130 ⟨by omega, by omega⟩   (by omega)) (fun r179 S180 hq181 => ?_)
          obtain ⟨z182, rfl, h183, h184, hI185, hF186, hR187⟩ := hq181
          have hF188 := hF132.trans hF186 rfl rfl
          have hR189 := hR133.trans hR187 rfl
          refine Or.inr (Or.inl ⟨rfl, ?_⟩)
          exact r_retI (i := 30) rfl ⟨z182, rfl, by omega, by omega, hI185, hF188, hR189⟩
      · refine r_const (i := 14) (u := 0) (z := 0) rfl rfl ?_
        exact r_retI (i := 15) rfl ⟨0, rfl, by omega, by omega, hI130, hF132, hR133⟩
/-- ProxyForgeModel.must -/
theorem sp221 {G : xk} {S : yS} {d : Nat} (hI : yI S) {g0 : Int} (h_g0 : 0 ≤ g0 ∧ g0 ≤ 1) {n0 : Int} (h_n0 : 0 ≤ n0 ∧ n0 ≤ 4) (hd : 0 ≤ d) : yT xPr G LY xC221 0 [some ((2, 43)), some (vi g0), some (vi n0)] [] S d (fun r S' => r = (0, (0, 0)) ∧ (S.f 43 57 ≠ -1 → S'.f 43 57 ≠ -1) ∧ yI S' ∧ yFr [(43, 57)] [] S S' ∧ yRm [] S S') := by
  refine yT_pad 0 ?_
  show yT xPr G LY xC221 0 [some ((2, 43)), some (vi g0), some (vi n0)] [] S d _
  have hF : yFr [(43, 57)] [] S S := yFr.refl S
  have hR : yRm [] S S := yRm.refl S
  refine r_load (i := 0) (u := 0) (w := 2) rfl rfl rfl ?_
  have h1 := hI.f tf43_57
  refine r_getf (i := 1) (v := 57) (w := 11) (x := vi (S.f 43 57)) rfl ly43 rfl rfl fun h2 => ?_
  have h2 : Rg (S.f 43 57) := h2
  refine r_const (i := 2) (u := 4294967295) (z := -1) rfl rfl ?_
  refine c_ne (i := 3) (v := 12) rfl ⟨by omega, by omega⟩ ⟨by omega, by omega⟩ (fun h3 => ?_) (fun h4 => ?_)
  · exact r_ret0 (i := 12) rfl ⟨rfl, (by omega), hI, hF, hR⟩
  · refine r_load (i := 4) (u := 1) (w := 0) rfl rfl rfl ?_
    refine z_ne (i := 5) (v := 12) rfl ⟨by omega, by omega⟩ (fun h5 => ?_) (fun h6 => ?_)
    · exact r_ret0 (i := 12) rfl ⟨rfl, (by omega), hI, hF, hR⟩
    · refine r_load (i := 6) (u := 0) (w := 2) rfl rfl rfl ?_
      refine r_load (i := 7) (u := 0) (w := 2) rfl rfl rfl ?_
      have h7 := hI.f tf43_56
      refine r_getf (i := 8) (v := 56) (w := 11) (x := vi (S.f 43 56)) rfl ly43 rfl rfl fun h8 => ?_
      have h8 : Rg (S.f 43 56) := h8
      refine r_load (i := 9) (u := 2) (w := 0) rfl rfl rfl ?_
      refine r_isub (i := 10) rfl ?_
      refine r_putI (i := 11) (v := 57) (w := 11) rfl ly43 rfl ⟨by omega, by omega⟩ ?_
      have hI10 := hI.setf (b := 43) (w := 57) (z := (S.f 43 56) - n0) tf43_57 rfl (by omega) (by omega)
      have hF12 := hF.setf (b := 43) (w := 57) (z := (S.f 43 56) - n0) rfl
      have hR13 := hR.setf (b := 43) (w := 57) (z := (S.f 43 56) - n0)
      refine yT_gen (fun S9 hS11 => ?_)
      rw [hS11] at hI10 hF12 hR13 
      have h14 := hI10.f tf43_57
      have h15 : S9.f 43 57 = (S.f 43 56) - n0 := by rw [← hS11]; exact ysf_eq
      exact r_ret0 (i := 12) rfl ⟨rfl, (by omega), hI10, hF12, hR13⟩
theorem lp223_23 {G : xk} {d : Nat} {S0 : yS} {n0 : Int} (h_n0 : 0 ≤ n0 ∧ n0 ≤ 4) (hd : 0 ≤ d) : ∀ (n : Nat), ∀ (S : yS) (hI : yI S) (hF : yFr [(43, 56), (43, 57)] [] S0 S) (hR : yRm [] S0 S) (v k : Int) (h_v : Rl v) (h_k : 0 ≤ k ∧ k ≤ n0) (q_0 : 0 ≤ v) (q_1 : (k = 0 → v = 0) ∧ (k = 1 → v ≤ 255) ∧ (k = 2 → v ≤ 65535) ∧ (k = 3 → v ≤ 16777215) ∧ (k = 4 → v ≤ 4294967295)) (q_2 : S.f 43 56 + n0 ≤ S.f 43 42) (q_3 : S.f 43 56 = S0.f 43 56) (q_4 : S.f 43 57 = -1) (q_5 : S0.f 43 57 = -1) (hn : n0 - k < (n : Nat)), yT xPr G LY xC223 23 [some ((2, 43)), some (vi n0), some (vl v), none, some (vi k)] [] S d (fun r S' => ∃ z : Int, r = (1, vl z) ∧ Rl z ∧ 0 ≤ z ∧ (n0 = 2 → z ≤ 65535) ∧ (n0 = 1 → z ≤ 255) ∧ z ≤ 4294967295 ∧ (S'.f 43 57 = -1 → S'.f 43 56 = S0.f 43 56 + n0 ∧ S'.f 43 56 ≤ 23500) ∧ S0.f 43 56 ≤ S'.f 43 56 ∧ (S0.f 43 57 ≠ -1 → S'.f 43 57 ≠ -1) ∧ yI S' ∧ yFr [(43, 56), (43, 57)] [] S0 S' ∧ yRm [] S0 S') := by
  intro n
  induction n with
  | zero => intro S hI hF hR v k h_v h_k q_0 q_1 q_2 q_3 q_4 q_5 hn; exact absurd hn (by omega)
  | succ n ih =>
    intro S hI hF hR v k h_v h_k q_0 q_1 q_2 q_3 q_4 q_5 hn
    have h1 := hI.f tf43_56
    have h2 := hI.f tf43_42
    have h3 : S.f 43 42 = S0.f 43 42 := hF.f rfl
    have h4 := hI.f tf43_57
    refine r_load (i := 23) (u := 4) (w := 0) rfl rfl rfl ?_
    refine r_load (i := 24) (u := 1) (w := 0) rfl rfl rfl ?_
    refine c_ge (i := 25) (v := 41) rfl ⟨by omega, by omega⟩ ⟨by omega, by omega⟩ (fun h5 => ?_) (fun h6 => ?_)
    · refine r_load (i := 41) (u := 0) (w := 2) rfl rfl rfl ?_
      refine r_dup (i := 42) rfl rfl ?_
      refine r_getf (i := 43) (v := 56) (w := 11) (x := vi (S.f 43 56)) rfl ly43 rfl rfl fun h7 => ?_
      have h7 : Rg (S.f 43 56) := h7
      refine r_load (i := 44) (u := 1) (w := 0) rfl rfl rfl ?_
      refine r_iadd (i := 45) rfl ?_
      refine r_putI (i := 46) (v := 56) (w := 11) rfl ly43 rfl ⟨by omega, by omega⟩ ?_
      have hI9 := hI.setf (b := 43) (w := 56) (z := (S.f 43 56) + n0) tf43_56 rfl (by omega) (by omega)
      have hF11 := hF.setf (b := 43) (w := 56) (z := (S.f 43 56) + n0) rfl
      have hR12 := hR.setf (b := 43) (w := 56) (z := (S.f 43 56) + n0)
      refine yT_gen (fun S8 hS10 => ?_)
      rw [hS10] at hI9 hF11 hR12 
      refine r_load (i := 47) (u := 2) (w := 1) rfl rfl rfl ?_
      have h13 := hI9.f tf43_57
      have h14 : S8.f 43 57 = S.f 43 57 := by rw [← hS10]; exact ysf_ne (by decide)
      have h15 := hI9.f tf43_56
      have h16 : S8.f 43 56 = (S.f 43 56) + n0 := by rw [← hS10]; exact ysf_eq
      exact r_retL (i := 48) rfl ⟨v, rfl, ⟨by omega, by omega⟩, (by omega), (by omega), (by omega), (by omega), (by omega), (by omega), (by omega), hI9, hF11, hR12⟩
    · refine r_lconst (i := 26) (u := 256) (z := 256) rfl rfl ?_
      refine r_load (i := 27) (u := 2) (w := 1) rfl rfl rfl ?_
      refine r_lmul (i := 28) rfl ?_
      refine r_load (i := 29) (u := 0) (w := 2) rfl rfl rfl ?_
      refine r_getf (i := 30) (v := 40) (w := 11) (x := (2, 71)) rfl ly43 rfl rfl fun _ => ?_
      refine r_load (i := 31) (u := 0) (w := 2) rfl rfl rfl ?_
      refine r_getf (i := 32) (v := 56) (w := 11) (x := vi (S.f 43 56)) rfl ly43 rfl rfl fun h18 => ?_
      have h18 : Rg (S.f 43 56) := h18
      refine r_load (i := 33) (u := 4) (w := 0) rfl rfl rfl ?_
      refine r_iadd (i := 34) rfl ?_
      refine a_int (i := 35) rfl ly71 rfl (by omega) (by omega) fun h19 => ?_
      have h20 := hI.a ta71 ((S.f 43 56) + k).toNat
      have h21 : S.a 71 ((S.f 43 56) + k).toNat = S0.a 71 ((S.f 43 56) + k).toNat := hF.a rfl _
      refine r_i2l (i := 36) rfl ⟨by omega, by omega⟩ ?_
      refine r_ladd (i := 37) rfl ?_
      refine r_store (i := 38) (u := 2) (w := 1) (L1 := [some ((2, 43)), some (vi n0), some (vl ((256 * v) + (S.a 71 ((S.f 43 56) + k).toNat))), none, some (vi k)]) rfl rfl rfl rfl ?_
      refine r_iinc (i := 39) (u := 1) (v := 4) (s := 1) (L1 := [some ((2, 43)), some (vi n0), some (vl ((256 * v) + (S.a 71 ((S.f 43 56) + k).toNat))), none, some (vi (k + 1))]) rfl rfl rfl rfl rfl ?_
      refine r_goto (i := 40) (v := 23) rfl ?_
      exact ih S hI hF hR ((256 * v) + (S.a 71 ((S.f 43 56) + k).toNat)) (k + 1) ⟨by omega, by omega⟩ ⟨by omega, by omega⟩ (by omega) (by omega) (by omega) (by omega) (by omega) (by omega) (by omega)
/-- ProxyForgeModel.number -/
theorem sp223 {G : xk} {S : yS} {d : Nat} (hI : yI S) {n0 : Int} (h_n0 : 0 ≤ n0 ∧ n0 ≤ 4) (hd : 0 ≤ d) : yT xPr G LY xC223 0 [some ((2, 43)), some (vi n0)] [] S d (fun r S' => ∃ z : Int, r = (1, vl z) ∧ Rl z ∧ 0 ≤ z ∧ (n0 = 2 → z ≤ 65535) ∧ (n0 = 1 → z ≤ 255) ∧ z ≤ 4294967295 ∧ (S'.f 43 57 = -1 → S'.f 43 56 = S.f 43 56 + n0 ∧ S'.f 43 56 ≤ 23500) ∧ S.f 43 56 ≤ S'.f 43 56 ∧ (S.f 43 57 ≠ -1 → S'.f 43 57 ≠ -1) ∧ yI S' ∧ yFr [(43, 56), (43, 57)] [] S S' ∧ yRm [] S S') := by
  refine yT_pad 3 ?_
  show yT xPr G LY xC223 0 [some ((2, 43)), some (vi n0), none, none, none] [] S d _
  have hF : yFr [(43, 56), (43, 57)] [] S S := yFr.refl S
  have hR : yRm [] S S := yRm.refl S
  refine r_load (i := 0) (u := 0) (w := 2) rfl rfl rfl ?_
  have h1 := hI.f tf43_57
  refine r_getf (i := 1) (v := 57) (w := 11) (x := vi (S.f 43 57)) rfl ly43 rfl rfl fun h2 => ?_
  have h2 : Rg (S.f 43 57) := h2
  refine r_const (i := 2) (u := 4294967295) (z := -1) rfl rfl ?_
  refine c_eq (i := 3) (v := 6) rfl ⟨by omega, by omega⟩ ⟨by omega, by omega⟩ (fun h3 => ?_) (fun h4 => ?_)
  · refine r_load (i := 6) (u := 0) (w := 2) rfl rfl rfl ?_
    have h5 := hI.f tf43_56
    refine r_getf (i := 7) (v := 56) (w := 11) (x := vi (S.f 43 56)) rfl ly43 rfl rfl fun h6 => ?_
    have h6 : Rg (S.f 43 56) := h6
    refine r_load (i := 8) (u := 1) (w := 0) rfl rfl rfl ?_
    refine r_iadd (i := 9) rfl ?_
    refine r_load (i := 10) (u := 0) (w := 2) rfl rfl rfl ?_
    have h7 := hI.f tf43_42
    refine r_getf (i := 11) (v := 42) (w := 11) (x := vi (S.f 43 42)) rfl ly43 rfl rfl fun h8 => ?_
    have h8 : Rg (S.f 43 42) := h8
    refine c_le (i := 12) (v := 19) rfl ⟨by omega, by omega⟩ ⟨by omega, by omega⟩ (fun h9 => ?_) (fun h10 => ?_)
    · refine r_lconst (i := 19) (u := 0) (z := 0) rfl rfl ?_
      refine r_store (i := 20) (u := 2) (w := 1) (L1 := [some ((2, 43)), some (vi n0), some (vl 0), none, none]) rfl rfl rfl rfl ?_
      refine r_const (i := 21) (u := 0) (z := 0) rfl rfl ?_
      refine r_store (i := 22) (u := 4) (w := 0) (L1 := [some ((2, 43)), some (vi n0), some (vl 0), none, some (vi 0)]) rfl rfl rfl rfl ?_
      exact lp223_23 h_n0  hd _ S hI hF hR 0 0 ⟨by omega, by omega⟩ ⟨by omega, by omega⟩ (by omega) (by omega) (by omega) (by omega) (by omega) (by omega) (Int.lt_succ_toNat _)
    · refine r_load (i := 13) (u := 0) (w := 2) rfl rfl rfl ?_
      refine r_load (i := 14) (u := 0) (w := 2) rfl rfl rfl ?_
      refine r_getf (i := 15) (v := 42) (w := 11) (x := vi (S.f 43 42)) rfl ly43 rfl rfl fun h11 => ?_
      have h11 : Rg (S.f 43 42) := h11
      refine r_putI (i := 16) (v := 57) (w := 11) rfl ly43 rfl ⟨by omega, by omega⟩ ?_
      have hI13 := hI.setf (b := 43) (w := 57) (z := S.f 43 42) tf43_57 rfl (by omega) (by omega)
      have hF15 := hF.setf (b := 43) (w := 57) (z := S.f 43 42) rfl
      have hR16 := hR.setf (b := 43) (w := 57) (z := S.f 43 42)
      refine yT_gen (fun S12 hS14 => ?_)
      rw [hS14] at hI13 hF15 hR16 
      refine r_lconst (i := 17) (u := 0) (z := 0) rfl rfl ?_
      have h17 := hI13.f tf43_57
      have h18 : S12.f 43 57 = S.f 43 42 := by rw [← hS14]; exact ysf_eq
      have h19 := hI13.f tf43_56
      have h20 : S12.f 43 56 = S.f 43 56 := by rw [← hS14]; exact ysf_ne (by decide)
      exact r_retL (i := 18) rfl ⟨0, rfl, ⟨by omega, by omega⟩, (by omega), (by omega), (by omega), (by omega), (by omega), (by omega), (by omega), hI13, hF15, hR16⟩
  · refine r_lconst (i := 4) (u := 0) (z := 0) rfl rfl ?_
    have h21 := hI.f tf43_56
    exact r_retL (i := 5) rfl ⟨0, rfl, ⟨by omega, by omega⟩, (by omega), (by omega), (by omega), (by omega), (by omega), (by omega), (by omega), hI, hF, hR⟩
/-- ProxyForgeModel.isEntry -/
theorem sp208 {G : xk} {S : yS} {d : Nat} (hI : yI S) {e : Int} (h_e : Rl e) {k : Int} (h_k : 0 ≤ k ∧ k ≤ 255) (hd : 0 ≤ d) : yT xPr G LY xC208 0 [some ((2, 43)), some (vl e), none, some (vi k)] [] S d (fun r S' => ∃ z : Int, r = (1, vi z) ∧ 0 ≤ z ∧ z ≤ 1 ∧ (z = 1 → 1 ≤ e ∧ e ≤ S.f 43 58) ∧ S = S') := by
  refine yT_pad 0 ?_
  show yT xPr G LY xC208 0 [some ((2, 43)), some (vl e), none, some (vi k)] [] S d _
  refine r_load (i := 0) (u := 1) (w := 1) rfl rfl rfl ?_
  refine r_lconst (i := 1) (u := 0) (z := 0) rfl rfl ?_
  refine r_lcmp (i := 2) rfl ⟨by omega, by omega⟩ ⟨by omega, by omega⟩ (fun h1 => ?_) (fun h2 => ?_) (fun h3 => ?_)
  · refine z_le (i := 3) (v := 22) rfl ⟨by omega, by omega⟩ (fun h4 => ?_) (fun h5 => absurd h5 (by omega))
    refine r_const (i := 22) (u := 0) (z := 0) rfl rfl ?_
    have h6 := hI.f tf43_58
    exact r_retZ (i := 23) rfl (by omega) (by omega) ⟨0, rfl, by omega, by omega, (by omega), rfl⟩
  · refine z_le (i := 3) (v := 22) rfl ⟨by omega, by omega⟩ (fun h7 => ?_) (fun h8 => absurd h8 (by omega))
    refine r_const (i := 22) (u := 0) (z := 0) rfl rfl ?_
    have h9 := hI.f tf43_58
    exact r_retZ (i := 23) rfl (by omega) (by omega) ⟨0, rfl, by omega, by omega, (by omega), rfl⟩
  · refine z_le (i := 3) (v := 22) rfl ⟨by omega, by omega⟩ (fun h10 => absurd h10 (by omega)) (fun h11 => ?_)
    refine r_load (i := 4) (u := 1) (w := 1) rfl rfl rfl ?_
    refine r_load (i := 5) (u := 0) (w := 2) rfl rfl rfl ?_
    have h12 := hI.f tf43_58
    refine r_getf (i := 6) (v := 58) (w := 11) (x := vi (S.f 43 58)) rfl ly43 rfl rfl fun h13 => ?_
    have h13 : Rg (S.f 43 58) := h13
    refine r_i2l (i := 7) rfl ⟨by omega, by omega⟩ ?_
    refine r_lcmp (i := 8) rfl ⟨by omega, by omega⟩ ⟨by omega, by omega⟩ (fun h14 => ?_) (fun h15 => ?_) (fun h16 => ?_)
    · refine z_gt (i := 9) (v := 22) rfl ⟨by omega, by omega⟩ (fun h17 => absurd h17 (by omega)) (fun h18 => ?_)
      refine r_load (i := 10) (u := 0) (w := 2) rfl rfl rfl ?_
      refine r_getf (i := 11) (v := 40) (w := 11) (x := (2, 71)) rfl ly43 rfl rfl fun _ => ?_
      refine r_load (i := 12) (u := 0) (w := 2) rfl rfl rfl ?_
      refine r_getf (i := 13) (v := 59) (w := 11) (x := (2, 80)) rfl ly43 rfl rfl fun _ => ?_
      refine r_load (i := 14) (u := 1) (w := 1) rfl rfl rfl ?_
      refine r_l2i (i := 15) rfl ?_
      rw [vi_sg e]
      have h21 := ysg_fact e
      refine a_int (i := 16) rfl ly80 rfl (by omega) (by omega) fun h22 => ?_
      have h23 := hI.a ta80 (ysg e).toNat
      refine a_int (i := 17) rfl ly71 rfl (by omega) (by omega) fun h24 => ?_
      have h25 := hI.a ta71 (S.a 80 (ysg e).toNat).toNat
      refine r_load (i := 18) (u := 3) (w := 0) rfl rfl rfl ?_
      refine c_ne (i := 19) (v := 22) rfl ⟨by omega, by omega⟩ ⟨by omega, by omega⟩ (fun h26 => ?_) (fun h27 => ?_)
      · refine r_const (i := 22) (u := 0) (z := 0) rfl rfl ?_
        exact r_retZ (i := 23) rfl (by omega) (by omega) ⟨0, rfl, by omega, by omega, (by omega), rfl⟩
      · refine r_const (i := 20) (u := 1) (z := 1) rfl rfl ?_
        refine r_goto (i := 21) (v := 23) rfl ?_
        exact r_retZ (i := 23) rfl (by omega) (by omega) ⟨1, rfl, by omega, by omega, (by omega), rfl⟩
    · refine z_gt (i := 9) (v := 22) rfl ⟨by omega, by omega⟩ (fun h28 => absurd h28 (by omega)) (fun h29 => ?_)
      refine r_load (i := 10) (u := 0) (w := 2) rfl rfl rfl ?_
      refine r_getf (i := 11) (v := 40) (w := 11) (x := (2, 71)) rfl ly43 rfl rfl fun _ => ?_
      refine r_load (i := 12) (u := 0) (w := 2) rfl rfl rfl ?_
      refine r_getf (i := 13) (v := 59) (w := 11) (x := (2, 80)) rfl ly43 rfl rfl fun _ => ?_
      refine r_load (i := 14) (u := 1) (w := 1) rfl rfl rfl ?_
      refine r_l2i (i := 15) rfl ?_
      rw [vi_sg e]
      have h32 := ysg_fact e
      refine a_int (i := 16) rfl ly80 rfl (by omega) (by omega) fun h33 => ?_
      have h34 := hI.a ta80 (ysg e).toNat
      refine a_int (i := 17) rfl ly71 rfl (by omega) (by omega) fun h35 => ?_
      have h36 := hI.a ta71 (S.a 80 (ysg e).toNat).toNat
      refine r_load (i := 18) (u := 3) (w := 0) rfl rfl rfl ?_
      refine c_ne (i := 19) (v := 22) rfl ⟨by omega, by omega⟩ ⟨by omega, by omega⟩ (fun h37 => ?_) (fun h38 => ?_)
      · refine r_const (i := 22) (u := 0) (z := 0) rfl rfl ?_
        exact r_retZ (i := 23) rfl (by omega) (by omega) ⟨0, rfl, by omega, by omega, (by omega), rfl⟩
      · refine r_const (i := 20) (u := 1) (z := 1) rfl rfl ?_
        refine r_goto (i := 21) (v := 23) rfl ?_
        exact r_retZ (i := 23) rfl (by omega) (by omega) ⟨1, rfl, by omega, by omega, (by omega), rfl⟩
    · refine z_gt (i := 9) (v := 22) rfl ⟨by omega, by omega⟩ (fun h39 => ?_) (fun h40 => absurd h40 (by omega))
      refine r_const (i := 22) (u := 0) (z := 0) rfl rfl ?_
      exact r_retZ (i := 23) rfl (by omega) (by omega) ⟨0, rfl, by omega, by omega, (by omega), rfl⟩
/-- ProxyForgeModel.entryOf -/
theorem sp200 {G : xk} {S : yS} {d : Nat} (hI : yI S) {k : Int} (h_k : 0 ≤ k ∧ k ≤ 255) (hd : 1 ≤ d) : yT xPr G LY xC200 0 [some ((2, 43)), some (vi k)] [] S d (fun r S' => r = (0, (0, 0)) ∧ (S'.f 43 57 = -1 → S'.f 43 56 ≤ 23500) ∧ S.f 43 56 ≤ S'.f 43 56 ∧ (S.f 43 57 ≠ -1 → S'.f 43 57 ≠ -1) ∧ yI S' ∧ yFr [(43, 56), (43, 57)] [] S S' ∧ yRm [] S S') := by
  refine yT_pad 2 ?_
  show yT xPr G LY xC200 0 [some ((2, 43)), some (vi k), none, none] [] S d _
  obtain ⟨d, rfl⟩ : ∃ q, d = q + 1 := ⟨d - 1, by omega⟩
  have hF : yFr [(43, 56), (43, 57)] [] S S := yFr.refl S
  have hR : yRm [] S S := yRm.refl S
  refine r_load (i := 0) (u := 0) (w := 2) rfl rfl rfl ?_
  refine r_const (i := 1) (u := 2) (z := 2) rfl rfl ?_
  have h1 := hI.f tf43_56
  have h2 := hI.f tf43_57
  refine r_call (i := 2) (u := 11) (v := 223) (w := 0) (b := 0) (na := 1282) (C2 := xC223) (as := [(2, 43), vi 2]) (s := []) rfl rfl rfl rfl rfl rfl rfl (sp223 (n0 := 2) hI ⟨by omega, by omega⟩   (by omega)) (fun r3 S4 hq5 => ?_)
  obtain ⟨z6, rfl, h7, h8, h9, h10, h11, h12, h13, h14, hI15, hF16, hR17⟩ := hq5
  have hF18 := hF.trans hF16 rfl rfl
  have hR19 := hR.trans hR17 rfl
  refine Or.inr (Or.inl ⟨rfl, ?_⟩)
  refine r_store (i := 3) (u := 2) (w := 1) (L1 := [some ((2, 43)), some (vi k), some (vl z6), none]) rfl rfl rfl rfl ?_
  refine r_load (i := 4) (u := 0) (w := 2) rfl rfl rfl ?_
  refine r_load (i := 5) (u := 0) (w := 2) rfl rfl rfl ?_
  refine r_load (i := 6) (u := 2) (w := 1) rfl rfl rfl ?_
  refine r_load (i := 7) (u := 1) (w := 0) rfl rfl rfl ?_
  have h20 := hI15.f tf43_58
  have h21 : S4.f 43 58 = S.f 43 58 := hF16.f rfl
  refine r_call (i := 8) (u := 11) (v := 208) (w := 0) (b := 0) (na := 1027) (C2 := xC208) (as := [(2, 43), vl z6, vi k]) (s := [(2, 43)]) rfl rfl rfl rfl rfl rfl rfl (sp208 (e := z6) (k := k) hI15 ⟨by omega, by omega⟩ ⟨by omega, by omega⟩   (by omega)) (fun r22 S23 hq24 => ?_)
  obtain ⟨z25, rfl, h26, h27, h28, rfl⟩ := hq24
  refine Or.inr (Or.inl ⟨rfl, ?_⟩)
  refine r_const (i := 9) (u := 2) (z := 2) rfl rfl ?_
  have h29 := hI15.f tf43_57
  refine r_call (i := 10) (u := 11) (v := 221) (w := 0) (b := 0) (na := 771) (C2 := xC221) (as := [(2, 43), vi z25, vi 2]) (s := []) rfl rfl rfl rfl rfl rfl rfl (sp221 (g0 := z25) (n0 := 2) hI15 ⟨by omega, by omega⟩ ⟨by omega, by omega⟩   (by omega)) (fun r30 S31 hq32 => ?_)
  obtain ⟨rfl, h33, hI34, hF35, hR36⟩ := hq32
  have hF37 := hF18.trans hF35 rfl rfl
  have hR38 := hR19.trans hR36 rfl
  refine Or.inl ⟨rfl, ?_⟩
  have h39 := hI34.f tf43_57
  have h40 := hI34.f tf43_56
  have h41 : S31.f 43 56 = S4.f 43 56 := hF35.f rfl
  exact r_ret0 (i := 11) rfl ⟨rfl, (by omega), (by omega), (by omega), hI34, hF37, hR38⟩
/-- ProxyForgeModel.exactly -/
theorem sp201 {G : xk} {S : yS} {d : Nat} (hI : yI S) {n0 : Int} (h_n0 : 0 ≤ n0 ∧ n0 ≤ 4) {v : Int} (h_v : -2147483648 ≤ v ∧ v ≤ 2147483647) (hd : 1 ≤ d) : yT xPr G LY xC201 0 [some ((2, 43)), some (vi n0), some (vi v)] [] S d (fun r S' => r = (0, (0, 0)) ∧ (S'.f 43 57 = -1 → S'.f 43 56 ≤ 23500) ∧ S.f 43 56 ≤ S'.f 43 56 ∧ (S.f 43 57 ≠ -1 → S'.f 43 57 ≠ -1) ∧ yI S' ∧ yFr [(43, 56), (43, 57)] [] S S' ∧ yRm [] S S') := by
  refine yT_pad 2 ?_
  show yT xPr G LY xC201 0 [some ((2, 43)), some (vi n0), some (vi v), none, none] [] S d _
  obtain ⟨d, rfl⟩ : ∃ q, d = q + 1 := ⟨d - 1, by omega⟩
  have hF : yFr [(43, 56), (43, 57)] [] S S := yFr.refl S
  have hR : yRm [] S S := yRm.refl S
  refine r_load (i := 0) (u := 0) (w := 2) rfl rfl rfl ?_
  refine r_load (i := 1) (u := 1) (w := 0) rfl rfl rfl ?_
  have h1 := hI.f tf43_56
  have h2 := hI.f tf43_57
  refine r_call (i := 2) (u := 11) (v := 223) (w := 0) (b := 0) (na := 1282) (C2 := xC223) (as := [(2, 43), vi n0]) (s := []) rfl rfl rfl rfl rfl rfl rfl (sp223 (n0 := n0) hI ⟨by omega, by omega⟩   (by omega)) (fun r3 S4 hq5 => ?_)
  obtain ⟨z6, rfl, h7, h8, h9, h10, h11, h12, h13, h14, hI15, hF16, hR17⟩ := hq5
  have hF18 := hF.trans hF16 rfl rfl
  have hR19 := hR.trans hR17 rfl
  refine Or.inr (Or.inl ⟨rfl, ?_⟩)
  refine r_store (i := 3) (u := 3) (w := 1) (L1 := [some ((2, 43)), some (vi n0), some (vi v), some (vl z6), none]) rfl rfl rfl rfl ?_
  refine r_load (i := 4) (u := 0) (w := 2) rfl rfl rfl ?_
  refine r_load (i := 5) (u := 3) (w := 1) rfl rfl rfl ?_
  refine r_load (i := 6) (u := 2) (w := 0) rfl rfl rfl ?_
  refine r_i2l (i := 7) rfl ⟨by omega, by omega⟩ ?_
  refine r_lcmp (i := 8) rfl ⟨by omega, by omega⟩ ⟨by omega, by omega⟩ (fun h20 => ?_) (fun h21 => ?_) (fun h22 => ?_)
  · refine z_ne (i := 9) (v := 12) rfl ⟨by omega, by omega⟩ (fun h23 => ?_) (fun h24 => absurd h24 (by omega))
    refine r_const (i := 12) (u := 0) (z := 0) rfl rfl ?_
    refine r_load (i := 13) (u := 1) (w := 0) rfl rfl rfl ?_
    have h25 := hI15.f tf43_57
    refine r_call (i := 14) (u := 11) (v := 221) (w := 0) (b := 0) (na := 771) (C2 := xC221) (as := [(2, 43), vi 0, vi n0]) (s := []) rfl rfl rfl rfl rfl rfl rfl (sp221 (g0 := 0) (n0 := n0) hI15 ⟨by omega, by omega⟩ ⟨by omega, by omega⟩   (by omega)) (fun r26 S27 hq28 => ?_)
    obtain ⟨rfl, h29, hI30, hF31, hR32⟩ := hq28
    have hF33 := hF18.trans hF31 rfl rfl
    have hR34 := hR19.trans hR32 rfl
    refine Or.inl ⟨rfl, ?_⟩
    have h35 := hI30.f tf43_57
    have h36 := hI30.f tf43_56
    have h37 : S27.f 43 56 = S4.f 43 56 := hF31.f rfl
    exact r_ret0 (i := 15) rfl ⟨rfl, (by omega), (by omega), (by omega), hI30, hF33, hR34⟩
  · refine z_ne (i := 9) (v := 12) rfl ⟨by omega, by omega⟩ (fun h38 => absurd h38 (by omega)) (fun h39 => ?_)
    refine r_const (i := 10) (u := 1) (z := 1) rfl rfl ?_
    refine r_goto (i := 11) (v := 13) rfl ?_
    refine r_load (i := 13) (u := 1) (w := 0) rfl rfl rfl ?_
    have h40 := hI15.f tf43_57
    refine r_call (i := 14) (u := 11) (v := 221) (w := 0) (b := 0) (na := 771) (C2 := xC221) (as := [(2, 43), vi 1, vi n0]) (s := []) rfl rfl rfl rfl rfl rfl rfl (sp221 (g0 := 1) (n0 := n0) hI15 ⟨by omega, by omega⟩ ⟨by omega, by omega⟩   (by omega)) (fun r41 S42 hq43 => ?_)
    obtain ⟨rfl, h44, hI45, hF46, hR47⟩ := hq43
    have hF48 := hF18.trans hF46 rfl rfl
    have hR49 := hR19.trans hR47 rfl
    refine Or.inl ⟨rfl, ?_⟩
    have h50 := hI45.f tf43_57
    have h51 := hI45.f tf43_56
    have h52 : S42.f 43 56 = S4.f 43 56 := hF46.f rfl
    exact r_ret0 (i := 15) rfl ⟨rfl, (by omega), (by omega), (by omega), hI45, hF48, hR49⟩
  · refine z_ne (i := 9) (v := 12) rfl ⟨by omega, by omega⟩ (fun h53 => ?_) (fun h54 => absurd h54 (by omega))
    refine r_const (i := 12) (u := 0) (z := 0) rfl rfl ?_
    refine r_load (i := 13) (u := 1) (w := 0) rfl rfl rfl ?_
    have h55 := hI15.f tf43_57
    refine r_call (i := 14) (u := 11) (v := 221) (w := 0) (b := 0) (na := 771) (C2 := xC221) (as := [(2, 43), vi 0, vi n0]) (s := []) rfl rfl rfl rfl rfl rfl rfl (sp221 (g0 := 0) (n0 := n0) hI15 ⟨by omega, by omega⟩ ⟨by omega, by omega⟩   (by omega)) (fun r56 S57 hq58 => ?_)
    obtain ⟨rfl, h59, hI60, hF61, hR62⟩ := hq58
    have hF63 := hF18.trans hF61 rfl rfl
    have hR64 := hR19.trans hR62 rfl
    refine Or.inl ⟨rfl, ?_⟩
    have h65 := hI60.f tf43_57
    have h66 := hI60.f tf43_56
    have h67 : S57.f 43 56 = S4.f 43 56 := hF61.f rfl
    exact r_ret0 (i := 15) rfl ⟨rfl, (by omega), (by omega), (by omega), hI60, hF63, hR64⟩
/-- ProxyForgeModel.pass -/
theorem sp230 {G : xk} {S : yS} {d : Nat} (hI : yI S) {v : Int} (h_v : Rl v) (p_0 : 0 ≤ v) (hd : 0 ≤ d) : yT xPr G LY xC230 0 [some ((2, 43)), some (vl v), none] [] S d (fun r S' => r = (0, (0, 0)) ∧ (S.f 43 57 = -1 ∧ S.f 43 56 ≤ 23500 → S'.f 43 56 ≤ 23500) ∧ S.f 43 56 ≤ S'.f 43 56 ∧ (S.f 43 57 ≠ -1 → S'.f 43 57 ≠ -1) ∧ yI S' ∧ yFr [(43, 56), (43, 57)] [] S S' ∧ yRm [] S S') := by
  refine yT_pad 0 ?_
  show yT xPr G LY xC230 0 [some ((2, 43)), some (vl v), none] [] S d _
  have hF : yFr [(43, 56), (43, 57)] [] S S := yFr.refl S
  have hR : yRm [] S S := yRm.refl S
  refine r_load (i := 0) (u := 0) (w := 2) rfl rfl rfl ?_
  have h1 := hI.f tf43_57
  refine r_getf (i := 1) (v := 57) (w := 11) (x := vi (S.f 43 57)) rfl ly43 rfl rfl fun h2 => ?_
  have h2 : Rg (S.f 43 57) := h2
  refine r_const (i := 2) (u := 4294967295) (z := -1) rfl rfl ?_
  refine c_eq (i := 3) (v := 5) rfl ⟨by omega, by omega⟩ ⟨by omega, by omega⟩ (fun h3 => ?_) (fun h4 => ?_)
  · refine r_load (i := 5) (u := 1) (w := 1) rfl rfl rfl ?_
    refine r_load (i := 6) (u := 0) (w := 2) rfl rfl rfl ?_
    have h5 := hI.f tf43_42
    refine r_getf (i := 7) (v := 42) (w := 11) (x := vi (S.f 43 42)) rfl ly43 rfl rfl fun h6 => ?_
    have h6 : Rg (S.f 43 42) := h6
    refine r_load (i := 8) (u := 0) (w := 2) rfl rfl rfl ?_
    have h7 := hI.f tf43_56
    refine r_getf (i := 9) (v := 56) (w := 11) (x := vi (S.f 43 56)) rfl ly43 rfl rfl fun h8 => ?_
    have h8 : Rg (S.f 43 56) := h8
    refine r_isub (i := 10) rfl ?_
    refine r_i2l (i := 11) rfl ⟨by omega, by omega⟩ ?_
    refine r_lcmp (i := 12) rfl ⟨by omega, by omega⟩ ⟨by omega, by omega⟩ (fun h9 => ?_) (fun h10 => ?_) (fun h11 => ?_)
    · refine z_le (i := 13) (v := 19) rfl ⟨by omega, by omega⟩ (fun h12 => ?_) (fun h13 => absurd h13 (by omega))
      refine r_load (i := 19) (u := 0) (w := 2) rfl rfl rfl ?_
      refine r_dup (i := 20) rfl rfl ?_
      refine r_getf (i := 21) (v := 56) (w := 11) (x := vi (S.f 43 56)) rfl ly43 rfl rfl fun h14 => ?_
      have h14 : Rg (S.f 43 56) := h14
      refine r_load (i := 22) (u := 1) (w := 1) rfl rfl rfl ?_
      refine r_l2i (i := 23) rfl ?_
      rw [vi_sg v]
      have h15 := ysg_fact v
      refine r_iadd (i := 24) rfl ?_
      refine r_putI (i := 25) (v := 56) (w := 11) rfl ly43 rfl ⟨by omega, by omega⟩ ?_
      have hI17 := hI.setf (b := 43) (w := 56) (z := (S.f 43 56) + (ysg v)) tf43_56 rfl (by omega) (by omega)
      have hF19 := hF.setf (b := 43) (w := 56) (z := (S.f 43 56) + (ysg v)) rfl
      have hR20 := hR.setf (b := 43) (w := 56) (z := (S.f 43 56) + (ysg v))
      refine yT_gen (fun S16 hS18 => ?_)
      rw [hS18] at hI17 hF19 hR20 
      have h21 := hI17.f tf43_57
      have h22 : S16.f 43 57 = S.f 43 57 := by rw [← hS18]; exact ysf_ne (by decide)
      have h23 := hI17.f tf43_56
      have h24 : S16.f 43 56 = (S.f 43 56) + (ysg v) := by rw [← hS18]; exact ysf_eq
      exact r_ret0 (i := 26) rfl ⟨rfl, (by omega), (by omega), (by omega), hI17, hF19, hR20⟩
    · refine z_le (i := 13) (v := 19) rfl ⟨by omega, by omega⟩ (fun h25 => ?_) (fun h26 => absurd h26 (by omega))
      refine r_load (i := 19) (u := 0) (w := 2) rfl rfl rfl ?_
      refine r_dup (i := 20) rfl rfl ?_
      refine r_getf (i := 21) (v := 56) (w := 11) (x := vi (S.f 43 56)) rfl ly43 rfl rfl fun h27 => ?_
      have h27 : Rg (S.f 43 56) := h27
      refine r_load (i := 22) (u := 1) (w := 1) rfl rfl rfl ?_
      refine r_l2i (i := 23) rfl ?_
      rw [vi_sg v]
      have h28 := ysg_fact v
      refine r_iadd (i := 24) rfl ?_
      refine r_putI (i := 25) (v := 56) (w := 11) rfl ly43 rfl ⟨by omega, by omega⟩ ?_
      have hI30 := hI.setf (b := 43) (w := 56) (z := (S.f 43 56) + (ysg v)) tf43_56 rfl (by omega) (by omega)
      have hF32 := hF.setf (b := 43) (w := 56) (z := (S.f 43 56) + (ysg v)) rfl
      have hR33 := hR.setf (b := 43) (w := 56) (z := (S.f 43 56) + (ysg v))
      refine yT_gen (fun S29 hS31 => ?_)
      rw [hS31] at hI30 hF32 hR33 
      have h34 := hI30.f tf43_57
      have h35 : S29.f 43 57 = S.f 43 57 := by rw [← hS31]; exact ysf_ne (by decide)
      have h36 := hI30.f tf43_56
      have h37 : S29.f 43 56 = (S.f 43 56) + (ysg v) := by rw [← hS31]; exact ysf_eq
      exact r_ret0 (i := 26) rfl ⟨rfl, (by omega), (by omega), (by omega), hI30, hF32, hR33⟩
    · refine z_le (i := 13) (v := 19) rfl ⟨by omega, by omega⟩ (fun h38 => absurd h38 (by omega)) (fun h39 => ?_)
      refine r_load (i := 14) (u := 0) (w := 2) rfl rfl rfl ?_
      refine r_load (i := 15) (u := 0) (w := 2) rfl rfl rfl ?_
      refine r_getf (i := 16) (v := 42) (w := 11) (x := vi (S.f 43 42)) rfl ly43 rfl rfl fun h40 => ?_
      have h40 : Rg (S.f 43 42) := h40
      refine r_putI (i := 17) (v := 57) (w := 11) rfl ly43 rfl ⟨by omega, by omega⟩ ?_
      have hI42 := hI.setf (b := 43) (w := 57) (z := S.f 43 42) tf43_57 rfl (by omega) (by omega)
      have hF44 := hF.setf (b := 43) (w := 57) (z := S.f 43 42) rfl
      have hR45 := hR.setf (b := 43) (w := 57) (z := S.f 43 42)
      refine yT_gen (fun S41 hS43 => ?_)
      rw [hS43] at hI42 hF44 hR45 
      refine r_goto (i := 18) (v := 26) rfl ?_
      have h46 := hI42.f tf43_57
      have h47 : S41.f 43 57 = S.f 43 42 := by rw [← hS43]; exact ysf_eq
      have h48 := hI42.f tf43_56
      have h49 : S41.f 43 56 = S.f 43 56 := by rw [← hS43]; exact ysf_ne (by decide)
      exact r_ret0 (i := 26) rfl ⟨rfl, (by omega), (by omega), (by omega), hI42, hF44, hR45⟩
  · have h50 := hI.f tf43_56
    exact r_ret0 (i := 4) rfl ⟨rfl, (by omega), (by omega), (by omega), hI, hF, hR⟩
theorem lp253_69 {G : xk} {d : Nat} {S0 : yS} {s : Nat} (h_s : yStr s) (hd : 4 ≤ d + 1) : ∀ (S : yS) (hI : yI S) (hF : yFr [(43, 56), (43, 57)] [] S0 S) (hR : yRm [] S0 S) (g0 : Int) (h_g0 : 0 ≤ g0 ∧ g0 ≤ 1) (q_0 : S0.f 43 57 ≠ -1 → S.f 43 57 ≠ -1), yT xPr G LY xC253 69 [some ((2, 43)), some ((6, s)), none, none, some (vi g0), none, none] [] S (d + 1) (fun r S' => r = (0, (0, 0)) ∧ (S0.f 43 57 ≠ -1 → S'.f 43 57 ≠ -1) ∧ yI S' ∧ yFr [(43, 56), (43, 57)] [] S0 S' ∧ yRm [] S0 S') := by
  intro S hI hF hR g0 h_g0 q_0
  have h1 := hI.f tf43_57
  refine r_load (i := 69) (u := 0) (w := 2) rfl rfl rfl ?_
  refine r_load (i := 70) (u := 4) (w := 0) rfl rfl rfl ?_
  refine r_const (i := 71) (u := 2) (z := 2) rfl rfl ?_
  refine r_call (i := 72) (u := 11) (v := 221) (w := 0) (b := 0) (na := 771) (C2 := xC221) (as := [(2, 43), vi g0, vi 2]) (s := []) rfl rfl rfl rfl rfl rfl rfl (sp221 (g0 := g0) (n0 := 2) hI ⟨by omega, by omega⟩ ⟨by omega, by omega⟩   (by omega)) (fun r2 S3 hq4 => ?_)
  obtain ⟨rfl, h5, hI6, hF7, hR8⟩ := hq4
  have hF9 := hF.trans hF7 rfl rfl
  have hR10 := hR.trans hR8 rfl
  refine Or.inl ⟨rfl, ?_⟩
  have h11 := hI6.f tf43_57
  exact r_ret0 (i := 73) rfl ⟨rfl, (by omega), hI6, hF9, hR10⟩
theorem lp253_45 {G : xk} {d : Nat} {S0 : yS} {s : Nat} (h_s : yStr s) (hd : 4 ≤ d + 1) : ∀ (n : Nat), ∀ (S : yS) (hI : yI S) (hF : yFr [(43, 56), (43, 57)] [] S0 S) (hR : yRm [] S0 S) (e g0 fr k : Int) (h_e : Rl e) (h_g0 : 0 ≤ g0 ∧ g0 ≤ 1) (h_fr : 0 ≤ fr ∧ fr ≤ 23500) (h_k : 0 ≤ k ∧ k ≤ 58) (q_0 : S0.f 43 57 ≠ -1 → S.f 43 57 ≠ -1) (hn : 58 - k < (n : Nat)), yT xPr G LY xC253 45 [some ((2, 43)), some ((6, s)), some (vl e), none, some (vi g0), some (vi fr), some (vi k)] [] S (d + 1) (fun r S' => r = (0, (0, 0)) ∧ (S0.f 43 57 ≠ -1 → S'.f 43 57 ≠ -1) ∧ yI S' ∧ yFr [(43, 56), (43, 57)] [] S0 S' ∧ yRm [] S0 S') := by
  intro n
  induction n with
  | zero => intro S hI hF hR e g0 fr k h_e h_g0 h_fr h_k q_0 hn; exact absurd hn (by omega)
  | succ n ih =>
    intro S hI hF hR e g0 fr k h_e h_g0 h_fr h_k q_0 hn
    have h1 := hI.f tf43_57
    refine r_load (i := 45) (u := 6) (w := 0) rfl rfl rfl ?_
    refine r_load (i := 46) (u := 1) (w := 2) rfl rfl rfl ?_
    refine r_call (i := 47) (u := 100) (v := 274) (w := 0) (b := 0) (na := 257) (C2 := xC274) (as := [(6, s)]) (s := [vi k]) rfl rfl rfl rfl rfl (yrcv_str h_s) rfl (sp274 (s := s)  h_s   (by omega)) (fun r2 S3 hq4 => ?_)
    obtain ⟨z5, rfl, h6, h7, h8, rfl⟩ := hq4
    refine Or.inr (Or.inl ⟨rfl, ?_⟩)
    refine c_ge (i := 48) (v := 69) rfl ⟨by omega, by omega⟩ ⟨by omega, by omega⟩ (fun h9 => ?_) (fun h10 => ?_)
    · refine yT_drop (L1 := [some ((2, 43)), some ((6, s)), none, none, some (vi g0), none, none]) rfl ?_
      exact lp253_69 h_s  hd S hI hF hR g0 ⟨by omega, by omega⟩ (by omega) 
    · refine r_load (i := 49) (u := 4) (w := 0) rfl rfl rfl ?_
      refine z_eq (i := 50) (v := 69) rfl ⟨by omega, by omega⟩ (fun h11 => ?_) (fun h12 => ?_)
      · refine yT_drop (L1 := [some ((2, 43)), some ((6, s)), none, none, some (vi g0), none, none]) rfl ?_
        exact lp253_69 h_s  hd S hI hF hR g0 ⟨by omega, by omega⟩ (by omega) 
      · refine r_load (i := 51) (u := 0) (w := 2) rfl rfl rfl ?_
        refine r_getf (i := 52) (v := 40) (w := 11) (x := (2, 71)) rfl ly43 rfl rfl fun _ => ?_
        refine r_load (i := 53) (u := 5) (w := 0) rfl rfl rfl ?_
        refine r_const (i := 54) (u := 3) (z := 3) rfl rfl ?_
        refine r_iadd (i := 55) rfl ?_
        refine r_load (i := 56) (u := 6) (w := 0) rfl rfl rfl ?_
        refine r_iadd (i := 57) rfl ?_
        refine a_int (i := 58) rfl ly71 rfl (by omega) (by omega) fun h14 => ?_
        have h15 := hI.a ta71 ((fr + 3) + k).toNat
        have h16 : S.a 71 ((fr + 3) + k).toNat = S0.a 71 ((fr + 3) + k).toNat := hF.a rfl _
        refine r_load (i := 59) (u := 1) (w := 2) rfl rfl rfl ?_
        refine r_load (i := 60) (u := 6) (w := 0) rfl rfl rfl ?_
        refine r_call (i := 61) (u := 100) (v := 270) (w := 0) (b := 0) (na := 514) (C2 := xC270) (as := [(6, s), vi k]) (s := [vi (S.a 71 ((fr + 3) + k).toNat)]) rfl rfl rfl rfl rfl (yrcv_str h_s) rfl (sp270 (s := s) (x := k)  h_s ⟨by omega, by omega⟩ (by omega)  (by omega)) (fun r17 S18 hq19 => ?_)
        obtain ⟨z20, rfl, h21, h22, h23, rfl⟩ := hq19
        refine Or.inr (Or.inl ⟨rfl, ?_⟩)
        refine c_ne (i := 62) (v := 65) rfl ⟨by omega, by omega⟩ ⟨by omega, by omega⟩ (fun h24 => ?_) (fun h25 => ?_)
        · refine r_const (i := 65) (u := 0) (z := 0) rfl rfl ?_
          refine r_store (i := 66) (u := 4) (w := 0) (L1 := [some ((2, 43)), some ((6, s)), some (vl e), none, some (vi 0), some (vi fr), some (vi k)]) rfl rfl rfl rfl ?_
          refine r_iinc (i := 67) (u := 1) (v := 6) (s := 1) (L1 := [some ((2, 43)), some ((6, s)), some (vl e), none, some (vi 0), some (vi fr), some (vi (k + 1))]) rfl rfl rfl rfl rfl ?_
          refine r_goto (i := 68) (v := 45) rfl ?_
          exact ih S hI hF hR e 0 fr (k + 1) ⟨by omega, by omega⟩ ⟨by omega, by omega⟩ ⟨by omega, by omega⟩ ⟨by omega, by omega⟩ (by omega) (by omega)
        · refine r_const (i := 63) (u := 1) (z := 1) rfl rfl ?_
          refine r_goto (i := 64) (v := 66) rfl ?_
          refine r_store (i := 66) (u := 4) (w := 0) (L1 := [some ((2, 43)), some ((6, s)), some (vl e), none, some (vi 1), some (vi fr), some (vi k)]) rfl rfl rfl rfl ?_
          refine r_iinc (i := 67) (u := 1) (v := 6) (s := 1) (L1 := [some ((2, 43)), some ((6, s)), some (vl e), none, some (vi 1), some (vi fr), some (vi (k + 1))]) rfl rfl rfl rfl rfl ?_
          refine r_goto (i := 68) (v := 45) rfl ?_
          exact ih S hI hF hR e 1 fr (k + 1) ⟨by omega, by omega⟩ ⟨by omega, by omega⟩ ⟨by omega, by omega⟩ ⟨by omega, by omega⟩ (by omega) (by omega)
/-- ProxyForgeModel.textThatIs -/
theorem sp253 {G : xk} {S : yS} {d : Nat} (hI : yI S) {s : Nat} (h_s : yStr s) (hd : 4 ≤ d) : yT xPr G LY xC253 0 [some ((2, 43)), some ((6, s))] [] S d (fun r S' => r = (0, (0, 0)) ∧ (S.f 43 57 ≠ -1 → S'.f 43 57 ≠ -1) ∧ yI S' ∧ yFr [(43, 56), (43, 57)] [] S S' ∧ yRm [] S S') := by
  refine yT_pad 5 ?_
  show yT xPr G LY xC253 0 [some ((2, 43)), some ((6, s)), none, none, none, none, none] [] S d _
  obtain ⟨d, rfl⟩ : ∃ q, d = q + 1 := ⟨d - 1, by omega⟩
  have hF : yFr [(43, 56), (43, 57)] [] S S := yFr.refl S
  have hR : yRm [] S S := yRm.refl S
  refine r_load (i := 0) (u := 0) (w := 2) rfl rfl rfl ?_
  refine r_const (i := 1) (u := 2) (z := 2) rfl rfl ?_
  have h1 := hI.f tf43_56
  have h2 := hI.f tf43_57
  refine r_call (i := 2) (u := 11) (v := 223) (w := 0) (b := 0) (na := 1282) (C2 := xC223) (as := [(2, 43), vi 2]) (s := []) rfl rfl rfl rfl rfl rfl rfl (sp223 (n0 := 2) hI ⟨by omega, by omega⟩   (by omega)) (fun r3 S4 hq5 => ?_)
  obtain ⟨z6, rfl, h7, h8, h9, h10, h11, h12, h13, h14, hI15, hF16, hR17⟩ := hq5
  have hF18 := hF.trans hF16 rfl rfl
  have hR19 := hR.trans hR17 rfl
  refine Or.inr (Or.inl ⟨rfl, ?_⟩)
  refine r_store (i := 3) (u := 2) (w := 1) (L1 := [some ((2, 43)), some ((6, s)), some (vl z6), none, none, none, none]) rfl rfl rfl rfl ?_
  refine r_load (i := 4) (u := 0) (w := 2) rfl rfl rfl ?_
  refine r_load (i := 5) (u := 2) (w := 1) rfl rfl rfl ?_
  refine r_const (i := 6) (u := 1) (z := 1) rfl rfl ?_
  have h20 := hI15.f tf43_58
  have h21 : S4.f 43 58 = S.f 43 58 := hF16.f rfl
  refine r_call (i := 7) (u := 11) (v := 208) (w := 0) (b := 0) (na := 1027) (C2 := xC208) (as := [(2, 43), vl z6, vi 1]) (s := []) rfl rfl rfl rfl rfl rfl rfl (sp208 (e := z6) (k := 1) hI15 ⟨by omega, by omega⟩ ⟨by omega, by omega⟩   (by omega)) (fun r22 S23 hq24 => ?_)
  obtain ⟨z25, rfl, h26, h27, h28, rfl⟩ := hq24
  refine Or.inr (Or.inl ⟨rfl, ?_⟩)
  refine r_store (i := 8) (u := 4) (w := 0) (L1 := [some ((2, 43)), some ((6, s)), some (vl z6), none, some (vi z25), none, none]) rfl rfl rfl rfl ?_
  refine r_load (i := 9) (u := 4) (w := 0) rfl rfl rfl ?_
  refine z_eq (i := 10) (v := 69) rfl ⟨by omega, by omega⟩ (fun h29 => ?_) (fun h30 => ?_)
  · refine yT_drop (L1 := [some ((2, 43)), some ((6, s)), none, none, some (vi z25), none, none]) rfl ?_
    have h31 := hI15.f tf43_57
    exact lp253_69 h_s  hd S4 hI15 hF18 hR19 z25 ⟨by omega, by omega⟩ (by omega) 
  · refine r_load (i := 11) (u := 0) (w := 2) rfl rfl rfl ?_
    have h32 := hI15.f tf43_57
    refine r_getf (i := 12) (v := 57) (w := 11) (x := vi (S4.f 43 57)) rfl ly43 rfl rfl fun h33 => ?_
    have h33 : Rg (S4.f 43 57) := h33
    refine r_const (i := 13) (u := 4294967295) (z := -1) rfl rfl ?_
    refine c_ne (i := 14) (v := 69) rfl ⟨by omega, by omega⟩ ⟨by omega, by omega⟩ (fun h34 => ?_) (fun h35 => ?_)
    · refine yT_drop (L1 := [some ((2, 43)), some ((6, s)), none, none, some (vi z25), none, none]) rfl ?_
      exact lp253_69 h_s  hd S4 hI15 hF18 hR19 z25 ⟨by omega, by omega⟩ (by omega) 
    · refine r_load (i := 15) (u := 0) (w := 2) rfl rfl rfl ?_
      refine r_getf (i := 16) (v := 59) (w := 11) (x := (2, 80)) rfl ly43 rfl rfl fun _ => ?_
      refine r_load (i := 17) (u := 2) (w := 1) rfl rfl rfl ?_
      refine r_l2i (i := 18) rfl ?_
      rw [vi_sg z6]
      have h37 := ysg_fact z6
      refine a_int (i := 19) rfl ly80 rfl (by omega) (by omega) fun h38 => ?_
      have h39 := hI15.a ta80 (ysg z6).toNat
      have h40 : S4.a 80 (ysg z6).toNat = S.a 80 (ysg z6).toNat := hF16.a rfl _
      refine r_store (i := 20) (u := 5) (w := 0) (L1 := [some ((2, 43)), some ((6, s)), some (vl z6), none, some (vi z25), some (vi (S4.a 80 (ysg z6).toNat)), none]) rfl rfl rfl rfl ?_
      refine r_const (i := 21) (u := 256) (z := 256) rfl rfl ?_
      refine r_load (i := 22) (u := 0) (w := 2) rfl rfl rfl ?_
      refine r_getf (i := 23) (v := 40) (w := 11) (x := (2, 71)) rfl ly43 rfl rfl fun _ => ?_
      refine r_load (i := 24) (u := 5) (w := 0) rfl rfl rfl ?_
      refine r_const (i := 25) (u := 1) (z := 1) rfl rfl ?_
      refine r_iadd (i := 26) rfl ?_
      refine a_int (i := 27) rfl ly71 rfl (by omega) (by omega) fun h42 => ?_
      have h43 := hI15.a ta71 ((S4.a 80 (ysg z6).toNat) + 1).toNat
      have h44 : S4.a 71 ((S4.a 80 (ysg z6).toNat) + 1).toNat = S.a 71 ((S4.a 80 (ysg z6).toNat) + 1).toNat := hF16.a rfl _
      refine r_imul (i := 28) rfl ?_
      refine r_load (i := 29) (u := 0) (w := 2) rfl rfl rfl ?_
      refine r_getf (i := 30) (v := 40) (w := 11) (x := (2, 71)) rfl ly43 rfl rfl fun _ => ?_
      refine r_load (i := 31) (u := 5) (w := 0) rfl rfl rfl ?_
      refine r_const (i := 32) (u := 2) (z := 2) rfl rfl ?_
      refine r_iadd (i := 33) rfl ?_
      refine a_int (i := 34) rfl ly71 rfl (by omega) (by omega) fun h46 => ?_
      have h47 := hI15.a ta71 ((S4.a 80 (ysg z6).toNat) + 2).toNat
      have h48 : S4.a 71 ((S4.a 80 (ysg z6).toNat) + 2).toNat = S.a 71 ((S4.a 80 (ysg z6).toNat) + 2).toNat := hF16.a rfl _
      refine r_iadd (i := 35) rfl ?_
      refine r_load (i := 36) (u := 1) (w := 2) rfl rfl rfl ?_
      refine r_call (i := 37) (u := 100) (v := 274) (w := 0) (b := 0) (na := 257) (C2 := xC274) (as := [(6, s)]) (s := [vi ((256 * (S4.a 71 ((S4.a 80 (ysg z6).toNat) + 1).toNat)) + (S4.a 71 ((S4.a 80 (ysg z6).toNat) + 2).toNat))]) rfl rfl rfl rfl rfl (yrcv_str h_s) rfl (sp274 (s := s)  h_s   (by omega)) (fun r49 S50 hq51 => ?_)
      obtain ⟨z52, rfl, h53, h54, h55, rfl⟩ := hq51
      refine Or.inr (Or.inl ⟨rfl, ?_⟩)
      refine c_ne (i := 38) (v := 41) rfl ⟨by omega, by omega⟩ ⟨by omega, by omega⟩ (fun h56 => ?_) (fun h57 => ?_)
      · refine r_const (i := 41) (u := 0) (z := 0) rfl rfl ?_
        refine r_store (i := 42) (u := 4) (w := 0) (L1 := [some ((2, 43)), some ((6, s)), some (vl z6), none, some (vi 0), some (vi (S4.a 80 (ysg z6).toNat)), none]) rfl rfl rfl rfl ?_
        refine r_const (i := 43) (u := 0) (z := 0) rfl rfl ?_
        refine r_store (i := 44) (u := 6) (w := 0) (L1 := [some ((2, 43)), some ((6, s)), some (vl z6), none, some (vi 0), some (vi (S4.a 80 (ysg z6).toNat)), some (vi 0)]) rfl rfl rfl rfl ?_
        exact lp253_45 h_s  hd _ S4 hI15 hF18 hR19 z6 0 (S4.a 80 (ysg z6).toNat) 0 ⟨by omega, by omega⟩ ⟨by omega, by omega⟩ ⟨by omega, by omega⟩ ⟨by omega, by omega⟩ (by omega) (Int.lt_succ_toNat _)
      · refine r_const (i := 39) (u := 1) (z := 1) rfl rfl ?_
        refine r_goto (i := 40) (v := 42) rfl ?_
        refine r_store (i := 42) (u := 4) (w := 0) (L1 := [some ((2, 43)), some ((6, s)), some (vl z6), none, some (vi 1), some (vi (S4.a 80 (ysg z6).toNat)), none]) rfl rfl rfl rfl ?_
        refine r_const (i := 43) (u := 0) (z := 0) rfl rfl ?_
        refine r_store (i := 44) (u := 6) (w := 0) (L1 := [some ((2, 43)), some ((6, s)), some (vl z6), none, some (vi 1), some (vi (S4.a 80 (ysg z6).toNat)), some (vi 0)]) rfl rfl rfl rfl ?_
        exact lp253_45 h_s  hd _ S4 hI15 hF18 hR19 z6 1 (S4.a 80 (ysg z6).toNat) 0 ⟨by omega, by omega⟩ ⟨by omega, by omega⟩ ⟨by omega, by omega⟩ ⟨by omega, by omega⟩ (by omega) (Int.lt_succ_toNat _)
theorem lp236_87 {G : xk} {d : Nat} {S0 : yS}  (hd : 2 ≤ d + 1) {nn : Int} (h_nn : -1 ≤ nn ∧ nn ≤ 65534) {e : Int} (h_e : 1 ≤ e ∧ e ≤ 65535) {k : Int} (h_k : 0 ≤ k ∧ k ≤ 65534) (no : Nat) (K : ∀ (S : yS) (hI : yI S) (hF : yFr [(43, 56), (43, 57), (43, 58)] [80] S0 S) (hR : yRm [] S0 S) (mn k : Int) (h_mn : 0 ≤ mn ∧ mn ≤ 65535) (h_k : 0 ≤ k ∧ k ≤ 65535) (q_0 : S0.f 43 57 ≠ -1 → S.f 43 57 ≠ -1) (q_1 : S.f 43 57 = -1 → e + 1 ≤ S.f 43 56 ∧ S.f 43 56 ≤ 23500) (q_2 : e ≤ 23500 ∧ e ≤ nn) (hn : 65536 - k < (no : Nat)), yT xPr G LY xC236 66 [some ((2, 43)), some (vi nn), some (vi e), none, some (vi mn), some (vi k), none] [] S (d + 1) (fun r S' => r = (0, (0, 0)) ∧ (S0.f 43 57 ≠ -1 → S'.f 43 57 ≠ -1) ∧ yI S' ∧ yFr [(43, 56), (43, 57), (43, 58)] [80] S0 S' ∧ yRm [] S0 S')) (hm : 65536 - k < ((no + 1 : Nat) : Int)) : ∀ (S : yS) (hI : yI S) (hF : yFr [(43, 56), (43, 57), (43, 58)] [80] S0 S) (hR : yRm [] S0 S) (mn b0 g0 : Int) (h_mn : 0 ≤ mn ∧ mn ≤ 65535) (h_b0 : 0 ≤ b0 ∧ b0 ≤ 255) (h_g0 : 0 ≤ g0 ∧ g0 ≤ 1) (q_0 : S0.f 43 57 ≠ -1 → S.f 43 57 ≠ -1) (q_1 : S.f 43 57 = -1 → e + 1 ≤ S.f 43 56 ∧ S.f 43 56 ≤ 23500) (q_2 : e ≤ 23500 ∧ e ≤ nn ∧ k < mn), yT xPr G LY xC236 87 [some ((2, 43)), some (vi nn), some (vi e), none, some (vi mn), some (vi k), some (vi b0)] [vi g0, (2, 43)] S (d + 1) (fun r S' => r = (0, (0, 0)) ∧ (S0.f 43 57 ≠ -1 → S'.f 43 57 ≠ -1) ∧ yI S' ∧ yFr [(43, 56), (43, 57), (43, 58)] [80] S0 S' ∧ yRm [] S0 S') := by
  intro S hI hF hR mn b0 g0 h_mn h_b0 h_g0 q_0 q_1 q_2
  have h1 := hI.f tf43_57
  have h2 := hI.f tf43_56
  refine r_const (i := 87) (u := 1) (z := 1) rfl rfl ?_
  refine r_call (i := 88) (u := 11) (v := 221) (w := 0) (b := 0) (na := 771) (C2 := xC221) (as := [(2, 43), vi g0, vi 1]) (s := []) rfl rfl rfl rfl rfl rfl rfl (sp221 (g0 := g0) (n0 := 1) hI ⟨by omega, by omega⟩ ⟨by omega, by omega⟩   (by omega)) (fun r3 S4 hq5 => ?_)
  obtain ⟨rfl, h6, hI7, hF8, hR9⟩ := hq5
  have hF10 := hF.trans hF8 rfl rfl
  have hR11 := hR.trans hR9 rfl
  refine Or.inl ⟨rfl, ?_⟩
  refine r_iinc (i := 89) (u := 1) (v := 5) (s := 1) (L1 := [some ((2, 43)), some (vi nn), some (vi e), none, some (vi mn), some (vi (k + 1)), some (vi b0)]) rfl rfl rfl rfl rfl ?_
  refine r_goto (i := 90) (v := 66) rfl ?_
  refine yT_drop (L1 := [some ((2, 43)), some (vi nn), some (vi e), none, some (vi mn), some (vi (k + 1)), none]) rfl ?_
  have h12 := hI7.f tf43_57
  have h13 := hI7.f tf43_56
  have h14 : S4.f 43 56 = S.f 43 56 := hF8.f rfl
  exact K S4 hI7 hF10 hR11 mn (k + 1) ⟨by omega, by omega⟩ ⟨by omega, by omega⟩ (by omega) (by omega) (by omega) (by omega)
theorem lp236_158 {G : xk} {d : Nat} {S0 : yS}  (hd : 2 ≤ d + 1) {nn : Int} (h_nn : -1 ≤ nn ∧ nn ≤ 65534) {bh : Int} (h_bh : 0 ≤ bh ∧ bh ≤ 23600) {e : Int} (h_e : 1 ≤ e ∧ e ≤ 65535) (no : Nat) (K : ∀ (S : yS) (hI : yI S) (hF : yFr [(43, 56), (43, 57), (43, 58)] [80] S0 S) (hR : yRm [] S0 S) (nn bh e : Int) (h_nn : -1 ≤ nn ∧ nn ≤ 65534) (h_bh : 0 ≤ bh ∧ bh ≤ 23600) (h_e : 1 ≤ e ∧ e ≤ 65535) (q_0 : S0.f 43 57 ≠ -1 → S.f 43 57 ≠ -1) (q_1 : S.f 43 57 = -1 → nn ≤ 23600) (hn : 65536 - e < (no : Nat)), yT xPr G LY xC236 110 [some ((2, 43)), some (vi nn), some (vi bh), some (vi e), none, none, none] [] S (d + 1) (fun r S' => r = (0, (0, 0)) ∧ (S0.f 43 57 ≠ -1 → S'.f 43 57 ≠ -1) ∧ yI S' ∧ yFr [(43, 56), (43, 57), (43, 58)] [80] S0 S' ∧ yRm [] S0 S')) (hm : 65536 - e < ((no + 1 : Nat) : Int)) : ∀ (S : yS) (hI : yI S) (hF : yFr [(43, 56), (43, 57), (43, 58)] [80] S0 S) (hR : yRm [] S0 S) (kd k9 : Int) (h_kd : 0 ≤ kd ∧ kd ≤ 255) (h_k9 : 0 ≤ k9 ∧ k9 ≤ 12) (q_0 : S0.f 43 57 ≠ -1 → S.f 43 57 ≠ -1) (q_1 : S.f 43 57 = -1 → nn ≤ 23600) (q_2 : e ≤ nn), yT xPr G LY xC236 158 [some ((2, 43)), some (vi nn), some (vi bh), some (vi e), some (vi kd), none, none] [vi k9, (2, 43)] S (d + 1) (fun r S' => r = (0, (0, 0)) ∧ (S0.f 43 57 ≠ -1 → S'.f 43 57 ≠ -1) ∧ yI S' ∧ yFr [(43, 56), (43, 57), (43, 58)] [80] S0 S' ∧ yRm [] S0 S') := by
  intro S hI hF hR kd k9 h_kd h_k9 q_0 q_1 q_2
  have h1 := hI.f tf43_57
  have h2 := hI.f tf43_56
  refine r_call (i := 158) (u := 11) (v := 200) (w := 0) (b := 0) (na := 1026) (C2 := xC200) (as := [(2, 43), vi k9]) (s := []) rfl rfl rfl rfl rfl rfl rfl (sp200 (k := k9) hI ⟨by omega, by omega⟩   (by omega)) (fun r3 S4 hq5 => ?_)
  obtain ⟨rfl, h6, h7, h8, hI9, hF10, hR11⟩ := hq5
  have hF12 := hF.trans hF10 rfl rfl
  have hR13 := hR.trans hR11 rfl
  refine Or.inl ⟨rfl, ?_⟩
  refine r_iinc (i := 159) (u := 1) (v := 3) (s := 1) (L1 := [some ((2, 43)), some (vi nn), some (vi bh), some (vi (e + 1)), some (vi kd), none, none]) rfl rfl rfl rfl rfl ?_
  refine r_goto (i := 160) (v := 110) rfl ?_
  refine yT_drop (L1 := [some ((2, 43)), some (vi nn), some (vi bh), some (vi (e + 1)), none, none, none]) rfl ?_
  have h14 := hI9.f tf43_57
  exact K S4 hI9 hF12 hR13 nn bh (e + 1) ⟨by omega, by omega⟩ ⟨by omega, by omega⟩ ⟨by omega, by omega⟩ (by omega) (by omega) (by omega)
theorem lp236_147 {G : xk} {d : Nat} {S0 : yS}  (hd : 2 ≤ d + 1) {nn : Int} (h_nn : -1 ≤ nn ∧ nn ≤ 65534) {bh : Int} (h_bh : 0 ≤ bh ∧ bh ≤ 23600) {e : Int} (h_e : 1 ≤ e ∧ e ≤ 65535) (no : Nat) (K : ∀ (S : yS) (hI : yI S) (hF : yFr [(43, 56), (43, 57), (43, 58)] [80] S0 S) (hR : yRm [] S0 S) (nn bh e : Int) (h_nn : -1 ≤ nn ∧ nn ≤ 65534) (h_bh : 0 ≤ bh ∧ bh ≤ 23600) (h_e : 1 ≤ e ∧ e ≤ 65535) (q_0 : S0.f 43 57 ≠ -1 → S.f 43 57 ≠ -1) (q_1 : S.f 43 57 = -1 → nn ≤ 23600) (hn : 65536 - e < (no : Nat)), yT xPr G LY xC236 110 [some ((2, 43)), some (vi nn), some (vi bh), some (vi e), none, none, none] [] S (d + 1) (fun r S' => r = (0, (0, 0)) ∧ (S0.f 43 57 ≠ -1 → S'.f 43 57 ≠ -1) ∧ yI S' ∧ yFr [(43, 56), (43, 57), (43, 58)] [80] S0 S' ∧ yRm [] S0 S')) (hm : 65536 - e < ((no + 1 : Nat) : Int)) : ∀ (S : yS) (hI : yI S) (hF : yFr [(43, 56), (43, 57), (43, 58)] [80] S0 S) (hR : yRm [] S0 S) (kd k9 : Int) (h_kd : 0 ≤ kd ∧ kd ≤ 255) (h_k9 : 0 ≤ k9 ∧ k9 ≤ 12) (q_0 : S0.f 43 57 ≠ -1 → S.f 43 57 ≠ -1) (q_1 : S.f 43 57 = -1 → nn ≤ 23600) (q_2 : e ≤ nn), yT xPr G LY xC236 147 [some ((2, 43)), some (vi nn), some (vi bh), some (vi e), some (vi kd), none, none] [vi k9, (2, 43)] S (d + 1) (fun r S' => r = (0, (0, 0)) ∧ (S0.f 43 57 ≠ -1 → S'.f 43 57 ≠ -1) ∧ yI S' ∧ yFr [(43, 56), (43, 57), (43, 58)] [80] S0 S' ∧ yRm [] S0 S') := by
  intro S hI hF hR kd k9 h_kd h_k9 q_0 q_1 q_2
  have h1 := hI.f tf43_57
  have h2 := hI.f tf43_56
  refine r_call (i := 147) (u := 11) (v := 200) (w := 0) (b := 0) (na := 1026) (C2 := xC200) (as := [(2, 43), vi k9]) (s := []) rfl rfl rfl rfl rfl rfl rfl (sp200 (k := k9) hI ⟨by omega, by omega⟩   (by omega)) (fun r3 S4 hq5 => ?_)
  obtain ⟨rfl, h6, h7, h8, hI9, hF10, hR11⟩ := hq5
  have hF12 := hF.trans hF10 rfl rfl
  have hR13 := hR.trans hR11 rfl
  refine Or.inl ⟨rfl, ?_⟩
  refine r_load (i := 148) (u := 4) (w := 0) rfl rfl rfl ?_
  refine r_const (i := 149) (u := 7) (z := 7) rfl rfl ?_
  refine c_eq (i := 150) (v := 159) rfl ⟨by omega, by omega⟩ ⟨by omega, by omega⟩ (fun h14 => ?_) (fun h15 => ?_)
  · refine r_iinc (i := 159) (u := 1) (v := 3) (s := 1) (L1 := [some ((2, 43)), some (vi nn), some (vi bh), some (vi (e + 1)), some (vi kd), none, none]) rfl rfl rfl rfl rfl ?_
    refine r_goto (i := 160) (v := 110) rfl ?_
    refine yT_drop (L1 := [some ((2, 43)), some (vi nn), some (vi bh), some (vi (e + 1)), none, none, none]) rfl ?_
    have h16 := hI9.f tf43_57
    exact K S4 hI9 hF12 hR13 nn bh (e + 1) ⟨by omega, by omega⟩ ⟨by omega, by omega⟩ ⟨by omega, by omega⟩ (by omega) (by omega) (by omega)
  · refine r_load (i := 151) (u := 0) (w := 2) rfl rfl rfl ?_
    refine r_load (i := 152) (u := 4) (w := 0) rfl rfl rfl ?_
    refine r_const (i := 153) (u := 12) (z := 12) rfl rfl ?_
    refine c_ne (i := 154) (v := 157) rfl ⟨by omega, by omega⟩ ⟨by omega, by omega⟩ (fun h17 => ?_) (fun h18 => ?_)
    · refine r_const (i := 157) (u := 12) (z := 12) rfl rfl ?_
      have h19 := hI9.f tf43_57
      exact lp236_158   hd (nn := nn) (bh := bh) (e := e) ⟨by omega, by omega⟩ ⟨by omega, by omega⟩ ⟨by omega, by omega⟩ no K (by omega) S4 hI9 hF12 hR13 kd 12 ⟨by omega, by omega⟩ ⟨by omega, by omega⟩ (by omega) (by omega) (by omega) 
    · refine r_const (i := 155) (u := 1) (z := 1) rfl rfl ?_
      refine r_goto (i := 156) (v := 158) rfl ?_
      have h20 := hI9.f tf43_57
      exact lp236_158   hd (nn := nn) (bh := bh) (e := e) ⟨by omega, by omega⟩ ⟨by omega, by omega⟩ ⟨by omega, by omega⟩ no K (by omega) S4 hI9 hF12 hR13 kd 1 ⟨by omega, by omega⟩ ⟨by omega, by omega⟩ (by omega) (by omega) (by omega) 
theorem lp236_100 {G : xk} {d : Nat} {S0 : yS}  (hd : 2 ≤ d + 1) {nn : Int} (h_nn : -1 ≤ nn ∧ nn ≤ 65534) {e : Int} (h_e : 1 ≤ e ∧ e ≤ 65535) (no : Nat) (K : ∀ (S : yS) (hI : yI S) (hF : yFr [(43, 56), (43, 57), (43, 58)] [80] S0 S) (hR : yRm [] S0 S) (nn e : Int) (h_nn : -1 ≤ nn ∧ nn ≤ 65534) (h_e : 1 ≤ e ∧ e ≤ 65535) (q_0 : S0.f 43 57 ≠ -1 → S.f 43 57 ≠ -1) (q_1 : S.f 43 57 = -1 → e ≤ S.f 43 56 ∧ S.f 43 56 ≤ 23500) (hn : 65536 - e < (no : Nat)), yT xPr G LY xC236 20 [some ((2, 43)), some (vi nn), some (vi e), none, none, none, none] [] S (d + 1) (fun r S' => r = (0, (0, 0)) ∧ (S0.f 43 57 ≠ -1 → S'.f 43 57 ≠ -1) ∧ yI S' ∧ yFr [(43, 56), (43, 57), (43, 58)] [80] S0 S' ∧ yRm [] S0 S')) (hm : 65536 - e < ((no + 1 : Nat) : Int)) : ∀ (S : yS) (hI : yI S) (hF : yFr [(43, 56), (43, 57), (43, 58)] [80] S0 S) (hR : yRm [] S0 S)  (q_0 : S0.f 43 57 ≠ -1 → S.f 43 57 ≠ -1) (q_1 : S.f 43 57 = -1 → e + 1 ≤ S.f 43 56 ∧ S.f 43 56 ≤ 23500) (q_2 : e ≤ 23500 ∧ e ≤ nn), yT xPr G LY xC236 100 [some ((2, 43)), some (vi nn), some (vi e), none, none, none, none] [] S (d + 1) (fun r S' => r = (0, (0, 0)) ∧ (S0.f 43 57 ≠ -1 → S'.f 43 57 ≠ -1) ∧ yI S' ∧ yFr [(43, 56), (43, 57), (43, 58)] [80] S0 S' ∧ yRm [] S0 S') := by
  intro S hI hF hR   q_0 q_1 q_2
  have h1 := hI.f tf43_57
  have h2 := hI.f tf43_56
  refine r_load (i := 100) (u := 0) (w := 2) rfl rfl rfl ?_
  refine r_load (i := 101) (u := 2) (w := 0) rfl rfl rfl ?_
  refine r_putI (i := 102) (v := 58) (w := 11) rfl ly43 rfl ⟨by omega, by omega⟩ ?_
  have hI4 := hI.setf (b := 43) (w := 58) (z := e) tf43_58 rfl (by omega) (by omega)
  have hF6 := hF.setf (b := 43) (w := 58) (z := e) rfl
  have hR7 := hR.setf (b := 43) (w := 58) (z := e)
  refine yT_gen (fun S3 hS5 => ?_)
  rw [hS5] at hI4 hF6 hR7 
  refine r_iinc (i := 103) (u := 1) (v := 2) (s := 1) (L1 := [some ((2, 43)), some (vi nn), some (vi (e + 1)), none, none, none, none]) rfl rfl rfl rfl rfl ?_
  refine r_goto (i := 104) (v := 20) rfl ?_
  have h8 := hI4.f tf43_57
  have h9 : S3.f 43 57 = S.f 43 57 := by rw [← hS5]; exact ysf_ne (by decide)
  have h10 := hI4.f tf43_56
  have h11 : S3.f 43 56 = S.f 43 56 := by rw [← hS5]; exact ysf_ne (by decide)
  exact K S3 hI4 hF6 hR7 nn (e + 1) ⟨by omega, by omega⟩ ⟨by omega, by omega⟩ (by omega) (by omega) (by omega)
theorem lp236_66 {G : xk} {d : Nat} {S0 : yS}  (hd : 2 ≤ d + 1) {nn : Int} (h_nn : -1 ≤ nn ∧ nn ≤ 65534) {e : Int} (h_e : 1 ≤ e ∧ e ≤ 65535) (no : Nat) (K : ∀ (S : yS) (hI : yI S) (hF : yFr [(43, 56), (43, 57), (43, 58)] [80] S0 S) (hR : yRm [] S0 S) (nn e : Int) (h_nn : -1 ≤ nn ∧ nn ≤ 65534) (h_e : 1 ≤ e ∧ e ≤ 65535) (q_0 : S0.f 43 57 ≠ -1 → S.f 43 57 ≠ -1) (q_1 : S.f 43 57 = -1 → e ≤ S.f 43 56 ∧ S.f 43 56 ≤ 23500) (hn : 65536 - e < (no : Nat)), yT xPr G LY xC236 20 [some ((2, 43)), some (vi nn), some (vi e), none, none, none, none] [] S (d + 1) (fun r S' => r = (0, (0, 0)) ∧ (S0.f 43 57 ≠ -1 → S'.f 43 57 ≠ -1) ∧ yI S' ∧ yFr [(43, 56), (43, 57), (43, 58)] [80] S0 S' ∧ yRm [] S0 S')) (hm : 65536 - e < ((no + 1 : Nat) : Int)) : ∀ (n : Nat), ∀ (S : yS) (hI : yI S) (hF : yFr [(43, 56), (43, 57), (43, 58)] [80] S0 S) (hR : yRm [] S0 S) (mn k : Int) (h_mn : 0 ≤ mn ∧ mn ≤ 65535) (h_k : 0 ≤ k ∧ k ≤ 65535) (q_0 : S0.f 43 57 ≠ -1 → S.f 43 57 ≠ -1) (q_1 : S.f 43 57 = -1 → e + 1 ≤ S.f 43 56 ∧ S.f 43 56 ≤ 23500) (q_2 : e ≤ 23500 ∧ e ≤ nn) (hn : 65536 - k < (n : Nat)), yT xPr G LY xC236 66 [some ((2, 43)), some (vi nn), some (vi e), none, some (vi mn), some (vi k), none] [] S (d + 1) (fun r S' => r = (0, (0, 0)) ∧ (S0.f 43 57 ≠ -1 → S'.f 43 57 ≠ -1) ∧ yI S' ∧ yFr [(43, 56), (43, 57), (43, 58)] [80] S0 S' ∧ yRm [] S0 S') := by
  intro n
  induction n with
  | zero => intro S hI hF hR mn k h_mn h_k q_0 q_1 q_2 hn; exact absurd hn (by omega)
  | succ n ih =>
    intro S hI hF hR mn k h_mn h_k q_0 q_1 q_2 hn
    have h1 := hI.f tf43_57
    have h2 := hI.f tf43_56
    refine r_load (i := 66) (u := 5) (w := 0) rfl rfl rfl ?_
    refine r_load (i := 67) (u := 4) (w := 0) rfl rfl rfl ?_
    refine c_ge (i := 68) (v := 91) rfl ⟨by omega, by omega⟩ ⟨by omega, by omega⟩ (fun h3 => ?_) (fun h4 => ?_)
    · refine r_goto (i := 91) (v := 100) rfl ?_
      refine yT_drop (L1 := [some ((2, 43)), some (vi nn), some (vi e), none, none, none, none]) rfl ?_
      exact lp236_100   hd (nn := nn) (e := e) ⟨by omega, by omega⟩ ⟨by omega, by omega⟩ no K (by omega) S hI hF hR   (by omega) (by omega) (by omega) 
    · refine r_load (i := 69) (u := 0) (w := 2) rfl rfl rfl ?_
      refine r_getf (i := 70) (v := 57) (w := 11) (x := vi (S.f 43 57)) rfl ly43 rfl rfl fun h5 => ?_
      have h5 : Rg (S.f 43 57) := h5
      refine r_const (i := 71) (u := 4294967295) (z := -1) rfl rfl ?_
      refine c_ne (i := 72) (v := 91) rfl ⟨by omega, by omega⟩ ⟨by omega, by omega⟩ (fun h6 => ?_) (fun h7 => ?_)
      · refine r_goto (i := 91) (v := 100) rfl ?_
        refine yT_drop (L1 := [some ((2, 43)), some (vi nn), some (vi e), none, none, none, none]) rfl ?_
        exact lp236_100   hd (nn := nn) (e := e) ⟨by omega, by omega⟩ ⟨by omega, by omega⟩ no K (by omega) S hI hF hR   (by omega) (by omega) (by omega) 
      · refine r_load (i := 73) (u := 0) (w := 2) rfl rfl rfl ?_
        refine r_const (i := 74) (u := 1) (z := 1) rfl rfl ?_
        refine r_call (i := 75) (u := 11) (v := 223) (w := 0) (b := 0) (na := 1282) (C2 := xC223) (as := [(2, 43), vi 1]) (s := []) rfl rfl rfl rfl rfl rfl rfl (sp223 (n0 := 1) hI ⟨by omega, by omega⟩   (by omega)) (fun r8 S9 hq10 => ?_)
        obtain ⟨z11, rfl, h12, h13, h14, h15, h16, h17, h18, h19, hI20, hF21, hR22⟩ := hq10
        have hF23 := hF.trans hF21 rfl rfl
        have hR24 := hR.trans hR22 rfl
        refine Or.inr (Or.inl ⟨rfl, ?_⟩)
        refine r_l2i (i := 76) rfl ?_
        rw [vi_sg z11]
        have h25 := ysg_fact z11
        refine r_store (i := 77) (u := 6) (w := 0) (L1 := [some ((2, 43)), some (vi nn), some (vi e), none, some (vi mn), some (vi k), some (vi (ysg z11))]) rfl rfl rfl rfl ?_
        refine r_load (i := 78) (u := 0) (w := 2) rfl rfl rfl ?_
        refine r_load (i := 79) (u := 6) (w := 0) rfl rfl rfl ?_
        refine z_le (i := 80) (v := 86) rfl ⟨by omega, by omega⟩ (fun h26 => ?_) (fun h27 => ?_)
        · refine r_const (i := 86) (u := 0) (z := 0) rfl rfl ?_
          have h28 := hI20.f tf43_57
          have h29 := hI20.f tf43_56
          exact lp236_87   hd (nn := nn) (e := e) (k := k) ⟨by omega, by omega⟩ ⟨by omega, by omega⟩ ⟨by omega, by omega⟩ n ih (by omega) S9 hI20 hF23 hR24 mn (ysg z11) 0 ⟨by omega, by omega⟩ ⟨by omega, by omega⟩ ⟨by omega, by omega⟩ (by omega) (by omega) (by omega) 
        · refine r_load (i := 81) (u := 6) (w := 0) rfl rfl rfl ?_
          refine r_const (i := 82) (u := 128) (z := 128) rfl rfl ?_
          refine c_ge (i := 83) (v := 86) rfl ⟨by omega, by omega⟩ ⟨by omega, by omega⟩ (fun h30 => ?_) (fun h31 => ?_)
          · refine r_const (i := 86) (u := 0) (z := 0) rfl rfl ?_
            have h32 := hI20.f tf43_57
            have h33 := hI20.f tf43_56
            exact lp236_87   hd (nn := nn) (e := e) (k := k) ⟨by omega, by omega⟩ ⟨by omega, by omega⟩ ⟨by omega, by omega⟩ n ih (by omega) S9 hI20 hF23 hR24 mn (ysg z11) 0 ⟨by omega, by omega⟩ ⟨by omega, by omega⟩ ⟨by omega, by omega⟩ (by omega) (by omega) (by omega) 
          · refine r_const (i := 84) (u := 1) (z := 1) rfl rfl ?_
            refine r_goto (i := 85) (v := 87) rfl ?_
            have h34 := hI20.f tf43_57
            have h35 := hI20.f tf43_56
            exact lp236_87   hd (nn := nn) (e := e) (k := k) ⟨by omega, by omega⟩ ⟨by omega, by omega⟩ ⟨by omega, by omega⟩ n ih (by omega) S9 hI20 hF23 hR24 mn (ysg z11) 1 ⟨by omega, by omega⟩ ⟨by omega, by omega⟩ ⟨by omega, by omega⟩ (by omega) (by omega) (by omega) 
theorem lp236_54 {G : xk} {d : Nat} {S0 : yS}  (hd : 2 ≤ d + 1) {nn : Int} (h_nn : -1 ≤ nn ∧ nn ≤ 65534) {e : Int} (h_e : 1 ≤ e ∧ e ≤ 65535) (no : Nat) (K : ∀ (S : yS) (hI : yI S) (hF : yFr [(43, 56), (43, 57), (43, 58)] [80] S0 S) (hR : yRm [] S0 S) (nn e : Int) (h_nn : -1 ≤ nn ∧ nn ≤ 65534) (h_e : 1 ≤ e ∧ e ≤ 65535) (q_0 : S0.f 43 57 ≠ -1 → S.f 43 57 ≠ -1) (q_1 : S.f 43 57 = -1 → e ≤ S.f 43 56 ∧ S.f 43 56 ≤ 23500) (hn : 65536 - e < (no : Nat)), yT xPr G LY xC236 20 [some ((2, 43)), some (vi nn), some (vi e), none, none, none, none] [] S (d + 1) (fun r S' => r = (0, (0, 0)) ∧ (S0.f 43 57 ≠ -1 → S'.f 43 57 ≠ -1) ∧ yI S' ∧ yFr [(43, 56), (43, 57), (43, 58)] [80] S0 S' ∧ yRm [] S0 S')) (hm : 65536 - e < ((no + 1 : Nat) : Int)) : ∀ (S : yS) (hI : yI S) (hF : yFr [(43, 56), (43, 57), (43, 58)] [80] S0 S) (hR : yRm [] S0 S) (kd g0 : Int) (h_kd : 0 ≤ kd ∧ kd ≤ 255) (h_g0 : 0 ≤ g0 ∧ g0 ≤ 1) (q_0 : S0.f 43 57 ≠ -1 → S.f 43 57 ≠ -1) (q_1 : S.f 43 57 = -1 → e + 1 ≤ S.f 43 56 ∧ S.f 43 56 ≤ 23500) (q_2 : e ≤ 23500 ∧ e ≤ nn), yT xPr G LY xC236 54 [some ((2, 43)), some (vi nn), some (vi e), some (vi kd), none, none, none] [vi g0, (2, 43)] S (d + 1) (fun r S' => r = (0, (0, 0)) ∧ (S0.f 43 57 ≠ -1 → S'.f 43 57 ≠ -1) ∧ yI S' ∧ yFr [(43, 56), (43, 57), (43, 58)] [80] S0 S' ∧ yRm [] S0 S') := by
  intro S hI hF hR kd g0 h_kd h_g0 q_0 q_1 q_2
  have h1 := hI.f tf43_57
  have h2 := hI.f tf43_56
  refine r_const (i := 54) (u := 1) (z := 1) rfl rfl ?_
  refine r_call (i := 55) (u := 11) (v := 221) (w := 0) (b := 0) (na := 771) (C2 := xC221) (as := [(2, 43), vi g0, vi 1]) (s := []) rfl rfl rfl rfl rfl rfl rfl (sp221 (g0 := g0) (n0 := 1) hI ⟨by omega, by omega⟩ ⟨by omega, by omega⟩   (by omega)) (fun r3 S4 hq5 => ?_)
  obtain ⟨rfl, h6, hI7, hF8, hR9⟩ := hq5
  have hF10 := hF.trans hF8 rfl rfl
  have hR11 := hR.trans hR9 rfl
  refine Or.inl ⟨rfl, ?_⟩
  refine r_load (i := 56) (u := 3) (w := 0) rfl rfl rfl ?_
  refine r_const (i := 57) (u := 1) (z := 1) rfl rfl ?_
  refine c_ne (i := 58) (v := 92) rfl ⟨by omega, by omega⟩ ⟨by omega, by omega⟩ (fun h12 => ?_) (fun h13 => ?_)
  · refine r_load (i := 92) (u := 0) (w := 2) rfl rfl rfl ?_
    refine r_load (i := 93) (u := 3) (w := 0) rfl rfl rfl ?_
    refine r_const (i := 94) (u := 7) (z := 7) rfl rfl ?_
    refine c_ne (i := 95) (v := 98) rfl ⟨by omega, by omega⟩ ⟨by omega, by omega⟩ (fun h14 => ?_) (fun h15 => ?_)
    · refine r_lconst (i := 98) (u := 4) (z := 4) rfl rfl ?_
      have h16 := hI7.f tf43_57
      have h17 := hI7.f tf43_56
      have h18 : S4.f 43 56 = S.f 43 56 := hF8.f rfl
      refine r_call (i := 99) (u := 11) (v := 230) (w := 0) (b := 0) (na := 770) (C2 := xC230) (as := [(2, 43), vl 4]) (s := []) rfl rfl rfl rfl rfl rfl rfl (sp230 (v := 4) hI7 ⟨by omega, by omega⟩ (by omega)  (by omega)) (fun r19 S20 hq21 => ?_)
      obtain ⟨rfl, h22, h23, h24, hI25, hF26, hR27⟩ := hq21
      have hF28 := hF10.trans hF26 rfl rfl
      have hR29 := hR11.trans hR27 rfl
      refine Or.inl ⟨rfl, ?_⟩
      refine yT_drop (L1 := [some ((2, 43)), some (vi nn), some (vi e), none, none, none, none]) rfl ?_
      have h30 := hI25.f tf43_57
      have h31 := hI25.f tf43_56
      exact lp236_100   hd (nn := nn) (e := e) ⟨by omega, by omega⟩ ⟨by omega, by omega⟩ no K (by omega) S20 hI25 hF28 hR29   (by omega) (by omega) (by omega) 
    · refine r_lconst (i := 96) (u := 2) (z := 2) rfl rfl ?_
      refine r_goto (i := 97) (v := 99) rfl ?_
      have h32 := hI7.f tf43_57
      have h33 := hI7.f tf43_56
      have h34 : S4.f 43 56 = S.f 43 56 := hF8.f rfl
      refine r_call (i := 99) (u := 11) (v := 230) (w := 0) (b := 0) (na := 770) (C2 := xC230) (as := [(2, 43), vl 2]) (s := []) rfl rfl rfl rfl rfl rfl rfl (sp230 (v := 2) hI7 ⟨by omega, by omega⟩ (by omega)  (by omega)) (fun r35 S36 hq37 => ?_)
      obtain ⟨rfl, h38, h39, h40, hI41, hF42, hR43⟩ := hq37
      have hF44 := hF10.trans hF42 rfl rfl
      have hR45 := hR11.trans hR43 rfl
      refine Or.inl ⟨rfl, ?_⟩
      refine yT_drop (L1 := [some ((2, 43)), some (vi nn), some (vi e), none, none, none, none]) rfl ?_
      have h46 := hI41.f tf43_57
      have h47 := hI41.f tf43_56
      exact lp236_100   hd (nn := nn) (e := e) ⟨by omega, by omega⟩ ⟨by omega, by omega⟩ no K (by omega) S36 hI41 hF44 hR45   (by omega) (by omega) (by omega) 
  · refine r_load (i := 59) (u := 0) (w := 2) rfl rfl rfl ?_
    refine r_const (i := 60) (u := 2) (z := 2) rfl rfl ?_
    have h48 := hI7.f tf43_56
    have h49 : S4.f 43 56 = S.f 43 56 := hF8.f rfl
    have h50 := hI7.f tf43_57
    refine r_call (i := 61) (u := 11) (v := 223) (w := 0) (b := 0) (na := 1282) (C2 := xC223) (as := [(2, 43), vi 2]) (s := []) rfl rfl rfl rfl rfl rfl rfl (sp223 (n0 := 2) hI7 ⟨by omega, by omega⟩   (by omega)) (fun r51 S52 hq53 => ?_)
    obtain ⟨z54, rfl, h55, h56, h57, h58, h59, h60, h61, h62, hI63, hF64, hR65⟩ := hq53
    have hF66 := hF10.trans hF64 rfl rfl
    have hR67 := hR11.trans hR65 rfl
    refine Or.inr (Or.inl ⟨rfl, ?_⟩)
    refine r_l2i (i := 62) rfl ?_
    rw [vi_sg z54]
    have h68 := ysg_fact z54
    refine r_store (i := 63) (u := 4) (w := 0) (L1 := [some ((2, 43)), some (vi nn), some (vi e), some (vi kd), some (vi (ysg z54)), none, none]) rfl rfl rfl rfl ?_
    refine r_const (i := 64) (u := 0) (z := 0) rfl rfl ?_
    refine r_store (i := 65) (u := 5) (w := 0) (L1 := [some ((2, 43)), some (vi nn), some (vi e), some (vi kd), some (vi (ysg z54)), some (vi 0), none]) rfl rfl rfl rfl ?_
    refine yT_drop (L1 := [some ((2, 43)), some (vi nn), some (vi e), none, some (vi (ysg z54)), some (vi 0), none]) rfl ?_
    have h69 := hI63.f tf43_57
    have h70 := hI63.f tf43_56
    exact lp236_66   hd (nn := nn) (e := e) ⟨by omega, by omega⟩ ⟨by omega, by omega⟩ no K (by omega) _ S52 hI63 hF66 hR67 (ysg z54) 0 ⟨by omega, by omega⟩ ⟨by omega, by omega⟩ (by omega) (by omega) (by omega) (Int.lt_succ_toNat _)
theorem lp236_110 {G : xk} {d : Nat} {S0 : yS}  (hd : 2 ≤ d + 1) : ∀ (n : Nat), ∀ (S : yS) (hI : yI S) (hF : yFr [(43, 56), (43, 57), (43, 58)] [80] S0 S) (hR : yRm [] S0 S) (nn bh e : Int) (h_nn : -1 ≤ nn ∧ nn ≤ 65534) (h_bh : 0 ≤ bh ∧ bh ≤ 23600) (h_e : 1 ≤ e ∧ e ≤ 65535) (q_0 : S0.f 43 57 ≠ -1 → S.f 43 57 ≠ -1) (q_1 : S.f 43 57 = -1 → nn ≤ 23600) (hn : 65536 - e < (n : Nat)), yT xPr G LY xC236 110 [some ((2, 43)), some (vi nn), some (vi bh), some (vi e), none, none, none] [] S (d + 1) (fun r S' => r = (0, (0, 0)) ∧ (S0.f 43 57 ≠ -1 → S'.f 43 57 ≠ -1) ∧ yI S' ∧ yFr [(43, 56), (43, 57), (43, 58)] [80] S0 S' ∧ yRm [] S0 S') := by
  intro n
  induction n with
  | zero => intro S hI hF hR nn bh e h_nn h_bh h_e q_0 q_1 hn; exact absurd hn (by omega)
  | succ n ih =>
    intro S hI hF hR nn bh e h_nn h_bh h_e q_0 q_1 hn
    have h1 := hI.f tf43_57
    refine r_load (i := 110) (u := 3) (w := 0) rfl rfl rfl ?_
    refine r_load (i := 111) (u := 1) (w := 0) rfl rfl rfl ?_
    refine c_gt (i := 112) (v := 161) rfl ⟨by omega, by omega⟩ ⟨by omega, by omega⟩ (fun h2 => ?_) (fun h3 => ?_)
    · refine r_load (i := 161) (u := 0) (w := 2) rfl rfl rfl ?_
      refine r_load (i := 162) (u := 2) (w := 0) rfl rfl rfl ?_
      refine r_putI (i := 163) (v := 56) (w := 11) rfl ly43 rfl ⟨by omega, by omega⟩ ?_
      have hI5 := hI.setf (b := 43) (w := 56) (z := bh) tf43_56 rfl (by omega) (by omega)
      have hF7 := hF.setf (b := 43) (w := 56) (z := bh) rfl
      have hR8 := hR.setf (b := 43) (w := 56) (z := bh)
      refine yT_gen (fun S4 hS6 => ?_)
      rw [hS6] at hI5 hF7 hR8 
      have h9 := hI5.f tf43_57
      have h10 : S4.f 43 57 = S.f 43 57 := by rw [← hS6]; exact ysf_ne (by decide)
      exact r_ret0 (i := 164) rfl ⟨rfl, (by omega), hI5, hF7, hR8⟩
    · refine r_load (i := 113) (u := 0) (w := 2) rfl rfl rfl ?_
      refine r_getf (i := 114) (v := 57) (w := 11) (x := vi (S.f 43 57)) rfl ly43 rfl rfl fun h11 => ?_
      have h11 : Rg (S.f 43 57) := h11
      refine r_const (i := 115) (u := 4294967295) (z := -1) rfl rfl ?_
      refine c_ne (i := 116) (v := 161) rfl ⟨by omega, by omega⟩ ⟨by omega, by omega⟩ (fun h12 => ?_) (fun h13 => ?_)
      · refine r_load (i := 161) (u := 0) (w := 2) rfl rfl rfl ?_
        refine r_load (i := 162) (u := 2) (w := 0) rfl rfl rfl ?_
        refine r_putI (i := 163) (v := 56) (w := 11) rfl ly43 rfl ⟨by omega, by omega⟩ ?_
        have hI15 := hI.setf (b := 43) (w := 56) (z := bh) tf43_56 rfl (by omega) (by omega)
        have hF17 := hF.setf (b := 43) (w := 56) (z := bh) rfl
        have hR18 := hR.setf (b := 43) (w := 56) (z := bh)
        refine yT_gen (fun S14 hS16 => ?_)
        rw [hS16] at hI15 hF17 hR18 
        have h19 := hI15.f tf43_57
        have h20 : S14.f 43 57 = S.f 43 57 := by rw [← hS16]; exact ysf_ne (by decide)
        exact r_ret0 (i := 164) rfl ⟨rfl, (by omega), hI15, hF17, hR18⟩
      · refine r_load (i := 117) (u := 0) (w := 2) rfl rfl rfl ?_
        refine r_load (i := 118) (u := 0) (w := 2) rfl rfl rfl ?_
        refine r_getf (i := 119) (v := 59) (w := 11) (x := (2, 80)) rfl ly43 rfl rfl fun _ => ?_
        refine r_load (i := 120) (u := 3) (w := 0) rfl rfl rfl ?_
        refine a_int (i := 121) rfl ly80 rfl (by omega) (by omega) fun h22 => ?_
        have h23 := hI.a ta80 e.toNat
        refine r_const (i := 122) (u := 1) (z := 1) rfl rfl ?_
        refine r_iadd (i := 123) rfl ?_
        refine r_putI (i := 124) (v := 56) (w := 11) rfl ly43 rfl ⟨by omega, by omega⟩ ?_
        have hI25 := hI.setf (b := 43) (w := 56) (z := (S.a 80 e.toNat) + 1) tf43_56 rfl (by omega) (by omega)
        have hF27 := hF.setf (b := 43) (w := 56) (z := (S.a 80 e.toNat) + 1) rfl
        have hR28 := hR.setf (b := 43) (w := 56) (z := (S.a 80 e.toNat) + 1)
        refine yT_gen (fun S24 hS26 => ?_)
        rw [hS26] at hI25 hF27 hR28 
        refine r_load (i := 125) (u := 0) (w := 2) rfl rfl rfl ?_
        refine r_getf (i := 126) (v := 40) (w := 11) (x := (2, 71)) rfl ly43 rfl rfl fun _ => ?_
        refine r_load (i := 127) (u := 0) (w := 2) rfl rfl rfl ?_
        refine r_getf (i := 128) (v := 59) (w := 11) (x := (2, 80)) rfl ly43 rfl rfl fun _ => ?_
        refine r_load (i := 129) (u := 3) (w := 0) rfl rfl rfl ?_
        refine a_int (i := 130) rfl ly80 rfl (by omega) (by omega) fun h31 => ?_
        have h32 := hI25.a ta80 e.toNat
        have h33 : S24.a 80 e.toNat = S.a 80 e.toNat := by rw [← hS26]; rfl
        refine a_int (i := 131) rfl ly71 rfl (by omega) (by omega) fun h34 => ?_
        have h35 := hI25.a ta71 (S24.a 80 e.toNat).toNat
        have h36 : S24.a 71 (S24.a 80 e.toNat).toNat = S.a 71 (S24.a 80 e.toNat).toNat := by rw [← hS26]; rfl
        have h37 : S.a 71 (S24.a 80 e.toNat).toNat = S0.a 71 (S24.a 80 e.toNat).toNat := hF.a rfl _
        refine r_store (i := 132) (u := 4) (w := 0) (L1 := [some ((2, 43)), some (vi nn), some (vi bh), some (vi e), some (vi (S24.a 71 (S24.a 80 e.toNat).toNat)), none, none]) rfl rfl rfl rfl ?_
        refine r_load (i := 133) (u := 4) (w := 0) rfl rfl rfl ?_
        refine r_const (i := 134) (u := 1) (z := 1) rfl rfl ?_
        refine c_ne (i := 135) (v := 137) rfl ⟨by omega, by omega⟩ ⟨by omega, by omega⟩ (fun h38 => ?_) (fun h39 => ?_)
        · refine r_load (i := 137) (u := 0) (w := 2) rfl rfl rfl ?_
          refine r_load (i := 138) (u := 4) (w := 0) rfl rfl rfl ?_
          refine r_const (i := 139) (u := 7) (z := 7) rfl rfl ?_
          refine c_eq (i := 140) (v := 144) rfl ⟨by omega, by omega⟩ ⟨by omega, by omega⟩ (fun h40 => ?_) (fun h41 => ?_)
          · refine r_const (i := 144) (u := 1) (z := 1) rfl rfl ?_
            refine r_goto (i := 145) (v := 147) rfl ?_
            have h42 := hI25.f tf43_57
            have h43 : S24.f 43 57 = S.f 43 57 := by rw [← hS26]; exact ysf_ne (by decide)
            exact lp236_147   hd (nn := nn) (bh := bh) (e := e) ⟨by omega, by omega⟩ ⟨by omega, by omega⟩ ⟨by omega, by omega⟩ n ih (by omega) S24 hI25 hF27 hR28 (S24.a 71 (S24.a 80 e.toNat).toNat) 1 ⟨by omega, by omega⟩ ⟨by omega, by omega⟩ (by omega) (by omega) (by omega) 
          · refine r_load (i := 141) (u := 4) (w := 0) rfl rfl rfl ?_
            refine r_const (i := 142) (u := 12) (z := 12) rfl rfl ?_
            refine c_ne (i := 143) (v := 146) rfl ⟨by omega, by omega⟩ ⟨by omega, by omega⟩ (fun h44 => ?_) (fun h45 => ?_)
            · refine r_const (i := 146) (u := 7) (z := 7) rfl rfl ?_
              have h46 := hI25.f tf43_57
              have h47 : S24.f 43 57 = S.f 43 57 := by rw [← hS26]; exact ysf_ne (by decide)
              exact lp236_147   hd (nn := nn) (bh := bh) (e := e) ⟨by omega, by omega⟩ ⟨by omega, by omega⟩ ⟨by omega, by omega⟩ n ih (by omega) S24 hI25 hF27 hR28 (S24.a 71 (S24.a 80 e.toNat).toNat) 7 ⟨by omega, by omega⟩ ⟨by omega, by omega⟩ (by omega) (by omega) (by omega) 
            · refine r_const (i := 144) (u := 1) (z := 1) rfl rfl ?_
              refine r_goto (i := 145) (v := 147) rfl ?_
              have h48 := hI25.f tf43_57
              have h49 : S24.f 43 57 = S.f 43 57 := by rw [← hS26]; exact ysf_ne (by decide)
              exact lp236_147   hd (nn := nn) (bh := bh) (e := e) ⟨by omega, by omega⟩ ⟨by omega, by omega⟩ ⟨by omega, by omega⟩ n ih (by omega) S24 hI25 hF27 hR28 (S24.a 71 (S24.a 80 e.toNat).toNat) 1 ⟨by omega, by omega⟩ ⟨by omega, by omega⟩ (by omega) (by omega) (by omega) 
        · refine r_goto (i := 136) (v := 159) rfl ?_
          refine r_iinc (i := 159) (u := 1) (v := 3) (s := 1) (L1 := [some ((2, 43)), some (vi nn), some (vi bh), some (vi (e + 1)), some (vi (S24.a 71 (S24.a 80 e.toNat).toNat)), none, none]) rfl rfl rfl rfl rfl ?_
          refine r_goto (i := 160) (v := 110) rfl ?_
          refine yT_drop (L1 := [some ((2, 43)), some (vi nn), some (vi bh), some (vi (e + 1)), none, none, none]) rfl ?_
          have h50 := hI25.f tf43_57
          have h51 : S24.f 43 57 = S.f 43 57 := by rw [← hS26]; exact ysf_ne (by decide)
          exact ih S24 hI25 hF27 hR28 nn bh (e + 1) ⟨by omega, by omega⟩ ⟨by omega, by omega⟩ ⟨by omega, by omega⟩ (by omega) (by omega) (by omega)
theorem lp236_20 {G : xk} {d : Nat} {S0 : yS}  (hd : 2 ≤ d + 1) : ∀ (n : Nat), ∀ (S : yS) (hI : yI S) (hF : yFr [(43, 56), (43, 57), (43, 58)] [80] S0 S) (hR : yRm [] S0 S) (nn e : Int) (h_nn : -1 ≤ nn ∧ nn ≤ 65534) (h_e : 1 ≤ e ∧ e ≤ 65535) (q_0 : S0.f 43 57 ≠ -1 → S.f 43 57 ≠ -1) (q_1 : S.f 43 57 = -1 → e ≤ S.f 43 56 ∧ S.f 43 56 ≤ 23500) (hn : 65536 - e < (n : Nat)), yT xPr G LY xC236 20 [some ((2, 43)), some (vi nn), some (vi e), none, none, none, none] [] S (d + 1) (fun r S' => r = (0, (0, 0)) ∧ (S0.f 43 57 ≠ -1 → S'.f 43 57 ≠ -1) ∧ yI S' ∧ yFr [(43, 56), (43, 57), (43, 58)] [80] S0 S' ∧ yRm [] S0 S') := by
  intro n
  induction n with
  | zero => intro S hI hF hR nn e h_nn h_e q_0 q_1 hn; exact absurd hn (by omega)
  | succ n ih =>
    intro S hI hF hR nn e h_nn h_e q_0 q_1 hn
    have h1 := hI.f tf43_57
    have h2 := hI.f tf43_56
    refine r_load (i := 20) (u := 2) (w := 0) rfl rfl rfl ?_
    refine r_load (i := 21) (u := 1) (w := 0) rfl rfl rfl ?_
    refine c_gt (i := 22) (v := 105) rfl ⟨by omega, by omega⟩ ⟨by omega, by omega⟩ (fun h3 => ?_) (fun h4 => ?_)
    · refine r_load (i := 105) (u := 0) (w := 2) rfl rfl rfl ?_
      refine r_getf (i := 106) (v := 56) (w := 11) (x := vi (S.f 43 56)) rfl ly43 rfl rfl fun h5 => ?_
      have h5 : Rg (S.f 43 56) := h5
      refine r_store (i := 107) (u := 2) (w := 0) (L1 := [some ((2, 43)), some (vi nn), some (vi (S.f 43 56)), none, none, none, none]) rfl rfl rfl rfl ?_
      refine r_const (i := 108) (u := 1) (z := 1) rfl rfl ?_
      refine r_store (i := 109) (u := 3) (w := 0) (L1 := [some ((2, 43)), some (vi nn), some (vi (S.f 43 56)), some (vi 1), none, none, none]) rfl rfl rfl rfl ?_
      exact lp236_110   hd _ S hI hF hR nn (S.f 43 56) 1 ⟨by omega, by omega⟩ ⟨by omega, by omega⟩ ⟨by omega, by omega⟩ (by omega) (by omega) (Int.lt_succ_toNat _)
    · refine r_load (i := 23) (u := 0) (w := 2) rfl rfl rfl ?_
      refine r_getf (i := 24) (v := 57) (w := 11) (x := vi (S.f 43 57)) rfl ly43 rfl rfl fun h6 => ?_
      have h6 : Rg (S.f 43 57) := h6
      refine r_const (i := 25) (u := 4294967295) (z := -1) rfl rfl ?_
      refine c_ne (i := 26) (v := 105) rfl ⟨by omega, by omega⟩ ⟨by omega, by omega⟩ (fun h7 => ?_) (fun h8 => ?_)
      · refine r_load (i := 105) (u := 0) (w := 2) rfl rfl rfl ?_
        refine r_getf (i := 106) (v := 56) (w := 11) (x := vi (S.f 43 56)) rfl ly43 rfl rfl fun h9 => ?_
        have h9 : Rg (S.f 43 56) := h9
        refine r_store (i := 107) (u := 2) (w := 0) (L1 := [some ((2, 43)), some (vi nn), some (vi (S.f 43 56)), none, none, none, none]) rfl rfl rfl rfl ?_
        refine r_const (i := 108) (u := 1) (z := 1) rfl rfl ?_
        refine r_store (i := 109) (u := 3) (w := 0) (L1 := [some ((2, 43)), some (vi nn), some (vi (S.f 43 56)), some (vi 1), none, none, none]) rfl rfl rfl rfl ?_
        exact lp236_110   hd _ S hI hF hR nn (S.f 43 56) 1 ⟨by omega, by omega⟩ ⟨by omega, by omega⟩ ⟨by omega, by omega⟩ (by omega) (by omega) (Int.lt_succ_toNat _)
      · refine r_load (i := 27) (u := 0) (w := 2) rfl rfl rfl ?_
        refine r_getf (i := 28) (v := 59) (w := 11) (x := (2, 80)) rfl ly43 rfl rfl fun _ => ?_
        refine r_load (i := 29) (u := 2) (w := 0) rfl rfl rfl ?_
        refine r_load (i := 30) (u := 0) (w := 2) rfl rfl rfl ?_
        refine r_getf (i := 31) (v := 56) (w := 11) (x := vi (S.f 43 56)) rfl ly43 rfl rfl fun h11 => ?_
        have h11 : Rg (S.f 43 56) := h11
        refine s_int (i := 32) rfl ly80 rfl (by omega) (by omega) ⟨by omega, by omega⟩ ?_
        have hI13 := hI.seta (b := 80) (j := e.toNat) (z := S.f 43 56) ta80 rfl (by omega) (by omega)
        have hF15 := hF.seta (b := 80) (j := e.toNat) (z := S.f 43 56) rfl
        have hR16 := hR.seta (b := 80) (j := e.toNat) (z := S.f 43 56)
        refine yT_gen (fun S12 hS14 => ?_)
        rw [hS14] at hI13 hF15 hR16 
        refine r_load (i := 33) (u := 0) (w := 2) rfl rfl rfl ?_
        refine r_const (i := 34) (u := 1) (z := 1) rfl rfl ?_
        have h17 := hI13.f tf43_56
        have h18 : S12.f 43 56 = S.f 43 56 := by rw [← hS14]; rfl
        have h19 := hI13.f tf43_57
        have h20 : S12.f 43 57 = S.f 43 57 := by rw [← hS14]; rfl
        refine r_call (i := 35) (u := 11) (v := 223) (w := 0) (b := 0) (na := 1282) (C2 := xC223) (as := [(2, 43), vi 1]) (s := []) rfl rfl rfl rfl rfl rfl rfl (sp223 (n0 := 1) hI13 ⟨by omega, by omega⟩   (by omega)) (fun r21 S22 hq23 => ?_)
        obtain ⟨z24, rfl, h25, h26, h27, h28, h29, h30, h31, h32, hI33, hF34, hR35⟩ := hq23
        have hF36 := hF15.trans hF34 rfl rfl
        have hR37 := hR16.trans hR35 rfl
        refine Or.inr (Or.inl ⟨rfl, ?_⟩)
        refine r_l2i (i := 36) rfl ?_
        rw [vi_sg z24]
        have h38 := ysg_fact z24
        refine r_store (i := 37) (u := 3) (w := 0) (L1 := [some ((2, 43)), some (vi nn), some (vi e), some (vi (ysg z24)), none, none, none]) rfl rfl rfl rfl ?_
        refine r_load (i := 38) (u := 0) (w := 2) rfl rfl rfl ?_
        refine r_load (i := 39) (u := 3) (w := 0) rfl rfl rfl ?_
        refine r_const (i := 40) (u := 1) (z := 1) rfl rfl ?_
        refine c_eq (i := 41) (v := 51) rfl ⟨by omega, by omega⟩ ⟨by omega, by omega⟩ (fun h39 => ?_) (fun h40 => ?_)
        · refine r_const (i := 51) (u := 1) (z := 1) rfl rfl ?_
          refine r_goto (i := 52) (v := 54) rfl ?_
          have h41 := hI33.f tf43_57
          have h42 := hI33.f tf43_56
          exact lp236_54   hd (nn := nn) (e := e) ⟨by omega, by omega⟩ ⟨by omega, by omega⟩ n ih (by omega) S22 hI33 hF36 hR37 (ysg z24) 1 ⟨by omega, by omega⟩ ⟨by omega, by omega⟩ (by omega) (by omega) (by omega) 
        · refine r_load (i := 42) (u := 3) (w := 0) rfl rfl rfl ?_
          refine r_const (i := 43) (u := 7) (z := 7) rfl rfl ?_
          refine c_eq (i := 44) (v := 51) rfl ⟨by omega, by omega⟩ ⟨by omega, by omega⟩ (fun h43 => ?_) (fun h44 => ?_)
          · refine r_const (i := 51) (u := 1) (z := 1) rfl rfl ?_
            refine r_goto (i := 52) (v := 54) rfl ?_
            have h45 := hI33.f tf43_57
            have h46 := hI33.f tf43_56
            exact lp236_54   hd (nn := nn) (e := e) ⟨by omega, by omega⟩ ⟨by omega, by omega⟩ n ih (by omega) S22 hI33 hF36 hR37 (ysg z24) 1 ⟨by omega, by omega⟩ ⟨by omega, by omega⟩ (by omega) (by omega) (by omega) 
          · refine r_load (i := 45) (u := 3) (w := 0) rfl rfl rfl ?_
            refine r_const (i := 46) (u := 9) (z := 9) rfl rfl ?_
            refine c_lt (i := 47) (v := 53) rfl ⟨by omega, by omega⟩ ⟨by omega, by omega⟩ (fun h47 => ?_) (fun h48 => ?_)
            · refine r_const (i := 53) (u := 0) (z := 0) rfl rfl ?_
              have h49 := hI33.f tf43_57
              have h50 := hI33.f tf43_56
              exact lp236_54   hd (nn := nn) (e := e) ⟨by omega, by omega⟩ ⟨by omega, by omega⟩ n ih (by omega) S22 hI33 hF36 hR37 (ysg z24) 0 ⟨by omega, by omega⟩ ⟨by omega, by omega⟩ (by omega) (by omega) (by omega) 
            · refine r_load (i := 48) (u := 3) (w := 0) rfl rfl rfl ?_
              refine r_const (i := 49) (u := 12) (z := 12) rfl rfl ?_
              refine c_gt (i := 50) (v := 53) rfl ⟨by omega, by omega⟩ ⟨by omega, by omega⟩ (fun h51 => ?_) (fun h52 => ?_)
              · refine r_const (i := 53) (u := 0) (z := 0) rfl rfl ?_
                have h53 := hI33.f tf43_57
                have h54 := hI33.f tf43_56
                exact lp236_54   hd (nn := nn) (e := e) ⟨by omega, by omega⟩ ⟨by omega, by omega⟩ n ih (by omega) S22 hI33 hF36 hR37 (ysg z24) 0 ⟨by omega, by omega⟩ ⟨by omega, by omega⟩ (by omega) (by omega) (by omega) 
              · refine r_const (i := 51) (u := 1) (z := 1) rfl rfl ?_
                refine r_goto (i := 52) (v := 54) rfl ?_
                have h55 := hI33.f tf43_57
                have h56 := hI33.f tf43_56
                exact lp236_54   hd (nn := nn) (e := e) ⟨by omega, by omega⟩ ⟨by omega, by omega⟩ n ih (by omega) S22 hI33 hF36 hR37 (ysg z24) 1 ⟨by omega, by omega⟩ ⟨by omega, by omega⟩ (by omega) (by omega) (by omega) 
theorem lp236_13 {G : xk} {d : Nat} {S0 : yS}  (hd : 2 ≤ d + 1) : ∀ (S : yS) (hI : yI S) (hF : yFr [(43, 56), (43, 57), (43, 58)] [80] S0 S) (hR : yRm [] S0 S) (nn g0 : Int) (h_nn : -1 ≤ nn ∧ nn ≤ 65534) (h_g0 : 0 ≤ g0 ∧ g0 ≤ 1) (q_0 : S0.f 43 57 ≠ -1 → S.f 43 57 ≠ -1) (q_1 : S.f 43 57 = -1 → 1 ≤ S.f 43 56 ∧ S.f 43 56 ≤ 23500), yT xPr G LY xC236 13 [some ((2, 43)), some (vi nn), none, none, none, none, none] [vi g0, (2, 43)] S (d + 1) (fun r S' => r = (0, (0, 0)) ∧ (S0.f 43 57 ≠ -1 → S'.f 43 57 ≠ -1) ∧ yI S' ∧ yFr [(43, 56), (43, 57), (43, 58)] [80] S0 S' ∧ yRm [] S0 S') := by
  intro S hI hF hR nn g0 h_nn h_g0 q_0 q_1
  have h1 := hI.f tf43_57
  have h2 := hI.f tf43_56
  refine r_const (i := 13) (u := 2) (z := 2) rfl rfl ?_
  refine r_call (i := 14) (u := 11) (v := 221) (w := 0) (b := 0) (na := 771) (C2 := xC221) (as := [(2, 43), vi g0, vi 2]) (s := []) rfl rfl rfl rfl rfl rfl rfl (sp221 (g0 := g0) (n0 := 2) hI ⟨by omega, by omega⟩ ⟨by omega, by omega⟩   (by omega)) (fun r3 S4 hq5 => ?_)
  obtain ⟨rfl, h6, hI7, hF8, hR9⟩ := hq5
  have hF10 := hF.trans hF8 rfl rfl
  have hR11 := hR.trans hR9 rfl
  refine Or.inl ⟨rfl, ?_⟩
  refine r_load (i := 15) (u := 0) (w := 2) rfl rfl rfl ?_
  refine r_const (i := 16) (u := 0) (z := 0) rfl rfl ?_
  refine r_putI (i := 17) (v := 58) (w := 11) rfl ly43 rfl ⟨by omega, by omega⟩ ?_
  have hI13 := hI7.setf (b := 43) (w := 58) (z := 0) tf43_58 rfl (by omega) (by omega)
  have hF15 := hF10.setf (b := 43) (w := 58) (z := 0) rfl
  have hR16 := hR11.setf (b := 43) (w := 58) (z := 0)
  refine yT_gen (fun S12 hS14 => ?_)
  rw [hS14] at hI13 hF15 hR16 
  refine r_const (i := 18) (u := 1) (z := 1) rfl rfl ?_
  refine r_store (i := 19) (u := 2) (w := 0) (L1 := [some ((2, 43)), some (vi nn), some (vi 1), none, none, none, none]) rfl rfl rfl rfl ?_
  have h17 := hI13.f tf43_57
  have h18 : S12.f 43 57 = S4.f 43 57 := by rw [← hS14]; exact ysf_ne (by decide)
  have h19 := hI13.f tf43_56
  have h20 : S12.f 43 56 = S4.f 43 56 := by rw [← hS14]; exact ysf_ne (by decide)
  have h21 : S4.f 43 56 = S.f 43 56 := hF8.f rfl
  exact lp236_20   hd _ S12 hI13 hF15 hR16 nn 1 ⟨by omega, by omega⟩ ⟨by omega, by omega⟩ (by omega) (by omega) (Int.lt_succ_toNat _)
/-- ProxyForgeModel.readEntries -/
theorem sp236 {G : xk} {S : yS} {d : Nat} (hI : yI S)  (hd : 2 ≤ d) : yT xPr G LY xC236 0 [some ((2, 43))] [] S d (fun r S' => r = (0, (0, 0)) ∧ (S.f 43 57 ≠ -1 → S'.f 43 57 ≠ -1) ∧ yI S' ∧ yFr [(43, 56), (43, 57), (43, 58)] [80] S S' ∧ yRm [] S S') := by
  refine yT_pad 6 ?_
  show yT xPr G LY xC236 0 [some ((2, 43)), none, none, none, none, none, none] [] S d _
  obtain ⟨d, rfl⟩ : ∃ q, d = q + 1 := ⟨d - 1, by omega⟩
  have hF : yFr [(43, 56), (43, 57), (43, 58)] [80] S S := yFr.refl S
  have hR : yRm [] S S := yRm.refl S
  refine r_load (i := 0) (u := 0) (w := 2) rfl rfl rfl ?_
  refine r_const (i := 1) (u := 2) (z := 2) rfl rfl ?_
  have h1 := hI.f tf43_56
  have h2 := hI.f tf43_57
  refine r_call (i := 2) (u := 11) (v := 223) (w := 0) (b := 0) (na := 1282) (C2 := xC223) (as := [(2, 43), vi 2]) (s := []) rfl rfl rfl rfl rfl rfl rfl (sp223 (n0 := 2) hI ⟨by omega, by omega⟩   (by omega)) (fun r3 S4 hq5 => ?_)
  obtain ⟨z6, rfl, h7, h8, h9, h10, h11, h12, h13, h14, hI15, hF16, hR17⟩ := hq5
  have hF18 := hF.trans hF16 rfl rfl
  have hR19 := hR.trans hR17 rfl
  refine Or.inr (Or.inl ⟨rfl, ?_⟩)
  refine r_l2i (i := 3) rfl ?_
  rw [vi_sg z6]
  have h20 := ysg_fact z6
  refine r_const (i := 4) (u := 1) (z := 1) rfl rfl ?_
  refine r_isub (i := 5) rfl ?_
  refine r_store (i := 6) (u := 1) (w := 0) (L1 := [some ((2, 43)), some (vi ((ysg z6) - 1)), none, none, none, none, none]) rfl rfl rfl rfl ?_
  refine r_load (i := 7) (u := 0) (w := 2) rfl rfl rfl ?_
  refine r_load (i := 8) (u := 1) (w := 0) rfl rfl rfl ?_
  refine z_lt (i := 9) (v := 12) rfl ⟨by omega, by omega⟩ (fun h21 => ?_) (fun h22 => ?_)
  · refine r_const (i := 12) (u := 0) (z := 0) rfl rfl ?_
    have h23 := hI15.f tf43_57
    have h24 := hI15.f tf43_56
    exact lp236_13   hd S4 hI15 hF18 hR19 ((ysg z6) - 1) 0 ⟨by omega, by omega⟩ ⟨by omega, by omega⟩ (by omega) (by omega) 
  · refine r_const (i := 10) (u := 1) (z := 1) rfl rfl ?_
    refine r_goto (i := 11) (v := 13) rfl ?_
    have h25 := hI15.f tf43_57
    have h26 := hI15.f tf43_56
    exact lp236_13   hd S4 hI15 hF18 hR19 ((ysg z6) - 1) 1 ⟨by omega, by omega⟩ ⟨by omega, by omega⟩ (by omega) (by omega) 
theorem lp237_134 {G : xk} {d : Nat} {S0 : yS}  (hd : 5 ≤ d + 1) {at0 : Int} (h_at0 : 0 ≤ at0 ∧ at0 ≤ 65535) {bg : Int} (h_bg : 0 ≤ bg ∧ bg ≤ 23600) {ln : Int} (h_ln : Rl ln) {bt : Int} (h_bt : Rl bt) {hn0 : Int} (h_hn0 : 0 ≤ hn0 ∧ hn0 ≤ 65535) {k : Int} (h_k : 0 ≤ k ∧ k ≤ 65534) (no : Nat) (K : ∀ (S : yS) (hI : yI S) (hF : yFr [(43, 56), (43, 57)] [] S0 S) (hR : yRm [] S0 S) (at0 bg ln bt hn0 k : Int) (h_at0 : 0 ≤ at0 ∧ at0 ≤ 65535) (h_bg : 0 ≤ bg ∧ bg ≤ 23600) (h_ln : Rl ln) (h_bt : Rl bt) (h_hn0 : 0 ≤ hn0 ∧ hn0 ≤ 65535) (h_k : 0 ≤ k ∧ k ≤ 65535) (q_0 : S0.f 43 57 ≠ -1 → S.f 43 57 ≠ -1) (q_1 : 0 ≤ bt) (hn : 65536 - k < (no : Nat)), yT xPr G LY xC237 93 [some ((2, 43)), none, some (vi at0), some (vi bg), some (vl ln), none, some (vl bt), none, some (vi hn0), some (vi k), none, none, none, none, none, none] [] S (d + 1) (fun r S' => r = (0, (0, 0)) ∧ (S0.f 43 57 ≠ -1 → S'.f 43 57 ≠ -1) ∧ yI S' ∧ yFr [(43, 56), (43, 57)] [] S0 S' ∧ yRm [] S0 S')) (hm : 65536 - k < ((no + 1 : Nat) : Int)) : ∀ (S : yS) (hI : yI S) (hF : yFr [(43, 56), (43, 57)] [] S0 S) (hR : yRm [] S0 S) (g0 : Int) (h_g0 : 0 ≤ g0 ∧ g0 ≤ 1) (q_0 : S0.f 43 57 ≠ -1 → S.f 43 57 ≠ -1) (q_1 : 0 ≤ bt) (q_2 : k < hn0), yT xPr G LY xC237 134 [some ((2, 43)), none, some (vi at0), some (vi bg), some (vl ln), none, some (vl bt), none, some (vi hn0), some (vi k), none, none, none, none, none, none] [vi g0, (2, 43)] S (d + 1) (fun r S' => r = (0, (0, 0)) ∧ (S0.f 43 57 ≠ -1 → S'.f 43 57 ≠ -1) ∧ yI S' ∧ yFr [(43, 56), (43, 57)] [] S0 S' ∧ yRm [] S0 S') := by
  intro S hI hF hR g0 h_g0 q_0 q_1 q_2
  have h1 := hI.f tf43_57
  refine r_const (i := 134) (u := 2) (z := 2) rfl rfl ?_
  refine r_call (i := 135) (u := 11) (v := 221) (w := 0) (b := 0) (na := 771) (C2 := xC221) (as := [(2, 43), vi g0, vi 2]) (s := []) rfl rfl rfl rfl rfl rfl rfl (sp221 (g0 := g0) (n0 := 2) hI ⟨by omega, by omega⟩ ⟨by omega, by omega⟩   (by omega)) (fun r2 S3 hq4 => ?_)
  obtain ⟨rfl, h5, hI6, hF7, hR8⟩ := hq4
  have hF9 := hF.trans hF7 rfl rfl
  have hR10 := hR.trans hR8 rfl
  refine Or.inl ⟨rfl, ?_⟩
  refine r_load (i := 136) (u := 0) (w := 2) rfl rfl rfl ?_
  refine r_const (i := 137) (u := 7) (z := 7) rfl rfl ?_
  have h11 := hI6.f tf43_56
  have h12 : S3.f 43 56 = S.f 43 56 := hF7.f rfl
  have h13 := hI6.f tf43_57
  refine r_call (i := 138) (u := 11) (v := 200) (w := 0) (b := 0) (na := 1026) (C2 := xC200) (as := [(2, 43), vi 7]) (s := []) rfl rfl rfl rfl rfl rfl rfl (sp200 (k := 7) hI6 ⟨by omega, by omega⟩   (by omega)) (fun r14 S15 hq16 => ?_)
  obtain ⟨rfl, h17, h18, h19, hI20, hF21, hR22⟩ := hq16
  have hF23 := hF9.trans hF21 rfl rfl
  have hR24 := hR10.trans hR22 rfl
  refine Or.inl ⟨rfl, ?_⟩
  refine r_iinc (i := 139) (u := 1) (v := 9) (s := 1) (L1 := [some ((2, 43)), none, some (vi at0), some (vi bg), some (vl ln), none, some (vl bt), none, some (vi hn0), some (vi (k + 1)), none, none, none, none, none, none]) rfl rfl rfl rfl rfl ?_
  refine r_goto (i := 140) (v := 93) rfl ?_
  have h25 := hI20.f tf43_57
  exact K S15 hI20 hF23 hR24 at0 bg ln bt hn0 (k + 1) ⟨by omega, by omega⟩ ⟨by omega, by omega⟩ ⟨by omega, by omega⟩ ⟨by omega, by omega⟩ ⟨by omega, by omega⟩ ⟨by omega, by omega⟩ (by omega) (by omega) (by omega)
theorem lp237_120 {G : xk} {d : Nat} {S0 : yS}  (hd : 5 ≤ d + 1) {at0 : Int} (h_at0 : 0 ≤ at0 ∧ at0 ≤ 65535) {bg : Int} (h_bg : 0 ≤ bg ∧ bg ≤ 23600) {ln : Int} (h_ln : Rl ln) {bt : Int} (h_bt : Rl bt) {hn0 : Int} (h_hn0 : 0 ≤ hn0 ∧ hn0 ≤ 65535) {k : Int} (h_k : 0 ≤ k ∧ k ≤ 65534) (no : Nat) (K : ∀ (S : yS) (hI : yI S) (hF : yFr [(43, 56), (43, 57)] [] S0 S) (hR : yRm [] S0 S) (at0 bg ln bt hn0 k : Int) (h_at0 : 0 ≤ at0 ∧ at0 ≤ 65535) (h_bg : 0 ≤ bg ∧ bg ≤ 23600) (h_ln : Rl ln) (h_bt : Rl bt) (h_hn0 : 0 ≤ hn0 ∧ hn0 ≤ 65535) (h_k : 0 ≤ k ∧ k ≤ 65535) (q_0 : S0.f 43 57 ≠ -1 → S.f 43 57 ≠ -1) (q_1 : 0 ≤ bt) (hn : 65536 - k < (no : Nat)), yT xPr G LY xC237 93 [some ((2, 43)), none, some (vi at0), some (vi bg), some (vl ln), none, some (vl bt), none, some (vi hn0), some (vi k), none, none, none, none, none, none] [] S (d + 1) (fun r S' => r = (0, (0, 0)) ∧ (S0.f 43 57 ≠ -1 → S'.f 43 57 ≠ -1) ∧ yI S' ∧ yFr [(43, 56), (43, 57)] [] S0 S' ∧ yRm [] S0 S')) (hm : 65536 - k < ((no + 1 : Nat) : Int)) : ∀ (S : yS) (hI : yI S) (hF : yFr [(43, 56), (43, 57)] [] S0 S) (hR : yRm [] S0 S) (fr to g0 : Int) (h_fr : Rl fr) (h_to : Rl to) (h_g0 : 0 ≤ g0 ∧ g0 ≤ 1) (q_0 : S0.f 43 57 ≠ -1 → S.f 43 57 ≠ -1) (q_1 : 0 ≤ bt) (q_2 : k < hn0), yT xPr G LY xC237 120 [some ((2, 43)), none, some (vi at0), some (vi bg), some (vl ln), none, some (vl bt), none, some (vi hn0), some (vi k), some (vl fr), none, some (vl to), none, none, none] [vi g0, (2, 43)] S (d + 1) (fun r S' => r = (0, (0, 0)) ∧ (S0.f 43 57 ≠ -1 → S'.f 43 57 ≠ -1) ∧ yI S' ∧ yFr [(43, 56), (43, 57)] [] S0 S' ∧ yRm [] S0 S') := by
  intro S hI hF hR fr to g0 h_fr h_to h_g0 q_0 q_1 q_2
  have h1 := hI.f tf43_57
  refine r_const (i := 120) (u := 2) (z := 2) rfl rfl ?_
  refine r_call (i := 121) (u := 11) (v := 221) (w := 0) (b := 0) (na := 771) (C2 := xC221) (as := [(2, 43), vi g0, vi 2]) (s := []) rfl rfl rfl rfl rfl rfl rfl (sp221 (g0 := g0) (n0 := 2) hI ⟨by omega, by omega⟩ ⟨by omega, by omega⟩   (by omega)) (fun r2 S3 hq4 => ?_)
  obtain ⟨rfl, h5, hI6, hF7, hR8⟩ := hq4
  have hF9 := hF.trans hF7 rfl rfl
  have hR10 := hR.trans hR8 rfl
  refine Or.inl ⟨rfl, ?_⟩
  refine r_load (i := 122) (u := 0) (w := 2) rfl rfl rfl ?_
  refine r_const (i := 123) (u := 2) (z := 2) rfl rfl ?_
  have h11 := hI6.f tf43_56
  have h12 : S3.f 43 56 = S.f 43 56 := hF7.f rfl
  have h13 := hI6.f tf43_57
  refine r_call (i := 124) (u := 11) (v := 223) (w := 0) (b := 0) (na := 1282) (C2 := xC223) (as := [(2, 43), vi 2]) (s := []) rfl rfl rfl rfl rfl rfl rfl (sp223 (n0 := 2) hI6 ⟨by omega, by omega⟩   (by omega)) (fun r14 S15 hq16 => ?_)
  obtain ⟨z17, rfl, h18, h19, h20, h21, h22, h23, h24, h25, hI26, hF27, hR28⟩ := hq16
  have hF29 := hF9.trans hF27 rfl rfl
  have hR30 := hR10.trans hR28 rfl
  refine Or.inr (Or.inl ⟨rfl, ?_⟩)
  refine r_store (i := 125) (u := 14) (w := 1) (L1 := [some ((2, 43)), none, some (vi at0), some (vi bg), some (vl ln), none, some (vl bt), none, some (vi hn0), some (vi k), some (vl fr), none, some (vl to), none, some (vl z17), none]) rfl rfl rfl rfl ?_
  refine r_load (i := 126) (u := 0) (w := 2) rfl rfl rfl ?_
  refine r_load (i := 127) (u := 14) (w := 1) rfl rfl rfl ?_
  refine r_load (i := 128) (u := 6) (w := 1) rfl rfl rfl ?_
  refine r_lcmp (i := 129) rfl ⟨by omega, by omega⟩ ⟨by omega, by omega⟩ (fun h31 => ?_) (fun h32 => ?_) (fun h33 => ?_)
  · refine z_ge (i := 130) (v := 133) rfl ⟨by omega, by omega⟩ (fun h34 => absurd h34 (by omega)) (fun h35 => ?_)
    refine r_const (i := 131) (u := 1) (z := 1) rfl rfl ?_
    refine r_goto (i := 132) (v := 134) rfl ?_
    refine yT_drop (L1 := [some ((2, 43)), none, some (vi at0), some (vi bg), some (vl ln), none, some (vl bt), none, some (vi hn0), some (vi k), none, none, none, none, none, none]) rfl ?_
    have h36 := hI26.f tf43_57
    exact lp237_134   hd (at0 := at0) (bg := bg) (ln := ln) (bt := bt) (hn0 := hn0) (k := k) ⟨by omega, by omega⟩ ⟨by omega, by omega⟩ ⟨by omega, by omega⟩ ⟨by omega, by omega⟩ ⟨by omega, by omega⟩ ⟨by omega, by omega⟩ no K (by omega) S15 hI26 hF29 hR30 1 ⟨by omega, by omega⟩ (by omega) (by omega) (by omega) 
  · refine z_ge (i := 130) (v := 133) rfl ⟨by omega, by omega⟩ (fun h37 => ?_) (fun h38 => absurd h38 (by omega))
    refine r_const (i := 133) (u := 0) (z := 0) rfl rfl ?_
    refine yT_drop (L1 := [some ((2, 43)), none, some (vi at0), some (vi bg), some (vl ln), none, some (vl bt), none, some (vi hn0), some (vi k), none, none, none, none, none, none]) rfl ?_
    have h39 := hI26.f tf43_57
    exact lp237_134   hd (at0 := at0) (bg := bg) (ln := ln) (bt := bt) (hn0 := hn0) (k := k) ⟨by omega, by omega⟩ ⟨by omega, by omega⟩ ⟨by omega, by omega⟩ ⟨by omega, by omega⟩ ⟨by omega, by omega⟩ ⟨by omega, by omega⟩ no K (by omega) S15 hI26 hF29 hR30 0 ⟨by omega, by omega⟩ (by omega) (by omega) (by omega) 
  · refine z_ge (i := 130) (v := 133) rfl ⟨by omega, by omega⟩ (fun h40 => ?_) (fun h41 => absurd h41 (by omega))
    refine r_const (i := 133) (u := 0) (z := 0) rfl rfl ?_
    refine yT_drop (L1 := [some ((2, 43)), none, some (vi at0), some (vi bg), some (vl ln), none, some (vl bt), none, some (vi hn0), some (vi k), none, none, none, none, none, none]) rfl ?_
    have h42 := hI26.f tf43_57
    exact lp237_134   hd (at0 := at0) (bg := bg) (ln := ln) (bt := bt) (hn0 := hn0) (k := k) ⟨by omega, by omega⟩ ⟨by omega, by omega⟩ ⟨by omega, by omega⟩ ⟨by omega, by omega⟩ ⟨by omega, by omega⟩ ⟨by omega, by omega⟩ no K (by omega) S15 hI26 hF29 hR30 0 ⟨by omega, by omega⟩ (by omega) (by omega) (by omega) 
theorem lp237_212 {G : xk} {d : Nat} {S0 : yS}  (hd : 5 ≤ d + 1) : ∀ (n : Nat), ∀ (S : yS) (hI : yI S) (hF : yFr [(43, 56), (43, 57)] [] S0 S) (hR : yRm [] S0 S) (bg ln mn k : Int) (h_bg : 0 ≤ bg ∧ bg ≤ 23600) (h_ln : Rl ln) (h_mn : 0 ≤ mn ∧ mn ≤ 65535) (h_k : 0 ≤ k ∧ k ≤ 65535) (q_0 : S0.f 43 57 ≠ -1 → S.f 43 57 ≠ -1) (hn : 65536 - k < (n : Nat)), yT xPr G LY xC237 212 [some ((2, 43)), none, none, some (vi bg), some (vl ln), none, none, none, none, none, some (vi mn), some (vi k), none, none, none, none] [] S (d + 1) (fun r S' => r = (0, (0, 0)) ∧ (S0.f 43 57 ≠ -1 → S'.f 43 57 ≠ -1) ∧ yI S' ∧ yFr [(43, 56), (43, 57)] [] S0 S' ∧ yRm [] S0 S') := by
  intro n
  induction n with
  | zero => intro S hI hF hR bg ln mn k h_bg h_ln h_mn h_k q_0 hn; exact absurd hn (by omega)
  | succ n ih =>
    intro S hI hF hR bg ln mn k h_bg h_ln h_mn h_k q_0 hn
    have h1 := hI.f tf43_57
    refine r_load (i := 212) (u := 11) (w := 0) rfl rfl rfl ?_
    refine r_load (i := 213) (u := 10) (w := 0) rfl rfl rfl ?_
    refine c_ge (i := 214) (v := 224) rfl ⟨by omega, by omega⟩ ⟨by omega, by omega⟩ (fun h2 => ?_) (fun h3 => ?_)
    · refine r_load (i := 224) (u := 0) (w := 2) rfl rfl rfl ?_
      refine r_getf (i := 225) (v := 57) (w := 11) (x := vi (S.f 43 57)) rfl ly43 rfl rfl fun h4 => ?_
      have h4 : Rg (S.f 43 57) := h4
      refine r_const (i := 226) (u := 4294967295) (z := -1) rfl rfl ?_
      refine c_ne (i := 227) (v := 241) rfl ⟨by omega, by omega⟩ ⟨by omega, by omega⟩ (fun h5 => ?_) (fun h6 => ?_)
      · exact r_ret0 (i := 241) rfl ⟨rfl, (by omega), hI, hF, hR⟩
      · refine r_load (i := 228) (u := 4) (w := 1) rfl rfl rfl ?_
        refine r_load (i := 229) (u := 0) (w := 2) rfl rfl rfl ?_
        have h7 := hI.f tf43_56
        refine r_getf (i := 230) (v := 56) (w := 11) (x := vi (S.f 43 56)) rfl ly43 rfl rfl fun h8 => ?_
        have h8 : Rg (S.f 43 56) := h8
        refine r_load (i := 231) (u := 3) (w := 0) rfl rfl rfl ?_
        refine r_isub (i := 232) rfl ?_
        refine r_const (i := 233) (u := 4) (z := 4) rfl rfl ?_
        refine r_isub (i := 234) rfl ?_
        refine r_i2l (i := 235) rfl ⟨by omega, by omega⟩ ?_
        refine r_lcmp (i := 236) rfl ⟨by omega, by omega⟩ ⟨by omega, by omega⟩ (fun h9 => ?_) (fun h10 => ?_) (fun h11 => ?_)
        · refine z_eq (i := 237) (v := 241) rfl ⟨by omega, by omega⟩ (fun h12 => absurd h12 (by omega)) (fun h13 => ?_)
          refine r_load (i := 238) (u := 0) (w := 2) rfl rfl rfl ?_
          refine r_load (i := 239) (u := 3) (w := 0) rfl rfl rfl ?_
          refine r_putI (i := 240) (v := 57) (w := 11) rfl ly43 rfl ⟨by omega, by omega⟩ ?_
          have hI15 := hI.setf (b := 43) (w := 57) (z := bg) tf43_57 rfl (by omega) (by omega)
          have hF17 := hF.setf (b := 43) (w := 57) (z := bg) rfl
          have hR18 := hR.setf (b := 43) (w := 57) (z := bg)
          refine yT_gen (fun S14 hS16 => ?_)
          rw [hS16] at hI15 hF17 hR18 
          have h19 := hI15.f tf43_57
          have h20 : S14.f 43 57 = bg := by rw [← hS16]; exact ysf_eq
          exact r_ret0 (i := 241) rfl ⟨rfl, (by omega), hI15, hF17, hR18⟩
        · refine z_eq (i := 237) (v := 241) rfl ⟨by omega, by omega⟩ (fun h21 => ?_) (fun h22 => absurd h22 (by omega))
          exact r_ret0 (i := 241) rfl ⟨rfl, (by omega), hI, hF, hR⟩
        · refine z_eq (i := 237) (v := 241) rfl ⟨by omega, by omega⟩ (fun h23 => absurd h23 (by omega)) (fun h24 => ?_)
          refine r_load (i := 238) (u := 0) (w := 2) rfl rfl rfl ?_
          refine r_load (i := 239) (u := 3) (w := 0) rfl rfl rfl ?_
          refine r_putI (i := 240) (v := 57) (w := 11) rfl ly43 rfl ⟨by omega, by omega⟩ ?_
          have hI26 := hI.setf (b := 43) (w := 57) (z := bg) tf43_57 rfl (by omega) (by omega)
          have hF28 := hF.setf (b := 43) (w := 57) (z := bg) rfl
          have hR29 := hR.setf (b := 43) (w := 57) (z := bg)
          refine yT_gen (fun S25 hS27 => ?_)
          rw [hS27] at hI26 hF28 hR29 
          have h30 := hI26.f tf43_57
          have h31 : S25.f 43 57 = bg := by rw [← hS27]; exact ysf_eq
          exact r_ret0 (i := 241) rfl ⟨rfl, (by omega), hI26, hF28, hR29⟩
    · refine r_load (i := 215) (u := 0) (w := 2) rfl rfl rfl ?_
      refine r_getf (i := 216) (v := 57) (w := 11) (x := vi (S.f 43 57)) rfl ly43 rfl rfl fun h32 => ?_
      have h32 : Rg (S.f 43 57) := h32
      refine r_const (i := 217) (u := 4294967295) (z := -1) rfl rfl ?_
      refine c_ne (i := 218) (v := 224) rfl ⟨by omega, by omega⟩ ⟨by omega, by omega⟩ (fun h33 => ?_) (fun h34 => ?_)
      · refine r_load (i := 224) (u := 0) (w := 2) rfl rfl rfl ?_
        refine r_getf (i := 225) (v := 57) (w := 11) (x := vi (S.f 43 57)) rfl ly43 rfl rfl fun h35 => ?_
        have h35 : Rg (S.f 43 57) := h35
        refine r_const (i := 226) (u := 4294967295) (z := -1) rfl rfl ?_
        refine c_ne (i := 227) (v := 241) rfl ⟨by omega, by omega⟩ ⟨by omega, by omega⟩ (fun h36 => ?_) (fun h37 => ?_)
        · exact r_ret0 (i := 241) rfl ⟨rfl, (by omega), hI, hF, hR⟩
        · refine r_load (i := 228) (u := 4) (w := 1) rfl rfl rfl ?_
          refine r_load (i := 229) (u := 0) (w := 2) rfl rfl rfl ?_
          have h38 := hI.f tf43_56
          refine r_getf (i := 230) (v := 56) (w := 11) (x := vi (S.f 43 56)) rfl ly43 rfl rfl fun h39 => ?_
          have h39 : Rg (S.f 43 56) := h39
          refine r_load (i := 231) (u := 3) (w := 0) rfl rfl rfl ?_
          refine r_isub (i := 232) rfl ?_
          refine r_const (i := 233) (u := 4) (z := 4) rfl rfl ?_
          refine r_isub (i := 234) rfl ?_
          refine r_i2l (i := 235) rfl ⟨by omega, by omega⟩ ?_
          refine r_lcmp (i := 236) rfl ⟨by omega, by omega⟩ ⟨by omega, by omega⟩ (fun h40 => ?_) (fun h41 => ?_) (fun h42 => ?_)
          · refine z_eq (i := 237) (v := 241) rfl ⟨by omega, by omega⟩ (fun h43 => absurd h43 (by omega)) (fun h44 => ?_)
            refine r_load (i := 238) (u := 0) (w := 2) rfl rfl rfl ?_
            refine r_load (i := 239) (u := 3) (w := 0) rfl rfl rfl ?_
            refine r_putI (i := 240) (v := 57) (w := 11) rfl ly43 rfl ⟨by omega, by omega⟩ ?_
            have hI46 := hI.setf (b := 43) (w := 57) (z := bg) tf43_57 rfl (by omega) (by omega)
            have hF48 := hF.setf (b := 43) (w := 57) (z := bg) rfl
            have hR49 := hR.setf (b := 43) (w := 57) (z := bg)
            refine yT_gen (fun S45 hS47 => ?_)
            rw [hS47] at hI46 hF48 hR49 
            have h50 := hI46.f tf43_57
            have h51 : S45.f 43 57 = bg := by rw [← hS47]; exact ysf_eq
            exact r_ret0 (i := 241) rfl ⟨rfl, (by omega), hI46, hF48, hR49⟩
          · refine z_eq (i := 237) (v := 241) rfl ⟨by omega, by omega⟩ (fun h52 => ?_) (fun h53 => absurd h53 (by omega))
            exact r_ret0 (i := 241) rfl ⟨rfl, (by omega), hI, hF, hR⟩
          · refine z_eq (i := 237) (v := 241) rfl ⟨by omega, by omega⟩ (fun h54 => absurd h54 (by omega)) (fun h55 => ?_)
            refine r_load (i := 238) (u := 0) (w := 2) rfl rfl rfl ?_
            refine r_load (i := 239) (u := 3) (w := 0) rfl rfl rfl ?_
            refine r_putI (i := 240) (v := 57) (w := 11) rfl ly43 rfl ⟨by omega, by omega⟩ ?_
            have hI57 := hI.setf (b := 43) (w := 57) (z := bg) tf43_57 rfl (by omega) (by omega)
            have hF59 := hF.setf (b := 43) (w := 57) (z := bg) rfl
            have hR60 := hR.setf (b := 43) (w := 57) (z := bg)
            refine yT_gen (fun S56 hS58 => ?_)
            rw [hS58] at hI57 hF59 hR60 
            have h61 := hI57.f tf43_57
            have h62 : S56.f 43 57 = bg := by rw [← hS58]; exact ysf_eq
            exact r_ret0 (i := 241) rfl ⟨rfl, (by omega), hI57, hF59, hR60⟩
      · refine r_load (i := 219) (u := 0) (w := 2) rfl rfl rfl ?_
        refine r_const (i := 220) (u := 7) (z := 7) rfl rfl ?_
        have h63 := hI.f tf43_56
        refine r_call (i := 221) (u := 11) (v := 200) (w := 0) (b := 0) (na := 1026) (C2 := xC200) (as := [(2, 43), vi 7]) (s := []) rfl rfl rfl rfl rfl rfl rfl (sp200 (k := 7) hI ⟨by omega, by omega⟩   (by omega)) (fun r64 S65 hq66 => ?_)
        obtain ⟨rfl, h67, h68, h69, hI70, hF71, hR72⟩ := hq66
        have hF73 := hF.trans hF71 rfl rfl
        have hR74 := hR.trans hR72 rfl
        refine Or.inl ⟨rfl, ?_⟩
        refine r_iinc (i := 222) (u := 1) (v := 11) (s := 1) (L1 := [some ((2, 43)), none, none, some (vi bg), some (vl ln), none, none, none, none, none, some (vi mn), some (vi (k + 1)), none, none, none, none]) rfl rfl rfl rfl rfl ?_
        refine r_goto (i := 223) (v := 212) rfl ?_
        have h75 := hI70.f tf43_57
        exact ih S65 hI70 hF73 hR74 bg ln mn (k + 1) ⟨by omega, by omega⟩ ⟨by omega, by omega⟩ ⟨by omega, by omega⟩ ⟨by omega, by omega⟩ (by omega) (by omega)
theorem lp237_187 {G : xk} {d : Nat} {S0 : yS}  (hd : 5 ≤ d + 1) : ∀ (S : yS) (hI : yI S) (hF : yFr [(43, 56), (43, 57)] [] S0 S) (hR : yRm [] S0 S) (at0 : Int) (h_at0 : 0 ≤ at0 ∧ at0 ≤ 65535) (q_0 : S0.f 43 57 ≠ -1 → S.f 43 57 ≠ -1), yT xPr G LY xC237 187 [some ((2, 43)), none, some (vi at0), none, none, none, none, none, none, none, none, none, none, none, none, none] [] S (d + 1) (fun r S' => r = (0, (0, 0)) ∧ (S0.f 43 57 ≠ -1 → S'.f 43 57 ≠ -1) ∧ yI S' ∧ yFr [(43, 56), (43, 57)] [] S0 S' ∧ yRm [] S0 S') := by
  intro S hI hF hR at0 h_at0 q_0
  have h1 := hI.f tf43_57
  refine r_load (i := 187) (u := 2) (w := 0) rfl rfl rfl ?_
  refine r_const (i := 188) (u := 2) (z := 2) rfl rfl ?_
  refine c_lt (i := 189) (v := 194) rfl ⟨by omega, by omega⟩ ⟨by omega, by omega⟩ (fun h2 => ?_) (fun h3 => ?_)
  · exact r_ret0 (i := 194) rfl ⟨rfl, (by omega), hI, hF, hR⟩
  · refine r_load (i := 190) (u := 0) (w := 2) rfl rfl rfl ?_
    refine r_getf (i := 191) (v := 57) (w := 11) (x := vi (S.f 43 57)) rfl ly43 rfl rfl fun h4 => ?_
    have h4 : Rg (S.f 43 57) := h4
    refine r_const (i := 192) (u := 4294967295) (z := -1) rfl rfl ?_
    refine c_eq (i := 193) (v := 195) rfl ⟨by omega, by omega⟩ ⟨by omega, by omega⟩ (fun h5 => ?_) (fun h6 => ?_)
    · refine r_load (i := 195) (u := 0) (w := 2) rfl rfl rfl ?_
      refine r_str (i := 196) (v := 72) rfl ?_
      have h7 := slv72
      refine r_call (i := 197) (u := 11) (v := 253) (w := 0) (b := 0) (na := 1794) (C2 := xC253) (as := [(2, 43), (6, 72)]) (s := []) rfl rfl rfl rfl rfl rfl rfl (sp253 (s := 72) hI ⟨by decide, by decide⟩   (by omega)) (fun r8 S9 hq10 => ?_)
      obtain ⟨rfl, h11, hI12, hF13, hR14⟩ := hq10
      have hF15 := hF.trans hF13 rfl rfl
      have hR16 := hR.trans hR14 rfl
      refine Or.inl ⟨rfl, ?_⟩
      refine r_load (i := 198) (u := 0) (w := 2) rfl rfl rfl ?_
      have h17 := hI12.f tf43_56
      refine r_getf (i := 199) (v := 56) (w := 11) (x := vi (S9.f 43 56)) rfl ly43 rfl rfl fun h18 => ?_
      have h18 : Rg (S9.f 43 56) := h18
      refine r_store (i := 200) (u := 3) (w := 0) (L1 := [some ((2, 43)), none, some (vi at0), some (vi (S9.f 43 56)), none, none, none, none, none, none, none, none, none, none, none, none]) rfl rfl rfl rfl ?_
      refine r_load (i := 201) (u := 0) (w := 2) rfl rfl rfl ?_
      refine r_const (i := 202) (u := 4) (z := 4) rfl rfl ?_
      have h19 := hI12.f tf43_57
      refine r_call (i := 203) (u := 11) (v := 223) (w := 0) (b := 0) (na := 1282) (C2 := xC223) (as := [(2, 43), vi 4]) (s := []) rfl rfl rfl rfl rfl rfl rfl (sp223 (n0 := 4) hI12 ⟨by omega, by omega⟩   (by omega)) (fun r20 S21 hq22 => ?_)
      obtain ⟨z23, rfl, h24, h25, h26, h27, h28, h29, h30, h31, hI32, hF33, hR34⟩ := hq22
      have hF35 := hF15.trans hF33 rfl rfl
      have hR36 := hR16.trans hR34 rfl
      refine Or.inr (Or.inl ⟨rfl, ?_⟩)
      refine r_store (i := 204) (u := 4) (w := 1) (L1 := [some ((2, 43)), none, some (vi at0), some (vi (S9.f 43 56)), some (vl z23), none, none, none, none, none, none, none, none, none, none, none]) rfl rfl rfl rfl ?_
      refine r_load (i := 205) (u := 0) (w := 2) rfl rfl rfl ?_
      refine r_const (i := 206) (u := 2) (z := 2) rfl rfl ?_
      have h37 := hI32.f tf43_56
      have h38 := hI32.f tf43_57
      refine r_call (i := 207) (u := 11) (v := 223) (w := 0) (b := 0) (na := 1282) (C2 := xC223) (as := [(2, 43), vi 2]) (s := []) rfl rfl rfl rfl rfl rfl rfl (sp223 (n0 := 2) hI32 ⟨by omega, by omega⟩   (by omega)) (fun r39 S40 hq41 => ?_)
      obtain ⟨z42, rfl, h43, h44, h45, h46, h47, h48, h49, h50, hI51, hF52, hR53⟩ := hq41
      have hF54 := hF35.trans hF52 rfl rfl
      have hR55 := hR36.trans hR53 rfl
      refine Or.inr (Or.inl ⟨rfl, ?_⟩)
      refine r_l2i (i := 208) rfl ?_
      rw [vi_sg z42]
      have h56 := ysg_fact z42
      refine r_store (i := 209) (u := 10) (w := 0) (L1 := [some ((2, 43)), none, some (vi at0), some (vi (S9.f 43 56)), some (vl z23), none, none, none, none, none, some (vi (ysg z42)), none, none, none, none, none]) rfl rfl rfl rfl ?_
      refine r_const (i := 210) (u := 0) (z := 0) rfl rfl ?_
      refine r_store (i := 211) (u := 11) (w := 0) (L1 := [some ((2, 43)), none, some (vi at0), some (vi (S9.f 43 56)), some (vl z23), none, none, none, none, none, some (vi (ysg z42)), some (vi 0), none, none, none, none]) rfl rfl rfl rfl ?_
      refine yT_drop (L1 := [some ((2, 43)), none, none, some (vi (S9.f 43 56)), some (vl z23), none, none, none, none, none, some (vi (ysg z42)), some (vi 0), none, none, none, none]) rfl ?_
      have h57 := hI51.f tf43_57
      exact lp237_212   hd _ S40 hI51 hF54 hR55 (S9.f 43 56) z23 (ysg z42) 0 ⟨by omega, by omega⟩ ⟨by omega, by omega⟩ ⟨by omega, by omega⟩ ⟨by omega, by omega⟩ (by omega) (Int.lt_succ_toNat _)
    · exact r_ret0 (i := 194) rfl ⟨rfl, (by omega), hI, hF, hR⟩
theorem lp237_170 {G : xk} {d : Nat} {S0 : yS}  (hd : 5 ≤ d + 1) : ∀ (S : yS) (hI : yI S) (hF : yFr [(43, 56), (43, 57)] [] S0 S) (hR : yRm [] S0 S) (at0 bg ln : Int) (h_at0 : 0 ≤ at0 ∧ at0 ≤ 65535) (h_bg : 0 ≤ bg ∧ bg ≤ 23600) (h_ln : Rl ln) (q_0 : S0.f 43 57 ≠ -1 → S.f 43 57 ≠ -1), yT xPr G LY xC237 170 [some ((2, 43)), none, some (vi at0), some (vi bg), some (vl ln), none, none, none, none, none, none, none, none, none, none, none] [] S (d + 1) (fun r S' => r = (0, (0, 0)) ∧ (S0.f 43 57 ≠ -1 → S'.f 43 57 ≠ -1) ∧ yI S' ∧ yFr [(43, 56), (43, 57)] [] S0 S' ∧ yRm [] S0 S') := by
  intro S hI hF hR at0 bg ln h_at0 h_bg h_ln q_0
  have h1 := hI.f tf43_57
  refine r_load (i := 170) (u := 0) (w := 2) rfl rfl rfl ?_
  refine r_getf (i := 171) (v := 57) (w := 11) (x := vi (S.f 43 57)) rfl ly43 rfl rfl fun h2 => ?_
  have h2 : Rg (S.f 43 57) := h2
  refine r_const (i := 172) (u := 4294967295) (z := -1) rfl rfl ?_
  refine c_ne (i := 173) (v := 187) rfl ⟨by omega, by omega⟩ ⟨by omega, by omega⟩ (fun h3 => ?_) (fun h4 => ?_)
  · refine yT_drop (L1 := [some ((2, 43)), none, some (vi at0), none, none, none, none, none, none, none, none, none, none, none, none, none]) rfl ?_
    exact lp237_187   hd S hI hF hR at0 ⟨by omega, by omega⟩ (by omega) 
  · refine r_load (i := 174) (u := 4) (w := 1) rfl rfl rfl ?_
    refine r_load (i := 175) (u := 0) (w := 2) rfl rfl rfl ?_
    have h5 := hI.f tf43_56
    refine r_getf (i := 176) (v := 56) (w := 11) (x := vi (S.f 43 56)) rfl ly43 rfl rfl fun h6 => ?_
    have h6 : Rg (S.f 43 56) := h6
    refine r_load (i := 177) (u := 3) (w := 0) rfl rfl rfl ?_
    refine r_isub (i := 178) rfl ?_
    refine r_const (i := 179) (u := 4) (z := 4) rfl rfl ?_
    refine r_isub (i := 180) rfl ?_
    refine r_i2l (i := 181) rfl ⟨by omega, by omega⟩ ?_
    refine r_lcmp (i := 182) rfl ⟨by omega, by omega⟩ ⟨by omega, by omega⟩ (fun h7 => ?_) (fun h8 => ?_) (fun h9 => ?_)
    · refine z_eq (i := 183) (v := 187) rfl ⟨by omega, by omega⟩ (fun h10 => absurd h10 (by omega)) (fun h11 => ?_)
      refine r_load (i := 184) (u := 0) (w := 2) rfl rfl rfl ?_
      refine r_load (i := 185) (u := 3) (w := 0) rfl rfl rfl ?_
      refine r_putI (i := 186) (v := 57) (w := 11) rfl ly43 rfl ⟨by omega, by omega⟩ ?_
      have hI13 := hI.setf (b := 43) (w := 57) (z := bg) tf43_57 rfl (by omega) (by omega)
      have hF15 := hF.setf (b := 43) (w := 57) (z := bg) rfl
      have hR16 := hR.setf (b := 43) (w := 57) (z := bg)
      refine yT_gen (fun S12 hS14 => ?_)
      rw [hS14] at hI13 hF15 hR16 
      refine yT_drop (L1 := [some ((2, 43)), none, some (vi at0), none, none, none, none, none, none, none, none, none, none, none, none, none]) rfl ?_
      have h17 := hI13.f tf43_57
      have h18 : S12.f 43 57 = bg := by rw [← hS14]; exact ysf_eq
      exact lp237_187   hd S12 hI13 hF15 hR16 at0 ⟨by omega, by omega⟩ (by omega) 
    · refine z_eq (i := 183) (v := 187) rfl ⟨by omega, by omega⟩ (fun h19 => ?_) (fun h20 => absurd h20 (by omega))
      refine yT_drop (L1 := [some ((2, 43)), none, some (vi at0), none, none, none, none, none, none, none, none, none, none, none, none, none]) rfl ?_
      exact lp237_187   hd S hI hF hR at0 ⟨by omega, by omega⟩ (by omega) 
    · refine z_eq (i := 183) (v := 187) rfl ⟨by omega, by omega⟩ (fun h21 => absurd h21 (by omega)) (fun h22 => ?_)
      refine r_load (i := 184) (u := 0) (w := 2) rfl rfl rfl ?_
      refine r_load (i := 185) (u := 3) (w := 0) rfl rfl rfl ?_
      refine r_putI (i := 186) (v := 57) (w := 11) rfl ly43 rfl ⟨by omega, by omega⟩ ?_
      have hI24 := hI.setf (b := 43) (w := 57) (z := bg) tf43_57 rfl (by omega) (by omega)
      have hF26 := hF.setf (b := 43) (w := 57) (z := bg) rfl
      have hR27 := hR.setf (b := 43) (w := 57) (z := bg)
      refine yT_gen (fun S23 hS25 => ?_)
      rw [hS25] at hI24 hF26 hR27 
      refine yT_drop (L1 := [some ((2, 43)), none, some (vi at0), none, none, none, none, none, none, none, none, none, none, none, none, none]) rfl ?_
      have h28 := hI24.f tf43_57
      have h29 : S23.f 43 57 = bg := by rw [← hS25]; exact ysf_eq
      exact lp237_187   hd S23 hI24 hF26 hR27 at0 ⟨by omega, by omega⟩ (by omega) 
theorem lp237_153 {G : xk} {d : Nat} {S0 : yS}  (hd : 5 ≤ d + 1) : ∀ (S : yS) (hI : yI S) (hF : yFr [(43, 56), (43, 57)] [] S0 S) (hR : yRm [] S0 S) (at0 bg ln tb g0 : Int) (h_at0 : 0 ≤ at0 ∧ at0 ≤ 65535) (h_bg : 0 ≤ bg ∧ bg ≤ 23600) (h_ln : Rl ln) (h_tb : 0 ≤ tb ∧ tb ≤ 65535) (h_g0 : 0 ≤ g0 ∧ g0 ≤ 1) (q_0 : S0.f 43 57 ≠ -1 → S.f 43 57 ≠ -1), yT xPr G LY xC237 153 [some ((2, 43)), none, some (vi at0), some (vi bg), some (vl ln), none, none, none, none, some (vi tb), none, none, none, none, none, none] [vi g0, (2, 43)] S (d + 1) (fun r S' => r = (0, (0, 0)) ∧ (S0.f 43 57 ≠ -1 → S'.f 43 57 ≠ -1) ∧ yI S' ∧ yFr [(43, 56), (43, 57)] [] S0 S' ∧ yRm [] S0 S') := by
  intro S hI hF hR at0 bg ln tb g0 h_at0 h_bg h_ln h_tb h_g0 q_0
  have h1 := hI.f tf43_57
  refine r_const (i := 153) (u := 2) (z := 2) rfl rfl ?_
  refine r_call (i := 154) (u := 11) (v := 221) (w := 0) (b := 0) (na := 771) (C2 := xC221) (as := [(2, 43), vi g0, vi 2]) (s := []) rfl rfl rfl rfl rfl rfl rfl (sp221 (g0 := g0) (n0 := 2) hI ⟨by omega, by omega⟩ ⟨by omega, by omega⟩   (by omega)) (fun r2 S3 hq4 => ?_)
  obtain ⟨rfl, h5, hI6, hF7, hR8⟩ := hq4
  have hF9 := hF.trans hF7 rfl rfl
  have hR10 := hR.trans hR8 rfl
  refine Or.inl ⟨rfl, ?_⟩
  refine r_load (i := 155) (u := 9) (w := 0) rfl rfl rfl ?_
  refine r_const (i := 156) (u := 1) (z := 1) rfl rfl ?_
  refine c_ne (i := 157) (v := 170) rfl ⟨by omega, by omega⟩ ⟨by omega, by omega⟩ (fun h11 => ?_) (fun h12 => ?_)
  · refine yT_drop (L1 := [some ((2, 43)), none, some (vi at0), some (vi bg), some (vl ln), none, none, none, none, none, none, none, none, none, none, none]) rfl ?_
    have h13 := hI6.f tf43_57
    exact lp237_170   hd S3 hI6 hF9 hR10 at0 bg ln ⟨by omega, by omega⟩ ⟨by omega, by omega⟩ ⟨by omega, by omega⟩ (by omega) 
  · refine r_load (i := 158) (u := 0) (w := 2) rfl rfl rfl ?_
    have h14 := hI6.f tf43_57
    refine r_getf (i := 159) (v := 57) (w := 11) (x := vi (S3.f 43 57)) rfl ly43 rfl rfl fun h15 => ?_
    have h15 : Rg (S3.f 43 57) := h15
    refine r_const (i := 160) (u := 4294967295) (z := -1) rfl rfl ?_
    refine c_ne (i := 161) (v := 170) rfl ⟨by omega, by omega⟩ ⟨by omega, by omega⟩ (fun h16 => ?_) (fun h17 => ?_)
    · refine yT_drop (L1 := [some ((2, 43)), none, some (vi at0), some (vi bg), some (vl ln), none, none, none, none, none, none, none, none, none, none, none]) rfl ?_
      exact lp237_170   hd S3 hI6 hF9 hR10 at0 bg ln ⟨by omega, by omega⟩ ⟨by omega, by omega⟩ ⟨by omega, by omega⟩ (by omega) 
    · refine r_load (i := 162) (u := 0) (w := 2) rfl rfl rfl ?_
      refine r_str (i := 163) (v := 50) rfl ?_
      have h18 := slv50
      refine r_call (i := 164) (u := 11) (v := 253) (w := 0) (b := 0) (na := 1794) (C2 := xC253) (as := [(2, 43), (6, 50)]) (s := []) rfl rfl rfl rfl rfl rfl rfl (sp253 (s := 50) hI6 ⟨by decide, by decide⟩   (by omega)) (fun r19 S20 hq21 => ?_)
      obtain ⟨rfl, h22, hI23, hF24, hR25⟩ := hq21
      have hF26 := hF9.trans hF24 rfl rfl
      have hR27 := hR10.trans hR25 rfl
      refine Or.inl ⟨rfl, ?_⟩
      refine r_load (i := 165) (u := 0) (w := 2) rfl rfl rfl ?_
      refine r_load (i := 166) (u := 0) (w := 2) rfl rfl rfl ?_
      refine r_const (i := 167) (u := 4) (z := 4) rfl rfl ?_
      have h28 := hI23.f tf43_56
      have h29 := hI23.f tf43_57
      refine r_call (i := 168) (u := 11) (v := 223) (w := 0) (b := 0) (na := 1282) (C2 := xC223) (as := [(2, 43), vi 4]) (s := [(2, 43)]) rfl rfl rfl rfl rfl rfl rfl (sp223 (n0 := 4) hI23 ⟨by omega, by omega⟩   (by omega)) (fun r30 S31 hq32 => ?_)
      obtain ⟨z33, rfl, h34, h35, h36, h37, h38, h39, h40, h41, hI42, hF43, hR44⟩ := hq32
      have hF45 := hF26.trans hF43 rfl rfl
      have hR46 := hR27.trans hR44 rfl
      refine Or.inr (Or.inl ⟨rfl, ?_⟩)
      have h47 := hI42.f tf43_57
      have h48 := hI42.f tf43_56
      refine r_call (i := 169) (u := 11) (v := 230) (w := 0) (b := 0) (na := 770) (C2 := xC230) (as := [(2, 43), vl z33]) (s := []) rfl rfl rfl rfl rfl rfl rfl (sp230 (v := z33) hI42 ⟨by omega, by omega⟩ (by omega)  (by omega)) (fun r49 S50 hq51 => ?_)
      obtain ⟨rfl, h52, h53, h54, hI55, hF56, hR57⟩ := hq51
      have hF58 := hF45.trans hF56 rfl rfl
      have hR59 := hR46.trans hR57 rfl
      refine Or.inl ⟨rfl, ?_⟩
      refine yT_drop (L1 := [some ((2, 43)), none, some (vi at0), some (vi bg), some (vl ln), none, none, none, none, none, none, none, none, none, none, none]) rfl ?_
      have h60 := hI55.f tf43_57
      exact lp237_170   hd S50 hI55 hF58 hR59 at0 bg ln ⟨by omega, by omega⟩ ⟨by omega, by omega⟩ ⟨by omega, by omega⟩ (by omega) 
theorem lp237_93 {G : xk} {d : Nat} {S0 : yS}  (hd : 5 ≤ d + 1) : ∀ (n : Nat), ∀ (S : yS) (hI : yI S) (hF : yFr [(43, 56), (43, 57)] [] S0 S) (hR : yRm [] S0 S) (at0 bg ln bt hn0 k : Int) (h_at0 : 0 ≤ at0 ∧ at0 ≤ 65535) (h_bg : 0 ≤ bg ∧ bg ≤ 23600) (h_ln : Rl ln) (h_bt : Rl bt) (h_hn0 : 0 ≤ hn0 ∧ hn0 ≤ 65535) (h_k : 0 ≤ k ∧ k ≤ 65535) (q_0 : S0.f 43 57 ≠ -1 → S.f 43 57 ≠ -1) (q_1 : 0 ≤ bt) (hn : 65536 - k < (n : Nat)), yT xPr G LY xC237 93 [some ((2, 43)), none, some (vi at0), some (vi bg), some (vl ln), none, some (vl bt), none, some (vi hn0), some (vi k), none, none, none, none, none, none] [] S (d + 1) (fun r S' => r = (0, (0, 0)) ∧ (S0.f 43 57 ≠ -1 → S'.f 43 57 ≠ -1) ∧ yI S' ∧ yFr [(43, 56), (43, 57)] [] S0 S' ∧ yRm [] S0 S') := by
  intro n
  induction n with
  | zero => intro S hI hF hR at0 bg ln bt hn0 k h_at0 h_bg h_ln h_bt h_hn0 h_k q_0 q_1 hn; exact absurd hn (by omega)
  | succ n ih =>
    intro S hI hF hR at0 bg ln bt hn0 k h_at0 h_bg h_ln h_bt h_hn0 h_k q_0 q_1 hn
    have h1 := hI.f tf43_57
    refine r_load (i := 93) (u := 9) (w := 0) rfl rfl rfl ?_
    refine r_load (i := 94) (u := 8) (w := 0) rfl rfl rfl ?_
    refine c_ge (i := 95) (v := 141) rfl ⟨by omega, by omega⟩ ⟨by omega, by omega⟩ (fun h2 => ?_) (fun h3 => ?_)
    · refine r_load (i := 141) (u := 0) (w := 2) rfl rfl rfl ?_
      refine r_const (i := 142) (u := 2) (z := 2) rfl rfl ?_
      have h4 := hI.f tf43_56
      refine r_call (i := 143) (u := 11) (v := 223) (w := 0) (b := 0) (na := 1282) (C2 := xC223) (as := [(2, 43), vi 2]) (s := []) rfl rfl rfl rfl rfl rfl rfl (sp223 (n0 := 2) hI ⟨by omega, by omega⟩   (by omega)) (fun r5 S6 hq7 => ?_)
      obtain ⟨z8, rfl, h9, h10, h11, h12, h13, h14, h15, h16, hI17, hF18, hR19⟩ := hq7
      have hF20 := hF.trans hF18 rfl rfl
      have hR21 := hR.trans hR19 rfl
      refine Or.inr (Or.inl ⟨rfl, ?_⟩)
      refine r_l2i (i := 144) rfl ?_
      rw [vi_sg z8]
      have h22 := ysg_fact z8
      refine r_store (i := 145) (u := 9) (w := 0) (L1 := [some ((2, 43)), none, some (vi at0), some (vi bg), some (vl ln), none, some (vl bt), none, some (vi hn0), some (vi (ysg z8)), none, none, none, none, none, none]) rfl rfl rfl rfl ?_
      refine r_load (i := 146) (u := 0) (w := 2) rfl rfl rfl ?_
      refine r_load (i := 147) (u := 9) (w := 0) rfl rfl rfl ?_
      refine r_const (i := 148) (u := 2) (z := 2) rfl rfl ?_
      refine c_ge (i := 149) (v := 152) rfl ⟨by omega, by omega⟩ ⟨by omega, by omega⟩ (fun h23 => ?_) (fun h24 => ?_)
      · refine r_const (i := 152) (u := 0) (z := 0) rfl rfl ?_
        refine yT_drop (L1 := [some ((2, 43)), none, some (vi at0), some (vi bg), some (vl ln), none, none, none, none, some (vi (ysg z8)), none, none, none, none, none, none]) rfl ?_
        have h25 := hI17.f tf43_57
        exact lp237_153   hd S6 hI17 hF20 hR21 at0 bg ln (ysg z8) 0 ⟨by omega, by omega⟩ ⟨by omega, by omega⟩ ⟨by omega, by omega⟩ ⟨by omega, by omega⟩ ⟨by omega, by omega⟩ (by omega) 
      · refine r_const (i := 150) (u := 1) (z := 1) rfl rfl ?_
        refine r_goto (i := 151) (v := 153) rfl ?_
        refine yT_drop (L1 := [some ((2, 43)), none, some (vi at0), some (vi bg), some (vl ln), none, none, none, none, some (vi (ysg z8)), none, none, none, none, none, none]) rfl ?_
        have h26 := hI17.f tf43_57
        exact lp237_153   hd S6 hI17 hF20 hR21 at0 bg ln (ysg z8) 1 ⟨by omega, by omega⟩ ⟨by omega, by omega⟩ ⟨by omega, by omega⟩ ⟨by omega, by omega⟩ ⟨by omega, by omega⟩ (by omega) 
    · refine r_load (i := 96) (u := 0) (w := 2) rfl rfl rfl ?_
      refine r_getf (i := 97) (v := 57) (w := 11) (x := vi (S.f 43 57)) rfl ly43 rfl rfl fun h27 => ?_
      have h27 : Rg (S.f 43 57) := h27
      refine r_const (i := 98) (u := 4294967295) (z := -1) rfl rfl ?_
      refine c_ne (i := 99) (v := 141) rfl ⟨by omega, by omega⟩ ⟨by omega, by omega⟩ (fun h28 => ?_) (fun h29 => ?_)
      · refine r_load (i := 141) (u := 0) (w := 2) rfl rfl rfl ?_
        refine r_const (i := 142) (u := 2) (z := 2) rfl rfl ?_
        have h30 := hI.f tf43_56
        refine r_call (i := 143) (u := 11) (v := 223) (w := 0) (b := 0) (na := 1282) (C2 := xC223) (as := [(2, 43), vi 2]) (s := []) rfl rfl rfl rfl rfl rfl rfl (sp223 (n0 := 2) hI ⟨by omega, by omega⟩   (by omega)) (fun r31 S32 hq33 => ?_)
        obtain ⟨z34, rfl, h35, h36, h37, h38, h39, h40, h41, h42, hI43, hF44, hR45⟩ := hq33
        have hF46 := hF.trans hF44 rfl rfl
        have hR47 := hR.trans hR45 rfl
        refine Or.inr (Or.inl ⟨rfl, ?_⟩)
        refine r_l2i (i := 144) rfl ?_
        rw [vi_sg z34]
        have h48 := ysg_fact z34
        refine r_store (i := 145) (u := 9) (w := 0) (L1 := [some ((2, 43)), none, some (vi at0), some (vi bg), some (vl ln), none, some (vl bt), none, some (vi hn0), some (vi (ysg z34)), none, none, none, none, none, none]) rfl rfl rfl rfl ?_
        refine r_load (i := 146) (u := 0) (w := 2) rfl rfl rfl ?_
        refine r_load (i := 147) (u := 9) (w := 0) rfl rfl rfl ?_
        refine r_const (i := 148) (u := 2) (z := 2) rfl rfl ?_
        refine c_ge (i := 149) (v := 152) rfl ⟨by omega, by omega⟩ ⟨by omega, by omega⟩ (fun h49 => ?_) (fun h50 => ?_)
        · refine r_const (i := 152) (u := 0) (z := 0) rfl rfl ?_
          refine yT_drop (L1 := [some ((2, 43)), none, some (vi at0), some (vi bg), some (vl ln), none, none, none, none, some (vi (ysg z34)), none, none, none, none, none, none]) rfl ?_
          have h51 := hI43.f tf43_57
          exact lp237_153   hd S32 hI43 hF46 hR47 at0 bg ln (ysg z34) 0 ⟨by omega, by omega⟩ ⟨by omega, by omega⟩ ⟨by omega, by omega⟩ ⟨by omega, by omega⟩ ⟨by omega, by omega⟩ (by omega) 
        · refine r_const (i := 150) (u := 1) (z := 1) rfl rfl ?_
          refine r_goto (i := 151) (v := 153) rfl ?_
          refine yT_drop (L1 := [some ((2, 43)), none, some (vi at0), some (vi bg), some (vl ln), none, none, none, none, some (vi (ysg z34)), none, none, none, none, none, none]) rfl ?_
          have h52 := hI43.f tf43_57
          exact lp237_153   hd S32 hI43 hF46 hR47 at0 bg ln (ysg z34) 1 ⟨by omega, by omega⟩ ⟨by omega, by omega⟩ ⟨by omega, by omega⟩ ⟨by omega, by omega⟩ ⟨by omega, by omega⟩ (by omega) 
      · refine r_load (i := 100) (u := 0) (w := 2) rfl rfl rfl ?_
        refine r_const (i := 101) (u := 2) (z := 2) rfl rfl ?_
        have h53 := hI.f tf43_56
        refine r_call (i := 102) (u := 11) (v := 223) (w := 0) (b := 0) (na := 1282) (C2 := xC223) (as := [(2, 43), vi 2]) (s := []) rfl rfl rfl rfl rfl rfl rfl (sp223 (n0 := 2) hI ⟨by omega, by omega⟩   (by omega)) (fun r54 S55 hq56 => ?_)
        obtain ⟨z57, rfl, h58, h59, h60, h61, h62, h63, h64, h65, hI66, hF67, hR68⟩ := hq56
        have hF69 := hF.trans hF67 rfl rfl
        have hR70 := hR.trans hR68 rfl
        refine Or.inr (Or.inl ⟨rfl, ?_⟩)
        refine r_store (i := 103) (u := 10) (w := 1) (L1 := [some ((2, 43)), none, some (vi at0), some (vi bg), some (vl ln), none, some (vl bt), none, some (vi hn0), some (vi k), some (vl z57), none, none, none, none, none]) rfl rfl rfl rfl ?_
        refine r_load (i := 104) (u := 0) (w := 2) rfl rfl rfl ?_
        refine r_const (i := 105) (u := 2) (z := 2) rfl rfl ?_
        have h71 := hI66.f tf43_56
        have h72 := hI66.f tf43_57
        refine r_call (i := 106) (u := 11) (v := 223) (w := 0) (b := 0) (na := 1282) (C2 := xC223) (as := [(2, 43), vi 2]) (s := []) rfl rfl rfl rfl rfl rfl rfl (sp223 (n0 := 2) hI66 ⟨by omega, by omega⟩   (by omega)) (fun r73 S74 hq75 => ?_)
        obtain ⟨z76, rfl, h77, h78, h79, h80, h81, h82, h83, h84, hI85, hF86, hR87⟩ := hq75
        have hF88 := hF69.trans hF86 rfl rfl
        have hR89 := hR70.trans hR87 rfl
        refine Or.inr (Or.inl ⟨rfl, ?_⟩)
        refine r_store (i := 107) (u := 12) (w := 1) (L1 := [some ((2, 43)), none, some (vi at0), some (vi bg), some (vl ln), none, some (vl bt), none, some (vi hn0), some (vi k), some (vl z57), none, some (vl z76), none, none, none]) rfl rfl rfl rfl ?_
        refine r_load (i := 108) (u := 0) (w := 2) rfl rfl rfl ?_
        refine r_load (i := 109) (u := 12) (w := 1) rfl rfl rfl ?_
        refine r_load (i := 110) (u := 10) (w := 1) rfl rfl rfl ?_
        refine r_lcmp (i := 111) rfl ⟨by omega, by omega⟩ ⟨by omega, by omega⟩ (fun h90 => ?_) (fun h91 => ?_) (fun h92 => ?_)
        · refine z_le (i := 112) (v := 119) rfl ⟨by omega, by omega⟩ (fun h93 => ?_) (fun h94 => absurd h94 (by omega))
          refine r_const (i := 119) (u := 0) (z := 0) rfl rfl ?_
          have h95 := hI85.f tf43_57
          exact lp237_120   hd (at0 := at0) (bg := bg) (ln := ln) (bt := bt) (hn0 := hn0) (k := k) ⟨by omega, by omega⟩ ⟨by omega, by omega⟩ ⟨by omega, by omega⟩ ⟨by omega, by omega⟩ ⟨by omega, by omega⟩ ⟨by omega, by omega⟩ n ih (by omega) S74 hI85 hF88 hR89 z57 z76 0 ⟨by omega, by omega⟩ ⟨by omega, by omega⟩ ⟨by omega, by omega⟩ (by omega) (by omega) (by omega) 
        · refine z_le (i := 112) (v := 119) rfl ⟨by omega, by omega⟩ (fun h96 => ?_) (fun h97 => absurd h97 (by omega))
          refine r_const (i := 119) (u := 0) (z := 0) rfl rfl ?_
          have h98 := hI85.f tf43_57
          exact lp237_120   hd (at0 := at0) (bg := bg) (ln := ln) (bt := bt) (hn0 := hn0) (k := k) ⟨by omega, by omega⟩ ⟨by omega, by omega⟩ ⟨by omega, by omega⟩ ⟨by omega, by omega⟩ ⟨by omega, by omega⟩ ⟨by omega, by omega⟩ n ih (by omega) S74 hI85 hF88 hR89 z57 z76 0 ⟨by omega, by omega⟩ ⟨by omega, by omega⟩ ⟨by omega, by omega⟩ (by omega) (by omega) (by omega) 
        · refine z_le (i := 112) (v := 119) rfl ⟨by omega, by omega⟩ (fun h99 => absurd h99 (by omega)) (fun h100 => ?_)
          refine r_load (i := 113) (u := 12) (w := 1) rfl rfl rfl ?_
          refine r_load (i := 114) (u := 6) (w := 1) rfl rfl rfl ?_
          refine r_lcmp (i := 115) rfl ⟨by omega, by omega⟩ ⟨by omega, by omega⟩ (fun h101 => ?_) (fun h102 => ?_) (fun h103 => ?_)
          · refine z_ge (i := 116) (v := 119) rfl ⟨by omega, by omega⟩ (fun h104 => absurd h104 (by omega)) (fun h105 => ?_)
            refine r_const (i := 117) (u := 1) (z := 1) rfl rfl ?_
            refine r_goto (i := 118) (v := 120) rfl ?_
            have h106 := hI85.f tf43_57
            exact lp237_120   hd (at0 := at0) (bg := bg) (ln := ln) (bt := bt) (hn0 := hn0) (k := k) ⟨by omega, by omega⟩ ⟨by omega, by omega⟩ ⟨by omega, by omega⟩ ⟨by omega, by omega⟩ ⟨by omega, by omega⟩ ⟨by omega, by omega⟩ n ih (by omega) S74 hI85 hF88 hR89 z57 z76 1 ⟨by omega, by omega⟩ ⟨by omega, by omega⟩ ⟨by omega, by omega⟩ (by omega) (by omega) (by omega) 
          · refine z_ge (i := 116) (v := 119) rfl ⟨by omega, by omega⟩ (fun h107 => ?_) (fun h108 => absurd h108 (by omega))
            refine r_const (i := 119) (u := 0) (z := 0) rfl rfl ?_
            have h109 := hI85.f tf43_57
            exact lp237_120   hd (at0 := at0) (bg := bg) (ln := ln) (bt := bt) (hn0 := hn0) (k := k) ⟨by omega, by omega⟩ ⟨by omega, by omega⟩ ⟨by omega, by omega⟩ ⟨by omega, by omega⟩ ⟨by omega, by omega⟩ ⟨by omega, by omega⟩ n ih (by omega) S74 hI85 hF88 hR89 z57 z76 0 ⟨by omega, by omega⟩ ⟨by omega, by omega⟩ ⟨by omega, by omega⟩ (by omega) (by omega) (by omega) 
          · refine z_ge (i := 116) (v := 119) rfl ⟨by omega, by omega⟩ (fun h110 => ?_) (fun h111 => absurd h111 (by omega))
            refine r_const (i := 119) (u := 0) (z := 0) rfl rfl ?_
            have h112 := hI85.f tf43_57
            exact lp237_120   hd (at0 := at0) (bg := bg) (ln := ln) (bt := bt) (hn0 := hn0) (k := k) ⟨by omega, by omega⟩ ⟨by omega, by omega⟩ ⟨by omega, by omega⟩ ⟨by omega, by omega⟩ ⟨by omega, by omega⟩ ⟨by omega, by omega⟩ n ih (by omega) S74 hI85 hF88 hR89 z57 z76 0 ⟨by omega, by omega⟩ ⟨by omega, by omega⟩ ⟨by omega, by omega⟩ (by omega) (by omega) (by omega) 
theorem lp237_81 {G : xk} {d : Nat} {S0 : yS}  (hd : 5 ≤ d + 1) : ∀ (S : yS) (hI : yI S) (hF : yFr [(43, 56), (43, 57)] [] S0 S) (hR : yRm [] S0 S) (at0 bg ln bt g0 : Int) (h_at0 : 0 ≤ at0 ∧ at0 ≤ 65535) (h_bg : 0 ≤ bg ∧ bg ≤ 23600) (h_ln : Rl ln) (h_bt : Rl bt) (h_g0 : 0 ≤ g0 ∧ g0 ≤ 1) (q_0 : S0.f 43 57 ≠ -1 → S.f 43 57 ≠ -1) (q_1 : 0 ≤ bt), yT xPr G LY xC237 81 [some ((2, 43)), none, some (vi at0), some (vi bg), some (vl ln), none, some (vl bt), none, none, none, none, none, none, none, none, none] [vi g0, (2, 43)] S (d + 1) (fun r S' => r = (0, (0, 0)) ∧ (S0.f 43 57 ≠ -1 → S'.f 43 57 ≠ -1) ∧ yI S' ∧ yFr [(43, 56), (43, 57)] [] S0 S' ∧ yRm [] S0 S') := by
  intro S hI hF hR at0 bg ln bt g0 h_at0 h_bg h_ln h_bt h_g0 q_0 q_1
  have h1 := hI.f tf43_57
  refine r_const (i := 81) (u := 4) (z := 4) rfl rfl ?_
  refine r_call (i := 82) (u := 11) (v := 221) (w := 0) (b := 0) (na := 771) (C2 := xC221) (as := [(2, 43), vi g0, vi 4]) (s := []) rfl rfl rfl rfl rfl rfl rfl (sp221 (g0 := g0) (n0 := 4) hI ⟨by omega, by omega⟩ ⟨by omega, by omega⟩   (by omega)) (fun r2 S3 hq4 => ?_)
  obtain ⟨rfl, h5, hI6, hF7, hR8⟩ := hq4
  have hF9 := hF.trans hF7 rfl rfl
  have hR10 := hR.trans hR8 rfl
  refine Or.inl ⟨rfl, ?_⟩
  refine r_load (i := 83) (u := 0) (w := 2) rfl rfl rfl ?_
  refine r_load (i := 84) (u := 6) (w := 1) rfl rfl rfl ?_
  have h11 := hI6.f tf43_57
  have h12 := hI6.f tf43_56
  have h13 : S3.f 43 56 = S.f 43 56 := hF7.f rfl
  refine r_call (i := 85) (u := 11) (v := 230) (w := 0) (b := 0) (na := 770) (C2 := xC230) (as := [(2, 43), vl bt]) (s := []) rfl rfl rfl rfl rfl rfl rfl (sp230 (v := bt) hI6 ⟨by omega, by omega⟩ (by omega)  (by omega)) (fun r14 S15 hq16 => ?_)
  obtain ⟨rfl, h17, h18, h19, hI20, hF21, hR22⟩ := hq16
  have hF23 := hF9.trans hF21 rfl rfl
  have hR24 := hR10.trans hR22 rfl
  refine Or.inl ⟨rfl, ?_⟩
  refine r_load (i := 86) (u := 0) (w := 2) rfl rfl rfl ?_
  refine r_const (i := 87) (u := 2) (z := 2) rfl rfl ?_
  have h25 := hI20.f tf43_56
  have h26 := hI20.f tf43_57
  refine r_call (i := 88) (u := 11) (v := 223) (w := 0) (b := 0) (na := 1282) (C2 := xC223) (as := [(2, 43), vi 2]) (s := []) rfl rfl rfl rfl rfl rfl rfl (sp223 (n0 := 2) hI20 ⟨by omega, by omega⟩   (by omega)) (fun r27 S28 hq29 => ?_)
  obtain ⟨z30, rfl, h31, h32, h33, h34, h35, h36, h37, h38, hI39, hF40, hR41⟩ := hq29
  have hF42 := hF23.trans hF40 rfl rfl
  have hR43 := hR24.trans hR41 rfl
  refine Or.inr (Or.inl ⟨rfl, ?_⟩)
  refine r_l2i (i := 89) rfl ?_
  rw [vi_sg z30]
  have h44 := ysg_fact z30
  refine r_store (i := 90) (u := 8) (w := 0) (L1 := [some ((2, 43)), none, some (vi at0), some (vi bg), some (vl ln), none, some (vl bt), none, some (vi (ysg z30)), none, none, none, none, none, none, none]) rfl rfl rfl rfl ?_
  refine r_const (i := 91) (u := 0) (z := 0) rfl rfl ?_
  refine r_store (i := 92) (u := 9) (w := 0) (L1 := [some ((2, 43)), none, some (vi at0), some (vi bg), some (vl ln), none, some (vl bt), none, some (vi (ysg z30)), some (vi 0), none, none, none, none, none, none]) rfl rfl rfl rfl ?_
  have h45 := hI39.f tf43_57
  exact lp237_93   hd _ S28 hI39 hF42 hR43 at0 bg ln bt (ysg z30) 0 ⟨by omega, by omega⟩ ⟨by omega, by omega⟩ ⟨by omega, by omega⟩ ⟨by omega, by omega⟩ ⟨by omega, by omega⟩ ⟨by omega, by omega⟩ (by omega) (by omega) (Int.lt_succ_toNat _)
theorem lp237_49 {G : xk} {d : Nat} {S0 : yS}  (hd : 5 ≤ d + 1) : ∀ (S : yS) (hI : yI S) (hF : yFr [(43, 56), (43, 57)] [] S0 S) (hR : yRm [] S0 S) (at0 g0 : Int) (h_at0 : 0 ≤ at0 ∧ at0 ≤ 65535) (h_g0 : 0 ≤ g0 ∧ g0 ≤ 1) (q_0 : S0.f 43 57 ≠ -1 → S.f 43 57 ≠ -1), yT xPr G LY xC237 49 [some ((2, 43)), none, some (vi at0), none, none, none, none, none, none, none, none, none, none, none, none, none] [vi g0, (2, 43)] S (d + 1) (fun r S' => r = (0, (0, 0)) ∧ (S0.f 43 57 ≠ -1 → S'.f 43 57 ≠ -1) ∧ yI S' ∧ yFr [(43, 56), (43, 57)] [] S0 S' ∧ yRm [] S0 S') := by
  intro S hI hF hR at0 g0 h_at0 h_g0 q_0
  have h1 := hI.f tf43_57
  refine r_const (i := 49) (u := 2) (z := 2) rfl rfl ?_
  refine r_call (i := 50) (u := 11) (v := 221) (w := 0) (b := 0) (na := 771) (C2 := xC221) (as := [(2, 43), vi g0, vi 2]) (s := []) rfl rfl rfl rfl rfl rfl rfl (sp221 (g0 := g0) (n0 := 2) hI ⟨by omega, by omega⟩ ⟨by omega, by omega⟩   (by omega)) (fun r2 S3 hq4 => ?_)
  obtain ⟨rfl, h5, hI6, hF7, hR8⟩ := hq4
  have hF9 := hF.trans hF7 rfl rfl
  have hR10 := hR.trans hR8 rfl
  refine Or.inl ⟨rfl, ?_⟩
  refine r_load (i := 51) (u := 0) (w := 2) rfl rfl rfl ?_
  refine r_str (i := 52) (v := 49) rfl ?_
  have h11 := slv49
  have h12 := hI6.f tf43_57
  refine r_call (i := 53) (u := 11) (v := 253) (w := 0) (b := 0) (na := 1794) (C2 := xC253) (as := [(2, 43), (6, 49)]) (s := []) rfl rfl rfl rfl rfl rfl rfl (sp253 (s := 49) hI6 ⟨by decide, by decide⟩   (by omega)) (fun r13 S14 hq15 => ?_)
  obtain ⟨rfl, h16, hI17, hF18, hR19⟩ := hq15
  have hF20 := hF9.trans hF18 rfl rfl
  have hR21 := hR10.trans hR19 rfl
  refine Or.inl ⟨rfl, ?_⟩
  refine r_load (i := 54) (u := 0) (w := 2) rfl rfl rfl ?_
  have h22 := hI17.f tf43_56
  refine r_getf (i := 55) (v := 56) (w := 11) (x := vi (S14.f 43 56)) rfl ly43 rfl rfl fun h23 => ?_
  have h23 : Rg (S14.f 43 56) := h23
  refine r_store (i := 56) (u := 3) (w := 0) (L1 := [some ((2, 43)), none, some (vi at0), some (vi (S14.f 43 56)), none, none, none, none, none, none, none, none, none, none, none, none]) rfl rfl rfl rfl ?_
  refine r_load (i := 57) (u := 0) (w := 2) rfl rfl rfl ?_
  refine r_const (i := 58) (u := 4) (z := 4) rfl rfl ?_
  have h24 := hI17.f tf43_57
  refine r_call (i := 59) (u := 11) (v := 223) (w := 0) (b := 0) (na := 1282) (C2 := xC223) (as := [(2, 43), vi 4]) (s := []) rfl rfl rfl rfl rfl rfl rfl (sp223 (n0 := 4) hI17 ⟨by omega, by omega⟩   (by omega)) (fun r25 S26 hq27 => ?_)
  obtain ⟨z28, rfl, h29, h30, h31, h32, h33, h34, h35, h36, hI37, hF38, hR39⟩ := hq27
  have hF40 := hF20.trans hF38 rfl rfl
  have hR41 := hR21.trans hR39 rfl
  refine Or.inr (Or.inl ⟨rfl, ?_⟩)
  refine r_store (i := 60) (u := 4) (w := 1) (L1 := [some ((2, 43)), none, some (vi at0), some (vi (S14.f 43 56)), some (vl z28), none, none, none, none, none, none, none, none, none, none, none]) rfl rfl rfl rfl ?_
  refine r_load (i := 61) (u := 0) (w := 2) rfl rfl rfl ?_
  refine r_const (i := 62) (u := 2) (z := 2) rfl rfl ?_
  have h42 := hI37.f tf43_56
  have h43 := hI37.f tf43_57
  refine r_call (i := 63) (u := 11) (v := 223) (w := 0) (b := 0) (na := 1282) (C2 := xC223) (as := [(2, 43), vi 2]) (s := []) rfl rfl rfl rfl rfl rfl rfl (sp223 (n0 := 2) hI37 ⟨by omega, by omega⟩   (by omega)) (fun r44 S45 hq46 => ?_)
  obtain ⟨z47, rfl, h48, h49, h50, h51, h52, h53, h54, h55, hI56, hF57, hR58⟩ := hq46
  have hF59 := hF40.trans hF57 rfl rfl
  have hR60 := hR41.trans hR58 rfl
  refine Or.inr (Or.inl ⟨rfl, ?_⟩)
  refine r_pop2 (i := 64) rfl rfl ?_
  refine r_load (i := 65) (u := 0) (w := 2) rfl rfl rfl ?_
  refine r_const (i := 66) (u := 2) (z := 2) rfl rfl ?_
  have h61 := hI56.f tf43_56
  have h62 := hI56.f tf43_57
  refine r_call (i := 67) (u := 11) (v := 223) (w := 0) (b := 0) (na := 1282) (C2 := xC223) (as := [(2, 43), vi 2]) (s := []) rfl rfl rfl rfl rfl rfl rfl (sp223 (n0 := 2) hI56 ⟨by omega, by omega⟩   (by omega)) (fun r63 S64 hq65 => ?_)
  obtain ⟨z66, rfl, h67, h68, h69, h70, h71, h72, h73, h74, hI75, hF76, hR77⟩ := hq65
  have hF78 := hF59.trans hF76 rfl rfl
  have hR79 := hR60.trans hR77 rfl
  refine Or.inr (Or.inl ⟨rfl, ?_⟩)
  refine r_pop2 (i := 68) rfl rfl ?_
  refine r_load (i := 69) (u := 0) (w := 2) rfl rfl rfl ?_
  refine r_const (i := 70) (u := 4) (z := 4) rfl rfl ?_
  have h80 := hI75.f tf43_56
  have h81 := hI75.f tf43_57
  refine r_call (i := 71) (u := 11) (v := 223) (w := 0) (b := 0) (na := 1282) (C2 := xC223) (as := [(2, 43), vi 4]) (s := []) rfl rfl rfl rfl rfl rfl rfl (sp223 (n0 := 4) hI75 ⟨by omega, by omega⟩   (by omega)) (fun r82 S83 hq84 => ?_)
  obtain ⟨z85, rfl, h86, h87, h88, h89, h90, h91, h92, h93, hI94, hF95, hR96⟩ := hq84
  have hF97 := hF78.trans hF95 rfl rfl
  have hR98 := hR79.trans hR96 rfl
  refine Or.inr (Or.inl ⟨rfl, ?_⟩)
  refine r_store (i := 72) (u := 6) (w := 1) (L1 := [some ((2, 43)), none, some (vi at0), some (vi (S14.f 43 56)), some (vl z28), none, some (vl z85), none, none, none, none, none, none, none, none, none]) rfl rfl rfl rfl ?_
  refine r_load (i := 73) (u := 0) (w := 2) rfl rfl rfl ?_
  refine r_load (i := 74) (u := 6) (w := 1) rfl rfl rfl ?_
  refine r_lconst (i := 75) (u := 0) (z := 0) rfl rfl ?_
  refine r_lcmp (i := 76) rfl ⟨by omega, by omega⟩ ⟨by omega, by omega⟩ (fun h99 => ?_) (fun h100 => ?_) (fun h101 => ?_)
  · refine z_le (i := 77) (v := 80) rfl ⟨by omega, by omega⟩ (fun h102 => ?_) (fun h103 => absurd h103 (by omega))
    refine r_const (i := 80) (u := 0) (z := 0) rfl rfl ?_
    have h104 := hI94.f tf43_57
    exact lp237_81   hd S83 hI94 hF97 hR98 at0 (S14.f 43 56) z28 z85 0 ⟨by omega, by omega⟩ ⟨by omega, by omega⟩ ⟨by omega, by omega⟩ ⟨by omega, by omega⟩ ⟨by omega, by omega⟩ (by omega) (by omega) 
  · refine z_le (i := 77) (v := 80) rfl ⟨by omega, by omega⟩ (fun h105 => ?_) (fun h106 => absurd h106 (by omega))
    refine r_const (i := 80) (u := 0) (z := 0) rfl rfl ?_
    have h107 := hI94.f tf43_57
    exact lp237_81   hd S83 hI94 hF97 hR98 at0 (S14.f 43 56) z28 z85 0 ⟨by omega, by omega⟩ ⟨by omega, by omega⟩ ⟨by omega, by omega⟩ ⟨by omega, by omega⟩ ⟨by omega, by omega⟩ (by omega) (by omega) 
  · refine z_le (i := 77) (v := 80) rfl ⟨by omega, by omega⟩ (fun h108 => absurd h108 (by omega)) (fun h109 => ?_)
    refine r_const (i := 78) (u := 1) (z := 1) rfl rfl ?_
    refine r_goto (i := 79) (v := 81) rfl ?_
    have h110 := hI94.f tf43_57
    exact lp237_81   hd S83 hI94 hF97 hR98 at0 (S14.f 43 56) z28 z85 1 ⟨by omega, by omega⟩ ⟨by omega, by omega⟩ ⟨by omega, by omega⟩ ⟨by omega, by omega⟩ ⟨by omega, by omega⟩ (by omega) (by omega) 
theorem lp237_26 {G : xk} {d : Nat} {S0 : yS}  (hd : 5 ≤ d + 1) : ∀ (S : yS) (hI : yI S) (hF : yFr [(43, 56), (43, 57)] [] S0 S) (hR : yRm [] S0 S) (ac g0 : Int) (h_ac : 0 ≤ ac ∧ ac ≤ 65535) (h_g0 : 0 ≤ g0 ∧ g0 ≤ 1) (q_0 : S0.f 43 57 ≠ -1 → S.f 43 57 ≠ -1), yT xPr G LY xC237 26 [some ((2, 43)), some (vi ac), none, none, none, none, none, none, none, none, none, none, none, none, none, none] [vi g0, (2, 43)] S (d + 1) (fun r S' => r = (0, (0, 0)) ∧ (S0.f 43 57 ≠ -1 → S'.f 43 57 ≠ -1) ∧ yI S' ∧ yFr [(43, 56), (43, 57)] [] S0 S' ∧ yRm [] S0 S') := by
  intro S hI hF hR ac g0 h_ac h_g0 q_0
  have h1 := hI.f tf43_57
  refine r_const (i := 26) (u := 2) (z := 2) rfl rfl ?_
  refine r_call (i := 27) (u := 11) (v := 221) (w := 0) (b := 0) (na := 771) (C2 := xC221) (as := [(2, 43), vi g0, vi 2]) (s := []) rfl rfl rfl rfl rfl rfl rfl (sp221 (g0 := g0) (n0 := 2) hI ⟨by omega, by omega⟩ ⟨by omega, by omega⟩   (by omega)) (fun r2 S3 hq4 => ?_)
  obtain ⟨rfl, h5, hI6, hF7, hR8⟩ := hq4
  have hF9 := hF.trans hF7 rfl rfl
  have hR10 := hR.trans hR8 rfl
  refine Or.inl ⟨rfl, ?_⟩
  refine r_load (i := 28) (u := 0) (w := 2) rfl rfl rfl ?_
  refine r_const (i := 29) (u := 1) (z := 1) rfl rfl ?_
  have h11 := hI6.f tf43_56
  have h12 : S3.f 43 56 = S.f 43 56 := hF7.f rfl
  have h13 := hI6.f tf43_57
  refine r_call (i := 30) (u := 11) (v := 200) (w := 0) (b := 0) (na := 1026) (C2 := xC200) (as := [(2, 43), vi 1]) (s := []) rfl rfl rfl rfl rfl rfl rfl (sp200 (k := 1) hI6 ⟨by omega, by omega⟩   (by omega)) (fun r14 S15 hq16 => ?_)
  obtain ⟨rfl, h17, h18, h19, hI20, hF21, hR22⟩ := hq16
  have hF23 := hF9.trans hF21 rfl rfl
  have hR24 := hR10.trans hR22 rfl
  refine Or.inl ⟨rfl, ?_⟩
  refine r_load (i := 31) (u := 0) (w := 2) rfl rfl rfl ?_
  refine r_const (i := 32) (u := 1) (z := 1) rfl rfl ?_
  have h25 := hI20.f tf43_56
  have h26 := hI20.f tf43_57
  refine r_call (i := 33) (u := 11) (v := 200) (w := 0) (b := 0) (na := 1026) (C2 := xC200) (as := [(2, 43), vi 1]) (s := []) rfl rfl rfl rfl rfl rfl rfl (sp200 (k := 1) hI20 ⟨by omega, by omega⟩   (by omega)) (fun r27 S28 hq29 => ?_)
  obtain ⟨rfl, h30, h31, h32, hI33, hF34, hR35⟩ := hq29
  have hF36 := hF23.trans hF34 rfl rfl
  have hR37 := hR24.trans hR35 rfl
  refine Or.inl ⟨rfl, ?_⟩
  refine r_load (i := 34) (u := 0) (w := 2) rfl rfl rfl ?_
  refine r_const (i := 35) (u := 2) (z := 2) rfl rfl ?_
  have h38 := hI33.f tf43_56
  have h39 := hI33.f tf43_57
  refine r_call (i := 36) (u := 11) (v := 223) (w := 0) (b := 0) (na := 1282) (C2 := xC223) (as := [(2, 43), vi 2]) (s := []) rfl rfl rfl rfl rfl rfl rfl (sp223 (n0 := 2) hI33 ⟨by omega, by omega⟩   (by omega)) (fun r40 S41 hq42 => ?_)
  obtain ⟨z43, rfl, h44, h45, h46, h47, h48, h49, h50, h51, hI52, hF53, hR54⟩ := hq42
  have hF55 := hF36.trans hF53 rfl rfl
  have hR56 := hR37.trans hR54 rfl
  refine Or.inr (Or.inl ⟨rfl, ?_⟩)
  refine r_l2i (i := 37) rfl ?_
  rw [vi_sg z43]
  have h57 := ysg_fact z43
  refine r_store (i := 38) (u := 2) (w := 0) (L1 := [some ((2, 43)), some (vi ac), some (vi (ysg z43)), none, none, none, none, none, none, none, none, none, none, none, none, none]) rfl rfl rfl rfl ?_
  refine r_load (i := 39) (u := 0) (w := 2) rfl rfl rfl ?_
  refine r_load (i := 40) (u := 2) (w := 0) rfl rfl rfl ?_
  refine r_const (i := 41) (u := 1) (z := 1) rfl rfl ?_
  refine c_eq (i := 42) (v := 46) rfl ⟨by omega, by omega⟩ ⟨by omega, by omega⟩ (fun h58 => ?_) (fun h59 => ?_)
  · refine r_const (i := 46) (u := 1) (z := 1) rfl rfl ?_
    refine r_goto (i := 47) (v := 49) rfl ?_
    refine yT_drop (L1 := [some ((2, 43)), none, some (vi (ysg z43)), none, none, none, none, none, none, none, none, none, none, none, none, none]) rfl ?_
    have h60 := hI52.f tf43_57
    exact lp237_49   hd S41 hI52 hF55 hR56 (ysg z43) 1 ⟨by omega, by omega⟩ ⟨by omega, by omega⟩ (by omega) 
  · refine r_load (i := 43) (u := 2) (w := 0) rfl rfl rfl ?_
    refine r_const (i := 44) (u := 2) (z := 2) rfl rfl ?_
    refine c_ne (i := 45) (v := 48) rfl ⟨by omega, by omega⟩ ⟨by omega, by omega⟩ (fun h61 => ?_) (fun h62 => ?_)
    · refine r_const (i := 48) (u := 0) (z := 0) rfl rfl ?_
      refine yT_drop (L1 := [some ((2, 43)), none, some (vi (ysg z43)), none, none, none, none, none, none, none, none, none, none, none, none, none]) rfl ?_
      have h63 := hI52.f tf43_57
      exact lp237_49   hd S41 hI52 hF55 hR56 (ysg z43) 0 ⟨by omega, by omega⟩ ⟨by omega, by omega⟩ (by omega) 
    · refine r_const (i := 46) (u := 1) (z := 1) rfl rfl ?_
      refine r_goto (i := 47) (v := 49) rfl ?_
      refine yT_drop (L1 := [some ((2, 43)), none, some (vi (ysg z43)), none, none, none, none, none, none, none, none, none, none, none, none, none]) rfl ?_
      have h64 := hI52.f tf43_57
      exact lp237_49   hd S41 hI52 hF55 hR56 (ysg z43) 1 ⟨by omega, by omega⟩ ⟨by omega, by omega⟩ (by omega) 
/-- ProxyForgeModel.readMethod -/
theorem sp237 {G : xk} {S : yS} {d : Nat} (hI : yI S)  (hd : 5 ≤ d) : yT xPr G LY xC237 0 [some ((2, 43))] [] S d (fun r S' => r = (0, (0, 0)) ∧ (S.f 43 57 ≠ -1 → S'.f 43 57 ≠ -1) ∧ yI S' ∧ yFr [(43, 56), (43, 57)] [] S S' ∧ yRm [] S S') := by
  refine yT_pad 15 ?_
  show yT xPr G LY xC237 0 [some ((2, 43)), none, none, none, none, none, none, none, none, none, none, none, none, none, none, none] [] S d _
  obtain ⟨d, rfl⟩ : ∃ q, d = q + 1 := ⟨d - 1, by omega⟩
  have hF : yFr [(43, 56), (43, 57)] [] S S := yFr.refl S
  have hR : yRm [] S S := yRm.refl S
  refine r_load (i := 0) (u := 0) (w := 2) rfl rfl rfl ?_
  refine r_const (i := 1) (u := 2) (z := 2) rfl rfl ?_
  have h1 := hI.f tf43_56
  have h2 := hI.f tf43_57
  refine r_call (i := 2) (u := 11) (v := 223) (w := 0) (b := 0) (na := 1282) (C2 := xC223) (as := [(2, 43), vi 2]) (s := []) rfl rfl rfl rfl rfl rfl rfl (sp223 (n0 := 2) hI ⟨by omega, by omega⟩   (by omega)) (fun r3 S4 hq5 => ?_)
  obtain ⟨z6, rfl, h7, h8, h9, h10, h11, h12, h13, h14, hI15, hF16, hR17⟩ := hq5
  have hF18 := hF.trans hF16 rfl rfl
  have hR19 := hR.trans hR17 rfl
  refine Or.inr (Or.inl ⟨rfl, ?_⟩)
  refine r_l2i (i := 3) rfl ?_
  rw [vi_sg z6]
  have h20 := ysg_fact z6
  refine r_store (i := 4) (u := 1) (w := 0) (L1 := [some ((2, 43)), some (vi (ysg z6)), none, none, none, none, none, none, none, none, none, none, none, none, none, none]) rfl rfl rfl rfl ?_
  refine r_load (i := 5) (u := 0) (w := 2) rfl rfl rfl ?_
  refine r_load (i := 6) (u := 1) (w := 0) rfl rfl rfl ?_
  refine z_eq (i := 7) (v := 23) rfl ⟨by omega, by omega⟩ (fun h21 => ?_) (fun h22 => ?_)
  · refine r_const (i := 23) (u := 1) (z := 1) rfl rfl ?_
    refine r_goto (i := 24) (v := 26) rfl ?_
    have h23 := hI15.f tf43_57
    exact lp237_26   hd S4 hI15 hF18 hR19 (ysg z6) 1 ⟨by omega, by omega⟩ ⟨by omega, by omega⟩ (by omega) 
  · refine r_load (i := 8) (u := 1) (w := 0) rfl rfl rfl ?_
    refine r_const (i := 9) (u := 1) (z := 1) rfl rfl ?_
    refine c_eq (i := 10) (v := 23) rfl ⟨by omega, by omega⟩ ⟨by omega, by omega⟩ (fun h24 => ?_) (fun h25 => ?_)
    · refine r_const (i := 23) (u := 1) (z := 1) rfl rfl ?_
      refine r_goto (i := 24) (v := 26) rfl ?_
      have h26 := hI15.f tf43_57
      exact lp237_26   hd S4 hI15 hF18 hR19 (ysg z6) 1 ⟨by omega, by omega⟩ ⟨by omega, by omega⟩ (by omega) 
    · refine r_load (i := 11) (u := 1) (w := 0) rfl rfl rfl ?_
      refine r_const (i := 12) (u := 4) (z := 4) rfl rfl ?_
      refine c_eq (i := 13) (v := 23) rfl ⟨by omega, by omega⟩ ⟨by omega, by omega⟩ (fun h27 => ?_) (fun h28 => ?_)
      · refine r_const (i := 23) (u := 1) (z := 1) rfl rfl ?_
        refine r_goto (i := 24) (v := 26) rfl ?_
        have h29 := hI15.f tf43_57
        exact lp237_26   hd S4 hI15 hF18 hR19 (ysg z6) 1 ⟨by omega, by omega⟩ ⟨by omega, by omega⟩ (by omega) 
      · refine r_load (i := 14) (u := 1) (w := 0) rfl rfl rfl ?_
        refine r_const (i := 15) (u := 16) (z := 16) rfl rfl ?_
        refine c_eq (i := 16) (v := 23) rfl ⟨by omega, by omega⟩ ⟨by omega, by omega⟩ (fun h30 => ?_) (fun h31 => ?_)
        · refine r_const (i := 23) (u := 1) (z := 1) rfl rfl ?_
          refine r_goto (i := 24) (v := 26) rfl ?_
          have h32 := hI15.f tf43_57
          exact lp237_26   hd S4 hI15 hF18 hR19 (ysg z6) 1 ⟨by omega, by omega⟩ ⟨by omega, by omega⟩ (by omega) 
        · refine r_load (i := 17) (u := 1) (w := 0) rfl rfl rfl ?_
          refine r_const (i := 18) (u := 17) (z := 17) rfl rfl ?_
          refine c_eq (i := 19) (v := 23) rfl ⟨by omega, by omega⟩ ⟨by omega, by omega⟩ (fun h33 => ?_) (fun h34 => ?_)
          · refine r_const (i := 23) (u := 1) (z := 1) rfl rfl ?_
            refine r_goto (i := 24) (v := 26) rfl ?_
            have h35 := hI15.f tf43_57
            exact lp237_26   hd S4 hI15 hF18 hR19 (ysg z6) 1 ⟨by omega, by omega⟩ ⟨by omega, by omega⟩ (by omega) 
          · refine r_load (i := 20) (u := 1) (w := 0) rfl rfl rfl ?_
            refine r_const (i := 21) (u := 20) (z := 20) rfl rfl ?_
            refine c_ne (i := 22) (v := 25) rfl ⟨by omega, by omega⟩ ⟨by omega, by omega⟩ (fun h36 => ?_) (fun h37 => ?_)
            · refine r_const (i := 25) (u := 0) (z := 0) rfl rfl ?_
              have h38 := hI15.f tf43_57
              exact lp237_26   hd S4 hI15 hF18 hR19 (ysg z6) 0 ⟨by omega, by omega⟩ ⟨by omega, by omega⟩ (by omega) 
            · refine r_const (i := 23) (u := 1) (z := 1) rfl rfl ?_
              refine r_goto (i := 24) (v := 26) rfl ?_
              have h39 := hI15.f tf43_57
              exact lp237_26   hd S4 hI15 hF18 hR19 (ysg z6) 1 ⟨by omega, by omega⟩ ⟨by omega, by omega⟩ (by omega) 
theorem lp235_89 {G : xk} {d : Nat} {S0 : yS}  (hd : 6 ≤ d + 1) : ∀ (n : Nat), ∀ (S : yS) (hI : yI S) (hF : yFr [(43, 0), (43, 56), (43, 57), (43, 58)] [80] S0 S) (hR : yRm [] S0 S) (mn k : Int) (h_mn : 0 ≤ mn ∧ mn ≤ 65535) (h_k : 0 ≤ k ∧ k ≤ 65535) (hn : 65536 - k < (n : Nat)), yT xPr G LY xC235 89 [some ((2, 43)), none, some (vi mn), some (vi k)] [] S (d + 1) (fun r S' => ∃ z : Int, r = (1, vi z) ∧ -10 ≤ z ∧ z ≤ 23600 ∧ yI S' ∧ yFr [(43, 0), (43, 56), (43, 57), (43, 58)] [80] S0 S' ∧ yRm [] S0 S') := by
  intro n
  induction n with
  | zero => intro S hI hF hR mn k h_mn h_k hn; exact absurd hn (by omega)
  | succ n ih =>
    intro S hI hF hR mn k h_mn h_k hn
    refine r_load (i := 89) (u := 3) (w := 0) rfl rfl rfl ?_
    refine r_load (i := 90) (u := 2) (w := 0) rfl rfl rfl ?_
    refine c_ge (i := 91) (v := 100) rfl ⟨by omega, by omega⟩ ⟨by omega, by omega⟩ (fun h1 => ?_) (fun h2 => ?_)
    · refine r_load (i := 100) (u := 0) (w := 2) rfl rfl rfl ?_
      refine r_const (i := 101) (u := 2) (z := 2) rfl rfl ?_
      refine r_const (i := 102) (u := 0) (z := 0) rfl rfl ?_
      have h3 := hI.f tf43_56
      have h4 := hI.f tf43_57
      refine r_call (i := 103) (u := 11) (v := 201) (w := 0) (b := 0) (na := 1283) (C2 := xC201) (as := [(2, 43), vi 2, vi 0]) (s := []) rfl rfl rfl rfl rfl rfl rfl (sp201 (n0 := 2) (v := 0) hI ⟨by omega, by omega⟩ ⟨by omega, by omega⟩   (by omega)) (fun r5 S6 hq7 => ?_)
      obtain ⟨rfl, h8, h9, h10, hI11, hF12, hR13⟩ := hq7
      have hF14 := hF.trans hF12 rfl rfl
      have hR15 := hR.trans hR13 rfl
      refine Or.inl ⟨rfl, ?_⟩
      refine r_load (i := 104) (u := 0) (w := 2) rfl rfl rfl ?_
      have h16 := hI11.f tf43_57
      refine r_getf (i := 105) (v := 57) (w := 11) (x := vi (S6.f 43 57)) rfl ly43 rfl rfl fun h17 => ?_
      have h17 : Rg (S6.f 43 57) := h17
      refine r_const (i := 106) (u := 4294967295) (z := -1) rfl rfl ?_
      refine c_eq (i := 107) (v := 111) rfl ⟨by omega, by omega⟩ ⟨by omega, by omega⟩ (fun h18 => ?_) (fun h19 => ?_)
      · refine r_load (i := 111) (u := 0) (w := 2) rfl rfl rfl ?_
        have h20 := hI11.f tf43_56
        refine r_getf (i := 112) (v := 56) (w := 11) (x := vi (S6.f 43 56)) rfl ly43 rfl rfl fun h21 => ?_
        have h21 : Rg (S6.f 43 56) := h21
        refine r_load (i := 113) (u := 0) (w := 2) rfl rfl rfl ?_
        have h22 := hI11.f tf43_42
        have h23 : S6.f 43 42 = S.f 43 42 := hF12.f rfl
        have h24 : S.f 43 42 = S0.f 43 42 := hF.f rfl
        refine r_getf (i := 114) (v := 42) (w := 11) (x := vi (S6.f 43 42)) rfl ly43 rfl rfl fun h25 => ?_
        have h25 : Rg (S6.f 43 42) := h25
        refine c_ge (i := 115) (v := 119) rfl ⟨by omega, by omega⟩ ⟨by omega, by omega⟩ (fun h26 => ?_) (fun h27 => ?_)
        · refine r_const (i := 119) (u := 4294967295) (z := -1) rfl rfl ?_
          exact r_retI (i := 120) rfl ⟨-1, rfl, by omega, by omega, hI11, hF14, hR15⟩
        · refine r_load (i := 116) (u := 0) (w := 2) rfl rfl rfl ?_
          refine r_getf (i := 117) (v := 56) (w := 11) (x := vi (S6.f 43 56)) rfl ly43 rfl rfl fun h28 => ?_
          have h28 : Rg (S6.f 43 56) := h28
          refine r_goto (i := 118) (v := 120) rfl ?_
          exact r_retI (i := 120) rfl ⟨S6.f 43 56, rfl, by omega, by omega, hI11, hF14, hR15⟩
      · refine r_load (i := 108) (u := 0) (w := 2) rfl rfl rfl ?_
        refine r_getf (i := 109) (v := 57) (w := 11) (x := vi (S6.f 43 57)) rfl ly43 rfl rfl fun h29 => ?_
        have h29 : Rg (S6.f 43 57) := h29
        refine r_goto (i := 110) (v := 120) rfl ?_
        exact r_retI (i := 120) rfl ⟨S6.f 43 57, rfl, by omega, by omega, hI11, hF14, hR15⟩
    · refine r_load (i := 92) (u := 0) (w := 2) rfl rfl rfl ?_
      have h30 := hI.f tf43_57
      refine r_getf (i := 93) (v := 57) (w := 11) (x := vi (S.f 43 57)) rfl ly43 rfl rfl fun h31 => ?_
      have h31 : Rg (S.f 43 57) := h31
      refine r_const (i := 94) (u := 4294967295) (z := -1) rfl rfl ?_
      refine c_ne (i := 95) (v := 100) rfl ⟨by omega, by omega⟩ ⟨by omega, by omega⟩ (fun h32 => ?_) (fun h33 => ?_)
      · refine r_load (i := 100) (u := 0) (w := 2) rfl rfl rfl ?_
        refine r_const (i := 101) (u := 2) (z := 2) rfl rfl ?_
        refine r_const (i := 102) (u := 0) (z := 0) rfl rfl ?_
        have h34 := hI.f tf43_56
        refine r_call (i := 103) (u := 11) (v := 201) (w := 0) (b := 0) (na := 1283) (C2 := xC201) (as := [(2, 43), vi 2, vi 0]) (s := []) rfl rfl rfl rfl rfl rfl rfl (sp201 (n0 := 2) (v := 0) hI ⟨by omega, by omega⟩ ⟨by omega, by omega⟩   (by omega)) (fun r35 S36 hq37 => ?_)
        obtain ⟨rfl, h38, h39, h40, hI41, hF42, hR43⟩ := hq37
        have hF44 := hF.trans hF42 rfl rfl
        have hR45 := hR.trans hR43 rfl
        refine Or.inl ⟨rfl, ?_⟩
        refine r_load (i := 104) (u := 0) (w := 2) rfl rfl rfl ?_
        have h46 := hI41.f tf43_57
        refine r_getf (i := 105) (v := 57) (w := 11) (x := vi (S36.f 43 57)) rfl ly43 rfl rfl fun h47 => ?_
        have h47 : Rg (S36.f 43 57) := h47
        refine r_const (i := 106) (u := 4294967295) (z := -1) rfl rfl ?_
        refine c_eq (i := 107) (v := 111) rfl ⟨by omega, by omega⟩ ⟨by omega, by omega⟩ (fun h48 => ?_) (fun h49 => ?_)
        · refine r_load (i := 111) (u := 0) (w := 2) rfl rfl rfl ?_
          have h50 := hI41.f tf43_56
          refine r_getf (i := 112) (v := 56) (w := 11) (x := vi (S36.f 43 56)) rfl ly43 rfl rfl fun h51 => ?_
          have h51 : Rg (S36.f 43 56) := h51
          refine r_load (i := 113) (u := 0) (w := 2) rfl rfl rfl ?_
          have h52 := hI41.f tf43_42
          have h53 : S36.f 43 42 = S.f 43 42 := hF42.f rfl
          have h54 : S.f 43 42 = S0.f 43 42 := hF.f rfl
          refine r_getf (i := 114) (v := 42) (w := 11) (x := vi (S36.f 43 42)) rfl ly43 rfl rfl fun h55 => ?_
          have h55 : Rg (S36.f 43 42) := h55
          refine c_ge (i := 115) (v := 119) rfl ⟨by omega, by omega⟩ ⟨by omega, by omega⟩ (fun h56 => ?_) (fun h57 => ?_)
          · refine r_const (i := 119) (u := 4294967295) (z := -1) rfl rfl ?_
            exact r_retI (i := 120) rfl ⟨-1, rfl, by omega, by omega, hI41, hF44, hR45⟩
          · refine r_load (i := 116) (u := 0) (w := 2) rfl rfl rfl ?_
            refine r_getf (i := 117) (v := 56) (w := 11) (x := vi (S36.f 43 56)) rfl ly43 rfl rfl fun h58 => ?_
            have h58 : Rg (S36.f 43 56) := h58
            refine r_goto (i := 118) (v := 120) rfl ?_
            exact r_retI (i := 120) rfl ⟨S36.f 43 56, rfl, by omega, by omega, hI41, hF44, hR45⟩
        · refine r_load (i := 108) (u := 0) (w := 2) rfl rfl rfl ?_
          refine r_getf (i := 109) (v := 57) (w := 11) (x := vi (S36.f 43 57)) rfl ly43 rfl rfl fun h59 => ?_
          have h59 : Rg (S36.f 43 57) := h59
          refine r_goto (i := 110) (v := 120) rfl ?_
          exact r_retI (i := 120) rfl ⟨S36.f 43 57, rfl, by omega, by omega, hI41, hF44, hR45⟩
      · refine r_load (i := 96) (u := 0) (w := 2) rfl rfl rfl ?_
        refine r_call (i := 97) (u := 11) (v := 237) (w := 0) (b := 0) (na := 4097) (C2 := xC237) (as := [(2, 43)]) (s := []) rfl rfl rfl rfl rfl rfl rfl (sp237  hI    (by omega)) (fun r60 S61 hq62 => ?_)
        obtain ⟨rfl, h63, hI64, hF65, hR66⟩ := hq62
        have hF67 := hF.trans hF65 rfl rfl
        have hR68 := hR.trans hR66 rfl
        refine Or.inl ⟨rfl, ?_⟩
        refine r_iinc (i := 98) (u := 1) (v := 3) (s := 1) (L1 := [some ((2, 43)), none, some (vi mn), some (vi (k + 1))]) rfl rfl rfl rfl rfl ?_
        refine r_goto (i := 99) (v := 89) rfl ?_
        exact ih S61 hI64 hF67 hR68 mn (k + 1) ⟨by omega, by omega⟩ ⟨by omega, by omega⟩  (by omega)
theorem lp235_52 {G : xk} {d : Nat} {S0 : yS}  (hd : 6 ≤ d + 1) : ∀ (n : Nat), ∀ (S : yS) (hI : yI S) (hF : yFr [(43, 0), (43, 56), (43, 57), (43, 58)] [80] S0 S) (hR : yRm [] S0 S) (fc k : Int) (h_fc : 0 ≤ fc ∧ fc ≤ 65535) (h_k : 0 ≤ k ∧ k ≤ 65535) (hn : 65536 - k < (n : Nat)), yT xPr G LY xC235 52 [some ((2, 43)), some (vi fc), some (vi k), none] [] S (d + 1) (fun r S' => ∃ z : Int, r = (1, vi z) ∧ -10 ≤ z ∧ z ≤ 23600 ∧ yI S' ∧ yFr [(43, 0), (43, 56), (43, 57), (43, 58)] [80] S0 S' ∧ yRm [] S0 S') := by
  intro n
  induction n with
  | zero => intro S hI hF hR fc k h_fc h_k hn; exact absurd hn (by omega)
  | succ n ih =>
    intro S hI hF hR fc k h_fc h_k hn
    refine r_load (i := 52) (u := 2) (w := 0) rfl rfl rfl ?_
    refine r_load (i := 53) (u := 1) (w := 0) rfl rfl rfl ?_
    refine c_ge (i := 54) (v := 64) rfl ⟨by omega, by omega⟩ ⟨by omega, by omega⟩ (fun h1 => ?_) (fun h2 => ?_)
    · refine r_load (i := 64) (u := 0) (w := 2) rfl rfl rfl ?_
      refine r_const (i := 65) (u := 2) (z := 2) rfl rfl ?_
      refine r_const (i := 66) (u := 1) (z := 1) rfl rfl ?_
      have h3 := hI.f tf43_56
      have h4 := hI.f tf43_57
      refine r_call (i := 67) (u := 11) (v := 201) (w := 0) (b := 0) (na := 1283) (C2 := xC201) (as := [(2, 43), vi 2, vi 1]) (s := []) rfl rfl rfl rfl rfl rfl rfl (sp201 (n0 := 2) (v := 1) hI ⟨by omega, by omega⟩ ⟨by omega, by omega⟩   (by omega)) (fun r5 S6 hq7 => ?_)
      obtain ⟨rfl, h8, h9, h10, hI11, hF12, hR13⟩ := hq7
      have hF14 := hF.trans hF12 rfl rfl
      have hR15 := hR.trans hR13 rfl
      refine Or.inl ⟨rfl, ?_⟩
      refine r_load (i := 68) (u := 0) (w := 2) rfl rfl rfl ?_
      refine r_const (i := 69) (u := 2) (z := 2) rfl rfl ?_
      refine r_const (i := 70) (u := 2) (z := 2) rfl rfl ?_
      have h16 := hI11.f tf43_56
      have h17 := hI11.f tf43_57
      refine r_call (i := 71) (u := 11) (v := 201) (w := 0) (b := 0) (na := 1283) (C2 := xC201) (as := [(2, 43), vi 2, vi 2]) (s := []) rfl rfl rfl rfl rfl rfl rfl (sp201 (n0 := 2) (v := 2) hI11 ⟨by omega, by omega⟩ ⟨by omega, by omega⟩   (by omega)) (fun r18 S19 hq20 => ?_)
      obtain ⟨rfl, h21, h22, h23, hI24, hF25, hR26⟩ := hq20
      have hF27 := hF14.trans hF25 rfl rfl
      have hR28 := hR15.trans hR26 rfl
      refine Or.inl ⟨rfl, ?_⟩
      refine r_load (i := 72) (u := 0) (w := 2) rfl rfl rfl ?_
      refine r_const (i := 73) (u := 1) (z := 1) rfl rfl ?_
      have h29 := hI24.f tf43_56
      have h30 := hI24.f tf43_57
      refine r_call (i := 74) (u := 11) (v := 200) (w := 0) (b := 0) (na := 1026) (C2 := xC200) (as := [(2, 43), vi 1]) (s := []) rfl rfl rfl rfl rfl rfl rfl (sp200 (k := 1) hI24 ⟨by omega, by omega⟩   (by omega)) (fun r31 S32 hq33 => ?_)
      obtain ⟨rfl, h34, h35, h36, hI37, hF38, hR39⟩ := hq33
      have hF40 := hF27.trans hF38 rfl rfl
      have hR41 := hR28.trans hR39 rfl
      refine Or.inl ⟨rfl, ?_⟩
      refine r_load (i := 75) (u := 0) (w := 2) rfl rfl rfl ?_
      refine r_const (i := 76) (u := 1) (z := 1) rfl rfl ?_
      have h42 := hI37.f tf43_56
      have h43 := hI37.f tf43_57
      refine r_call (i := 77) (u := 11) (v := 200) (w := 0) (b := 0) (na := 1026) (C2 := xC200) (as := [(2, 43), vi 1]) (s := []) rfl rfl rfl rfl rfl rfl rfl (sp200 (k := 1) hI37 ⟨by omega, by omega⟩   (by omega)) (fun r44 S45 hq46 => ?_)
      obtain ⟨rfl, h47, h48, h49, hI50, hF51, hR52⟩ := hq46
      have hF53 := hF40.trans hF51 rfl rfl
      have hR54 := hR41.trans hR52 rfl
      refine Or.inl ⟨rfl, ?_⟩
      refine r_load (i := 78) (u := 0) (w := 2) rfl rfl rfl ?_
      refine r_const (i := 79) (u := 2) (z := 2) rfl rfl ?_
      refine r_const (i := 80) (u := 0) (z := 0) rfl rfl ?_
      have h55 := hI50.f tf43_56
      have h56 := hI50.f tf43_57
      refine r_call (i := 81) (u := 11) (v := 201) (w := 0) (b := 0) (na := 1283) (C2 := xC201) (as := [(2, 43), vi 2, vi 0]) (s := []) rfl rfl rfl rfl rfl rfl rfl (sp201 (n0 := 2) (v := 0) hI50 ⟨by omega, by omega⟩ ⟨by omega, by omega⟩   (by omega)) (fun r57 S58 hq59 => ?_)
      obtain ⟨rfl, h60, h61, h62, hI63, hF64, hR65⟩ := hq59
      have hF66 := hF53.trans hF64 rfl rfl
      have hR67 := hR54.trans hR65 rfl
      refine Or.inl ⟨rfl, ?_⟩
      refine r_load (i := 82) (u := 0) (w := 2) rfl rfl rfl ?_
      refine r_const (i := 83) (u := 2) (z := 2) rfl rfl ?_
      have h68 := hI63.f tf43_56
      have h69 := hI63.f tf43_57
      refine r_call (i := 84) (u := 11) (v := 223) (w := 0) (b := 0) (na := 1282) (C2 := xC223) (as := [(2, 43), vi 2]) (s := []) rfl rfl rfl rfl rfl rfl rfl (sp223 (n0 := 2) hI63 ⟨by omega, by omega⟩   (by omega)) (fun r70 S71 hq72 => ?_)
      obtain ⟨z73, rfl, h74, h75, h76, h77, h78, h79, h80, h81, hI82, hF83, hR84⟩ := hq72
      have hF85 := hF66.trans hF83 rfl rfl
      have hR86 := hR67.trans hR84 rfl
      refine Or.inr (Or.inl ⟨rfl, ?_⟩)
      refine r_l2i (i := 85) rfl ?_
      rw [vi_sg z73]
      have h87 := ysg_fact z73
      refine r_store (i := 86) (u := 2) (w := 0) (L1 := [some ((2, 43)), some (vi fc), some (vi (ysg z73)), none]) rfl rfl rfl rfl ?_
      refine r_const (i := 87) (u := 0) (z := 0) rfl rfl ?_
      refine r_store (i := 88) (u := 3) (w := 0) (L1 := [some ((2, 43)), some (vi fc), some (vi (ysg z73)), some (vi 0)]) rfl rfl rfl rfl ?_
      refine yT_drop (L1 := [some ((2, 43)), none, some (vi (ysg z73)), some (vi 0)]) rfl ?_
      exact lp235_89   hd _ S71 hI82 hF85 hR86 (ysg z73) 0 ⟨by omega, by omega⟩ ⟨by omega, by omega⟩  (Int.lt_succ_toNat _)
    · refine r_load (i := 55) (u := 0) (w := 2) rfl rfl rfl ?_
      have h88 := hI.f tf43_57
      refine r_getf (i := 56) (v := 57) (w := 11) (x := vi (S.f 43 57)) rfl ly43 rfl rfl fun h89 => ?_
      have h89 : Rg (S.f 43 57) := h89
      refine r_const (i := 57) (u := 4294967295) (z := -1) rfl rfl ?_
      refine c_ne (i := 58) (v := 64) rfl ⟨by omega, by omega⟩ ⟨by omega, by omega⟩ (fun h90 => ?_) (fun h91 => ?_)
      · refine r_load (i := 64) (u := 0) (w := 2) rfl rfl rfl ?_
        refine r_const (i := 65) (u := 2) (z := 2) rfl rfl ?_
        refine r_const (i := 66) (u := 1) (z := 1) rfl rfl ?_
        have h92 := hI.f tf43_56
        refine r_call (i := 67) (u := 11) (v := 201) (w := 0) (b := 0) (na := 1283) (C2 := xC201) (as := [(2, 43), vi 2, vi 1]) (s := []) rfl rfl rfl rfl rfl rfl rfl (sp201 (n0 := 2) (v := 1) hI ⟨by omega, by omega⟩ ⟨by omega, by omega⟩   (by omega)) (fun r93 S94 hq95 => ?_)
        obtain ⟨rfl, h96, h97, h98, hI99, hF100, hR101⟩ := hq95
        have hF102 := hF.trans hF100 rfl rfl
        have hR103 := hR.trans hR101 rfl
        refine Or.inl ⟨rfl, ?_⟩
        refine r_load (i := 68) (u := 0) (w := 2) rfl rfl rfl ?_
        refine r_const (i := 69) (u := 2) (z := 2) rfl rfl ?_
        refine r_const (i := 70) (u := 2) (z := 2) rfl rfl ?_
        have h104 := hI99.f tf43_56
        have h105 := hI99.f tf43_57
        refine r_call (i := 71) (u := 11) (v := 201) (w := 0) (b := 0) (na := 1283) (C2 := xC201) (as := [(2, 43), vi 2, vi 2]) (s := []) rfl rfl rfl rfl rfl rfl rfl (sp201 (n0 := 2) (v := 2) hI99 ⟨by omega, by omega⟩ ⟨by omega, by omega⟩   (by omega)) (fun r106 S107 hq108 => ?_)
        obtain ⟨rfl, h109, h110, h111, hI112, hF113, hR114⟩ := hq108
        have hF115 := hF102.trans hF113 rfl rfl
        have hR116 := hR103.trans hR114 rfl
        refine Or.inl ⟨rfl, ?_⟩
        refine r_load (i := 72) (u := 0) (w := 2) rfl rfl rfl ?_
        refine r_const (i := 73) (u := 1) (z := 1) rfl rfl ?_
        have h117 := hI112.f tf43_56
        have h118 := hI112.f tf43_57
        refine r_call (i := 74) (u := 11) (v := 200) (w := 0) (b := 0) (na := 1026) (C2 := xC200) (as := [(2, 43), vi 1]) (s := []) rfl rfl rfl rfl rfl rfl rfl (sp200 (k := 1) hI112 ⟨by omega, by omega⟩   (by omega)) (fun r119 S120 hq121 => ?_)
        obtain ⟨rfl, h122, h123, h124, hI125, hF126, hR127⟩ := hq121
        have hF128 := hF115.trans hF126 rfl rfl
        have hR129 := hR116.trans hR127 rfl
        refine Or.inl ⟨rfl, ?_⟩
        refine r_load (i := 75) (u := 0) (w := 2) rfl rfl rfl ?_
        refine r_const (i := 76) (u := 1) (z := 1) rfl rfl ?_
        have h130 := hI125.f tf43_56
        have h131 := hI125.f tf43_57
        refine r_call (i := 77) (u := 11) (v := 200) (w := 0) (b := 0) (na := 1026) (C2 := xC200) (as := [(2, 43), vi 1]) (s := []) rfl rfl rfl rfl rfl rfl rfl (sp200 (k := 1) hI125 ⟨by omega, by omega⟩   (by omega)) (fun r132 S133 hq134 => ?_)
        obtain ⟨rfl, h135, h136, h137, hI138, hF139, hR140⟩ := hq134
        have hF141 := hF128.trans hF139 rfl rfl
        have hR142 := hR129.trans hR140 rfl
        refine Or.inl ⟨rfl, ?_⟩
        refine r_load (i := 78) (u := 0) (w := 2) rfl rfl rfl ?_
        refine r_const (i := 79) (u := 2) (z := 2) rfl rfl ?_
        refine r_const (i := 80) (u := 0) (z := 0) rfl rfl ?_
        have h143 := hI138.f tf43_56
        have h144 := hI138.f tf43_57
        refine r_call (i := 81) (u := 11) (v := 201) (w := 0) (b := 0) (na := 1283) (C2 := xC201) (as := [(2, 43), vi 2, vi 0]) (s := []) rfl rfl rfl rfl rfl rfl rfl (sp201 (n0 := 2) (v := 0) hI138 ⟨by omega, by omega⟩ ⟨by omega, by omega⟩   (by omega)) (fun r145 S146 hq147 => ?_)
        obtain ⟨rfl, h148, h149, h150, hI151, hF152, hR153⟩ := hq147
        have hF154 := hF141.trans hF152 rfl rfl
        have hR155 := hR142.trans hR153 rfl
        refine Or.inl ⟨rfl, ?_⟩
        refine r_load (i := 82) (u := 0) (w := 2) rfl rfl rfl ?_
        refine r_const (i := 83) (u := 2) (z := 2) rfl rfl ?_
        have h156 := hI151.f tf43_56
        have h157 := hI151.f tf43_57
        refine r_call (i := 84) (u := 11) (v := 223) (w := 0) (b := 0) (na := 1282) (C2 := xC223) (as := [(2, 43), vi 2]) (s := []) rfl rfl rfl rfl rfl rfl rfl (sp223 (n0 := 2) hI151 ⟨by omega, by omega⟩   (by omega)) (fun r158 S159 hq160 => ?_)
        obtain ⟨z161, rfl, h162, h163, h164, h165, h166, h167, h168, h169, hI170, hF171, hR172⟩ := hq160
        have hF173 := hF154.trans hF171 rfl rfl
        have hR174 := hR155.trans hR172 rfl
        refine Or.inr (Or.inl ⟨rfl, ?_⟩)
        refine r_l2i (i := 85) rfl ?_
        rw [vi_sg z161]
        have h175 := ysg_fact z161
        refine r_store (i := 86) (u := 2) (w := 0) (L1 := [some ((2, 43)), some (vi fc), some (vi (ysg z161)), none]) rfl rfl rfl rfl ?_
        refine r_const (i := 87) (u := 0) (z := 0) rfl rfl ?_
        refine r_store (i := 88) (u := 3) (w := 0) (L1 := [some ((2, 43)), some (vi fc), some (vi (ysg z161)), some (vi 0)]) rfl rfl rfl rfl ?_
        refine yT_drop (L1 := [some ((2, 43)), none, some (vi (ysg z161)), some (vi 0)]) rfl ?_
        exact lp235_89   hd _ S159 hI170 hF173 hR174 (ysg z161) 0 ⟨by omega, by omega⟩ ⟨by omega, by omega⟩  (Int.lt_succ_toNat _)
      · refine r_load (i := 59) (u := 0) (w := 2) rfl rfl rfl ?_
        refine r_const (i := 60) (u := 7) (z := 7) rfl rfl ?_
        have h176 := hI.f tf43_56
        refine r_call (i := 61) (u := 11) (v := 200) (w := 0) (b := 0) (na := 1026) (C2 := xC200) (as := [(2, 43), vi 7]) (s := []) rfl rfl rfl rfl rfl rfl rfl (sp200 (k := 7) hI ⟨by omega, by omega⟩   (by omega)) (fun r177 S178 hq179 => ?_)
        obtain ⟨rfl, h180, h181, h182, hI183, hF184, hR185⟩ := hq179
        have hF186 := hF.trans hF184 rfl rfl
        have hR187 := hR.trans hR185 rfl
        refine Or.inl ⟨rfl, ?_⟩
        refine r_iinc (i := 62) (u := 1) (v := 2) (s := 1) (L1 := [some ((2, 43)), some (vi fc), some (vi (k + 1)), none]) rfl rfl rfl rfl rfl ?_
        refine r_goto (i := 63) (v := 52) rfl ?_
        exact ih S178 hI183 hF186 hR187 fc (k + 1) ⟨by omega, by omega⟩ ⟨by omega, by omega⟩  (by omega)
/-- ProxyForgeModel.read -/
theorem sp235 {G : xk} {S : yS} {d : Nat} (hI : yI S)  (hd : 6 ≤ d) : yT xPr G LY xC235 0 [some ((2, 43))] [] S d (fun r S' => ∃ z : Int, r = (1, vi z) ∧ -10 ≤ z ∧ z ≤ 23600 ∧ yI S' ∧ yFr [(43, 0), (43, 56), (43, 57), (43, 58)] [80] S S' ∧ yRm [] S S') := by
  refine yT_pad 3 ?_
  show yT xPr G LY xC235 0 [some ((2, 43)), none, none, none] [] S d _
  obtain ⟨d, rfl⟩ : ∃ q, d = q + 1 := ⟨d - 1, by omega⟩
  have hF : yFr [(43, 0), (43, 56), (43, 57), (43, 58)] [80] S S := yFr.refl S
  have hR : yRm [] S S := yRm.refl S
  refine r_load (i := 0) (u := 0) (w := 2) rfl rfl rfl ?_
  refine r_const (i := 1) (u := 0) (z := 0) rfl rfl ?_
  refine r_putI (i := 2) (v := 0) (w := 11) rfl ly43 rfl ⟨by omega, by omega⟩ ?_
  have hI2 := hI.setf (b := 43) (w := 0) (z := 0) tf43_0 rfl (by omega) (by omega)
  have hF4 := hF.setf (b := 43) (w := 0) (z := 0) rfl
  have hR5 := hR.setf (b := 43) (w := 0) (z := 0)
  refine yT_gen (fun S1 hS3 => ?_)
  rw [hS3] at hI2 hF4 hR5 
  refine r_load (i := 3) (u := 0) (w := 2) rfl rfl rfl ?_
  refine r_const (i := 4) (u := 0) (z := 0) rfl rfl ?_
  refine r_putI (i := 5) (v := 56) (w := 11) rfl ly43 rfl ⟨by omega, by omega⟩ ?_
  have hI7 := hI2.setf (b := 43) (w := 56) (z := 0) tf43_56 rfl (by omega) (by omega)
  have hF9 := hF4.setf (b := 43) (w := 56) (z := 0) rfl
  have hR10 := hR5.setf (b := 43) (w := 56) (z := 0)
  refine yT_gen (fun S6 hS8 => ?_)
  rw [hS8] at hI7 hF9 hR10 
  refine r_load (i := 6) (u := 0) (w := 2) rfl rfl rfl ?_
  refine r_const (i := 7) (u := 4294967295) (z := -1) rfl rfl ?_
  refine r_putI (i := 8) (v := 57) (w := 11) rfl ly43 rfl ⟨by omega, by omega⟩ ?_
  have hI12 := hI7.setf (b := 43) (w := 57) (z := -1) tf43_57 rfl (by omega) (by omega)
  have hF14 := hF9.setf (b := 43) (w := 57) (z := -1) rfl
  have hR15 := hR10.setf (b := 43) (w := 57) (z := -1)
  refine yT_gen (fun S11 hS13 => ?_)
  rw [hS13] at hI12 hF14 hR15 
  refine r_load (i := 9) (u := 0) (w := 2) rfl rfl rfl ?_
  refine r_const (i := 10) (u := 1) (z := 1) rfl rfl ?_
  refine r_const (i := 11) (u := 202) (z := 202) rfl rfl ?_
  have h16 := hI12.f tf43_56
  have h17 : S11.f 43 56 = S6.f 43 56 := by rw [← hS13]; exact ysf_ne (by decide)
  have h18 : S6.f 43 56 = 0 := by rw [← hS8]; exact ysf_eq
  have h19 := hI12.f tf43_57
  have h20 : S11.f 43 57 = -1 := by rw [← hS13]; exact ysf_eq
  refine r_call (i := 12) (u := 11) (v := 201) (w := 0) (b := 0) (na := 1283) (C2 := xC201) (as := [(2, 43), vi 1, vi 202]) (s := []) rfl rfl rfl rfl rfl rfl rfl (sp201 (n0 := 1) (v := 202) hI12 ⟨by omega, by omega⟩ ⟨by omega, by omega⟩   (by omega)) (fun r21 S22 hq23 => ?_)
  obtain ⟨rfl, h24, h25, h26, hI27, hF28, hR29⟩ := hq23
  have hF30 := hF14.trans hF28 rfl rfl
  have hR31 := hR15.trans hR29 rfl
  refine Or.inl ⟨rfl, ?_⟩
  refine r_load (i := 13) (u := 0) (w := 2) rfl rfl rfl ?_
  refine r_const (i := 14) (u := 1) (z := 1) rfl rfl ?_
  refine r_const (i := 15) (u := 254) (z := 254) rfl rfl ?_
  have h32 := hI27.f tf43_56
  have h33 := hI27.f tf43_57
  refine r_call (i := 16) (u := 11) (v := 201) (w := 0) (b := 0) (na := 1283) (C2 := xC201) (as := [(2, 43), vi 1, vi 254]) (s := []) rfl rfl rfl rfl rfl rfl rfl (sp201 (n0 := 1) (v := 254) hI27 ⟨by omega, by omega⟩ ⟨by omega, by omega⟩   (by omega)) (fun r34 S35 hq36 => ?_)
  obtain ⟨rfl, h37, h38, h39, hI40, hF41, hR42⟩ := hq36
  have hF43 := hF30.trans hF41 rfl rfl
  have hR44 := hR31.trans hR42 rfl
  refine Or.inl ⟨rfl, ?_⟩
  refine r_load (i := 17) (u := 0) (w := 2) rfl rfl rfl ?_
  refine r_const (i := 18) (u := 1) (z := 1) rfl rfl ?_
  refine r_const (i := 19) (u := 186) (z := 186) rfl rfl ?_
  have h45 := hI40.f tf43_56
  have h46 := hI40.f tf43_57
  refine r_call (i := 20) (u := 11) (v := 201) (w := 0) (b := 0) (na := 1283) (C2 := xC201) (as := [(2, 43), vi 1, vi 186]) (s := []) rfl rfl rfl rfl rfl rfl rfl (sp201 (n0 := 1) (v := 186) hI40 ⟨by omega, by omega⟩ ⟨by omega, by omega⟩   (by omega)) (fun r47 S48 hq49 => ?_)
  obtain ⟨rfl, h50, h51, h52, hI53, hF54, hR55⟩ := hq49
  have hF56 := hF43.trans hF54 rfl rfl
  have hR57 := hR44.trans hR55 rfl
  refine Or.inl ⟨rfl, ?_⟩
  refine r_load (i := 21) (u := 0) (w := 2) rfl rfl rfl ?_
  refine r_const (i := 22) (u := 1) (z := 1) rfl rfl ?_
  refine r_const (i := 23) (u := 190) (z := 190) rfl rfl ?_
  have h58 := hI53.f tf43_56
  have h59 := hI53.f tf43_57
  refine r_call (i := 24) (u := 11) (v := 201) (w := 0) (b := 0) (na := 1283) (C2 := xC201) (as := [(2, 43), vi 1, vi 190]) (s := []) rfl rfl rfl rfl rfl rfl rfl (sp201 (n0 := 1) (v := 190) hI53 ⟨by omega, by omega⟩ ⟨by omega, by omega⟩   (by omega)) (fun r60 S61 hq62 => ?_)
  obtain ⟨rfl, h63, h64, h65, hI66, hF67, hR68⟩ := hq62
  have hF69 := hF56.trans hF67 rfl rfl
  have hR70 := hR57.trans hR68 rfl
  refine Or.inl ⟨rfl, ?_⟩
  refine r_load (i := 25) (u := 0) (w := 2) rfl rfl rfl ?_
  refine r_const (i := 26) (u := 2) (z := 2) rfl rfl ?_
  refine r_const (i := 27) (u := 0) (z := 0) rfl rfl ?_
  have h71 := hI66.f tf43_56
  have h72 := hI66.f tf43_57
  refine r_call (i := 28) (u := 11) (v := 201) (w := 0) (b := 0) (na := 1283) (C2 := xC201) (as := [(2, 43), vi 2, vi 0]) (s := []) rfl rfl rfl rfl rfl rfl rfl (sp201 (n0 := 2) (v := 0) hI66 ⟨by omega, by omega⟩ ⟨by omega, by omega⟩   (by omega)) (fun r73 S74 hq75 => ?_)
  obtain ⟨rfl, h76, h77, h78, hI79, hF80, hR81⟩ := hq75
  have hF82 := hF69.trans hF80 rfl rfl
  have hR83 := hR70.trans hR81 rfl
  refine Or.inl ⟨rfl, ?_⟩
  refine r_load (i := 29) (u := 0) (w := 2) rfl rfl rfl ?_
  refine r_const (i := 30) (u := 2) (z := 2) rfl rfl ?_
  refine r_const (i := 31) (u := 52) (z := 52) rfl rfl ?_
  have h84 := hI79.f tf43_56
  have h85 := hI79.f tf43_57
  refine r_call (i := 32) (u := 11) (v := 201) (w := 0) (b := 0) (na := 1283) (C2 := xC201) (as := [(2, 43), vi 2, vi 52]) (s := []) rfl rfl rfl rfl rfl rfl rfl (sp201 (n0 := 2) (v := 52) hI79 ⟨by omega, by omega⟩ ⟨by omega, by omega⟩   (by omega)) (fun r86 S87 hq88 => ?_)
  obtain ⟨rfl, h89, h90, h91, hI92, hF93, hR94⟩ := hq88
  have hF95 := hF82.trans hF93 rfl rfl
  have hR96 := hR83.trans hR94 rfl
  refine Or.inl ⟨rfl, ?_⟩
  refine r_load (i := 33) (u := 0) (w := 2) rfl rfl rfl ?_
  have h97 := hI92.f tf43_57
  refine r_call (i := 34) (u := 11) (v := 236) (w := 0) (b := 0) (na := 1793) (C2 := xC236) (as := [(2, 43)]) (s := []) rfl rfl rfl rfl rfl rfl rfl (sp236  hI92    (by omega)) (fun r98 S99 hq100 => ?_)
  obtain ⟨rfl, h101, hI102, hF103, hR104⟩ := hq100
  have hF105 := hF95.trans hF103 rfl rfl
  have hR106 := hR96.trans hR104 rfl
  refine Or.inl ⟨rfl, ?_⟩
  refine r_load (i := 35) (u := 0) (w := 2) rfl rfl rfl ?_
  refine r_const (i := 36) (u := 2) (z := 2) rfl rfl ?_
  refine r_const (i := 37) (u := 49) (z := 49) rfl rfl ?_
  have h107 := hI102.f tf43_56
  have h108 := hI102.f tf43_57
  refine r_call (i := 38) (u := 11) (v := 201) (w := 0) (b := 0) (na := 1283) (C2 := xC201) (as := [(2, 43), vi 2, vi 49]) (s := []) rfl rfl rfl rfl rfl rfl rfl (sp201 (n0 := 2) (v := 49) hI102 ⟨by omega, by omega⟩ ⟨by omega, by omega⟩   (by omega)) (fun r109 S110 hq111 => ?_)
  obtain ⟨rfl, h112, h113, h114, hI115, hF116, hR117⟩ := hq111
  have hF118 := hF105.trans hF116 rfl rfl
  have hR119 := hR106.trans hR117 rfl
  refine Or.inl ⟨rfl, ?_⟩
  refine r_load (i := 39) (u := 0) (w := 2) rfl rfl rfl ?_
  refine r_const (i := 40) (u := 7) (z := 7) rfl rfl ?_
  have h120 := hI115.f tf43_56
  have h121 := hI115.f tf43_57
  refine r_call (i := 41) (u := 11) (v := 200) (w := 0) (b := 0) (na := 1026) (C2 := xC200) (as := [(2, 43), vi 7]) (s := []) rfl rfl rfl rfl rfl rfl rfl (sp200 (k := 7) hI115 ⟨by omega, by omega⟩   (by omega)) (fun r122 S123 hq124 => ?_)
  obtain ⟨rfl, h125, h126, h127, hI128, hF129, hR130⟩ := hq124
  have hF131 := hF118.trans hF129 rfl rfl
  have hR132 := hR119.trans hR130 rfl
  refine Or.inl ⟨rfl, ?_⟩
  refine r_load (i := 42) (u := 0) (w := 2) rfl rfl rfl ?_
  refine r_const (i := 43) (u := 7) (z := 7) rfl rfl ?_
  have h133 := hI128.f tf43_56
  have h134 := hI128.f tf43_57
  refine r_call (i := 44) (u := 11) (v := 200) (w := 0) (b := 0) (na := 1026) (C2 := xC200) (as := [(2, 43), vi 7]) (s := []) rfl rfl rfl rfl rfl rfl rfl (sp200 (k := 7) hI128 ⟨by omega, by omega⟩   (by omega)) (fun r135 S136 hq137 => ?_)
  obtain ⟨rfl, h138, h139, h140, hI141, hF142, hR143⟩ := hq137
  have hF144 := hF131.trans hF142 rfl rfl
  have hR145 := hR132.trans hR143 rfl
  refine Or.inl ⟨rfl, ?_⟩
  refine r_load (i := 45) (u := 0) (w := 2) rfl rfl rfl ?_
  refine r_const (i := 46) (u := 2) (z := 2) rfl rfl ?_
  have h146 := hI141.f tf43_56
  have h147 := hI141.f tf43_57
  refine r_call (i := 47) (u := 11) (v := 223) (w := 0) (b := 0) (na := 1282) (C2 := xC223) (as := [(2, 43), vi 2]) (s := []) rfl rfl rfl rfl rfl rfl rfl (sp223 (n0 := 2) hI141 ⟨by omega, by omega⟩   (by omega)) (fun r148 S149 hq150 => ?_)
  obtain ⟨z151, rfl, h152, h153, h154, h155, h156, h157, h158, h159, hI160, hF161, hR162⟩ := hq150
  have hF163 := hF144.trans hF161 rfl rfl
  have hR164 := hR145.trans hR162 rfl
  refine Or.inr (Or.inl ⟨rfl, ?_⟩)
  refine r_l2i (i := 48) rfl ?_
  rw [vi_sg z151]
  have h165 := ysg_fact z151
  refine r_store (i := 49) (u := 1) (w := 0) (L1 := [some ((2, 43)), some (vi (ysg z151)), none, none]) rfl rfl rfl rfl ?_
  refine r_const (i := 50) (u := 0) (z := 0) rfl rfl ?_
  refine r_store (i := 51) (u := 2) (w := 0) (L1 := [some ((2, 43)), some (vi (ysg z151)), some (vi 0), none]) rfl rfl rfl rfl ?_
  exact lp235_52   hd _ S149 hI160 hF163 hR164 (ysg z151) 0 ⟨by omega, by omega⟩ ⟨by omega, by omega⟩  (Int.lt_succ_toNat _)
end XNC
