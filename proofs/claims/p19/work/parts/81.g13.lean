set_option linter.unusedVariables false
set_option maxRecDepth 4000
noncomputable section XNC
theorem lp194_47 {G : xk} {d : Nat} {S0 : yS} {t : Int} (h_t : 0 ≤ t ∧ t ≤ 19) {c : Int} (h_c : 0 ≤ c ∧ c ≤ 19) {gv : Int} (h_gv : 0 ≤ gv ∧ gv ≤ 1) (hd : 0 ≤ d) {m : Int} (h_m : 0 ≤ m ∧ m ≤ 59) (no : Nat) (K : ∀ (S : yS) (hI : yI S) (hF : yFr [(43, 31)] [66, 67] S0 S) (hR : yRm [] S0 S) (e_MC : MC S) (m : Int) (h_m : 0 ≤ m ∧ m ≤ 60) (q_0 : mo1 S0 S t c m) (q_1 : m ≤ S.f 43 10) (q_2 : gvQ S0 S t gv) (hn : 60 - m < (no : Nat)), yT xPr G LY xC194 2 [some ((2, 43)), some (vi t), some (vi c), some (vi gv), some (vi m), none, none] [] S d (fun r S' => r = (0, (0, 0)) ∧ moQ S0 S' t c ∧ gvQ S0 S' t gv ∧ MC S' ∧ yI S' ∧ yFr [(43, 31)] [66, 67] S0 S' ∧ yRm [] S0 S')) (hm : 60 - m < ((no + 1 : Nat) : Int)) : ∀ (n : Nat), ∀ (S : yS) (hI : yI S) (hF : yFr [(43, 31)] [66, 67] S0 S) (hR : yRm [] S0 S) (e_MC : MC S) (ps k : Int) (h_ps : 0 ≤ ps ∧ ps ≤ 1) (h_k : 0 ≤ k ∧ k ≤ 60) (q_0 : ps = 0 → MNC S k m) (q_1 : m < S.f 43 10) (q_2 : ps = 0 → S.a 53 m.toNat ≤ 9) (q_3 : mo1 S0 S t c m) (q_4 : mo2 S t c m ps k) (q_5 : gvQ S0 S t gv) (hn : 60 - k < (n : Nat)), yT xPr G LY xC194 47 [some ((2, 43)), some (vi t), some (vi c), some (vi gv), some (vi m), some (vi ps), some (vi k)] [] S d (fun r S' => r = (0, (0, 0)) ∧ moQ S0 S' t c ∧ gvQ S0 S' t gv ∧ MC S' ∧ yI S' ∧ yFr [(43, 31)] [66, 67] S0 S' ∧ yRm [] S0 S') := by
  intro n
  induction n with
  | zero => intro S hI hF hR e_MC ps k h_ps h_k q_0 q_1 q_2 q_3 q_4 q_5 hn; exact absurd hn (by omega)
  | succ n ih =>
    intro S hI hF hR e_MC ps k h_ps h_k q_0 q_1 q_2 q_3 q_4 q_5 hn
    have h1 := hI.f tf43_10
    have h2 : S.f 43 10 = S0.f 43 10 := hF.f rfl
    have h3 := hI.a ta53 m.toNat
    have h4 : S.a 53 m.toNat = S0.a 53 m.toNat := hF.a rfl _
    refine r_load (i := 47) (u := 6) (w := 0) rfl rfl rfl ?_
    refine r_load (i := 48) (u := 0) (w := 2) rfl rfl rfl ?_
    have h5 := hI.f tf43_31
    refine r_getf (i := 49) (v := 31) (w := 11) (x := vi (S.f 43 31)) rfl ly43 rfl rfl fun h6 => ?_
    have h6 : Rg (S.f 43 31) := h6
    refine c_ge (i := 50) (v := 95) rfl ⟨by omega, by omega⟩ ⟨by omega, by omega⟩ (fun h7 => ?_) (fun h8 => ?_)
    · refine r_load (i := 95) (u := 5) (w := 0) rfl rfl rfl ?_
      refine z_eq (i := 96) (v := 98) rfl ⟨by omega, by omega⟩ (fun h9 => ?_) (fun h10 => ?_)
      · have nc9 : MNC S (S.f 43 31) m := fun j hj => q_0 (by omega) j (by omega)
        have hcc := MC_room e_MC (hI.f tf43_31).1 nc9 (by omega) (by omega)
        have hc9 := hI.f tf43_10
        refine r_load (i := 98) (u := 0) (w := 2) rfl rfl rfl ?_
        refine r_getf (i := 99) (v := 29) (w := 11) (x := (2, 66)) rfl ly43 rfl rfl fun _ => ?_
        refine r_load (i := 100) (u := 0) (w := 2) rfl rfl rfl ?_
        refine r_getf (i := 101) (v := 31) (w := 11) (x := vi (S.f 43 31)) rfl ly43 rfl rfl fun h12 => ?_
        have h12 : Rg (S.f 43 31) := h12
        refine r_load (i := 102) (u := 4) (w := 0) rfl rfl rfl ?_
        refine s_int (i := 103) rfl ly66 rfl (by omega) (by omega) ⟨by omega, by omega⟩ ?_
        have hI14 := hI.seta (b := 66) (j := (S.f 43 31).toNat) (z := m) ta66 rfl (by omega) (by omega)
        have hF16 := hF.seta (b := 66) (j := (S.f 43 31).toNat) (z := m) rfl
        have hR17 := hR.seta (b := 66) (j := (S.f 43 31).toNat) (z := m)
        refine yT_gen (fun S13 hS15 => ?_)
        rw [hS15] at hI14 hF16 hR17 
        refine r_load (i := 104) (u := 0) (w := 2) rfl rfl rfl ?_
        refine r_getf (i := 105) (v := 30) (w := 11) (x := (2, 67)) rfl ly43 rfl rfl fun _ => ?_
        refine r_load (i := 106) (u := 0) (w := 2) rfl rfl rfl ?_
        have h19 := hI14.f tf43_31
        have h20 : S13.f 43 31 = S.f 43 31 := by rw [← hS15]; rfl
        refine r_getf (i := 107) (v := 31) (w := 11) (x := vi (S13.f 43 31)) rfl ly43 rfl rfl fun h21 => ?_
        have h21 : Rg (S13.f 43 31) := h21
        refine r_load (i := 108) (u := 3) (w := 0) rfl rfl rfl ?_
        refine s_bool (i := 109) rfl ly67 rfl (by omega) (by omega) (by omega) (by omega) ?_
        have hI23 := hI14.seta0 (b := 67) (j := (S13.f 43 31).toNat) (z := gv) rfl rfl
        have hF25 := hF16.seta (b := 67) (j := (S13.f 43 31).toNat) (z := gv) rfl
        have hR26 := hR17.seta (b := 67) (j := (S13.f 43 31).toNat) (z := gv)
        refine yT_gen (fun S22 hS24 => ?_)
        rw [hS24] at hI23 hF25 hR26 
        refine r_load (i := 110) (u := 0) (w := 2) rfl rfl rfl ?_
        refine r_dup (i := 111) rfl rfl ?_
        have h27 := hI23.f tf43_31
        have h28 : S22.f 43 31 = S13.f 43 31 := by rw [← hS24]; rfl
        have h29 : S13.f 43 31 = S.f 43 31 := by rw [← hS15]; rfl
        refine r_getf (i := 112) (v := 31) (w := 11) (x := vi (S22.f 43 31)) rfl ly43 rfl rfl fun h30 => ?_
        have h30 : Rg (S22.f 43 31) := h30
        refine r_const (i := 113) (u := 1) (z := 1) rfl rfl ?_
        refine r_iadd (i := 114) rfl ?_
        refine r_putI (i := 115) (v := 31) (w := 11) rfl ly43 rfl ⟨by omega, by omega⟩ ?_
        have hI32 := hI23.setf (b := 43) (w := 31) (z := (S22.f 43 31) + 1) tf43_31 rfl (by omega) (by omega)
        have hF34 := hF25.setf (b := 43) (w := 31) (z := (S22.f 43 31) + 1) rfl
        have hR35 := hR26.setf (b := 43) (w := 31) (z := (S22.f 43 31) + 1)
        refine yT_gen (fun S31 hS33 => ?_)
        rw [hS33] at hI32 hF34 hR35 
        refine r_iinc (i := 116) (u := 1) (v := 4) (s := 1) (L1 := [some ((2, 43)), some (vi t), some (vi c), some (vi gv), some (vi (m + 1)), some (vi ps), some (vi k)]) rfl rfl rfl rfl rfl ?_
        refine r_goto (i := 117) (v := 2) rfl ?_
        refine yT_drop (L1 := [some ((2, 43)), some (vi t), some (vi c), some (vi gv), some (vi (m + 1)), none, none]) rfl ?_
        have h36 := hI32.f tf43_10
        have h37 : S31.f 43 10 = S22.f 43 10 := by rw [← hS33]; exact ysf_ne (by decide)
        have h38 : S22.f 43 10 = S13.f 43 10 := by rw [← hS24]; rfl
        have h39 : S13.f 43 10 = S.f 43 10 := by rw [← hS15]; rfl
        have h40 : S.f 43 10 = S0.f 43 10 := hF.f rfl
        exact K S31 hI32 hF34 hR35 (by exact MC_push e_MC (hI.f tf43_31).1 nc9 (by omega) (by omega) (by omega) (by subst_vars; rfl) (by subst_vars; rfl) (fun j => by subst_vars; rfl) (fun j => by subst_vars; rfl)) (m + 1) ⟨by omega, by omega⟩ (by exact mo1_y q_3 (sMo_fr hF rfl rfl) (by have w9 := q_4; rw [show ps = 0 by omega] at w9; exact w9) (by omega) (by omega) (hI.f tf43_31).1 (by subst hS15 hS24 hS33; rfl) (fun j => by subst hS15 hS24 hS33; rfl)) (by omega) (by exact gvQ_y q_5 (hI.f tf43_31).1 (by have w9 := (q_4.1 (by omega)).1; have w8 := w9.1; rw [show S.a 52 m.toNat = S0.a 52 m.toNat from hF.a rfl _] at w8; exact w8) (by subst hS15 hS24 hS33; rfl) (fun j => by subst hS15 hS24 hS33; rfl) (fun j => by subst hS15 hS24 hS33; rfl)) (by omega)
      · refine r_goto (i := 97) (v := 116) rfl ?_
        refine r_iinc (i := 116) (u := 1) (v := 4) (s := 1) (L1 := [some ((2, 43)), some (vi t), some (vi c), some (vi gv), some (vi (m + 1)), some (vi ps), some (vi k)]) rfl rfl rfl rfl rfl ?_
        refine r_goto (i := 117) (v := 2) rfl ?_
        refine yT_drop (L1 := [some ((2, 43)), some (vi t), some (vi c), some (vi gv), some (vi (m + 1)), none, none]) rfl ?_
        exact K S hI hF hR e_MC (m + 1) ⟨by omega, by omega⟩ (by exact mo1_n q_3 (sMo_fr hF rfl rfl) q_4 (by omega) (by omega)) (by omega) (by exact q_5) (by omega)
    · refine r_load (i := 51) (u := 5) (w := 0) rfl rfl rfl ?_
      refine z_ne (i := 52) (v := 95) rfl ⟨by omega, by omega⟩ (fun h41 => ?_) (fun h42 => ?_)
      · refine r_load (i := 95) (u := 5) (w := 0) rfl rfl rfl ?_
        refine z_eq (i := 96) (v := 98) rfl ⟨by omega, by omega⟩ (fun h43 => ?_) (fun h44 => ?_)
        · have nc9 : MNC S (S.f 43 31) m := fun j hj => q_0 (by omega) j (by omega)
          have hcc := MC_room e_MC (hI.f tf43_31).1 nc9 (by omega) (by omega)
          have hc9 := hI.f tf43_10
          refine r_load (i := 98) (u := 0) (w := 2) rfl rfl rfl ?_
          refine r_getf (i := 99) (v := 29) (w := 11) (x := (2, 66)) rfl ly43 rfl rfl fun _ => ?_
          refine r_load (i := 100) (u := 0) (w := 2) rfl rfl rfl ?_
          refine r_getf (i := 101) (v := 31) (w := 11) (x := vi (S.f 43 31)) rfl ly43 rfl rfl fun h46 => ?_
          have h46 : Rg (S.f 43 31) := h46
          refine r_load (i := 102) (u := 4) (w := 0) rfl rfl rfl ?_
          refine s_int (i := 103) rfl ly66 rfl (by omega) (by omega) ⟨by omega, by omega⟩ ?_
          have hI48 := hI.seta (b := 66) (j := (S.f 43 31).toNat) (z := m) ta66 rfl (by omega) (by omega)
          have hF50 := hF.seta (b := 66) (j := (S.f 43 31).toNat) (z := m) rfl
          have hR51 := hR.seta (b := 66) (j := (S.f 43 31).toNat) (z := m)
          refine yT_gen (fun S47 hS49 => ?_)
          rw [hS49] at hI48 hF50 hR51 
          refine r_load (i := 104) (u := 0) (w := 2) rfl rfl rfl ?_
          refine r_getf (i := 105) (v := 30) (w := 11) (x := (2, 67)) rfl ly43 rfl rfl fun _ => ?_
          refine r_load (i := 106) (u := 0) (w := 2) rfl rfl rfl ?_
          have h53 := hI48.f tf43_31
          have h54 : S47.f 43 31 = S.f 43 31 := by rw [← hS49]; rfl
          refine r_getf (i := 107) (v := 31) (w := 11) (x := vi (S47.f 43 31)) rfl ly43 rfl rfl fun h55 => ?_
          have h55 : Rg (S47.f 43 31) := h55
          refine r_load (i := 108) (u := 3) (w := 0) rfl rfl rfl ?_
          refine s_bool (i := 109) rfl ly67 rfl (by omega) (by omega) (by omega) (by omega) ?_
          have hI57 := hI48.seta0 (b := 67) (j := (S47.f 43 31).toNat) (z := gv) rfl rfl
          have hF59 := hF50.seta (b := 67) (j := (S47.f 43 31).toNat) (z := gv) rfl
          have hR60 := hR51.seta (b := 67) (j := (S47.f 43 31).toNat) (z := gv)
          refine yT_gen (fun S56 hS58 => ?_)
          rw [hS58] at hI57 hF59 hR60 
          refine r_load (i := 110) (u := 0) (w := 2) rfl rfl rfl ?_
          refine r_dup (i := 111) rfl rfl ?_
          have h61 := hI57.f tf43_31
          have h62 : S56.f 43 31 = S47.f 43 31 := by rw [← hS58]; rfl
          have h63 : S47.f 43 31 = S.f 43 31 := by rw [← hS49]; rfl
          refine r_getf (i := 112) (v := 31) (w := 11) (x := vi (S56.f 43 31)) rfl ly43 rfl rfl fun h64 => ?_
          have h64 : Rg (S56.f 43 31) := h64
          refine r_const (i := 113) (u := 1) (z := 1) rfl rfl ?_
          refine r_iadd (i := 114) rfl ?_
          refine r_putI (i := 115) (v := 31) (w := 11) rfl ly43 rfl ⟨by omega, by omega⟩ ?_
          have hI66 := hI57.setf (b := 43) (w := 31) (z := (S56.f 43 31) + 1) tf43_31 rfl (by omega) (by omega)
          have hF68 := hF59.setf (b := 43) (w := 31) (z := (S56.f 43 31) + 1) rfl
          have hR69 := hR60.setf (b := 43) (w := 31) (z := (S56.f 43 31) + 1)
          refine yT_gen (fun S65 hS67 => ?_)
          rw [hS67] at hI66 hF68 hR69 
          refine r_iinc (i := 116) (u := 1) (v := 4) (s := 1) (L1 := [some ((2, 43)), some (vi t), some (vi c), some (vi gv), some (vi (m + 1)), some (vi ps), some (vi k)]) rfl rfl rfl rfl rfl ?_
          refine r_goto (i := 117) (v := 2) rfl ?_
          refine yT_drop (L1 := [some ((2, 43)), some (vi t), some (vi c), some (vi gv), some (vi (m + 1)), none, none]) rfl ?_
          have h70 := hI66.f tf43_10
          have h71 : S65.f 43 10 = S56.f 43 10 := by rw [← hS67]; exact ysf_ne (by decide)
          have h72 : S56.f 43 10 = S47.f 43 10 := by rw [← hS58]; rfl
          have h73 : S47.f 43 10 = S.f 43 10 := by rw [← hS49]; rfl
          have h74 : S.f 43 10 = S0.f 43 10 := hF.f rfl
          exact K S65 hI66 hF68 hR69 (by exact MC_push e_MC (hI.f tf43_31).1 nc9 (by omega) (by omega) (by omega) (by subst_vars; rfl) (by subst_vars; rfl) (fun j => by subst_vars; rfl) (fun j => by subst_vars; rfl)) (m + 1) ⟨by omega, by omega⟩ (by exact mo1_y q_3 (sMo_fr hF rfl rfl) (by have w9 := q_4; rw [show ps = 0 by omega] at w9; exact w9) (by omega) (by omega) (hI.f tf43_31).1 (by subst hS49 hS58 hS67; rfl) (fun j => by subst hS49 hS58 hS67; rfl)) (by omega) (by exact gvQ_y q_5 (hI.f tf43_31).1 (by have w9 := (q_4.1 (by omega)).1; have w8 := w9.1; rw [show S.a 52 m.toNat = S0.a 52 m.toNat from hF.a rfl _] at w8; exact w8) (by subst hS49 hS58 hS67; rfl) (fun j => by subst hS49 hS58 hS67; rfl) (fun j => by subst hS49 hS58 hS67; rfl)) (by omega)
        · refine r_goto (i := 97) (v := 116) rfl ?_
          refine r_iinc (i := 116) (u := 1) (v := 4) (s := 1) (L1 := [some ((2, 43)), some (vi t), some (vi c), some (vi gv), some (vi (m + 1)), some (vi ps), some (vi k)]) rfl rfl rfl rfl rfl ?_
          refine r_goto (i := 117) (v := 2) rfl ?_
          refine yT_drop (L1 := [some ((2, 43)), some (vi t), some (vi c), some (vi gv), some (vi (m + 1)), none, none]) rfl ?_
          exact K S hI hF hR e_MC (m + 1) ⟨by omega, by omega⟩ (by exact mo1_n q_3 (sMo_fr hF rfl rfl) q_4 (by omega) (by omega)) (by omega) (by exact q_5) (by omega)
      · refine r_load (i := 53) (u := 0) (w := 2) rfl rfl rfl ?_
        refine r_getf (i := 54) (v := 12) (w := 11) (x := (2, 53)) rfl ly43 rfl rfl fun _ => ?_
        refine r_load (i := 55) (u := 0) (w := 2) rfl rfl rfl ?_
        refine r_getf (i := 56) (v := 29) (w := 11) (x := (2, 66)) rfl ly43 rfl rfl fun _ => ?_
        refine r_load (i := 57) (u := 6) (w := 0) rfl rfl rfl ?_
        refine a_int (i := 58) rfl ly66 rfl (by omega) (by omega) fun h77 => ?_
        have h78 := hI.a ta66 k.toNat
        refine a_int (i := 59) rfl ly53 rfl (by omega) (by omega) fun h79 => ?_
        have h80 := hI.a ta53 (S.a 66 k.toNat).toNat
        have h81 : S.a 53 (S.a 66 k.toNat).toNat = S0.a 53 (S.a 66 k.toNat).toNat := hF.a rfl _
        refine r_load (i := 60) (u := 0) (w := 2) rfl rfl rfl ?_
        refine r_getf (i := 61) (v := 12) (w := 11) (x := (2, 53)) rfl ly43 rfl rfl fun _ => ?_
        refine r_load (i := 62) (u := 4) (w := 0) rfl rfl rfl ?_
        refine a_int (i := 63) rfl ly53 rfl (by omega) (by omega) fun h83 => ?_
        have h84 := hI.a ta53 m.toNat
        refine c_ne (i := 64) (v := 91) rfl ⟨by omega, by omega⟩ ⟨by omega, by omega⟩ (fun h85 => ?_) (fun h86 => ?_)
        · refine r_const (i := 91) (u := 0) (z := 0) rfl rfl ?_
          refine r_store (i := 92) (u := 5) (w := 0) (L1 := [some ((2, 43)), some (vi t), some (vi c), some (vi gv), some (vi m), some (vi 0), some (vi k)]) rfl rfl rfl rfl ?_
          refine r_iinc (i := 93) (u := 1) (v := 6) (s := 1) (L1 := [some ((2, 43)), some (vi t), some (vi c), some (vi gv), some (vi m), some (vi 0), some (vi (k + 1))]) rfl rfl rfl rfl rfl ?_
          refine r_goto (i := 94) (v := 47) rfl ?_
          have h87 := hI.a ta53 m.toNat
          exact ih S hI hF hR e_MC 0 (k + 1) ⟨by omega, by omega⟩ ⟨by omega, by omega⟩ (by first | exact fun _ => MNC_0 | (intro hz; first | exact absurd hz (by omega) | exact MNC_push (q_0 (by omega)) (by omega) (fun he => by grind))) (by omega) (by omega) (by exact q_3) (by first | exact mo2_n (by have w9 := q_4; rw [show ps = 0 by omega] at w9; exact w9) (by omega) (by omega) | exact mo2_y (by omega) (by omega) (by decide) (by omega) (by omega) (by omega)) (by exact q_5) (by omega)
        · refine r_load (i := 65) (u := 0) (w := 2) rfl rfl rfl ?_
          refine r_getf (i := 66) (v := 14) (w := 11) (x := (2, 55)) rfl ly43 rfl rfl fun _ => ?_
          refine r_load (i := 67) (u := 0) (w := 2) rfl rfl rfl ?_
          refine r_getf (i := 68) (v := 29) (w := 11) (x := (2, 66)) rfl ly43 rfl rfl fun _ => ?_
          refine r_load (i := 69) (u := 6) (w := 0) rfl rfl rfl ?_
          refine a_int (i := 70) rfl ly66 rfl (by omega) (by omega) fun h90 => ?_
          have h91 := hI.a ta66 k.toNat
          refine a_int (i := 71) rfl ly55 rfl (by omega) (by omega) fun h92 => ?_
          have h93 := hI.a ta55 (S.a 66 k.toNat).toNat
          have kp94 := hI.k55 (S.a 66 k.toNat).toNat
          have h95 : S.a 55 (S.a 66 k.toNat).toNat = S0.a 55 (S.a 66 k.toNat).toNat := hF.a rfl _
          refine r_load (i := 72) (u := 0) (w := 2) rfl rfl rfl ?_
          refine r_getf (i := 73) (v := 14) (w := 11) (x := (2, 55)) rfl ly43 rfl rfl fun _ => ?_
          refine r_load (i := 74) (u := 4) (w := 0) rfl rfl rfl ?_
          refine a_int (i := 75) rfl ly55 rfl (by omega) (by omega) fun h97 => ?_
          have h98 := hI.a ta55 m.toNat
          have kp99 := hI.k55 m.toNat
          have h100 : S.a 55 m.toNat = S0.a 55 m.toNat := hF.a rfl _
          refine c_ne (i := 76) (v := 91) rfl ⟨by omega, by omega⟩ ⟨by omega, by omega⟩ (fun h101 => ?_) (fun h102 => ?_)
          · refine r_const (i := 91) (u := 0) (z := 0) rfl rfl ?_
            refine r_store (i := 92) (u := 5) (w := 0) (L1 := [some ((2, 43)), some (vi t), some (vi c), some (vi gv), some (vi m), some (vi 0), some (vi k)]) rfl rfl rfl rfl ?_
            refine r_iinc (i := 93) (u := 1) (v := 6) (s := 1) (L1 := [some ((2, 43)), some (vi t), some (vi c), some (vi gv), some (vi m), some (vi 0), some (vi (k + 1))]) rfl rfl rfl rfl rfl ?_
            refine r_goto (i := 94) (v := 47) rfl ?_
            have h103 := hI.a ta53 m.toNat
            exact ih S hI hF hR e_MC 0 (k + 1) ⟨by omega, by omega⟩ ⟨by omega, by omega⟩ (by first | exact fun _ => MNC_0 | (intro hz; first | exact absurd hz (by omega) | exact MNC_push (q_0 (by omega)) (by omega) (fun he => by grind))) (by omega) (by omega) (by exact q_3) (by first | exact mo2_n (by have w9 := q_4; rw [show ps = 0 by omega] at w9; exact w9) (by omega) (by omega) | exact mo2_y (by omega) (by omega) (by decide) (by omega) (by omega) (by omega)) (by exact q_5) (by omega)
          · refine r_load (i := 77) (u := 0) (w := 2) rfl rfl rfl ?_
            refine r_getf (i := 78) (v := 15) (w := 11) (x := (2, 56)) rfl ly43 rfl rfl fun _ => ?_
            refine r_load (i := 79) (u := 0) (w := 2) rfl rfl rfl ?_
            refine r_getf (i := 80) (v := 29) (w := 11) (x := (2, 66)) rfl ly43 rfl rfl fun _ => ?_
            refine r_load (i := 81) (u := 6) (w := 0) rfl rfl rfl ?_
            refine a_int (i := 82) rfl ly66 rfl (by omega) (by omega) fun h106 => ?_
            have h107 := hI.a ta66 k.toNat
            refine a_int (i := 83) rfl ly56 rfl (by omega) (by omega) fun h108 => ?_
            have h109 := hI.a ta56 (S.a 66 k.toNat).toNat
            have h110 : S.a 56 (S.a 66 k.toNat).toNat = S0.a 56 (S.a 66 k.toNat).toNat := hF.a rfl _
            refine r_load (i := 84) (u := 0) (w := 2) rfl rfl rfl ?_
            refine r_getf (i := 85) (v := 15) (w := 11) (x := (2, 56)) rfl ly43 rfl rfl fun _ => ?_
            refine r_load (i := 86) (u := 4) (w := 0) rfl rfl rfl ?_
            refine a_int (i := 87) rfl ly56 rfl (by omega) (by omega) fun h112 => ?_
            have h113 := hI.a ta56 m.toNat
            have h114 : S.a 56 m.toNat = S0.a 56 m.toNat := hF.a rfl _
            refine c_ne (i := 88) (v := 91) rfl ⟨by omega, by omega⟩ ⟨by omega, by omega⟩ (fun h115 => ?_) (fun h116 => ?_)
            · refine r_const (i := 91) (u := 0) (z := 0) rfl rfl ?_
              refine r_store (i := 92) (u := 5) (w := 0) (L1 := [some ((2, 43)), some (vi t), some (vi c), some (vi gv), some (vi m), some (vi 0), some (vi k)]) rfl rfl rfl rfl ?_
              refine r_iinc (i := 93) (u := 1) (v := 6) (s := 1) (L1 := [some ((2, 43)), some (vi t), some (vi c), some (vi gv), some (vi m), some (vi 0), some (vi (k + 1))]) rfl rfl rfl rfl rfl ?_
              refine r_goto (i := 94) (v := 47) rfl ?_
              have h117 := hI.a ta53 m.toNat
              exact ih S hI hF hR e_MC 0 (k + 1) ⟨by omega, by omega⟩ ⟨by omega, by omega⟩ (by first | exact fun _ => MNC_0 | (intro hz; first | exact absurd hz (by omega) | exact MNC_push (q_0 (by omega)) (by omega) (fun he => by grind))) (by omega) (by omega) (by exact q_3) (by first | exact mo2_n (by have w9 := q_4; rw [show ps = 0 by omega] at w9; exact w9) (by omega) (by omega) | exact mo2_y (by omega) (by omega) (by decide) (by omega) (by omega) (by omega)) (by exact q_5) (by omega)
            · refine r_const (i := 89) (u := 1) (z := 1) rfl rfl ?_
              refine r_goto (i := 90) (v := 92) rfl ?_
              refine r_store (i := 92) (u := 5) (w := 0) (L1 := [some ((2, 43)), some (vi t), some (vi c), some (vi gv), some (vi m), some (vi 1), some (vi k)]) rfl rfl rfl rfl ?_
              refine r_iinc (i := 93) (u := 1) (v := 6) (s := 1) (L1 := [some ((2, 43)), some (vi t), some (vi c), some (vi gv), some (vi m), some (vi 1), some (vi (k + 1))]) rfl rfl rfl rfl rfl ?_
              refine r_goto (i := 94) (v := 47) rfl ?_
              have h118 := hI.a ta53 m.toNat
              exact ih S hI hF hR e_MC 1 (k + 1) ⟨by omega, by omega⟩ ⟨by omega, by omega⟩ (by first | exact fun _ => MNC_0 | (intro hz; first | exact absurd hz (by omega) | exact MNC_push (q_0 (by omega)) (by omega) (fun he => by grind))) (by omega) (by omega) (by exact q_3) (by first | exact mo2_n (by have w9 := q_4; rw [show ps = 0 by omega] at w9; exact w9) (by omega) (by omega) | exact mo2_y (by omega) (by omega) (by decide) (by omega) (by omega) (by omega)) (by exact q_5) (by omega)
theorem lp194_44 {G : xk} {d : Nat} {S0 : yS} {t : Int} (h_t : 0 ≤ t ∧ t ≤ 19) {c : Int} (h_c : 0 ≤ c ∧ c ≤ 19) {gv : Int} (h_gv : 0 ≤ gv ∧ gv ≤ 1) (hd : 0 ≤ d) {m : Int} (h_m : 0 ≤ m ∧ m ≤ 59) (no : Nat) (K : ∀ (S : yS) (hI : yI S) (hF : yFr [(43, 31)] [66, 67] S0 S) (hR : yRm [] S0 S) (e_MC : MC S) (m : Int) (h_m : 0 ≤ m ∧ m ≤ 60) (q_0 : mo1 S0 S t c m) (q_1 : m ≤ S.f 43 10) (q_2 : gvQ S0 S t gv) (hn : 60 - m < (no : Nat)), yT xPr G LY xC194 2 [some ((2, 43)), some (vi t), some (vi c), some (vi gv), some (vi m), none, none] [] S d (fun r S' => r = (0, (0, 0)) ∧ moQ S0 S' t c ∧ gvQ S0 S' t gv ∧ MC S' ∧ yI S' ∧ yFr [(43, 31)] [66, 67] S0 S' ∧ yRm [] S0 S')) (hm : 60 - m < ((no + 1 : Nat) : Int)) : ∀ (S : yS) (hI : yI S) (hF : yFr [(43, 31)] [66, 67] S0 S) (hR : yRm [] S0 S) (e_MC : MC S) (g0 : Int) (h_g0 : 0 ≤ g0 ∧ g0 ≤ 1) (q_0 : m < S.f 43 10) (q_1 : g0 = 0 → S.a 53 m.toNat ≤ 9) (q_2 : mo1 S0 S t c m) (q_3 : (g0 = 0 → inM S t c m) ∧ (g0 ≠ 0 → ¬ inM S t c m)) (q_4 : gvQ S0 S t gv), yT xPr G LY xC194 44 [some ((2, 43)), some (vi t), some (vi c), some (vi gv), some (vi m), none, none] [vi g0] S d (fun r S' => r = (0, (0, 0)) ∧ moQ S0 S' t c ∧ gvQ S0 S' t gv ∧ MC S' ∧ yI S' ∧ yFr [(43, 31)] [66, 67] S0 S' ∧ yRm [] S0 S') := by
  intro S hI hF hR e_MC g0 h_g0 q_0 q_1 q_2 q_3 q_4
  have h1 := hI.f tf43_10
  have h2 : S.f 43 10 = S0.f 43 10 := hF.f rfl
  have h3 := hI.a ta53 m.toNat
  have h4 : S.a 53 m.toNat = S0.a 53 m.toNat := hF.a rfl _
  refine r_store (i := 44) (u := 5) (w := 0) (L1 := [some ((2, 43)), some (vi t), some (vi c), some (vi gv), some (vi m), some (vi g0), none]) rfl rfl rfl rfl ?_
  refine r_const (i := 45) (u := 0) (z := 0) rfl rfl ?_
  refine r_store (i := 46) (u := 6) (w := 0) (L1 := [some ((2, 43)), some (vi t), some (vi c), some (vi gv), some (vi m), some (vi g0), some (vi 0)]) rfl rfl rfl rfl ?_
  have h5 := hI.a ta53 m.toNat
  exact lp194_47 h_t h_c h_gv  hd (m := m) ⟨by omega, by omega⟩ no K (by omega) _ S hI hF hR e_MC g0 0 ⟨by omega, by omega⟩ ⟨by omega, by omega⟩ (by first | exact fun _ => MNC_0 | (intro hz; first | exact absurd hz (by omega) | exact MNC_push (q_0 (by omega)) (by omega) (fun he => by grind))) (by omega) (by omega) (by exact q_2) (by exact mo2_0 q_3.1 q_3.2) (by exact q_4) (Int.lt_succ_toNat _)
theorem lp194_2 {G : xk} {d : Nat} {S0 : yS} {t : Int} (h_t : 0 ≤ t ∧ t ≤ 19) {c : Int} (h_c : 0 ≤ c ∧ c ≤ 19) {gv : Int} (h_gv : 0 ≤ gv ∧ gv ≤ 1) (hd : 0 ≤ d) : ∀ (n : Nat), ∀ (S : yS) (hI : yI S) (hF : yFr [(43, 31)] [66, 67] S0 S) (hR : yRm [] S0 S) (e_MC : MC S) (m : Int) (h_m : 0 ≤ m ∧ m ≤ 60) (q_0 : mo1 S0 S t c m) (q_1 : m ≤ S.f 43 10) (q_2 : gvQ S0 S t gv) (hn : 60 - m < (n : Nat)), yT xPr G LY xC194 2 [some ((2, 43)), some (vi t), some (vi c), some (vi gv), some (vi m), none, none] [] S d (fun r S' => r = (0, (0, 0)) ∧ moQ S0 S' t c ∧ gvQ S0 S' t gv ∧ MC S' ∧ yI S' ∧ yFr [(43, 31)] [66, 67] S0 S' ∧ yRm [] S0 S') := by
  intro n
  induction n with
  | zero => intro S hI hF hR e_MC m h_m q_0 q_1 q_2 hn; exact absurd hn (by omega)
  | succ n ih =>
    intro S hI hF hR e_MC m h_m q_0 q_1 q_2 hn
    have h1 := hI.f tf43_10
    have h2 : S.f 43 10 = S0.f 43 10 := hF.f rfl
    refine r_load (i := 2) (u := 4) (w := 0) rfl rfl rfl ?_
    refine r_load (i := 3) (u := 0) (w := 2) rfl rfl rfl ?_
    refine r_getf (i := 4) (v := 10) (w := 11) (x := vi (S.f 43 10)) rfl ly43 rfl rfl fun h3 => ?_
    have h3 : Rg (S.f 43 10) := h3
    refine c_ge (i := 5) (v := 118) rfl ⟨by omega, by omega⟩ ⟨by omega, by omega⟩ (fun h4 => ?_) (fun h5 => ?_)
    · exact r_ret0 (i := 118) rfl ⟨rfl, (by exact mo_end q_0 (by omega)), (by exact q_2), e_MC, hI, hF, hR⟩
    · refine r_load (i := 6) (u := 0) (w := 2) rfl rfl rfl ?_
      refine r_getf (i := 7) (v := 11) (w := 11) (x := (2, 52)) rfl ly43 rfl rfl fun _ => ?_
      refine r_load (i := 8) (u := 4) (w := 0) rfl rfl rfl ?_
      refine a_int (i := 9) rfl ly52 rfl (by omega) (by omega) fun h7 => ?_
      have h8 := hI.a ta52 m.toNat
      have h9 : S.a 52 m.toNat = S0.a 52 m.toNat := hF.a rfl _
      refine r_load (i := 10) (u := 1) (w := 0) rfl rfl rfl ?_
      refine c_ne (i := 11) (v := 41) rfl ⟨by omega, by omega⟩ ⟨by omega, by omega⟩ (fun h10 => ?_) (fun h11 => ?_)
      · refine r_const (i := 41) (u := 1) (z := 1) rfl rfl ?_
        refine r_goto (i := 42) (v := 44) rfl ?_
        have h12 := hI.a ta53 m.toNat
        have h13 : S.a 53 m.toNat = S0.a 53 m.toNat := hF.a rfl _
        exact lp194_44 h_t h_c h_gv  hd (m := m) ⟨by omega, by omega⟩ n ih (by omega) S hI hF hR e_MC 1 ⟨by omega, by omega⟩ (by omega) (by omega) (by exact q_0) (by unfold inM; omega) (by exact q_2) 
      · refine r_load (i := 12) (u := 0) (w := 2) rfl rfl rfl ?_
        refine r_getf (i := 13) (v := 12) (w := 11) (x := (2, 53)) rfl ly43 rfl rfl fun _ => ?_
        refine r_load (i := 14) (u := 4) (w := 0) rfl rfl rfl ?_
        refine a_int (i := 15) rfl ly53 rfl (by omega) (by omega) fun h15 => ?_
        have h16 := hI.a ta53 m.toNat
        have h17 : S.a 53 m.toNat = S0.a 53 m.toNat := hF.a rfl _
        refine r_const (i := 16) (u := 10) (z := 10) rfl rfl ?_
        refine c_eq (i := 17) (v := 41) rfl ⟨by omega, by omega⟩ ⟨by omega, by omega⟩ (fun h18 => ?_) (fun h19 => ?_)
        · refine r_const (i := 41) (u := 1) (z := 1) rfl rfl ?_
          refine r_goto (i := 42) (v := 44) rfl ?_
          have h20 := hI.a ta53 m.toNat
          exact lp194_44 h_t h_c h_gv  hd (m := m) ⟨by omega, by omega⟩ n ih (by omega) S hI hF hR e_MC 1 ⟨by omega, by omega⟩ (by omega) (by omega) (by exact q_0) (by unfold inM; omega) (by exact q_2) 
        · refine r_load (i := 18) (u := 0) (w := 2) rfl rfl rfl ?_
          refine r_getf (i := 19) (v := 13) (w := 11) (x := (2, 54)) rfl ly43 rfl rfl fun _ => ?_
          refine r_load (i := 20) (u := 4) (w := 0) rfl rfl rfl ?_
          refine a_int (i := 21) rfl ly54 rfl (by omega) (by omega) fun h22 => ?_
          have h23 := hI.a ta54 m.toNat
          have h24 : S.a 54 m.toNat = S0.a 54 m.toNat := hF.a rfl _
          refine r_const (i := 22) (u := 12) (z := 12) rfl rfl ?_
          refine r_iand (i := 23) rfl ?_
          have h25 := @yand_c (S.a 54 m.toNat) 12 (by decide) (by decide)
          refine z_gt (i := 24) (v := 41) rfl ⟨by omega, by omega⟩ (fun h26 => ?_) (fun h27 => ?_)
          · refine r_const (i := 41) (u := 1) (z := 1) rfl rfl ?_
            refine r_goto (i := 42) (v := 44) rfl ?_
            have h28 := hI.a ta53 m.toNat
            exact lp194_44 h_t h_c h_gv  hd (m := m) ⟨by omega, by omega⟩ n ih (by omega) S hI hF hR e_MC 1 ⟨by omega, by omega⟩ (by omega) (by omega) (by exact q_0) (by unfold inM; omega) (by exact q_2) 
          · refine r_load (i := 25) (u := 0) (w := 2) rfl rfl rfl ?_
            refine r_getf (i := 26) (v := 13) (w := 11) (x := (2, 54)) rfl ly43 rfl rfl fun _ => ?_
            refine r_load (i := 27) (u := 4) (w := 0) rfl rfl rfl ?_
            refine a_int (i := 28) rfl ly54 rfl (by omega) (by omega) fun h30 => ?_
            have h31 := hI.a ta54 m.toNat
            refine r_const (i := 29) (u := 7) (z := 7) rfl rfl ?_
            refine r_iand (i := 30) rfl ?_
            have h32 := @yand_c (S.a 54 m.toNat) 7 (by decide) (by decide)
            refine z_ne (i := 31) (v := 43) rfl ⟨by omega, by omega⟩ (fun h33 => ?_) (fun h34 => ?_)
            · refine r_const (i := 43) (u := 0) (z := 0) rfl rfl ?_
              have h35 := hI.a ta53 m.toNat
              exact lp194_44 h_t h_c h_gv  hd (m := m) ⟨by omega, by omega⟩ n ih (by omega) S hI hF hR e_MC 0 ⟨by omega, by omega⟩ (by omega) (by omega) (by exact q_0) (by unfold inM; omega) (by exact q_2) 
            · refine r_load (i := 32) (u := 0) (w := 2) rfl rfl rfl ?_
              refine r_getf (i := 33) (v := 6) (w := 11) (x := (2, 48)) rfl ly43 rfl rfl fun _ => ?_
              refine r_load (i := 34) (u := 1) (w := 0) rfl rfl rfl ?_
              refine a_int (i := 35) rfl ly48 rfl (by omega) (by omega) fun h37 => ?_
              have h38 := hI.a ta48 t.toNat
              have h39 : S.a 48 t.toNat = S0.a 48 t.toNat := hF.a rfl _
              refine r_load (i := 36) (u := 0) (w := 2) rfl rfl rfl ?_
              refine r_getf (i := 37) (v := 6) (w := 11) (x := (2, 48)) rfl ly43 rfl rfl fun _ => ?_
              refine r_load (i := 38) (u := 2) (w := 0) rfl rfl rfl ?_
              refine a_int (i := 39) rfl ly48 rfl (by omega) (by omega) fun h41 => ?_
              have h42 := hI.a ta48 c.toNat
              have h43 : S.a 48 c.toNat = S0.a 48 c.toNat := hF.a rfl _
              refine c_eq (i := 40) (v := 43) rfl ⟨by omega, by omega⟩ ⟨by omega, by omega⟩ (fun h44 => ?_) (fun h45 => ?_)
              · refine r_const (i := 43) (u := 0) (z := 0) rfl rfl ?_
                have h46 := hI.a ta53 m.toNat
                exact lp194_44 h_t h_c h_gv  hd (m := m) ⟨by omega, by omega⟩ n ih (by omega) S hI hF hR e_MC 0 ⟨by omega, by omega⟩ (by omega) (by omega) (by exact q_0) (by unfold inM; omega) (by exact q_2) 
              · refine r_const (i := 41) (u := 1) (z := 1) rfl rfl ?_
                refine r_goto (i := 42) (v := 44) rfl ?_
                have h47 := hI.a ta53 m.toNat
                exact lp194_44 h_t h_c h_gv  hd (m := m) ⟨by omega, by omega⟩ n ih (by omega) S hI hF hR e_MC 1 ⟨by omega, by omega⟩ (by omega) (by omega) (by exact q_0) (by unfold inM; omega) (by exact q_2) 
/-- ProxyForgeModel.collect -/
theorem sp194 {G : xk} {S : yS} {d : Nat} (hI : yI S) {t : Int} (h_t : 0 ≤ t ∧ t ≤ 19) {c : Int} (h_c : 0 ≤ c ∧ c ≤ 19) {gv : Int} (h_gv : 0 ≤ gv ∧ gv ≤ 1) (e_MC : MC S) (hd : 0 ≤ d) : yT xPr G LY xC194 0 [some ((2, 43)), some (vi t), some (vi c), some (vi gv)] [] S d (fun r S' => r = (0, (0, 0)) ∧ moQ S S' t c ∧ gvQ S S' t gv ∧ MC S' ∧ yI S' ∧ yFr [(43, 31)] [66, 67] S S' ∧ yRm [] S S') := by
  refine yT_pad 3 ?_
  show yT xPr G LY xC194 0 [some ((2, 43)), some (vi t), some (vi c), some (vi gv), none, none, none] [] S d _
  have hF : yFr [(43, 31)] [66, 67] S S := yFr.refl S
  have hR : yRm [] S S := yRm.refl S
  refine r_const (i := 0) (u := 0) (z := 0) rfl rfl ?_
  refine r_store (i := 1) (u := 4) (w := 0) (L1 := [some ((2, 43)), some (vi t), some (vi c), some (vi gv), some (vi 0), none, none]) rfl rfl rfl rfl ?_
  have h1 := hI.f tf43_10
  exact lp194_2 h_t h_c h_gv  hd _ S hI hF hR e_MC 0 ⟨by omega, by omega⟩ (by exact mo1_0) (by omega) (by exact gvQ_0) (Int.lt_succ_toNat _)
end XNC
